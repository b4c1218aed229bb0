/-! CATCHING: the search through a method's table of handlers, whose classes may be named for the first time -/
section XTF
variable {E : CtlPost} {e : Env} {d : Bool} {acts : List Action} {s : State} {f : JFrame} {a : Addr} {Q : Handler → Pre}
theorem xt_go {x : ExceptionTableEntry} {t : List ExceptionTableEntry} {cT : ClassId} (hx : covers x f.pc = true) (h0 : x.catchType ≠ 0) (hcl : s.vm.ClassLinks e.platform f.method.cls x.catchType cT) (hsz : (s.vm.noted f.method.cls x.catchType (.cls cT)).classes.size ≤ s.vm.classes.size) :
    wp (findHandler.go f a (x :: t)) Q E e d acts s ↔ wp (findHandler.go f a (x :: t)) Q E e d acts (s.setVm (s.vm.noted f.method.cls x.catchType (.cls cT))) := by
  obtain ⟨ha, ht⟩ := (resolveClass_links e.toSetting hcl).op (op := VmOp.resolveClass f.method.cls x.catchType) rfl
  obtain ⟨k, hkd, hres⟩ := hcl.ready
  simp only [covers] at hx
  have e2 : ∀ v : Vm, (s.setVm v).setVm v = s.setVm v := fun _ => rfl
  simp [findHandler.go, e2, hx, h0, ha, ht, hsz, resolveClass_memo (vm := s.vm.noted f.method.cls x.catchType (.cls cT)) e hkd hres, VmOp.dirties, VmOp.acts]
end XTF
/-- what the search gives, and the state behind it -/
def xt_Finds (e : Env) (s : State) (f : JFrame) (a : Addr) (h : Handler) (s1 : State) : Prop := ∀ (Q : Handler → Pre) (E : CtlPost) (d : Bool) (acts : List Action), wp (findHandler f a) Q E e d acts s ↔ Q h d acts s1
theorem xt_stepC {e : Env} {s s1 : State} {a : Addr} {f : JFrame} {r : List Frame} {pc : Nat} (hf : xt_Finds e s f a (.found pc) s1) : (stepThrowing e s a (.java f :: r)).Is (s1.setFrames (.java { f with pc := pc, stack := [.ref a] } :: r)) [] := by
  simp only [stepThrowing, searchFrame, vmDo]
  generalize hr : Sem.go _ e false [] s = res
  obtain ⟨as, rfl, ha⟩ := Sem.eq_ok_of hr (a := Handler.found pc) (s' := s1) (acts' := []) (by simp [hf _ _ _ _])
  exact ⟨rfl, ha⟩
section XTC
variable {p : Program} {l : Launch} {e : Env} {R : Room} {s : State} {m : MethodId} {args : Array Value} {below : List Frame} {meth : Method} {c : Code} {T : State} {locs : List Loc} {cells slots : Nat}
/-- into a handler of the walked method -/
theorem xt_into (X : Stand p l e R s m args below meth c T locs cells slots) (a : Addr) {g : JFrame} (hg : g.method = m) {pc : Nat} {v : Vm} (hf : xt_Finds e ((T.setTop g).pushFrame (.throwing a)) g a (.found pc) (((T.setTop g).pushFrame (.throwing a)).setVm v)) {target : State}
    (hrest : Steps p.tables e below ((T.setVm v).setTop { g with pc := pc, stack := [.ref a] }) target) : Steps p.tables e below ((T.setTop g).pushFrame (.throwing a)) target := by
  have h : At T g.method c below := by rw [hg]; exact X.here
  obtain ⟨hgo, hw⟩ := h.throwing a
  refine Steps.head hgo hw ?_
  rw [stepThread_throwing (frames_entered h.top _), (xt_stepC hf).1]
  obtain ⟨g₀, hr⟩ := X.frames_eq
  have hr2 : (T.setVm v).frames = .java g₀ :: below := hr
  rw [State.setTop_of_frames _ hr2] at hrest
  have e1 : ((((T.setTop g).pushFrame (.throwing a)).setVm v).setFrames (.java { g with pc := pc, stack := [.ref a] } :: T.frames.tail)) = (T.setVm v).setFrames (.java { g with pc := pc, stack := [.ref a] } :: below) := by
    rw [X.tail, State.pushFrame, State.setTop_of_frames _ hr]
    rw [State.setFrames_setFrames]
    show ((T.setFrames _).setFrames _).setVm v = _
    rw [State.setFrames_setFrames]
    rfl
  rw [e1]
  exact hrest
/-- one row of the table: taken, or passed -/
theorem xt_goX (hpl : e.platform.magicAccessors = ({} : Platform).magicAccessors) {own : String} (hown : s.vm.findClass own = some m.cls) {g : JFrame} (hg : g.method = m) {a : Addr} {x : ExceptionTableEntry} (t : List ExceptionTableEntry) (hx : covers x g.pc = true) (h0 : x.catchType ≠ 0) {C K : String} (hl : (Cond.classLink own x.catchType C).before args s = true) {cell : Cell} (hvm : cell.vm = .none) (hK : s.vm.findClass K = some cell.cls) {b : Bool} (hasg : ∀ cT, s.vm.findClass C = some cT → s.vm.assignable cell.cls cT = b) (U : State) (hW : s.WarmedH U.vm) (hcell : U.heap[a]? = some cell) :
    ∃ v, s.WarmedH v ∧ ∀ (Q : Handler → Pre) (E : CtlPost) (d : Bool) (acts : List Action), wp (findHandler.go g a (x :: t)) Q E e d acts U ↔ if b = true then Q (.found x.handlerPc) d acts (U.setVm v) else wp (findHandler.go g a t) Q E e d acts (U.setVm v) := by
  subst hg
  obtain ⟨cT, hcT, hcl⟩ := Cond.classLink_spec hown hl e.platform hpl
  obtain ⟨dk, _, _, kt, hd, _, _, _, _, hkt, _, hopen⟩ := hcl.here
  have hclU := hW.classLinks hcl
  have hW1 : s.WarmedH (U.vm.noted g.method.cls x.catchType (.cls cT)) := hW.noted hd hopen (State.rightAt_cls hcl)
  obtain ⟨kt1, hkt1, -⟩ := hW1.alike.2.2 _ _ hkt
  obtain ⟨kc, hkc, -⟩ := Vm.findClass_spec hK
  obtain ⟨kc1, hkc1, -⟩ := hW1.alike.2.2 _ _ hkc
  have hsz : (U.vm.noted g.method.cls x.catchType (.cls cT)).classes.size ≤ U.vm.classes.size := by no_record
  refine ⟨_, hW1, fun Q E d acts => ?_⟩
  rw [xt_go hx h0 hclU hsz, W.findHandler_go_class (s := U.setVm (U.vm.noted g.method.cls x.catchType (.cls cT))) hx h0 hclU.ready hcell (fun k h => by rw [hvm] at h; cases h) ⟨kc1, hkc1⟩ ⟨kt1, hkt1⟩]
  have : (U.setVm (U.vm.noted g.method.cls x.catchType (.cls cT))).vm.assignable cell.cls cT = b := by
    show (U.vm.noted g.method.cls x.catchType (.cls cT)).assignable cell.cls cT = b
    rw [hW1.alike.assignable]
    exact hasg cT hcT
  rw [this]
/-- the rows ahead are passed, then one takes it -/
theorem xt_findN (hpl : e.platform.magicAccessors = ({} : Platform).magicAccessors) {own : String} (hown : s.vm.findClass own = some m.cls) {g : JFrame} (hg : g.method = m) {a : Addr} {x : ExceptionTableEntry} (rest : List ExceptionTableEntry) (hx : covers x g.pc = true) (h0 : x.catchType ≠ 0) {C K : String} (hl : (Cond.classLink own x.catchType C).before args s = true) {cell : Cell} (hvm : cell.vm = .none) (hK : s.vm.findClass K = some cell.cls) (hfit : (Cond.castable K C).before args s = true) :
    ∀ (pre : List (ExceptionTableEntry × String)), (∀ q ∈ pre, covers q.1 g.pc = true ∧ q.1.catchType ≠ 0 ∧ (Cond.classLink own q.1.catchType q.2).before args s = true ∧ va_Nc K q.2 s) → ∀ U : State, s.WarmedH U.vm → U.heap[a]? = some cell →
    ∃ v, s.WarmedH v ∧ ∀ (Q : Handler → Pre) (E : CtlPost) (d : Bool) (acts : List Action), wp (findHandler.go g a (pre.map (·.1) ++ x :: rest)) Q E e d acts U ↔ Q (.found x.handlerPc) d acts (U.setVm v) := by
  intro pre
  induction pre with
  | nil =>
    intro _ U hW hcell
    obtain ⟨c3, c4, hc3, hc4, hasg⟩ := Cond.castable_spec hfit
    obtain ⟨v, h1, h2⟩ := xt_goX hpl hown hg (b := true) rest hx h0 hl hvm hK (fun cT hcT => by cases hc3.symm.trans hK; cases hc4.symm.trans hcT; exact hasg) U hW hcell
    exact ⟨v, h1, fun Q E d acts => by rw [List.map_nil, List.nil_append, h2]; simp⟩
  | cons y pre ih =>
    intro hp U hW hcell
    obtain ⟨y1, y2, y3, c0, t0, f1, f2, f3⟩ := hp y List.mem_cons_self
    obtain ⟨v, h1, h2⟩ := xt_goX hpl hown hg (b := false) (pre.map (·.1) ++ x :: rest) y1 y2 y3 hvm hK (fun cT hcT => by cases f1.symm.trans hK; cases f2.symm.trans hcT; exact f3) U hW hcell
    obtain ⟨v2, h3, h4⟩ := ih (fun q hq => hp q (List.mem_cons_of_mem _ hq)) (U.setVm v) h1 hcell
    exact ⟨v2, h3, fun Q E d acts => by
      rw [List.map_cons, List.cons_append, h2, if_neg (by decide), h4]
      rfl⟩
/-- an exception lies over the frame g of the walked method: it goes on at the handler -/
theorem xt_caught (X : Stand p l e R s m args below meth c T locs cells slots) {own : String} (hown : s.vm.findClass own = some m.cls) {g : JFrame} (hg : g.method = m) {a : Addr} {x : ExceptionTableEntry} {pre : List (ExceptionTableEntry × String)} {rest : List ExceptionTableEntry} (ht : c.exceptionTable.toList = pre.map (·.1) ++ x :: rest) {C K : String} (hpre : ∀ q ∈ pre, covers q.1 g.pc = true ∧ q.1.catchType ≠ 0 ∧ (Cond.classLink own q.1.catchType q.2).before args s = true ∧ va_Nc K q.2 s) (hx : covers x g.pc = true) (h0 : x.catchType ≠ 0) (hl : (Cond.classLink own x.catchType C).before args s = true) {cell : Cell} (hcell : T.heap[a]? = some cell) (hvm : cell.vm = .none) (hK : s.vm.findClass K = some cell.cls) (hfit : (Cond.castable K C).before args s = true) :
    ∃ v, Stand p l e R s m args below meth c (T.setVm v) locs cells slots ∧ ∀ target, Steps p.tables e below ((T.setVm v).setTop { g with pc := x.handlerPc, stack := [.ref a] }) target → Steps p.tables e below ((T.setTop g).pushFrame (.throwing a)) target := by
  have hpl : e.platform.magicAccessors = ({} : Platform).magicAccessors := by rw [X.admits.platform]
  have hv0 : ((T.setTop g).pushFrame (.throwing a)).vm = T.vm := Stand.throwing_vm T g a
  obtain ⟨v, h1, h2⟩ := xt_findN hpl hown hg rest hx h0 hl hvm hK hfit pre hpre ((T.setTop g).pushFrame (.throwing a)) (by rw [hv0]; exact X.warmed) (by rw [Stand.throwing_heap]; exact hcell)
  refine ⟨v, X.noted h1, fun target hr => xt_into X a hg (v := v) (pc := x.handlerPc) ?_ hr⟩
  intro Q E d acts
  rw [W.findHandler_eq (meth := meth) (code := c) (by rw [hv0, hg]; exact X.method') X.code, ht]
  exact h2 Q E d acts
end XTC
