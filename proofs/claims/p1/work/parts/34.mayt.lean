/-! methods that may throw: an answer (.inl) or the kind of an exception (.inr) -/
def xt_rm (f n : Nat) : Room := { frames := f, cells := 1, slots := 6, locals := n }
def xt_Ok {α : Type} (e : Env) (s : State) (R : Room) (hs : Nat → Nat) (z : gw_Sh) (r0 : (α ⊕ Nat) × gw_St) : Prop := match r0 with
  | (.inl _, _) => True
  | (.inr _, _) => e.platform.stackTraces = false ∧ xt_Zs (gw_A hs z s.heap.size) s s.heap ∧ 1 ≤ R.cells ∧ 6 ≤ R.slots
def gw_QTi (below : List Frame) (D : va_G) (cA : Nat → ClassId) (hs : Nat → Nat) (z : gw_Sh) (args : Array Value) (s : State) (r0 : (Int32 ⊕ Nat) × gw_St) : State → Prop := match r0 with
  | (.inl v, w) => MQ below (va_Qi (fun a b => (a, b) = (v, w)) (gw_At D cA hs z (gw_A hs z s.heap.size)) (gw_A hs z s.heap.size)) args s 0 0 (gw_A hs z s.heap.size)
  | (.inr k, w) => xt_MQ below D cA hs z (gw_A hs z s.heap.size) s k w 1 6
def gw_QTl (below : List Frame) (D : va_G) (cA : Nat → ClassId) (hs : Nat → Nat) (z : gw_Sh) (args : Array Value) (s : State) (r0 : (Int64 ⊕ Nat) × gw_St) : State → Prop := match r0 with
  | (.inl v, w) => MQ below (va_Ql (fun a b => (a, b) = (v, w)) (gw_At D cA hs z (gw_A hs z s.heap.size)) (gw_A hs z s.heap.size)) args s 0 0 (gw_A hs z s.heap.size)
  | (.inr k, w) => xt_MQ below D cA hs z (gw_A hs z s.heap.size) s k w 1 6
def gw_QTv (below : List Frame) (D : va_G) (cA : Nat → ClassId) (hs : Nat → Nat) (z : gw_Sh) (args : Array Value) (s : State) (r0 : (Unit ⊕ Nat) × gw_St) : State → Prop := match r0 with
  | (.inl _, w) => MQ below (va_Qv (fun b => b = w) (gw_At D cA hs z (gw_A hs z s.heap.size)) (gw_A hs z s.heap.size)) args s 0 0 (gw_A hs z s.heap.size)
  | (.inr k, w) => xt_MQ below D cA hs z (gw_A hs z s.heap.size) s k w 1 6
abbrev gw_Ti (p : Program) (l : Launch) (e : Env) (R : Room) (s : State) (m : MethodId) (args : Array Value) (below : List Frame) (meth : Method) (c : Code) (D : va_G) (cA : Nat → ClassId) (hs : Nat → Nat) (z : gw_Sh) (r0 : (Int32 ⊕ Nat) × gw_St) (H : Heap) (locs : List Loc) (ls : Array Slot) (pc : Nat) (st : List Value) : Prop := W p l e R s m args below meth c H locs 0 0 (gw_QTi below D cA hs z args s r0) (F0 m pc ls st)
abbrev gw_Tl (p : Program) (l : Launch) (e : Env) (R : Room) (s : State) (m : MethodId) (args : Array Value) (below : List Frame) (meth : Method) (c : Code) (D : va_G) (cA : Nat → ClassId) (hs : Nat → Nat) (z : gw_Sh) (r0 : (Int64 ⊕ Nat) × gw_St) (H : Heap) (locs : List Loc) (ls : Array Slot) (pc : Nat) (st : List Value) : Prop := W p l e R s m args below meth c H locs 0 0 (gw_QTl below D cA hs z args s r0) (F0 m pc ls st)
abbrev gw_Tv (p : Program) (l : Launch) (e : Env) (R : Room) (s : State) (m : MethodId) (args : Array Value) (below : List Frame) (meth : Method) (c : Code) (D : va_G) (cA : Nat → ClassId) (hs : Nat → Nat) (z : gw_Sh) (r0 : (Unit ⊕ Nat) × gw_St) (H : Heap) (locs : List Loc) (ls : Array Slot) (pc : Nat) (st : List Value) : Prop := W p l e R s m args below meth c H locs 0 0 (gw_QTv below D cA hs z args s r0) (F0 m pc ls st)
def gf_ct {α β : Type} (x : Option ((α ⊕ Nat) × gw_St)) (f : α → gw_St → Option ((β ⊕ Nat) × gw_St)) : Option ((β ⊕ Nat) × gw_St) := match x with
  | none => none
  | some (.inl a, w) => f a w
  | some (.inr k, w) => some (.inr k, w)
theorem gf_ct_ok {α β : Type} {x : Option ((α ⊕ Nat) × gw_St)} {f : α → gw_St → Option ((β ⊕ Nat) × gw_St)} {r : (β ⊕ Nat) × gw_St} (h : gf_ct x f = some r) : (∃ k w, x = some (.inr k, w) ∧ r = (.inr k, w)) ∨ ∃ a w, x = some (.inl a, w) ∧ f a w = some r := by
  match x, h with
  | none, h => cases h
  | some (.inl a, w), h => exact Or.inr ⟨a, w, rfl, h⟩
  | some (.inr k, w), h => exact Or.inl ⟨k, w, rfl, (Option.some.inj h).symm⟩
theorem xt_out {c : Code} (hne : c.exceptionTable.isEmpty = true) (pc : Nat) : ∀ x ∈ c.exceptionTable.toList, covers x pc = false := by
  intro w hw
  have h0 : c.exceptionTable.size = 0 := by simpa [Array.isEmpty] using hne
  have h1 : c.exceptionTable.toList = [] := List.eq_nil_of_length_eq_zero (by simpa using h0)
  rw [h1] at hw
  cases hw
theorem xt_enter0 {l : Launch} {y : MethodName} {b : ByteArray} {n : Nat} {ret : Option FieldType} {rm : Room} {av : List Value} {D : va_G} {cA : Nat → ClassId} {hs : Nat → Nat} {z : gw_Sh} {u : gw_St} {sz : Nat} {Qc : Array Value → State → Outcome → State → Prop}
    (hy : plainName y.cls = true) (hn : (lg_sl av).length ≤ n)
    (body : ∀ (p : Program) (e : Env) (s : State) (m : MethodId) (below : List Frame) (meth : Method) (c : Code) (ls : Array Slot), s.heap.size = sz → gw_Cx p s m av.toArray c b n y.cls D cA → gw_Wd D cA hs z (gw_A hs z s.heap.size) s.heap u s.heap [] → meth.sig.returnType = ret → meth.locks = false → c.exceptionTable.isEmpty = true → lv_has ls n (lv_args 0 av) →
      W p l e rm s m av.toArray below meth c s.heap [] 0 0 (MQ below Qc av.toArray s 0 0 (gw_A hs z sz)) (F0 m 0 ls [])) : Met l y (gw_ws y b n ret) rm (va_Pc av (gw_Pre D cA hs z u sz)) Qc 0 0 (gw_A hs z sz) := by
  refine Met.ofW (cc := b) (maxL := n) (ret := ret) hy rfl ?_
  intro p e s m args below meth c s₁ B hml hv
  obtain ⟨rfl, hsz, hP, hK, hD0, hT⟩ := hv
  have hts := atoms_spec (ws := gw_ws y b n ret) B.pre
  have hl := lv_entry av (n := n) hn
  rw [lg_entry_eq]
  exact body p e s m below meth c _ hsz ⟨B.exec, B.bytes, hml, findClass_of_methodNamed B.named, fun w hw => hts w (List.mem_cons_of_mem _ hw), hK⟩ ⟨hP, gw_D_self hD0, va_S.rf, hT⟩ B.returns B.notSynchronized (B.noHandlers (hts _ List.mem_cons_self)) hl
