/-! METHODS WITH HANDLERS: the law's wrappers; they make at most one exception -/
def gw_wsW (y : MethodName) (b : ByteArray) (n : Nat) (ret : Option FieldType) (hh : List (Nat × Nat × Nat × Nat)) : List Cond := Cond.codeWith y b n ret hh :: gt_T
/-- none of the four kinds is another -/
def xt_Nn (U : State) : Prop := ∀ a ∈ [1, 2, 3, 4], ∀ b ∈ [1, 2, 3, 4], a ≠ b → va_Nc (xt_nm a) (xt_nm b) U
theorem xt_Nn.moved {u U : State} (hvm : u.vm.Alike U.vm) (h : xt_Nn u) : xt_Nn U := fun a ha b hb hab => (h a ha b hb hab).moved hvm
def gw_PreW (D : va_G) (cA : Nat → ClassId) (hs : Nat → Nat) (z : gw_Sh) (u : gw_St) (sz : Nat) : State → Prop := fun U => gw_Pre D cA hs z u sz U ∧ xt_Zs (gw_A hs z sz) U U.heap ∧ xt_Nn U
def gw_Mw (l : Launch) (y : MethodName) (b : ByteArray) (n : Nat) (ret : Option FieldType) (hh : List (Nat × Nat × Nat × Nat)) (rm : Room) (av : List Value) (D : va_G) (cA : Nat → ClassId) (hs : Nat → Nat) (z : gw_Sh) (u : gw_St) (sz : Nat) (r0 : Int32 × gw_St) : Prop :=
  Met l y (gw_wsW y b n ret hh) rm (va_Pc av (gw_PreW D cA hs z u sz)) (va_Qi (fun r w => (r, w) = r0) (gw_At D cA hs z (gw_A hs z sz)) (gw_A hs z sz)) 1 6 (gw_A hs z sz)
def gw_MthW (y : MethodName) (b : ByteArray) (n : Nat) (ret : Option FieldType) (hh : List (Nat × Nat × Nat × Nat)) (k : Nat) : Prop :=
  Cond.codeWith y b n ret hh ∈ gt_T ∧ Cond.initialized y.cls ∈ gt_T ∧ (y.cls ≠ "java/lang/invoke/MethodHandle" ∧ y.cls ≠ "java/lang/invoke/VarHandle") ∧ (parseMethodDescriptor y.desc).map (fun d => d.parameters.length) = some k
def xw_e (q : Nat × Nat × Nat × Nat) : ExceptionTableEntry := ⟨q.1, q.2.1, q.2.2.1, q.2.2.2⟩
theorem xw_tab {L : List ExceptionTableEntry} {hh : List (Nat × Nat × Nat × Nat)} (h : L.map (fun h => (h.startPc, h.endPc, h.handlerPc, h.catchType)) = hh) : L = hh.map xw_e := by
  subst h
  rw [List.map_map]
  exact (List.map_id' L).symm
theorem xw_blind {av : List Value} {D : va_G} {cA : Nat → ClassId} {hs : Nat → Nat} {z : gw_Sh} {u : gw_St} {sz : Nat} : FrameBlind (va_Pc av (gw_PreW D cA hs z u sz)) := by
  intro a U g mk q
  obtain ⟨q0, ⟨q1, qP, qK, qD, qT⟩, qZ, qN⟩ := q
  exact ⟨q0, ⟨q1, qP, va_K.moved (u := U) (U := U.calling g mk a) (Vm.Alike.refl U.vm) qK, qD, qT⟩, xt_Zs.moved (u := U) (U := U.calling g mk a) (State.WarmedH.refl U) qZ, qN.moved (u := U) (U := U.calling g mk a) (Vm.Alike.refl U.vm)⟩
theorem gw_payW {args : Array Value} {s : State} (hts : ∀ w ∈ gt_T, w.before args s = true) {y : MethodName} {b : ByteArray} {n : Nat} {ret : Option FieldType} {hh : List (Nat × Nat × Nat × Nat)} (hc : Cond.codeWith y b n ret hh ∈ gt_T) : ∀ w ∈ gw_wsW y b n ret hh, ∀ (a' : Array Value) (U : State), s.WarmedH U.vm → w.before a' U = true := by
  intro w hw a' U hU
  have hm : w ∈ gt_T := by
    rcases List.mem_cons.mp hw with rfl | h
    · exact hc
    · exact h
  exact word_at hU (gt_good w hm) (hts w hm)
section GWW
variable {p : Program} {l : Launch} {e : Env} {R : Room} {s : State} {m : MethodId} {args : Array Value} {below : List Frame} {meth : Method} {c : Code} {H : Heap} {locs : List Loc} {cells slots : Nat} {Q : State → Prop}
variable {cc : ByteArray} {nL pc : Nat} {ls : Array Slot} {rest : List Value} {D : va_G} {cA : Nat → ClassId} {hs : Nat → Nat} {z : gw_Sh} {A : Nat → Prop} {u : gw_St} {own : String}
theorem gw_iretW (C : gw_Cx p s m args c cc nL own D cA) (hW : gw_Wd D cA hs z (gw_A hs z s.heap.size) s.heap u H locs) {v : Int32} (hr : meth.sig.returnType = some .int) (hlocks : meth.locks = false) (hdg : decode cc pc = .ok (.ireturn, 1)) : W p l e R s m args below meth c H locs cells slots (MQ below (va_Qi (fun r w => (r, w) = (v, u)) (gw_At D cA hs z (gw_A hs z s.heap.size)) (gw_A hs z s.heap.size)) args s cells slots (gw_A hs z s.heap.size)) (F0 m pc ls [.int v]) :=
  W.iret C.1 C.2.1 hr (fun t ht hw => ⟨⟨v, u, rfl, rfl, by rw [ht]; exact hW.1, va_K.moved hw.alike C.2.2.2.2.2, hW.2.1, hW.2.2.2⟩, hW.2.2.1.F ht⟩) hW.2.2.1.2.2 hdg hlocks
theorem gw_callW (C : gw_Cx p s m args c cc nL own D cA) (hW : gw_Wd D cA hs z A s.heap u H locs) (hA : ∀ q, s.heap.size ≤ q → A q) (hZ : xt_Zs A s s.heap) (hN : xt_Nn s) (hls : ls.size = nL) {y : MethodName} {b : ByteArray} {n k index : Nat} {ret : Option FieldType} {hh : List (Nat × Nat × Nat × Nat)} {rm : Room} {As : List Value} {r0 : Int32 × gw_St}
    (M : gw_MthW y b n ret hh k) (hM : gw_Mw l y b n ret hh rm As D cA hs z u H.size r0) (hl : Cond.methodLink own index y ∈ gt_T) (hi : Cond.static y ∈ gt_T) (hrc : rm.cells = 1) (hrs : rm.slots = 6) (hR : rm.frames + 1 ≤ R.frames ∧ 8 + (n + 11) + rm.locals ≤ R.locals) (hcs : cells + 1 ≤ R.cells ∧ slots + 6 ≤ R.slots) (hn : As.length = k) {st0 : List Value} (hst : st0 = As.reverse ++ rest) (hro : (rest.map fun v => v.category).sum ≤ 8) (hdg : decode cc pc = .ok (.invokestatic index, 3))
    (kk : ∀ (H1 : Heap) (locs1 : List Loc), gw_Wd D cA hs z A s.heap r0.2 H1 locs1 → W p l e R s m args below meth c H1 locs1 (cells + 1) (slots + 6) Q (F0 m (pc + 3) ls (.int r0.1 :: rest))) : W p l e R s m args below meth c H locs cells slots Q (F0 m pc ls st0) := by
  obtain ⟨hx, hb, hml, hown, hts, hK⟩ := C
  obtain ⟨m1, m2, m3, m4⟩ := M
  have hF := gw_A_all hW hA
  have hq : ∀ a : Nat, a < s.heap.size → ¬ A a → H[a]? = s.heap[a]? := hW.2.2.1.2.1
  have hZ2 : xt_Zs (gw_A hs z H.size) s H := (xt_Zs.kept hZ hq).narrow hF
  have hBk : Back l R p e below s args y 3 8 (PreOf R 1 6 (va_Pc As (gw_PreW D cA hs z u H.size))) (PostOf (va_Qi (fun r w => (r, w) = r0) (gw_At D cA hs z (gw_A hs z H.size)) (gw_A hs z H.size)) 1 6 (gw_A hs z H.size)) := va_backW hM xw_blind hrc hrs hR.1 hR.2 (gw_payW hts m1) List.mem_cons_self (fun a' U hw => word_at hw (gt_good _ m2) (hts _ m2))
  have hrun : va_Run p l e R s m args below meth c H locs cells slots 1 6 (F0 m pc ls st0) rest (va_Qi (fun r w => (r, w) = r0) (gw_At D cA hs z (gw_A hs z H.size)) (gw_A hs z H.size) As.toArray) (gw_A hs z H.size) := by
    intro T hT X
    obtain ⟨mk, methM, cM, hnamed, hmethM, -, -, -, -, -, -, hsigM⟩ := Cond.codeWith_spec (hts _ m1)
    have hstatic : methM.isStatic = true := Cond.static_spec hnamed hmethM (hts _ hi)
    obtain ⟨kP, hkP, -⟩ := className_of_methodNamed hnamed
    have hinitP : kP.init = .initialized := Cond.initialized_spec (findClass_of_methodNamed hnamed) hkP (hts _ m2)
    have hlen : As.length = methM.sig.parameters.length := by
      rw [hsigM] at m4
      exact hn.trans (Option.some.inj m4).symm
    obtain ⟨vm₁, X₁, hstep₁⟩ := X.invokestatic hx hown (hts _ hl) hnamed hmethM hstatic hkP hinitP m3 (g := F0 m pc ls st0) rfl (argsL := As) (rest := rest) hlen hst (by rw [hb]; exact hdg)
    have hP : va_Pc As (gw_PreW D cA hs z u H.size) As.toArray (T.setVm vm₁) := by
      subst hT
      exact ⟨rfl, ⟨rfl, hW.1, va_K.moved X₁.warmed.alike hK, hW.2.1.weaken (fun _ _ _ _ => trivial), hW.2.2.2⟩, xt_Zs.moved (u := s) (U := T.setVm vm₁) X₁.warmed hZ2, hN.moved X₁.warmed.alike⟩
    obtain ⟨v, ⟨U', l2, c2, s2⟩, X', ⟨g', mk', t, L, e1, e2, hq', h1, hL, h2, h3⟩, hsteps⟩ := hBk m meth c ⟨T.setVm vm₁, locs, cells, slots⟩ { F0 m pc ls st0 with stack := rest } (.invokestatic index) mk As.toArray X₁ rfl (hls.trans hml.symm) (by rw [hb]; exact hdg) (lv_room hro) (X₁.named hnamed) ⟨hcs.1, hcs.2, hP⟩
    dsimp only [Pt.U, Pt.locs, Pt.cells, Pt.slots] at X' e1 e2 h1 h2 h3 hsteps
    subst h1; subst h2; subst h3
    exact ⟨v, (T.setVm vm₁).calling g' mk' As.toArray, t, U', L, hT, X', hL, e1, e2, hq', fun target h => hstep₁ _ fun acts => by rw [doInvoke_state]; exact hsteps.trans h⟩
  refine va_calli hrun hW.2.2.1 (fun q _ h => hF q h) hF (fun r w t H1 locs1 ht hvm hw hB hz1 hk1 hS => ?_)
  cases hw
  exact kk H1 locs1 (gw_back hW hA ht hB hS)
end GWW
theorem gw_enterW {l : Launch} {y : MethodName} {b : ByteArray} {n : Nat} {ret : Option FieldType} {hh : List (Nat × Nat × Nat × Nat)} {rm : Room} {av : List Value} {D : va_G} {cA : Nat → ClassId} {hs : Nat → Nat} {z : gw_Sh} {u : gw_St} {sz : Nat} {Qc : Array Value → State → Outcome → State → Prop}
    (hy : plainName y.cls = true) (hn : (lg_sl av).length ≤ n)
    (body : ∀ (p : Program) (e : Env) (s : State) (m : MethodId) (below : List Frame) (meth : Method) (c : Code) (ls : Array Slot), s.heap.size = sz → gw_Cx p s m av.toArray c b n y.cls D cA → gw_Wd D cA hs z (gw_A hs z s.heap.size) s.heap u s.heap [] → meth.sig.returnType = ret → meth.locks = false → c.exceptionTable.toList = hh.map xw_e → xt_Zs (gw_A hs z s.heap.size) s s.heap → xt_Nn s → lv_has ls n (lv_args 0 av) →
      W p l e rm s m av.toArray below meth c s.heap [] 0 0 (MQ below Qc av.toArray s 1 6 (gw_A hs z sz)) (F0 m 0 ls [])) : Met l y (gw_wsW y b n ret hh) rm (va_Pc av (gw_PreW D cA hs z u sz)) Qc 1 6 (gw_A hs z sz) := by
  refine va_MetW (cc := b) (maxL := n) (ret := ret) (hh := hh) hy rfl ?_
  intro p e s m args below meth c s₁ B hml hv
  obtain ⟨rfl, ⟨hsz, hP, hK, hD0, hT⟩, hZ, hN⟩ := hv
  have hts := atoms_spec (ws := gw_wsW y b n ret hh) B.pre
  have hl := lv_entry av (n := n) hn
  obtain ⟨m9, meth9, c9, n1, n2, n3, -, -, n4, -, -, -⟩ := Cond.codeWith_spec (hts _ List.mem_cons_self)
  cases B.named.symm.trans n1
  cases B.method.symm.trans n2
  cases (Stand.of_body B).code.symm.trans n3
  rw [lg_entry_eq]
  exact body p e s m below meth c _ hsz ⟨B.exec, B.bytes, hml, findClass_of_methodNamed B.named, fun w hw => hts w (List.mem_cons_of_mem _ hw), hK⟩ ⟨hP, gw_D_self hD0, va_S.rf, hT⟩ B.returns B.notSynchronized (xw_tab n4) (by rw [hsz]; exact hZ) hN hl
def gf_ch {α β : Type} (x : Option ((α ⊕ Nat) × gw_St)) (g : Nat → gw_St → Option β) (f : α → gw_St → Option β) : Option β := match x with
  | none => none
  | some (.inl a, w) => f a w
  | some (.inr k, w) => g k w
theorem gf_ch_ok {α β : Type} {x : Option ((α ⊕ Nat) × gw_St)} {g : Nat → gw_St → Option β} {f : α → gw_St → Option β} {r : β} (h : gf_ch x g f = some r) : (∃ k w, x = some (.inr k, w) ∧ g k w = some r) ∨ ∃ a w, x = some (.inl a, w) ∧ f a w = some r := by
  match x, h with
  | none, h => cases h
  | some (.inl a, w), h => exact Or.inr ⟨a, w, rfl, h⟩
  | some (.inr k, w), h => exact Or.inl ⟨k, w, rfl, h⟩
abbrev gw_Gw (p : Program) (l : Launch) (e : Env) (R : Room) (s : State) (m : MethodId) (args : Array Value) (below : List Frame) (meth : Method) (c : Code) (D : va_G) (cA : Nat → ClassId) (hs : Nat → Nat) (z : gw_Sh) (r0 : Int32 × gw_St) (H : Heap) (locs : List Loc) (ls : Array Slot) (pc : Nat) (st : List Value) : Prop := W p l e R s m args below meth c H locs 0 0 (MQ below (va_Qi (fun r w => (r, w) = r0) (gw_At D cA hs z (gw_A hs z s.heap.size)) (gw_A hs z s.heap.size)) args s 1 6 (gw_A hs z s.heap.size)) (F0 m pc ls st)
theorem xw_c {α : Type} {P : α → Prop} {a : α} {l : List α} (h : P a) (t : ∀ b ∈ l, P b) : ∀ b ∈ a :: l, P b := List.forall_mem_cons.mpr ⟨h, t⟩
theorem xw_n {α : Type} {P : α → Prop} : ∀ b ∈ ([] : List α), P b := fun _ h => absurd h List.not_mem_nil
theorem xt_rm_ok (f n : Nat) : f ≤ (xt_rm f n).frames ∧ n ≤ (xt_rm f n).locals ∧ 1 ≤ (xt_rm f n).cells ∧ 6 ≤ (xt_rm f n).slots := ⟨Nat.le_refl f, Nat.le_refl n, Nat.le_refl 1, Nat.le_refl 6⟩
