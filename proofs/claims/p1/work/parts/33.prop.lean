/-! a call that throws: out of the method, or into its handler -/
section XTP
variable {p : Program} {l : Launch} {e : Env} {R : Room} {s : State} {m : MethodId} {args : Array Value} {below : List Frame} {meth : Method} {c : Code} {H : Heap} {locs : List Loc} {cells slots : Nat} {Q : State → Prop}
variable {cc : ByteArray} {nL pc : Nat} {ls : Array Slot} {rest : List Value} {D : va_G} {cA : Nat → ClassId} {hs : Nat → Nat} {z : gw_Sh} {A : Nat → Prop} {u u1 : gw_St} {own : String}
theorem xt_inv {T : State} (hT : T.heap = H) (X : Stand p l e R s m args below meth c T locs cells slots) (C : gw_Cx p s m args c cc nL own D cA) (hW : gw_Wd D cA hs z A s.heap u H locs) (hA : ∀ q, s.heap.size ≤ q → A q) (hZ : xt_Zs A s s.heap) (hls : ls.size = nL) {y : MethodName} {b : ByteArray} {n k kx index ci t : Nat} {ret : Option FieldType} {rm : Room} {As : List Value} {K : String} {Tc : u_T} {N : Nat}
    (M : gw_Mth y b n ret k) (hM : gw_Mt l y b n ret rm (.ref (hs t) :: As) D cA hs z u H.size kx u1) (hl : Cond.methodLink own index y ∈ gt_T) (hi : Cond.instanceMethod y ∈ gt_T) (hse : Cond.selects K y y ∈ gt_T) (ht : gw_ok z t ci) (hci : ci < 10) (hc : gt_cl[ci]? = some (K, Tc, N)) (hrc : rm.cells = 1) (hrs : rm.slots = 6) (hR : rm.frames + 1 ≤ R.frames ∧ 8 + (n + 11) + rm.locals ≤ R.locals) (hcs : cells + 1 ≤ R.cells ∧ slots + 6 ≤ R.slots) (hn : As.length = k) {st0 : List Value} (hst : st0 = As.reverse ++ .ref (hs t) :: rest) (hro : (rest.map fun v => v.category).sum ≤ 8) (hdg : decode cc pc = .ok (.invokevirtual index, 3)) :
    ∃ (x : Nat) (T' : State) (locs1 : List Loc), Stand p l e R s m args below meth c T' locs1 (cells + 1) (slots + 6) ∧ s.heap.size ≤ x ∧ xt_is kx x T' ∧ gw_Wd D cA hs z A s.heap u1 T'.heap locs1 ∧ ∀ target, Steps p.tables e below ((T'.setTop (F0 m pc ls rest)).pushFrame (.throwing x)) target → Steps p.tables e below (T.setTop (F0 m pc ls st0)) target := by
  obtain ⟨hx, hb, hml, hown, hts, hK⟩ := C
  obtain ⟨m1, m2, m3, m4⟩ := M
  have hF := gw_A_all hW hA
  obtain ⟨cellB, hcB, hoB, hclB⟩ := va_recv hK hW.1 hc (gw_ato ht hci)
  obtain ⟨mk, methM, hnamed, hmethM, hstM, habM⟩ := Cond.instanceMethod_spec (hts _ hi)
  obtain ⟨methM', cM, hmethM', -, -, -, -, -, -, hsigM⟩ := Cond.code_spec hnamed (hts _ m1)
  cases hmethM.symm.trans hmethM'
  obtain ⟨c2, r2, m2', q1, q2, q3, q4, kP, hkP, hkPi⟩ := Cond.selects_spec (hts _ hse)
  cases hclB.symm.trans q1
  cases (State.methodFound?_of_named hnamed m3).symm.trans q2
  cases hnamed.symm.trans q3
  have hselP : selectMethod e.platform s.vm cellB.cls mk = .method mk := by rw [Launch.admits_selectMethod X.admits]; exact q4
  have hlen : As.length = methM.sig.parameters.length := by
    rw [hsigM] at m4
    exact hn.trans (Option.some.inj m4).symm
  obtain ⟨vm₁, X₁, hstep₁⟩ := X.invokevirtual hx hown (hts _ hl) hnamed hmethM hstM hkP hkPi m3 (a := hs t) (cell := cellB) (by rw [hT]; exact hcB) (fun w h => by rw [h] at hoB; cases hoB) hselP hmethM habM hkP hkPi (g := F0 m pc ls st0) rfl (argsL := As) (rest := rest) hlen hst (by rw [hb]; exact hdg)
  subst hT
  have hZ2 : xt_Zs (gw_A hs z T.heap.size) (T.setVm vm₁) T.heap := by
    have hq : ∀ a : Nat, a < s.heap.size → ¬ A a → T.heap[a]? = s.heap[a]? := hW.2.2.1.2.1
    exact xt_Zs.moved X₁.warmed ((xt_Zs.kept hZ hq).narrow hF)
  obtain ⟨x, T', L, X', hL, hx1, hx2, hB, hz, hk2, hst2⟩ := xt_down (T := T.setVm vm₁) X₁ hts m1 m2 hM hrc hrs hR.1 hR.2 hcs (g := F0 m pc ls rest) rfl (hls.trans hml.symm) (by rw [hb]; exact hdg) (lv_room hro) (X₁.named hnamed) ⟨⟨rfl, hW.1, va_K.moved X₁.warmed.alike hK, hW.2.1.weaken (fun _ _ _ _ => trivial), hW.2.2.2⟩, hZ2⟩
  refine ⟨x, T', locs ++ L, X', Nat.le_trans hW.2.2.1.1 hx1, hx2, ⟨hB.1, hB.2.2.1.weaken (fun j q _ h => hF q.1 h), ⟨Nat.le_trans hW.2.2.1.1 hz, fun q h1 h2 => (hk2 q (Nat.lt_of_lt_of_le h1 hW.2.2.1.1) (fun w => h2 (hF q w))).trans (hW.2.2.1.2.1 q h1 h2), fun q hq => ?_⟩, hB.2.2.2⟩, fun target hr => hstep₁ _ fun acts => by rw [doInvoke_state]; exact hst2.trans hr⟩
  rcases List.mem_append.mp hq with h | h
  · exact hW.2.2.1.2.2 q h
  · exact hF _ (hL q h)
/-- out of a method without handlers -/
theorem xt_prop (C : gw_Cx p s m args c cc nL own D cA) (hW : gw_Wd D cA hs z A s.heap u H locs) (hA : ∀ q, s.heap.size ≤ q → A q) (hZ : xt_Zs A s s.heap) (hls : ls.size = nL) (hlocks : meth.locks = false) (hne : c.exceptionTable.isEmpty = true) {y : MethodName} {b : ByteArray} {n k kx index ci t : Nat} {ret : Option FieldType} {rm : Room} {As : List Value} {K : String} {Tc : u_T} {N : Nat}
    (M : gw_Mth y b n ret k) (hM : gw_Mt l y b n ret rm (.ref (hs t) :: As) D cA hs z u H.size kx u1) (hl : Cond.methodLink own index y ∈ gt_T) (hi : Cond.instanceMethod y ∈ gt_T) (hse : Cond.selects K y y ∈ gt_T) (ht : gw_ok z t ci) (hci : ci < 10) (hc : gt_cl[ci]? = some (K, Tc, N)) (hrc : rm.cells = 1) (hrs : rm.slots = 6) (hR : rm.frames + 1 ≤ R.frames ∧ 8 + (n + 11) + rm.locals ≤ R.locals) (hcs : cells + 1 ≤ R.cells ∧ slots + 6 ≤ R.slots) (hn : As.length = k) {st0 : List Value} (hst : st0 = As.reverse ++ .ref (hs t) :: rest) (hro : (rest.map fun v => v.category).sum ≤ 8) (hdg : decode cc pc = .ok (.invokevirtual index, 3)) :
    W p l e R s m args below meth c H locs cells slots (xt_MQ below D cA hs z A s kx u1 (cells + 1) (slots + 6)) (F0 m pc ls st0) := by
  intro T hT X
  obtain ⟨x, T', locs1, X', hx1, hx2, hW1, hst2⟩ := xt_inv hT X C hW hA hZ hls M hM hl hi hse ht hci hc hrc hrs hR hcs hn hst hro hdg
  have hout : ∀ w ∈ c.exceptionTable.toList, covers w (F0 m pc ls rest).pc = false := by
    intro w hw
    have h0 : c.exceptionTable.size = 0 := by simpa [Array.isEmpty] using hne
    have h1 : c.exceptionTable.toList = [] := List.eq_nil_of_length_eq_zero (by simpa using h0)
    rw [h1] at hw
    cases hw
  obtain ⟨st3, hrun, hend, hw, hsame⟩ := X'.leaveThrown x (g := F0 m pc ls rest) rfl rfl rfl hout hlocks
  exact ⟨_, hst2 _ st3, x, hrun, hend, hx1, hx2, ⟨hW1.1, va_K.moved hw.alike C.2.2.2.2.2, hW1.2.1, hW1.2.2.2⟩, ⟨hW1.2.2.1.1, fun q h1 h2 => hW1.2.2.1.2.1 q h1 h2⟩, hw, _, hsame, hW1.2.2.1.2.2⟩
/-- into the handler -/
theorem xt_catch (C : gw_Cx p s m args c cc nL own D cA) (hW : gw_Wd D cA hs z A s.heap u H locs) (hA : ∀ q, s.heap.size ≤ q → A q) (hZ : xt_Zs A s s.heap) (hls : ls.size = nL) {y : MethodName} {b : ByteArray} {n k kx index ci t : Nat} {ret : Option FieldType} {rm : Room} {As : List Value} {K : String} {Tc : u_T} {N : Nat}
    (M : gw_Mth y b n ret k) (hM : gw_Mt l y b n ret rm (.ref (hs t) :: As) D cA hs z u H.size kx u1) (hl : Cond.methodLink own index y ∈ gt_T) (hi : Cond.instanceMethod y ∈ gt_T) (hse : Cond.selects K y y ∈ gt_T) (ht : gw_ok z t ci) (hci : ci < 10) (hc : gt_cl[ci]? = some (K, Tc, N)) (hrc : rm.cells = 1) (hrs : rm.slots = 6) (hR : rm.frames + 1 ≤ R.frames ∧ 8 + (n + 11) + rm.locals ≤ R.locals) (hcs : cells + 1 ≤ R.cells ∧ slots + 6 ≤ R.slots) (hn : As.length = k) {st0 : List Value} (hst : st0 = As.reverse ++ .ref (hs t) :: rest) (hro : (rest.map fun v => v.category).sum ≤ 8) (hdg : decode cc pc = .ok (.invokevirtual index, 3))
    {w : ExceptionTableEntry} {pre : List (ExceptionTableEntry × String)} {more : List ExceptionTableEntry} (htb : c.exceptionTable.toList = pre.map (·.1) ++ w :: more) (hpre : ∀ q ∈ pre, covers q.1 pc = true ∧ q.1.catchType ≠ 0 ∧ Cond.classLink own q.1.catchType q.2 ∈ gt_T ∧ va_Nc (xt_nm kx) q.2 s) (hw : covers w pc = true) (hw0 : w.catchType ≠ 0) (hwl : Cond.classLink own w.catchType (xt_nm kx) ∈ gt_T)
    (kk : ∀ (x : Nat) (H1 : Heap) (locs1 : List Loc), gw_Wd D cA hs z A s.heap u1 H1 locs1 → W p l e R s m args below meth c H1 locs1 (cells + 1) (slots + 6) Q (F0 m w.handlerPc ls [.ref x])) : W p l e R s m args below meth c H locs cells slots Q (F0 m pc ls st0) := by
  intro T hT X
  have hts := C.2.2.2.2.1
  obtain ⟨x, T', locs1, X', hx1, ⟨ce, hc1, hc2, hc3⟩, hW1, hst2⟩ := xt_inv hT X C hW hA hZ hls M hM hl hi hse ht hci hc hrc hrs hR hcs hn hst hro hdg
  obtain ⟨v, X2, hst3⟩ := xt_caught X' (g := F0 m pc ls rest) (own := own) C.2.2.2.1 rfl (a := x) htb (K := xt_nm kx) (C := xt_nm kx) (fun q hq => ⟨(hpre q hq).1, (hpre q hq).2.1, hts _ (hpre q hq).2.2.1, (hpre q hq).2.2.2⟩) hw hw0 (hts _ hwl) hc1 hc2 (by rw [← X'.warmed.alike.findClass]; exact hc3) (hZ.2.2.1 kx).use
  obtain ⟨t2, a1, b1⟩ := kk x T'.heap locs1 hW1 (T'.setVm v) rfl X2
  exact ⟨t2, hst2 _ (hst3 _ a1), b1⟩
end XTP
