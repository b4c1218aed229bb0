def R_law : String := "GearDeskLaw"
def lw_P (b : Addr) (xs : List Int32) (args : Array Value) (s : State) : Prop := args = #[.ref b] ∧ s.IntsAt b xs ∧ xs.length ≤ 6 ∧ (Jvm.Cond.and given_1 narrow_1).before args s = true
def lw_Q (_ : Array Value) (s : State) (o : Outcome) (t : State) : Prop := o = .returned (some (.int 1)) ∧ Framed s o t [] 600002 7302232
def lw_Z (below : List Frame) (a : Array Value) (s : State) : State → Prop := fun t => ∃ o, t.status = .running ∧ Ended t below o ∧ lw_Q a s o t
/-- the law's own end, with 1 on the stack, nothing written that was there before, its room as the claim has it -/
theorem lw_ret {p : Program} {l : Launch} {e : Env} {s : State} {m : MethodId} {below : List Frame} {meth : Method} {c : Code} {b : Nat} (hx : p.tables.exec = Jvm.exec) (hb : c.code = code) (hr : meth.sig.returnType = ret) (hlocks : meth.locks = false) {pc : Nat} {H : Heap} {ls : Array Slot} (hdg : decode code pc = .ok (.ireturn, 1)) : W p l e room_1 s m #[Value.ref b] below meth c H [] 600002 7302232 (lw_Z below #[Value.ref b] s) (F0 m pc ls [.int 1]) := by
  intro T hT X
  obtain ⟨fs, hret, hrun, hended, hW, hframe⟩ := X.leave (v := some (.int 1)) (hlocks := hlocks) (fun h => by rw [hr] at h; cases h)
  have hmeth' : T.vm.method? m = some meth := X.method'
  refine ⟨T.setFrames fs, ?_, .returned (some (.int 1)), hrun, hended, rfl, ⟨_, rfl⟩, hW, hframe⟩
  jvm_step X.here [X.here.top, hx, hb, hdg, hmeth', hr, ret, narrow_b1]
  (try refine ⟨rfl, ?_⟩); (try refine ⟨rfl, ?_⟩)
  first | (intro acts; rw [hret _ acts rfl rfl rfl]) | rw [hret _ _ rfl rfl rfl]
  exact Steps.refl _
/-- what holds at the law's entry: the machine, the code, the tables' words (any of lw_tbl by 'hts w (by decide +kernel)'), the script of L ints xs at the cell b, what the Statement gives of the start (any of its parts by flat_of_before) -/
def lw_At (p : Program) (s : State) (m : MethodId) (meth : Method) (c : Code) (b L : Nat) (xs : Nat → Int32) : Prop :=
  p.tables.exec = Jvm.exec ∧ c.code = code ∧ meth.sig.returnType = ret ∧ c.maxLocals = 8 ∧ s.vm.findClass R_law = some m.cls ∧ (∀ w ∈ lw_tbl, w.before #[Value.ref b] s = true) ∧ va_X b L xs s s.heap ∧ b < s.heap.size ∧ meth.locks = false ∧ (Jvm.Cond.and given_1 narrow_1).before #[Value.ref b] s = true
def gw_z0 : gw_Sh := (0, fun _ => 0, fun _ => 0)
/-- the goals of the law's walk: behind n rounds -/
abbrev gw_GL (p : Program) (l : Launch) (e : Env) (s : State) (m : MethodId) (b : Nat) (below : List Frame) (meth : Method) (c : Code) (H : Heap) (locs : List Loc) (ls : Array Slot) (n pc : Nat) (st : List Value) : Prop := W p l e room_1 s m #[Value.ref b] below meth c H locs (1000 + n) (400000 + 6 * n) (lw_Z below #[Value.ref b] s) (F0 m pc ls st)
theorem gw_lf {k : Nat} (h : k ≤ 2048) : k ≤ room_1.frames := h
theorem gw_ll {k : Nat} (h : k ≤ 84000) : k ≤ room_1.locals := h
theorem gw_nd {n : Nat} (hn : n < 513) : 1000 + n ≤ room_1.cells ∧ 400000 + 6 * n ≤ room_1.slots := ⟨show 1000 + n ≤ 600002 by omega, show 400000 + 6 * n ≤ 7302232 by omega⟩
theorem gw_ne {n : Nat} (hn : n < 513) : 1000 + (n + 1) ≤ room_1.cells ∧ 400000 + 6 * (n + 1) ≤ room_1.slots := ⟨show 1000 + (n + 1) ≤ 600002 by omega, show 400000 + 6 * (n + 1) ≤ 7302232 by omega⟩
theorem gw_nc {n : Nat} (hn : n < 513) : 1000 + n + 1 ≤ room_1.cells ∧ 400000 + 6 * n + 6 ≤ room_1.slots := ⟨show 1000 + n + 1 ≤ 600002 by omega, show 400000 + 6 * n + 6 ≤ 7302232 by omega⟩
theorem gw_n1 {n : Nat} : 1000 + n + 1 ≤ 1000 + (n + 1) := by omega
theorem gw_n2 {n : Nat} : 400000 + 6 * n + 6 ≤ 400000 + 6 * (n + 1) := by omega
theorem gw_n3 {n : Nat} : 1000 + n ≤ 1000 + (n + 1) := by omega
theorem gw_n4 {n : Nat} : 400000 + 6 * n ≤ 400000 + 6 * (n + 1) := by omega
theorem gw_lb {hs : Nat → Nat} {sz b : Nat} (h : b < sz) : ¬ gw_A hs gw_z0 sz b := by
  intro q
  rcases q with ⟨p, hp, -⟩ | q
  · exact Nat.not_lt_zero _ hp
  · omega
theorem gw_lend {p : Program} {l : Launch} {e : Env} {s : State} {m : MethodId} {b : Nat} {below : List Frame} {meth : Method} {c : Code} {H : Heap} {locs : List Loc} {ls : Array Slot} {n pc : Nat} {D : va_G} {cA : Nat → ClassId} {hs : Nat → Nat} {z : gw_Sh} {u : gw_St} (C : gw_Cx p s m #[Value.ref b] c code 8 R_Law D cA) (hW : gw_Wd D cA hs z (gw_A hs gw_z0 s.heap.size) s.heap u H locs) (hr : meth.sig.returnType = ret) (hk : meth.locks = false) (hn : n < 513) (hdg : decode code pc = .ok (.ireturn, 1)) : gw_GL p l e s m b below meth c H locs ls n pc [.int 1] := by
  refine va_forget (fun q hq => ?_) (W.widen (k := 600002) (n := 7302232) (by omega) (by omega) (lw_ret C.1 C.2.1 hr hk hdg))
  rcases hW.2.2.1.2.2 q hq with ⟨p, hp, -⟩ | h
  · exact absurd hp (Nat.not_lt_zero _)
  · exact h
