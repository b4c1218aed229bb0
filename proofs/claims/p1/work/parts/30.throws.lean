/-! THROWING. Kinds: 1 IllegalArgumentException, 2 IllegalStateException, 3 IndexOutOfBoundsException, 4 UnsupportedOperationException -/
def xt_nm (k : Nat) : String := match k with
  | 1 => "java/lang/IllegalArgumentException"
  | 2 => "java/lang/IllegalStateException"
  | 3 => "java/lang/IndexOutOfBoundsException"
  | _ => "java/lang/UnsupportedOperationException"
def xt_up : List String := ["java/lang/RuntimeException", "java/lang/Exception"]
/-- the cell x is an exception of the kind k -/
def xt_is (k x : Nat) (t : State) : Prop := ∃ cell : Cell, t.heap[x]? = some cell ∧ cell.vm = .none ∧ t.vm.findClass (xt_nm k) = some cell.cls
/-- a static of reference type, laid as its class says, in a cell that isn't ours -/
def xt_Zq (C n d : String) (A : Nat → Prop) (U : State) (H : Heap) : Prop := ∃ (c : Nat) (k : Class) (i : Nat) (f : Field) (a : Nat) (ce : Cell) (r : Value), U.vm.findClass C = some c ∧ U.fieldFound? C n d = some (c, k, i, f) ∧ f.isStatic = true ∧ k.statics = some a ∧ H[a]? = some ce ∧ ce.vm.isStatics = true ∧ ce.cls = c ∧ f.slot < ce.slots.size ∧ k.staticTypes[f.slot]? = some f.type ∧ ce.slots[f.slot]? = some r ∧ (r = .null ∨ ∃ t, r = .ref t) ∧ ¬ A a
theorem xt_Zq.moved {C n d : String} {A : Nat → Prop} {u U : State} {H : Heap} (hvm : u.vm.Alike U.vm) (h : xt_Zq C n d A u H) : xt_Zq C n d A U H := by
  obtain ⟨c, k, i, f, a, ce, r, h1, h2, h3, h4, h5, h6, h7, h8, h9, h10⟩ := h
  obtain ⟨k', hi', he⟩ := State.fieldFound?_setVm hvm h2
  exact ⟨c, k', i, f, a, ce, r, by rw [hvm.findClass]; exact h1, hi', h3, by rw [he]; exact h4, h5, h6, h7, h8, by rw [he]; exact h9, h10⟩
theorem xt_Zq.kept {C n d : String} {A : Nat → Prop} {U : State} {H H1 : Heap} (h : xt_Zq C n d A U H) (hq : ∀ a : Nat, a < H.size → ¬ A a → H1[a]? = H[a]?) : xt_Zq C n d A U H1 := by
  obtain ⟨c, k, i, f, a, ce, r, h1, h2, h3, h4, h5, h6, h7, h8, h9, h10, h11, h12⟩ := h
  exact ⟨c, k, i, f, a, ce, r, h1, h2, h3, h4, by rw [hq a (Array.getElem?_eq_some_iff.mp h5).1 h12]; exact h5, h6, h7, h8, h9, h10, h11, h12⟩
theorem xt_Zq.narrow {C n d : String} {A B : Nat → Prop} {U : State} {H : Heap} (h : xt_Zq C n d A U H) (hAB : ∀ q, B q → A q) : xt_Zq C n d B U H := by
  obtain ⟨c, k, i, f, a, ce, r, h1, h2, h3, h4, h5, h6, h7, h8, h9, h10, h11, h12⟩ := h
  exact ⟨c, k, i, f, a, ce, r, h1, h2, h3, h4, h5, h6, h7, h8, h9, h10, h11, fun w => h12 (hAB a w)⟩
theorem xt_Zlays {C n d : String} {A : Nat → Prop} {U : State} {args : Array Value} (h : xt_Zq C n d A U U.heap) : (Cond.laysStatic C n d).before args U = true := by
  obtain ⟨c, k, i, f, a, ce, r, h1, h2, h3, h4, h5, h6, h7, h8, h9, -⟩ := h
  exact Cond.laysStatic_of h1 h2 h3 h4 h5 h6 h7 h8 h9
theorem xt_Zref {C n d : String} {A : Nat → Prop} {U : State} {args : Array Value} (h : xt_Zq C n d A U U.heap) : (Cond.isRef (.static C n d)).before args U = true := by
  obtain ⟨c, k, i, f, a, ce, r, h1, h2, h3, h4, h5, h6, h7, h8, h9, h10, h11, -⟩ := h
  have key : (Term.static C n d).eval args U none [] U = some r := by
    simp [Term.eval, State.fieldNamed?, h2, h3, h4, h5, h6, h10]
  rcases h11 with rfl | ⟨t, rfl⟩
  · simp [Cond.before, Cond.holds, Cond.value, key]
  · simp [Cond.before, Cond.holds, Cond.value, key]
/-- a class can be assigned to another -/
def xt_Ca (K C : String) (U : State) : Prop := ∃ c t : ClassId, U.vm.findClass K = some c ∧ U.vm.findClass C = some t ∧ U.vm.assignable c t = true
theorem xt_Ca.moved {K C : String} {u U : State} (hvm : u.vm.Alike U.vm) (h : xt_Ca K C u) : xt_Ca K C U := by
  obtain ⟨c, t, h1, h2, h3⟩ := h
  exact ⟨c, t, by rw [hvm.findClass]; exact h1, by rw [hvm.findClass]; exact h2, by rw [hvm.assignable]; exact h3⟩
theorem xt_Ca.use {K C : String} {U : State} {args : Array Value} (h : xt_Ca K C U) : (Cond.castable K C).before args U = true := by
  obtain ⟨c, t, h1, h2, h3⟩ := h
  simp [Cond.before, Cond.holds, Cond.value, h1, h2, h3]
def xt_dl : List String := ["java/lang/RuntimeException", "java/lang/Exception", "java/lang/Throwable"]
/-- what an exception's making needs of the start: two statics, and that the four classes are what they are -/
def xt_Zs (A : Nat → Prop) (U : State) (H : Heap) : Prop := xt_Zq "java/lang/Throwable" "UNASSIGNED_STACK" "[Ljava/lang/StackTraceElement;" A U H ∧ xt_Zq "java/lang/Throwable" "SUPPRESSED_SENTINEL" "Ljava/util/List;" A U H ∧ (∀ k, xt_Ca (xt_nm k) (xt_nm k) U) ∧ ∀ Y ∈ xt_dl, va_Nw (.declares ⟨Y, "<init>", "()V"⟩) U
theorem xt_Zs.moved {A : Nat → Prop} {u U : State} {H : Heap} (hvm : u.WarmedH U.vm) (h : xt_Zs A u H) : xt_Zs A U H := ⟨h.1.moved hvm.alike, h.2.1.moved hvm.alike, fun k => (h.2.2.1 k).moved hvm.alike, fun Y hY => va_Nw.warmD hvm (h.2.2.2 Y hY)⟩
theorem xt_Zs.kept {A : Nat → Prop} {U : State} {H H1 : Heap} (h : xt_Zs A U H) (hq : ∀ a : Nat, a < H.size → ¬ A a → H1[a]? = H[a]?) : xt_Zs A U H1 := ⟨h.1.kept hq, h.2.1.kept hq, h.2.2⟩
theorem xt_Zs.narrow {A B : Nat → Prop} {U : State} {H : Heap} (h : xt_Zs A U H) (hAB : ∀ q, B q → A q) : xt_Zs B U H := ⟨h.1.narrow hAB, h.2.1.narrow hAB, h.2.2⟩
section XTR
variable {p : Program} {l : Launch} {e : Env} {R : Room} {s : State} {m : MethodId} {args : Array Value} {below : List Frame} {meth : Method} {c : Code} {T : State} {locs : List Loc} {cells slots : Nat}
/-- the walk seen from here on: as if the method had been called at this heap -/
theorem xt_rebase (X : Stand p l e R s m args below meth c T locs cells slots) {R1 : Room} (h1 : R1.frames ≤ R.frames) (h2 : R1.locals ≤ R.locals) (h3 : cells + R1.cells ≤ R.cells) (h4 : slots + R1.slots ≤ R.slots) : Stand p l e R1 (T.setFrames (.invoking m args :: below)) m args below meth c T [] 0 0 := by
  obtain ⟨g₀, hfr⟩ := X.frames_eq
  have hcur : T.cur < T.threads.size := State.cur_lt_of_frames hfr
  have hf : (T.setFrames (.invoking m args :: below)).frames = .invoking m args :: below := State.frames_setFrames _ hcur
  obtain ⟨th, hth, -⟩ := State.frames_cons hfr
  refine ⟨X.admits, X.cas, X.clock, hf, ?_, ?_, X.method', X.code, X.here, X.tail, State.WarmedH.refl (T.setFrames (.invoking m args :: below)), ?_, ?_, ?_⟩
  · have hr := X.room
    simp only [State.hasRoom, Bool.and_eq_true, decide_eq_true_eq] at hr ⊢
    have hl1 := State.localsInUse_invoking X.frames X.method X.code
    have hl2 := State.localsInUse_invoking (s := T.setFrames (.invoking m args :: below)) hf X.method' X.code
    rw [hl1, X.frames] at hr
    rw [hl2, hf, State.stackLimits_setFrames, X.limits, State.stackBytes_setFrames, X.bytes]
    have hh : T.heap.size ≤ s.heap.size + cells := X.heapSize
    have hu : T.slotsUsed ≤ s.slotsUsed + slots := X.used
    obtain ⟨⟨⟨⟨a1, a2, a3, a4, a5, a6⟩, b⟩, d⟩, f⟩ := hr
    exact ⟨⟨⟨⟨by omega, by omega, by omega, by omega, by omega, a6⟩, show T.heap.size + _ ≤ _ by omega⟩, show T.slotsUsed + _ ≤ _ by omega⟩, X.book⟩
  · have hh := X.hears
    have hm : T.vm.method? m = s.vm.method? m := by rw [X.method]; exact X.method'
    have hcd : ∀ g : JFrame, (T.setFrames (.invoking m args :: below)).code? g.method = s.code? g.method := by
      intro g
      rw [State.code?_eq, State.code?_eq]
      show (T.vm.method? g.method).bind _ = _
      rw [X.warmed.alike.method?]
    cases below with
    | nil => simpa [State.hears, hm] using hh
    | cons f r => cases f <;> simp_all [State.hears]
  · exact (State.stackLimits_setFrames _ _ _).symm
  · exact (State.stackBytes_setFrames _ _).symm
  · obtain ⟨t2, ht2, -⟩ := State.frames_cons hf
    have h := (State.sameButNew.refl (T.setFrames (.invoking m args :: below)) ht2).setFrames T.frames (State.cur_lt_of_frames hf)
    rw [State.setFrames_setFrames, State.setFrames_self hth] at h
    exact h
/-- what has happened since then, seen from the method's own start -/
theorem xt_since (X : Stand p l e R s m args below meth c T locs cells slots) {U : State} {L : List Loc} {k n : Nat} (hW : (T.setFrames (.invoking m args :: below)).WarmedH U.vm) (h : (T.setFrames (.invoking m args :: below)).sameButNew ({ U with vm := (T.setFrames (.invoking m args :: below)).vm } : State) L k n) : s.WarmedH U.vm ∧ s.sameButNew ({ U with vm := s.vm } : State) (locs ++ L) (cells + k) (slots + n) := by
  have hW1 : T.WarmedH U.vm := hW
  refine ⟨State.WarmedH.trans X.warmed hW1, ?_⟩
  have h1 : T.sameButNew ({ U with vm := T.vm } : State) L k n := by
    obtain ⟨e2, q2, q3, q4, q5, q6⟩ := h
    refine ⟨?_, q2, q3, q4, q5, q6⟩
    rw [State.setFrames_setFrames] at e2
    exact e2
  exact X.same.trans (h1.setVm s.vm)
end XTR
/-- the end of a walk in an exception of the kind k, the world as u1 says -/
def xt_MQ (below : List Frame) (D : va_G) (cA : Nat → ClassId) (hs : Nat → Nat) (z : gw_Sh) (A : Nat → Prop) (s : State) (k : Nat) (u1 : gw_St) (mc ms : Nat) : State → Prop := fun t =>
  ∃ x, t.status = .running ∧ Ended t below (.threw x) ∧ s.heap.size ≤ x ∧ xt_is k x t ∧ gw_At D cA hs z A u1 t ∧ va_F A s t ∧ s.WarmedH t.vm ∧ ∃ L, s.sameButNew ({ t with vm := s.vm } : State) L mc ms ∧ ∀ q ∈ L, A q.base
theorem xt_kept {s1 t : State} {k n : Nat} (h : s1.sameButNew ({ t with vm := s1.vm } : State) [] k n) : ∀ q : Nat, q < s1.heap.size → t.heap[q]? = s1.heap[q]? := by
  intro q hq
  obtain ⟨-, -, -, -, -, q6⟩ := h
  obtain ⟨c', h1, h2, h3, h4⟩ := q6 q s1.heap[q] (Array.getElem?_eq_getElem hq)
  have h1 : t.heap[q]? = some c' := h1
  rw [h1, Array.getElem?_eq_getElem hq]
  have e : c'.slots = s1.heap[q].slots := by
    apply Array.ext_getElem?
    intro i
    exact h4 i (by simp)
  rw [h2, e]
section XTT
variable {p : Program} {l : Launch} {e : Env} {R : Room} {s : State} {m : MethodId} {args : Array Value} {below : List Frame} {meth : Method} {c : Code} {H : Heap} {locs : List Loc} {cells slots : Nat}
variable {cc : ByteArray} {nL pc : Nat} {ls : Array Slot} {D : va_G} {cA : Nat → ClassId} {hs : Nat → Nat} {z : gw_Sh} {A : Nat → Prop} {u : gw_St} {own : String}
set_option maxHeartbeats 4000000 in
theorem xt_throw (C : gw_Cx p s m args c cc nL own D cA) (hW : gw_Wd D cA hs z A s.heap u H locs) (hA : ∀ q, s.heap.size ≤ q → A q) (hZ : xt_Zs A s s.heap) (htr : e.platform.stackTraces = false) (hls : ls.size = nL) (hlocks : meth.locks = false) (hout : ∀ x ∈ c.exceptionTable.toList, covers x (pc + 7) = false) {k i0 i1 : Nat}
    (hfit : Bundle.fit (xt_nm k) = true) (hat : ∀ a ∈ Bundle.ownAtoms0 own i1 (xt_nm k) xt_up, a ∈ gt_T ∨ a = .isRef (.static "java/lang/Throwable" "UNASSIGNED_STACK" "[Ljava/lang/StackTraceElement;") ∨ a = .isRef (.static "java/lang/Throwable" "SUPPRESSED_SENTINEL" "Ljava/util/List;") ∨ a = .laysStatic "java/lang/Throwable" "UNASSIGNED_STACK" "[Ljava/lang/StackTraceElement;" ∨ a = .laysStatic "java/lang/Throwable" "SUPPRESSED_SENTINEL" "Ljava/util/List;" ∨ a = .castable (xt_nm k) (xt_nm k) ∨ ∃ Y ∈ xt_dl, a = .declares ⟨Y, "<init>", "()V"⟩) (h1 : Cond.classLink own i0 (xt_nm k) ∈ gt_T) (h2 : Cond.instantiable (xt_nm k) 6 ∈ gt_T) (h3 : Cond.initialized (xt_nm k) ∈ gt_T)
    (hd0 : decode cc pc = .ok (.new i0, 3)) (hd1 : decode cc (pc + 3) = .ok (.dup, 1)) (hd2 : decode cc (pc + 4) = .ok (.invokespecial i1, 3)) (hd3 : decode cc (pc + 7) = .ok (.athrow, 1)) (hR1 : 6 ≤ R.frames) (hR2 : 120 ≤ R.locals) (hR3 : cells + 1 ≤ R.cells) (hR4 : slots + 6 ≤ R.slots) : W p l e R s m args below meth c H locs cells slots (xt_MQ below D cA hs z A s k u (cells + 1) (slots + 6)) (F0 m pc ls []) := by
  obtain ⟨hx, hb, hml, hown, hts, hK⟩ := C
  obtain ⟨hP, hD, hS, hT0⟩ := hW
  intro T hT X
  have Y := xt_rebase X (R1 := { frames := R.frames, cells := 1, slots := 6, locals := R.locals }) (Nat.le_refl _) (Nat.le_refl _) hR3 hR4
  generalize hs1 : T.setFrames (.invoking m args :: below) = s1 at Y
  have hv1 : s1.vm = T.vm := by rw [← hs1]; rfl
  have hh1 : s1.heap = T.heap := by rw [← hs1]; rfl
  have hWm : s.WarmedH s1.vm := by rw [hv1]; exact X.warmed
  have hts1 : ∀ w ∈ gt_T, w.before args s1 = true := fun w hw => word_at hWm (gt_good w hw) (hts w hw)
  have hown1 : s1.vm.findClass own = some m.cls := by rw [hWm.alike.findClass]; exact hown
  have hZ1 : xt_Zs A s1 s1.heap := by
    refine xt_Zs.moved hWm (xt_Zs.kept hZ (fun a ha hn => ?_))
    rw [hh1, hT]
    exact hS.2.1 a ha hn
  obtain ⟨cX, kX, hfc, hkX, -⟩ := Cond.instantiable_spec (hts1 _ h2)
  have K : W p l e { frames := R.frames, cells := 1, slots := 6, locals := R.locals } s1 m args below meth c s1.heap [] 0 0 (fun t => t.status = .running ∧ Ended t below (.threw s1.heap.size) ∧ s1.WarmedH t.vm ∧ s1.sameButNew ({ t with vm := s1.vm } : State) [] 1 6 ∧ ∃ ce : Cell, t.heap[s1.heap.size]? = some ce ∧ ce.vm = .none ∧ s1.vm.findClass (xt_nm k) = some ce.cls) (F0 m pc ls []) := by
    refine W.newcK hx hb hown1 (hts1 _ h1) (hts1 _ h2) (hts1 _ h3) rfl hd0 (Nat.le_refl _) (Nat.le_refl _) hfc rfl fun H1 kC hkC e1 z1 o1 => ?_
    refine lv_dup hx hb hd1 rfl ?_
    intro T2 hT2 X2
    cases hkX.symm.trans hkC
    obtain ⟨U, st, hrun, hend, hWU, hsame, ce, hce, ho⟩ := X2.ctorThrow0 hx htr (own := own) (cls := xt_nm k) (names := xt_up) (ic := i1) hown1 hfit (by decide +kernel) (fun a ha => by
        rcases hat a ha with h | rfl | rfl | rfl | rfl | rfl | ⟨Y, hY, rfl⟩
        · exact hts1 a h
        · exact xt_Zref hZ1.1
        · exact xt_Zref hZ1.2.1
        · exact xt_Zlays hZ1.1
        · exact xt_Zlays hZ1.2.1
        · exact (hZ1.2.2.1 k).use
        · exact va_Nw.use rfl (hZ1.2.2.2 Y hY)) (fun x hx => by cases hx) hfc hkX (a := s1.heap.size) (by rw [hT2]; exact e1) (Nat.le_refl _) (g := F0 m (pc + 3 + 1) ls [.ref s1.heap.size, .ref s1.heap.size]) rfl (hls.trans hml.symm) rfl rfl rfl (by rw [hb]; exact hd2) (by rw [hb]; exact hd3) hout (show 2 + 3 < R.frames by omega) (by have hq := lv_room (m := m) (pc := pc + 3 + 1) (ls := ls) (rest := [.ref s1.heap.size, .ref s1.heap.size]) (st := [Value.ref s1.heap.size]) (Nat.le_of_ble_eq_true rfl); exact Nat.le_trans (Nat.add_le_add_right hq _) (show 8 + (13 * (2 + 1) + 41) ≤ R.locals by omega)) hlocks
    exact ⟨U, st, hrun, hend, hWU, hsame, ce, hce, ho.vm, ho.cls⟩
  obtain ⟨t, st, hrun, hend, hWU, hsame, ce, hce, hvm, hcls⟩ := K T hh1.symm Y
  have hk0 := xt_kept hsame
  rw [hh1, hT] at hk0
  have hz0 : H.size ≤ t.heap.size := by
    have := hsame.2.1
    rw [hh1, hT] at this
    exact this
  obtain ⟨w1, w2⟩ := xt_since X (by rw [hs1]; exact hWU) (by rw [hs1]; exact hsame)
  refine ⟨t, st, s1.heap.size, hrun, hend, by rw [hh1, hT]; exact hS.1, ⟨ce, hce, hvm, by rw [hWU.alike.findClass]; exact hcls⟩, ⟨hP.kept (fun j q hq => hk0 q.1 ((hP j q hq).lt)), va_K.moved w1.alike hK, hD, hT0⟩, ⟨Nat.le_trans hS.1 hz0, fun q h1 h2 => (hk0 q (Nat.lt_of_lt_of_le h1 hS.1)).trans (hS.2.1 q h1 h2)⟩, w1, _, w2, fun q hq => ?_⟩
  rw [List.append_nil] at hq
  exact hS.2.2 q hq
end XTT
