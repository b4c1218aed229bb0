/-! THE WORLD: all objects and arrays of the system in the order in which they were made (a 'place' is that number). z: how many places, the kind of each (0..9 a class, 10 int[], 11 long[], 12 boolean[], 13 Fraction[]), the length of each array. u: the ints, the longs and the references (0 null, q + 1 the place q) of each place. hs: the address of each place. -/
abbrev gw_Sh : Type := Nat × (Nat → Nat) × (Nat → Nat)
abbrev gw_St : Type := (Nat → Nat → Int32) × (Nat → Nat → Int64) × (Nat → Nat → Nat)
def gw_rf (hs : Nat → Nat) (r : Nat) : Value := match r with
  | 0 => .null
  | q + 1 => .ref (hs q)
def gw_op (hs : Nat → Nat) (r : Nat) : Option Nat := match r with
  | 0 => none
  | q + 1 => some (hs q)
def gw_fv (hs : Nat → Nat) (u : gw_St) (p k t : Nat) : Value := match t with
  | 0 => .int (u.1 p k)
  | 1 => .long (u.2.1 p k)
  | _ => gw_rf hs (u.2.2 p k)
def gw_fs (hs : Nat → Nat) (u : gw_St) (c p : Nat) : List Value := (List.range (gt_nf c)).map (fun k => gw_fv hs u p k (gt_ty c k))
def gw_e (cA : Nat → ClassId) (hs : Nat → Nat) (z : gw_Sh) (u : gw_St) (p : Nat) : va_E :=
  if z.2.1 p = 10 then .inl (cA 0, z.2.2 p, .inl (u.1 p))
  else if z.2.1 p = 11 then .inl (cA 1, z.2.2 p, .inr (.inl (u.2.1 p)))
  else if z.2.1 p = 12 then .inl (cA 2, z.2.2 p, .inl (u.1 p))
  else if z.2.1 p = 13 then .inl (cA 3, z.2.2 p, .inr (.inr (.inr (.inr (fun j => gw_op hs (u.2.2 p j))))))
  else .inr (z.2.1 p, gw_fs hs u (z.2.1 p) p)
def gw_w (cA : Nat → ClassId) (hs : Nat → Nat) (z : gw_Sh) (u : gw_St) : va_W := (List.range z.1).map (fun p => (hs p, gw_e cA hs z u p))
/-- a place of a kind -/
def gw_ok (z : gw_Sh) (p c : Nat) : Prop := p < z.1 ∧ z.2.1 p = c
/-- a reference is null, or to a place of the kind that its declaration says -/
def gw_wt (z : gw_Sh) (u : gw_St) : Prop := ∀ p, p < z.1 → ∀ k q, u.2.2 p k = q + 1 → gw_ok z q (gt_rk (z.2.1 p) k)
/-- the array classes of the four kinds -/
def gw_ty (cA : Nat → ClassId) : List (ClassId × FieldType) := [(cA 0, .int), (cA 1, .long), (cA 2, .boolean), (cA 3, .object R_Fraction)]
/-- the world at a point of a walk -/
def gw_Wd (D : va_G) (cA : Nat → ClassId) (hs : Nat → Nat) (z : gw_Sh) (A : Nat → Prop) (H0 : Heap) (u : gw_St) (H : Heap) (locs : List Loc) : Prop :=
  va_P D gt_cl (gw_w cA hs z u) H ∧ va_D A (gw_w cA hs z u) ∧ va_S A H0 H locs ∧ gw_wt z u
/-- what a walk needs of the tables, besides the instructions -/
def gw_Cx (p : Program) (s : State) (m : MethodId) (args : Array Value) (c : Code) (cc : ByteArray) (nL : Nat) (own : String) (D : va_G) (cA : Nat → ClassId) : Prop :=
  p.tables.exec = Jvm.exec ∧ c.code = cc ∧ c.maxLocals = nL ∧ s.vm.findClass own = some m.cls ∧ (∀ w ∈ gt_T, w.before args s = true) ∧ va_K D gt_cl (gw_ty cA) s
def gw_wi (u : gw_St) (p k : Nat) (x : Int32) : gw_St := (fun q j => if q = p ∧ j = k then x else u.1 q j, u.2.1, u.2.2)
def gw_wl (u : gw_St) (p k : Nat) (x : Int64) : gw_St := (u.1, fun q j => if q = p ∧ j = k then x else u.2.1 q j, u.2.2)
def gw_wr (u : gw_St) (p k : Nat) (x : Nat) : gw_St := (u.1, u.2.1, fun q j => if q = p ∧ j = k then x else u.2.2 q j)
/-- a block of ints copied -/
def gw_cp (u : gw_St) (p0 sp p1 dp n : Nat) : gw_St := (fun q j => if q = p1 then va_cpy (u.1 p0) (u.1 p1) sp dp n j else u.1 q j, u.2.1, u.2.2)
theorem gw_at {cA : Nat → ClassId} {hs : Nat → Nat} {z : gw_Sh} {u : gw_St} {p : Nat} (h : p < z.1) : (gw_w cA hs z u)[p]? = some (hs p, gw_e cA hs z u p) := by
  unfold gw_w
  rw [List.getElem?_map, List.getElem?_range h]
  rfl
theorem gw_e0 {cA : Nat → ClassId} {hs : Nat → Nat} {z : gw_Sh} {u : gw_St} {p c : Nat} (h : z.2.1 p = c) (hc : c < 10) : gw_e cA hs z u p = .inr (c, gw_fs hs u c p) := by
  unfold gw_e
  rw [h, if_neg (by omega), if_neg (by omega), if_neg (by omega), if_neg (by omega)]
theorem gw_ato {cA : Nat → ClassId} {hs : Nat → Nat} {z : gw_Sh} {u : gw_St} {p c : Nat} (h : gw_ok z p c) (hc : c < 10) : (gw_w cA hs z u)[p]? = some (hs p, .inr (c, gw_fs hs u c p)) := by
  rw [gw_at h.1, gw_e0 h.2 hc]
theorem gw_ati {cA : Nat → ClassId} {hs : Nat → Nat} {z : gw_Sh} {u : gw_St} {p : Nat} (h : gw_ok z p 10) : (gw_w cA hs z u)[p]? = some (hs p, .inl (cA 0, z.2.2 p, .inl (u.1 p))) := by
  rw [gw_at h.1]
  unfold gw_e
  rw [h.2]
  rfl
theorem gw_atl {cA : Nat → ClassId} {hs : Nat → Nat} {z : gw_Sh} {u : gw_St} {p : Nat} (h : gw_ok z p 11) : (gw_w cA hs z u)[p]? = some (hs p, .inl (cA 1, z.2.2 p, .inr (.inl (u.2.1 p)))) := by
  rw [gw_at h.1]
  unfold gw_e
  rw [h.2]
  rfl
theorem gw_atz {cA : Nat → ClassId} {hs : Nat → Nat} {z : gw_Sh} {u : gw_St} {p : Nat} (h : gw_ok z p 12) : (gw_w cA hs z u)[p]? = some (hs p, .inl (cA 2, z.2.2 p, .inl (u.1 p))) := by
  rw [gw_at h.1]
  unfold gw_e
  rw [h.2]
  rfl
theorem gw_ata {cA : Nat → ClassId} {hs : Nat → Nat} {z : gw_Sh} {u : gw_St} {p : Nat} (h : gw_ok z p 13) : (gw_w cA hs z u)[p]? = some (hs p, .inl (cA 3, z.2.2 p, .inr (.inr (.inr (.inr (fun j => gw_op hs (u.2.2 p j))))))) := by
  rw [gw_at h.1]
  unfold gw_e
  rw [h.2]
  rfl
theorem gw_fsk {hs : Nat → Nat} {u : gw_St} {c p k N t : Nat} (hN : gt_nf c = N) (hk : k < N) (ht : gt_ty c k = t) : (gw_fs hs u c p)[k]? = some (gw_fv hs u p k t) := by
  unfold gw_fs
  rw [List.getElem?_map, List.getElem?_range (by rw [hN]; exact hk), ← ht]
  rfl
theorem gw_set {cA : Nat → ClassId} {hs : Nat → Nat} {z : gw_Sh} {u u1 : gw_St} {p : Nat} {e : va_E} (he : gw_e cA hs z u1 p = e) (hq : ∀ q, q ≠ p → gw_e cA hs z u1 q = gw_e cA hs z u q) : (gw_w cA hs z u).set p (hs p, e) = gw_w cA hs z u1 := by
  subst he
  apply List.ext_getElem?
  intro j
  unfold gw_w
  by_cases hj : j = p
  · subst hj
    by_cases hl : j < z.1
    · rw [List.getElem?_set_self (by simpa using hl), List.getElem?_map, List.getElem?_range hl]
      rfl
    · rw [List.getElem?_eq_none (by simp; omega), List.getElem?_eq_none (by simp; omega)]
  · rw [List.getElem?_set_ne (Ne.symm hj), List.getElem?_map, List.getElem?_map]
    by_cases hl : j < z.1
    · rw [List.getElem?_range hl]
      show some (hs j, gw_e cA hs z u j) = some (hs j, gw_e cA hs z u1 j)
      rw [hq j hj]
    · rw [List.getElem?_eq_none (by simp; omega)]
      rfl
theorem gw_eq {cA : Nat → ClassId} {hs : Nat → Nat} {z : gw_Sh} {u u1 : gw_St} {q : Nat} (h1 : u1.1 q = u.1 q) (h2 : u1.2.1 q = u.2.1 q) (h3 : u1.2.2 q = u.2.2 q) : gw_e cA hs z u1 q = gw_e cA hs z u q := by
  have hf : ∀ c, gw_fs hs u1 c q = gw_fs hs u c q := by
    intro c
    unfold gw_fs
    apply List.map_congr_left
    intro k _
    unfold gw_fv
    rw [h1, h2, h3]
  unfold gw_e
  rw [h1, h2, h3, hf]
theorem gw_wi_ne {u : gw_St} {p k q : Nat} {x : Int32} (h : q ≠ p) : (gw_wi u p k x).1 q = u.1 q := by
  funext j
  simp [gw_wi, h]
theorem gw_wl_ne {u : gw_St} {p k q : Nat} {x : Int64} (h : q ≠ p) : (gw_wl u p k x).2.1 q = u.2.1 q := by
  funext j
  simp [gw_wl, h]
theorem gw_wr_ne {u : gw_St} {p k q : Nat} {x : Nat} (h : q ≠ p) : (gw_wr u p k x).2.2 q = u.2.2 q := by
  funext j
  simp [gw_wr, h]
theorem gw_wi_at (u : gw_St) (p k : Nat) (x : Int32) : (gw_wi u p k x).1 p = upd (u.1 p) k x := by
  funext j
  simp [gw_wi, upd]
theorem gw_wl_at (u : gw_St) (p k : Nat) (x : Int64) : (gw_wl u p k x).2.1 p = vp_updL (u.2.1 p) k x := by
  funext j
  simp [gw_wl, vp_updL]
theorem gw_fs_set {hs : Nat → Nat} {u u1 : gw_St} {c p k t : Nat} {v : Value} (ht : gt_ty c k = t) (hv : gw_fv hs u1 p k t = v) (hq : ∀ j, j ≠ k → gw_fv hs u1 p j (gt_ty c j) = gw_fv hs u p j (gt_ty c j)) : (gw_fs hs u c p).set k v = gw_fs hs u1 c p := by
  subst hv; subst ht
  apply List.ext_getElem?
  intro j
  unfold gw_fs
  by_cases hj : j = k
  · subst hj
    by_cases hl : j < gt_nf c
    · rw [List.getElem?_set_self (by simpa using hl), List.getElem?_map, List.getElem?_range hl]
      rfl
    · rw [List.getElem?_eq_none (by simp; omega), List.getElem?_eq_none (by simp; omega)]
  · rw [List.getElem?_set_ne (Ne.symm hj), List.getElem?_map, List.getElem?_map]
    by_cases hl : j < gt_nf c
    · rw [List.getElem?_range hl]
      show some (gw_fv hs u p j (gt_ty c j)) = some (gw_fv hs u1 p j (gt_ty c j))
      rw [hq j hj]
    · rw [List.getElem?_eq_none (by simp; omega)]
      rfl
theorem gw_fv_i {hs : Nat → Nat} {u : gw_St} {p k j t : Nat} {x : Int32} (h : j ≠ k) : gw_fv hs (gw_wi u p k x) p j t = gw_fv hs u p j t := by
  unfold gw_fv
  have : (gw_wi u p k x).1 p j = u.1 p j := by simp [gw_wi, h]
  rw [this]
  rfl
theorem gw_fv_l {hs : Nat → Nat} {u : gw_St} {p k j t : Nat} {x : Int64} (h : j ≠ k) : gw_fv hs (gw_wl u p k x) p j t = gw_fv hs u p j t := by
  unfold gw_fv
  have : (gw_wl u p k x).2.1 p j = u.2.1 p j := by simp [gw_wl, h]
  rw [this]
  rfl
theorem gw_fv_r {hs : Nat → Nat} {u : gw_St} {p k j t : Nat} {x : Nat} (h : j ≠ k) : gw_fv hs (gw_wr u p k x) p j t = gw_fv hs u p j t := by
  unfold gw_fv
  have : (gw_wr u p k x).2.2 p j = u.2.2 p j := by simp [gw_wr, h]
  rw [this]
  rfl
theorem gw_fv_i0 {hs : Nat → Nat} {u : gw_St} {p k : Nat} {x : Int32} : gw_fv hs (gw_wi u p k x) p k 0 = .int x := by simp [gw_fv, gw_wi]
theorem gw_fv_l0 {hs : Nat → Nat} {u : gw_St} {p k : Nat} {x : Int64} : gw_fv hs (gw_wl u p k x) p k 1 = .long x := by simp [gw_fv, gw_wl]
theorem gw_fv_r0 {hs : Nat → Nat} {u : gw_St} {p k q t : Nat} : gw_fv hs (gw_wr u p k (q + 1)) p k (t + 2) = .ref (hs q) := by simp [gw_fv, gw_wr, gw_rf]
/-- the world behind a store: by the place that was written -/
theorem gw_Wd.put {D : va_G} {cA : Nat → ClassId} {hs : Nat → Nat} {z : gw_Sh} {A : Nat → Prop} {H0 H1 : Heap} {u1 : gw_St} {locs1 : List Loc} {ws1 : va_W} (e : ws1 = gw_w cA hs z u1) (hP : va_P D gt_cl ws1 H1) (hD : va_D A ws1) (hS : va_S A H0 H1 locs1) (ht : gw_wt z u1) : gw_Wd D cA hs z A H0 u1 H1 locs1 := by
  subst e
  exact ⟨hP, hD, hS, ht⟩
/-- what is read out of a reference's slot -/
theorem gw_Wd.ref {D : va_G} {cA : Nat → ClassId} {hs : Nat → Nat} {z : gw_Sh} {A : Nat → Prop} {H0 H : Heap} {u : gw_St} {locs : List Loc} (h : gw_Wd D cA hs z A H0 u H locs) {p c k q d : Nat} (hp : gw_ok z p c) (e : u.2.2 p k = q + 1) (hd : gt_rk c k = d) : gw_ok z q d := by
  have := h.2.2.2 p hp.1 k q e
  rw [hp.2, hd] at this
  exact this
theorem gw_wt_wr {z : gw_Sh} {u : gw_St} {p c k q : Nat} (h : gw_wt z u) (hp : gw_ok z p c) (hq : gw_ok z q (gt_rk c k)) : gw_wt z (gw_wr u p k (q + 1)) := by
  intro a ha j b hb
  by_cases hc : a = p ∧ j = k
  · obtain ⟨rfl, rfl⟩ := hc
    have : b = q := by simpa [gw_wr] using hb.symm
    subst this
    rw [hp.2]
    exact hq
  · have : u.2.2 a j = b + 1 := by simpa [gw_wr, hc] using hb
    exact h a ha j b this
