/-- the two neighbours of the wanted product -/
def Ptr (u : gw_St) (S lo hi T nm W g pl : Nat) (b : Nat → Nat) : Prop := u.1 1 13 = Int32.ofNat g ∧ g ≤ T ∧ ((u.1 1 11 = -1 ∧ pl = 0) ∨ ∃ mb, mb < T ∧ u.1 1 11 = Int32.ofNat mb ∧ isRep S lo hi (cx b mb) ∧ pP S (cx b mb) = pl ∧ pl * nm < W) ∧ ((u.1 1 12 = -1 ∧ g = T ∧ ∀ j, j < T → pP S (cx b j) ≤ pl) ∨ ∃ ma, ma < g ∧ u.1 1 12 = Int32.ofNat ma ∧ isRep S lo hi (cx b ma) ∧ pl < pP S (cx b ma) ∧ (∀ j, j < T → pP S (cx b j) ≤ pl ∨ pP S (cx b ma) ≤ pP S (cx b j)) ∧ (∀ j, j < g → pP S (cx b j) ≤ pP S (cx b ma)) ∧ ∀ j, g ≤ j → j < T → pP S (cx b ma) < pP S (cx b j))
theorem Ptr.same {u w : gw_St} {S lo hi T nm W g pl : Nat} {b : Nat → Nat} (h : Ptr u S lo hi T nm W g pl b) (e : ∀ k, 11 ≤ k → k ≤ 13 → w.1 1 k = u.1 1 k) : Ptr w S lo hi T nm W g pl b := by
  unfold Ptr
  rw [e 11 (by omega) (by omega), e 12 (by omega) (by omega), e 13 (by omega) (by omega)]
  exact h
theorem Ptr.more {u : gw_St} {S lo hi T nm W W' g pl : Nat} {b : Nat → Nat} (h : Ptr u S lo hi T nm W g pl b) (e : W ≤ W') : Ptr u S lo hi T nm W' g pl b := by
  obtain ⟨h1, h2, h3, h4⟩ := h
  refine ⟨h1, h2, ?_, h4⟩
  rcases h3 with h3 | ⟨mb, m1, m2, m3, m4, m5⟩
  · exact Or.inl h3
  · exact Or.inr ⟨mb, m1, m2, m3, m4, by omega⟩
theorem n1ne {m : Nat} (h : m < 2147483648) : ¬ Int32.ofNat m = (-1 : Int32) := fun e => by
  have := congrArg Int32.toInt e
  rw [i32_nat (by omega)] at this
  have o : (-1 : Int32).toInt = -1 := rfl
  omega
/-- isBelow -/
theorem tr_below {F : Nat} {u : gw_St} {S lo hi T q0 nm W m : Nat} {b : Nat → Nat} (hk : Tk u S lo hi T q0) (hs : Sa u S lo hi T q0 b) (h4 : u.2.1 1 4 = Int64.ofNat nm) (hn : nm < 2147483648) (hW : W < 2 ^ 60) (hm : m < T) : gf_Trains_isBelow F gv_z u 1 (Int32.ofNat m) (Int64.ofNat W) = some (if pP S (cx b m) * nm < W then 1 else 0, u) := by
  obtain ⟨hp, -, h6, h7, h8, h9, hq, h10, h11⟩ := id hk
  obtain ⟨n1, n2, n3⟩ := hk.num
  obtain ⟨l1, l2⟩ := hk.len
  obtain ⟨i1, -, i3, i4, i5⟩ := hs.at hp hm
  have hpm := (i1.prd hp).2
  have hmul : pP S (cx b m) * nm ≤ 207360000 * 2147483648 := Nat.mul_le_mul hpm (by omega)
  obtain ⟨c1, -⟩ := lg_c3 (x := pP S (cx b m) * nm) (y := W) (by omega) (by omega)
  have hpr : gf_Trains_product F gv_z u (u.2.1 q0 m) = some (Int64.ofNat (pP S (cx b m)), u) := by rw [hs.1 m hm, tr_product i3, i4]
  show gf_Trains_isBelow_b0 F gv_z u 1 (Int32.ofNat m) (Int64.ofNat W) = _
  unfold gf_Trains_isBelow_b0 gf_Trains_isBelow_b28 gf_Trains_isBelow_b29
  rw [if_neg (n1ne (by omega)), h10, gnn, if_neg (gi_ix (by rw [l1]; omega) (by omega)), i32_clamp (by omega), hpr]
  simp only [gf_cl]
  rw [h4, i64_mul]
  by_cases c : pP S (cx b m) * nm < W
  · rw [if_neg (fun e => by have := c1.mp e; omega), if_pos c, if_neg (by decide)]
  · rw [if_pos (c1.mpr (by omega)), if_neg c, if_neg (by decide)]
/-- the candidates are the two neighbours -/
theorem cand_two {u : gw_St} {S lo hi T q0 nm dn p g pl : Nat} {b : Nat → Nat} (hp : TaP S lo hi) (hs : Sa u S lo hi T q0 b) (hP : Ptr u S lo hi T nm (p * dn) g pl b) (hlast : ∀ ma, ma < T → u.1 1 12 = Int32.ofNat ma → p * dn ≤ pP S (cx b ma) * nm) (hT : T ≤ 37820) (e : Nat) : Cand S lo hi nm dn p e ↔ (∃ m, m < T ∧ u.1 1 11 = Int32.ofNat m ∧ e = cx b m) ∨ (∃ m, m < T ∧ u.1 1 12 = Int32.ofNat m ∧ e = cx b m) := by
  obtain ⟨h1, h2, h3, h4⟩ := hP
  have pos : ∀ x, isC S lo hi x → 0 < pP S x := fun x hx => (hx.prd hp).1
  have hpl : (pl = 0 ∨ pl * nm < p * dn) := by
    rcases h3 with ⟨-, h⟩ | ⟨mb, -, -, -, -, h⟩
    · exact Or.inl h
    · exact Or.inr h
  -- any choice is at or below the lower one, or at or above the upper one
  have hside : ∀ y, isC S lo hi y → pP S y ≤ pl ∨ ∃ ma, ma < T ∧ u.1 1 12 = Int32.ofNat ma ∧ pP S (cx b ma) ≤ pP S y := fun y hy => by
    obtain ⟨j, hj, ej⟩ := hs.2.2.2 y hy
    have ey : cx b j = y := by unfold cx; rw [ej]; exact (vv_lt hp hy).2.2
    rcases h4 with ⟨-, -, h⟩ | ⟨ma, a1, a2, a3, a4, a5, -⟩
    · rw [← ey]; exact Or.inl (h j hj)
    · rcases a5 j hj with h | h
      · rw [← ey]; exact Or.inl h
      · exact Or.inr ⟨ma, by omega, a2, by rw [← ey]; exact h⟩
  have hup : ∀ ma y, ma < T → u.1 1 12 = Int32.ofNat ma → pP S (cx b ma) ≤ pP S y → p * dn ≤ pP S y * nm := fun ma y q1 q2 q3 => Nat.le_trans (hlast ma q1 q2) (Nat.mul_le_mul_right _ q3)
  have hlow : ∀ y, isC S lo hi y → pP S y ≤ pl → pP S y * nm < p * dn := fun y hy q => by
    rcases hpl with h | h
    · have := pos y hy; omega
    · exact Nat.lt_of_le_of_lt (Nat.mul_le_mul_right _ q) h
  constructor
  · rintro ⟨r, c | c⟩
    · obtain ⟨c1, c2⟩ := c
      rcases h3 with ⟨-, z⟩ | ⟨mb, m1, m2, m3, m4, m5⟩
      · rcases hside e r.1 with q | ⟨ma, q1, q2, q3⟩
        · have := pos e r.1; omega
        · have := hup ma e q1 q2 q3; omega
      · refine Or.inl ⟨mb, m1, m2, r.uniq m3 ?_⟩
        have t1 := c2 (cx b mb) m3.1 (by rw [m4]; exact m5)
        rcases hside e r.1 with q | ⟨ma, q1, q2, q3⟩
        · omega
        · have := hup ma e q1 q2 q3; omega
    · obtain ⟨c1, c2⟩ := c
      rcases hside e r.1 with q | ⟨ma, q1, q2, q3⟩
      · have := hlow e r.1 q; omega
      · rcases h4 with ⟨z, -⟩ | ⟨ma', a1, a2, a3, -⟩
        · rw [q2] at z
          exact absurd z (n1ne (by omega))
        · have em : ma = ma' := (gi_eq (by omega) (by omega)).mp (by rw [← q2, a2])
          subst em
          refine Or.inr ⟨ma, q1, q2, r.uniq a3 ?_⟩
          have t1 := c2 (cx b ma) a3.1 (hlast ma q1 q2)
          omega
  · rintro (⟨m, q1, q2, q3⟩ | ⟨m, q1, q2, q3⟩)
    · rcases h3 with ⟨z, -⟩ | ⟨mb, m1, m2, m3, m4, m5⟩
      · rw [q2] at z
        exact absurd z (n1ne (by omega))
      · have em : m = mb := (gi_eq (by omega) (by omega)).mp (by rw [← q2, m2])
        subst em
        rw [q3]
        refine ⟨m3, Or.inl ⟨by rw [m4]; exact m5, fun y hy hyn => ?_⟩⟩
        rcases hside y hy with q | ⟨ma, r1, r2, r3⟩
        · omega
        · have := hup ma y r1 r2 r3; omega
    · rcases h4 with ⟨z, -⟩ | ⟨ma, a1, a2, a3, -⟩
      · rw [q2] at z
        exact absurd z (n1ne (by omega))
      · have em : m = ma := (gi_eq (by omega) (by omega)).mp (by rw [← q2, a2])
        subst em
        rw [q3]
        refine ⟨a3, Or.inr ⟨hlast m q1 q2, fun y hy hyn => ?_⟩⟩
        rcases hside y hy with q | ⟨ma, r1, r2, r3⟩
        · have := hlow y hy q; omega
        · have em : ma = m := (gi_eq (by omega) (by omega)).mp (by rw [← r2, q2])
          rw [← em]; exact r3
