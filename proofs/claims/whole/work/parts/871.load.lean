/-! the class's cells -/
/-- the cell j = 60 row + column holds v -/
def Cw (u : gw_St) (j : Nat) (v : Int) : Prop := ∃ n, n ≤ 22 ∧ (∀ i, i < n → 0 ≤ (u.1 23 (22 * j + i)).toInt) ∧ (0 < n → (u.1 23 (22 * j + (n - 1))).toInt.toNat ≠ 0) ∧ ((n = 0 ∧ u.1 24 j = 0 ∧ v = 0) ∨ (0 < n ∧ u.1 24 j = Int32.ofNat n ∧ v = (bv 2147483648 (fun i => (u.1 23 (22 * j + i)).toInt.toNat) n : Int)) ∨ (0 < n ∧ u.1 24 j = -(Int32.ofNat n) ∧ v = -(bv 2147483648 (fun i => (u.1 23 (22 * j + i)).toInt.toNat) n : Int)))
theorem Cw.same {u w : gw_St} {j : Nat} {v : Int} (h : Cw u j v) (e1 : w.1 24 j = u.1 24 j) (e2 : ∀ i, i < 22 → w.1 23 (22 * j + i) = u.1 23 (22 * j + i)) : Cw w j v := by
  obtain ⟨n, a1, a2, a3, a4⟩ := h
  have hb : bv 2147483648 (fun i => (w.1 23 (22 * j + i)).toInt.toNat) n = bv 2147483648 (fun i => (u.1 23 (22 * j + i)).toInt.toNat) n := bv_congr (fun i hi => by rw [e2 i (by omega)])
  refine ⟨n, a1, fun i hi => by rw [e2 i (by omega)]; exact a2 i hi, fun h0 => by rw [e2 _ (by omega)]; exact a3 h0, ?_⟩
  rw [e1, hb]
  exact a4
theorem gv_r22_0 : gv_u.2.2 22 0 = 10 := by decide +kernel
theorem gv_r22_1 : gv_u.2.2 22 1 = 24 := by decide +kernel
theorem gv_r22_2 : gv_u.2.2 22 2 = 25 := by decide +kernel
theorem gv_l23 : gv_z.2.2 23 = 79200 := by decide +kernel
theorem gv_l24 : gv_z.2.2 24 = 3600 := by decide +kernel
theorem sg_tab : ∀ n, n < 23 → (0 < n → ((Int32.ofNat n >>> ((31 : Int32) &&& 31)) ||| ((((-(Int32.ofNat n))).toUInt32 >>> (((31 : Int32)).toUInt32 &&& Int32.toUInt32 31)).toInt32)) = 1 ∧ (((-(Int32.ofNat n)) >>> ((31 : Int32) &&& 31)) ||| ((((-(-(Int32.ofNat n)))).toUInt32 >>> (((31 : Int32)).toUInt32 &&& Int32.toUInt32 31)).toInt32)) = -1) ∧ (if 0 ≤ Int32.ofNat n then Int32.ofNat n else 0 - Int32.ofNat n) = Int32.ofNat n ∧ (if 0 ≤ -(Int32.ofNat n) then -(Int32.ofNat n) else 0 - -(Int32.ofNat n)) = Int32.ofNat n ∧ 1 * Int32.ofNat n = Int32.ofNat n ∧ -1 * Int32.ofNat n = -(Int32.ofNat n) := by decide +kernel
theorem gi_cell {a k : Nat} : Int32.ofNat a * (60 : Int32) + Int32.ofNat k = Int32.ofNat (60 * a + k) := by
  rw [show (60 : Int32) = Int32.ofNat 60 from rfl, gi_mul, gi_add, Nat.mul_comm]
theorem gi_22 {a : Nat} : Int32.ofNat a * (22 : Int32) = Int32.ofNat (22 * a) := by
  rw [show (22 : Int32) = Int32.ofNat 22 from rfl, gi_mul, Nat.mul_comm]
theorem eq_load {F : Nat} {u : gw_St} {p q row col : Nat} {v : Int} (hr : gv_Rf u) (hpq : p ≠ q) (hp : 24 < p) (hq : 24 < q) (hrp : u.2.2 p 0 = q + 1) (hc : 22 ≤ gv_z.2.2 q) (h1 : row < 60) (h2 : col < 60) (h : Cw u (60 * row + col) v) : ∃ w n, gf_Equations_load F gv_z u 22 p (Int32.ofNat row) (Int32.ofNat col) = some w ∧ Wf p q u w ∧ n ≤ 22 ∧ Wd w p q n v := by
  obtain ⟨n, a1, a2, a3, a4⟩ := h
  obtain ⟨t1, t2, t3, -, -⟩ := sg_tab n (by omega)
  have hj : 60 * row + col < 3600 := by omega
  obtain ⟨j, hje⟩ : ∃ j, j = 60 * row + col := ⟨_, rfl⟩
  rw [← hje] at a2 a3 a4 hj
  obtain ⟨sg, hsg, hab, hsn⟩ : ∃ sg : Int32, (sg = 0 ∧ n = 0 ∨ sg = 1 ∧ 0 < n ∧ u.1 24 j = Int32.ofNat n ∨ sg = -1 ∧ 0 < n ∧ u.1 24 j = -(Int32.ofNat n)) ∧ (if 0 ≤ u.1 24 j then u.1 24 j else 0 - u.1 24 j) = Int32.ofNat n ∧ ((u.1 24 j >>> ((31 : Int32) &&& 31)) ||| ((((-(u.1 24 j))).toUInt32 >>> (((31 : Int32)).toUInt32 &&& Int32.toUInt32 31)).toInt32)) = sg := by
    rcases a4 with ⟨b1, b2, b3⟩ | ⟨b1, b2, b3⟩ | ⟨b1, b2, b3⟩
    · exact ⟨0, Or.inl ⟨rfl, b1⟩, by rw [b2, b1]; rfl, by rw [b2]; rfl⟩
    · exact ⟨1, Or.inr (Or.inl ⟨rfl, b1, b2⟩), by rw [b2]; exact t2, by rw [b2]; exact (t1 b1).1⟩
    · exact ⟨-1, Or.inr (Or.inr ⟨rfl, b1, b2⟩), by rw [b2]; exact t3, by rw [b2]; exact (t1 b1).2⟩
  generalize hw : gw_cp (gw_wi (gw_wi u p 1 (Int32.ofNat n)) p 2 sg) 23 (22 * j) q 0 n = w
  have hb : gf_Equations_load F gv_z u 22 p (Int32.ofNat row) (Int32.ofNat col) = some w := by
    show gf_Equations_load_b0 F gv_z u 22 p (Int32.ofNat row) (Int32.ofNat col) = _
    unfold gf_Equations_load_b0
    rw [show gf_Equations_at F gv_z u (Int32.ofNat row) (Int32.ofNat col) = some (Int32.ofNat j, u) from by show some (Int32.ofNat row * 60 + Int32.ofNat col, u) = _; rw [gi_cell, ← hje]]
    simp only [gf_cl]
    have r1 : gv_Rf (gw_wi u p 1 (Int32.ofNat n)) := hr.eq rfl
    have r2 : gv_Rf (gw_wi (gw_wi u p 1 (Int32.ofNat n)) p 2 sg) := hr.eq rfl
    rw [hr.get rfl gv_r22_2, gnn, if_neg (gi_ix (by rw [gv_l24]; omega) (by omega)), i32_clamp (by omega), hab]
    simp only [gf_nm]
    rw [r1.get rfl gv_r22_2, gnn, if_neg (gi_ic (by rw [gv_l24]; omega) (by omega)), wi_ne (show ¬ (24 = p ∧ j = 1) by omega), show gf_Integer_signum F gv_z (gw_wi u p 1 (Int32.ofNat n)) (u.1 24 j) = some (sg, gw_wi u p 1 (Int32.ofNat n)) from by show some (_, _) = _; rw [hsn]]
    simp only []
    have h1' : (gw_wi (gw_wi u p 1 (Int32.ofNat n)) p 2 sg).1 p 1 = Int32.ofNat n := by rw [wi_ne (by omega), wi_same]
    rw [r2.get rfl gv_r22_1, gnn, show (gw_wi (gw_wi u p 1 (Int32.ofNat n)) p 2 sg).2.2 p 0 = q + 1 from hrp, gnn, h1', gi_22, i32_clamp (by omega), i32_clamp (by omega), if_neg]
    · rw [← hw]
      rfl
    · rintro (c | c | c | c | c)
      · exact gi_n0 (by omega) c
      · exact absurd c (by decide)
      · exact gi_n0 (by omega) c
      · rw [gv_l23] at c; omega
      · have : (0 : Int32).toNatClampNeg = 0 := rfl
        omega
  have hl : ∀ i, i < n → w.1 q i = u.1 23 (22 * j + i) := by
    intro i hi
    rw [← hw]
    simp only [gw_wi, gw_cp, va_cpy]
    rw [if_pos True.intro, if_pos (by omega), if_neg (by omega), if_neg (by omega)]
    simp
  have hlm : ∀ i, i < n → lm w q i = (u.1 23 (22 * j + i)).toInt.toNat := fun i hi => by unfold lm; rw [hl i hi]
  have hv : wv w q n = bv 2147483648 (fun i => (u.1 23 (22 * j + i)).toInt.toNat) n := bv_congr hlm
  have hp1 : w.1 p 1 = Int32.ofNat n := by
    rw [← hw]
    simp only [gw_cp]
    rw [if_neg hpq, wi_ne (by omega), wi_same]
  have hp2 : w.1 p 2 = sg := by
    rw [← hw]
    simp only [gw_cp]
    rw [if_neg hpq, wi_same]
  refine ⟨w, n, hb, ⟨by rw [← hw]; rfl, fun a k g1 g2 => ?_⟩, a1, by omega, hp1, fun i hi => by rw [hl i hi]; exact a2 i hi, fun h0 => by rw [hlm _ (by omega)]; exact a3 h0, ?_⟩
  · rw [← hw]
    simp only [gw_cp]
    rw [if_neg g1, wi_ne (by omega), wi_ne (by omega)]
  · rw [hv, hp2]
    rcases a4 with ⟨b1, b2, b3⟩ | ⟨b1, b2, b3⟩ | ⟨b1, b2, b3⟩
    · rcases hsg with ⟨c1, c2⟩ | ⟨c1, c2, -⟩ | ⟨c1, c2, -⟩
      · exact Or.inl ⟨b1, c1, b3⟩
      · omega
      · omega
    · rcases hsg with ⟨c1, c2⟩ | ⟨c1, c2, -⟩ | ⟨c1, c2, c3⟩
      · omega
      · exact Or.inr (Or.inl ⟨b1, c1, b3⟩)
      · rw [b2] at c3
        have := (t1 b1).1
        rw [c3, (t1 b1).2] at this
        exact absurd this (by decide)
    · rcases hsg with ⟨c1, c2⟩ | ⟨c1, c2, c3⟩ | ⟨c1, c2, -⟩
      · omega
      · rw [b2] at c3
        have := (t1 b1).2
        rw [c3, (t1 b1).1] at this
        exact absurd this (by decide)
      · exact Or.inr (Or.inr ⟨b1, c1, b3⟩)
