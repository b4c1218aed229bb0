/-! the reference's choices in a heap -/
theorem gv_r670_10 : gv_u.2.2 670 10 = 672 := by decide +kernel
theorem gv_r670_11 : gv_u.2.2 670 11 = 673 := by decide +kernel
theorem gv_r670_12 : gv_u.2.2 670 12 = 674 := by decide +kernel
theorem gv_l671 : gv_z.2.2 671 = 37820 := by decide +kernel
theorem gv_l672 : gv_z.2.2 672 = 37820 := by decide +kernel
theorem gv_l673 : gv_z.2.2 673 = 37820 := by decide +kernel
/-- product, teeth and code as one number -/
def kp (a : Nat) : Nat := a / 274877906944
def kt (a : Nat) : Nat := a / 268435456 % 1024
def kc (a : Nat) : Nat := a % 268435456
/-- the reference's arrays hold the keys a 0 .. a (N - 1) -/
def Hv (u : gw_St) (a : Nat → Nat) (N : Nat) : Prop := ∀ i, i < N → u.1 671 i = Int32.ofNat (kp (a i)) ∧ u.1 672 i = Int32.ofNat (kc (a i)) ∧ u.1 673 i = Int32.ofNat (kt (a i)) ∧ kp (a i) < 268435456
/-- only the arrays are changed -/
def Mh (u w : gw_St) : Prop := w.2 = u.2 ∧ ∀ p k, ¬ (671 ≤ p ∧ p ≤ 673) → w.1 p k = u.1 p k
theorem Mh.refl {u : gw_St} : Mh u u := ⟨rfl, fun _ _ _ => rfl⟩
theorem Mh.trans {u v w : gw_St} (h : Mh u v) (g : Mh v w) : Mh u w := ⟨g.1.trans h.1, fun p k q => (g.2 p k q).trans (h.2 p k q)⟩
theorem gv_Rf.mh {u w : gw_St} (h : gv_Rf u) (f : Mh u w) : gv_Rf w := h.eq (by rw [f.1])
def swp (a : Nat → Nat) (i j k : Nat) : Nat := if k = j then a i else if k = i then a j else a k
theorem key_lt {x y : Nat} : x < y ↔ kp x < kp y ∨ kp x = kp y ∧ (kt x < kt y ∨ kt x = kt y ∧ kc x < kc y) := by
  unfold kp kt kc
  omega
/-- isLater -/
theorem gm_later {F : Nat} {u : gw_St} {a : Nat → Nat} {N i j : Nat} (hr : gv_Rf u) (h : Hv u a N) (hN : N ≤ 37820) (hi : i < N) (hj : j < N) : gf_Model_isLater F gv_z u 670 (Int32.ofNat i) (Int32.ofNat j) = some (if a j < a i then 1 else 0, u) := by
  obtain ⟨i1, i2, i3, i4⟩ := h i hi
  obtain ⟨j1, j2, j3, j4⟩ := h j hj
  have ti : kt (a i) < 1024 := Nat.mod_lt _ (by decide)
  have tj : kt (a j) < 1024 := Nat.mod_lt _ (by decide)
  have ci : kc (a i) < 268435456 := Nat.mod_lt _ (by decide)
  have cj : kc (a j) < 268435456 := Nat.mod_lt _ (by decide)
  have hk := key_lt (x := a j) (y := a i)
  have b96 : ∀ v : gw_St, gf_Model_isLater_b96 F gv_z v 0 = some (0, v) ∧ gf_Model_isLater_b96 F gv_z v 1 = some (1, v) := fun v => by
    unfold gf_Model_isLater_b96
    exact ⟨by rw [if_neg (by decide)], by rw [if_neg (by decide)]⟩
  show gf_Model_isLater_b0 F gv_z u 670 (Int32.ofNat i) (Int32.ofNat j) = _
  unfold gf_Model_isLater_b0
  rw [(b96 u).1, (b96 u).2, hr.get rfl gv_r670_10, gnn, if_neg (gi_ix (k := i) (by rw [gv_l671]; omega) (by omega)), i32_clamp (n := i) (by omega), gnn, if_neg (gi_ix (k := j) (by rw [gv_l671]; omega) (by omega)), i32_clamp (n := j) (by omega), i1, j1]
  by_cases c1 : kp (a i) = kp (a j)
  · rw [if_pos (by rw [c1]), hr.get rfl gv_r670_12, gnn, if_neg (gi_ic (by rw [gv_l673]; omega) (by omega)), gnn, if_neg (gi_ic (by rw [gv_l673]; omega) (by omega)), i3, j3]
    by_cases c2 : kt (a i) = kt (a j)
    · rw [if_pos (by rw [c2]), hr.get rfl gv_r670_11, gnn, if_neg (gi_ic (by rw [gv_l672]; omega) (by omega)), gnn, if_neg (gi_ic (by rw [gv_l672]; omega) (by omega)), i2, j2]
      by_cases c3 : kc (a i) ≤ kc (a j)
      · rw [if_pos ((gi_le (by omega) (by omega)).mpr c3), if_neg (fun e => by have := hk.mp e; omega)]
      · rw [if_neg (fun e => c3 ((gi_le (by omega) (by omega)).mp e)), if_pos (hk.mpr (by omega))]
    · rw [if_neg (fun e => c2 ((gi_eq (by omega) (by omega)).mp e)), gnn, if_neg (gi_ic (by rw [gv_l673]; omega) (by omega)), gnn, if_neg (gi_ic (by rw [gv_l673]; omega) (by omega)), i3, j3]
      by_cases c3 : kt (a i) ≤ kt (a j)
      · rw [if_pos ((gi_le (by omega) (by omega)).mpr c3), if_neg (fun e => by have := hk.mp e; omega)]
      · rw [if_neg (fun e => c3 ((gi_le (by omega) (by omega)).mp e)), if_pos (hk.mpr (by omega))]
  · rw [if_neg (fun e => c1 ((gi_eq (by omega) (by omega)).mp e)), gnn, if_neg (gi_ic (by rw [gv_l671]; omega) (by omega)), gnn, if_neg (gi_ic (by rw [gv_l671]; omega) (by omega)), i1, j1]
    by_cases c3 : kp (a i) ≤ kp (a j)
    · rw [if_pos ((gi_le (by omega) (by omega)).mpr c3), if_neg (fun e => by have := hk.mp e; omega)]
    · rw [if_neg (fun e => c3 ((gi_le (by omega) (by omega)).mp e)), if_pos (hk.mpr (by omega))]
/-- swap -/
theorem gm_swap {F : Nat} {u : gw_St} {a : Nat → Nat} {N i j : Nat} (hr : gv_Rf u) (h : Hv u a N) (hN : N ≤ 37820) (hi : i < N) (hj : j < N) : ∃ w, gf_Model_swap F gv_z u 670 (Int32.ofNat i) (Int32.ofNat j) = some w ∧ Hv w (swp a i j) N ∧ Mh u w := by
  obtain ⟨w, hw⟩ : ∃ w, w = gw_wi (gw_wi (gw_wi (gw_wi (gw_wi (gw_wi u 671 i (u.1 671 j)) 671 j (u.1 671 i)) 672 i (u.1 672 j)) 672 j (u.1 672 i)) 673 i (u.1 673 j)) 673 j (u.1 673 i) := ⟨_, rfl⟩
  have hv : ∀ p k, w.1 p k = if 671 ≤ p ∧ p ≤ 673 then (if k = j then u.1 p i else if k = i then u.1 p j else u.1 p k) else u.1 p k := fun p k => by
    rw [hw]
    simp only [gw_wi]
    by_cases q1 : p = 671
    · subst q1
      by_cases k1 : k = j
      · subst k1; simp
      · by_cases k2 : k = i
        · subst k2; simp [k1]
        · simp [k1, k2]
    · by_cases q2 : p = 672
      · subst q2
        by_cases k1 : k = j
        · subst k1; simp
        · by_cases k2 : k = i
          · subst k2; simp [k1]
          · simp [k1, k2]
      · by_cases q3 : p = 673
        · subst q3
          by_cases k1 : k = j
          · subst k1; simp
          · by_cases k2 : k = i
            · subst k2; simp [k1]
            · simp [k1, k2]
        · simp [q1, q2, q3]
          omega
  refine ⟨w, ?_, fun k hk => ?_, by rw [hw]; rfl, fun p k q => by rw [hv, if_neg q]⟩
  · show gf_Model_swap_b0 F gv_z u 670 (Int32.ofNat i) (Int32.ofNat j) = _
    unfold gf_Model_swap_b0
    have e10 : u.2.2 670 10 = 671 + 1 := hr.get rfl gv_r670_10
    have e11 : u.2.2 670 11 = 672 + 1 := hr.get rfl gv_r670_11
    have e12 : u.2.2 670 12 = 673 + 1 := hr.get rfl gv_r670_12
    have gI : ∀ q, gv_z.2.2 q = 37820 → ¬ (Int32.ofNat i < 0 ∨ gv_z.2.2 q ≤ (Int32.ofNat i).toNatClampNeg) := fun q hq => gi_ix (by rw [hq]; omega) (by omega)
    have gJ : ∀ q, gv_z.2.2 q = 37820 → ¬ (Int32.ofNat j < 0 ∨ gv_z.2.2 q ≤ (Int32.ofNat j).toNatClampNeg) := fun q hq => gi_ix (by rw [hq]; omega) (by omega)
    rw [e10, gnn, if_neg (gI 671 gv_l671)]
    simp only [gf_nm]
    rw [gnn, gnn, if_neg (gJ 671 gv_l671), if_neg (gI 671 gv_l671)]
    have ei : (Int32.ofNat i).toNatClampNeg = i := i32_clamp (by omega)
    have ej : (Int32.ofNat j).toNatClampNeg = j := i32_clamp (by omega)
    rw [show (gw_wi u 671 (Int32.ofNat i).toNatClampNeg (u.1 671 (Int32.ofNat j).toNatClampNeg)).2.2 670 10 = 671 + 1 from e10, gnn, if_neg (gJ 671 gv_l671)]
    rw [show (gw_wi (gw_wi u 671 (Int32.ofNat i).toNatClampNeg (u.1 671 (Int32.ofNat j).toNatClampNeg)) 671 (Int32.ofNat j).toNatClampNeg (u.1 671 (Int32.ofNat i).toNatClampNeg)).2.2 670 11 = 672 + 1 from e11, gnn, if_neg (gI 672 gv_l672), gnn, gnn, if_neg (gJ 672 gv_l672), if_neg (gI 672 gv_l672)]
    rw [ei, ej]
    generalize hw2 : gw_wi (gw_wi u 671 i (u.1 671 j)) 671 j (u.1 671 i) = w2
    have w2r : w2.2 = u.2 := by rw [← hw2]; rfl
    have w2i : ∀ p k, p ≠ 671 → w2.1 p k = u.1 p k := fun p k q => by rw [← hw2, wi_ne (by omega), wi_ne (by omega)]
    rw [w2i 672 i (by omega), w2i 672 j (by omega)]
    generalize hw3 : gw_wi w2 672 i (u.1 672 j) = w3
    have w3r : w3.2 = u.2 := by rw [← hw3]; exact w2r
    rw [show w3.2.2 670 11 = 672 + 1 from by rw [w3r]; exact e11, gnn, if_neg (gi_ic (by rw [gv_l672]; omega) (by omega))]
    generalize hw4 : gw_wi w3 672 j (u.1 672 i) = w4
    have w4r : w4.2 = u.2 := by rw [← hw4]; exact w3r
    have w4i : ∀ p k, p ≠ 671 → p ≠ 672 → w4.1 p k = u.1 p k := fun p k q1 q2 => by rw [← hw4, wi_ne (by omega), ← hw3, wi_ne (by omega), w2i p k q1]
    rw [show w4.2.2 670 12 = 673 + 1 from by rw [w4r]; exact e12, gnn, if_neg (gi_ic (by rw [gv_l673]; omega) (by omega)), gnn, gnn, if_neg (gi_ic (by rw [gv_l673]; omega) (by omega)), if_neg (gi_ic (by rw [gv_l673]; omega) (by omega)), w4i 673 i (by omega) (by omega), w4i 673 j (by omega) (by omega)]
    generalize hw5 : gw_wi w4 673 i (u.1 673 j) = w5
    have w5r : w5.2 = u.2 := by rw [← hw5]; exact w4r
    rw [show w5.2.2 670 12 = 673 + 1 from by rw [w5r]; exact e12, gnn, if_neg (gi_ic (by rw [gv_l673]; omega) (by omega)), hw, hw2, hw3, hw4, hw5]
  · obtain ⟨i1, i2, i3, i4⟩ := h i hi
    obtain ⟨j1, j2, j3, j4⟩ := h j hj
    obtain ⟨k1, k2, k3, k4⟩ := h k hk
    rw [hv 671 k, hv 672 k, hv 673 k, if_pos (show 671 ≤ 671 ∧ 671 ≤ 673 by omega), if_pos (show 671 ≤ 672 ∧ 672 ≤ 673 by omega), if_pos (show 671 ≤ 673 ∧ 673 ≤ 673 by omega)]
    unfold swp
    by_cases q1 : k = j
    · rw [if_pos q1, if_pos q1, if_pos q1, if_pos q1]
      exact ⟨i1, i2, i3, i4⟩
    · rw [if_neg q1, if_neg q1, if_neg q1, if_neg q1]
      by_cases q2 : k = i
      · rw [if_pos q2, if_pos q2, if_pos q2, if_pos q2]
        exact ⟨j1, j2, j3, j4⟩
      · rw [if_neg q2, if_neg q2, if_neg q2, if_neg q2]
        exact ⟨k1, k2, k3, k4⟩
