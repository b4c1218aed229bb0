/-- how two numbers compare, as the machine tells -/
def c3 (x y : Nat) : Int32 := if x < y then -1 else if x = y then 0 else 1
theorem lg_c3 {x y : Nat} (hx : x < 9223372036854775808) (hy : y < 9223372036854775808) : (0 ≤ lg_cmp (Int64.ofNat x) (Int64.ofNat y) ↔ y ≤ x) ∧ (lg_cmp (Int64.ofNat x) (Int64.ofNat y) = 0 ↔ x = y) := by
  have h1 := lgc_neg (a := Int64.ofNat x) (b := Int64.ofNat y)
  have h2 := lgc_zero (a := Int64.ofNat x) (b := Int64.ofNat y)
  rw [i64_nat hx, i64_nat hy] at h1 h2
  refine ⟨⟨fun h => ?_, fun h => ?_⟩, by rw [h2]; omega⟩
  · apply Classical.byContradiction
    intro q
    have a1 := i32_le.mp h
    have a2 := i32_lt.mp (h1.mpr (by omega))
    omega
  · refine i32_le.mpr ?_
    apply Classical.byContradiction
    intro q
    have a2 := h1.mp (i32_lt.mpr (by omega))
    omega
theorem tr_cmp {F : Nat} {u : gw_St} {x y : Nat} (hx : x < 9223372036854775808) (hy : y < 9223372036854775808) : gf_Long_compare F gv_z u (Int64.ofNat x) (Int64.ofNat y) = some (c3 x y, u) := by
  obtain ⟨h1, h2⟩ := lg_c3 hx hy
  show gf_Long_compare_b0 F gv_z u (Int64.ofNat x) (Int64.ofNat y) = _
  unfold gf_Long_compare_b0 gf_Long_compare_b21 c3
  by_cases c : x < y
  · rw [if_neg (fun e => by have := h1.mp e; omega), if_pos c]
  · rw [if_pos (h1.mpr (by omega)), if_neg c]
    by_cases d : x = y
    · rw [if_pos (h2.mpr d), if_pos d]
    · rw [if_neg (fun e => d (h2.mp e)), if_neg d]
theorem i64_div {a b : Nat} (ha : a < 9223372036854775808) (hb : 0 < b) (hb2 : b < 9223372036854775808) : Int64.ofNat a / Int64.ofNat b = Int64.ofNat (a / b) := by
  refine i64_of ?_ (Nat.lt_of_le_of_lt (Nat.div_le_self _ _) ha)
  rw [n64_div (by rw [i64_nat ha]; omega) (by rw [i64_nat hb2]; omega), i64_nat ha, i64_nat hb2, Int.natCast_ediv]
theorem ratio_cmp {a b c d : Nat} (hb : 0 < b) (hd : 0 < d) : (a / b < c / d → a * d < c * b) ∧ (a / b = c / d → c3 (a % b * d) (c % d * b) = c3 (a * d) (c * b)) := by
  have e1 := Nat.div_add_mod a b
  have e2 := Nat.div_add_mod c d
  have r1 := Nat.mod_lt a hb
  have r2 := Nat.mod_lt c hd
  refine ⟨fun h => ?_, fun h => ?_⟩
  · have h1 : a < (a / b + 1) * b := by
      rw [Nat.add_mul, Nat.one_mul, Nat.mul_comm (a / b) b]
      omega
    have h2 : (a / b + 1) * b ≤ c / d * b := Nat.mul_le_mul_right _ h
    have h3 : a * d < c / d * b * d := by
      refine Nat.mul_lt_mul_of_pos_right (by omega) hd
    have h4 : c / d * d ≤ c := Nat.div_mul_le_self c d
    have h5 : c / d * d * b ≤ c * b := Nat.mul_le_mul_right _ h4
    rw [Nat.mul_assoc, Nat.mul_comm b d, ← Nat.mul_assoc] at h3
    omega
  · have f1 : a * d = b * (a / b) * d + a % b * d := by
      rw [← Nat.add_mul, e1]
    have f2 : c * b = b * (a / b) * d + c % d * b := by
      rw [h, show b * (c / d) * d = d * (c / d) * b from by rw [Nat.mul_comm b, Nat.mul_assoc, Nat.mul_comm b d, ← Nat.mul_assoc, Nat.mul_comm (c / d) d], ← Nat.add_mul, e2]
    rw [f1, f2]
    generalize b * (a / b) * d = K
    generalize a % b * d = x
    generalize c % d * b = y
    unfold c3
    simp only [Nat.add_lt_add_iff_left, Nat.add_left_cancel_iff]
theorem i64_div' {a b : Nat} (ha : a < 9223372036854775808) (hb : 0 < b) (hb2 : b < 9223372036854775808) : Int64.ofNat a - Int64.ofNat (a / b) * Int64.ofNat b = Int64.ofNat (a % b) := by
  rw [← i64_div ha hb hb2]
  exact i64_rem ha hb hb2
/-- compareRatios -/
theorem tr_ratio {F : Nat} {u : gw_St} {a b c d : Nat} (ha : a < 2 ^ 62) (hc : c < 2 ^ 62) (hb : 0 < b) (hd : 0 < d) (hb2 : b < 2 ^ 28) (hd2 : d < 2 ^ 28) : gf_Trains_compareRatios F gv_z u (Int64.ofNat a) (Int64.ofNat b) (Int64.ofNat c) (Int64.ofNat d) = some (c3 (a * d) (c * b), u) := by
  have q1 : a / b < 2 ^ 62 := Nat.lt_of_le_of_lt (Nat.div_le_self _ _) ha
  have q2 : c / d < 2 ^ 62 := Nat.lt_of_le_of_lt (Nat.div_le_self _ _) hc
  have r1 := Nat.mod_lt a hb
  have r2 := Nat.mod_lt c hd
  have m1 : a % b * d < 2 ^ 56 := by
    have : a % b * d ≤ 2 ^ 28 * 2 ^ 28 - 2 ^ 28 := by
      have h1 : a % b * d ≤ (2 ^ 28 - 1) * 2 ^ 28 := Nat.mul_le_mul (by omega) (by omega)
      omega
    omega
  have m2 : c % d * b < 2 ^ 56 := by
    have h1 : c % d * b ≤ (2 ^ 28 - 1) * 2 ^ 28 := Nat.mul_le_mul (by omega) (by omega)
    omega
  show gf_Trains_compareRatios_b0 F gv_z u (Int64.ofNat a) (Int64.ofNat b) (Int64.ofNat c) (Int64.ofNat d) = _
  unfold gf_Trains_compareRatios_b0 gf_Trains_compareRatios_b39
  rw [if_neg (i64_ne0 hb (by omega)), if_neg (i64_ne0 hd (by omega)), i64_div (by omega) hb (by omega), i64_div (by omega) hd (by omega), tr_cmp (by omega) (by omega)]
  simp only [gf_cl]
  obtain ⟨g1, g2⟩ := ratio_cmp (a := a) (c := c) hb hd
  obtain ⟨g3, -⟩ := ratio_cmp (a := c) (c := a) hd hb
  rcases Nat.lt_trichotomy (a / b) (c / d) with h | h | h
  · have := g1 h
    rw [show c3 (a / b) (c / d) = -1 from if_pos h, if_neg (by decide), show c3 (a * d) (c * b) = -1 from if_pos this]
  · rw [show c3 (a / b) (c / d) = 0 from by unfold c3; rw [if_neg (by omega), if_pos h], if_pos rfl, if_neg (i64_ne0 hb (by omega)), if_neg (i64_ne0 hd (by omega)), i64_div' (by omega) hb (by omega), i64_div' (by omega) hd (by omega), i64_mul, i64_mul, tr_cmp (by omega) (by omega), g2 h]
  · have := g3 h
    rw [show c3 (a / b) (c / d) = 1 from by unfold c3; rw [if_neg (by omega), if_neg (by omega)], if_neg (by decide), show c3 (a * d) (c * b) = 1 from by unfold c3; rw [if_neg (by omega), if_neg (by omega)]]
