def c3s (x : Int32) (A B : Nat) : Int32 := if x = 1 then c3 A B else c3 B A
theorem c3_neg {A B : Nat} : -(c3 A B) = c3 B A := by
  unfold c3
  by_cases h : A < B
  · rw [if_pos h, if_neg (by omega), if_neg (by omega)]; decide
  · rw [if_neg h]
    by_cases h2 : A = B
    · rw [if_pos h2, if_neg (by omega), if_pos h2.symm]; decide
    · rw [if_neg h2, if_pos (by omega)]
theorem c3s_neg {x : Int32} {A B : Nat} (hx : x = 1 ∨ x = -1) : c3s (-x) A B = c3s x B A := by
  unfold c3s
  rcases hx with e | e <;> subst e
  · rw [if_neg (by decide), if_pos rfl]
  · rw [if_pos (by decide), if_neg (by decide)]
theorem c3s_lt {x : Int32} {A B : Nat} (hx : x = 1 ∨ x = -1) (h : A < B) : c3s x A B = -x := by
  unfold c3s
  rcases hx with e | e <;> subst e
  · rw [if_pos rfl, show c3 A B = -1 from if_pos h]
  · rw [if_neg (by decide), show c3 B A = 1 from by unfold c3; rw [if_neg (by omega), if_neg (by omega)]]
    decide
theorem c3s_gt {x : Int32} {A B : Nat} (hx : x = 1 ∨ x = -1) (h : B < A) : c3s x A B = x := by
  unfold c3s
  rcases hx with e | e <;> subst e
  · rw [if_pos rfl, show c3 A B = 1 from by unfold c3; rw [if_neg (by omega), if_neg (by omega)]]
  · rw [if_neg (by decide), show c3 B A = -1 from if_pos h]
theorem c3s_eq {x : Int32} {A B : Nat} (h : A = B) : c3s x A B = 0 := by
  unfold c3s
  rw [h, show c3 B B = 0 from by unfold c3; rw [if_neg (by omega), if_pos rfl]]
  split <;> rfl
theorem c3s_congr {x : Int32} {A B A' B' : Nat} (h : c3 A B = c3 A' B') : c3s x A B = c3s x A' B' := by
  unfold c3s
  rw [h, ← c3_neg (A := A), ← c3_neg (A := A'), h]
/-- one step of the comparison -/
theorem gm_cstep {F f : Nat} {u : gw_St} {a b c d : Nat} {x fo : Int32} (hx : x = 1 ∨ x = -1) (hb : 0 < b) (hd : 0 < d) (ha2 : a < 2 ^ 62) (hb2 : b < 2 ^ 62) (hc2 : c < 2 ^ 62) (hd2 : d < 2 ^ 62) : gf_Model_compare_L23 F gv_z (f + 2) u (Int64.ofNat a) (Int64.ofNat b) (Int64.ofNat c) (Int64.ofNat d) x fo 1 = if a / b = c / d ∧ a % b ≠ 0 ∧ c % d ≠ 0 then gf_Model_compare_L23 F gv_z (f + 1) u (Int64.ofNat b) (Int64.ofNat (a % b)) (Int64.ofNat d) (Int64.ofNat (c % d)) (-x) fo 1 else some (c3s x (a * d) (c * b), u) := by
  have q1 : a / b ≤ a := Nat.div_le_self _ _
  have q2 : c / d ≤ c := Nat.div_le_self _ _
  have r1 := Nat.mod_lt a hb
  have r2 := Nat.mod_lt c hd
  obtain ⟨g1, g2⟩ := ratio_cmp (a := a) (c := c) hb hd
  obtain ⟨g3, -⟩ := ratio_cmp (a := c) (c := a) hd hb
  obtain ⟨z1, z2⟩ := lg_c3 (x := a / b) (y := c / d) (by omega) (by omega)
  have z3 := (lg_c3 (x := a % b) (y := 0) (by omega) (by omega)).2
  have z4 := (lg_c3 (x := c % d) (y := 0) (by omega) (by omega)).2
  have z5 := (lg_c3 (x := a % b) (y := c % d) (by omega) (by omega)).2
  have o0 : (0 : Int64) = Int64.ofNat 0 := rfl
  have hlast : ∀ y : Int32, gf_Model_compare_b134 F gv_z (gf_Model_compare_L23 F gv_z (f + 1)) u (Int64.ofNat (a % b)) (Int64.ofNat b) (Int64.ofNat (c % d)) (Int64.ofNat d) x 0 y = some (y, u) := fun y => by
    unfold gf_Model_compare_b134 gf_Model_compare_b136
    simp only [gf_nm]
    show gf_Model_compare_S23 F gv_z _ u _ _ _ _ _ y 0 = _
    unfold gf_Model_compare_S23
    rw [if_pos rfl]
  show gf_Model_compare_S23 F gv_z _ u _ _ _ _ x fo 1 = _
  unfold gf_Model_compare_S23 gf_Model_compare_b66
  rw [if_neg (by decide), if_neg (i64_ne0 hb (by omega)), i64_div (by omega) hb (by omega)]
  simp only [gf_nm]
  rw [if_neg (i64_ne0 hd (by omega)), i64_div (by omega) hd (by omega)]
  by_cases e : a / b = c / d
  · rw [if_pos (z2.mpr e), if_neg (i64_ne0 hb (by omega)), if_neg (i64_ne0 hd (by omega)), i64_div' (by omega) hb (by omega), i64_div' (by omega) hd (by omega), o0]
    have hcc := g2 e
    by_cases e1 : a % b = 0
    · rw [if_pos (z3.mpr e1), if_neg (fun q => q.2.1 e1)]
      unfold gf_Model_compare_b99 gf_Model_compare_b100
      rw [if_pos rfl]
      rw [e1, Nat.zero_mul] at hcc
      by_cases e2 : a % b = c % d
      · rw [if_pos (z5.mpr e2), hlast]
        rw [← e2, e1, Nat.zero_mul] at hcc
        rw [← c3s_congr hcc, c3s_eq rfl]
      · have hpos : 0 < c % d * b := Nat.mul_pos (by omega) hb
        rw [if_neg (fun q => e2 (z5.mp q)), o0, if_pos (z3.mpr e1), hlast, ← c3s_congr hcc, c3s_lt hx hpos]
    · rw [if_neg (fun q => e1 (z3.mp q))]
      by_cases e2 : c % d = 0
      · rw [if_pos (z4.mpr e2), if_neg (fun q => q.2.2 e2)]
        unfold gf_Model_compare_b99 gf_Model_compare_b100
        have hpos : 0 < a % b * d := Nat.mul_pos (by omega) hd
        rw [e2, Nat.zero_mul] at hcc
        rw [if_pos rfl, if_neg (fun q => e1 (by rw [z5.mp q]; exact e2)), o0, if_neg (fun q => e1 (z3.mp q)), hlast, ← c3s_congr hcc, c3s_gt hx hpos]
      · rw [if_neg (fun q => e2 (z4.mp q)), if_pos ⟨e, e1, e2⟩]
        unfold gf_Model_compare_b100 gf_Model_compare_b136
        rw [if_neg (by decide)]
        rfl
  · have hne : ¬ (a / b = c / d ∧ a % b ≠ 0 ∧ c % d ≠ 0) := fun q => e q.1
    rw [if_neg (fun q => e (z2.mp q)), if_neg hne]
    by_cases e2 : c / d ≤ a / b
    · rw [if_pos (z1.mpr e2), c3s_gt hx (g3 (by omega))]
    · rw [if_neg (fun q => e2 (z1.mp q)), c3s_lt hx (g1 (by omega))]
/-- compare -/
theorem gm_compare {F : Nat} (hF : 2000 ≤ F) {u : gw_St} {a b c d : Nat} (hb : 0 < b) (hd : 0 < d) (ha2 : a < 2 ^ 62) (hb2 : b < 2 ^ 62) (hc2 : c < 2 ^ 62) (hd2 : d < 2 ^ 62) : gf_Model_compare F gv_z u (Int64.ofNat a) (Int64.ofNat b) (Int64.ofNat c) (Int64.ofNat d) = some (c3 (a * d) (c * b), u) := by
  have flip : ∀ {x : Int32} {a b c d : Nat}, x = 1 ∨ x = -1 → 0 < b → 0 < d → a / b = c / d → c3s (-x) (b * (c % d)) (d * (a % b)) = c3s x (a * d) (c * b) := fun {x a b c d} hx hb hd e => by
    rw [c3s_neg hx]
    refine c3s_congr ?_
    rw [← (ratio_cmp (a := a) (c := c) hb hd).2 e, Nat.mul_comm d, Nat.mul_comm b]
  have run : ∀ (k f a b c d : Nat) (x : Int32), x = 1 ∨ x = -1 → 0 < b → 0 < d → b ≤ a → a * b < 2 ^ k → k ≤ f → a < 2 ^ 62 → b < 2 ^ 62 → c < 2 ^ 62 → d < 2 ^ 62 → gf_Model_compare_L23 F gv_z (f + 2) u (Int64.ofNat a) (Int64.ofNat b) (Int64.ofNat c) (Int64.ofNat d) x 0 1 = some (c3s x (a * d) (c * b), u) := by
    intro k
    induction k with
    | zero =>
      intro f a b c d x hx hb hd hba hab
      have : 0 < a * b := Nat.mul_pos (by omega) hb
      rw [Nat.pow_zero] at hab
      omega
    | succ k ih =>
      intro f a b c d x hx hb hd hba hab hkf h1 h2 h3 h4
      obtain ⟨f, rfl⟩ : ∃ q, f = q + 1 := ⟨f - 1, by omega⟩
      rw [show f + 1 + 2 = (f + 1) + 2 from rfl, gm_cstep hx hb hd h1 h2 h3 h4]
      by_cases e : a / b = c / d ∧ a % b ≠ 0 ∧ c % d ≠ 0
      · rw [if_pos e]
        have r1 := Nat.mod_lt a hb
        have r2 := Nat.mod_lt c hd
        have hr : a % b * 2 ≤ a := by
          have h5 := Nat.div_add_mod a b
          have h6 : 1 ≤ a / b := Nat.div_pos hba hb
          have h7 : b * 1 ≤ b * (a / b) := Nat.mul_le_mul_left _ h6
          omega
        have hhalf : b * (a % b) < 2 ^ k := by
          have h5 : a % b * 2 * b ≤ a * b := Nat.mul_le_mul_right _ hr
          rw [Nat.pow_succ] at hab
          have h6 : a % b * 2 * b = b * (a % b) * 2 := by rw [Nat.mul_assoc, Nat.mul_comm 2 b, ← Nat.mul_assoc, Nat.mul_comm (a % b) b]
          omega
        rw [show f + 1 + 1 = f + 2 from rfl, ih f b (a % b) d (c % d) (-x) (by rcases hx with q | q <;> subst q <;> decide) (by omega) (by omega) (by omega) hhalf (by omega) (by omega) (by omega) (by omega) (by omega), flip hx hb hd e.1]
      · rw [if_neg e]
  obtain ⟨f, hf⟩ : ∃ f, F = f + 3 := ⟨F - 3, by omega⟩
  show gf_Model_compare_L23 F gv_z F u (Int64.ofNat a) (Int64.ofNat b) (Int64.ofNat c) (Int64.ofNat d) 1 0 1 = _
  have e0 : ∀ n, n = F → gf_Model_compare_L23 F gv_z F u (Int64.ofNat a) (Int64.ofNat b) (Int64.ofNat c) (Int64.ofNat d) 1 0 1 = gf_Model_compare_L23 F gv_z n u (Int64.ofNat a) (Int64.ofNat b) (Int64.ofNat c) (Int64.ofNat d) 1 0 1 := fun n hn => by rw [hn]
  rw [e0 (f + 1 + 2) (by omega), gm_cstep (Or.inl rfl) hb hd ha2 hb2 hc2 hd2]
  have c31 : ∀ A B, c3s 1 A B = c3 A B := fun A B => if_pos rfl
  by_cases e : a / b = c / d ∧ a % b ≠ 0 ∧ c % d ≠ 0
  · rw [if_pos e]
    have r1 := Nat.mod_lt a hb
    have r2 := Nat.mod_lt c hd
    have hm : b * (a % b) < 2 ^ 124 := by
      have : b * (a % b) ≤ b * b := Nat.mul_le_mul_left _ (by omega)
      have h2 : b * b < 2 ^ 62 * 2 ^ 62 := Nat.mul_lt_mul'' hb2 hb2
      have h3 : 2 ^ 62 * 2 ^ 62 = 2 ^ 124 := by decide
      omega
    rw [show f + 1 + 1 = f + 2 from rfl, run 124 f b (a % b) d (c % d) (-1) (Or.inr rfl) (by omega) (by omega) (by omega) hm (by omega) (by omega) (by omega) (by omega) (by omega), flip (Or.inl rfl) hb hd e.1, c31]
  · rw [if_neg e, c31]
