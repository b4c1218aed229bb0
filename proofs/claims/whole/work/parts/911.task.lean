theorem gcd_step {a b : Nat} : Nat.gcd b (a % b) = Nat.gcd a b := by
  rw [Nat.gcd_comm b, ← Nat.gcd_rec, Nat.gcd_comm]
theorem half_step {a b k : Nat} (hb : 0 < b) (hba : b ≤ a) (h : a * b < 2 ^ (k + 1)) : b * (a % b) < 2 ^ k := by
  have r1 := Nat.mod_lt a hb
  have hr : a % b * 2 ≤ a := by
    have h5 := Nat.div_add_mod a b
    have h6 : 1 ≤ a / b := Nat.div_pos hba hb
    have h7 : b * 1 ≤ b * (a / b) := Nat.mul_le_mul_left _ h6
    omega
  have h5 : a % b * 2 * b ≤ a * b := Nat.mul_le_mul_right _ hr
  rw [Nat.pow_succ] at h
  have h6 : a % b * 2 * b = b * (a % b) * 2 := by rw [Nat.mul_assoc, Nat.mul_comm 2 b, ← Nat.mul_assoc, Nat.mul_comm (a % b) b]
  omega
/-- commonDivisor -/
theorem tr_gcd {F : Nat} (hF : 2000 ≤ F) {u : gw_St} {a b : Nat} (ha : a < 2 ^ 62) (hb : b < 2 ^ 62) : gf_Trains_commonDivisor F gv_z u (Int64.ofNat a) (Int64.ofNat b) = some (Int64.ofNat (Nat.gcd a b), u) := by
  have fin : ∀ (st f a : Nat), gf_Trains_commonDivisor_L9 F gv_z (f + 1) u (Int64.ofNat a) (Int64.ofNat 0) (Int32.ofNat st) = some (Int64.ofNat (Nat.gcd a 0), u) := fun st f a => by
    show gf_Trains_commonDivisor_S9 F gv_z _ u _ _ (Int32.ofNat st) = _
    unfold gf_Trains_commonDivisor_S9 gf_Trains_commonDivisor_b45
    rw [if_pos (show lg_cmp (Int64.ofNat 0) 0 = 0 from lgc_zero.mpr rfl), Nat.gcd_zero_right]
    split <;> rfl
  have one : ∀ (st f a b : Nat), st < 200 → 0 < b → a < 2 ^ 62 → b < 2 ^ 62 → gf_Trains_commonDivisor_L9 F gv_z (f + 1) u (Int64.ofNat a) (Int64.ofNat b) (Int32.ofNat st) = gf_Trains_commonDivisor_L9 F gv_z f u (Int64.ofNat b) (Int64.ofNat (a % b)) (Int32.ofNat (st + 1)) := fun st f a b h1 h2 h3 h4 => by
    show gf_Trains_commonDivisor_S9 F gv_z _ u _ _ (Int32.ofNat st) = _
    unfold gf_Trains_commonDivisor_S9
    rw [if_neg (show ¬ (200 : Int32) ≤ Int32.ofNat st from fun e => by have := (gi_le (a := 200) (by omega) (by omega)).mp e; omega), if_neg (fun q => by have := (lg_c3 (x := b) (y := 0) (by omega) (by omega)).2.mp q; omega), if_neg (i64_ne0 h2 (by omega)), i64_rem (by omega) h2 (by omega)]
    simp only [gf_nm]
    rw [gw_iS]
  have run : ∀ (k st f a b : Nat), b ≤ a → a * b < 2 ^ k → st + k < 200 → k < f → a < 2 ^ 62 → b < 2 ^ 62 → gf_Trains_commonDivisor_L9 F gv_z f u (Int64.ofNat a) (Int64.ofNat b) (Int32.ofNat st) = some (Int64.ofNat (Nat.gcd a b), u) := by
    intro k
    induction k with
    | zero =>
      intro st f a b hba hab hst hf h1 h2
      obtain ⟨f, rfl⟩ : ∃ q, f = q + 1 := ⟨f - 1, by omega⟩
      have hb0 : b = 0 := by
        apply Classical.byContradiction
        intro q
        have : 0 < a * b := Nat.mul_pos (by omega) (by omega)
        rw [Nat.pow_zero] at hab
        omega
      subst hb0
      exact fin st f a
    | succ k ih =>
      intro st f a b hba hab hst hf h1 h2
      obtain ⟨f, rfl⟩ : ∃ q, f = q + 1 := ⟨f - 1, by omega⟩
      by_cases hb0 : b = 0
      · subst hb0
        exact fin st f a
      · have r1 := Nat.mod_lt a (show 0 < b by omega)
        rw [one st f a b (by omega) (by omega) h1 h2, ih (st + 1) f b (a % b) (by omega) (half_step (by omega) hba hab) (by omega) (by omega) h2 (by omega), gcd_step]
  obtain ⟨f, hf⟩ : ∃ f, F = f + 1 := ⟨F - 1, by omega⟩
  have e0 : gf_Trains_commonDivisor F gv_z u (Int64.ofNat a) (Int64.ofNat b) = gf_Trains_commonDivisor_L9 F gv_z (f + 1) u (Int64.ofNat a) (Int64.ofNat b) (Int32.ofNat 0) := by
    rw [← hf]
    rfl
  rw [e0]
  by_cases hb0 : b = 0
  · subst hb0
    exact fin 0 f a
  · have r1 := Nat.mod_lt a (show 0 < b by omega)
    have hm : b * (a % b) < 2 ^ 124 := by
      have h1 : b * (a % b) ≤ b * b := Nat.mul_le_mul_left _ (by omega)
      have h2 : b * b < 2 ^ 62 * 2 ^ 62 := Nat.mul_lt_mul'' hb hb
      have h3 : 2 ^ 62 * 2 ^ 62 = 2 ^ 124 := by decide
      omega
    rw [one 0 f a b (by omega) (by omega) ha hb, run 124 1 f b (a % b) (by omega) hm (by omega) (by omega) hb (by omega), gcd_step]
/-- gcd -/
theorem gm_gcd {F : Nat} (hF : 2000 ≤ F) {u : gw_St} {a b : Nat} (ha : a < 2 ^ 62) (hb : b < 2 ^ 62) : gf_Model_gcd F gv_z u (Int64.ofNat a) (Int64.ofNat b) = some (Int64.ofNat (Nat.gcd a b), u) := by
  have fin : ∀ (f a : Nat), gf_Model_gcd_L6 F gv_z (f + 1) u (Int64.ofNat a) (Int64.ofNat 0) = some (Int64.ofNat (Nat.gcd a 0), u) := fun f a => by
    show gf_Model_gcd_S6 F gv_z _ u _ _ = _
    unfold gf_Model_gcd_S6
    rw [if_pos (show lg_cmp (Int64.ofNat 0) 0 = 0 from lgc_zero.mpr rfl), Nat.gcd_zero_right]
  have one : ∀ (f a b : Nat), 0 < b → a < 2 ^ 62 → b < 2 ^ 62 → gf_Model_gcd_L6 F gv_z (f + 1) u (Int64.ofNat a) (Int64.ofNat b) = gf_Model_gcd_L6 F gv_z f u (Int64.ofNat b) (Int64.ofNat (a % b)) := fun f a b h2 h3 h4 => by
    show gf_Model_gcd_S6 F gv_z _ u _ _ = _
    unfold gf_Model_gcd_S6
    rw [if_neg (fun q => by have := (lg_c3 (x := b) (y := 0) (by omega) (by omega)).2.mp q; omega), if_neg (i64_ne0 h2 (by omega)), i64_rem (by omega) h2 (by omega)]
    rfl
  have run : ∀ (k f a b : Nat), b ≤ a → a * b < 2 ^ k → k < f → a < 2 ^ 62 → b < 2 ^ 62 → gf_Model_gcd_L6 F gv_z f u (Int64.ofNat a) (Int64.ofNat b) = some (Int64.ofNat (Nat.gcd a b), u) := by
    intro k
    induction k with
    | zero =>
      intro f a b hba hab hf h1 h2
      obtain ⟨f, rfl⟩ : ∃ q, f = q + 1 := ⟨f - 1, by omega⟩
      have hb0 : b = 0 := by
        apply Classical.byContradiction
        intro q
        have : 0 < a * b := Nat.mul_pos (by omega) (by omega)
        rw [Nat.pow_zero] at hab
        omega
      subst hb0
      exact fin f a
    | succ k ih =>
      intro f a b hba hab hf h1 h2
      obtain ⟨f, rfl⟩ : ∃ q, f = q + 1 := ⟨f - 1, by omega⟩
      by_cases hb0 : b = 0
      · subst hb0
        exact fin f a
      · have r1 := Nat.mod_lt a (show 0 < b by omega)
        rw [one f a b (by omega) h1 h2, ih f b (a % b) (by omega) (half_step (by omega) hba hab) (by omega) h2 (by omega), gcd_step]
  obtain ⟨f, hf⟩ : ∃ f, F = f + 1 := ⟨F - 1, by omega⟩
  have e0 : gf_Model_gcd F gv_z u (Int64.ofNat a) (Int64.ofNat b) = gf_Model_gcd_L6 F gv_z (f + 1) u (Int64.ofNat a) (Int64.ofNat b) := by
    rw [← hf]
    rfl
  rw [e0]
  by_cases hb0 : b = 0
  · subst hb0
    exact fin f a
  · have r1 := Nat.mod_lt a (show 0 < b by omega)
    have hm : b * (a % b) < 2 ^ 124 := by
      have h1 : b * (a % b) ≤ b * b := Nat.mul_le_mul_left _ (by omega)
      have h2 : b * b < 2 ^ 62 * 2 ^ 62 := Nat.mul_lt_mul'' hb hb
      have h3 : 2 ^ 62 * 2 ^ 62 = 2 ^ 124 := by decide
      omega
    rw [one f a b (by omega) ha hb, run 124 f b (a % b) (by omega) hm (by omega) hb (by omega), gcd_step]
/-- a task, on both sides -/
def gv_T1 (u : gw_St) (q0 S lo hi T nm dn i : Nat) : Prop := u.1 670 1 = 1 ∧ Tk u S lo hi T q0 ∧ u.2.1 1 4 = Int64.ofNat nm ∧ u.2.1 1 5 = Int64.ofNat dn ∧ (0 < nm ∧ nm < 2147483648 ∧ 0 < dn ∧ dn < 2147483648) ∧ u.1 1 10 = Int32.ofNat i ∧ i ≤ T ∧ (i = 0 ∨ ∃ b, Rng u S lo hi T q0 nm dn i b) ∧ u.1 670 2 = Int32.ofNat nm ∧ u.1 670 3 = Int32.ofNat dn ∧ Mk u S lo (hi - lo + 1) ∧ u.1 670 7 = Int32.ofNat (T - i) ∧ (u.1 670 8 = 0 ∨ u.1 670 8 = 1 ∧ Fnd u S lo hi nm dn (fun d e => isRep S lo hi d ∧ Cand S lo hi nm dn (pP S d) e) ∧ (∀ x, isC S lo hi x → ∃ z, isRep S lo hi z ∧ pP S z = pP S x) ∧ ∃ d e, isRep S lo hi d ∧ Cand S lo hi nm dn (pP S d) e)
def gv_Ta (u : gw_St) : Prop := ∃ q0, (q0 = 2 ∨ q0 = 3) ∧ u.2.2 1 0 = q0 + 1 ∧ u.2.2 1 1 = 5 - q0 + 1 ∧ ((u.1 670 1 = 0 ∧ u.1 1 9 = 0 ∧ u.1 1 10 = 0) ∨ ∃ S lo hi T nm dn i, gv_T1 u q0 S lo hi T nm dn i)
theorem gv_Ta.same {u w : gw_St} (h : gv_Ta u) (e1 : ∀ k, w.1 1 k = u.1 1 k) (e2 : ∀ k, 1 ≤ k → k ≤ 17 → w.1 670 k = u.1 670 k) (e3 : ∀ p k, p ≤ 3 → w.2.1 p k = u.2.1 p k) (e4 : ∀ k, 13 ≤ k → k ≤ 14 → w.2.1 670 k = u.2.1 670 k) (e5 : w.2.2 1 0 = u.2.2 1 0) (e6 : w.2.2 1 1 = u.2.2 1 1) : gv_Ta w := by
  obtain ⟨q0, h1, h2, h3, h4⟩ := h
  refine ⟨q0, h1, e5.trans h2, e6.trans h3, ?_⟩
  rcases h4 with ⟨a1, a2, a3⟩ | ⟨S, lo, hi, T, nm, dn, i, b1, b2, b3, b4, b5, b6, b7, b8, b9, b10, b11, b12, b13⟩
  · exact Or.inl ⟨by rw [e2 1 (by omega) (by omega)]; exact a1, by rw [e1]; exact a2, by rw [e1]; exact a3⟩
  · refine Or.inr ⟨S, lo, hi, T, nm, dn, i, by rw [e2 1 (by omega) (by omega)]; exact b1, b2.same (fun k _ _ => e1 k) e5 e6, by rw [e3 1 4 (by omega)]; exact b3, by rw [e3 1 5 (by omega)]; exact b4, b5, by rw [e1]; exact b6, b7, ?_, by rw [e2 2 (by omega) (by omega)]; exact b9, by rw [e2 3 (by omega) (by omega)]; exact b10, ⟨by rw [e2 4 (by omega) (by omega)]; exact b11.1, by rw [e2 5 (by omega) (by omega)]; exact b11.2.1, by rw [e2 6 (by omega) (by omega)]; exact b11.2.2⟩, by rw [e2 7 (by omega) (by omega)]; exact b12, ?_⟩
    · rcases b8 with b8 | ⟨b, b8⟩
      · exact Or.inl b8
      · exact Or.inr ⟨b, b8.same h1 (fun p j q => e3 p j (by omega)) (fun j _ _ => e1 j)⟩
    · rw [e2 8 (by omega) (by omega)]
      rcases b13 with b13 | ⟨c1, c2, c3⟩
      · exact Or.inl b13
      · exact Or.inr ⟨c1, c2.same e4 (fun k q1 q2 => e2 k (by omega) (by omega)), c3⟩
/-- what the calls of the trains may change -/
def Tf (u w : gw_St) : Prop := (∀ p k, ¬ (p = 1 ∧ (k = 0 ∨ k = 1)) → w.2.2 p k = u.2.2 p k) ∧ ∀ p k, p ≠ 1 → p ≠ 4 → p ≠ 5 → ¬ (671 ≤ p ∧ p ≤ 673) → ¬ (p = 670 ∧ k ≤ 17) → w.1 p k = u.1 p k
theorem thr_ta {u : gw_St} {v k : Int32} (h : gv_Ta u) : gv_Ta (gw_wi (gw_wi u 670 0 v) 670 0 k) ∧ Tf u (gw_wi (gw_wi u 670 0 v) 670 0 k) := ⟨h.same (fun j => by rw [wi_ne (by omega), wi_ne (by omega)]) (fun j _ _ => by rw [wi_ne (by omega), wi_ne (by omega)]) (fun _ _ _ => rfl) (fun _ _ _ => rfl) rfl rfl, fun _ _ _ => rfl, fun p j _ _ _ _ q => by rw [wi_ne (by omega), wi_ne (by omega)]⟩
