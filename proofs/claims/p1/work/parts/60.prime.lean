/-! LAYER 2. Numbers: no overflow -/
theorem n64_mul {a b : Int64} (h1 : -9223372036854775808 ≤ a.toInt * b.toInt) (h2 : a.toInt * b.toInt < 9223372036854775808) : (a * b).toInt = a.toInt * b.toInt := by
  rw [Int64.toInt_mul]
  exact Int.bmod_eq_of_le (by omega) (by omega)
theorem n64_add {a b : Int64} (h1 : -9223372036854775808 ≤ a.toInt + b.toInt) (h2 : a.toInt + b.toInt < 9223372036854775808) : (a + b).toInt = a.toInt + b.toInt := by
  rw [Int64.toInt_add]
  exact Int.bmod_eq_of_le (by omega) (by omega)
theorem n64_sub {a b : Int64} (h1 : -9223372036854775808 ≤ a.toInt - b.toInt) (h2 : a.toInt - b.toInt < 9223372036854775808) : (a - b).toInt = a.toInt - b.toInt := by
  rw [Int64.toInt_sub]
  exact Int.bmod_eq_of_le (by omega) (by omega)
theorem n64_lo (a : Int64) : -9223372036854775808 ≤ a.toInt := Int64.le_toInt a
theorem n64_hi (a : Int64) : a.toInt < 9223372036854775808 := Int64.toInt_lt a
theorem n64_div {a b : Int64} (ha : 0 ≤ a.toInt) (hb : 0 < b.toInt) : (a / b).toInt = a.toInt / b.toInt := by
  rw [Int64.toInt_div, Int.tdiv_eq_ediv_of_nonneg ha]
  have h0 := Int.ediv_nonneg ha (Int.le_of_lt hb)
  have h1 : a.toInt / b.toInt ≤ a.toInt := Int.ediv_le_self _ ha
  have h2 := n64_hi a
  exact Int.bmod_eq_of_le (by omega) (by omega)
theorem n64_rem {a b : Int64} (ha : 0 ≤ a.toInt) (hb : 0 < b.toInt) : (a - a / b * b).toInt = a.toInt % b.toInt := by
  have hd := n64_div ha hb
  have h0 := Int.ediv_nonneg ha (Int.le_of_lt hb)
  have h3 := Int.ediv_mul_le a.toInt (Int.ne_of_gt hb)
  have h4 : 0 ≤ a.toInt / b.toInt * b.toInt := Int.mul_nonneg h0 (Int.le_of_lt hb)
  have h2 := n64_hi a
  have hm : (a / b * b).toInt = a.toInt / b.toInt * b.toInt := by
    rw [n64_mul (by rw [hd]; omega) (by rw [hd]; omega), hd]
  have h5 : a.toInt % b.toInt = a.toInt - a.toInt / b.toInt * b.toInt := by
    have := Int.emod_add_mul_ediv a.toInt b.toInt
    rw [Int.mul_comm b.toInt] at this
    omega
  rw [n64_sub (by rw [hm]; omega) (by rw [hm]; omega), hm, h5]
theorem n32_mul {a b : Int32} (h1 : -2147483648 ≤ a.toInt * b.toInt) (h2 : a.toInt * b.toInt < 2147483648) : (a * b).toInt = a.toInt * b.toInt := by
  rw [Int32.toInt_mul]
  exact Int.bmod_eq_of_le (by omega) (by omega)
theorem n32_add {a b : Int32} (h1 : -2147483648 ≤ a.toInt + b.toInt) (h2 : a.toInt + b.toInt < 2147483648) : (a + b).toInt = a.toInt + b.toInt := by
  rw [Int32.toInt_add]
  exact Int.bmod_eq_of_le (by omega) (by omega)
theorem n32_sub {a b : Int32} (h1 : -2147483648 ≤ a.toInt - b.toInt) (h2 : a.toInt - b.toInt < 2147483648) : (a - b).toInt = a.toInt - b.toInt := by
  rw [Int32.toInt_sub]
  exact Int.bmod_eq_of_le (by omega) (by omega)
theorem n32_lo (a : Int32) : -2147483648 ≤ a.toInt := Int32.le_toInt a
theorem n32_hi (a : Int32) : a.toInt < 2147483648 := Int32.toInt_lt a
theorem n32_div {a b : Int32} (ha : 0 ≤ a.toInt) (hb : 0 < b.toInt) : (a / b).toInt = a.toInt / b.toInt := by
  rw [Int32.toInt_div, Int.tdiv_eq_ediv_of_nonneg ha]
  have h0 := Int.ediv_nonneg ha (Int.le_of_lt hb)
  have h1 : a.toInt / b.toInt ≤ a.toInt := Int.ediv_le_self _ ha
  have h2 := n32_hi a
  exact Int.bmod_eq_of_le (by omega) (by omega)
theorem n32_rem {a b : Int32} (ha : 0 ≤ a.toInt) (hb : 0 < b.toInt) : (a - a / b * b).toInt = a.toInt % b.toInt := by
  have hd := n32_div ha hb
  have h0 := Int.ediv_nonneg ha (Int.le_of_lt hb)
  have h3 := Int.ediv_mul_le a.toInt (Int.ne_of_gt hb)
  have h4 : 0 ≤ a.toInt / b.toInt * b.toInt := Int.mul_nonneg h0 (Int.le_of_lt hb)
  have h2 := n32_hi a
  have hm : (a / b * b).toInt = a.toInt / b.toInt * b.toInt := by
    rw [n32_mul (by rw [hd]; omega) (by rw [hd]; omega), hd]
  have h5 : a.toInt % b.toInt = a.toInt - a.toInt / b.toInt * b.toInt := by
    have := Int.emod_add_mul_ediv a.toInt b.toInt
    rw [Int.mul_comm b.toInt] at this
    omega
  rw [n32_sub (by rw [hm]; omega) (by rw [hm]; omega), hm, h5]
theorem lgc_pos {a b : Int64} : 0 < lg_cmp a b ↔ b.toInt < a.toInt := by
  unfold lg_cmp
  by_cases h : a > b
  · rw [if_pos h]; exact ⟨fun _ => Int64.lt_iff_toInt_lt.mp h, fun _ => by decide⟩
  · rw [if_neg h]
    have h' : ¬ b.toInt < a.toInt := fun q => h (Int64.lt_iff_toInt_lt.mpr q)
    by_cases e : a = b
    · rw [if_pos e]; exact ⟨fun q => absurd q (by decide), fun q => absurd q h'⟩
    · rw [if_neg e]; exact ⟨fun q => absurd q (by decide), fun q => absurd q h'⟩
theorem lgc_zero {a b : Int64} : lg_cmp a b = 0 ↔ a.toInt = b.toInt := by
  unfold lg_cmp
  by_cases h : a > b
  · rw [if_pos h]
    have h' := Int64.lt_iff_toInt_lt.mp h
    exact ⟨fun q => absurd q (by decide), fun q => by omega⟩
  · rw [if_neg h]
    by_cases e : a = b
    · rw [if_pos e]; exact ⟨fun _ => by rw [e], fun _ => rfl⟩
    · rw [if_neg e]; exact ⟨fun q => absurd q (by decide), fun q => absurd (Int64.toInt_inj.mp q) e⟩
theorem lgc_neg {a b : Int64} : lg_cmp a b < 0 ↔ a.toInt < b.toInt := by
  unfold lg_cmp
  by_cases h : a > b
  · rw [if_pos h]
    have h' := Int64.lt_iff_toInt_lt.mp h
    exact ⟨fun q => absurd q (by decide), fun q => by omega⟩
  · rw [if_neg h]
    have h' : ¬ b.toInt < a.toInt := fun q => h (Int64.lt_iff_toInt_lt.mpr q)
    by_cases e : a = b
    · rw [if_pos e]; exact ⟨fun q => absurd q (by decide), fun q => by rw [e] at q; omega⟩
    · rw [if_neg e]
      refine ⟨fun _ => ?_, fun _ => by decide⟩
      have : a.toInt ≠ b.toInt := fun q => e (Int64.toInt_inj.mp q)
      omega
theorem i32_nat {n : Nat} (h : n < 2147483648) : (Int32.ofNat n).toInt = n := Int32.toInt_ofNat_of_lt h
theorem i64_nat {n : Nat} (h : n < 9223372036854775808) : (Int64.ofNat n).toInt = n := Int64.toInt_ofNat_of_lt h
theorem i32_clamp {n : Nat} (h : n < 2147483648) : (Int32.ofNat n).toNatClampNeg = n := by
  show (Int32.ofNat n).toInt.toNat = n
  rw [i32_nat h]; rfl
theorem i32_ext {a b : Int32} (h : a.toInt = b.toInt) : a = b := Int32.toInt_inj.mp h
theorem i64_ext {a b : Int64} (h : a.toInt = b.toInt) : a = b := Int64.toInt_inj.mp h
theorem i32_of {a : Int32} (h : 0 ≤ a.toInt) : a = Int32.ofNat a.toNatClampNeg := by
  apply i32_ext
  have h1 := n32_hi a
  have h2 : (a.toNatClampNeg : Int) = a.toInt := Int.toNat_of_nonneg h
  rw [i32_nat (by omega), h2]
theorem i32_lt {a b : Int32} : a < b ↔ a.toInt < b.toInt := Int32.lt_iff_toInt_lt
theorem i32_le {a b : Int32} : a ≤ b ↔ a.toInt ≤ b.toInt := Int32.le_iff_toInt_le
theorem i64_lt {a b : Int64} : a < b ↔ a.toInt < b.toInt := Int64.lt_iff_toInt_lt
theorem i64_le {a b : Int64} : a ≤ b ↔ a.toInt ≤ b.toInt := Int64.le_iff_toInt_le
/-! the reference's primes -/
theorem gs_isPrime_L {F : Nat} {z : gw_Sh} (u : gw_St) (n : Nat) (hn : n < 2147483648) : ∀ (f d : Nat), 3 ≤ d → d ≤ 46342 → 46343 ≤ d + 2 * f →
    ((∃ k, (d + 2 * k) * (d + 2 * k) ≤ n ∧ (d + 2 * k) ∣ n) → gf_Model_isPrime_L4 F z f u (Int32.ofNat n) (Int64.ofNat d) = some (0, u)) ∧ ((¬ ∃ k, (d + 2 * k) * (d + 2 * k) ≤ n ∧ (d + 2 * k) ∣ n) → gf_Model_isPrime_L4 F z f u (Int32.ofNat n) (Int64.ofNat d) = some (1, u)) := by
  intro f
  induction f with
  | zero => intro d h1 h2 h3; omega
  | succ f ih =>
    intro d h1 h2 h3
    have ed : (Int64.ofNat d).toInt = d := i64_nat (by omega)
    have en : (Int32.ofNat n).toInt64.toInt = n := by rw [Int32.toInt_toInt64, i32_nat hn]
    have hdd : d * d ≤ 46342 * 46342 := Nat.mul_le_mul h2 h2
    have em : (Int64.ofNat d * Int64.ofNat d).toInt = ((d * d : Nat) : Int) := by
      have e1 : (Int64.ofNat d).toInt * (Int64.ofNat d).toInt = ((d * d : Nat) : Int) := by rw [ed]; exact (Int.natCast_mul d d).symm
      rw [n64_mul (by rw [e1]; omega) (by rw [e1]; omega), e1]
    have c1 : 0 < lg_cmp (Int64.ofNat d * Int64.ofNat d) ((Int32.ofNat n).toInt64) ↔ n < d * d := by
      rw [lgc_pos, em, en]; omega
    have hy : ¬ Int64.ofNat d = 0 := fun q => by
      have := congrArg Int64.toInt q
      rw [ed] at this
      have h0 : (0 : Int64).toInt = 0 := rfl
      omega
    have er : ((Int32.ofNat n).toInt64 - (Int32.ofNat n).toInt64 / Int64.ofNat d * Int64.ofNat d).toInt = ((n % d : Nat) : Int) := by
      rw [n64_rem (by rw [en]; omega) (by rw [ed]; omega), en, ed]; rfl
    have c2 : lg_cmp ((Int32.ofNat n).toInt64 - (Int32.ofNat n).toInt64 / Int64.ofNat d * Int64.ofNat d) (0 : Int64) = 0 ↔ n % d = 0 := by
      rw [lgc_zero, er]
      have h0 : (0 : Int64).toInt = 0 := rfl
      omega
    show (_ → gf_Model_isPrime_S4 F z (gf_Model_isPrime_L4 F z f) u (Int32.ofNat n) (Int64.ofNat d) = _) ∧ (_ → gf_Model_isPrime_S4 F z (gf_Model_isPrime_L4 F z f) u (Int32.ofNat n) (Int64.ofNat d) = _)
    unfold gf_Model_isPrime_S4
    by_cases g1 : n < d * d
    · rw [if_pos (c1.mpr g1), if_neg (by decide)]
      refine ⟨fun ⟨k, q1, _⟩ => ?_, fun _ => rfl⟩
      have : d * d ≤ (d + 2 * k) * (d + 2 * k) := Nat.mul_le_mul (by omega) (by omega)
      omega
    · rw [if_neg (fun q => g1 (c1.mp q)), if_neg hy]
      by_cases g2 : n % d = 0
      · rw [if_pos (c2.mpr g2), if_neg (by decide)]
        exact ⟨fun _ => rfl, fun q => absurd ⟨0, by simpa using Nat.not_lt.mp g1, by simpa using Nat.dvd_of_mod_eq_zero g2⟩ q⟩
      · rw [if_neg (fun q => g2 (c2.mp q))]
        have hd6 : d ≤ 46340 := by
          rcases Nat.lt_or_ge 46340 d with q | q
          · have : 46341 * 46341 ≤ d * d := Nat.mul_le_mul q q
            omega
          · exact q
        have e2 : Int64.ofNat d + 2 = Int64.ofNat (d + 2) := (Int64.ofNat_add d 2).symm
        show (_ → gf_Model_isPrime_L4 F z f u (Int32.ofNat n) (Int64.ofNat d + 2) = _) ∧ (_ → gf_Model_isPrime_L4 F z f u (Int32.ofNat n) (Int64.ofNat d + 2) = _)
        rw [e2]
        obtain ⟨i1, i2⟩ := ih (d + 2) (by omega) (by omega) (by omega)
        refine ⟨fun ⟨k, q1, q2⟩ => i1 ?_, fun q => i2 (fun ⟨k, q1, q2⟩ => q ⟨k + 1, ?_, ?_⟩)⟩
        · cases k with
          | zero => exact absurd (Nat.mod_eq_zero_of_dvd (by simpa using q2)) g2
          | succ k => exact ⟨k, by rw [show d + 2 + 2 * k = d + 2 * (k + 1) by omega]; exact q1, by rw [show d + 2 + 2 * k = d + 2 * (k + 1) by omega]; exact q2⟩
        · rw [show d + 2 * (k + 1) = d + 2 + 2 * k by omega]; exact q1
        · rw [show d + 2 * (k + 1) = d + 2 + 2 * k by omega]; exact q2
/-- the product of the 2^k odd numbers from 2 lo + 3 on -/
def np_p : Nat → Nat → Nat
  | 0, lo => 2 * lo + 3
  | k + 1, lo => np_p k lo * np_p k (lo + 2 ^ k)
def np_P : Nat := np_p 14 0 * np_p 12 16384 * np_p 11 20480 * np_p 9 22528 * np_p 7 23040 * np_p 0 23168
theorem np_in : ∀ (k lo e : Nat), lo ≤ e → e < lo + 2 ^ k → (2 * e + 3) ∣ np_p k lo := by
  intro k
  induction k with
  | zero =>
    intro lo e h1 h2
    have : e = lo := by
      have : (2 : Nat) ^ 0 = 1 := rfl
      omega
    subst this
    exact Nat.dvd_refl _
  | succ k ih =>
    intro lo e h1 h2
    rw [Nat.pow_succ] at h2
    show _ ∣ np_p k lo * np_p k (lo + 2 ^ k)
    rcases Nat.lt_or_ge e (lo + 2 ^ k) with q | q
    · exact Nat.dvd_mul_right_of_dvd (ih lo e h1 q) _
    · exact Nat.dvd_mul_left_of_dvd (ih (lo + 2 ^ k) e q (by omega)) _
theorem np_cop : ∀ (k lo n : Nat), (∀ e, lo ≤ e → e < lo + 2 ^ k → Nat.gcd n (2 * e + 3) = 1) → Nat.gcd n (np_p k lo) = 1 := by
  intro k
  induction k with
  | zero =>
    intro lo n h
    exact h lo (Nat.le_refl _) (by have : (2 : Nat) ^ 0 = 1 := rfl; omega)
  | succ k ih =>
    intro lo n h
    have hp := Nat.pow_succ 2 k
    have h1 : Nat.Coprime n (np_p k lo) := ih lo n (fun e a b => h e a (by rw [Nat.pow_succ]; omega))
    have h2 : Nat.Coprime n (np_p k (lo + 2 ^ k)) := ih (lo + 2 ^ k) n (fun e a b => h e (by omega) (by rw [Nat.pow_succ]; omega))
    exact Nat.Coprime.mul_right h1 h2
theorem np_all {n : Nat} (h : ∀ e, e < 23169 → Nat.gcd n (2 * e + 3) = 1) : Nat.gcd n np_P = 1 := by
  have a1 : Nat.Coprime n (np_p 14 0) := np_cop 14 0 n (fun e a b => h e (by omega))
  have a2 : Nat.Coprime n (np_p 12 16384) := np_cop 12 16384 n (fun e a b => h e (by omega))
  have a3 : Nat.Coprime n (np_p 11 20480) := np_cop 11 20480 n (fun e a b => h e (by omega))
  have a4 : Nat.Coprime n (np_p 9 22528) := np_cop 9 22528 n (fun e a b => h e (by omega))
  have a5 : Nat.Coprime n (np_p 7 23040) := np_cop 7 23040 n (fun e a b => h e (by omega))
  have a6 : Nat.Coprime n (np_p 0 23168) := np_cop 0 23168 n (fun e a b => h e (by omega))
  exact Nat.Coprime.mul_right (Nat.Coprime.mul_right (Nat.Coprime.mul_right (Nat.Coprime.mul_right (Nat.Coprime.mul_right a1 a2) a3) a4) a5) a6
theorem np_div {e : Nat} (h : e < 23169) : (2 * e + 3) ∣ np_P := by
  unfold np_P
  rcases Nat.lt_or_ge e 16384 with q | q
  · exact Nat.dvd_mul_right_of_dvd (Nat.dvd_mul_right_of_dvd (Nat.dvd_mul_right_of_dvd (Nat.dvd_mul_right_of_dvd (Nat.dvd_mul_right_of_dvd (np_in 14 0 e (Nat.zero_le _) (by omega)) _) _) _) _) _
  rcases Nat.lt_or_ge e 20480 with q2 | q2
  · exact Nat.dvd_mul_right_of_dvd (Nat.dvd_mul_right_of_dvd (Nat.dvd_mul_right_of_dvd (Nat.dvd_mul_right_of_dvd (Nat.dvd_mul_left_of_dvd (np_in 12 16384 e q (by omega)) _) _) _) _) _
  rcases Nat.lt_or_ge e 22528 with q3 | q3
  · exact Nat.dvd_mul_right_of_dvd (Nat.dvd_mul_right_of_dvd (Nat.dvd_mul_right_of_dvd (Nat.dvd_mul_left_of_dvd (np_in 11 20480 e q2 (by omega)) _) _) _) _
  rcases Nat.lt_or_ge e 23040 with q4 | q4
  · exact Nat.dvd_mul_right_of_dvd (Nat.dvd_mul_right_of_dvd (Nat.dvd_mul_left_of_dvd (np_in 9 22528 e q3 (by omega)) _) _) _
  rcases Nat.lt_or_ge e 23168 with q5 | q5
  · exact Nat.dvd_mul_right_of_dvd (Nat.dvd_mul_left_of_dvd (np_in 7 23040 e q4 (by omega)) _) _
  · exact Nat.dvd_mul_left_of_dvd (np_in 0 23168 e q5 (by omega)) _
/-- an odd number near 2^31: the reference's test says what the gcd says -/
theorem gs_isPrime {F : Nat} (hF : 30000 ≤ F) {z : gw_Sh} (u : gw_St) {n : Nat} (hn : n < 2147483648) (hn2 : 2147395600 ≤ n) : gf_Model_isPrime F z u (Int32.ofNat n) = some (if Nat.gcd n np_P = 1 then 1 else 0, u) := by
  obtain ⟨i1, i2⟩ := gs_isPrime_L (F := F) (z := z) u n hn F 3 (by omega) (by omega) (by omega)
  show gf_Model_isPrime_L4 F z F u (Int32.ofNat n) (Int64.ofNat 3) = _
  by_cases h : Nat.gcd n np_P = 1
  · rw [if_pos h]
    refine i2 (fun ⟨k, q1, q2⟩ => ?_)
    have hk : k < 23169 := by
      rcases Nat.lt_or_ge k 23169 with q | q
      · exact q
      · have : 46341 * 46341 ≤ (3 + 2 * k) * (3 + 2 * k) := Nat.mul_le_mul (by omega) (by omega)
        omega
    have q3 : (3 + 2 * k) ∣ Nat.gcd n np_P := Nat.dvd_gcd q2 (by rw [Nat.add_comm]; exact np_div hk)
    rw [h] at q3
    have := Nat.le_of_dvd (by omega) q3
    omega
  · rw [if_neg h]
    apply i1
    apply Classical.byContradiction
    intro hno
    apply h
    apply np_all
    intro e he
    apply Classical.byContradiction
    intro hg
    have g1 : Nat.gcd n (2 * e + 3) ∣ n := Nat.gcd_dvd_left _ _
    have g2 : Nat.gcd n (2 * e + 3) ∣ (2 * e + 3) := Nat.gcd_dvd_right _ _
    generalize Nat.gcd n (2 * e + 3) = g at *
    have g3 : g ≤ 2 * e + 3 := Nat.le_of_dvd (by omega) g2
    have g4 : g % 2 = 1 := by
      rcases Nat.mod_two_eq_zero_or_one g with q | q
      · obtain ⟨c, hc⟩ := g2
        have : (g * c) % 2 = 0 := by rw [Nat.mul_mod, q, Nat.zero_mul]
        omega
      · exact q
    have g5 : g ≠ 0 := fun q => by rw [q] at g4; exact absurd g4 (by decide)
    refine hno ⟨(g - 3) / 2, ?_, ?_⟩
    · rw [show 3 + 2 * ((g - 3) / 2) = g by omega]
      have : g * g ≤ 46340 * 46340 := Nat.mul_le_mul (by omega) (by omega)
      omega
    · rw [show 3 + 2 * ((g - 3) / 2) = g by omega]; exact g1
def np_L : List Nat := [2147483647, 2147483629, 2147483587, 2147483579, 2147483563, 2147483549, 2147483543, 2147483497, 2147483489, 2147483477, 2147483423, 2147483399, 2147483353, 2147483323, 2147483269, 2147483249, 2147483237, 2147483179, 2147483171, 2147483137, 2147483123, 2147483077, 2147483069, 2147483059, 2147483053, 2147483033, 2147483029, 2147482951, 2147482949, 2147482943, 2147482937, 2147482921, 2147482877, 2147482873, 2147482867, 2147482859, 2147482819, 2147482817, 2147482811, 2147482801, 2147482763, 2147482739, 2147482697, 2147482693, 2147482681, 2147482663, 2147482661, 2147482621, 2147482591, 2147482583, 2147482577, 2147482507, 2147482501, 2147482481, 2147482417, 2147482409, 2147482367, 2147482361, 2147482349, 2147482343, 2147482327, 2147482291, 2147482273, 2147482237, 2147482231, 2147482223, 2147482121, 2147482093, 2147482091, 2147482081]
def np_gap (P : Nat) : Nat → Nat → Bool
  | 0, m => Nat.gcd m P == 1
  | j + 1, m => !(Nat.gcd (m + 2 * (j + 1)) P == 1) && np_gap P j m
def np_chain (P : Nat) : Nat → List Nat → Bool
  | _, [] => true
  | n, m :: ms => Nat.ble m n && Nat.beq (m + 2 * ((n - m) / 2)) n && Nat.ble 2147395600 m && np_gap P ((n - m) / 2) m && np_chain P (m - 2) ms
theorem np_ok : np_chain np_P 2147483647 np_L = true := by decide +kernel
theorem np_m2 {m : Nat} (h1 : 2 ≤ m) (h2 : m < 2147483648) : Int32.ofNat m + (-2) = Int32.ofNat (m - 2) := by
  apply i32_ext
  have e2 : (-2 : Int32).toInt = -2 := rfl
  rw [n32_add (by rw [i32_nat h2, e2]; omega) (by rw [i32_nat h2, e2]; omega), i32_nat h2, i32_nat (by omega), e2]
  omega
theorem gs_pr_L {F : Nat} (hF : 30000 ≤ F) {z : gw_Sh} {rc : gw_St → Nat → Int32 → Int32 → Option (gw_Sh × gw_St)} {u : gw_St} {t0 q k : Nat} (hq : u.2.2 t0 38 = q + 1) (hlen : z.2.2 q = 70) (hk : k < 70) : ∀ (j f m : Nat), j < f → 2147395600 ≤ m → m + 2 * j < 2147483648 → np_gap np_P j m = true →
    gf_Model_init_L328 F z rc f u t0 (Int32.ofNat (m + 2 * j)) (Int32.ofNat k) = rc (gw_wi u q k (Int32.ofNat m)) t0 (Int32.ofNat (m - 2)) (Int32.ofNat (k + 1)) := by
  intro j
  induction j with
  | zero =>
    intro f m hf h1 h2 hg
    obtain ⟨f, rfl⟩ : ∃ g, f = g + 1 := ⟨f - 1, by omega⟩
    show gf_Model_init_S328 F z rc (gf_Model_init_L328 F z rc f) u t0 (Int32.ofNat m) (Int32.ofNat k) = _
    unfold gf_Model_init_S328
    have hg1 : Nat.gcd m np_P = 1 := by simpa [np_gap] using hg
    rw [gs_isPrime hF u (by omega) h1, if_pos hg1]
    simp only [gf_cl]
    rw [if_neg (by decide), hq]
    simp only [gf_nn]
    rw [if_neg]
    · rw [i32_clamp (by omega)]
      show rc (gw_wi u q k (Int32.ofNat m)) t0 (Int32.ofNat m + (-2)) (Int32.ofNat k + 1) = _
      rw [np_m2 (by omega) (by omega), gw_iS]
    · rw [i32_clamp (by omega), hlen]
      intro c
      rcases c with c | c
      · have := i32_lt.mp c
        rw [i32_nat (by omega)] at this
        have e0 : (0 : Int32).toInt = 0 := rfl
        omega
      · omega
  | succ j ih =>
    intro f m hf h1 h2 hg
    obtain ⟨f, rfl⟩ : ∃ g, f = g + 1 := ⟨f - 1, by omega⟩
    show gf_Model_init_S328 F z rc (gf_Model_init_L328 F z rc f) u t0 (Int32.ofNat (m + 2 * (j + 1))) (Int32.ofNat k) = _
    unfold gf_Model_init_S328
    have hg1 : ¬ Nat.gcd (m + 2 * (j + 1)) np_P = 1 ∧ np_gap np_P j m = true := by simpa [np_gap] using hg
    rw [gs_isPrime hF u (by omega) (by omega), if_neg hg1.1]
    simp only [gf_cl]
    rw [if_pos trivial]
    show gf_Model_init_L328 F z rc f u t0 (Int32.ofNat (m + 2 * (j + 1)) + (-2)) (Int32.ofNat k) = _
    rw [np_m2 (by omega) (by omega), show m + 2 * (j + 1) - 2 = m + 2 * j by omega]
    exact ih f m (by omega) h1 (by omega) hg1.2
def np_w (q : Nat) : gw_St → Nat → List Nat → gw_St
  | u, _, [] => u
  | u, k, m :: ms => np_w q (gw_wi u q k (Int32.ofNat m)) (k + 1) ms
theorem gs_322 {F : Nat} (hF : 1000000 ≤ F) {z : gw_Sh} {t0 q : Nat} (hlen : z.2.2 q = 70) : ∀ (ms : List Nat) (k n f : Nat) (u : gw_St), u.2.2 t0 38 = q + 1 → k + ms.length = 70 → ms.length < f → n < 2147483648 → np_chain np_P n ms = true → gf_Model_init_L322 F z f u t0 (Int32.ofNat n) (Int32.ofNat k) = some (z, np_w q u k ms) := by
  intro ms
  induction ms with
  | nil =>
    intro k n f u hq hk hf hn hc
    obtain ⟨f, rfl⟩ : ∃ g, f = g + 1 := ⟨f - 1, by omega⟩
    have : k = 70 := by simpa using hk
    subst this
    show gf_Model_init_S322 F z (gf_Model_init_L322 F z f) u t0 (Int32.ofNat n) (Int32.ofNat 70) = _
    unfold gf_Model_init_S322
    rw [if_pos (by decide)]
    rfl
  | cons m ms ih =>
    intro k n f u hq hk hf hn hc
    obtain ⟨f, rfl⟩ : ∃ g, f = g + 1 := ⟨f - 1, by omega⟩
    have hk2 : k + (ms.length + 1) = 70 := hk
    have hf2 : ms.length + 1 < f + 1 := hf
    have hc2 : ((((Nat.ble m n = true ∧ Nat.beq (m + 2 * ((n - m) / 2)) n = true) ∧ Nat.ble 2147395600 m = true) ∧ np_gap np_P ((n - m) / 2) m = true) ∧ np_chain np_P (m - 2) ms = true) := by
      simpa only [np_chain, Bool.and_eq_true] using hc
    obtain ⟨⟨⟨⟨c1, c2⟩, c3⟩, c4⟩, c5⟩ := hc2
    have c1 := Nat.le_of_ble_eq_true c1
    have c2 := Nat.eq_of_beq_eq_true c2
    have c3 := Nat.le_of_ble_eq_true c3
    show gf_Model_init_S322 F z (gf_Model_init_L322 F z f) u t0 (Int32.ofNat n) (Int32.ofNat k) = _
    unfold gf_Model_init_S322
    rw [if_neg]
    · have := gs_pr_L (F := F) (k := k) (by omega) (rc := gf_Model_init_L322 F z f) hq hlen (by omega) ((n - m) / 2) F m (by omega) c3 (by omega) c4
      rw [c2] at this
      rw [this]
      exact ih (k + 1) (m - 2) f _ hq (by omega) (by omega) (by omega) c5
    · intro c
      have := i32_le.mp c
      rw [i32_nat (by omega)] at this
      have e0 : (70 : Int32).toInt = 70 := rfl
      omega
