def pr (f : Nat → Nat) : Nat → Nat
  | 0 => 1
  | n + 1 => pr f n * f n
theorem pr_congr {f g : Nat → Nat} : ∀ {n : Nat}, (∀ i, i < n → f i = g i) → pr f n = pr g n
  | 0, _ => rfl
  | n + 1, h => by
    unfold pr
    rw [pr_congr (fun i hi => h i (by omega)), h n (by omega)]
theorem pr_skip {f : Nat → Nat} {j : Nat} : ∀ {n : Nat}, j ≤ n → pr f (n + 1) = pr (fun c => f (sk j c)) n * f j
  | 0, h => by
    have : j = 0 := by omega
    subst this
    rfl
  | n + 1, h => by
    by_cases e : j = n + 1
    · subst e
      show pr f (n + 1) * f (n + 1) = _
      congr 1
      refine pr_congr (fun i hi => ?_)
      unfold sk
      rw [if_pos hi]
    · show pr f (n + 1) * f (n + 1) = pr (fun c => f (sk j c)) n * f (sk j n) * f j
      rw [pr_skip (n := n) (j := j) (by omega)]
      have : sk j n = n + 1 := by unfold sk; rw [if_neg (by omega)]
      rw [this, Nat.mul_right_comm]
theorem pr_bij : ∀ {n : Nat} {f : Nat → Nat} {t : Nat → Nat}, (∀ l, l < n → t l < n) → (∀ l m, l < n → m < n → t l = t m → l = m) → pr (fun l => f (t l)) n = pr f n
  | 0, _, _, _, _ => rfl
  | n + 1, f, t, h1, h2 => by
    have hn := h1 n (by omega)
    rw [pr_skip (f := f) (j := t n) (by omega)]
    show pr (fun l => f (t l)) n * f (t n) = _
    congr 1
    have ih := pr_bij (n := n) (f := fun c => f (sk (t n) c)) (t := fun l => if t l < t n then t l else t l - 1) (fun l hl => by
      have a1 := h1 l (by omega)
      have a2 : t l ≠ t n := fun e => by have := h2 l n (by omega) (by omega) e; omega
      split <;> omega) (fun l m hl hm e => by
      have a2 : t l ≠ t n := fun e => by have := h2 l n (by omega) (by omega) e; omega
      have a3 : t m ≠ t n := fun e => by have := h2 m n (by omega) (by omega) e; omega
      apply h2 l m (by omega) (by omega)
      split at e <;> split at e <;> omega)
    rw [← ih]
    refine pr_congr (fun l hl => ?_)
    have a2 : t l ≠ t n := fun e => by have := h2 l n (by omega) (by omega) e; omega
    congr 1
    unfold sk
    by_cases q : t l < t n
    · rw [if_pos q, if_pos q]
    · rw [if_neg q, if_neg (by omega)]
      omega
theorem fermat {p a : Nat} (hp : Pm p) (ha : ¬ p ∣ a) : a ^ (p - 1) % p = 1 := by
  obtain ⟨h1, h2⟩ := hp
  have hm : ∀ l, l < p - 1 → (a * (l + 1)) % p ≠ 0 := fun l hl q => by
    rcases h2 a (l + 1) (Nat.dvd_of_mod_eq_zero q) with q | q
    · exact ha q
    · have := Nat.le_of_dvd (by omega) q; omega
  have hb := pr_bij (n := p - 1) (f := fun c => c + 1) (t := fun l => (a * (l + 1)) % p - 1) (fun l hl => by
    have := Nat.mod_lt (a * (l + 1)) (show 0 < p by omega)
    have := hm l hl
    omega) (fun l m hl hm' e => by
    have e1 := hm l hl
    have e2 := hm m hm'
    have e3 : (a * (l + 1)) % p = (a * (m + 1)) % p := by omega
    have key : ∀ x y, x < y → y < p - 1 → (a * (x + 1)) % p = (a * (y + 1)) % p → False := by
      intro x y hxy hy q
      have : (a * (y + 1) - a * (x + 1)) % p = 0 := Nat.sub_mod_eq_zero_of_mod_eq q.symm
      rw [← Nat.mul_sub] at this
      rcases h2 a (y + 1 - (x + 1)) (Nat.dvd_of_mod_eq_zero this) with q | q
      · exact ha q
      · have := Nat.le_of_dvd (by omega) q; omega
    rcases Nat.lt_trichotomy l m with q | q | q
    · exact absurd e3 (fun w => key l m q hm' w)
    · exact q
    · exact absurd e3.symm (fun w => key m l q hl w))
  have hc : pr (fun l => (a * (l + 1)) % p) (p - 1) = pr (fun c => c + 1) (p - 1) := by
    rw [← hb]
    refine pr_congr (fun l hl => ?_)
    have := hm l hl
    omega
  have hmod : ∀ n, pr (fun l => (a * (l + 1)) % p) n % p = (a ^ n * pr (fun c => c + 1) n) % p := by
    intro n
    induction n with
    | zero => simp [pr]
    | succ n ih =>
      show (pr (fun l => (a * (l + 1)) % p) n * ((a * (n + 1)) % p)) % p = (a ^ (n + 1) * (pr (fun c => c + 1) n * (n + 1))) % p
      rw [Nat.mul_mod, ih, Nat.mod_mod, ← Nat.mul_mod]
      congr 1
      rw [Nat.pow_succ]
      generalize pr (fun c => c + 1) n = Q
      rw [Nat.mul_assoc, Nat.mul_left_comm Q a, ← Nat.mul_assoc]
  have hQ : ∀ n, n ≤ p - 1 → ¬ p ∣ pr (fun c => c + 1) n := by
    intro n
    induction n with
    | zero => intro _ q; have := Nat.le_of_dvd (by decide) q; simp [pr] at this; omega
    | succ n ih =>
      intro hn q
      rcases h2 _ _ q with q | q
      · exact ih (by omega) q
      · have q' : p ∣ n + 1 := q
        have := Nat.le_of_dvd (by omega) q'
        omega
  have hfin := hmod (p - 1)
  rw [hc] at hfin
  generalize hQe : pr (fun c => c + 1) (p - 1) = Q at hfin
  have hQn := hQ (p - 1) (Nat.le_refl _)
  rw [hQe] at hQn
  have hpos : 0 < a ^ (p - 1) := Nat.pow_pos (Nat.pos_of_ne_zero (fun q => ha (by rw [q]; exact Nat.dvd_zero p)))
  have hd : p ∣ (a ^ (p - 1) - 1) * Q := by
    apply Nat.dvd_of_mod_eq_zero
    rw [Nat.sub_mul, Nat.one_mul]
    exact Nat.sub_mod_eq_zero_of_mod_eq hfin.symm
  rcases h2 _ _ hd with q | q
  · have e : a ^ (p - 1) = (a ^ (p - 1) - 1) + 1 := by omega
    rw [e, Nat.add_mod, Nat.mod_eq_zero_of_dvd q, Nat.zero_add, Nat.mod_mod, Nat.mod_eq_of_lt h1]
  · exact absurd q hQn
theorem i64_rem {a p : Nat} (ha : a < 9223372036854775808) (hp : 0 < p) (hp2 : p < 9223372036854775808) : Int64.ofNat a - Int64.ofNat a / Int64.ofNat p * Int64.ofNat p = Int64.ofNat (a % p) := by
  have e1 : (Int64.ofNat a).toInt = (a : Int) := i64_nat ha
  have e2 : (Int64.ofNat p).toInt = (p : Int) := i64_nat hp2
  apply i64_of
  · rw [n64_rem (a := Int64.ofNat a) (b := Int64.ofNat p) (by rw [e1]; omega) (by rw [e2]; omega), e1, e2]
    exact (Int.natCast_emod _ _).symm
  · have := Nat.mod_lt a hp; omega
theorem i64_mul {a b : Nat} : Int64.ofNat a * Int64.ofNat b = Int64.ofNat (a * b) := (Int64.ofNat_mul a b).symm
theorem i64_add {a b : Nat} : Int64.ofNat a + Int64.ofNat b = Int64.ofNat (a + b) := (Int64.ofNat_add a b).symm
theorem i64_sub {a b : Nat} (h : b ≤ a) (ha : a < 9223372036854775808) : Int64.ofNat a - Int64.ofNat b = Int64.ofNat (a - b) := by
  have e1 := i64_nat ha
  have e2 := i64_nat (show b < 9223372036854775808 by omega)
  apply i64_of
  · rw [n64_sub (by omega) (by omega), e1, e2]; omega
  · omega
theorem i64_ne0 {p : Nat} (hp : 0 < p) (hp2 : p < 9223372036854775808) : ¬ Int64.ofNat p = 0 := fun e => by
  have := congrArg Int64.toInt e
  rw [i64_nat hp2] at this
  have z0 : (0 : Int64).toInt = 0 := rfl
  omega
theorem gm_powerL {F : Nat} {z : gw_Sh} {u : gw_St} {p : Nat} (hp : 0 < p) (hp2 : p < 2147483648) : ∀ (K f r b e : Nat), e < 2 ^ K → K < f → r < p → b < p → e < 9223372036854775808 → gf_Model_power_L12 F z f u (Int64.ofNat p) (Int64.ofNat r) (Int64.ofNat b) (Int64.ofNat e) = some (Int64.ofNat (r * b ^ e % p), u) := by
  intro K
  induction K with
  | zero =>
    intro f r b e he hf hr hb he2
    obtain ⟨f, rfl⟩ : ∃ g, f = g + 1 := ⟨f - 1, by omega⟩
    have e0 : e = 0 := by simp at he; exact he
    subst e0
    show gf_Model_power_S12 F z _ u (Int64.ofNat p) (Int64.ofNat r) (Int64.ofNat b) (Int64.ofNat 0) = _
    unfold gf_Model_power_S12
    rw [if_pos (by decide), Nat.pow_zero, Nat.mul_one, Nat.mod_eq_of_lt hr]
  | succ K ih =>
    intro f r b e he hf hr hb he2
    obtain ⟨f, rfl⟩ : ∃ g, f = g + 1 := ⟨f - 1, by omega⟩
    by_cases e0 : e = 0
    · subst e0
      show gf_Model_power_S12 F z _ u (Int64.ofNat p) (Int64.ofNat r) (Int64.ofNat b) (Int64.ofNat 0) = _
      unfold gf_Model_power_S12
      rw [if_pos (by decide), Nat.pow_zero, Nat.mul_one, Nat.mod_eq_of_lt hr]
    · have hbb : b * b < 4611686018427387904 := Nat.lt_of_le_of_lt (Nat.mul_le_mul (Nat.le_of_lt hb) (Nat.le_of_lt hb)) (by
        have : p * p ≤ 2147483647 * 2147483647 := Nat.mul_le_mul (by omega) (by omega)
        omega)
      have hrb : r * b < 4611686018427387904 := Nat.lt_of_le_of_lt (Nat.mul_le_mul (Nat.le_of_lt hr) (Nat.le_of_lt hb)) (by
        have : p * p ≤ 2147483647 * 2147483647 := Nat.mul_le_mul (by omega) (by omega)
        omega)
      have hne := i64_ne0 hp (show p < 9223372036854775808 by omega)
      have eE := i64_nat he2
      have h2d : Int64.ofNat e / (2 : Int64) = Int64.ofNat (e / 2) := by
        apply i64_of
        · have e2 : (2 : Int64).toInt = 2 := rfl
          rw [n64_div (by omega) (by omega), eE, e2]
          exact (Int.natCast_ediv e 2).symm
        · omega
      have h2r : Int64.ofNat e - Int64.ofNat e / (2 : Int64) * (2 : Int64) = Int64.ofNat (e % 2) := i64_rem (p := 2) he2 (by omega) (by omega)
      have hlt : e / 2 < 2 ^ K := by rw [Nat.pow_succ] at he; omega
      have step : ∀ r', r' < p → gf_Model_power_b43 F z (gf_Model_power_L12 F z f) u (Int64.ofNat p) (Int64.ofNat b) (Int64.ofNat e) (Int64.ofNat r') = some (Int64.ofNat (r' * (b * b % p) ^ (e / 2) % p), u) := by
        intro r' hr'
        unfold gf_Model_power_b43
        rw [if_neg hne, i64_mul, i64_rem (by omega) hp (by omega)]
        simp only [gf_nm]
        rw [if_neg (by decide), h2d]
        exact ih f r' (b * b % p) (e / 2) hlt (by omega) hr' (Nat.mod_lt _ hp) (by omega)
      have hpow : ∀ r', (r' * (b * b % p) ^ (e / 2)) % p = (r' * (b * b) ^ (e / 2)) % p := by
        intro r'
        rw [Nat.mul_mod, Nat.pow_mod, Nat.mod_mod, ← Nat.pow_mod, ← Nat.mul_mod]
      show gf_Model_power_S12 F z _ u (Int64.ofNat p) (Int64.ofNat r) (Int64.ofNat b) (Int64.ofNat e) = _
      unfold gf_Model_power_S12
      have e0' : (0 : Int64).toInt = 0 := rfl
      have e1' : (1 : Int64).toInt = 1 := rfl
      rw [if_neg (fun q => by
        have h1 : 0 < lg_cmp (Int64.ofNat e) 0 := lgc_pos.mpr (by omega)
        have h2 := i32_lt.mp h1
        have h3 := i32_le.mp q
        omega), if_neg (by decide), h2r]
      by_cases c : e % 2 = 1
      · rw [if_pos (lgc_zero.mpr (by rw [i64_nat (by omega), e1']; omega)), if_neg hne, i64_mul, i64_rem (by omega) hp (by omega), step _ (Nat.mod_lt _ hp), hpow]
        congr 3
        rw [Nat.mul_mod, Nat.mod_mod, ← Nat.mul_mod, ← Nat.pow_two, ← Nat.pow_mul, Nat.mul_assoc, Nat.mul_comm b, ← Nat.pow_succ]
        congr 3
        omega
      · rw [if_neg (fun q => by
          have := lgc_zero.mp q
          rw [i64_nat (by omega), e1'] at this
          omega), step r hr, hpow]
        congr 3
        rw [← Nat.pow_two, ← Nat.pow_mul]
        congr 3
        omega
/-- the inverse by Fermat -/
theorem gm_power {F : Nat} (hF : 2000 ≤ F) {z : gw_Sh} {u : gw_St} {p v : Nat} (hp : Pm p) (hp2 : p < 2147483648) (hv : v < p) (hv0 : v ≠ 0) : ∃ t, gf_Model_power F z u (Int64.ofNat v) (Int64.ofNat p - (2 : Int64)) (Int64.ofNat p) = some (Int64.ofNat t, u) ∧ t < p ∧ (t * v) % p = 1 := by
  have h1 := hp.1
  refine ⟨1 * v ^ (p - 2) % p, ?_, Nat.mod_lt _ (by omega), ?_⟩
  · show gf_Model_power_b0 F z u (Int64.ofNat v) (Int64.ofNat p - (2 : Int64)) (Int64.ofNat p) = _
    unfold gf_Model_power_b0
    rw [if_neg (i64_ne0 (by omega) (by omega)), i64_rem (by omega) (by omega) (by omega), Nat.mod_eq_of_lt hv]
    simp only [gf_nm]
    rw [show Int64.ofNat p - (2 : Int64) = Int64.ofNat (p - 2) from i64_sub (b := 2) (by omega) (by omega)]
    exact gm_powerL (by omega) hp2 31 F 1 v (p - 2) (by omega) (by omega) (by omega) hv (by omega)
  · have hf := fermat hp (fun q => hv0 (Nat.eq_zero_of_dvd_of_lt q hv))
    rw [Nat.one_mul, Nat.mul_mod, Nat.mod_mod, ← Nat.mul_mod, ← Nat.pow_succ, show (p - 2).succ = p - 1 by omega]
    exact hf
