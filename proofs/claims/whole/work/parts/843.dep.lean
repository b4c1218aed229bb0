/-- more vectors than places hang together -/
theorem dep : ∀ (k q : Nat) (v : Nat → Nat → Int), k < q → ∃ z : Nat → Int, (∃ i, i < q ∧ z i ≠ 0) ∧ ∀ c, c < k → sm (fun i => z i * v i c) q = 0
  | 0, q, v, h => ⟨fun _ => 1, ⟨0, h, by decide⟩, fun c hc => absurd hc (Nat.not_lt_zero c)⟩
  | k + 1, q, v, h => by
    by_cases hz : ∀ i, i < q → v i k = 0
    · obtain ⟨z, z1, z2⟩ := dep k q v (by omega)
      refine ⟨z, z1, fun c hc => ?_⟩
      by_cases e : c = k
      · rw [e]
        exact sm_zero (fun i hi => by rw [hz i hi, Int.mul_zero])
      · exact z2 c (by omega)
    · obtain ⟨t, ht, hne⟩ : ∃ t, t < q ∧ v t k ≠ 0 := by
        apply Classical.byContradiction
        intro hc
        apply hz
        intro i hi
        apply Classical.byContradiction
        intro hq
        exact hc ⟨i, hi, hq⟩
      obtain ⟨q, rfl⟩ : ∃ m, q = m + 1 := ⟨q - 1, by omega⟩
      obtain ⟨z, ⟨i, hi, hzi⟩, z2⟩ := dep k q (fun j c => v t k * v (sk t j) c - v (sk t j) k * v t c) (by omega)
      obtain ⟨Z, hZ⟩ : ∃ Z : Nat → Int, Z = fun i => if i = t then - sm (fun j => z j * v (sk t j) k) q else z (if i < t then i else i - 1) * v t k := ⟨_, rfl⟩
      have Zt : Z t = - sm (fun j => z j * v (sk t j) k) q := by rw [hZ]; dsimp only; rw [if_pos rfl]
      have Zs : ∀ j, Z (sk t j) = z j * v t k := fun j => by
        rw [hZ]
        dsimp only
        unfold sk
        by_cases e : j < t
        · rw [if_pos e, if_neg (by omega), if_pos e]
        · rw [if_neg e, if_neg (by omega), if_neg (by omega)]
          rfl
      have Zsum : ∀ c, sm (fun i => Z i * v i c) (q + 1) = sm (fun j => z j * (v t k * v (sk t j) c)) q - sm (fun j => z j * v (sk t j) k) q * v t c := fun c => by
        rw [sm_skip (f := fun i => Z i * v i c) (j := t) (by omega)]
        rw [Zt, Int.neg_mul]
        have : sm (fun j => Z (sk t j) * v (sk t j) c) q = sm (fun j => z j * (v t k * v (sk t j) c)) q := sm_congr (fun j _ => by rw [Zs, Int.mul_assoc])
        rw [this]
        omega
      refine ⟨Z, ⟨sk t i, by unfold sk; split <;> omega, by rw [Zs]; exact Int.mul_ne_zero hzi hne⟩, fun c hc => ?_⟩
      rw [Zsum c]
      by_cases e : c = k
      · rw [e]
        have : sm (fun j => z j * (v t k * v (sk t j) k)) q = v t k * sm (fun j => z j * v (sk t j) k) q := by
          rw [← sm_mul]
          exact sm_congr (fun j _ => by rw [Int.mul_left_comm])
        rw [this, Int.mul_comm (v t k)]
        omega
      · have h2 := z2 c (by omega)
        have e1 : sm (fun i => z i * (v t k * v (sk t i) c - v (sk t i) k * v t c)) q = sm (fun j => z j * (v t k * v (sk t j) c)) q + (-1) * (sm (fun j => z j * v (sk t j) k) q * v t c) := by
          have e2 : sm (fun j => z j * v (sk t j) k) q * v t c = sm (fun j => v t c * (z j * v (sk t j) k)) q := by rw [sm_mul, Int.mul_comm]
          rw [e2, ← sm_mul, ← sm_add]
          refine sm_congr (fun j _ => ?_)
          rw [Int.mul_sub, Int.mul_comm (v t c), Int.mul_assoc]
          omega
        rw [e1] at h2
        omega
/-- and not all by multiples of p -/
theorem dep_p {p : Int} (hp : 1 < p) {k q : Nat} (v : Nat → Nat → Int) (h : k < q) : ∃ z : Nat → Int, (∃ i, i < q ∧ ¬ p ∣ z i) ∧ ∀ c, c < k → sm (fun i => z i * v i c) q = 0 := by
  obtain ⟨z, ⟨i, hi, hz⟩, z2⟩ := dep k q v h
  have main : ∀ (n : Nat) (z : Nat → Int), (z i).natAbs = n → z i ≠ 0 → (∀ c, c < k → sm (fun i => z i * v i c) q = 0) → ∃ z : Nat → Int, (∃ i, i < q ∧ ¬ p ∣ z i) ∧ ∀ c, c < k → sm (fun i => z i * v i c) q = 0 := by
    intro n
    induction n using Nat.strongRecOn with
    | _ n ih =>
      intro z hn h0 hs
      by_cases hall : ∀ j, j < q → p ∣ z j
      · have hdiv : ∀ j, j < q → z j = p * (z j / p) := fun j hj => (Int.mul_ediv_cancel' (hall j hj)).symm
        have hi' := hdiv i hi
        have hne : z i / p ≠ 0 := fun e => h0 (by rw [hi', e, Int.mul_zero])
        refine ih (z i / p).natAbs ?_ (fun j => z j / p) rfl hne (fun c hc => ?_)
        · rw [← hn]
          have e : (z i).natAbs = p.natAbs * (z i / p).natAbs := by rw [← Int.natAbs_mul, ← hi']
          rw [e]
          have h1 : 0 < (z i / p).natAbs := by omega
          have h2 : 2 ≤ p.natAbs := by omega
          have := Nat.mul_le_mul_right (z i / p).natAbs h2
          omega
        · have h1 := hs c hc
          have e : sm (fun i => z i * v i c) q = p * sm (fun i => z i / p * v i c) q := by
            rw [← sm_mul]
            refine sm_congr (fun j hj => ?_)
            rw [← Int.mul_assoc, ← hdiv j hj]
          rw [e] at h1
          exact (Int.mul_eq_zero.mp h1).resolve_left (by omega)
      · apply Classical.byContradiction
        intro hc
        apply hall
        intro j hj
        apply Classical.byContradiction
        intro hq
        exact hc ⟨z, ⟨j, hj, hq⟩, hs⟩
  exact main _ z rfl hz z2
/-! primes -/
def Pm (p : Nat) : Prop := 1 < p ∧ ∀ a b : Nat, p ∣ a * b → p ∣ a ∨ p ∣ b
theorem pm_of {p : Nat} (h1 : 1 < p) (h2 : p < 2147483648) (hodd : p % 2 = 1) (hg : Nat.gcd p np_P = 1) : Pm p := by
  refine ⟨h1, fun a b hab => ?_⟩
  have hd : ∀ d, d ∣ p → d = 1 ∨ d = p := by
    intro d hd
    obtain ⟨e, he⟩ := hd
    have small : ∀ x y, p = x * y → x ≤ y → x = 1 := by
      intro x y hxy hle
      apply Classical.byContradiction
      intro hx
      have hx0 : x ≠ 0 := fun q => by rw [q, Nat.zero_mul] at hxy; omega
      have hxo : x % 2 = 1 := by
        rcases Nat.mod_two_eq_zero_or_one x with q | q
        · exfalso
          obtain ⟨t, ht⟩ := Nat.dvd_of_mod_eq_zero q
          rw [ht, Nat.mul_assoc] at hxy
          omega
        · exact q
      have hxl : x < 46341 := by
        apply Classical.byContradiction
        intro q
        have : 46341 * 46341 ≤ x * y := Nat.mul_le_mul (by omega) (by omega)
        omega
      have hdv := np_div (e := (x - 3) / 2) (by omega)
      rw [show 2 * ((x - 3) / 2) + 3 = x by omega] at hdv
      have : x ∣ Nat.gcd p np_P := Nat.dvd_gcd ⟨y, hxy⟩ hdv
      rw [hg] at this
      have := Nat.dvd_one.mp this
      exact hx this
    rcases Nat.le_total d e with q | q
    · exact Or.inl (small d e he q)
    · right
      have := small e d (by rw [he, Nat.mul_comm]) q
      rw [this, Nat.mul_one] at he
      exact he.symm
  rcases hd _ (Nat.gcd_dvd_left p a) with q | q
  · right
    exact Nat.Coprime.dvd_of_dvd_mul_left q hab
  · left
    rw [← q]
    exact Nat.gcd_dvd_right p a
def prP (k : Nat) : Nat := np_L.getD k 0
theorem prP_d : ∀ k, k < 70 → 2147481000 < prP k ∧ prP k < 2147483648 ∧ prP k % 2 = 1 ∧ Nat.gcd (prP k) np_P = 1 ∧ gv_u.1 691 k = Int32.ofNat (prP k) := by decide +kernel
theorem prP_ne : ∀ k, k < 70 → ∀ j, j < k → prP k < prP j := by decide +kernel
theorem prP_pm {k : Nat} (hk : k < 70) : Pm (prP k) := by
  have h := prP_d k hk
  exact pm_of (by omega) h.2.1 h.2.2.1 h.2.2.2.1
