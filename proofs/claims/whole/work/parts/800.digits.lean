theorem n64_and {t m : Int64} {k : Nat} (hk : k < 63) (hm : m.toInt = 2 ^ k - 1) : (t &&& m).toInt = t.toInt % 2 ^ k := by
  have hb : (t &&& m).toBitVec = t.toBitVec &&& m.toBitVec := Int64.toBitVec_and ..
  have hmn : m.toBitVec.toNat = 2 ^ k - 1 := by
    have h0 : m.toInt = m.toBitVec.toInt := rfl
    have hp : 0 < 2 ^ k := Nat.two_pow_pos k
    have h63 : (2 : Nat) ^ k ≤ 2 ^ 62 := Nat.pow_le_pow_right (by decide) (by omega)
    rw [h0, BitVec.toInt_eq_toNat_cond] at hm
    have hp2 : ((2 : Int) ^ k) = ((2 ^ k : Nat) : Int) := by norm_cast
    rw [hp2] at hm
    have hl := m.toBitVec.isLt
    generalize (2 : Nat) ^ k = P at *
    split at hm <;> omega
  have hn : (t &&& m).toBitVec.toNat = t.toBitVec.toNat % 2 ^ k := by
    rw [hb, BitVec.toNat_and, hmn, Nat.and_two_pow_sub_one_eq_mod]
  have hlt : t.toBitVec.toNat % 2 ^ k < 2 ^ 62 := by
    have h63 : (2 : Nat) ^ k ≤ 2 ^ 62 := Nat.pow_le_pow_right (by decide) (by omega)
    exact Nat.lt_of_lt_of_le (Nat.mod_lt _ (Nat.two_pow_pos k)) h63
  have e1 : (t &&& m).toInt = ((t.toBitVec.toNat % 2 ^ k : Nat) : Int) := by
    show (t &&& m).toBitVec.toInt = _
    rw [BitVec.toInt_eq_toNat_cond, hn, if_pos (by omega)]
  rw [e1]
  have e2 : t.toInt = t.toBitVec.toInt := rfl
  rw [e2, BitVec.toInt_eq_toNat_cond]
  have hd : ((2 : Int) ^ k) ∣ ((2 ^ 64 : Nat) : Int) := by
    refine ⟨2 ^ (64 - k), ?_⟩
    rw [← Int.pow_add]
    have : k + (64 - k) = 64 := by omega
    rw [this]; rfl
  split
  · push_cast; rfl
  · rw [Int.sub_emod, Int.emod_eq_zero_of_dvd hd]
    push_cast
    simp
theorem n64_shr {t : Int64} : (t >>> (((31 : Int32)).toInt64 &&& 63)).toInt = t.toInt / 2147483648 := by
  show (t >>> (31 : Int64)).toBitVec.toInt = _
  rw [Int64.toBitVec_shiftRight]
  have : ((31 : Int64).toBitVec.smod 64).toNat = 31 := by decide
  rw [BitVec.sshiftRight_eq', BitVec.toInt_sshiftRight, this]
  rw [Int.shiftRight_eq_div_pow]
  rfl
theorem n64_to32 {x : Int64} (h1 : -2147483648 ≤ x.toInt) (h2 : x.toInt < 2147483648) : x.toInt32.toInt = x.toInt := by
  rw [Int64.toInt_toInt32]
  rw [Int.bmod_eq_of_le (by omega) (by omega)]
theorem n32_to64 {x : Int32} : x.toInt64.toInt = x.toInt := Int32.toInt_toInt64 x
theorem n64_pos {x : Int64} (h : 0 ≤ x.toInt) : (x.toBitVec.toNat : Int) = x.toInt := by
  have e : x.toInt = x.toBitVec.toInt := rfl
  rw [e, BitVec.toInt_eq_toNat_cond] at h
  rw [e, BitVec.toInt_eq_toNat_cond]
  have := x.toBitVec.isLt
  by_cases c : 2 * x.toBitVec.toNat < 2 ^ 64
  · rw [if_pos c]
  · rw [if_neg c] at h
    omega
theorem n64_ofn {x : Int64} {n : Nat} (h : x.toBitVec.toNat = n) (hn : n < 9223372036854775808) : x.toInt = n := by
  have e : x.toInt = x.toBitVec.toInt := rfl
  rw [e, BitVec.toInt_eq_toNat_cond, h, if_pos (by omega)]
theorem n64_sh {s : Nat} (hs : s < 64) : ((Int32.ofNat s).toInt64 &&& 63).toBitVec.smod 64 = BitVec.ofNat 64 s := by
  revert s
  decide +kernel
theorem n64_shl {a : Int64} {s : Nat} (hs : s < 64) (ha : 0 ≤ a.toInt) (hb : a.toInt * 2 ^ s < 9223372036854775808) : (a <<< ((Int32.ofNat s).toInt64 &&& 63)).toInt = a.toInt * 2 ^ s := by
  have hp := n64_pos ha
  have h1 : (a <<< ((Int32.ofNat s).toInt64 &&& 63)).toBitVec.toNat = a.toBitVec.toNat * 2 ^ s := by
    rw [Int64.toBitVec_shiftLeft, n64_sh hs, BitVec.shiftLeft_eq', BitVec.toNat_shiftLeft, BitVec.toNat_ofNat, Nat.mod_eq_of_lt (show s < 2 ^ 64 by omega), Nat.shiftLeft_eq]
    apply Nat.mod_eq_of_lt
    have : ((a.toBitVec.toNat * 2 ^ s : Nat) : Int) < 9223372036854775808 := by
      push_cast
      rw [hp]; exact hb
    omega
  have h2 := n64_ofn h1 (by
    have : ((a.toBitVec.toNat * 2 ^ s : Nat) : Int) < 9223372036854775808 := by
      push_cast
      rw [hp]; exact hb
    omega)
  rw [h2]
  push_cast
  rw [hp]
theorem n64_shrv {t : Int64} {s : Nat} (hs : s < 64) : (t >>> ((Int32.ofNat s).toInt64 &&& 63)).toInt = t.toInt / 2 ^ s := by
  show (t >>> ((Int32.ofNat s).toInt64 &&& 63)).toBitVec.toInt = _
  rw [Int64.toBitVec_shiftRight, n64_sh hs, BitVec.sshiftRight_eq', BitVec.toInt_sshiftRight, BitVec.toNat_ofNat, Nat.mod_eq_of_lt (show s < 2 ^ 64 by omega), Int.shiftRight_eq_div_pow]
  push_cast
  rfl
theorem n64_or {a b : Int64} {k : Nat} {c : Int} (hb : 0 ≤ b.toInt) (hb2 : b.toInt < 2 ^ k) (hc : 0 ≤ c) (ha : a.toInt = c * 2 ^ k) : (a ||| b).toInt = a.toInt + b.toInt := by
  obtain ⟨m, rfl⟩ := Int.eq_ofNat_of_zero_le hc
  have ha0 : 0 ≤ a.toInt := by
    rw [ha]
    exact Int.mul_nonneg hc (Int.le_of_lt (Int.pow_pos (by decide)))
  have pa := n64_pos ha0
  have pb := n64_pos hb
  have ea : a.toBitVec.toNat = m <<< k := by
    rw [Nat.shiftLeft_eq]
    have : (a.toBitVec.toNat : Int) = ((m * 2 ^ k : Nat) : Int) := by
      rw [pa, ha]; push_cast; rfl
    omega
  have eb : b.toBitVec.toNat < 2 ^ k := by
    have : (b.toBitVec.toNat : Int) < ((2 ^ k : Nat) : Int) := by
      rw [pb]; push_cast; exact hb2
    omega
  have h1 : (a ||| b).toBitVec.toNat = a.toBitVec.toNat + b.toBitVec.toNat := by
    rw [Int64.toBitVec_or, BitVec.toNat_or, ea, ← Nat.shiftLeft_add_eq_or_of_lt eb]
  have hA := n64_hi a
  have hB := n64_hi b
  have h2 : (a ||| b).toBitVec.toNat < 9223372036854775808 := by
    rw [Int64.toBitVec_or, BitVec.toNat_or]
    exact Nat.or_lt_two_pow (n := 63) (by omega) (by omega)
  rw [n64_ofn h1 (by omega)]
  push_cast
  omega
/-- a loop that counts up -/
theorem gl_up {σ β : Type} {L : Nat → σ → Nat → β} {R : β → Prop} {I : Nat → σ → Prop} {N : Nat} (step : ∀ f u i, I i u → i < N → ∃ w, I (i + 1) w ∧ L (f + 1) u i = L f w (i + 1)) (exit : ∀ f u, I N u → R (L (f + 1) u N)) : ∀ (j i : Nat) (u : σ) (f : Nat), i + j = N → I i u → j < f → R (L f u i) := by
  intro j
  induction j with
  | zero =>
    intro i u f hi hI hf
    obtain ⟨f, rfl⟩ : ∃ g, f = g + 1 := ⟨f - 1, by omega⟩
    have : i = N := by omega
    subst this
    exact exit f u hI
  | succ j ih =>
    intro i u f hi hI hf
    obtain ⟨f, rfl⟩ : ∃ g, f = g + 1 := ⟨f - 1, by omega⟩
    obtain ⟨w, hw, e⟩ := step f u i hI (by omega)
    rw [e]
    exact ih (i + 1) w f (by omega) hw (by omega)
/-- a loop whose measure falls -/
theorem gl_dn {σ β : Type} {L : Nat → σ → β} {R : β → Prop} {I : σ → Prop} {m : σ → Nat} (step : ∀ f u, I u → R (L (f + 1) u) ∨ ∃ w, I w ∧ m w < m u ∧ L (f + 1) u = L f w) : ∀ (f : Nat) (u : σ), I u → m u < f → R (L f u) := by
  intro f
  induction f with
  | zero => intro u _ h; omega
  | succ f ih =>
    intro u hI hf
    rcases step f u hI with h | ⟨w, hw, hm, e⟩
    · exact h
    · rw [e]
      exact ih w hw (by omega)
/-- a number's value out of its digits -/
def bv (B : Nat) (f : Nat → Nat) : Nat → Nat
  | 0 => 0
  | n + 1 => bv B f n + f n * B ^ n
theorem bv_congr {B : Nat} {f g : Nat → Nat} : ∀ {n : Nat}, (∀ i, i < n → f i = g i) → bv B f n = bv B g n
  | 0, _ => rfl
  | n + 1, h => by
    unfold bv
    rw [bv_congr (fun i hi => h i (by omega)), h n (by omega)]
theorem bv_lt {B : Nat} {f : Nat → Nat} : ∀ {n : Nat}, (∀ i, i < n → f i < B) → bv B f n < B ^ n
  | 0, _ => by simp [bv]
  | n + 1, h => by
    have h1 := bv_lt (fun i (hi : i < n) => h i (by omega))
    have h2 := h n (by omega)
    unfold bv
    have : (f n + 1) * B ^ n ≤ B * B ^ n := Nat.mul_le_mul_right _ h2
    rw [Nat.add_mul] at this
    rw [Nat.pow_succ, Nat.mul_comm (B ^ n) B]
    omega
theorem bv_zero {B : Nat} {f : Nat → Nat} : ∀ {n : Nat}, (∀ i, i < n → f i = 0) → bv B f n = 0
  | 0, _ => rfl
  | n + 1, h => by
    unfold bv
    rw [bv_zero (fun i hi => h i (by omega)), h n (by omega), Nat.zero_mul]
theorem bv_add {B : Nat} {f : Nat → Nat} (m : Nat) : ∀ (n : Nat), bv B f (m + n) = bv B f m + B ^ m * bv B (fun i => f (m + i)) n
  | 0 => by simp [bv]
  | n + 1 => by
    show bv B f (m + n) + f (m + n) * B ^ (m + n) = _
    rw [bv_add m n]
    show _ = bv B f m + B ^ m * (bv B (fun i => f (m + i)) n + f (m + n) * B ^ n)
    rw [Nat.mul_add, Nat.pow_add, ← Nat.add_assoc, Nat.mul_left_comm]
theorem bv_cut {B : Nat} {f : Nat → Nat} {m n : Nat} (h : m ≤ n) (h0 : ∀ i, m ≤ i → i < n → f i = 0) : bv B f n = bv B f m := by
  obtain ⟨k, rfl⟩ : ∃ k, n = m + k := ⟨n - m, by omega⟩
  rw [bv_add, bv_zero (n := k) (fun i hi => h0 (m + i) (by omega) (by omega)), Nat.mul_zero, Nat.add_zero]
theorem bv_succ' {B : Nat} {f : Nat → Nat} (n : Nat) : bv B f (n + 1) = f 0 + B * bv B (fun i => f (i + 1)) n := by
  rw [Nat.add_comm n 1, bv_add 1 n]
  simp only [bv, Nat.pow_zero, Nat.mul_one, Nat.zero_add, Nat.pow_one]
  congr 2
  exact bv_congr (fun i _ => by rw [Nat.add_comm])
theorem bv_div {B : Nat} (hB : 0 < B) {f : Nat → Nat} {n k : Nat} (hf : ∀ i, i < n → f i < B) (hk : k ≤ n) : bv B f n / B ^ k = bv B (fun i => f (k + i)) (n - k) := by
  obtain ⟨j, rfl⟩ : ∃ j, n = k + j := ⟨n - k, by omega⟩
  rw [bv_add, Nat.add_mul_div_left _ _ (Nat.pow_pos hB), Nat.div_eq_of_lt (bv_lt (fun i hi => hf i (by omega)))]
  simp
theorem bv_dig {B : Nat} (hB : 0 < B) {f : Nat → Nat} {n k : Nat} (hf : ∀ i, i < n → f i < B) (hk : k < n) : bv B f n / B ^ k % B = f k := by
  rw [bv_div hB hf (by omega)]
  obtain ⟨j, hj⟩ : ∃ j, n - k = j + 1 := ⟨n - k - 1, by omega⟩
  rw [hj, bv_succ', Nat.add_mul_mod_self_left]
  exact Nat.mod_eq_of_lt (hf k hk)
theorem bv_inj {B : Nat} (hB : 0 < B) {f g : Nat → Nat} {n : Nat} (hf : ∀ i, i < n → f i < B) (hg : ∀ i, i < n → g i < B) (h : bv B f n = bv B g n) : ∀ i, i < n → f i = g i := fun i hi => by
  rw [← bv_dig hB hf hi, ← bv_dig hB hg hi, h]
theorem bv_le {B : Nat} {f : Nat → Nat} {n : Nat} (h : 0 < n) : f (n - 1) * B ^ (n - 1) ≤ bv B f n := by
  obtain ⟨k, rfl⟩ : ∃ k, n = k + 1 := ⟨n - 1, by omega⟩
  show f k * B ^ k ≤ bv B f k + f k * B ^ k
  omega
theorem bv_set {B : Nat} {f : Nat → Nat} {n k v : Nat} (hk : k < n) : bv B (fun i => if i = k then v else f i) n + f k * B ^ k = bv B f n + v * B ^ k := by
  induction n with
  | zero => omega
  | succ n ih =>
    unfold bv
    by_cases h : k = n
    · subst h
      rw [if_pos rfl, bv_congr (g := f) (fun i hi => if_neg (by omega))]
      omega
    · have := ih (by omega)
      rw [if_neg (show ¬ n = k by omega)]
      omega
