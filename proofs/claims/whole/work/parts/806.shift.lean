theorem p2_cast (s : Nat) : ((2 : Int) ^ s) = ((2 ^ s : Nat) : Int) := (Int.natCast_pow 2 s).symm
theorem bv_of {B : Nat} (X : Nat) : ∀ n, bv B (fun i => X / B ^ i % B) n = X % B ^ n
  | 0 => by simp [bv, Nat.mod_one]
  | n + 1 => by
    show bv B (fun i => X / B ^ i % B) n + X / B ^ n % B * B ^ n = _
    rw [bv_of X n, Nat.mod_pow_succ, Nat.mul_comm (B ^ n)]
/-- two neighbouring digits shifted are a digit of the number shifted -/
theorem bv_shd {f : Nat → Nat} {n i s : Nat} (hs : s ≤ 31) (hf : ∀ i, i < n → f i < 2147483648) (hi : i < n) : bv 2147483648 f n / 2 ^ s / 2147483648 ^ i % 2147483648 = (f i + 2147483648 * (if i + 1 < n then f (i + 1) else 0)) / 2 ^ s % 2147483648 := by
  have hB : (2147483648 : Nat) = 2 ^ s * 2 ^ (31 - s) := by rw [← Nat.pow_add]; have : s + (31 - s) = 31 := by omega
                                                            rw [this]
  rw [Nat.div_div_eq_div_mul, Nat.mul_comm (2 ^ s), ← Nat.div_div_eq_div_mul, bv_div (by decide) hf (by omega)]
  obtain ⟨m, hm⟩ : ∃ m, n - i = m + 1 := ⟨n - i - 1, by omega⟩
  rw [hm, bv_succ']
  by_cases c : i + 1 < n
  · rw [if_pos c]
    obtain ⟨m', rfl⟩ : ∃ m', m = m' + 1 := ⟨m - 1, by omega⟩
    rw [bv_succ']
    generalize bv 2147483648 (fun k => f (i + (k + 1 + 1))) m' = R
    show (f (i + 0) + 2147483648 * (f (i + (0 + 1)) + 2147483648 * R)) / 2 ^ s % 2147483648 = _
    rw [Nat.add_zero, Nat.zero_add, Nat.mul_add, ← Nat.add_assoc]
    have e : 2147483648 * (2147483648 * R) = 2 ^ s * (2 ^ (31 - s) * (2147483648 * R)) := by
      rw [← Nat.mul_assoc (2 ^ s), ← hB]
    rw [e, Nat.add_mul_div_left _ _ (Nat.two_pow_pos s), ← Nat.mul_assoc, Nat.mul_comm (2 ^ (31 - s)), Nat.mul_assoc, Nat.add_mul_mod_self_left]
  · rw [if_neg c]
    have : m = 0 := by omega
    subst this
    simp [bv]
theorem gw_shiftDown {F : Nat} (hF : 2000 ≤ F) {z : gw_Sh} {p q n sh : Nat} {u : gw_St} (hr : u.2.2 p 0 = q + 1) (hn : n < 1000) (hc : n ≤ z.2.2 q) (hsh : sh ≤ 31) (hpos : ∀ k, k < n → 0 ≤ (u.1 q k).toInt) :
    ∃ w, gf_Whole_shiftDown F z u p (Int32.ofNat n) (Int32.ofNat sh) = some w ∧ w.2 = u.2 ∧ (∀ a k, ¬ (a = q ∧ k < n) → w.1 a k = u.1 a k) ∧ (∀ k, k < n → 0 ≤ (w.1 q k).toInt) ∧ wv w q n = wv u q n / 2 ^ sh := by
  have hp2 : (2 : Nat) ^ sh ≤ 2147483648 := by
    have : (2 : Nat) ^ sh ≤ 2 ^ 31 := Nat.pow_le_pow_right (by decide) hsh
    exact this
  have main := gl_up (σ := gw_St) (N := n) (L := fun f w i => gf_Whole_shiftDown_L2 F z f w p (Int32.ofNat n) (Int32.ofNat sh) (Int32.ofNat i))
    (I := fun i w => w.2 = u.2 ∧ (∀ a k, ¬ (a = q ∧ k < i) → w.1 a k = u.1 a k) ∧ (∀ k, k < i → (w.1 q k).toInt = ((wv u q n / 2 ^ sh / 2147483648 ^ k % 2147483648 : Nat) : Int)))
    (R := fun r => ∃ w, r = some w ∧ w.2 = u.2 ∧ (∀ a k, ¬ (a = q ∧ k < n) → w.1 a k = u.1 a k) ∧ (∀ k, k < n → 0 ≤ (w.1 q k).toInt) ∧ wv w q n = wv u q n / 2 ^ sh)
    (fun f w i hI hi => by
      obtain ⟨b1, b2, b3⟩ := hI
      have hrw : w.2.2 p 0 = q + 1 := by rw [b1]; exact hr
      obtain ⟨A, hA⟩ : ∃ A : Int64, A = if i + 1 < n then (u.1 q (i + 1)).toInt64 else 0 := ⟨_, rfl⟩
      have hAv : A.toInt = ((if i + 1 < n then lm u q (i + 1) else 0 : Nat) : Int) := by
        rw [hA]
        by_cases c : i + 1 < n
        · rw [if_pos c, if_pos c, n32_to64, lm_eq (hpos _ c)]
        · rw [if_neg c, if_neg c]; rfl
      have lA : (if i + 1 < n then lm u q (i + 1) else 0) < 2147483648 := by split; exact lm_lt _ _ _; omega
      have hl : (w.1 q i).toInt64.toInt = (lm u q i : Int) := by rw [n32_to64, b2 q i (by omega), lm_eq (hpos i hi)]
      have hll := lm_lt u q i
      have e31 : (2 : Int) ^ 31 = 2147483648 := by decide
      have hsl : (A <<< (((31 : Int32)).toInt64 &&& 63)).toInt = A.toInt * 2147483648 := by
        have := n64_shl (a := A) (s := 31) (by omega) (by omega) (by rw [e31]; omega)
        rw [e31] at this
        exact this
      obtain ⟨T, hT⟩ : ∃ T, T = (A <<< (((31 : Int32)).toInt64 &&& 63)) ||| (w.1 q i).toInt64 := ⟨_, rfl⟩
      have hTv : T.toInt = ((lm u q i + 2147483648 * (if i + 1 < n then lm u q (i + 1) else 0) : Nat) : Int) := by
        rw [hT, n64_or (k := 31) (c := A.toInt) (by omega) (by rw [e31]; omega) (by omega) (by rw [hsl, e31]), hsl, hl, hAv]
        omega
      have e2 : ((2 : Int) ^ sh) = ((2 ^ sh : Nat) : Int) := p2_cast sh
      have hs := n64_shrv (t := T) (s := sh) (by omega)
      have hd := n64_dig (t := T >>> ((Int32.ofNat sh).toInt64 &&& 63))
      have hdv : ((T >>> ((Int32.ofNat sh).toInt64 &&& 63) &&& (2147483647 : Int64)).toInt32).toInt = ((wv u q n / 2 ^ sh / 2147483648 ^ i % 2147483648 : Nat) : Int) := by
        rw [hd, hs, hTv, e2]
        unfold wv
        rw [bv_shd hsh (fun k _ => lm_lt u q k) hi]
        generalize lm u q i + 2147483648 * (if i + 1 < n then lm u q (i + 1) else 0) = X
        have := Int.natCast_ediv X (2 ^ sh)
        rw [← this]
        omega
      refine ⟨gw_wi w q i ((T >>> ((Int32.ofNat sh).toInt64 &&& 63) &&& (2147483647 : Int64)).toInt32), ⟨b1, fun a k h => ?_, fun k hk => ?_⟩, ?_⟩
      · simp only [gw_wi]
        rw [if_neg (by omega)]
        exact b2 a k (by omega)
      · simp only [gw_wi, true_and]
        split
        · next e => rw [e]; exact hdv
        · exact b3 k (by omega)
      · show gf_Whole_shiftDown_S2 F z _ w p (Int32.ofNat n) (Int32.ofNat sh) (Int32.ofNat i) = _
        have hst : gf_Whole_shiftDown_S2 F z (gf_Whole_shiftDown_L2 F z f) w p (Int32.ofNat n) (Int32.ofNat sh) (Int32.ofNat i) = gf_Whole_shiftDown_b27 F z (gf_Whole_shiftDown_L2 F z f) w p (Int32.ofNat n) (Int32.ofNat sh) (Int32.ofNat i) A := by
          unfold gf_Whole_shiftDown_S2
          rw [if_neg (fun e => by have := (gi_le (by omega) (by omega)).mp e; omega), gw_iS]
          by_cases ci : i + 1 < n
          · rw [if_neg (fun e => by have := (gi_le (by omega) (by omega)).mp e; omega), hrw]
            simp only [gf_nn]
            rw [if_neg (gi_ix (by omega) (by omega)), i32_clamp (by omega), b2 q (i + 1) (by omega), hA, if_pos ci]
          · rw [if_pos ((gi_le (by omega) (by omega)).mpr (by omega)), hA, if_neg ci]
        rw [hst]
        unfold gf_Whole_shiftDown_b27
        rw [hrw]
        simp only [gf_nn, gf_nm]
        rw [if_neg (gi_ix (by omega) (by omega)), if_neg (gi_ix (by omega) (by omega)), i32_clamp (by omega), ← hT, gw_iS])
    (fun f w hI => by
      obtain ⟨b1, b2, b3⟩ := hI
      refine ⟨w, ?_, b1, b2, fun k hk => by rw [b3 k hk]; omega, ?_⟩
      · show gf_Whole_shiftDown_S2 F z _ w p (Int32.ofNat n) (Int32.ofNat sh) (Int32.ofNat n) = _
        unfold gf_Whole_shiftDown_S2
        rw [if_pos ((gi_le (by omega) (by omega)).mpr (Nat.le_refl _))]
      · have e : wv w q n = bv 2147483648 (fun k => wv u q n / 2 ^ sh / 2147483648 ^ k % 2147483648) n := bv_congr (fun k hk => by unfold lm; rw [b3 k hk]; omega)
        rw [e, bv_of, Nat.mod_eq_of_lt]
        exact Nat.lt_of_le_of_lt (Nat.div_le_self _ _) (wv_lt u q n))
  exact main n 0 u F (by omega) ⟨rfl, fun _ _ _ => rfl, fun k hk => absurd hk (Nat.not_lt_zero k)⟩ (by omega)
theorem n32_ush {X m : Nat} (hX : X < 2147483648) (hm : m < 32) : ((Int32.ofNat X).toUInt32 >>> ((Int32.ofNat m).toUInt32 &&& Int32.toUInt32 31)).toInt32 = Int32.ofNat (X / 2 ^ m) := by
  have h1 : ((Int32.ofNat X).toUInt32 >>> ((Int32.ofNat m).toUInt32 &&& Int32.toUInt32 31)).toNat = X / 2 ^ m := by
    rw [UInt32.toNat_shiftRight]
    have e1 : ((Int32.ofNat m).toUInt32 &&& Int32.toUInt32 31).toNat % 32 = m := by
      revert m
      decide +kernel
    have e2 : (Int32.ofNat X).toUInt32.toNat = X := by
      show X % 2 ^ 32 = X
      omega
    rw [e1, e2, Nat.shiftRight_eq_div_pow]
  have h2 : ((Int32.ofNat X).toUInt32 >>> ((Int32.ofNat m).toUInt32 &&& Int32.toUInt32 31)) = UInt32.ofNat (X / 2 ^ m) := by
    rw [← h1, UInt32.ofNat_toNat]
  rw [h2]
  rfl
theorem p2_split {X k m : Nat} (h1 : 2 ^ k ≤ X) (h2 : X < 2 ^ (k + 1)) (h3 : 2 ^ m ≤ X) : m ≤ k ∧ 2 ^ (k - m) ≤ X / 2 ^ m ∧ X / 2 ^ m < 2 ^ (k - m + 1) := by
  have hmk : m ≤ k := by
    by_cases c : m ≤ k
    · exact c
    · have : 2 ^ (k + 1) ≤ 2 ^ m := Nat.pow_le_pow_right (by decide) (by omega)
      omega
  refine ⟨hmk, ?_, ?_⟩
  · rw [Nat.le_div_iff_mul_le (Nat.two_pow_pos m), ← Nat.pow_add]
    have : k - m + m = k := by omega
    rw [this]; exact h1
  · rw [Nat.div_lt_iff_lt_mul (Nat.two_pow_pos m), ← Nat.pow_add]
    have : k - m + 1 + m = k + 1 := by omega
    rw [this]; exact h2
theorem p2_lt {X k m : Nat} (h1 : 2 ^ k ≤ X) (h2 : X < 2 ^ m) : k < m := by
  by_cases c : k < m
  · exact c
  · have : 2 ^ m ≤ 2 ^ k := Nat.pow_le_pow_right (by decide) (by omega)
    omega
theorem gs_nlz73 {F : Nat} {z : gw_Sh} {u : gw_St} {X k n : Nat} (h1 : 2 ^ k ≤ X) (h2 : X < 2 ^ (k + 1)) (h3 : X < 4) (hn : k ≤ n) (hn2 : n < 100) : gf_Integer_numberOfLeadingZeros_b73 F z u (Int32.ofNat X) (Int32.ofNat n) = some (Int32.ofNat (n - k), u) := by
  unfold gf_Integer_numberOfLeadingZeros_b73
  rw [show ((1 : Int32)).toUInt32 = (Int32.ofNat 1).toUInt32 from rfl, n32_ush (by omega) (by omega)]
  have hk := p2_lt (m := 2) h1 (by omega)
  have : X / 2 ^ 1 = k := by
    rcases (show k = 0 ∨ k = 1 by omega) with rfl | rfl <;> omega
  rw [this, gi_sub hn (by omega)]
theorem gs_nlz61 {F : Nat} {z : gw_Sh} {u : gw_St} {X k n : Nat} (h1 : 2 ^ k ≤ X) (h2 : X < 2 ^ (k + 1)) (h3 : X < 16) (hn : k ≤ n) (hn2 : n < 100) : gf_Integer_numberOfLeadingZeros_b61 F z u (Int32.ofNat X) (Int32.ofNat n) = some (Int32.ofNat (n - k), u) := by
  unfold gf_Integer_numberOfLeadingZeros_b61
  by_cases c : X < 4
  · rw [if_pos (show Int32.ofNat X < 4 from (gi_lt (b := 4) (by omega) (by omega)).mpr c)]
    exact gs_nlz73 h1 h2 c hn hn2
  · have hs := p2_split (m := 2) h1 h2 (by omega)
    rw [if_neg (fun e : Int32.ofNat X < 4 => c ((gi_lt (b := 4) (by omega) (by omega)).mp e))]
    simp only [gf_nm]
    have e : Int32.ofNat n + (-2) = Int32.ofNat (n - 2) := by
      rw [← gi_sub (by omega) (by omega)]
      exact (Int32.sub_eq_add_neg ..).symm
    rw [show ((2 : Int32)).toUInt32 = (Int32.ofNat 2).toUInt32 from rfl, n32_ush (by omega) (by omega), e, gs_nlz73 hs.2.1 hs.2.2 (by omega) (by omega) (by omega)]
    congr 3
    omega
theorem gs_nlz48 {F : Nat} {z : gw_Sh} {u : gw_St} {X k n : Nat} (h1 : 2 ^ k ≤ X) (h2 : X < 2 ^ (k + 1)) (h3 : X < 256) (hn : k ≤ n) (hn2 : n < 100) : gf_Integer_numberOfLeadingZeros_b48 F z u (Int32.ofNat X) (Int32.ofNat n) = some (Int32.ofNat (n - k), u) := by
  unfold gf_Integer_numberOfLeadingZeros_b48
  by_cases c : X < 16
  · rw [if_pos (show Int32.ofNat X < 16 from (gi_lt (b := 16) (by omega) (by omega)).mpr c)]
    exact gs_nlz61 h1 h2 c hn hn2
  · have hs := p2_split (m := 4) h1 h2 (by omega)
    rw [if_neg (fun e : Int32.ofNat X < 16 => c ((gi_lt (b := 16) (by omega) (by omega)).mp e))]
    simp only [gf_nm]
    have e : Int32.ofNat n + (-4) = Int32.ofNat (n - 4) := by
      rw [← gi_sub (by omega) (by omega)]
      exact (Int32.sub_eq_add_neg ..).symm
    rw [show ((4 : Int32)).toUInt32 = (Int32.ofNat 4).toUInt32 from rfl, n32_ush (by omega) (by omega), e, gs_nlz61 hs.2.1 hs.2.2 (by omega) (by omega) (by omega)]
    congr 3
    omega
theorem gs_nlz33 {F : Nat} {z : gw_Sh} {u : gw_St} {X k n : Nat} (h1 : 2 ^ k ≤ X) (h2 : X < 2 ^ (k + 1)) (h3 : X < 65536) (hn : k ≤ n) (hn2 : n < 100) : gf_Integer_numberOfLeadingZeros_b33 F z u (Int32.ofNat X) (Int32.ofNat n) = some (Int32.ofNat (n - k), u) := by
  unfold gf_Integer_numberOfLeadingZeros_b33
  by_cases c : X < 256
  · rw [if_pos (show Int32.ofNat X < 256 from (gi_lt (b := 256) (by omega) (by omega)).mpr c)]
    exact gs_nlz48 h1 h2 c hn hn2
  · have hs := p2_split (m := 8) h1 h2 (by omega)
    rw [if_neg (fun e : Int32.ofNat X < 256 => c ((gi_lt (b := 256) (by omega) (by omega)).mp e))]
    simp only [gf_nm]
    have e : Int32.ofNat n + (-8) = Int32.ofNat (n - 8) := by
      rw [← gi_sub (by omega) (by omega)]
      exact (Int32.sub_eq_add_neg ..).symm
    rw [show ((8 : Int32)).toUInt32 = (Int32.ofNat 8).toUInt32 from rfl, n32_ush (by omega) (by omega), e, gs_nlz48 hs.2.1 hs.2.2 (by omega) (by omega) (by omega)]
    congr 3
    omega
theorem gs_nlz {F : Nat} {z : gw_Sh} {u : gw_St} {X k : Nat} (h1 : 2 ^ k ≤ X) (h2 : X < 2 ^ (k + 1)) (h3 : X < 2147483648) : gf_Integer_numberOfLeadingZeros F z u (Int32.ofNat X) = some (Int32.ofNat (31 - k), u) := by
  have hk := p2_lt (m := 31) h1 h3
  have h0 := Nat.two_pow_pos k
  show gf_Integer_numberOfLeadingZeros_b0 F z u (Int32.ofNat X) = _
  unfold gf_Integer_numberOfLeadingZeros_b0
  rw [if_pos (show 0 < Int32.ofNat X from (gi_lt (a := 0) (by omega) (by omega)).mpr (by omega))]
  by_cases c : X < 65536
  · rw [if_pos (show Int32.ofNat X < 65536 from (gi_lt (b := 65536) (by omega) (by omega)).mpr c)]
    exact gs_nlz33 (n := 31) h1 h2 c (by omega) (by omega)
  · have hs := p2_split (m := 16) h1 h2 (by omega)
    rw [if_neg (fun e : Int32.ofNat X < 65536 => c ((gi_lt (b := 65536) (by omega) (by omega)).mp e))]
    simp only [gf_nm]
    rw [show ((16 : Int32)).toUInt32 = (Int32.ofNat 16).toUInt32 from rfl, n32_ush (by omega) (by omega), show (31 : Int32) + (-16) = Int32.ofNat 15 from by decide, gs_nlz33 hs.2.1 hs.2.2 (by omega) (by omega) (by omega)]
    congr 3
    omega
