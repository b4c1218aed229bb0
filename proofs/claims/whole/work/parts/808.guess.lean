/-- the value of n limbs from j on -/
def sg (u : gw_St) (q j n : Nat) : Nat := bv 2147483648 (fun i => lm u q (j + i)) n
theorem sg_S (u : gw_St) (q j n : Nat) : sg u q j (n + 1) = sg u q j n + lm u q (j + n) * 2147483648 ^ n := rfl
theorem sg_lt (u : gw_St) (q j n : Nat) : sg u q j n < 2147483648 ^ n := bv_lt (fun i _ => lm_lt u q (j + i))
theorem sg_congr {u w : gw_St} {q j n : Nat} (h : ∀ i, i < n → w.1 q (j + i) = u.1 q (j + i)) : sg w q j n = sg u q j n := bv_congr (fun i hi => by unfold lm; rw [h i hi])
theorem i64_of {x : Int64} {n : Nat} (h : x.toInt = (n : Int)) (hn : n < 9223372036854775808) : x = Int64.ofNat n := i64_ext (by rw [h, i64_nat hn])
theorem gs_guess {F : Nat} (hF : 2000 ≤ F) {z : gw_Sh} {u : gw_St} {r b j n : Nat} (hn : 0 < n) (hn2 : n < 1000) (hj : j < 1000) (hr : j + n < z.2.2 r) (hb : n ≤ z.2.2 b) (hrp : ∀ i, i ≤ n → 0 ≤ (u.1 r (j + i)).toInt) (hbp : ∀ i, i < n → 0 ≤ (u.1 b i).toInt) (htop : 2147483648 ≤ 2 * lm u b (n - 1)) (hU : sg u r j (n + 1) < wv u b n * 2147483648) :
    ∃ T : Nat, gf_Calculator_guessTimes F z u r b (Int32.ofNat j) (Int32.ofNat n) = some (Int64.ofNat T, u) ∧ sg u r j (n + 1) / wv u b n ≤ T ∧ T ≤ sg u r j (n + 1) / wv u b n + 1 := by
  have l1 := lm_lt u b (n - 1)
  have lr1 := lm_lt u r (j + n)
  have lr2 := lm_lt u r (j + (n - 1))
  have ed1 : (u.1 b (n - 1)).toInt64 = Int64.ofNat (lm u b (n - 1)) := i64_of (by rw [n32_to64, lm_eq (hbp _ (by omega))]) (by omega)
  have er1 : (u.1 r (j + n)).toInt64.toInt = (lm u r (j + n) : Int) := by rw [n32_to64, lm_eq (hrp n (by omega))]
  have er2 : (u.1 r (j + (n - 1))).toInt64.toInt = (lm u r (j + (n - 1)) : Int) := by rw [n32_to64, lm_eq (hrp (n - 1) (by omega))]
  have e31 : (2 : Int) ^ 31 = 2147483648 := by decide
  have hsl : ((u.1 r (j + n)).toInt64 <<< (((31 : Int32)).toInt64 &&& 63)).toInt = (u.1 r (j + n)).toInt64.toInt * 2147483648 := by
    have := n64_shl (a := (u.1 r (j + n)).toInt64) (s := 31) (by omega) (by omega) (by rw [e31]; omega)
    rw [e31] at this
    exact this
  obtain ⟨hd, hhd⟩ : ∃ hd, hd = lm u r (j + (n - 1)) + 2147483648 * lm u r (j + n) := ⟨_, rfl⟩
  have hor : ((u.1 r (j + n)).toInt64 <<< (((31 : Int32)).toInt64 &&& 63)) ||| (u.1 r (j + (n - 1))).toInt64 = Int64.ofNat hd := by
    apply i64_of _ (by omega)
    rw [n64_or (k := 31) (c := (lm u r (j + n) : Int)) (by omega) (by rw [e31]; omega) (by omega) (by rw [hsl, e31, er1]), hsl, er1, er2]
    omega
  obtain ⟨d2, hd2⟩ : ∃ d2, d2 = if n ≤ 1 then 0 else lm u b (n - 2) := ⟨_, rfl⟩
  obtain ⟨u3, hu3⟩ : ∃ u3, u3 = if n ≤ 1 then 0 else lm u r (j + (n - 2)) := ⟨_, rfl⟩
  have ld2 : d2 < 2147483648 := by rw [hd2]; split; omega; exact lm_lt _ _ _
  have lu3 : u3 < 2147483648 := by rw [hu3]; split; omega; exact lm_lt _ _ _
  have ehd : (Int64.ofNat hd).toInt = hd := i64_nat (by omega)
  have ed : (Int64.ofNat (lm u b (n - 1))).toInt = lm u b (n - 1) := i64_nat (by omega)
  have hq1 : Int64.ofNat hd / Int64.ofNat (lm u b (n - 1)) = Int64.ofNat (hd / lm u b (n - 1)) := by
    apply i64_of
    · rw [n64_div (by omega) (by omega), ehd, ed]; exact (Int.natCast_ediv _ _).symm
    · have := Nat.div_le_self hd (lm u b (n - 1)); omega
  have hq2 : Int64.ofNat hd - Int64.ofNat hd / Int64.ofNat (lm u b (n - 1)) * Int64.ofNat (lm u b (n - 1)) = Int64.ofNat (hd % lm u b (n - 1)) := by
    apply i64_of
    · rw [n64_rem (by omega) (by omega), ehd, ed]; exact (Int.natCast_emod _ _).symm
    · have := Nat.mod_le hd (lm u b (n - 1)); omega
  have hrun : gf_Calculator_guessTimes F z u r b (Int32.ofNat j) (Int32.ofNat n) = gf_Calculator_guessTimes_L81 F z F u (Int64.ofNat (lm u b (n - 1))) (Int64.ofNat d2) (Int64.ofNat u3) (Int64.ofNat (hd / lm u b (n - 1))) (Int64.ofNat (hd % lm u b (n - 1))) 0 := by
    have s1 : Int32.ofNat n - (1 : Int32) = Int32.ofNat (n - 1) := gi_sub (b := 1) (by omega) (by omega)
    have s2 : 2 ≤ n → Int32.ofNat n - (2 : Int32) = Int32.ofNat (n - 2) := fun h => gi_sub (b := 2) h (by omega)
    have s3 : Int32.ofNat (j + n) - (1 : Int32) = Int32.ofNat (j + (n - 1)) := by rw [show j + (n - 1) = j + n - 1 by omega]; exact gi_sub (b := 1) (by omega) (by omega)
    have s4 : 2 ≤ n → Int32.ofNat (j + n) - (2 : Int32) = Int32.ofNat (j + (n - 2)) := fun h => by rw [show j + (n - 2) = j + n - 2 by omega]; exact gi_sub (b := 2) (by omega) (by omega)
    have b42 : ∀ y, gf_Calculator_guessTimes_b42 F z u r (Int32.ofNat j) (Int32.ofNat n) (Int64.ofNat (lm u b (n - 1))) y (Int64.ofNat u3) = gf_Calculator_guessTimes_L81 F z F u (Int64.ofNat (lm u b (n - 1))) y (Int64.ofNat u3) (Int64.ofNat (hd / lm u b (n - 1))) (Int64.ofNat (hd % lm u b (n - 1))) 0 := by
      intro y
      unfold gf_Calculator_guessTimes_b42
      have hne : ¬ Int64.ofNat (lm u b (n - 1)) = 0 := fun e => by
        have := congrArg Int64.toInt e
        rw [ed] at this
        have : (0 : Int64).toInt = 0 := rfl
        omega
      rw [gi_add, s3, if_neg (gi_ix (by omega) (by omega)), if_neg (gi_ix (by omega) (by omega)), i32_clamp (by omega), i32_clamp (by omega)]
      simp only [gf_nm]
      rw [hor, if_neg hne, if_neg hne, hq2, hq1]
    show gf_Calculator_guessTimes_b0 F z u r b (Int32.ofNat j) (Int32.ofNat n) = _
    unfold gf_Calculator_guessTimes_b0
    rw [s1, if_neg (gi_ix (by omega) (by omega)), i32_clamp (by omega), ed1]
    simp only [gf_nm]
    unfold gf_Calculator_guessTimes_b23
    by_cases c : n ≤ 1
    · have e : Int32.ofNat n ≤ (1 : Int32) := (gi_le (b := 1) (by omega) (by omega)).mpr c
      rw [if_pos e, if_pos e]
      rw [if_pos c] at hd2 hu3
      rw [hd2]
      have := b42 (Int64.ofNat 0)
      rw [hu3] at this ⊢
      exact this
    · have e : ¬ Int32.ofNat n ≤ (1 : Int32) := fun e => c ((gi_le (b := 1) (by omega) (by omega)).mp e)
      rw [if_neg e, if_neg e, gi_add, s2 (by omega), s4 (by omega), if_neg (gi_ix (by omega) (by omega)), if_neg (gi_ix (by omega) (by omega)), i32_clamp (by omega), i32_clamp (by omega)]
      rw [if_neg c] at hd2 hu3
      have q1 : (u.1 b (n - 2)).toInt64 = Int64.ofNat d2 := i64_of (by rw [n32_to64, lm_eq (hbp _ (by omega)), hd2]) (by omega)
      have q2 : (u.1 r (j + (n - 2))).toInt64 = Int64.ofNat u3 := i64_of (by rw [n32_to64, lm_eq (hrp (n - 2) (by omega)), hu3]) (by omega)
      rw [q1, q2, b42]
  have hdd : hd / lm u b (n - 1) < 4294967296 := by
    rw [Nat.div_lt_iff_lt_mul (by omega)]
    omega
  have hmm : hd % lm u b (n - 1) < 2147483648 := by
    have := Nat.mod_lt hd (show 0 < lm u b (n - 1) by omega)
    omega
  have L := gs_guessL (F := F) hF (z := z) (u := u) (d1 := lm u b (n - 1)) (d2 := d2) (u3 := u3) (t := hd / lm u b (n - 1)) (o := hd % lm u b (n - 1)) l1 ld2 lu3 hdd hmm
  refine ⟨_, hrun.trans L, ?_⟩
  by_cases c : n ≤ 1
  · have hn1 : n = 1 := by omega
    subst hn1
    rw [if_pos (by omega)] at hd2 hu3
    have eU : sg u r j 2 = hd := by
      show (0 + lm u r (j + 0) * 2147483648 ^ 0) + lm u r (j + 1) * 2147483648 ^ 1 = hd
      rw [hhd]
      show _ = lm u r (j + 0) + _
      omega
    have eD : wv u b 1 = lm u b 0 := by
      show 0 + lm u b 0 * 2147483648 ^ 0 = _
      omega
    rw [eU, eD] at hU ⊢
    have K := kn_all (B := 2147483648) (d1 := lm u b 0) (d2 := 0) (u3 := 0) (hd := hd) (P := 1) (D' := 0) (U' := 0) (by omega) (by omega) (by omega) (by omega) htop (by omega) (by omega) (by omega)
    have e : (0 + 1 * (0 + 2147483648 * hd)) / (0 + 1 * (0 + 2147483648 * lm u b 0)) = hd / lm u b 0 := by
      simp only [Nat.zero_add, Nat.one_mul]
      exact Nat.mul_div_mul_left _ _ (by omega)
    rw [e] at K
    rw [hd2, hu3]
    exact K
  · obtain ⟨m, rfl⟩ : ∃ m, n = m + 2 := ⟨n - 2, by omega⟩
    rw [if_neg c] at hd2 hu3
    have eU : sg u r j (m + 2 + 1) = sg u r j m + 2147483648 ^ m * (u3 + 2147483648 * hd) := by
      rw [sg_S, sg_S, sg_S, hhd, hu3]
      show _ + lm u r (j + m) * _ + lm u r (j + (m + 1)) * _ + lm u r (j + (m + 2)) * _ = _ + _ * (lm u r (j + m) + 2147483648 * (lm u r (j + (m + 1)) + 2147483648 * lm u r (j + (m + 2))))
      generalize lm u r (j + m) = a
      generalize lm u r (j + (m + 1)) = b
      generalize lm u r (j + (m + 2)) = c
      rw [show 2147483648 ^ (m + 2) = 2147483648 ^ m * (2147483648 * 2147483648) by rw [Nat.pow_add], Nat.pow_succ]
      generalize 2147483648 ^ m = P
      rw [Nat.mul_add P, Nat.mul_add 2147483648, Nat.mul_add P, Nat.mul_comm a P, Nat.mul_comm b, Nat.mul_comm c, Nat.mul_assoc, Nat.mul_assoc, Nat.mul_assoc 2147483648]
      omega
    have eD : wv u b (m + 2) = wv u b m + 2147483648 ^ m * (d2 + 2147483648 * lm u b (m + 1)) := by
      rw [wv_S, wv_S, hd2]
      show _ + lm u b m * _ + lm u b (m + 1) * _ = _ + _ * (lm u b m + _)
      generalize lm u b m = a
      generalize lm u b (m + 1) = b
      rw [Nat.pow_succ, Nat.mul_add, Nat.mul_comm a, Nat.mul_comm b, Nat.mul_assoc]
      omega
    have K := kn_all (B := 2147483648) (d1 := lm u b (m + 1)) (d2 := d2) (u3 := u3) (hd := hd) (P := 2147483648 ^ m) (D' := wv u b m) (U' := sg u r j m) (by omega) (Nat.pow_pos (by omega)) (wv_lt u b m) (sg_lt u r j m) htop ld2 lu3 (by rw [← eU, ← eD]; exact hU)
    rw [← eU, ← eD] at K
    exact K
