theorem gb_id {α : Type} (x : Option α) : (x.bind fun a => some a) = x := by cases x <;> rfl
theorem n64_ushr {y : Int64} (h : 0 ≤ y.toInt) : ((y).toUInt64 >>> (((31 : Int32)).toInt64.toUInt64 &&& Int64.toUInt64 63)).toInt64.toInt = y.toInt / 2147483648 := by
  have hp := n64_pos h
  have h1 : ((y).toUInt64 >>> (((31 : Int32)).toInt64.toUInt64 &&& Int64.toUInt64 63)).toInt64.toBitVec.toNat = y.toBitVec.toNat / 2147483648 := by
    show ((y).toUInt64 >>> (31 : UInt64)).toNat = _
    rw [UInt64.toNat_shiftRight]
    show y.toBitVec.toNat >>> 31 = _
    rw [Nat.shiftRight_eq_div_pow]
  have h2 := n64_ofn h1 (by have := y.toBitVec.isLt; omega)
  rw [h2]
  omega
theorem gs_signum {F : Nat} {z : gw_Sh} {u : gw_St} {y : Int64} (h1 : -4611686018427387904 < y.toInt) (h2 : y.toInt < 4611686018427387904) : gf_Long_signum F z u y = some (if y.toInt < 0 then -1 else if y.toInt = 0 then 0 else 1, u) := by
  show some (_, u) = _
  congr 2
  have hn : (-y).toInt = - y.toInt := by
    rw [Int64.toInt_neg]
    exact Int.bmod_eq_of_le (by omega) (by omega)
  have ha : (y >>> (((63 : Int32)).toInt64 &&& 63)).toInt = y.toInt / 2 ^ 63 := n64_shrv (s := 63) (by omega)
  have p63 : (2 : Int) ^ 63 = 9223372036854775808 := by decide
  rw [p63] at ha
  have hb : (((-y)).toUInt64 >>> (((63 : Int32)).toInt64.toUInt64 &&& Int64.toUInt64 63)).toInt64.toBitVec.toNat = (-y).toBitVec.toNat / 9223372036854775808 := by
    show (((-y)).toUInt64 >>> (63 : UInt64)).toNat = _
    rw [UInt64.toNat_shiftRight]
    show (-y).toBitVec.toNat >>> 63 = _
    rw [Nat.shiftRight_eq_div_pow]
  have hc : (-y).toInt = (-y).toBitVec.toInt := rfl
  have hl := (-y).toBitVec.isLt
  rw [hn, BitVec.toInt_eq_toNat_cond] at hc
  by_cases c1 : y.toInt < 0
  · rw [if_pos c1]
    have e1 : y >>> (((63 : Int32)).toInt64 &&& 63) = -1 := i64_ext (by rw [ha]; have : (-1 : Int64).toInt = -1 := rfl; omega)
    have e2 : (((-y)).toUInt64 >>> (((63 : Int32)).toInt64.toUInt64 &&& Int64.toUInt64 63)).toInt64 = 0 := by
      apply i64_ext
      rw [n64_ofn hb (by omega)]
      have : (0 : Int64).toInt = 0 := rfl
      split at hc <;> omega
    rw [e1, e2]
    rfl
  · rw [if_neg c1]
    have e1 : y >>> (((63 : Int32)).toInt64 &&& 63) = 0 := i64_ext (by rw [ha]; have : (0 : Int64).toInt = 0 := rfl; omega)
    by_cases c2 : y.toInt = 0
    · rw [if_pos c2]
      have e2 : (((-y)).toUInt64 >>> (((63 : Int32)).toInt64.toUInt64 &&& Int64.toUInt64 63)).toInt64 = 0 := by
        apply i64_ext
        rw [n64_ofn hb (by omega)]
        have : (0 : Int64).toInt = 0 := rfl
        split at hc <;> omega
      rw [e1, e2]
      rfl
    · rw [if_neg c2]
      have e2 : (((-y)).toUInt64 >>> (((63 : Int32)).toInt64.toUInt64 &&& Int64.toUInt64 63)).toInt64 = 1 := by
        apply i64_ext
        rw [n64_ofn hb (by omega)]
        have : (1 : Int64).toInt = 1 := rfl
        split at hc <;> omega
      rw [e1, e2]
      rfl
theorem n64_dig {t : Int64} : ((t &&& (2147483647 : Int64)).toInt32).toInt = t.toInt % 2147483648 := by
  have h := n64_and (t := t) (m := 2147483647) (k := 31) (by omega) (by decide)
  have e : (2 : Int) ^ 31 = 2147483648 := by decide
  rw [e] at h
  rw [n64_to32 (by rw [h]; omega) (by rw [h]; omega), h]
theorem gw_setLong {F : Nat} (hF : 2000 ≤ F) {z : gw_Sh} {p q : Nat} {u : gw_St} {y : Int64} (hpq : p ≠ q) (hr : u.2.2 p 0 = q + 1) (hc : 3 ≤ z.2.2 q) (h1 : -4611686018427387904 < y.toInt) (h2 : y.toInt < 4611686018427387904) : ∃ w, gf_Whole_setLong F z u p y = some w ∧ Wf p q u w ∧ Wh w p q y.toInt := by
  have e0 : (0 : Int64).toInt = 0 := rfl
  have hn : (-y).toInt = - y.toInt := by
    rw [Int64.toInt_neg]
    exact Int.bmod_eq_of_le (by omega) (by omega)
  obtain ⟨t, ht⟩ : ∃ t : Int64, t = if 0 < y then y else -y := ⟨_, rfl⟩
  have hta : t.toInt = y.toInt.natAbs := by
    rw [ht]
    by_cases c : 0 < y
    · have := i64_lt.mp c
      rw [if_pos c]; omega
    · have : ¬ (0 : Int64).toInt < y.toInt := fun q => c (i64_lt.mpr q)
      rw [if_neg c, hn]; omega
  have ht1 := n64_ushr (y := t) (by omega)
  obtain ⟨t1, hd1⟩ : ∃ t1, t1 = ((t).toUInt64 >>> (((31 : Int32)).toInt64.toUInt64 &&& Int64.toUInt64 63)).toInt64 := ⟨_, rfl⟩
  rw [← hd1] at ht1
  have ht2 := n64_ushr (y := t1) (by omega)
  obtain ⟨t2, hd2⟩ : ∃ t2, t2 = ((t1).toUInt64 >>> (((31 : Int32)).toInt64.toUInt64 &&& Int64.toUInt64 63)).toInt64 := ⟨_, rfl⟩
  rw [← hd2] at ht2
  obtain ⟨t3, hd3⟩ : ∃ t3, t3 = ((t2).toUInt64 >>> (((31 : Int32)).toInt64.toUInt64 &&& Int64.toUInt64 63)).toInt64 := ⟨_, rfl⟩
  have g0 := n64_dig (t := t)
  have g1 := n64_dig (t := t1)
  have g2 := n64_dig (t := t2)
  obtain ⟨f, rfl⟩ : ∃ f, F = f + 4 := ⟨F - 4, by omega⟩
  generalize hw : gw_wi (gw_wi (gw_wi u q 0 ((t &&& (2147483647 : Int64)).toInt32)) q 1 ((t1 &&& (2147483647 : Int64)).toInt32)) q 2 ((t2 &&& (2147483647 : Int64)).toInt32) = w
  have hw0 : w.1 q 0 = ((t &&& (2147483647 : Int64)).toInt32) := by rw [← hw]; simp [gw_wi]
  have hw1 : w.1 q 1 = ((t1 &&& (2147483647 : Int64)).toInt32) := by rw [← hw]; simp [gw_wi]
  have hw2 : w.1 q 2 = ((t2 &&& (2147483647 : Int64)).toInt32) := by rw [← hw]; simp [gw_wi]
  have hwr : w.2.2 p 0 = q + 1 := by rw [← hw]; exact hr
  have hwf : Wf p q u w := by rw [← hw]; exact (Wf.wi.trans Wf.wi).trans Wf.wi
  have hb : gf_Whole_setLong (f + 4) z u p y = (gf_Whole_settle (f + 4) z w p (Int32.ofNat 3) (if y.toInt < 0 then -1 else if y.toInt = 0 then 0 else 1)) := by
    unfold gf_Whole_setLong gf_Whole_setLong_b0
    rw [← ht]
    simp only [gf_nm]
    show gf_Whole_setLong_S8 (f + 4) z _ u p y t (Int32.ofNat 0) = _
    unfold gf_Whole_setLong_S8
    rw [if_neg (by decide), hr]
    simp only [gf_nn, gf_nm]
    rw [if_neg (gi_ix (k := 0) (by omega) (by omega)), ← hd1, i32_clamp (n := 0) (by omega)]
    show gf_Whole_setLong_S8 (f + 4) z _ (gw_wi u q 0 _) p y t1 (Int32.ofNat 1) = _
    unfold gf_Whole_setLong_S8
    rw [if_neg (by decide), show (gw_wi u q 0 ((t &&& (2147483647 : Int64)).toInt32)).2.2 p 0 = q + 1 from hr]
    simp only [gf_nn, gf_nm]
    rw [if_neg (gi_ix (k := 1) (by omega) (by omega)), ← hd2, i32_clamp (n := 1) (by omega)]
    show gf_Whole_setLong_S8 (f + 4) z _ (gw_wi (gw_wi u q 0 _) q 1 _) p y t2 (Int32.ofNat 2) = _
    unfold gf_Whole_setLong_S8
    rw [if_neg (by decide), show (gw_wi (gw_wi u q 0 ((t &&& (2147483647 : Int64)).toInt32)) q 1 ((t1 &&& (2147483647 : Int64)).toInt32)).2.2 p 0 = q + 1 from hr]
    simp only [gf_nn, gf_nm]
    rw [if_neg (gi_ix (k := 2) (by omega) (by omega)), ← hd3, i32_clamp (n := 2) (by omega)]
    show gf_Whole_setLong_S8 (f + 4) z _ (gw_wi (gw_wi (gw_wi u q 0 ((t &&& (2147483647 : Int64)).toInt32)) q 1 ((t1 &&& (2147483647 : Int64)).toInt32)) q 2 ((t2 &&& (2147483647 : Int64)).toInt32)) p y t3 (Int32.ofNat 3) = _
    rw [hw]
    unfold gf_Whole_setLong_S8
    rw [if_pos (by decide), gs_signum h1 h2]
    simp only [gf_cl]
    exact gb_id _
  have hpos : ∀ i, i < 3 → 0 ≤ (w.1 q i).toInt := by
    intro i hi
    rcases (show i = 0 ∨ i = 1 ∨ i = 2 by omega) with rfl | rfl | rfl
    · rw [hw0, g0]; omega
    · rw [hw1, g1]; omega
    · rw [hw2, g2]; omega
  have hval : (wv w q 3 : Int) = y.toInt.natAbs := by
    have l0 := lm_eq (hpos 0 (by omega))
    have l1 := lm_eq (hpos 1 (by omega))
    have l2 := lm_eq (hpos 2 (by omega))
    rw [hw0, g0] at l0
    rw [hw1, g1] at l1
    rw [hw2, g2] at l2
    have : wv w q 3 = ((0 + lm w q 0 * 2147483648 ^ 0) + lm w q 1 * 2147483648 ^ 1) + lm w q 2 * 2147483648 ^ 2 := rfl
    rw [this]
    have p2 : (2147483648 : Nat) ^ 2 = 4611686018427387904 := by decide
    rw [p2]
    omega
  obtain ⟨w', a1, a2, a3, a4⟩ := gw_settle (F := f + 4) hF (z := z) (n := 3) (s := if y.toInt < 0 then -1 else if y.toInt = 0 then 0 else 1) hpq hwr hc (by omega) hpos (by
    by_cases c1 : y.toInt < 0
    · rw [if_pos c1]; exact Or.inr (Or.inl rfl)
    · rw [if_neg c1]
      by_cases c2 : y.toInt = 0
      · rw [if_pos c2]; right; right; omega
      · rw [if_neg c2]; exact Or.inl rfl)
  refine ⟨w', hb.trans a1, hwf.trans a2, ?_⟩
  rw [hval] at a4
  have : (if y.toInt < 0 then (-1 : Int32) else if y.toInt = 0 then 0 else 1).toInt * (y.toInt.natAbs : Int) = y.toInt := by
    have i1 : (-1 : Int32).toInt = -1 := rfl
    have i2 : (1 : Int32).toInt = 1 := rfl
    have i3 : (0 : Int32).toInt = 0 := rfl
    by_cases c1 : y.toInt < 0
    · rw [if_pos c1, i1]; omega
    · rw [if_neg c1]
      by_cases c2 : y.toInt = 0
      · rw [if_pos c2, i3]; omega
      · rw [if_neg c2, i2]; omega
  rw [this] at a4
  exact a4
theorem gw_copyW {F : Nat} {z : gw_Sh} {p q p' q' n : Nat} {u : gw_St} {v : Int} (hpq : p ≠ q) (hp : p' ≠ q) (hq : q' ≠ p) (hr : u.2.2 p 0 = q + 1) (hr' : u.2.2 p' 0 = q' + 1) (h : Wd u p' q' n v) (hc' : n ≤ z.2.2 q') (hc : n ≤ z.2.2 q) : ∃ w, gf_Whole_copyFrom F z u p p' = some w ∧ Wf p q u w ∧ Wd w p q n v := by
  obtain ⟨a1, a2, a3, a4, a5⟩ := id h
  generalize hw : gw_wi (gw_wi (gw_cp u q' 0 q 0 n) p 1 (Int32.ofNat n)) p 2 (u.1 p' 2) = w
  have hb : gf_Whole_copyFrom F z u p p' = some w := by
    show gf_Whole_copyFrom_b0 F z u p p' = _
    unfold gf_Whole_copyFrom_b0
    rw [hr, hr']
    simp only [gf_nn, gf_nm]
    rw [a2, if_neg]
    · rw [i32_clamp (by omega)]
      show some (gw_wi (gw_wi (gw_cp u q' 0 q 0 n) p 1 ((gw_cp u q' 0 q 0 n).1 p' 1)) p 2 ((gw_wi (gw_cp u q' 0 q 0 n) p 1 ((gw_cp u q' 0 q 0 n).1 p' 1)).1 p' 2)) = _
      have e1 : (gw_cp u q' 0 q 0 n).1 p' 1 = Int32.ofNat n := by
        simp only [gw_cp]
        rw [if_neg hp]
        exact a2
      have e2 : (gw_wi (gw_cp u q' 0 q 0 n) p 1 (Int32.ofNat n)).1 p' 2 = u.1 p' 2 := by
        simp only [gw_wi, gw_cp]
        rw [if_neg (by omega), if_neg hp]
      rw [e1, e2, hw]
    · rw [i32_clamp (by omega)]
      rintro (c | c | c | c | c)
      · exact absurd c (by decide)
      · exact absurd c (by decide)
      · exact gi_n0 (by omega) c
      · have : (0 : Int32).toNatClampNeg = 0 := rfl
        omega
      · have : (0 : Int32).toNatClampNeg = 0 := rfl
        omega
  have hl : ∀ i, i < n → w.1 q i = u.1 q' i := by
    intro i hi
    rw [← hw]
    simp only [gw_wi, gw_cp, va_cpy]
    rw [if_neg (by omega), if_neg (by omega), if_pos True.intro, if_pos (by omega)]
    simp
  have hlm : ∀ i, i < n → lm w q i = lm u q' i := fun i hi => by unfold lm; rw [hl i hi]
  have hv : wv w q n = wv u q' n := bv_congr hlm
  refine ⟨w, hb, ⟨by rw [← hw]; rfl, fun a k h1 h2 => ?_⟩, a1, ?_, fun i hi => by rw [hl i hi]; exact a3 i hi, fun h0 => by rw [hlm _ (by omega)]; exact a4 h0, ?_⟩
  · rw [← hw]
    simp only [gw_wi, gw_cp]
    rw [if_neg (by omega), if_neg (by omega), if_neg (by omega)]
  · rw [← hw]
    simp [gw_wi]
  · have e2 : w.1 p 2 = u.1 p' 2 := by
      rw [← hw]
      simp only [gw_wi, and_self, ite_true]
    rw [e2, hv]
    exact a5
theorem gw_fill2L {F : Nat} {z : gw_Sh} {q n : Nat} {x : Int32} (hn : n ≤ z.2.2 q) (hn2 : n < 2147483648) : ∀ (j i f : Nat) (u : gw_St), i + j = n → j < f → ∃ w, gf_Arrays_fill2_L10 F z f u q (Int32.ofNat n) x (Int32.ofNat i) = some w ∧ w.2 = u.2 ∧ (∀ a k, ¬ (a = q ∧ i ≤ k ∧ k < n) → w.1 a k = u.1 a k) ∧ (∀ k, i ≤ k → k < n → w.1 q k = x) := by
  intro j
  induction j with
  | zero =>
    intro i f u hi hf
    obtain ⟨f, rfl⟩ : ∃ g, f = g + 1 := ⟨f - 1, by omega⟩
    refine ⟨u, ?_, rfl, fun _ _ _ => rfl, fun k h1 h2 => by omega⟩
    show gf_Arrays_fill2_S10 F z _ u q (Int32.ofNat n) x (Int32.ofNat i) = _
    unfold gf_Arrays_fill2_S10
    rw [if_pos ((gi_le hn2 (by omega)).mpr (by omega))]
  | succ j ih =>
    intro i f u hi hf
    obtain ⟨f, rfl⟩ : ∃ g, f = g + 1 := ⟨f - 1, by omega⟩
    obtain ⟨w, b1, b2, b3, b4⟩ := ih (i + 1) f (gw_wi u q i x) (by omega) (by omega)
    refine ⟨w, ?_, b2, fun a k h => ?_, fun k h1 h2 => ?_⟩
    · rw [← b1]
      show gf_Arrays_fill2_S10 F z _ u q (Int32.ofNat n) x (Int32.ofNat i) = _
      unfold gf_Arrays_fill2_S10
      rw [if_neg (fun c => by have := (gi_le hn2 (by omega)).mp c; omega), if_neg (gi_ix (by omega) (by omega)), i32_clamp (by omega)]
      show gf_Arrays_fill2_L10 F z f (gw_wi u q i x) q (Int32.ofNat n) x (Int32.ofNat i + 1) = _
      rw [gw_iS]
    · rw [b3 a k (by omega)]
      simp only [gw_wi]
      rw [if_neg (by omega)]
    · by_cases c : k = i
      · rw [b3 q k (by omega), c]
        simp only [gw_wi, and_self, ite_true]
      · exact b4 k (by omega) h2
theorem gw_fill2 {F : Nat} {z : gw_Sh} {q i n : Nat} {x : Int32} {u : gw_St} (hi : i ≤ n) (hn : n ≤ z.2.2 q) (hn2 : z.2.2 q < 2147483648) (hf : n < F) : ∃ w, gf_Arrays_fill2 F z u q (Int32.ofNat i) (Int32.ofNat n) x = some w ∧ w.2 = u.2 ∧ (∀ a k, ¬ (a = q ∧ i ≤ k ∧ k < n) → w.1 a k = u.1 a k) ∧ (∀ k, i ≤ k → k < n → w.1 q k = x) := by
  have hb : gf_Arrays_fill2 F z u q (Int32.ofNat i) (Int32.ofNat n) x = gf_Arrays_fill2_L10 F z F u q (Int32.ofNat n) x (Int32.ofNat i) := by
    show (gf_Arrays_rangeCheck_b0 F z u (Int32.ofNat (z.2.2 q)) (Int32.ofNat i) (Int32.ofNat n)).bind _ = _
    unfold gf_Arrays_rangeCheck_b0
    rw [if_pos ((gi_le (by omega) (by omega)).mpr hi), if_pos (show (0 : Int32) ≤ Int32.ofNat i from (gi_le (a := 0) (by omega) (by omega)).mpr (by omega)), if_pos ((gi_le (by omega) (by omega)).mpr hn)]
    rfl
  rw [hb]
  exact gw_fill2L hn (by omega) (n - i) i F u (by omega) (by omega)
