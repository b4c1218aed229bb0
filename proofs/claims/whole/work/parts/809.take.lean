theorem gs_takeB {F : Nat} (hF : 2000 ≤ F) {z : gw_Sh} {u : gw_St} {r b j n X : Nat} {y : Int64} (hrb : r ≠ b) (hn2 : n < 1000) (hj : j < 1000) (hr : j + n < z.2.2 r) (hb : n ≤ z.2.2 b) (hrp : ∀ i, i < n → 0 ≤ (u.1 r (j + i)).toInt) (hbp : ∀ i, i < n → 0 ≤ (u.1 b i).toInt) (hv : sg u r j n + wv u b n = 2147483648 ^ n + X) (hX : X < 2147483648 ^ n) :
    ∃ w, gf_Calculator_takeMultiple_L93 F z F u r b (Int32.ofNat j) (Int32.ofNat n) y 0 0 = some (y.toInt32 - 1, w) ∧ w.2 = u.2 ∧ (∀ a k, ¬ (a = r ∧ j ≤ k ∧ k < j + n) → w.1 a k = u.1 a k) ∧ (∀ i, i < n → 0 ≤ (w.1 r (j + i)).toInt) ∧ sg w r j n = X := by
  have main := gl_up (σ := gw_St × Int64) (N := n) (L := fun f t i => gf_Calculator_takeMultiple_L93 F z f t.1 r b (Int32.ofNat j) (Int32.ofNat n) y t.2 (Int32.ofNat i))
    (I := fun i t => t.1.2 = u.2 ∧ (∀ a k, ¬ (a = r ∧ j ≤ k ∧ k < j + i) → t.1.1 a k = u.1 a k) ∧ (∀ k, k < i → 0 ≤ (t.1.1 r (j + k)).toInt) ∧ 0 ≤ t.2.toInt ∧ t.2.toInt ≤ 1 ∧ sg t.1 r j i + t.2.toInt.toNat * 2147483648 ^ i = sg u r j i + wv u b i)
    (R := fun x => ∃ w, x = some (y.toInt32 - 1, w) ∧ w.2 = u.2 ∧ (∀ a k, ¬ (a = r ∧ j ≤ k ∧ k < j + n) → w.1 a k = u.1 a k) ∧ (∀ i, i < n → 0 ≤ (w.1 r (j + i)).toInt) ∧ sg w r j n = X)
    (fun f t i hI hi => by
      obtain ⟨w, c⟩ := t
      obtain ⟨b1, b2, b3, b4, b5, b6⟩ := hI
      dsimp only at b1 b2 b3 b4 b5 b6 ⊢
      have hl : (w.1 r (j + i)).toInt64.toInt = (lm u r (j + i) : Int) := by rw [n32_to64, b2 r (j + i) (by omega), lm_eq (hrp i hi)]
      have hbl : (w.1 b i).toInt64.toInt = (lm u b i : Int) := by rw [n32_to64, b2 b i (by omega), lm_eq (hbp i hi)]
      have k1 := lm_lt u r (j + i)
      have k2 := lm_lt u b i
      have hs1 : ((w.1 r (j + i)).toInt64 + (w.1 b i).toInt64).toInt = (w.1 r (j + i)).toInt64.toInt + (w.1 b i).toInt64.toInt := n64_add (by omega) (by omega)
      obtain ⟨T, hT⟩ : ∃ T, T = (w.1 r (j + i)).toInt64 + (w.1 b i).toInt64 + c := ⟨_, rfl⟩
      have hTv : T.toInt = ((lm u r (j + i) + lm u b i + c.toInt.toNat : Nat) : Int) := by
        rw [hT, n64_add (by omega) (by omega), hs1, hl, hbl]; omega
      have hd := n64_dig (t := T)
      have hs := n64_shr (t := T)
      refine ⟨(gw_wi w r (j + i) ((T &&& (2147483647 : Int64)).toInt32), T >>> (((31 : Int32)).toInt64 &&& 63)), ⟨b1, fun a k h => ?_, fun k hk => ?_, ?_, ?_, ?_⟩, ?_⟩
      · simp only [gw_wi]
        rw [if_neg (by omega)]
        exact b2 a k (by omega)
      · simp only [gw_wi, true_and]
        split
        · rw [hd]; omega
        · exact b3 k (by omega)
      · dsimp only; rw [hs]; omega
      · dsimp only; rw [hs]; omega
      · dsimp only
        have e0 : sg (gw_wi w r (j + i) ((T &&& (2147483647 : Int64)).toInt32)) r j i = sg w r j i := sg_congr (fun k hk => by simp only [gw_wi]; rw [if_neg (by omega)])
        have e3 : ((T &&& (2147483647 : Int64)).toInt32).toInt.toNat + (T >>> (((31 : Int32)).toInt64 &&& 63)).toInt.toNat * 2147483648 = lm u r (j + i) + lm u b i + c.toInt.toNat := by
          rw [hd, hs]; omega
        rw [sg_S, sg_S, wv_S, e0, lm_set, if_pos rfl]
        generalize ((T &&& (2147483647 : Int64)).toInt32).toInt.toNat = d at e3
        generalize (T >>> (((31 : Int32)).toInt64 &&& 63)).toInt.toNat = c' at e3
        have e5 := congrArg (· * 2147483648 ^ i) e3
        simp only [Nat.add_mul] at e5
        rw [Nat.pow_succ, Nat.mul_comm (2147483648 ^ i), ← Nat.mul_assoc]
        omega
      · show gf_Calculator_takeMultiple_S93 F z _ w r b (Int32.ofNat j) (Int32.ofNat n) y c (Int32.ofNat i) = _
        unfold gf_Calculator_takeMultiple_S93
        rw [if_neg (fun e => by have := (gi_le (by omega) (by omega)).mp e; omega), gi_add, if_neg (gi_ix (by omega) (by omega)), if_neg (gi_ix (by omega) (by omega))]
        simp only [gf_nm]
        rw [if_neg (gi_ix (by omega) (by omega)), i32_clamp (by omega), i32_clamp (by omega), ← hT, gw_iS])
    (fun f t hI => by
      obtain ⟨w, c⟩ := t
      obtain ⟨b1, b2, b3, b4, b5, b6⟩ := hI
      dsimp only at b1 b2 b3 b4 b5 b6 ⊢
      refine ⟨w, ?_, b1, b2, b3, ?_⟩
      · show gf_Calculator_takeMultiple_S93 F z _ w r b (Int32.ofNat j) (Int32.ofNat n) y c (Int32.ofNat n) = _
        unfold gf_Calculator_takeMultiple_S93
        rw [if_pos ((gi_le (by omega) (by omega)).mpr (Nat.le_refl _))]
      · have hlt := sg_lt w r j n
        rw [hv] at b6
        rcases (show c.toInt.toNat = 0 ∨ c.toInt.toNat = 1 by omega) with h | h
        · rw [h] at b6; omega
        · rw [h] at b6; omega)
  exact main n 0 (u, 0) F (by omega) ⟨rfl, fun _ _ _ => rfl, fun k hk => absurd hk (Nat.not_lt_zero k), show 0 ≤ (0 : Int64).toInt by decide, show (0 : Int64).toInt ≤ 1 by decide, by
    have e0 : (0 : Int64).toInt.toNat = 0 := rfl
    dsimp only
    rw [e0, show sg u r j 0 = 0 from rfl, show wv u b 0 = 0 from rfl]⟩ (by omega)
theorem gs_take {F : Nat} (hF : 2000 ≤ F) {z : gw_Sh} {u : gw_St} {r b j n T : Nat} (hrb : r ≠ b) (hn2 : n < 1000) (hj : j < 1000) (hr : j + n < z.2.2 r) (hb : n ≤ z.2.2 b) (hrp : ∀ i, i ≤ n → 0 ≤ (u.1 r (j + i)).toInt) (hbp : ∀ i, i < n → 0 ≤ (u.1 b i).toInt) (hD : 0 < wv u b n) (hq : sg u r j (n + 1) / wv u b n < 2147483648) (hT : sg u r j (n + 1) / wv u b n ≤ T ∧ T ≤ sg u r j (n + 1) / wv u b n + 1) :
    ∃ w, gf_Calculator_takeMultiple F z u r b (Int32.ofNat j) (Int32.ofNat n) (Int64.ofNat T) = some (Int32.ofNat (sg u r j (n + 1) / wv u b n), w) ∧ w.2 = u.2 ∧ (∀ a k, ¬ (a = r ∧ j ≤ k ∧ k ≤ j + n) → w.1 a k = u.1 a k) ∧ (∀ i, i ≤ n → 0 ≤ (w.1 r (j + i)).toInt) ∧ lm w r (j + n) = 0 ∧ sg w r j n = sg u r j (n + 1) % wv u b n := by
  have hTb : T ≤ 2147483648 := by omega
  have eT : (Int64.ofNat T).toInt = T := i64_nat (by omega)
  have hdm := Nat.div_add_mod (sg u r j (n + 1)) (wv u b n)
  have hml := Nat.mod_lt (sg u r j (n + 1)) hD
  have hwl := wv_lt u b n
  have main := gl_up (σ := gw_St × Int64) (N := n) (L := fun f t i => gf_Calculator_takeMultiple_L6 F z f t.1 r b (Int32.ofNat j) (Int32.ofNat n) (Int64.ofNat T) t.2 (Int32.ofNat i))
    (I := fun i t => t.1.2 = u.2 ∧ (∀ a k, ¬ (a = r ∧ j ≤ k ∧ k < j + i) → t.1.1 a k = u.1 a k) ∧ (∀ k, k < i → 0 ≤ (t.1.1 r (j + k)).toInt) ∧ -2147483648 ≤ t.2.toInt ∧ t.2.toInt ≤ 0 ∧ (sg t.1 r j i : Int) + t.2.toInt * ((2147483648 ^ i : Nat) : Int) = (sg u r j i : Int) - ((T * wv u b i : Nat) : Int))
    (R := fun x => ∃ w, x = some (Int32.ofNat (sg u r j (n + 1) / wv u b n), w) ∧ w.2 = u.2 ∧ (∀ a k, ¬ (a = r ∧ j ≤ k ∧ k ≤ j + n) → w.1 a k = u.1 a k) ∧ (∀ i, i ≤ n → 0 ≤ (w.1 r (j + i)).toInt) ∧ lm w r (j + n) = 0 ∧ sg w r j n = sg u r j (n + 1) % wv u b n)
    (fun f t i hI hi => by
      obtain ⟨w, c⟩ := t
      obtain ⟨b1, b2, b3, b4, b5, b6⟩ := hI
      dsimp only at b1 b2 b3 b4 b5 b6 ⊢
      have hl : (w.1 r (j + i)).toInt64.toInt = (lm u r (j + i) : Int) := by rw [n32_to64, b2 r (j + i) (by omega), lm_eq (hrp i (by omega))]
      have hbl : (w.1 b i).toInt64.toInt = (lm u b i : Int) := by rw [n32_to64, b2 b i (by omega), lm_eq (hbp i hi)]
      have k1 := lm_lt u r (j + i)
      have k2 := lm_lt u b i
      have hm : T * lm u b i ≤ 2147483648 * 2147483647 := Nat.mul_le_mul hTb (by omega)
      have hmm : (Int64.ofNat T * (w.1 b i).toInt64).toInt = ((T * lm u b i : Nat) : Int) := by
        have e : (Int64.ofNat T).toInt * (w.1 b i).toInt64.toInt = ((T * lm u b i : Nat) : Int) := by rw [eT, hbl]; exact (Int.natCast_mul _ _).symm
        rw [n64_mul (by rw [e]; omega) (by rw [e]; omega), e]
      have hs1 : ((w.1 r (j + i)).toInt64 + c).toInt = (lm u r (j + i) : Int) + c.toInt := by rw [n64_add (by omega) (by omega), hl]
      obtain ⟨Y, hY⟩ : ∃ Y, Y = (w.1 r (j + i)).toInt64 + c - Int64.ofNat T * (w.1 b i).toInt64 := ⟨_, rfl⟩
      have hYv : Y.toInt = (lm u r (j + i) : Int) + c.toInt - ((T * lm u b i : Nat) : Int) := by
        rw [hY, n64_sub (by omega) (by omega), hs1, hmm]
      have hd := n64_dig (t := Y)
      have hs := n64_shr (t := Y)
      refine ⟨(gw_wi w r (j + i) ((Y &&& (2147483647 : Int64)).toInt32), Y >>> (((31 : Int32)).toInt64 &&& 63)), ⟨b1, fun a k h => ?_, fun k hk => ?_, ?_, ?_, ?_⟩, ?_⟩
      · simp only [gw_wi]
        rw [if_neg (by omega)]
        exact b2 a k (by omega)
      · simp only [gw_wi, true_and]
        split
        · rw [hd]; omega
        · exact b3 k (by omega)
      · dsimp only; rw [hs]; omega
      · dsimp only; rw [hs]; omega
      · dsimp only
        have e0 : sg (gw_wi w r (j + i) ((Y &&& (2147483647 : Int64)).toInt32)) r j i = sg w r j i := sg_congr (fun k hk => by simp only [gw_wi]; rw [if_neg (by omega)])
        have e3 : ((((Y &&& (2147483647 : Int64)).toInt32).toInt.toNat : Nat) : Int) + (Y >>> (((31 : Int32)).toInt64 &&& 63)).toInt * 2147483648 = (lm u r (j + i) : Int) + c.toInt - ((T * lm u b i : Nat) : Int) := by
          rw [hd, hs]; omega
        rw [sg_S, sg_S, wv_S, e0, lm_set, if_pos rfl]
        generalize ((Y &&& (2147483647 : Int64)).toInt32).toInt.toNat = d at e3
        generalize (Y >>> (((31 : Int32)).toInt64 &&& 63)).toInt = c' at e3
        have e5 := congrArg (· * ((2147483648 ^ i : Nat) : Int)) e3
        simp only [Int.add_mul, Int.sub_mul] at e5
        have e7 : ((T * lm u b i : Nat) : Int) * ((2147483648 ^ i : Nat) : Int) = ((T * (lm u b i * 2147483648 ^ i) : Nat) : Int) := by rw [← Nat.mul_assoc]; exact (Int.natCast_mul _ _).symm
        rw [e7] at e5
        rw [Nat.pow_succ, Nat.mul_comm (2147483648 ^ i) 2147483648, Nat.mul_add T]
        have e8 : c' * ((2147483648 * 2147483648 ^ i : Nat) : Int) = c' * 2147483648 * ((2147483648 ^ i : Nat) : Int) := by rw [Int.natCast_mul, ← Int.mul_assoc]; rfl
        rw [e8]
        simp only [Int.natCast_add]
        have e9 : ((d * 2147483648 ^ i : Nat) : Int) = (d : Int) * ((2147483648 ^ i : Nat) : Int) := Int.natCast_mul _ _
        have e10 : ((lm u r (j + i) * 2147483648 ^ i : Nat) : Int) = (lm u r (j + i) : Int) * ((2147483648 ^ i : Nat) : Int) := Int.natCast_mul _ _
        rw [e9, e10]
        omega
      · show gf_Calculator_takeMultiple_S6 F z _ w r b (Int32.ofNat j) (Int32.ofNat n) (Int64.ofNat T) c (Int32.ofNat i) = _
        unfold gf_Calculator_takeMultiple_S6
        rw [if_neg (fun e => by have := (gi_le (by omega) (by omega)).mp e; omega), gi_add, if_neg (gi_ix (by omega) (by omega)), if_neg (gi_ix (by omega) (by omega))]
        simp only [gf_nm]
        rw [if_neg (gi_ix (by omega) (by omega)), i32_clamp (by omega), i32_clamp (by omega), ← hY, gw_iS])
    (fun f t hI => by
      obtain ⟨w, c⟩ := t
      obtain ⟨b1, b2, b3, b4, b5, b6⟩ := hI
      dsimp only at b1 b2 b3 b4 b5 b6 ⊢
      have k1 := lm_lt u r (j + n)
      have hl : (w.1 r (j + n)).toInt64.toInt = (lm u r (j + n) : Int) := by rw [n32_to64, b2 r (j + n) (by omega), lm_eq (hrp n (by omega))]
      have htop : ((w.1 r (j + n)).toInt64 + c).toInt = (lm u r (j + n) : Int) + c.toInt := by rw [n64_add (by omega) (by omega), hl]
      have hlt := sg_lt w r j n
      have hE : (sg w r j n : Int) + ((lm u r (j + n) : Int) + c.toInt) * ((2147483648 ^ n : Nat) : Int) = (sg u r j (n + 1) : Int) - ((T * wv u b n : Nat) : Int) := by
        rw [sg_S, Int.add_mul]
        have e10 : ((lm u r (j + n) * 2147483648 ^ n : Nat) : Int) = (lm u r (j + n) : Int) * ((2147483648 ^ n : Nat) : Int) := Int.natCast_mul _ _
        simp only [Int.natCast_add]
        rw [e10]
        omega
      have hbody : gf_Calculator_takeMultiple_L6 F z (f + 1) w r b (Int32.ofNat j) (Int32.ofNat n) (Int64.ofNat T) c (Int32.ofNat n) = if (lm u r (j + n) : Int) + c.toInt < 0 then gf_Calculator_takeMultiple_L93 F z F (gw_wi w r (j + n) 0) r b (Int32.ofNat j) (Int32.ofNat n) (Int64.ofNat T) 0 0 else some (Int32.ofNat T, gw_wi w r (j + n) 0) := by
        show gf_Calculator_takeMultiple_S6 F z _ w r b (Int32.ofNat j) (Int32.ofNat n) (Int64.ofNat T) c (Int32.ofNat n) = _
        unfold gf_Calculator_takeMultiple_S6
        rw [if_pos ((gi_le (by omega) (by omega)).mpr (Nat.le_refl _)), gi_add, if_neg (gi_ix (by omega) (by omega))]
        simp only [gf_nm]
        rw [if_neg (gi_ix (by omega) (by omega)), i32_clamp (by omega)]
        have e0 : (0 : Int64).toInt = 0 := rfl
        by_cases cc : (lm u r (j + n) : Int) + c.toInt < 0
        · rw [if_pos cc, if_pos (lgc_neg.mpr (by omega))]
        · rw [if_neg cc, if_neg (fun e => by have := lgc_neg.mp e; omega), n64_nat32]
      rw [hbody]
      obtain ⟨w1, hw1⟩ : ∃ w1, w1 = gw_wi w r (j + n) 0 := ⟨_, rfl⟩
      have w1f : ∀ a k, ¬ (a = r ∧ j ≤ k ∧ k ≤ j + n) → w1.1 a k = u.1 a k := fun a k h => by
        rw [hw1]
        simp only [gw_wi]
        rw [if_neg (by omega)]
        exact b2 a k (by omega)
      have w1l : ∀ i, i < n → w1.1 r (j + i) = w.1 r (j + i) := fun i hi => by
        rw [hw1]
        simp only [gw_wi]
        rw [if_neg (by omega)]
      have w1t : w1.1 r (j + n) = 0 := by rw [hw1]; simp [gw_wi]
      have w1s : sg w1 r j n = sg w r j n := sg_congr w1l
      rw [← hw1]
      have hmc : wv u b n * (sg u r j (n + 1) / wv u b n) = sg u r j (n + 1) / wv u b n * wv u b n := Nat.mul_comm _ _
      rcases (show T = sg u r j (n + 1) / wv u b n ∨ T = sg u r j (n + 1) / wv u b n + 1 by omega) with e | e
      · have hE2 : (sg w r j n : Int) + ((lm u r (j + n) : Int) + c.toInt) * ((2147483648 ^ n : Nat) : Int) = ((sg u r j (n + 1) % wv u b n : Nat) : Int) := by
          rw [hE, e]; omega
        have ht0 : (lm u r (j + n) : Int) + c.toInt = 0 := by
          generalize (lm u r (j + n) : Int) + c.toInt = t at hE2
          rcases Int.lt_trichotomy t 0 with h | h | h
          · have : t * ((2147483648 ^ n : Nat) : Int) ≤ -1 * ((2147483648 ^ n : Nat) : Int) := Int.mul_le_mul_of_nonneg_right (by omega) (by omega)
            omega
          · exact h
          · have : 1 * ((2147483648 ^ n : Nat) : Int) ≤ t * ((2147483648 ^ n : Nat) : Int) := Int.mul_le_mul_of_nonneg_right (by omega) (by omega)
            omega
        rw [if_neg (by omega)]
        rw [ht0] at hE2
        refine ⟨w1, by rw [e], by rw [hw1]; exact b1, w1f, fun i hi => ?_, by unfold lm; rw [w1t]; rfl, by rw [w1s]; omega⟩
        rcases Nat.lt_or_ge i n with h | h
        · rw [w1l i h]; exact b3 i h
        · have : i = n := by omega
          rw [this, w1t]; decide
      · have hE2 : (sg w r j n : Int) + ((lm u r (j + n) : Int) + c.toInt) * ((2147483648 ^ n : Nat) : Int) = ((sg u r j (n + 1) % wv u b n : Nat) : Int) - (wv u b n : Int) := by
          rw [hE, e, Nat.add_mul]; omega
        have ht0 : (lm u r (j + n) : Int) + c.toInt = -1 := by
          generalize (lm u r (j + n) : Int) + c.toInt = t at hE2
          rcases Int.lt_trichotomy t (-1) with h | h | h
          · have : t * ((2147483648 ^ n : Nat) : Int) ≤ -2 * ((2147483648 ^ n : Nat) : Int) := Int.mul_le_mul_of_nonneg_right (by omega) (by omega)
            omega
          · exact h
          · have : 0 * ((2147483648 ^ n : Nat) : Int) ≤ t * ((2147483648 ^ n : Nat) : Int) := Int.mul_le_mul_of_nonneg_right (by omega) (by omega)
            omega
        rw [if_pos (by omega)]
        rw [ht0] at hE2
        have eb : ∀ i, w1.1 b i = u.1 b i := fun i => w1f b i (by omega)
        have ew : wv w1 b n = wv u b n := wv_congr (fun i _ => eb i)
        obtain ⟨w2, d1, d2, d3, d4, d5⟩ := gs_takeB (F := F) hF (z := z) (u := w1) (r := r) (b := b) (j := j) (n := n) (X := sg u r j (n + 1) % wv u b n) (y := Int64.ofNat T) hrb hn2 hj hr hb (fun i hi => by rw [w1l i hi]; exact b3 i hi) (fun i hi => by rw [eb]; exact hbp i hi) (by rw [w1s, ew]; omega) (by omega)
        have e2 : w2.1 r (j + n) = 0 := (d3 r (j + n) (by omega)).trans w1t
        refine ⟨w2, ?_, by rw [d2, hw1]; exact b1, fun a k h => (d3 a k (by omega)).trans (w1f a k h), fun i hi => ?_, by unfold lm; rw [e2]; rfl, d5⟩
        · rw [d1, n64_nat32, e, ← gi_add]
          congr 2
          exact Int32.add_sub_cancel ..
        · rcases Nat.lt_or_ge i n with h | h
          · exact d4 i h
          · have : i = n := by omega
            rw [this, e2]; decide)
  exact main n 0 (u, 0) F (by omega) ⟨rfl, fun _ _ _ => rfl, fun k hk => absurd hk (Nat.not_lt_zero k), show -2147483648 ≤ (0 : Int64).toInt by decide, show (0 : Int64).toInt ≤ 0 by decide, by
    have e0 : (0 : Int64).toInt = 0 := rfl
    dsimp only
    rw [e0, show sg u r j 0 = 0 from rfl, show wv u b 0 = 0 from rfl]; simp⟩ (by omega)
