theorem gw_difference {F : Nat} (hF : 2000 ≤ F) {z : gw_Sh} {p q p1 q1 p2 q2 na nb : Nat} {u : gw_St} {va vb : Int} (hpq : p ≠ q) (h1q : p1 ≠ q) (h2q : p2 ≠ q) (hr : u.2.2 p 0 = q + 1) (hr1 : u.2.2 p1 0 = q1 + 1) (hr2 : u.2.2 p2 0 = q2 + 1) (ha : Wd u p1 q1 na va) (hb : Wd u p2 q2 nb vb) (hca : na ≤ z.2.2 q1) (hcb : nb ≤ z.2.2 q2) (hc1 : na + 1 ≤ z.2.2 q) (hc2 : nb + 1 ≤ z.2.2 q) (hcq : z.2.2 q < 1000) :
    ∃ w, gf_Whole_setDifference F z u p p1 p2 = some w ∧ Wf p q u w ∧ Wh w p q (va - vb) := by
  have sa := ha.sg
  have sb := hb.sg
  have hpr : (u.1 p1 2 * u.1 p2 2).toInt = va.sign * vb.sign := by
    have h1 : -1 ≤ va.sign ∧ va.sign ≤ 1 := by rcases Int.lt_trichotomy va 0 with h | h | h <;> (first | rw [Int.sign_eq_neg_one_of_neg h] | rw [h, Int.sign_zero] | rw [Int.sign_eq_one_of_pos h]) <;> omega
    have h2 : -1 ≤ vb.sign ∧ vb.sign ≤ 1 := by rcases Int.lt_trichotomy vb 0 with h | h | h <;> (first | rw [Int.sign_eq_neg_one_of_neg h] | rw [h, Int.sign_zero] | rw [Int.sign_eq_one_of_pos h]) <;> omega
    have h3 : -1 ≤ va.sign * vb.sign ∧ va.sign * vb.sign ≤ 1 := by
      rcases (show va.sign = -1 ∨ va.sign = 0 ∨ va.sign = 1 by omega) with h | h | h <;> rw [h] <;> omega
    rw [n32_mul (by rw [sa, sb]; omega) (by rw [sa, sb]; omega), sa, sb]
  have s1 : ∀ {P N : Nat} {v : Int}, Wd u P q1 N v → True := fun _ => trivial
  have e0 : (0 : Int32).toInt = 0 := rfl
  have e1 : (1 : Int32).toInt = 1 := rfl
  have em : (-1 : Int32).toInt = -1 := rfl
  show ∃ w, gf_Whole_setDifference_b0 F z u p p1 p2 = some w ∧ _
  unfold gf_Whole_setDifference_b0 gf_Whole_setDifference_b60
  by_cases c : 0 ≤ u.1 p1 2 * u.1 p2 2
  · have c' := i32_le.mp c
    rw [hpr] at c'
    rw [if_pos c, gw_shorter hF hr1 hr2 ha hb hca hcb]
    simp only [gf_cl]
    by_cases d : va.natAbs < vb.natAbs
    · rw [if_pos d, if_neg (by decide)]
      have hng : (-(u.1 p2 2)).toInt = - vb.sign := by
        rw [Int32.toInt_neg, sb]
        rcases Int.lt_trichotomy vb 0 with h | h | h <;> (first | rw [Int.sign_eq_neg_one_of_neg h] | rw [h, Int.sign_zero] | rw [Int.sign_eq_one_of_pos h]) <;> decide
      obtain ⟨w, d1, d2, d3⟩ := gw_combine (F := F) hF (z := z) (x3 := -1) (s := -(u.1 p2 2)) (W := -1) hpq h2q h1q hr hr2 hr1 hb ha hcb hca hc2 hc1 hcq em (Or.inr ⟨rfl, by omega⟩) (by
        rcases Int.lt_trichotomy vb 0 with h | h | h
        · left; apply i32_ext; rw [hng, Int.sign_eq_neg_one_of_neg h]; rfl
        · omega
        · right; left; apply i32_ext; rw [hng, Int.sign_eq_one_of_pos h]; rfl)
      rw [d1]
      refine ⟨w, rfl, d2, ?_⟩
      have : (-(u.1 p2 2)).toInt * ((vb.natAbs : Int) + -1 * va.natAbs) = va - vb := by
        rw [hng]
        rcases Int.lt_trichotomy vb 0 with h | h | h
        · rw [Int.sign_eq_neg_one_of_neg h] at c' ⊢
          have : va ≤ 0 := by
            rcases Int.lt_trichotomy va 0 with g | g | g
            · omega
            · omega
            · rw [Int.sign_eq_one_of_pos g] at c'; omega
          omega
        · omega
        · rw [Int.sign_eq_one_of_pos h] at c' ⊢
          have : 0 ≤ va := by
            rcases Int.lt_trichotomy va 0 with g | g | g
            · rw [Int.sign_eq_neg_one_of_neg g] at c'; omega
            · omega
            · omega
          omega
      rw [this] at d3
      exact d3
    · rw [if_neg d, if_pos rfl]
      obtain ⟨w, d1, d2, d3⟩ := gw_combine (F := F) hF (z := z) (x3 := -1) (s := u.1 p1 2) (W := -1) hpq h1q h2q hr hr1 hr2 ha hb hca hcb hc1 hc2 hcq em (Or.inr ⟨rfl, by omega⟩) (by
        rcases Int.lt_trichotomy va 0 with h | h | h
        · right; left; apply i32_ext; rw [sa, Int.sign_eq_neg_one_of_neg h]; rfl
        · right; right; omega
        · left; apply i32_ext; rw [sa, Int.sign_eq_one_of_pos h]; rfl)
      rw [d1]
      refine ⟨w, rfl, d2, ?_⟩
      have : (u.1 p1 2).toInt * ((va.natAbs : Int) + -1 * vb.natAbs) = va - vb := by
        rw [sa]
        rcases Int.lt_trichotomy va 0 with h | h | h
        · rw [Int.sign_eq_neg_one_of_neg h] at c' ⊢
          have : vb ≤ 0 := by
            rcases Int.lt_trichotomy vb 0 with g | g | g
            · omega
            · omega
            · rw [Int.sign_eq_one_of_pos g] at c'; omega
          omega
        · rw [h, Int.sign_zero]; omega
        · rw [Int.sign_eq_one_of_pos h] at c' ⊢
          have : 0 ≤ vb := by
            rcases Int.lt_trichotomy vb 0 with g | g | g
            · rw [Int.sign_eq_neg_one_of_neg g] at c'; omega
            · omega
            · omega
          omega
      rw [this] at d3
      exact d3
  · have c' : ¬ (0 : Int32).toInt ≤ (u.1 p1 2 * u.1 p2 2).toInt := fun q => c (i32_le.mpr q)
    rw [hpr] at c'
    rw [if_neg c]
    obtain ⟨w, d1, d2, d3⟩ := gw_combine (F := F) hF (z := z) (x3 := 1) (s := u.1 p1 2) (W := 1) hpq h1q h2q hr hr1 hr2 ha hb hca hcb hc1 hc2 hcq e1 (Or.inl rfl) (by
        rcases Int.lt_trichotomy va 0 with h | h | h
        · right; left; apply i32_ext; rw [sa, Int.sign_eq_neg_one_of_neg h]; rfl
        · exfalso; rw [h, Int.sign_zero] at c'; omega
        · left; apply i32_ext; rw [sa, Int.sign_eq_one_of_pos h]; rfl)
    rw [d1]
    refine ⟨w, rfl, d2, ?_⟩
    have : (u.1 p1 2).toInt * ((va.natAbs : Int) + 1 * vb.natAbs) = va - vb := by
      rw [sa]
      rcases Int.lt_trichotomy va 0 with h | h | h
      · rw [Int.sign_eq_neg_one_of_neg h] at c' ⊢
        have : 0 < vb := by
          rcases Int.lt_trichotomy vb 0 with g | g | g
          · rw [Int.sign_eq_neg_one_of_neg g] at c'; omega
          · rw [g, Int.sign_zero] at c'; omega
          · omega
        omega
      · exfalso; rw [h, Int.sign_zero] at c'; omega
      · rw [Int.sign_eq_one_of_pos h] at c' ⊢
        have : vb < 0 := by
          rcases Int.lt_trichotomy vb 0 with g | g | g
          · omega
          · rw [g, Int.sign_zero] at c'; omega
          · rw [Int.sign_eq_one_of_pos g] at c'; omega
        omega
    rw [this] at d3
    exact d3
theorem gw_shiftUp {F : Nat} (hF : 2000 ≤ F) {z : gw_Sh} {p q p1 q1 na sh : Nat} {u : gw_St} {va : Int} (hpq : p ≠ q) (h1q : p1 ≠ q) (hq1 : q1 ≠ q) (hr : u.2.2 p 0 = q + 1) (hr1 : u.2.2 p1 0 = q1 + 1) (ha : Wd u p1 q1 na va) (hca : na ≤ z.2.2 q1) (hc : na + 1 ≤ z.2.2 q) (hsh : sh ≤ 31) :
    ∃ w, gf_Whole_shiftUp F z u p p1 (Int32.ofNat sh) = some w ∧ w.2 = u.2 ∧ (∀ a k, ¬ (a = q ∧ k ≤ na) → w.1 a k = u.1 a k) ∧ (∀ k, k ≤ na → 0 ≤ (w.1 q k).toInt) ∧ wv w q (na + 1) = va.natAbs * 2 ^ sh := by
  have hna := ha.1
  have hp2 : (2 : Nat) ^ sh ≤ 2147483648 := by
    have : (2 : Nat) ^ sh ≤ 2 ^ 31 := Nat.pow_le_pow_right (by decide) hsh
    exact this
  have hp0 : 0 < (2 : Nat) ^ sh := Nat.two_pow_pos sh
  have main := gl_up (σ := gw_St × Int64) (N := na) (L := fun f t i => gf_Whole_shiftUp_L5 F z f t.1 p p1 (Int32.ofNat sh) t.2 (Int32.ofNat i))
    (I := fun i t => t.1.2 = u.2 ∧ (∀ a k, ¬ (a = q ∧ k < i) → t.1.1 a k = u.1 a k) ∧ (∀ k, k < i → 0 ≤ (t.1.1 q k).toInt) ∧ 0 ≤ t.2.toInt ∧ t.2.toInt < ((2 ^ sh : Nat) : Int) ∧ wv t.1 q i + t.2.toInt.toNat * 2147483648 ^ i = wv u q1 i * 2 ^ sh)
    (R := fun r => ∃ w, r = some w ∧ w.2 = u.2 ∧ (∀ a k, ¬ (a = q ∧ k ≤ na) → w.1 a k = u.1 a k) ∧ (∀ k, k ≤ na → 0 ≤ (w.1 q k).toInt) ∧ wv w q (na + 1) = va.natAbs * 2 ^ sh)
    (fun f t i hI hi => by
      obtain ⟨w, c⟩ := t
      obtain ⟨b1, b2, b3, b4, b5, b6⟩ := hI
      dsimp only at b1 b2 b3 b4 b5 b6 ⊢
      have hw1 : w.1 p1 1 = Int32.ofNat na := (b2 p1 1 (by omega)).trans ha.2.1
      have hrw : w.2.2 p 0 = q + 1 := by rw [b1]; exact hr
      have hrw1 : w.2.2 p1 0 = q1 + 1 := by rw [b1]; exact hr1
      have hl : (w.1 q1 i).toInt64.toInt = (lm u q1 i : Int) := by rw [n32_to64, b2 q1 i (by omega), lm_eq (ha.2.2.1 i hi)]
      have hll := lm_lt u q1 i
      have hmul : lm u q1 i * 2 ^ sh ≤ 2147483647 * 2147483648 := Nat.mul_le_mul (by omega) hp2
      have e2 : ((2 : Int) ^ sh) = ((2 ^ sh : Nat) : Int) := by norm_cast
      have hsl : ((w.1 q1 i).toInt64 <<< ((Int32.ofNat sh).toInt64 &&& 63)).toInt = ((lm u q1 i * 2 ^ sh : Nat) : Int) := by
        rw [n64_shl (by omega) (by omega) (by rw [hl, e2]; have := Int.natCast_mul (lm u q1 i) (2 ^ sh); omega), hl, e2]
        exact (Int.natCast_mul _ _).symm
      obtain ⟨T, hT⟩ : ∃ T, T = ((w.1 q1 i).toInt64 <<< ((Int32.ofNat sh).toInt64 &&& 63)) ||| c := ⟨_, rfl⟩
      have hTv : T.toInt = ((lm u q1 i * 2 ^ sh + c.toInt.toNat : Nat) : Int) := by
        rw [hT, n64_or (k := sh) (c := (lm u q1 i : Int)) b4 (by rw [e2]; exact b5) (by omega) (by rw [hsl, e2]; exact Int.natCast_mul _ _), hsl]
        omega
      have hd := n64_dig (t := T)
      have hs := n64_shr (t := T)
      refine ⟨(gw_wi w q i ((T &&& (2147483647 : Int64)).toInt32), T >>> (((31 : Int32)).toInt64 &&& 63)), ⟨b1, fun a k h => ?_, fun k hk => ?_, ?_, ?_, ?_⟩, ?_⟩
      · simp only [gw_wi]
        rw [if_neg (by omega)]
        exact b2 a k (by omega)
      · simp only [gw_wi, true_and]
        split
        · rw [hd]; omega
        · exact b3 k (by omega)
      · dsimp only; rw [hs]; omega
      · dsimp only
        rw [hs, hTv]
        have : lm u q1 i * 2 ^ sh ≤ 2147483647 * 2 ^ sh := Nat.mul_le_mul_right _ (by omega)
        have h5 : (c.toInt.toNat : Int) < ((2 ^ sh : Nat) : Int) := by omega
        generalize (2 : Nat) ^ sh = P at *
        omega
      · dsimp only
        have e0 : wv (gw_wi w q i ((T &&& (2147483647 : Int64)).toInt32)) q i = wv w q i := wv_congr (fun k hk => by simp only [gw_wi]; rw [if_neg (by omega)])
        have e3 : ((T &&& (2147483647 : Int64)).toInt32).toInt.toNat + (T >>> (((31 : Int32)).toInt64 &&& 63)).toInt.toNat * 2147483648 = lm u q1 i * 2 ^ sh + c.toInt.toNat := by
          rw [hd, hs]; omega
        rw [wv_S, wv_S, e0, lm_set, if_pos rfl, Nat.add_mul, ← b6]
        generalize ((T &&& (2147483647 : Int64)).toInt32).toInt.toNat = d at e3
        generalize (T >>> (((31 : Int32)).toInt64 &&& 63)).toInt.toNat = c' at e3
        have e5 := congrArg (· * 2147483648 ^ i) e3
        simp only [Nat.add_mul] at e5
        rw [Nat.pow_succ, Nat.mul_comm (2147483648 ^ i), ← Nat.mul_assoc, Nat.mul_right_comm (lm u q1 i)]
        omega
      · show gf_Whole_shiftUp_S5 F z _ w p p1 (Int32.ofNat sh) c (Int32.ofNat i) = _
        unfold gf_Whole_shiftUp_S5
        rw [hw1, if_neg (fun e => by have := (gi_le (by omega) (by omega)).mp e; omega), hrw1, hrw]
        simp only [gf_nn, gf_nm]
        rw [if_neg (gi_ix (by omega) (by omega)), if_neg (gi_ix (by omega) (by omega)), i32_clamp (by omega), ← hT, gw_iS])
    (fun f t hI => by
      obtain ⟨w, c⟩ := t
      obtain ⟨b1, b2, b3, b4, b5, b6⟩ := hI
      dsimp only at b1 b2 b3 b4 b5 b6 ⊢
      have hw1 : w.1 p1 1 = Int32.ofNat na := (b2 p1 1 (by omega)).trans ha.2.1
      have hrw : w.2.2 p 0 = q + 1 := by rw [b1]; exact hr
      have hcl : c.toInt < 2147483648 := by omega
      have hc32 : c.toInt32.toInt = c.toInt := by
        by_cases e : c.toInt = 2147483648
        · omega
        · exact n64_to32 (by omega) (by omega)
      refine ⟨gw_wi w q na c.toInt32, ?_, b1, fun a k h => ?_, fun k hk => ?_, ?_⟩
      · show gf_Whole_shiftUp_S5 F z _ w p p1 (Int32.ofNat sh) c (Int32.ofNat na) = _
        unfold gf_Whole_shiftUp_S5
        rw [hw1, if_pos ((gi_le (by omega) (by omega)).mpr (Nat.le_refl _)), hrw]
        simp only [gf_nn, gf_nm]
        rw [if_neg (gi_ix (by omega) (by omega)), i32_clamp (by omega)]
      · simp only [gw_wi]
        rw [if_neg (by omega)]
        exact b2 a k (by omega)
      · simp only [gw_wi, true_and]
        split
        · omega
        · exact b3 k (by omega)
      · have e0 : wv (gw_wi w q na c.toInt32) q na = wv w q na := wv_congr (fun k hk => by simp only [gw_wi]; rw [if_neg (by omega)])
        rw [wv_S, e0, lm_set, if_pos rfl, hc32, b6, ha.abs])
  have hb0 : gf_Whole_shiftUp F z u p p1 (Int32.ofNat sh) = gf_Whole_shiftUp_L5 F z F u p p1 (Int32.ofNat sh) 0 (Int32.ofNat 0) := rfl
  rw [hb0]
  exact main na 0 (u, 0) F (by omega) ⟨rfl, fun _ _ _ => rfl, fun k hk => absurd hk (Nat.not_lt_zero k), show 0 ≤ (0 : Int64).toInt by decide, by
    have e0 : (0 : Int64).toInt = 0 := rfl
    dsimp only
    rw [e0]; omega, by
    have e0 : (0 : Int64).toInt.toNat = 0 := rfl
    dsimp only
    rw [e0, show wv u q 0 = 0 from rfl, show wv u q1 0 = 0 from rfl]; simp⟩ (by omega)
