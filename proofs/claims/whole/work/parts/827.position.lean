theorem gnn {β : Type} (q : Nat) (f : Nat → Option β) : gf_nn (q + 1) f = f q := rfl
theorem gv_r670_27 : gv_u.2.2 670 27 = 681 := by decide +kernel
/-- what a call of the reference may change besides its wide numbers -/
def Mf (u w : gw_St) : Prop := w.2.2 = u.2.2 ∧ (∀ p k, p ≠ 700 → w.2.1 p k = u.2.1 p k) ∧ (∀ p k, p ≠ 689 → p ≠ 690 → ¬ (p = 670 ∧ k = 0) → w.1 p k = u.1 p k)
theorem Zf.ints {S : Nat → Prop} {u w : gw_St} (h : Zf S u w) (p k : Nat) : w.1 p k = u.1 p k := by rw [h.1]
theorem Iw.zf {S : Nat → Prop} {u w : gw_St} {t a v : Nat} (h : Iw u t a v) (f : Zf S u w) : Iw w t a v := by
  unfold Iw
  rw [f.1]
  exact h
theorem gm_pos2 {F : Nat} (hF : 20000 ≤ F) {w : gw_St} {k d r B : Nat} (hr : gv_Rf w) (hk : k < 12) (hd : w.1 680 k = Int32.ofNat d) (hd1 : d ≤ 100000) (h0 : Zw w 0 r) (h1 : Zw w 1 B) (h3 : Zw w 3 1) (hB : 0 < B) (hrB : r < B) (hX : r * d < 65536 ^ 256) :
    ∃ w2, gf_Model_position_b186 F gv_z w 670 (Int32.ofNat k) = some (if 2 ^ 256 ≤ (r * d % B) / Nat.gcd (r * d % B) B ∨ 2 ^ 256 ≤ B / Nat.gcd (r * d % B) B then 0 else Int32.ofNat (r * d / B), w2) ∧ Mf w w2 ∧ (if 2 ^ 256 ≤ (r * d % B) / Nat.gcd (r * d % B) B ∨ 2 ^ 256 ≤ B / Nat.gcd (r * d % B) B then w2.1 670 0 = 4 ∧ (∀ p k, ¬ (p = 670 ∧ k = 0) → w2.1 p k = w.1 p k) else w2.1 670 0 = w.1 670 0 ∧ Iw w2 689 0 ((r * d % B) / Nat.gcd (r * d % B) B) ∧ Iw w2 690 0 (B / Nat.gcd (r * d % B) B)) := by
  have hQ : r * d / B < 100001 := by
    rw [Nat.div_lt_iff_lt_mul hB]
    have : r * d ≤ B * 100000 := Nat.mul_le_mul (by omega) hd1
    omega
  obtain ⟨w1, a1, a2, a3⟩ := gz_times (F := F) (by omega) (u := w) (a := 0) (m := d) (y := (Int32.ofNat d).toInt64) hr (by omega) h0 (by rw [n32_to64, i32_nat (by omega)]) (by omega) (hX)
  have r1 := hr.zf a2
  obtain ⟨w2, b1, b2, b3⟩ := gz_set (F := F) (by omega) (u := w1) (a := 2) (v := 0) (y := 0) r1 (by omega) rfl
  have r2 := r1.zf b2
  obtain ⟨w3, c1, c2, c3, c4⟩ := gz_divide (F := F) hF (u := w2) (a := 0) (b := 1) (c := 2) (d := 3) (vd := 1) (vc := 0) r2 (by omega) (by omega) (by omega) (by omega) (by omega) (a3.zf b2 (by omega)) ((h1.zf a2 (by omega)).zf b2 (by omega)) b3 ((h3.zf a2 (by omega)).zf b2 (by omega)) hB (by rw [Nat.one_mul]; exact hX) (by rw [Nat.one_mul, Nat.zero_add]; exact Nat.lt_of_le_of_lt (Nat.div_le_self _ _) (hX))
  rw [Nat.one_mul, Nat.zero_add] at c4
  have r3 := r2.zf c2
  have hg : 0 < Nat.gcd (r * d % B) B := Nat.gcd_pos_of_pos_right _ hB
  obtain ⟨w4, d1, d2, d3, d4⟩ := gz_lowest (F := F) hF (u := w3) (a := 0) (b := 1) (by omega) (by omega) (by omega) r3 c3 (((h1.zf a2 (by omega)).zf b2 (by omega)).zf c2 (by omega)) hg
  have r4 := r3.zf d2
  have f4 : Zf (fun _ => True) w w4 := (((a2.mono (fun _ _ => trivial)).trans (b2.mono (fun _ _ => trivial))).trans (c2.mono (fun _ _ => trivial))).trans (d2.mono (fun _ _ => trivial))
  have z2 : Zw w4 2 (r * d / B) := c4.zf d2 (by omega)
  have hpre : gf_Model_position_b186 F gv_z w 670 (Int32.ofNat k) = gf_cl (gf_Model_isLarge F gv_z w4 670 (0 : Int32)) fun a17 u15 => if a17 = 0 then (gf_cl (gf_Model_isLarge F gv_z u15 670 (1 : Int32)) fun a21 u19 => if a21 = 0 then ((gf_Model_tell F gv_z u19 670 (0 : Int32) (1 : Int32)).bind fun u23 => gf_nn (u23.2.2 670 48) fun q25 => if ((512 : Int32) < 0 ∨ gv_z.2.2 q25 ≤ ((512 : Int32)).toNatClampNeg) then none else gf_nn (u23.2.2 670 48) fun q28 => if ((513 : Int32) < 0 ∨ gv_z.2.2 q28 ≤ ((513 : Int32)).toNatClampNeg) then none else some (((((u23.2.1 q25 ((512 : Int32)).toNatClampNeg) + ((65536 : Int64) * (u23.2.1 q28 ((513 : Int32)).toNatClampNeg)))).toInt32), u23)) else (gf_Model_position_b234 F gv_z u19 670)) else (gf_Model_position_b234 F gv_z u15 670) := by
    unfold gf_Model_position_b186
    rw [hr.get rfl gv_r670_27]
    simp only [gf_nn]
    rw [if_neg (gi_ix (by rw [gv_l680]; omega) (by omega)), i32_clamp (by omega), hd, show gf_Model_timesSmall F gv_z w 670 0 (Int32.ofNat d).toInt64 = some w1 from a1]
    show (gf_Model_setWide F gv_z w1 670 2 0).bind _ = _
    rw [show gf_Model_setWide F gv_z w1 670 2 0 = some w2 from b1]
    show (gf_Model_divide F gv_z w2 670 0 1 2 3).bind _ = _
    rw [show gf_Model_divide F gv_z w2 670 0 1 2 3 = some w3 from c1]
    show (gf_Model_lowest F gv_z w3 670 0 1).bind _ = _
    rw [show gf_Model_lowest F gv_z w3 670 0 1 = some w4 from d1]
    rfl
  rw [hpre, show gf_Model_isLarge F gv_z w4 670 0 = _ from gz_large (F := F) (by omega) (u := w4) (a := 0) r4 (by omega) d3]
  simp only [gf_cl]
  have fail : ∃ w2, gf_Model_position_b234 F gv_z w4 670 = some (0, w2) ∧ Mf w w2 ∧ w2.1 670 0 = 4 ∧ (∀ p k, ¬ (p = 670 ∧ k = 0) → w2.1 p k = w.1 p k) := by
    refine ⟨gw_wi w4 670 0 4, rfl, ⟨f4.2.1, f4.2.2.1, fun p q h1 h2 h3 => ?_⟩, rfl, fun p q h => ?_⟩
    · simp only [gw_wi]
      rw [if_neg (by omega), f4.1]
    · simp only [gw_wi]
      rw [if_neg (by omega), f4.1]
  by_cases l0 : 2 ^ 256 ≤ (r * d % B) / Nat.gcd (r * d % B) B
  · rw [if_pos l0, if_neg (by decide)]
    obtain ⟨w5, e1, e2, e3⟩ := fail
    exact ⟨w5, by rw [e1, if_pos (Or.inl l0)], e2, by rw [if_pos (Or.inl l0)]; exact e3⟩
  · rw [if_neg l0, if_pos rfl, show gf_Model_isLarge F gv_z w4 670 1 = _ from gz_large (F := F) (by omega) (u := w4) (a := 1) r4 (by omega) d4]
    dsimp only
    by_cases l1 : 2 ^ 256 ≤ B / Nat.gcd (r * d % B) B
    · rw [if_pos l1, if_neg (by decide)]
      obtain ⟨w5, e1, e2, e3⟩ := fail
      exact ⟨w5, by rw [e1, if_pos (Or.inr l1)], e2, by rw [if_pos (Or.inr l1)]; exact e3⟩
    · rw [if_neg l1, if_pos rfl]
      obtain ⟨w5, t1, t2, t3, t4, t5⟩ := gz_tell (F := F) (by omega) (u := w4) (a := 0) (b := 1) r4 (by omega) (by omega) d3 d4 (by omega) (by omega)
      have r5 : gv_Rf w5 := r4.eq (by rw [t2])
      have hno : ¬ (2 ^ 256 ≤ (r * d % B) / Nat.gcd (r * d % B) B ∨ 2 ^ 256 ≤ B / Nat.gcd (r * d % B) B) := fun q => q.elim l0 l1
      refine ⟨w5, ?_, ⟨by rw [t2]; exact f4.2.1, fun p q h => by rw [t2]; exact f4.2.2.1 p q h, fun p q h1 h2 h3 => by rw [t3 p q h1 h2, f4.1]⟩, ?_⟩
      · rw [show gf_Model_tell F gv_z w4 670 0 1 = some w5 from t1]
        show gf_nn (w5.2.2 670 48) _ = _
        rw [r5.get rfl gv_r670_48]
        rw [gnn, gnn]
        rw [if_neg (show ¬ ((512 : Int32) < 0 ∨ gv_z.2.2 700 ≤ (512 : Int32).toNatClampNeg) from gi_ix (k := 512) (by rw [gv_l700]; omega) (by omega)), if_neg (show ¬ ((513 : Int32) < 0 ∨ gv_z.2.2 700 ≤ (513 : Int32).toNatClampNeg) from gi_ix (k := 513) (by rw [gv_l700]; omega) (by omega)), if_neg hno, show (512 : Int32).toNatClampNeg = 512 from i32_clamp (n := 512) (by omega), show (513 : Int32).toNatClampNeg = 513 from i32_clamp (n := 513) (by omega)]
        congr 2
        have y0 : (w5.2.1 700 512).toInt = zi w4 2 0 := by rw [t2]; rfl
        have y1 : (w5.2.1 700 513).toInt = zi w4 2 1 := by rw [t2]; rfl
        have d0 := z2.1 0 (by omega)
        have d1' := z2.1 1 (by omega)
        have e65 : (65536 : Int64).toInt = 65536 := rfl
        have m1 : ((65536 : Int64) * w5.2.1 700 513).toInt = 65536 * zi w4 2 1 := by rw [n64_mul (by rw [y1, e65]; omega) (by rw [y1, e65]; omega), y1, e65]
        have m2 : (w5.2.1 700 512 + (65536 : Int64) * w5.2.1 700 513).toInt = ((r * d / B : Nat) : Int) := by
          rw [n64_add (by rw [y0, m1]; omega) (by rw [y0, m1]; omega), y0, m1]
          have hb := z2.bv
          have g0 := bv_dig (B := 65536) (by decide) (f := fun i => (zi w4 2 i).toNat) (n := 256) (k := 0) (fun i hi => by have := z2.1 i hi; omega) (by omega)
          have g1 := bv_dig (B := 65536) (by decide) (f := fun i => (zi w4 2 i).toNat) (n := 256) (k := 1) (fun i hi => by have := z2.1 i hi; omega) (by omega)
          rw [hb] at g0 g1
          rw [Nat.pow_zero, Nat.div_one] at g0
          rw [Nat.pow_one] at g1
          generalize r * d / B = Q at *
          omega
        exact n64_tr m2
      · rw [if_neg hno]
        refine ⟨?_, t4, t5⟩
        rw [t3 670 0 (by omega) (by omega), f4.1]
theorem gm_position {F : Nat} (hF : 20000 ≤ F) {w : gw_St} {k g d : Nat} {a b : Int} {x y : Int32} (hr : gv_Rf w) (hk : k < 12) (hg : g < 60) (hdg : w.1 679 k = Int32.ofNat g) (hd : w.1 680 k = Int32.ofNat d) (hd1 : d ≤ 100000) (hs : w.1 681 g ≠ 0) (hy : 0 < y.toInt) (hb0 : 0 < b) (hsg : (w.1 682 g).toInt = a.sign) (ha : Iw w 683 g a.natAbs) (hb : Iw w 684 g b.natAbs) {r B : Nat} (hB : B = (b * y.toInt).toNat) (hre : r = ((a * x.toInt) % (b * y.toInt)).toNat) :
    ∃ w2, gf_Model_position F gv_z w 670 (Int32.ofNat k) x y = some (if 2 ^ 256 ≤ (r * d % B) / Nat.gcd (r * d % B) B ∨ 2 ^ 256 ≤ B / Nat.gcd (r * d % B) B then 0 else Int32.ofNat (r * d / B), w2) ∧ Mf w w2 ∧ (if 2 ^ 256 ≤ (r * d % B) / Nat.gcd (r * d % B) B ∨ 2 ^ 256 ≤ B / Nat.gcd (r * d % B) B then w2.1 670 0 = 4 ∧ (∀ p k, ¬ (p = 670 ∧ k = 0) → w2.1 p k = w.1 p k) else w2.1 670 0 = 0 ∧ Iw w2 689 0 ((r * d % B) / Nat.gcd (r * d % B) B) ∧ Iw w2 690 0 (B / Nat.gcd (r * d % B) B)) := by
  have x1 := n32_lo x
  have x2 := n32_hi x
  have y2 := n32_hi y
  have e0 : (0 : Int32).toInt = 0 := rfl
  obtain ⟨v, hv⟩ : ∃ v, v = gw_wi w 670 0 0 := ⟨_, rfl⟩
  have rv : gv_Rf v := by rw [hv]; exact hr.eq rfl
  have vi : ∀ p q, ¬ (p = 670 ∧ q = 0) → v.1 p q = w.1 p q := fun p q h => by
    rw [hv]
    simp only [gw_wi]
    rw [if_neg h]
  have hav : Iw v 683 g a.natAbs := by
    rw [hv]
    exact ha
  have hbv : Iw v 684 g b.natAbs := by
    rw [hv]
    exact hb
  obtain ⟨w1, a1, a2, a3⟩ := gz_load (F := F) (by omega) (u := v) (t := 683) (a := 0) (j := g) rv (by omega) hg (by rw [gv_l683]; omega) hav
  have r1 := rv.zf a2
  obtain ⟨w2, b1, b2, b3⟩ := gz_load (F := F) (by omega) (u := w1) (t := 684) (a := 1) (j := g) r1 (by omega) hg (by rw [gv_l684]; omega) (hbv.zf a2)
  have r2 := r1.zf b2
  have hAl := ha.lt
  have hBl := hb.lt
  have m1 : a.natAbs * x.toInt.natAbs < 2 ^ 300 := by
    have h1 : a.natAbs * x.toInt.natAbs ≤ 2 ^ 256 * 2147483648 := Nat.mul_le_mul (by omega) (by omega)
    have h2 : (2 : Nat) ^ 256 * 2147483648 < 2 ^ 300 := by decide
    omega
  have m2 : b.natAbs * y.toInt.natAbs < 2 ^ 300 := by
    have h1 : b.natAbs * y.toInt.natAbs ≤ 2 ^ 256 * 2147483648 := Nat.mul_le_mul (by omega) (by omega)
    have h2 : (2 : Nat) ^ 256 * 2147483648 < 2 ^ 300 := by decide
    omega
  have up : (2 : Nat) ^ 300 ≤ 2 ^ 400 := Nat.pow_le_pow_right (by decide) (by omega)
  obtain ⟨Y, hY⟩ : ∃ Y : Int64, Y = if 0 ≤ x then x.toInt64 else -x.toInt64 := ⟨_, rfl⟩
  have hYv : Y.toInt = (x.toInt.natAbs : Int) := by
    rw [hY]
    by_cases c : 0 ≤ x
    · have := i32_le.mp c
      rw [if_pos c, n32_to64]; omega
    · have : ¬ (0 : Int32).toInt ≤ x.toInt := fun q => c (i32_le.mpr q)
      rw [if_neg c, Int64.toInt_neg, n32_to64, Int.bmod_eq_of_le (by omega) (by omega)]; omega
  obtain ⟨w3, c1, c2, c3⟩ := gz_times (F := F) (by omega) (u := w2) (a := 0) (m := x.toInt.natAbs) (y := Y) r2 (by omega) (a3.zf b2 (by omega)) hYv (by omega) (big300 (by omega))
  have r3 := r2.zf c2
  obtain ⟨w4, d1, d2, d3⟩ := gz_times (F := F) (by omega) (u := w3) (a := 1) (m := y.toInt.natAbs) (y := y.toInt64) r3 (by omega) (b3.zf c2 (by omega)) (by rw [n32_to64]; omega) (by omega) (big300 (by omega))
  have r4 := r3.zf d2
  obtain ⟨w5, f1, f2, f3⟩ := gz_set (F := F) (by omega) (u := w4) (a := 2) (v := 0) (y := 0) r4 (by omega) rfl
  have r5 := r4.zf f2
  obtain ⟨w6, g1, g2, g3⟩ := gz_set (F := F) (by omega) (u := w5) (a := 3) (v := 1) (y := 1) r5 (by omega) rfl
  have r6 := r5.zf g2
  have hBB : B = b.natAbs * y.toInt.natAbs := by
    rw [hB]
    have : b * y.toInt = ((b.natAbs * y.toInt.natAbs : Nat) : Int) := by
      rw [Int.natCast_mul]
      congr 1 <;> omega
    rw [this]; rfl
  have hB0 : 0 < B := by rw [hBB]; exact Nat.mul_pos (by omega) (by omega)
  rw [← hBB] at d3 m2
  obtain ⟨N, hN⟩ : ∃ N, N = a.natAbs * x.toInt.natAbs := ⟨_, rfl⟩
  rw [← hN] at c3 m1
  obtain ⟨w7, h1, h2, h3, h4⟩ := gz_divide (F := F) hF (u := w6) (a := 0) (b := 1) (c := 2) (d := 3) (vd := 1) (vc := 0) r6 (by omega) (by omega) (by omega) (by omega) (by omega) (((c3.zf d2 (by omega)).zf f2 (by omega)).zf g2 (by omega)) ((d3.zf f2 (by omega)).zf g2 (by omega)) (f3.zf g2 (by omega)) g3 hB0 (by rw [Nat.one_mul]; exact big300 (by omega)) (by rw [Nat.one_mul, Nat.zero_add]; exact Nat.lt_of_le_of_lt (Nat.div_le_self _ _) (big300 (by omega)))
  have r7 := r6.zf h2
  have F7 : Zf (fun _ => True) v w7 := ((((((a2.mono (fun _ _ => trivial)).trans (b2.mono (fun _ _ => trivial))).trans (c2.mono (fun _ _ => trivial))).trans (d2.mono (fun _ _ => trivial))).trans (f2.mono (fun _ _ => trivial))).trans (g2.mono (fun _ _ => trivial))).trans (h2.mono (fun _ _ => trivial))
  have z1 : Zw w7 1 B := ((d3.zf f2 (by omega)).zf g2 (by omega)).zf h2 (by omega)
  have z3 : Zw w7 3 1 := g3.zf h2 (by omega)
  have i7 : ∀ p q, ¬ (p = 670 ∧ q = 0) → w7.1 p q = w.1 p q := fun p q h => by rw [F7.1, vi p q h]
  have t7 : w7.1 670 0 = 0 := by rw [F7.1, hv]; rfl
  have hem := emod_sg (a := a) (x := x.toInt) (b := b) (y := y.toInt) hb0 hy
  rw [← hre, ← hN, ← hBB] at hem
  have hrB : r < B := by
    have q1 := Nat.mod_lt N hB0
    rw [hem]
    split <;> omega
  have hX : r * d < 65536 ^ 256 := by
    have h1 : r * d ≤ B * 100000 := Nat.mul_le_mul (Nat.le_of_lt hrB) hd1
    have h2 : B * 100000 < 2 ^ 300 * 100000 := Nat.mul_lt_mul_of_pos_right m2 (by decide)
    have h3 : 2 ^ 300 * 100000 ≤ 2 ^ 300 * 2 ^ 100 := Nat.mul_le_mul_left _ (by decide)
    have h4 : (2 : Nat) ^ 300 * 2 ^ 100 = 2 ^ 400 := (Nat.pow_add 2 300 100).symm
    exact big300 (Nat.lt_of_le_of_lt h1 (Nat.lt_of_lt_of_le h2 (Nat.le_trans h3 (Nat.le_of_eq h4))))
  -- behind the sign: what is left to do at a state with the rest r
  have fin : ∀ w8 : gw_St, Zf (fun _ => True) v w8 → Zw w8 0 r → Zw w8 1 B → Zw w8 3 1 → ∃ w2, gf_Model_position_b186 F gv_z w8 670 (Int32.ofNat k) = some (if 2 ^ 256 ≤ (r * d % B) / Nat.gcd (r * d % B) B ∨ 2 ^ 256 ≤ B / Nat.gcd (r * d % B) B then 0 else Int32.ofNat (r * d / B), w2) ∧ Mf w w2 ∧ (if 2 ^ 256 ≤ (r * d % B) / Nat.gcd (r * d % B) B ∨ 2 ^ 256 ≤ B / Nat.gcd (r * d % B) B then w2.1 670 0 = 4 ∧ (∀ p k, ¬ (p = 670 ∧ k = 0) → w2.1 p k = w.1 p k) else w2.1 670 0 = 0 ∧ Iw w2 689 0 ((r * d % B) / Nat.gcd (r * d % B) B) ∧ Iw w2 690 0 (B / Nat.gcd (r * d % B) B)) := by
    intro w8 F8 q0 q1 q3
    have i8 : ∀ p q, ¬ (p = 670 ∧ q = 0) → w8.1 p q = w.1 p q := fun p q h => by rw [F8.1, vi p q h]
    obtain ⟨w9, s1, s2, s3⟩ := gm_pos2 (F := F) hF (w := w8) (k := k) (d := d) (r := r) (B := B) (rv.zf F8) hk (by rw [i8 680 k (by omega)]; exact hd) hd1 q0 q1 q3 hB0 hrB hX
    refine ⟨w9, s1, ⟨by rw [s2.1, F8.2.1, hv]; rfl, fun p q h => by rw [s2.2.1 p q h, F8.2.2.1 p q h, hv]; rfl, fun p q h1 h2 h3 => by rw [s2.2.2 p q h1 h2 h3, i8 p q h3]⟩, ?_⟩
    by_cases c : 2 ^ 256 ≤ (r * d % B) / Nat.gcd (r * d % B) B ∨ 2 ^ 256 ≤ B / Nat.gcd (r * d % B) B
    · rw [if_pos c] at s3 ⊢
      exact ⟨s3.1, fun p q h => by rw [s3.2 p q h, i8 p q h]⟩
    · rw [if_neg c] at s3 ⊢
      refine ⟨?_, s3.2⟩
      rw [s3.1, F8.1, hv]
      rfl
  have hpre : gf_Model_position F gv_z w 670 (Int32.ofNat k) x y = gf_Model_position_b152 F gv_z w7 670 (Int32.ofNat k) (if (a < 0) ≠ (x.toInt < 0) then 1 else 0) := by
    show gf_Model_position_b0 F gv_z w 670 (Int32.ofNat k) x y = _
    unfold gf_Model_position_b0
    simp only [gf_nm]
    rw [← hv, gs_isDial rv, if_pos ⟨by rw [i32_nat (by omega)]; omega, by rw [i32_nat (by omega)]; omega, by rw [i32_clamp (by omega), vi 679 k (by omega), hdg]; exact gi_n0 (by omega)⟩]
    simp only [gf_cl]
    rw [if_neg (by decide), if_pos (show (1 : Int32) ≤ y from i32_le.mpr (by have : (1 : Int32).toInt = 1 := rfl; omega)), rv.get rfl gv_r670_26]
    simp only [gf_nn]
    rw [if_neg (gi_ix (by rw [gv_l679]; omega) (by omega)), i32_clamp (by omega), vi 679 k (by omega), hdg, rv.get rfl gv_r670_28]
    dsimp only
    rw [if_neg (gi_ix (by rw [gv_l681]; omega) (by omega)), i32_clamp (by omega), if_neg (by rw [vi 681 g (by omega)]; exact hs), rv.get rfl gv_r670_30]
    dsimp only
    rw [show gf_Model_load F gv_z v 670 0 683 (Int32.ofNat g) = some w1 from a1]
    show gf_nn (w1.2.2 670 31) _ = _
    rw [r1.get rfl gv_r670_31]
    simp only [gf_nn]
    rw [show gf_Model_load F gv_z w1 670 1 684 (Int32.ofNat g) = some w2 from b1]
    have hb90 : gf_Model_position_b90 F gv_z w2 670 (Int32.ofNat k) x y (Int32.ofNat g) 670 0 Y = gf_Model_position_b152 F gv_z w7 670 (Int32.ofNat k) (if (a < 0) ≠ (x.toInt < 0) then 1 else 0) := by
      unfold gf_Model_position_b90
      rw [show gf_Model_timesSmall F gv_z w2 670 0 Y = some w3 from c1]
      show (gf_Model_timesSmall F gv_z w3 670 1 y.toInt64).bind _ = _
      rw [show gf_Model_timesSmall F gv_z w3 670 1 y.toInt64 = some w4 from d1]
      show (gf_Model_setWide F gv_z w4 670 2 0).bind _ = _
      rw [show gf_Model_setWide F gv_z w4 670 2 0 = some w5 from f1]
      show (gf_Model_setWide F gv_z w5 670 3 1).bind _ = _
      rw [show gf_Model_setWide F gv_z w5 670 3 1 = some w6 from g1]
      show (gf_Model_divide F gv_z w6 670 0 1 2 3).bind _ = _
      rw [show gf_Model_divide F gv_z w6 670 0 1 2 3 = some w7 from h1]
      show gf_nn (w7.2.2 670 29) _ = _
      rw [r7.get rfl gv_r670_29]
      simp only [gf_nn]
      rw [if_neg (gi_ix (by rw [gv_l682]; omega) (by omega)), i32_clamp (by omega), i7 682 g (by omega)]
      have sgl : (0 ≤ w.1 682 g) ↔ ¬ a < 0 := by
        rw [i32_le, hsg, e0]
        constructor
        · intro q c
          rw [Int.sign_eq_neg_one_of_neg c] at q
          omega
        · intro q
          rcases Int.lt_trichotomy a 0 with c | c | c
          · exact absurd c q
          · rw [c]; decide
          · rw [Int.sign_eq_one_of_pos c]; omega
      have sgx : (0 ≤ x) ↔ ¬ x.toInt < 0 := by
        rw [i32_le, e0]; omega
      unfold gf_Model_position_b135 gf_Model_position_b144
      by_cases ca : a < 0
      · rw [if_neg (fun q => sgl.mp q ca)]
        by_cases cx : x.toInt < 0
        · rw [if_neg (fun q => sgx.mp q cx), if_pos rfl, if_neg (by simp [ca, cx])]
        · rw [if_pos (sgx.mpr cx), if_neg (by decide), if_pos (by simp [ca, cx])]
      · rw [if_pos (sgl.mpr ca)]
        by_cases cx : x.toInt < 0
        · rw [if_neg (fun q => sgx.mp q cx), if_neg (by decide), if_pos (by simp [ca, cx])]
        · rw [if_pos (sgx.mpr cx), if_pos rfl, if_neg (by simp [ca, cx])]
    by_cases c : 0 ≤ x
    · show (if 0 ≤ x then gf_Model_position_b90 F gv_z w2 670 (Int32.ofNat k) x y (Int32.ofNat g) 670 0 x.toInt64 else _) = _
      rw [if_pos c]
      rw [if_pos c] at hY
      rw [← hY]
      exact hb90
    · show (if 0 ≤ x then _ else gf_Model_position_b90 F gv_z w2 670 (Int32.ofNat k) x y (Int32.ofNat g) 670 0 (-x.toInt64)) = _
      rw [if_neg c]
      rw [if_neg c] at hY
      rw [← hY]
      exact hb90
  rw [hpre]
  unfold gf_Model_position_b152
  by_cases cs : (a < 0) ≠ (x.toInt < 0)
  · rw [if_pos cs, if_neg (by decide)]
    obtain ⟨m, m1', m2', m3', m4', m5', m6', m7'⟩ := gz_size (F := F) (by omega) r7 (a := 0) (by omega) h3
    rw [show gf_Model_size F gv_z w7 670 0 = some (Int32.ofNat m, w7) from m2']
    simp only [gf_cl]
    by_cases cz : N % B = 0
    · have hm0 : m = 0 := by
        apply Nat.eq_zero_of_not_pos
        intro q
        have := m6' q
        have : 0 < 65536 ^ (m - 1) := Nat.pow_pos (by decide)
        omega
      rw [hm0, if_pos (by decide)]
      rw [if_neg (fun q => q.2 cz)] at hem
      exact fin w7 F7 (by rw [hem]; exact h3) z1 z3
    · have hm0 : m ≠ 0 := by
        intro q
        rw [q] at m5'
        simp at m5'
        exact cz m5'
      rw [if_neg (fun q => by have := (gi_le0 (by omega)).mp q; omega)]
      rw [if_pos ⟨cs, cz⟩] at hem
      obtain ⟨w8, s1, s2, s3⟩ := gz_copy (F := F) (by omega) (u := w7) (a := 2) (b := 1) r7 (by omega) (by omega) z1
      have r8 := r7.zf s2
      have q1 := Nat.mod_lt N hB0
      obtain ⟨w9, t1, t2, t3⟩ := gz_add (F := F) (by omega) (u := w8) (a := 2) (b := 0) (v := B - N % B) (x := 1) r8 (by omega) (by omega) (by omega) s3 (h3.zf s2 (by omega)) (Or.inr ⟨rfl, by omega⟩) (big300 (by omega))
      have r9 := r8.zf t2
      obtain ⟨w10, o1, o2, o3⟩ := gz_copy (F := F) (by omega) (u := w9) (a := 0) (b := 2) r9 (by omega) (by omega) t3
      rw [← hem] at o3
      rw [show gf_Model_copyWide F gv_z w7 670 2 1 = some w8 from s1]
      show ∃ w2, (gf_Model_addWide F gv_z w8 670 2 0 1).bind _ = some _ ∧ _
      rw [show gf_Model_addWide F gv_z w8 670 2 0 1 = some w9 from t1]
      show ∃ w2, (gf_Model_copyWide F gv_z w9 670 0 2).bind _ = some _ ∧ _
      rw [show gf_Model_copyWide F gv_z w9 670 0 2 = some w10 from o1]
      exact fin w10 (((F7.trans (s2.mono (fun _ _ => trivial))).trans (t2.mono (fun _ _ => trivial))).trans (o2.mono (fun _ _ => trivial))) o3 (((z1.zf s2 (by omega)).zf t2 (by omega)).zf o2 (by omega)) (((z3.zf s2 (by omega)).zf t2 (by omega)).zf o2 (by omega))
  · rw [if_neg cs, if_pos rfl]
    rw [if_neg (fun q => cs q.1)] at hem
    exact fin w7 F7 (by rw [hem]; exact h3) z1 z3
