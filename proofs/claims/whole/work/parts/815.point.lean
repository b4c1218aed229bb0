theorem gv_r45_0 : gv_u.2.2 45 0 = 10 := by decide +kernel
theorem gv_r45_1 : gv_u.2.2 45 1 = 47 := by decide +kernel
theorem gv_r45_2 : gv_u.2.2 45 2 = 52 := by decide +kernel
theorem gv_r45_3 : gv_u.2.2 45 3 = 54 := by decide +kernel
theorem gv_r45_4 : gv_u.2.2 45 4 = 56 := by decide +kernel
theorem gv_r46_0 : gv_u.2.2 46 0 = 48 := by decide +kernel
theorem gv_r46_1 : gv_u.2.2 46 1 = 50 := by decide +kernel
theorem gv_r47_0 : gv_u.2.2 47 0 = 49 := by decide +kernel
theorem gv_r49_0 : gv_u.2.2 49 0 = 51 := by decide +kernel
theorem gv_r51_0 : gv_u.2.2 51 0 = 53 := by decide +kernel
theorem gv_r53_0 : gv_u.2.2 53 0 = 55 := by decide +kernel
theorem gv_r55_0 : gv_u.2.2 55 0 = 57 := by decide +kernel
theorem gv_l48 : gv_z.2.2 48 = 48 := by decide +kernel
theorem gv_l50 : gv_z.2.2 50 = 48 := by decide +kernel
theorem gv_l52 : gv_z.2.2 52 = 48 := by decide +kernel
theorem gv_l54 : gv_z.2.2 54 = 48 := by decide +kernel
theorem gv_l56 : gv_z.2.2 56 = 48 := by decide +kernel
theorem gv_x46 {u : gw_St} (hr : gv_Rf u) : Fx u 46 := by
  have h1 : u.2.2 46 0 = 48 := hr.get rfl gv_r46_0
  have h2 : u.2.2 46 1 = 50 := hr.get rfl gv_r46_1
  have h3 : u.2.2 47 0 = 49 := hr.get rfl gv_r47_0
  have h4 : u.2.2 49 0 = 51 := hr.get rfl gv_r49_0
  exact ⟨h1, h2, h3, h4⟩
theorem int2 (x : Int32) : x.toInt.natAbs < 2147483648 ^ 2 := by
  have h1 := n32_lo x
  have h2 := n32_hi x
  have : (2147483648 : Nat) ^ 2 = 4611686018427387904 := by decide
  omega
theorem absmul {a b : Int} {j k : Nat} (ha : a.natAbs < 2147483648 ^ j) (hb : b.natAbs < 2147483648 ^ k) : (a * b).natAbs < 2147483648 ^ (j + k) := by
  rw [Int.natAbs_mul, Nat.pow_add]
  exact Nat.mul_lt_mul'' ha hb
/-- a speed's place: a fraction above the desk's own numbers -/
def Fs (u : gw_St) (p : Nat) (a b : Int) : Prop := 56 < p ∧ Fx u p ∧ Fr u p a b ∧ a.natAbs < 2147483648 ^ 9 ∧ b.natAbs < 2147483648 ^ 9 ∧ gv_z.2.2 (p + 2) = 9 ∧ gv_z.2.2 (p + 4) = 9
theorem Fs.wr {u w : gw_St} {p : Nat} {a b : Int} (h : Fs u p a b) (f : Wr 10 56 u w) : Fs w p a b := ⟨h.1, h.2.1.eq f.1, ⟨h.2.2.1.1.wr f (by have := h.1; omega) (by have := h.1; omega), h.2.2.1.2.wr f (by have := h.1; omega) (by have := h.1; omega)⟩, h.2.2.2⟩
theorem pw_mono {x j k : Nat} (h : x < 2147483648 ^ j) (hk : j ≤ k) : x < 2147483648 ^ k := Nat.lt_of_lt_of_le h (Nat.pow_le_pow_right (by decide) hk)
theorem gh_point2 {F : Nat} (hF : 20000 ≤ F) {u : gw_St} {x : Int32} {r B : Int} (hr : gv_Rf u) (hp : Wh u 53 54 r) (hb : Wh u 49 50 B) (hr0 : r.natAbs < 2147483648 ^ 11) (hB : B.natAbs < 2147483648 ^ 11) :
    ∃ w, gf_Hands_point_b119 F gv_z u 45 x = some (Int32.ofNat ((r * x.toInt).tdiv B).natAbs, w) ∧ Wr 10 56 u w ∧ Fr w 46 (((r * x.toInt).tmod B).tdiv (Int.gcd ((r * x.toInt).tmod B) B : Nat)) (B.tdiv (Int.gcd ((r * x.toInt).tmod B) B : Nat)) := by
  have h1 := n32_lo x
  have h2 := n32_hi x
  obtain ⟨w1, a1, a2, a3⟩ := gw_setLong (F := F) (by omega) (z := gv_z) (p := 51) (q := 52) (u := u) (y := x.toInt64) (by omega) (hr.get rfl gv_r51_0) (by rw [gv_l52]; omega) (by rw [n32_to64]; omega) (by rw [n32_to64]; omega)
  rw [n32_to64] at a3
  have f1 : Wr 10 56 u w1 := a2.wr (by omega) (by omega) (by omega) (by omega)
  have r1 := hr.wr f1
  obtain ⟨n1, c1, c1', d1⟩ := (hp.fr a2 (by omega) (by omega) (by omega) (by omega)).cap2 (c := 11) hr0 (by omega)
  obtain ⟨n2, c2, c2', d2⟩ := a3.cap2 (c := 2) (int2 x) (by omega)
  obtain ⟨w2, b1, b2, b3⟩ := gw_product (F := F) (by omega) (z := gv_z) (p := 47) (q := 48) (p1 := 53) (q1 := 54) (p2 := 51) (q2 := 52) (u := w1) (by omega) (by omega) (by omega) (by omega) (by omega) (by omega) (by omega) (by omega) (by omega) (r1.get rfl gv_r47_0) (r1.get rfl gv_r53_0) (r1.get rfl gv_r51_0) d1 d2 (by rw [gv_l54]; omega) (by rw [gv_l52]; omega) (by rw [gv_l48]; omega) (by rw [gv_l48]; omega)
  have f2 : Wr 10 56 u w2 := f1.trans (b2.wr (by omega) (by omega) (by omega) (by omega))
  have r2 := hr.wr f2
  have hX := absmul hr0 (int2 x)
  obtain ⟨n3, c3, c3', d3⟩ := b3.cap2 (c := 47) hX (by omega)
  have bot2 : Wh w2 49 50 B := (hb.fr a2 (by omega) (by omega) (by omega) (by omega)).fr b2 (by omega) (by omega) (by omega) (by omega)
  obtain ⟨n4, c4, c4', d4⟩ := bot2.cap2 (c := 47) hB (by omega)
  obtain ⟨w3, e1, e2, e3, e4⟩ := gw_divide (F := F) (by omega) r2 (p1 := 47) (q1 := 48) (p2 := 49) (q2 := 50) (by omega) (by omega) (by omega) (by omega) (r2.get rfl gv_r47_0) (r2.get rfl gv_r49_0) d3 d4 (by rw [gv_l48]; omega) (by rw [gv_l50]; omega) c3 c4
  have f3 : Wr 10 56 u w3 := f2.trans (e2.mono (by omega) (by omega))
  have r3 := hr.wr f3
  have hM : ((r * x.toInt).tmod B).natAbs < 2147483648 ^ 13 := by
    rw [Int.natAbs_tmod]
    exact Nat.lt_of_le_of_lt (Nat.mod_le _ _) hX
  obtain ⟨n5, c5, c5', d5⟩ := e4.cap2 (c := 47) hM (by omega)
  obtain ⟨w4, g1, g2, g3⟩ := gw_copyW (F := F) (z := gv_z) (p := 47) (q := 48) (p' := 12) (q' := 13) (u := w3) (by omega) (by omega) (by omega) (r3.get rfl gv_r47_0) (r3.get rfl gv_r12_0) d5 (by rw [gv_l13]; omega) (by rw [gv_l48]; omega)
  have f4 : Wr 10 56 u w4 := f3.trans (g2.wr (by omega) (by omega) (by omega) (by omega))
  have r4 := hr.wr f4
  have hQ : ((r * x.toInt).tdiv B).natAbs < 2147483648 ^ 13 := by
    rw [Int.natAbs_tdiv]
    exact Nat.lt_of_le_of_lt (Nat.div_le_self _ _) hX
  obtain ⟨n6, c6, c6', d6⟩ := (e3.fr g2 (by omega) (by omega) (by omega) (by omega)).cap2 (c := 47) hQ (by omega)
  have wd := gw_word (F := F) (z := gv_z) (u := w4) (i := 0) (r4.get rfl gv_r10_0) d6 (by rw [gv_l11]; omega) (by omega)
  have bot4 : Wh w4 49 50 B := (bot2.wr e2 (by omega) (by omega)).fr g2 (by omega) (by omega) (by omega) (by omega)
  obtain ⟨w5, k1, k2, k3⟩ := gw_reduce (F := F) hF (u := w4) (p := 46) (k := 13) r4 (by omega) (gv_x46 r4) ⟨⟨n5, g3⟩, bot4⟩ hM (pw_mono hB (by omega)) (by omega) (by rw [gv_l48]; omega) (by rw [gv_l50]; omega)
  have f5 : Wr 10 56 u w5 := f4.trans ⟨k2.1, fun a k h => k2.2 a (by unfold Sr; omega) k⟩
  refine ⟨w5, ?_, f5, k3⟩
  unfold gf_Hands_point_b119
  rw [hr.get rfl gv_r45_2]
  simp only [gf_nn]
  rw [a1]
  show gf_nn (w1.2.2 45 1) _ = _
  rw [r1.get rfl gv_r45_1]
  show gf_nn (w1.2.2 46 0) _ = _
  rw [r1.get rfl gv_r46_0]
  show gf_nn (w1.2.2 45 3) _ = _
  rw [r1.get rfl gv_r45_3]
  show gf_nn (w1.2.2 45 2) _ = _
  rw [r1.get rfl gv_r45_2]
  simp only [gf_nn]
  rw [b1]
  show gf_nn (w2.2.2 45 0) _ = _
  rw [r2.get rfl gv_r45_0]
  show gf_nn (w2.2.2 45 1) _ = _
  rw [r2.get rfl gv_r45_1]
  show gf_nn (w2.2.2 46 0) _ = _
  rw [r2.get rfl gv_r46_0]
  show gf_nn (w2.2.2 46 1) _ = _
  rw [r2.get rfl gv_r46_1]
  simp only [gf_nn]
  rw [e1]
  show gf_nn (w3.2.2 45 1) _ = _
  rw [r3.get rfl gv_r45_1]
  show gf_nn (w3.2.2 46 0) _ = _
  rw [r3.get rfl gv_r46_0]
  show gf_nn (w3.2.2 45 0) _ = _
  rw [r3.get rfl gv_r45_0]
  show gf_nn (w3.2.2 9 1) _ = _
  rw [r3.get rfl gv_r9_1]
  simp only [gf_nn]
  rw [g1]
  show gf_nn (w4.2.2 45 0) _ = _
  rw [r4.get rfl gv_r45_0]
  show gf_nn (w4.2.2 9 0) _ = _
  rw [r4.get rfl gv_r9_0]
  simp only [gf_nn]
  rw [show gf_Whole_word F gv_z w4 10 0 = _ from wd]
  simp only [gf_cl]
  show gf_nn (w4.2.2 45 0) _ = _
  rw [r4.get rfl gv_r45_0]
  show gf_nn (w4.2.2 45 1) _ = _
  rw [r4.get rfl gv_r45_1]
  simp only [gf_nn]
  rw [k1]
  show some (Int32.ofNat (((r * x.toInt).tdiv B).natAbs / 2 ^ (32 * 0)), w5) = _
  rw [Nat.mul_zero, Nat.pow_zero, Nat.div_one]
theorem gh_point {F : Nat} (hF : 20000 ≤ F) {u : gw_St} {p : Nat} {x y d : Int32} {a b : Int} (hr : gv_Rf u) (hs : Fs u p a b) (hb0 : 0 < b) (hy : 0 < y.toInt) :
    ∃ w, gf_Hands_point F gv_z u 45 p x y d = some (Int32.ofNat (((a * x.toInt) % (b * y.toInt) * d.toInt).tdiv (b * y.toInt)).natAbs, w) ∧ Wr 10 56 u w ∧ Fr w 46 ((((a * x.toInt) % (b * y.toInt) * d.toInt).tmod (b * y.toInt)).tdiv (Int.gcd (((a * x.toInt) % (b * y.toInt) * d.toInt).tmod (b * y.toInt)) (b * y.toInt) : Nat)) ((b * y.toInt).tdiv (Int.gcd (((a * x.toInt) % (b * y.toInt) * d.toInt).tmod (b * y.toInt)) (b * y.toInt) : Nat)) := by
  have hp := hs.1
  obtain ⟨B, hB⟩ : ∃ B, B = b * y.toInt := ⟨_, rfl⟩
  obtain ⟨N, hN⟩ : ∃ N, N = a * x.toInt := ⟨_, rfl⟩
  have hB0 : 0 < B := by rw [hB]; exact Int.mul_pos hb0 hy
  have hBl : B.natAbs < 2147483648 ^ 11 := by rw [hB]; exact absmul hs.2.2.2.2.1 (int2 y)
  have hNl : N.natAbs < 2147483648 ^ 11 := by rw [hN]; exact absmul hs.2.2.2.1 (int2 x)
  rw [← hB, ← hN]
  have y1 := n32_lo y
  have y2 := n32_hi y
  have x1 := n32_lo x
  have x2 := n32_hi x
  obtain ⟨w1, a1, a2, a3⟩ := gw_setLong (F := F) (by omega) (z := gv_z) (p := 51) (q := 52) (u := u) (y := y.toInt64) (by omega) (hr.get rfl gv_r51_0) (by rw [gv_l52]; omega) (by rw [n32_to64]; omega) (by rw [n32_to64]; omega)
  rw [n32_to64] at a3
  have f1 : Wr 10 56 u w1 := a2.wr (by omega) (by omega) (by omega) (by omega)
  have r1 := hr.wr f1
  have s1 := hs.wr f1
  obtain ⟨n1, c1, c1', d1⟩ := s1.2.2.1.2.cap2 (c := 9) hs.2.2.2.2.1 (by omega)
  obtain ⟨n2, c2, c2', d2⟩ := a3.cap2 (c := 2) (int2 y) (by omega)
  obtain ⟨w2, b1, b2, b3⟩ := gw_product (F := F) (by omega) (z := gv_z) (p := 49) (q := 50) (p1 := p + 3) (q1 := p + 4) (p2 := 51) (q2 := 52) (u := w1) (by omega) (by omega) (by omega) (by omega) (by omega) (by omega) (by omega) (by omega) (by omega) (r1.get rfl gv_r49_0) s1.2.1.2.2.2 (r1.get rfl gv_r51_0) d1 d2 (by rw [hs.2.2.2.2.2.2]; omega) (by rw [gv_l52]; omega) (by rw [gv_l50]; omega) (by rw [gv_l50]; omega)
  have f2 : Wr 10 56 u w2 := f1.trans (b2.wr (by omega) (by omega) (by omega) (by omega))
  have r2 := hr.wr f2
  rw [← hB] at b3
  obtain ⟨w3, e1, e2, e3⟩ := gw_setLong (F := F) (by omega) (z := gv_z) (p := 51) (q := 52) (u := w2) (y := x.toInt64) (by omega) (r2.get rfl gv_r51_0) (by rw [gv_l52]; omega) (by rw [n32_to64]; omega) (by rw [n32_to64]; omega)
  rw [n32_to64] at e3
  have f3 : Wr 10 56 u w3 := f2.trans (e2.wr (by omega) (by omega) (by omega) (by omega))
  have r3 := hr.wr f3
  have s3 := hs.wr f3
  obtain ⟨n3, c3, c3', d3⟩ := s3.2.2.1.1.cap2 (c := 9) hs.2.2.2.1 (by omega)
  obtain ⟨n4, c4, c4', d4⟩ := e3.cap2 (c := 2) (int2 x) (by omega)
  obtain ⟨w4, g1, g2, g3⟩ := gw_product (F := F) (by omega) (z := gv_z) (p := 53) (q := 54) (p1 := p + 1) (q1 := p + 2) (p2 := 51) (q2 := 52) (u := w3) (by omega) (by omega) (by omega) (by omega) (by omega) (by omega) (by omega) (by omega) (by omega) (r3.get rfl gv_r53_0) s3.2.1.2.2.1 (r3.get rfl gv_r51_0) d3 d4 (by rw [hs.2.2.2.2.2.1]; omega) (by rw [gv_l52]; omega) (by rw [gv_l54]; omega) (by rw [gv_l54]; omega)
  have f4 : Wr 10 56 u w4 := f3.trans (g2.wr (by omega) (by omega) (by omega) (by omega))
  have r4 := hr.wr f4
  rw [← hN] at g3
  have bot4 : Wh w4 49 50 B := (b3.fr e2 (by omega) (by omega) (by omega) (by omega)).fr g2 (by omega) (by omega) (by omega) (by omega)
  obtain ⟨n5, c5, c5', d5⟩ := g3.cap2 (c := 47) hNl (by omega)
  obtain ⟨n6, c6, c6', d6⟩ := bot4.cap2 (c := 47) hBl (by omega)
  obtain ⟨w5, h1, h2, h3, h4⟩ := gw_divide (F := F) (by omega) r4 (p1 := 53) (q1 := 54) (p2 := 49) (q2 := 50) (by omega) (by omega) (by omega) (by omega) (r4.get rfl gv_r53_0) (r4.get rfl gv_r49_0) d5 d6 (by rw [gv_l54]; omega) (by rw [gv_l50]; omega) c5 c6
  have f5 : Wr 10 56 u w5 := f4.trans (h2.mono (by omega) (by omega))
  have r5 := hr.wr f5
  have hM : (N.tmod B).natAbs < 2147483648 ^ 11 := by
    rw [Int.natAbs_tmod]
    exact Nat.lt_of_le_of_lt (Nat.mod_le _ _) hNl
  obtain ⟨n7, c7, c7', d7⟩ := h4.cap2 (c := 47) hM (by omega)
  obtain ⟨w6, k1, k2, k3⟩ := gw_copyW (F := F) (z := gv_z) (p := 53) (q := 54) (p' := 12) (q' := 13) (u := w5) (by omega) (by omega) (by omega) (r5.get rfl gv_r53_0) (r5.get rfl gv_r12_0) d7 (by rw [gv_l13]; omega) (by rw [gv_l54]; omega)
  have f6 : Wr 10 56 u w6 := f5.trans (k2.wr (by omega) (by omega) (by omega) (by omega))
  have r6 := hr.wr f6
  have bot6 : Wh w6 49 50 B := (bot4.wr h2 (by omega) (by omega)).fr k2 (by omega) (by omega) (by omega) (by omega)
  have htm : N.tmod B = N % B ∨ (N.tmod B < 0 ∧ N % B = B + N.tmod B) := by
    have e := Int.tmod_eq_emod (a := N) (b := B)
    have hpos := Int.emod_nonneg N (show B ≠ 0 by omega)
    have hlt := Int.emod_lt_of_pos N hB0
    have hBa : ((B.natAbs : Nat) : Int) = B := by omega
    split at e
    · left; omega
    · right
      omega
  have sgn := k3.sg
  have pre : gf_Hands_point F gv_z u 45 p x y d = if 0 ≤ (w6.1 53 2) then (gf_Hands_point_b119 F gv_z w6 45 d) else ((gf_Whole_setDifference F gv_z (gw_wi w6 53 2 1) 53 49 53).bind fun u109 => gf_Hands_point_b119 F gv_z u109 45 d) := by
    show gf_Hands_point_b0 F gv_z u 45 p x y d = _
    unfold gf_Hands_point_b0
    rw [hr.get rfl gv_r45_2]
    simp only [gf_nn]
    rw [a1]
    show gf_nn (w1.2.2 45 1) _ = _
    rw [r1.get rfl gv_r45_1]
    show gf_nn (w1.2.2 46 1) _ = _
    rw [r1.get rfl gv_r46_1]
    show gf_nn (w1.2.2 p 1) _ = _
    rw [s1.2.1.2.1]
    show gf_nn (w1.2.2 45 2) _ = _
    rw [r1.get rfl gv_r45_2]
    simp only [gf_nn]
    rw [b1]
    show gf_nn (w2.2.2 45 2) _ = _
    rw [r2.get rfl gv_r45_2]
    simp only [gf_nn]
    rw [e1]
    show gf_nn (w3.2.2 45 3) _ = _
    rw [r3.get rfl gv_r45_3]
    show gf_nn (w3.2.2 p 0) _ = _
    rw [s3.2.1.1]
    show gf_nn (w3.2.2 45 2) _ = _
    rw [r3.get rfl gv_r45_2]
    simp only [gf_nn]
    rw [g1]
    show gf_nn (w4.2.2 45 0) _ = _
    rw [r4.get rfl gv_r45_0]
    show gf_nn (w4.2.2 45 3) _ = _
    rw [r4.get rfl gv_r45_3]
    show gf_nn (w4.2.2 45 1) _ = _
    rw [r4.get rfl gv_r45_1]
    show gf_nn (w4.2.2 46 1) _ = _
    rw [r4.get rfl gv_r46_1]
    simp only [gf_nn]
    rw [h1]
    show gf_nn (w5.2.2 45 3) _ = _
    rw [r5.get rfl gv_r45_3]
    show gf_nn (w5.2.2 45 0) _ = _
    rw [r5.get rfl gv_r45_0]
    show gf_nn (w5.2.2 9 1) _ = _
    rw [r5.get rfl gv_r9_1]
    simp only [gf_nn]
    rw [k1]
    show gf_nn (w6.2.2 45 3) _ = _
    rw [r6.get rfl gv_r45_3]
    simp only [gf_nn]
    by_cases cc : 0 ≤ w6.1 53 2
    · rw [if_pos cc, if_pos cc]
    · rw [if_neg cc, if_neg cc]
      show gf_nn (w6.2.2 45 3) _ = _
      rw [r6.get rfl gv_r45_3]
      show gf_nn (w6.2.2 45 1) _ = _
      rw [r6.get rfl gv_r45_1]
      show gf_nn (w6.2.2 46 1) _ = _
      rw [r6.get rfl gv_r46_1]
      show gf_nn (w6.2.2 45 3) _ = _
      rw [r6.get rfl gv_r45_3]
      rfl
  rw [pre]
  have i0 : (0 : Int32).toInt = 0 := rfl
  by_cases cc : 0 ≤ w6.1 53 2
  · have c' := i32_le.mp cc
    rw [i0, sgn] at c'
    have hnn : 0 ≤ N.tmod B := by
      rcases Int.lt_or_le (N.tmod B) 0 with h | h
      · rw [Int.sign_eq_neg_one_of_neg h] at c'; omega
      · exact h
    have hm : N.tmod B = N % B := by rcases htm with h | h; exact h; omega
    rw [if_pos cc]
    obtain ⟨w, m1, m2, m3⟩ := gh_point2 (F := F) hF (u := w6) (x := d) r6 ⟨n7, k3⟩ bot6 hM hBl
    rw [hm] at m1 m3
    exact ⟨w, m1, f6.trans m2, m3⟩
  · have c' : ¬ (0 : Int32).toInt ≤ (w6.1 53 2).toInt := fun e => cc (i32_le.mpr e)
    rw [i0, sgn] at c'
    have hneg : N.tmod B < 0 := by
      rcases Int.lt_trichotomy (N.tmod B) 0 with h | h | h
      · exact h
      · rw [h, Int.sign_zero] at c'; omega
      · rw [Int.sign_eq_one_of_pos h] at c'; omega
    rw [if_neg cc]
    have q6 : Wf 53 54 w6 (gw_wi w6 53 2 1) := Wf.wf (Or.inr rfl)
    have d8 : Wd (gw_wi w6 53 2 1) 53 54 n7 (-(N.tmod B)) := by
      obtain ⟨z1, z2, z3, z4, z5⟩ := k3
      refine ⟨z1, z2, z3, z4, ?_⟩
      have ew : wv (gw_wi w6 53 2 1) 54 n7 = wv w6 54 n7 := rfl
      rw [ew]
      have es : (gw_wi w6 53 2 1).1 53 2 = 1 := rfl
      rw [es]
      rcases z5 with ⟨t1, t2, t3⟩ | ⟨t1, t2, t3⟩ | ⟨t1, t2, t3⟩
      · omega
      · omega
      · exact Or.inr (Or.inl ⟨t1, rfl, by omega⟩)
    have bot7 := bot6.fr q6 (by omega) (by omega) (by omega) (by omega)
    obtain ⟨n8, c8, c8', d9⟩ := bot7.cap2 (c := 47) hBl (by omega)
    have r7 : gv_Rf (gw_wi w6 53 2 1) := r6.eq rfl
    obtain ⟨w7, o1, o2, o3⟩ := gw_difference (F := F) (by omega) (z := gv_z) (p := 53) (q := 54) (p1 := 49) (q1 := 50) (p2 := 53) (q2 := 54) (u := gw_wi w6 53 2 1) (by omega) (by omega) (by omega) (r7.get rfl gv_r53_0) (r7.get rfl gv_r49_0) (r7.get rfl gv_r53_0) d9 d8 (by rw [gv_l50]; omega) (by rw [gv_l54]; omega) (by rw [gv_l54]; omega) (by rw [gv_l54]; omega) (by rw [gv_l54]; omega)
    have f7 : Wr 10 56 u w7 := (f6.trans (q6.wr (by omega) (by omega) (by omega) (by omega))).trans (o2.wr (by omega) (by omega) (by omega) (by omega))
    rw [o1]
    have ev : B - -(N.tmod B) = N % B := by rcases htm with h | h; (have := Int.emod_nonneg N (show B ≠ 0 by omega); omega); omega
    rw [ev] at o3
    have hl2 : (N % B).natAbs < 2147483648 ^ 11 := by
      have g1 := Int.emod_nonneg N (show B ≠ 0 by omega)
      have g2 := Int.emod_lt_of_pos N hB0
      omega
    obtain ⟨w, m1, m2, m3⟩ := gh_point2 (F := F) hF (u := w7) (x := d) (hr.wr f7) o3 (bot7.fr o2 (by omega) (by omega) (by omega) (by omega)) hl2 hBl
    exact ⟨w, m1, f7.trans m2, m3⟩
