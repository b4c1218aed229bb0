theorem sg_S' (u : gw_St) (q j n : Nat) : sg u q j (n + 1) = lm u q j + 2147483648 * sg u q (j + 1) n := by
  unfold sg
  rw [bv_succ']
  congr 2
  exact bv_congr (fun i _ => by rw [Nat.add_assoc, Nat.add_comm 1])
theorem wv_sg (u : gw_St) (q j n : Nat) : wv u q (j + n) = wv u q j + 2147483648 ^ j * sg u q j n := bv_add j n
/-- the state of a division with j places to go -/
def dvI (u w0 : gw_St) (m nb D A N j : Nat) (w : gw_St) : Prop := Wr 10 15 u w ∧ (∀ k, w.1 15 k = w0.1 15 k) ∧ (∀ k, k ≤ m → 0 ≤ (w.1 13 k).toInt) ∧ (∀ k, j + nb ≤ k → k ≤ m → lm w 13 k = 0) ∧ (∀ k, j ≤ k → k < N → 0 ≤ (w.1 11 k).toInt) ∧ sg w 13 j nb < D ∧ sg w 11 j (N - j) * 2147483648 ^ j * D + wv w 13 (m + 1) = A
set_option linter.unusedSimpArgs false in
theorem dv_step {F : Nat} (hF : 2000 ≤ F) {u w0 w : gw_St} {m nb D A N j p1 p2 : Nat} {x3 : Int32} {f : Nat} (hr : gv_Rf u) (hm : m ≤ 47) (hnb : 0 < nb) (hN : N + nb = m + 1) (hjN : j < N) (hbp : ∀ i, i < nb → 0 ≤ (w0.1 15 i).toInt) (htop : 2147483648 ≤ 2 * lm w0 15 (nb - 1)) (hD : wv w0 15 nb = D) (hD0 : 0 < D) (hI : dvI u w0 m nb D A N (j + 1) w) :
    ∃ w', dvI u w0 m nb D A N j w' ∧ gf_Calculator_divide_L93 F gv_z (f + 1) w 9 p1 p2 x3 (Int32.ofNat nb) (Int32.ofNat N) (Int32.ofNat (j + 1) - 1) = gf_Calculator_divide_L93 F gv_z f w' 9 p1 p2 x3 (Int32.ofNat nb) (Int32.ofNat N) (Int32.ofNat j - 1) := by
  obtain ⟨c1, c2, c3, c4, c5, c6, c7⟩ := hI
  have hrw := hr.wr c1
  have eD : wv w 15 nb = D := by rw [wv_congr (fun i _ => c2 i)]; exact hD
  have el : ∀ i, lm w 15 i = lm w0 15 i := fun i => by unfold lm; rw [c2]
  have hU : sg w 13 j (nb + 1) < D * 2147483648 := by
    have h1 := sg_S' w 13 j nb
    have h2 := lm_lt w 13 j
    have h3 : 2147483648 * (sg w 13 (j + 1) nb + 1) ≤ 2147483648 * D := Nat.mul_le_mul_left _ c6
    rw [Nat.mul_add] at h3
    rw [Nat.mul_comm D]
    omega
  obtain ⟨T, t1, t2⟩ := gs_guess (F := F) hF (z := gv_z) (u := w) (r := 13) (b := 15) (j := j) (n := nb) hnb (by omega) (by omega) (by rw [gv_l13]; omega) (by rw [gv_l15]; omega) (fun i hi => c3 (j + i) (by omega)) (fun i hi => by rw [c2]; exact hbp i hi) (by rw [el]; exact htop) (by rw [eD]; exact hU)
  have hq : sg w 13 j (nb + 1) / wv w 15 nb < 2147483648 := by
    rw [eD, Nat.div_lt_iff_lt_mul hD0, Nat.mul_comm]; exact hU
  obtain ⟨w1, s1, s2, s3, s4, s5, s6⟩ := gs_take (F := F) hF (z := gv_z) (u := w) (r := 13) (b := 15) (j := j) (n := nb) (T := T) (by omega) (by omega) (by omega) (by rw [gv_l13]; omega) (by rw [gv_l15]; omega) (fun i hi => c3 (j + i) (by omega)) (fun i hi => by rw [c2]; exact hbp i hi) (by rw [eD]; exact hD0) hq t2
  rw [eD] at s1 s6 hq
  obtain ⟨Q, hQ⟩ : ∃ Q, Q = sg w 13 j (nb + 1) / D := ⟨_, rfl⟩
  rw [← hQ] at s1 hq
  have hw1 : Wr 10 15 u w1 := ⟨s2.trans c1.1, fun a k h => (s3 a k (by omega)).trans (c1.2 a k h)⟩
  have hrw1 := hr.wr hw1
  refine ⟨gw_wi w1 11 j (Int32.ofNat Q), ⟨⟨hw1.1, fun a k h => ?_⟩, fun k => ?_, fun k hk => ?_, fun k h1 h2 => ?_, fun k h1 h2 => ?_, ?_, ?_⟩, ?_⟩
  · simp only [gw_wi]
    rw [if_neg (by omega)]
    exact hw1.2 a k h
  · show w1.1 15 k = _
    rw [s3 15 k (by omega), c2]
  · show 0 ≤ (w1.1 13 k).toInt
    by_cases h : j ≤ k ∧ k ≤ j + nb
    · have := s4 (k - j) (by omega)
      rw [show j + (k - j) = k by omega] at this
      exact this
    · rw [s3 13 k (by omega)]
      exact c3 k hk
  · show (w1.1 13 k).toInt.toNat = 0
    by_cases h : k = j + nb
    · rw [h]; exact s5
    · rw [s3 13 k (by omega)]
      exact c4 k (by omega) h2
  · simp only [gw_wi, true_and]
    split
    · rw [i32_nat hq]; omega
    · rw [s3 11 k (by omega)]
      exact c5 k (by omega) h2
  · show sg w1 13 j nb < D
    rw [s6]
    exact Nat.mod_lt _ hD0
  · have e1 : sg (gw_wi w1 11 j (Int32.ofNat Q)) 11 j (N - j) = Q + 2147483648 * sg w 11 (j + 1) (N - (j + 1)) := by
      rw [show N - j = (N - (j + 1)) + 1 by omega, sg_S', lm_set, if_pos rfl, i32_nat hq]
      congr 2
      exact sg_congr (fun i hi => by
        simp only [gw_wi]
        rw [if_neg (by omega)]
        exact s3 11 _ (by omega))
    have e2 : wv (gw_wi w1 11 j (Int32.ofNat Q)) 13 (m + 1) = wv w 13 j + 2147483648 ^ j * (sg w 13 j (nb + 1) % D) := by
      have a1 : wv (gw_wi w1 11 j (Int32.ofNat Q)) 13 (m + 1) = wv w1 13 (m + 1) := wv_congr (fun i _ => rfl)
      have a2 : wv w1 13 (m + 1) = wv w1 13 (j + nb) := bv_cut (by omega) (fun i h1 h2 => by
        by_cases h : i = j + nb
        · rw [h]; exact s5
        · unfold lm
          rw [s3 13 i (by omega)]
          exact c4 i (by omega) (by omega))
      rw [a1, a2, wv_sg, s6]
      congr 1
      exact wv_congr (fun i hi => s3 13 i (by omega))
    have e3 : wv w 13 (m + 1) = wv w 13 j + 2147483648 ^ j * sg w 13 j (nb + 1) := by
      have a2 : wv w 13 (m + 1) = wv w 13 (j + (nb + 1)) := bv_cut (by omega) (fun i h1 h2 => c4 i (by omega) (by omega))
      rw [a2, wv_sg]
    rw [e1, e2]
    rw [e3] at c7
    have hdm := Nat.div_add_mod (sg w 13 j (nb + 1)) D
    rw [← hQ] at hdm
    rw [Nat.pow_succ, Nat.mul_comm (2147483648 ^ j) 2147483648] at c7
    generalize sg w 13 j (nb + 1) % D = M at *
    generalize sg w 13 j (nb + 1) = U at *
    generalize sg w 11 (j + 1) (N - (j + 1)) = S at *
    generalize 2147483648 ^ j = P at *
    generalize wv w 13 j = V at *
    have f1 := congrArg (P * ·) hdm
    simp only [Nat.mul_add] at f1
    rw [Nat.add_mul, Nat.add_mul]
    have f2 : Q * P * D = P * (D * Q) := by rw [Nat.mul_comm Q P, Nat.mul_assoc, Nat.mul_comm Q D]
    have f3 : 2147483648 * S * P * D = S * (2147483648 * P) * D := by rw [Nat.mul_comm 2147483648 S, Nat.mul_assoc S]
    omega
  · show gf_Calculator_divide_S93 F gv_z _ w 9 p1 p2 x3 (Int32.ofNat nb) (Int32.ofNat N) (Int32.ofNat (j + 1) - 1) = _
    unfold gf_Calculator_divide_S93
    rw [gi_sub1 (by omega), if_neg (gi_n0 (by omega)), hrw.get rfl gv_r9_1]
    simp only [gf_nn]
    rw [hrw.get rfl gv_r12_0, hrw.get rfl gv_r9_2]
    simp only [gf_nn]
    rw [hrw.get rfl gv_r14_0]
    simp only [gf_nn]
    rw [t1]
    simp only [gf_cl]
    rw [hrw.get rfl gv_r9_0]
    simp only [gf_nn]
    rw [hrw.get rfl gv_r10_0, hrw.get rfl gv_r9_1]
    simp only [gf_nn]
    rw [hrw.get rfl gv_r12_0, hrw.get rfl gv_r9_2]
    simp only [gf_nn]
    rw [hrw.get rfl gv_r14_0]
    simp only [gf_nn]
    rw [s1]
    simp only [gf_nm]
    rw [if_neg (gi_ix (by rw [gv_l11]; omega) (by omega)), i32_clamp (by omega), show Int32.ofNat j + (-1) = Int32.ofNat j - 1 from (Int32.sub_eq_add_neg ..).symm]
set_option linter.unusedSimpArgs false in
theorem gw_divide {F : Nat} (hF : 2000 ≤ F) {u : gw_St} {p1 q1 p2 q2 na nb : Nat} {va vb : Int} (hr : gv_Rf u) (hp1 : p1 < 10 ∨ 15 < p1) (hq1 : q1 < 10 ∨ 15 < q1) (hp2 : p2 < 10 ∨ 15 < p2) (hq2 : q2 < 10 ∨ 15 < q2) (hr1 : u.2.2 p1 0 = q1 + 1) (hr2 : u.2.2 p2 0 = q2 + 1) (ha : Wd u p1 q1 na va) (hb : Wd u p2 q2 nb vb) (hca : na ≤ gv_z.2.2 q1) (hcb : nb ≤ gv_z.2.2 q2) (hna : na ≤ 47) (hnb : nb ≤ 47) :
    ∃ w, gf_Calculator_divide F gv_z u 9 p1 p2 = some w ∧ Wr 10 15 u w ∧ Wh w 10 11 (va.tdiv vb) ∧ Wh w 12 13 (va.tmod vb) := by
  show ∃ w, gf_Calculator_divide_b0 F gv_z u 9 p1 p2 = some w ∧ _
  unfold gf_Calculator_divide_b0
  rw [hb.2.1, ha.2.1]
  by_cases c0 : nb = 0
  · subst c0
    rw [if_pos (show Int32.ofNat 0 = 0 from rfl)]
    have v0 := hb.n0.mp rfl
    subst v0
    obtain ⟨w, a1, a2, a3, a4⟩ := gw_divide0 hF hr hp1 hq1 hr1 ha hca hna
    refine ⟨w, a1, a2, ?_, ?_⟩
    · rw [Int.tdiv_zero]; exact a3
    · rw [Int.tmod_zero]; exact a4
  rw [if_neg (fun e => c0 ((gi_eq0 (by omega)).mp e))]
  by_cases c1 : nb ≤ na
  · rw [if_pos ((gi_le (by omega) (by omega)).mpr c1), hr2]
    simp only [gf_nn]
    have s1 : Int32.ofNat nb - (1 : Int32) = Int32.ofNat (nb - 1) := gi_sub (b := 1) (by omega) (by omega)
    rw [s1, if_neg (gi_ix (by omega) (by omega)), i32_clamp (by omega)]
    obtain ⟨X, hX⟩ : ∃ X, X = lm u q2 (nb - 1) := ⟨_, rfl⟩
    have hXp := hb.2.2.2.1 (by omega)
    rw [← hX] at hXp
    have hXl := lm_lt u q2 (nb - 1)
    rw [← hX] at hXl
    have eX : u.1 q2 (nb - 1) = Int32.ofNat X := i32_ext (by rw [lm_eq (hb.2.2.1 _ (by omega)), i32_nat (by omega), hX])
    obtain ⟨k, k1, k2⟩ : ∃ k, 2 ^ k ≤ X ∧ X < 2 ^ (k + 1) := ⟨X.log2, Nat.log2_self_le hXp, Nat.lt_log2_self⟩
    have hk := p2_lt (m := 31) k1 hXl
    rw [eX, gs_nlz k1 k2 hXl]
    simp only [gf_cl, gf_nm]
    obtain ⟨s, hs⟩ : ∃ s, s = 30 - k := ⟨_, rfl⟩
    have es : Int32.ofNat (31 - k) - (1 : Int32) = Int32.ofNat s := by
      rw [hs, show 30 - k = 31 - k - 1 by omega]
      exact gi_sub (b := 1) (by omega) (by omega)
    rw [es, ha.2.1, hb.2.1, gi_sub c1 (by omega), show Int32.ofNat (na - nb) + (1 : Int32) = Int32.ofNat (na - nb + 1) from gi_add (b := 1), hr.get rfl gv_r9_2]
    simp only [gf_nn]
    obtain ⟨w0, a1, a2, a3, a4, a5⟩ := gw_shiftUp (F := F) hF (z := gv_z) (p := 14) (q := 15) (p1 := p2) (q1 := q2) (sh := s) (u := u) (by omega) (by omega) (by omega) (hr.get rfl gv_r14_0) hr2 hb hcb (by rw [gv_l15]; omega) (by omega)
    rw [a1]
    have w0r : Wr 10 15 u w0 := ⟨a2, fun a k h => a3 a k (by omega)⟩
    have hrw0 := hr.wr w0r
    show ∃ w, gf_nn (w0.2.2 9 1) _ = some w ∧ _
    rw [hrw0.get rfl gv_r9_1]
    simp only [gf_nn]
    obtain ⟨w1, b1, b2, b3, b4, b5⟩ := gw_shiftUp (F := F) hF (z := gv_z) (p := 12) (q := 13) (p1 := p1) (q1 := q1) (sh := s) (u := w0) (by omega) (by omega) (by omega) (hrw0.get rfl gv_r12_0) (by rw [a2]; exact hr1) (ha.wr w0r hp1 hq1) hca (by rw [gv_l13]; omega) (by omega)
    rw [b1]
    have w1r : Wr 10 15 u w1 := w0r.trans ⟨b2, fun a k h => b3 a k (by omega)⟩
    have hrw1 := hr.wr w1r
    show ∃ w, gf_Calculator_divide_L93 F gv_z F w1 9 p1 p2 (Int32.ofNat s) (Int32.ofNat nb) (Int32.ofNat (na - nb + 1)) (Int32.ofNat (na - nb + 1) - 1) = some w ∧ _
    obtain ⟨N, hN⟩ : ∃ N, N = na - nb + 1 := ⟨_, rfl⟩
    rw [← hN]
    obtain ⟨D, hD⟩ : ∃ D, D = vb.natAbs * 2 ^ s := ⟨_, rfl⟩
    rw [← hD] at a5
    have w15 : ∀ k, w1.1 15 k = w0.1 15 k := fun k => b3 15 k (by omega)
    have hBk : (2147483648 : Nat) = 2 ^ (k + 1) * 2 ^ s := by
      rw [← Nat.pow_add, hs, show k + 1 + (30 - k) = 31 by omega]
    have hBk2 : (1073741824 : Nat) = 2 ^ k * 2 ^ s := by
      rw [← Nat.pow_add, hs, show k + (30 - k) = 30 by omega]
    have eV : vb.natAbs = wv u q2 (nb - 1) + X * 2147483648 ^ (nb - 1) := by
      rw [hb.abs, hX]
      have := wv_S u q2 (nb - 1)
      rw [show nb - 1 + 1 = nb by omega] at this
      exact this
    have hVl := wv_lt u q2 (nb - 1)
    have epw : 2147483648 ^ nb = 2147483648 * 2147483648 ^ (nb - 1) := by
      have := Nat.pow_succ (n := 2147483648) (m := nb - 1)
      rw [show (nb - 1).succ = nb by omega] at this
      rw [this, Nat.mul_comm]
    have hDlt : D < 2147483648 ^ nb := by
      have h1 : vb.natAbs < 2 ^ (k + 1) * 2147483648 ^ (nb - 1) := by
        have : (X + 1) * 2147483648 ^ (nb - 1) ≤ 2 ^ (k + 1) * 2147483648 ^ (nb - 1) := Nat.mul_le_mul_right _ k2
        rw [Nat.add_mul] at this
        omega
      have h2 := Nat.mul_lt_mul_of_pos_right h1 (Nat.two_pow_pos s)
      rw [Nat.mul_right_comm, ← hBk] at h2
      rw [hD, epw]; exact h2
    have hDge : 1073741824 * 2147483648 ^ (nb - 1) ≤ D := by
      have h1 : 2 ^ k * 2147483648 ^ (nb - 1) ≤ vb.natAbs := by
        have : 2 ^ k * 2147483648 ^ (nb - 1) ≤ X * 2147483648 ^ (nb - 1) := Nat.mul_le_mul_right _ k1
        omega
      have h2 := Nat.mul_le_mul_right (2 ^ s) h1
      rw [Nat.mul_right_comm, ← hBk2] at h2
      rw [hD]; exact h2
    have hpw : 0 < 2147483648 ^ (nb - 1) := Nat.pow_pos (by decide)
    have hD0 : 0 < D := Nat.lt_of_lt_of_le (Nat.mul_pos (by decide) hpw) hDge
    have eD : wv w0 15 nb = D := by
      rw [wv_S] at a5
      have : lm w0 15 nb = 0 := by
        apply Nat.eq_zero_of_not_pos
        intro h
        have : 1 * 2147483648 ^ nb ≤ lm w0 15 nb * 2147483648 ^ nb := Nat.mul_le_mul_right _ h
        omega
      rw [this, Nat.zero_mul] at a5
      exact a5
    have htop : 2147483648 ≤ 2 * lm w0 15 (nb - 1) := by
      have h1 := wv_S w0 15 (nb - 1)
      rw [show nb - 1 + 1 = nb by omega, eD] at h1
      have h2 := wv_lt w0 15 (nb - 1)
      have h3 : 1073741824 * 2147483648 ^ (nb - 1) < (lm w0 15 (nb - 1) + 1) * 2147483648 ^ (nb - 1) := by rw [Nat.add_mul]; omega
      have := Nat.lt_of_mul_lt_mul_right h3
      omega
    have hbp : ∀ i, i < nb → 0 ≤ (w0.1 15 i).toInt := fun i hi => a4 i (by omega)
    obtain ⟨A, hA⟩ : ∃ A, A = va.natAbs * 2 ^ s := ⟨_, rfl⟩
    rw [← hA] at b5
    have hI0 : dvI u w0 na nb D A N N w1 := by
      refine ⟨w1r, w15, fun k hk => b4 k hk, fun k h1 h2 => by omega, fun k h1 h2 => by omega, ?_, ?_⟩
      · have e1 : wv w1 13 (na + 1) = wv w1 13 N + 2147483648 ^ N * sg w1 13 N nb := by rw [← wv_sg]; congr 1; omega
        have h1 : A < 2147483648 ^ N * D := by
          have l1 := ha.lt
          have l2 := hb.pos (by omega)
          have l3 : 2147483648 ^ na = 2147483648 ^ N * 2147483648 ^ (nb - 1) := by rw [← Nat.pow_add]; congr 1; omega
          have l4 : va.natAbs < 2147483648 ^ N * vb.natAbs := by
            rw [l3] at l1
            exact Nat.lt_of_lt_of_le l1 (Nat.mul_le_mul_left _ l2)
          have l5 := Nat.mul_lt_mul_of_pos_right l4 (Nat.two_pow_pos s)
          rw [hA, hD, ← Nat.mul_assoc]; exact l5
        rw [b5] at e1
        apply Nat.lt_of_mul_lt_mul_left (a := 2147483648 ^ N)
        omega
      · rw [Nat.sub_self, b5]
        show 0 * _ * _ + A = A
        simp
    have run : ∀ (j f : Nat) (w : gw_St), j ≤ N → j < f → dvI u w0 na nb D A N j w → ∃ f' w', dvI u w0 na nb D A N 0 w' ∧ gf_Calculator_divide_L93 F gv_z f w 9 p1 p2 (Int32.ofNat s) (Int32.ofNat nb) (Int32.ofNat N) (Int32.ofNat j - 1) = gf_Calculator_divide_L93 F gv_z (f' + 1) w' 9 p1 p2 (Int32.ofNat s) (Int32.ofNat nb) (Int32.ofNat N) (Int32.ofNat 0 - 1) := by
      intro j
      induction j with
      | zero => intro f w _ hf hI; exact ⟨f - 1, w, hI, by rw [show f - 1 + 1 = f by omega]⟩
      | succ j ih =>
        intro f w hjN hf hI
        obtain ⟨f, rfl⟩ : ∃ g, f = g + 1 := ⟨f - 1, by omega⟩
        obtain ⟨w', d1, d2⟩ := dv_step (F := F) hF (p1 := p1) (p2 := p2) (x3 := Int32.ofNat s) (f := f) hr (by omega) (by omega) (by omega) (by omega) hbp htop eD hD0 hI
        rw [d2]
        exact ih f w' (by omega) (by omega) d1
    obtain ⟨f', w2, hI2, er⟩ := run N F w1 (Nat.le_refl _) (by omega) hI0
    rw [er]
    obtain ⟨c1', c2', c3', c4', c5', c6', c7'⟩ := hI2
    have hrw2 := hr.wr c1'
    have eR : wv w2 13 (na + 1) = wv w2 13 nb := bv_cut (by omega) (fun i h1 h2 => c4' i (by omega) (by omega))
    have eS : sg w2 13 0 nb = wv w2 13 nb := bv_congr (fun i _ => by rw [Nat.zero_add])
    have eQ : sg w2 11 0 (N - 0) = wv w2 11 N := bv_congr (fun i _ => by rw [Nat.zero_add])
    rw [eR, eQ, Nat.pow_zero, Nat.mul_one] at c7'
    rw [eS] at c6'
    obtain ⟨Q, hQ⟩ : ∃ Q, Q = wv w2 11 N := ⟨_, rfl⟩
    obtain ⟨R, hR⟩ : ∃ R, R = wv w2 13 nb / 2 ^ s := ⟨_, rfl⟩
    have hps := Nat.two_pow_pos s
    have hmain : va.natAbs = Q * vb.natAbs + R ∧ R < vb.natAbs := by
      rw [hA, hD, ← Nat.mul_assoc, ← hQ] at c7'
      rw [hD] at c6'
      have h1 : wv w2 13 nb = (va.natAbs - Q * vb.natAbs) * 2 ^ s := by
        rw [Nat.sub_mul]; omega
      have h2 : R = va.natAbs - Q * vb.natAbs := by
        rw [hR, h1, Nat.mul_div_cancel _ hps]
      have h3 : Q * vb.natAbs ≤ va.natAbs := by
        apply Nat.le_of_mul_le_mul_right _ hps
        omega
      constructor
      · omega
      · rw [hR, Nat.div_lt_iff_lt_mul hps]; exact c6'
    obtain ⟨td, tm⟩ := td_of hmain.1 hmain.2
    have sa := ha.sg
    have sb := hb.sg
    have e2 : ∀ a k, ¬ (10 ≤ a ∧ a ≤ 15) → w2.1 a k = u.1 a k := c1'.2
    have va0 : va ≠ 0 := fun h => by have := ha.n0.mpr h; omega
    have vb0 : vb ≠ 0 := fun h => c0 (hb.n0.mpr h)
    have i1 : (1 : Int32).toInt = 1 := rfl
    have i2 : (-1 : Int32).toInt = -1 := rfl
    have sga : va.sign = 1 ∨ va.sign = -1 := by
      rcases Int.lt_trichotomy va 0 with h | h | h
      · right; exact Int.sign_eq_neg_one_of_neg h
      · exact absurd h va0
      · left; exact Int.sign_eq_one_of_pos h
    have sgb : vb.sign = 1 ∨ vb.sign = -1 := by
      rcases Int.lt_trichotomy vb 0 with h | h | h
      · right; exact Int.sign_eq_neg_one_of_neg h
      · exact absurd h vb0
      · left; exact Int.sign_eq_one_of_pos h
    have hsp : (u.1 p1 2 * u.1 p2 2).toInt = va.sign * vb.sign := by
      have h3 : va.sign * vb.sign = 1 ∨ va.sign * vb.sign = -1 := by
        rcases sga with h | h <;> rcases sgb with g | g <;> rw [h, g] <;> omega
      rw [n32_mul (by rw [sa, sb]; omega) (by rw [sa, sb]; omega), sa, sb]
    have hsp2 : u.1 p1 2 * u.1 p2 2 = 1 ∨ u.1 p1 2 * u.1 p2 2 = -1 := by
      have h3 : va.sign * vb.sign = 1 ∨ va.sign * vb.sign = -1 := by
        rcases sga with h | h <;> rcases sgb with g | g <;> rw [h, g] <;> omega
      rcases h3 with h | h
      · left; apply i32_ext; rw [hsp, h, i1]
      · right; apply i32_ext; rw [hsp, h, i2]
    obtain ⟨w3, x1, x2, x3, x4⟩ := gw_settle (F := F) hF (z := gv_z) (p := 10) (q := 11) (n := N) (s := u.1 p1 2 * u.1 p2 2) (u := w2) (by omega) (hrw2.get rfl gv_r10_0) (by rw [gv_l11]; omega) (by omega) (fun i hi => c5' i (by omega) hi) (by rcases hsp2 with h | h; exact Or.inl h; exact Or.inr (Or.inl h))
    have w3r : Wr 10 15 u w3 := c1'.trans (x2.wr (by omega) (by omega) (by omega) (by omega))
    have hrw3 := hr.wr w3r
    have e13 : ∀ k, w3.1 13 k = w2.1 13 k := fun k => x2.2 13 k (by omega) (by omega)
    obtain ⟨w4, y1, y2, y3, y4, y5⟩ := gw_shiftDown (F := F) hF (z := gv_z) (p := 12) (q := 13) (n := nb) (sh := s) (u := w3) (hrw3.get rfl gv_r12_0) (by omega) (by rw [gv_l13]; omega) (by omega) (fun k hk => by rw [e13]; exact c3' k (by omega))
    have w4r : Wr 10 15 u w4 := w3r.trans ⟨y2, fun a k h => y3 a k (by omega)⟩
    have hrw4 := hr.wr w4r
    have e4R : wv w4 13 nb = R := by rw [y5, hR, wv_congr (fun i _ => e13 i)]
    obtain ⟨w5, z1, z2, z3, z4⟩ := gw_settle (F := F) hF (z := gv_z) (p := 12) (q := 13) (n := nb) (s := u.1 p1 2) (u := w4) (by omega) (hrw4.get rfl gv_r12_0) (by rw [gv_l13]; omega) (by omega) y4 (by
      rcases sga with h | h
      · left; apply i32_ext; rw [sa, h, i1]
      · right; left; apply i32_ext; rw [sa, h, i2])
    refine ⟨w5, ?_, w4r.trans (z2.wr (by omega) (by omega) (by omega) (by omega)), ?_, ?_⟩
    · show gf_Calculator_divide_S93 F gv_z _ w2 9 p1 p2 (Int32.ofNat s) (Int32.ofNat nb) (Int32.ofNat N) (Int32.ofNat 0 - 1) = _
      unfold gf_Calculator_divide_S93
      rw [if_pos (show Int32.ofNat 0 - 1 < 0 by decide), hrw2.get rfl gv_r9_0]
      simp only [gf_nn]
      rw [e2 p1 2 (by omega), e2 p2 2 (by omega), x1]
      show gf_nn (w3.2.2 9 1) _ = _
      rw [hrw3.get rfl gv_r9_1]
      simp only [gf_nn]
      rw [y1]
      show gf_nn (w4.2.2 9 1) _ = _
      rw [hrw4.get rfl gv_r9_1]
      simp only [gf_nn]
      rw [w4r.2 p1 2 (by omega), z1]
      rfl
    · rw [td]
      rw [hsp, ← hQ] at x4
      have f1 : Wh w4 10 11 (va.sign * vb.sign * Q) := by
        obtain ⟨n, hn⟩ := x4
        refine ⟨n, ?_⟩
        obtain ⟨g1, g2, g3, g4, g5⟩ := hn
        have e11 : ∀ k, w4.1 11 k = w3.1 11 k := fun k => y3 11 k (by omega)
        refine ⟨g1, (y3 10 1 (by omega)).trans g2, fun i hi => by rw [e11]; exact g3 i hi, fun h => by unfold lm; rw [e11]; exact g4 h, ?_⟩
        rw [y3 10 2 (by omega), wv_congr (fun i _ => e11 i)]
        exact g5
      exact f1.fr z2 (by omega) (by omega) (by omega) (by omega)
    · rw [tm]
      rw [sa, e4R] at z4
      exact z4
  · rw [if_neg (fun e => c1 ((gi_le (by omega) (by omega)).mp e))]
    obtain ⟨w, a1, a2, a3, a4⟩ := gw_divide0 hF hr hp1 hq1 hr1 ha hca hna
    have hlt : va.natAbs < vb.natAbs := by
      have l1 := ha.lt
      have l2 := hb.pos (by omega)
      have l3 : 2147483648 ^ na ≤ 2147483648 ^ (nb - 1) := Nat.pow_le_pow_right (by decide) (by omega)
      omega
    obtain ⟨td, tm⟩ := td_of (a := va) (b := vb) (Q := 0) (R := va.natAbs) (by omega) hlt
    refine ⟨w, a1, a2, ?_, ?_⟩
    · rw [td]; simp only [Int.natCast_zero, Int.mul_zero]; exact a3
    · rw [tm, Int.sign_mul_natAbs]; exact a4
