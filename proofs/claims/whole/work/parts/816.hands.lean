/-- the turns until two hands meet -/
theorem gh_meet {F : Nat} (hF : 20000 ≤ F) {u : gw_St} {p p' : Nat} {a b c d : Int} (hr : gv_Rf u) (hs : Fs u p a b) (hs' : Fs u p' c d) :
    ∃ w, Wr 10 56 u w ∧ gf_Hands_turnsToMeet F gv_z u 45 p p' = some (if a * d - c * b = 0 then 0 else 1, w) ∧ (a * d - c * b ≠ 0 → Fr w 46 ((b * d).tdiv (Int.gcd (b * d) ((a * d - c * b).natAbs : Int) : Nat)) (((a * d - c * b).natAbs : Int).tdiv (Int.gcd (b * d) ((a * d - c * b).natAbs : Int) : Nat))) := by
  have hp := hs.1
  have hp' := hs'.1
  have la := hs.2.2.2.1
  have lb := hs.2.2.2.2.1
  have lc := hs'.2.2.2.1
  have ld := hs'.2.2.2.2.1
  obtain ⟨na, a1, a1', da⟩ := hs.2.2.1.1.cap2 (c := 9) la (by omega)
  obtain ⟨nd, a2, a2', dd⟩ := hs'.2.2.1.2.cap2 (c := 9) ld (by omega)
  obtain ⟨w1, b1, b2, b3⟩ := gw_product (F := F) (by omega) (z := gv_z) (p := 49) (q := 50) (p1 := p + 1) (q1 := p + 2) (p2 := p' + 3) (q2 := p' + 4) (u := u) (by omega) (by omega) (by omega) (by omega) (by omega) (by omega) (by omega) (by omega) (by omega) (hr.get rfl gv_r49_0) hs.2.1.2.2.1 hs'.2.1.2.2.2 da dd (by rw [hs.2.2.2.2.2.1]; omega) (by rw [hs'.2.2.2.2.2.2]; omega) (by rw [gv_l50]; omega) (by rw [gv_l50]; omega)
  have f1 : Wr 10 56 u w1 := b2.wr (by omega) (by omega) (by omega) (by omega)
  have r1 := hr.wr f1
  have s1 := hs.wr f1
  have s1' := hs'.wr f1
  obtain ⟨nc, c1, c1', dc⟩ := s1'.2.2.1.1.cap2 (c := 9) lc (by omega)
  obtain ⟨nb, c2, c2', db⟩ := s1.2.2.1.2.cap2 (c := 9) lb (by omega)
  obtain ⟨w2, e1, e2, e3⟩ := gw_product (F := F) (by omega) (z := gv_z) (p := 53) (q := 54) (p1 := p' + 1) (q1 := p' + 2) (p2 := p + 3) (q2 := p + 4) (u := w1) (by omega) (by omega) (by omega) (by omega) (by omega) (by omega) (by omega) (by omega) (by omega) (r1.get rfl gv_r53_0) s1'.2.1.2.2.1 s1.2.1.2.2.2 dc db (by rw [hs'.2.2.2.2.2.1]; omega) (by rw [hs.2.2.2.2.2.2]; omega) (by rw [gv_l54]; omega) (by rw [gv_l54]; omega)
  have f2 : Wr 10 56 u w2 := f1.trans (e2.wr (by omega) (by omega) (by omega) (by omega))
  have r2 := hr.wr f2
  have lad := absmul la ld
  have lcb := absmul lc lb
  obtain ⟨n1, g1, g1', d1⟩ := (b3.fr e2 (by omega) (by omega) (by omega) (by omega)).cap2 (c := 18) lad (by omega)
  obtain ⟨n2, g2, g2', d2⟩ := e3.cap2 (c := 18) lcb (by omega)
  obtain ⟨w3, h1, h2, h3⟩ := gw_difference (F := F) (by omega) (z := gv_z) (p := 49) (q := 50) (p1 := 49) (q1 := 50) (p2 := 53) (q2 := 54) (u := w2) (by omega) (by omega) (by omega) (r2.get rfl gv_r49_0) (r2.get rfl gv_r49_0) (r2.get rfl gv_r53_0) d1 d2 (by rw [gv_l50]; omega) (by rw [gv_l54]; omega) (by rw [gv_l50]; omega) (by rw [gv_l50]; omega) (by rw [gv_l50]; omega)
  have f3 : Wr 10 56 u w3 := f2.trans (h2.wr (by omega) (by omega) (by omega) (by omega))
  have r3 := hr.wr f3
  have hdl : (a * d - c * b).natAbs < 2147483648 ^ 19 := by
    have : (a * d - c * b).natAbs ≤ (a * d).natAbs + (c * b).natAbs := by omega
    have e : (2147483648 : Nat) ^ 19 = 2147483648 * 2147483648 ^ 18 := by rw [show 19 = 18 + 1 from rfl, Nat.pow_succ, Nat.mul_comm]
    have e2 : (2147483648 : Nat) ^ (9 + 9) = 2147483648 ^ 18 := rfl
    rw [e2] at lad lcb
    rw [e]
    generalize (2147483648 : Nat) ^ 18 = P at *
    omega
  obtain ⟨D, hD⟩ : ∃ D, D = a * d - c * b := ⟨_, rfl⟩
  rw [← hD] at h3 hdl ⊢
  obtain ⟨n3, g3, g3', d3⟩ := h3.cap2 (c := 19) hdl (by omega)
  have sg3 := d3.sg
  have pre : gf_Hands_turnsToMeet F gv_z u 45 p p' = if (w3.1 49 2) = 0 then some ((0 : Int32), w3) else (gf_Whole_setProduct F gv_z (gw_wi w3 49 2 1) 47 (p + 3) (p' + 3)).bind fun u50 => gf_nn (u50.2.2 45 0) fun q52 => gf_nn (u50.2.2 45 1) fun q54 => (gf_Calculator_reduce F gv_z u50 q52 q54).bind fun u56 => some ((1 : Int32), u56) := by
    show gf_Hands_turnsToMeet_b0 F gv_z u 45 p p' = _
    unfold gf_Hands_turnsToMeet_b0
    rw [hr.get rfl gv_r45_1]
    show gf_nn (u.2.2 46 1) _ = _
    rw [hr.get rfl gv_r46_1]
    show gf_nn (u.2.2 p 0) _ = _
    rw [hs.2.1.1]
    show gf_nn (u.2.2 p' 1) _ = _
    rw [hs'.2.1.2.1]
    simp only [gf_nn]
    rw [b1]
    show gf_nn (w1.2.2 45 3) _ = _
    rw [r1.get rfl gv_r45_3]
    show gf_nn (w1.2.2 p' 0) _ = _
    rw [s1'.2.1.1]
    show gf_nn (w1.2.2 p 1) _ = _
    rw [s1.2.1.2.1]
    simp only [gf_nn]
    rw [e1]
    show gf_nn (w2.2.2 45 1) _ = _
    rw [r2.get rfl gv_r45_1]
    show gf_nn (w2.2.2 46 1) _ = _
    rw [r2.get rfl gv_r46_1]
    show gf_nn (w2.2.2 46 1) _ = _
    rw [r2.get rfl gv_r46_1]
    show gf_nn (w2.2.2 45 3) _ = _
    rw [r2.get rfl gv_r45_3]
    simp only [gf_nn]
    rw [h1]
    show gf_nn (w3.2.2 45 1) _ = _
    rw [r3.get rfl gv_r45_1]
    show gf_nn (w3.2.2 46 1) _ = _
    rw [r3.get rfl gv_r46_1]
    simp only [gf_nn]
    by_cases cc : w3.1 49 2 = 0
    · rw [if_pos cc, if_pos cc, if_neg (by decide)]
    · rw [if_neg cc, if_neg cc]
      show gf_nn (w3.2.2 46 1) _ = _
      rw [r3.get rfl gv_r46_1]
      show gf_nn (w3.2.2 45 1) _ = _
      rw [r3.get rfl gv_r45_1]
      show gf_nn (w3.2.2 46 0) _ = _
      rw [r3.get rfl gv_r46_0]
      show gf_nn (w3.2.2 p 1) _ = _
      rw [(hs.wr f3).2.1.2.1]
      show gf_nn (w3.2.2 p' 1) _ = _
      rw [(hs'.wr f3).2.1.2.1]
      simp only [gf_nn]
      rfl
  rw [pre]
  have i0 : (0 : Int32).toInt = 0 := rfl
  by_cases cc : w3.1 49 2 = 0
  · have : D = 0 := by
      rw [cc, i0] at sg3
      exact Int.sign_eq_zero_iff_zero.mp sg3.symm
    rw [if_pos cc]
    exact ⟨w3, f3, by rw [if_pos this], fun h => absurd this h⟩
  · have hD0 : D ≠ 0 := fun e => by
      rw [e, Int.sign_zero] at sg3
      exact cc (i32_ext sg3)
    rw [if_neg cc]
    have q3 : Wf 49 50 w3 (gw_wi w3 49 2 1) := Wf.wf (Or.inr rfl)
    have f4 : Wr 10 56 u (gw_wi w3 49 2 1) := f3.trans (q3.wr (by omega) (by omega) (by omega) (by omega))
    have r4 := hr.wr f4
    have s4 := hs.wr f4
    have s4' := hs'.wr f4
    have d4 : Wd (gw_wi w3 49 2 1) 49 50 n3 (D.natAbs : Int) := by
      obtain ⟨z1, z2, z3, z4, z5⟩ := d3
      refine ⟨z1, z2, z3, z4, ?_⟩
      have ew : wv (gw_wi w3 49 2 1) 50 n3 = wv w3 50 n3 := rfl
      rw [ew]
      have es : (gw_wi w3 49 2 1).1 49 2 = 1 := rfl
      rw [es]
      rcases z5 with ⟨t1, t2, t3⟩ | ⟨t1, t2, t3⟩ | ⟨t1, t2, t3⟩
      · omega
      · exact Or.inr (Or.inl ⟨t1, rfl, by omega⟩)
      · exact Or.inr (Or.inl ⟨t1, rfl, by omega⟩)
    obtain ⟨m1, k1, k1', y1⟩ := s4.2.2.1.2.cap2 (c := 9) lb (by omega)
    obtain ⟨m2, k2, k2', y2⟩ := s4'.2.2.1.2.cap2 (c := 9) ld (by omega)
    obtain ⟨w5, o1, o2, o3⟩ := gw_product (F := F) (by omega) (z := gv_z) (p := 47) (q := 48) (p1 := p + 3) (q1 := p + 4) (p2 := p' + 3) (q2 := p' + 4) (u := gw_wi w3 49 2 1) (by omega) (by omega) (by omega) (by omega) (by omega) (by omega) (by omega) (by omega) (by omega) (r4.get rfl gv_r47_0) s4.2.1.2.2.2 s4'.2.1.2.2.2 y1 y2 (by rw [hs.2.2.2.2.2.2]; omega) (by rw [hs'.2.2.2.2.2.2]; omega) (by rw [gv_l48]; omega) (by rw [gv_l48]; omega)
    have f5 : Wr 10 56 u w5 := f4.trans (o2.wr (by omega) (by omega) (by omega) (by omega))
    have r5 := hr.wr f5
    have lbd := absmul lb ld
    obtain ⟨w6, x1, x2, x3⟩ := gw_reduce (F := F) hF (u := w5) (p := 46) (k := 19) r5 (by omega) (gv_x46 r5) ⟨o3, ⟨n3, d4.fr o2 (by omega) (by omega) (by omega) (by omega)⟩⟩ (pw_mono lbd (by omega)) hdl (by omega) (by rw [gv_l48]; omega) (by rw [gv_l50]; omega)
    refine ⟨w6, f5.trans ⟨x2.1, fun a k h => x2.2 a (by unfold Sr; omega) k⟩, ?_, fun _ => x3⟩
    rw [o1]
    show gf_nn (w5.2.2 45 0) _ = _
    rw [r5.get rfl gv_r45_0]
    show gf_nn (w5.2.2 45 1) _ = _
    rw [r5.get rfl gv_r45_1]
    simp only [gf_nn]
    rw [x1, if_neg hD0]
    rfl
theorem gh_begin {F : Nat} (hF : 20000 ≤ F) {u : gw_St} (hr : gv_Rf u) : ∃ w, gf_Hands_beginReturn F gv_z u 45 = some w ∧ Wr 10 56 u w ∧ Fr w 46 1 0 := by
  obtain ⟨w1, a1, a2, a3⟩ := gw_setLong (F := F) (by omega) (z := gv_z) (p := 47) (q := 48) (u := u) (y := 1) (by omega) (hr.get rfl gv_r47_0) (by rw [gv_l48]; omega) (by decide) (by decide)
  have f1 : Wr 10 56 u w1 := a2.wr (by omega) (by omega) (by omega) (by omega)
  have r1 := hr.wr f1
  obtain ⟨w2, b1, b2, b3⟩ := gw_setLong (F := F) (by omega) (z := gv_z) (p := 49) (q := 50) (u := w1) (y := 0) (by omega) (r1.get rfl gv_r49_0) (by rw [gv_l50]; omega) (by decide) (by decide)
  refine ⟨w2, ?_, f1.trans (b2.wr (by omega) (by omega) (by omega) (by omega)), a3.fr b2 (by omega) (by omega) (by omega) (by omega), b3⟩
  show gf_Hands_beginReturn_b0 F gv_z u 45 = _
  unfold gf_Hands_beginReturn_b0
  rw [hr.get rfl gv_r45_1]
  show gf_nn (u.2.2 46 0) _ = _
  rw [hr.get rfl gv_r46_0]
  simp only [gf_nn]
  rw [a1]
  show gf_nn (w1.2.2 45 1) _ = _
  rw [r1.get rfl gv_r45_1]
  show gf_nn (w1.2.2 46 1) _ = _
  rw [r1.get rfl gv_r46_1]
  simp only [gf_nn]
  rw [b1]
  rfl
theorem p256 {x : Nat} (h : ¬ 2 ^ 256 ≤ x) : x < 2147483648 ^ 9 := by
  have : (2 : Nat) ^ 256 ≤ 2147483648 ^ 9 := by decide
  omega
/-- one more hand to come back -/
theorem gh_also {F : Nat} (hF : 20000 ≤ F) {u : gw_St} {p : Nat} {a b T N : Int} (hr : gv_Rf u) (hs : Fs u p a b) (hf : Fr u 46 T N) (hT : T.natAbs < 2147483648 ^ 20) (hN : N.natAbs < 2147483648 ^ 20) :
    ∃ w, gf_Hands_alsoReturn F gv_z u 45 p = some w ∧ Wr 10 56 u w ∧ (if a = 0 ∨ 2 ^ 256 ≤ T.natAbs ∨ 2 ^ 256 ≤ N.natAbs then w = u else Fr w 46 (T.tdiv (Int.gcd T b : Nat) * b) (Int.gcd N a : Nat)) := by
  have hp := hs.1
  have la := hs.2.2.2.1
  have lb := hs.2.2.2.2.1
  obtain ⟨na, a1, a1', da⟩ := hs.2.2.1.1.cap2 (c := 9) la (by omega)
  have i0 : (0 : Int32).toInt = 0 := rfl
  have sga := da.sg
  show ∃ w, gf_Hands_alsoReturn_b0 F gv_z u 45 p = some w ∧ _
  unfold gf_Hands_alsoReturn_b0 gf_Hands_alsoReturn_b20
  rw [hs.2.1.1]
  show ∃ w, (if u.1 (p + 1) 2 = 0 then some u else _) = some w ∧ _
  by_cases ca : u.1 (p + 1) 2 = 0
  · have : a = 0 := by
      rw [ca, i0] at sga
      exact Int.sign_eq_zero_iff_zero.mp sga.symm
    rw [if_pos ca]
    exact ⟨u, rfl, ⟨rfl, fun _ _ _ => rfl⟩, by rw [if_pos (Or.inl this)]⟩
  · have ha0 : a ≠ 0 := fun e => by
      rw [e, Int.sign_zero] at sga
      exact ca (i32_ext sga)
    rw [if_neg ca, hr.get rfl gv_r45_1]
    simp only [gf_nn]
    rw [gw_large (F := F) (z := gv_z) (k := 20) (gv_x46 hr) hf hT hN (by rw [gv_l48]; omega) (by rw [gv_l50]; omega)]
    simp only [gf_cl]
    by_cases cl : 2 ^ 256 ≤ T.natAbs ∨ 2 ^ 256 ≤ N.natAbs
    · rw [if_pos cl, if_neg (by decide)]
      exact ⟨u, rfl, ⟨rfl, fun _ _ _ => rfl⟩, by rw [if_pos (Or.inr cl)]⟩
    · rw [if_neg cl, if_pos rfl]
      have lT : T.natAbs < 2147483648 ^ 9 := p256 (fun h => cl (Or.inl h))
      have lN : N.natAbs < 2147483648 ^ 9 := p256 (fun h => cl (Or.inr h))
      obtain ⟨w1, b1, ⟨v1, b2, b3⟩, b4⟩ := gw_gcd (F := F) hF (p1 := 47) (q1 := 48) (p2 := p + 3) (q2 := p + 4) (p3 := 55) (q3 := 56) hr (by omega) (by omega) (by omega) (by omega) (by omega) (by omega) (by omega) (hr.get rfl gv_r47_0) hs.2.1.2.2.2 (hr.get rfl gv_r55_0) hf.1 hs.2.2.1.2 lT lb (by rw [gv_l48]; omega) (by rw [hs.2.2.2.2.2.2]; omega) (by omega) (by omega) (by rw [gv_l56]; omega)
      have f1 : Wr 10 56 u w1 := (b2.mono (by omega) (by omega)).trans (b3.wr (by omega) (by omega) (by omega) (by omega))
      have r1 := hr.wr f1
      have s1 := hs.wr f1
      have hg : ((Int.gcd T b : Nat) : Int).natAbs < 2147483648 ^ 9 := by
        show Nat.gcd T.natAbs b.natAbs < _
        by_cases h0 : T.natAbs = 0
        · rw [h0, Nat.gcd_zero_left]; exact lb
        · exact Nat.lt_of_le_of_lt (Nat.gcd_le_left _ (by omega)) lT
      have T1 : Wh w1 47 48 T := (hf.1.wr b2 (by omega) (by omega)).fr b3 (by omega) (by omega) (by omega) (by omega)
      have N1 : Wh w1 49 50 N := (hf.2.wr b2 (by omega) (by omega)).fr b3 (by omega) (by omega) (by omega) (by omega)
      obtain ⟨n1, c1, c1', d1⟩ := T1.cap2 (c := 9) lT (by omega)
      obtain ⟨n2, c2, c2', d2⟩ := b4.cap2 (c := 9) hg (by omega)
      obtain ⟨w2, e1, e2, e3, e4⟩ := gw_divide (F := F) (by omega) r1 (p1 := 47) (q1 := 48) (p2 := 55) (q2 := 56) (by omega) (by omega) (by omega) (by omega) (r1.get rfl gv_r47_0) (r1.get rfl gv_r55_0) d1 d2 (by rw [gv_l48]; omega) (by rw [gv_l56]; omega) (by omega) (by omega)
      have f2 : Wr 10 56 u w2 := f1.trans (e2.mono (by omega) (by omega))
      have r2 := hr.wr f2
      have s2 := hs.wr f2
      obtain ⟨n3, c3, c3', d3⟩ := e3.cap2 (c := 9) (Nat.lt_of_le_of_lt (td_gcd T b) lT) (by omega)
      obtain ⟨n4, c4, c4', d4⟩ := s2.2.2.1.2.cap2 (c := 9) lb (by omega)
      obtain ⟨w3, g1, g2, g3⟩ := gw_product (F := F) (by omega) (z := gv_z) (p := 47) (q := 48) (p1 := 10) (q1 := 11) (p2 := p + 3) (q2 := p + 4) (u := w2) (by omega) (by omega) (by omega) (by omega) (by omega) (by omega) (by omega) (by omega) (by omega) (r2.get rfl gv_r47_0) (r2.get rfl gv_r10_0) s2.2.1.2.2.2 d3 d4 (by rw [gv_l11]; omega) (by rw [hs.2.2.2.2.2.2]; omega) (by rw [gv_l48]; omega) (by rw [gv_l48]; omega)
      have f3 : Wr 10 56 u w3 := f2.trans (g2.wr (by omega) (by omega) (by omega) (by omega))
      have r3 := hr.wr f3
      have s3 := hs.wr f3
      have N3 : Wh w3 49 50 N := (N1.wr e2 (by omega) (by omega)).fr g2 (by omega) (by omega) (by omega) (by omega)
      obtain ⟨w4, h1, ⟨v4, h2, h3⟩, h4⟩ := gw_gcd (F := F) hF (p1 := 49) (q1 := 50) (p2 := p + 1) (q2 := p + 2) (p3 := 55) (q3 := 56) r3 (by omega) (by omega) (by omega) (by omega) (by omega) (by omega) (by omega) (r3.get rfl gv_r49_0) s3.2.1.2.2.1 (r3.get rfl gv_r55_0) N3 s3.2.2.1.1 lN la (by rw [gv_l50]; omega) (by rw [hs.2.2.2.2.2.1]; omega) (by omega) (by omega) (by rw [gv_l56]; omega)
      have f4 : Wr 10 56 u w4 := f3.trans ((h2.mono (by omega) (by omega)).trans (h3.wr (by omega) (by omega) (by omega) (by omega)))
      have r4 := hr.wr f4
      have hg2 : ((Int.gcd N a : Nat) : Int).natAbs < 2147483648 ^ 9 := by
        show Nat.gcd N.natAbs a.natAbs < _
        by_cases h0 : N.natAbs = 0
        · rw [h0, Nat.gcd_zero_left]; exact la
        · exact Nat.lt_of_le_of_lt (Nat.gcd_le_left _ (by omega)) lN
      obtain ⟨n5, c5, c5', d5⟩ := h4.cap2 (c := 9) hg2 (by omega)
      obtain ⟨w5, k1, k2, k3⟩ := gw_copyW (F := F) (z := gv_z) (p := 49) (q := 50) (p' := 55) (q' := 56) (u := w4) (by omega) (by omega) (by omega) (r4.get rfl gv_r49_0) (r4.get rfl gv_r55_0) d5 (by rw [gv_l56]; omega) (by rw [gv_l50]; omega)
      have T4 : Wh w4 47 48 (T.tdiv (Int.gcd T b : Nat) * b) := (g3.wr h2 (by omega) (by omega)).fr h3 (by omega) (by omega) (by omega) (by omega)
      refine ⟨w5, ?_, f4.trans (k2.wr (by omega) (by omega) (by omega) (by omega)), by rw [if_neg (by rintro (h | h); exact ha0 h; exact cl h)]; exact ⟨T4.fr k2 (by omega) (by omega) (by omega) (by omega), ⟨n5, k3⟩⟩⟩
      show gf_nn (u.2.2 45 0) _ = _
      rw [hr.get rfl gv_r45_0]
      show gf_nn (u.2.2 45 1) _ = _
      rw [hr.get rfl gv_r45_1]
      show gf_nn (u.2.2 46 0) _ = _
      rw [hr.get rfl gv_r46_0]
      show gf_nn (u.2.2 p 1) _ = _
      rw [hs.2.1.2.1]
      show gf_nn (u.2.2 45 4) _ = _
      rw [hr.get rfl gv_r45_4]
      simp only [gf_nn]
      rw [b1]
      show gf_nn (w1.2.2 45 0) _ = _
      rw [r1.get rfl gv_r45_0]
      show gf_nn (w1.2.2 45 1) _ = _
      rw [r1.get rfl gv_r45_1]
      show gf_nn (w1.2.2 46 0) _ = _
      rw [r1.get rfl gv_r46_0]
      show gf_nn (w1.2.2 45 4) _ = _
      rw [r1.get rfl gv_r45_4]
      simp only [gf_nn]
      rw [e1]
      show gf_nn (w2.2.2 45 1) _ = _
      rw [r2.get rfl gv_r45_1]
      show gf_nn (w2.2.2 46 0) _ = _
      rw [r2.get rfl gv_r46_0]
      show gf_nn (w2.2.2 45 0) _ = _
      rw [r2.get rfl gv_r45_0]
      show gf_nn (w2.2.2 9 0) _ = _
      rw [r2.get rfl gv_r9_0]
      show gf_nn (w2.2.2 p 1) _ = _
      rw [s2.2.1.2.1]
      simp only [gf_nn]
      rw [g1]
      show gf_nn (w3.2.2 45 0) _ = _
      rw [r3.get rfl gv_r45_0]
      show gf_nn (w3.2.2 45 1) _ = _
      rw [r3.get rfl gv_r45_1]
      show gf_nn (w3.2.2 46 1) _ = _
      rw [r3.get rfl gv_r46_1]
      show gf_nn (w3.2.2 p 0) _ = _
      rw [s3.2.1.1]
      show gf_nn (w3.2.2 45 4) _ = _
      rw [r3.get rfl gv_r45_4]
      simp only [gf_nn]
      rw [h1]
      show gf_nn (w4.2.2 45 1) _ = _
      rw [r4.get rfl gv_r45_1]
      show gf_nn (w4.2.2 46 1) _ = _
      rw [r4.get rfl gv_r46_1]
      show gf_nn (w4.2.2 45 4) _ = _
      rw [r4.get rfl gv_r45_4]
      simp only [gf_nn]
      rw [k1]
      rfl
