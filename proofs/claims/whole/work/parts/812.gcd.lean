theorem gv_l11' {n : Nat} (h : n ≤ 47) : n ≤ gv_z.2.2 11 := by rw [gv_l11]; omega
theorem Wh.cap {u : gw_St} {p q k : Nat} {v : Int} (h : Wh u p q v) (hv : v.natAbs < 2147483648 ^ k) : ∃ n, n ≤ k ∧ Wd u p q n v := h.elim fun n hn => ⟨n, hn.le hv, hn⟩
/-- one round of Euclid -/
theorem gw_gcdS {F : Nat} (hF : 20000 ≤ F) {u : gw_St} {p3 i f : Nat} {va vb : Int} (hr : gv_Rf u) (ha : Wh u 16 17 va) (hb : Wh u 18 19 vb) (hva : va.natAbs < 2147483648 ^ 47) (hvb : vb.natAbs < 2147483648 ^ 47) (hb0 : vb ≠ 0) (hi : i < 10000) : ∃ w, gf_Calculator_findDivisor_L19 F gv_z (f + 1) u 9 p3 (Int32.ofNat i) = gf_Calculator_findDivisor_L19 F gv_z f w 9 p3 (Int32.ofNat (i + 1)) ∧ Wr 10 19 u w ∧ Wh w 16 17 vb ∧ Wh w 18 19 (va.tmod vb) := by
  obtain ⟨na, hna, da⟩ := ha.cap hva
  obtain ⟨nb, hnb, db⟩ := hb.cap hvb
  obtain ⟨w1, a1, a2, a3, a4⟩ := gw_divide (F := F) (by omega) hr (p1 := 16) (q1 := 17) (p2 := 18) (q2 := 19) (by omega) (by omega) (by omega) (by omega) (hr.get rfl gv_r16_0) (hr.get rfl gv_r18_0) da db (by rw [gv_l17]; omega) (by rw [gv_l19]; omega) hna hnb
  have r1 := hr.wr a2
  have db1 := db.wr a2 (by omega) (by omega)
  obtain ⟨w2, b1, b2, b3⟩ := gw_copyW (F := F) (z := gv_z) (p := 16) (q := 17) (p' := 18) (q' := 19) (u := w1) (by omega) (by omega) (by omega) (r1.get rfl gv_r16_0) (r1.get rfl gv_r18_0) db1 (by rw [gv_l19]; omega) (by rw [gv_l17]; omega)
  have q2 := b2.wr (lo := 10) (hi := 19) (by omega) (by omega) (by omega) (by omega)
  have r2 := r1.wr q2
  have hm : (va.tmod vb).natAbs < 2147483648 ^ 47 := by
    rw [Int.natAbs_tmod]
    exact Nat.lt_of_le_of_lt (Nat.mod_le _ _) hva
  obtain ⟨nr, hnr, dr⟩ := a4.cap hm
  have dr2 := dr.fr b2 (by omega) (by omega) (by omega) (by omega)
  obtain ⟨w3, c1, c2, c3⟩ := gw_copyW (F := F) (z := gv_z) (p := 18) (q := 19) (p' := 12) (q' := 13) (u := w2) (by omega) (by omega) (by omega) (r2.get rfl gv_r18_0) (r2.get rfl gv_r12_0) dr2 (by rw [gv_l13]; omega) (by rw [gv_l19]; omega)
  have q3 := c2.wr (lo := 10) (hi := 19) (by omega) (by omega) (by omega) (by omega)
  refine ⟨w3, ?_, ((a2.mono (by omega) (by omega)).trans q2).trans q3, ⟨nb, b3.fr c2 (by omega) (by omega) (by omega) (by omega)⟩, ⟨nr, c3⟩⟩
  show gf_Calculator_findDivisor_S19 F gv_z _ u 9 p3 (Int32.ofNat i) = _
  unfold gf_Calculator_findDivisor_S19
  rw [if_neg (fun e : (10000 : Int32) ≤ Int32.ofNat i => by have := (gi_le (a := 10000) (by omega) (by omega)).mp e; omega), hr.get rfl gv_r9_4]
  simp only [gf_nn]
  rw [if_neg (fun e : u.1 18 2 = 0 => by
    have := db.sg
    rw [e] at this
    have h0 : (0 : Int32).toInt = 0 := rfl
    rw [h0] at this
    exact hb0 (Int.sign_eq_zero_iff_zero.mp this.symm)), hr.get rfl gv_r9_3]
  dsimp only
  rw [a1]
  show gf_nn (w1.2.2 9 3) _ = _
  rw [r1.get rfl gv_r9_3]
  simp only [gf_nn]
  rw [r1.get rfl gv_r9_4]
  dsimp only
  rw [b1]
  show gf_nn (w2.2.2 9 4) _ = _
  rw [r2.get rfl gv_r9_4]
  simp only [gf_nn]
  rw [r2.get rfl gv_r9_1]
  dsimp only
  rw [c1]
  show gf_Calculator_findDivisor_L19 F gv_z f w3 9 p3 (Int32.ofNat i + 1) = _
  rw [gw_iS]
theorem gw_gcdL {F : Nat} (hF : 20000 ≤ F) {p3 : Nat} : ∀ (K i f : Nat) (u : gw_St) (va vb : Int), gv_Rf u → Wh u 16 17 va → Wh u 18 19 vb → va.natAbs < 2147483648 ^ 47 → vb.natAbs ≤ va.natAbs → va.natAbs * vb.natAbs < 2 ^ K → i + K < 10000 → K + 1 < f →
    ∃ w, gf_Calculator_findDivisor_L19 F gv_z f u 9 p3 (Int32.ofNat i) = gf_Calculator_findDivisor_b77 F gv_z w 9 p3 ∧ Wr 10 19 u w ∧ ∃ g : Int, Wh w 16 17 g ∧ g.natAbs = Int.gcd va vb := by
  intro K
  induction K with
  | zero =>
    intro i f u va vb hr ha hb hva hle hK hi hf
    obtain ⟨f, rfl⟩ : ∃ g, f = g + 1 := ⟨f - 1, by omega⟩
    have h0 : va.natAbs * vb.natAbs = 0 := by omega
    have hv0 : vb = 0 := by
      rcases Nat.mul_eq_zero.mp h0 with h | h <;> omega
    subst hv0
    obtain ⟨nb, hnb⟩ := hb
    have e : u.1 18 2 = 0 := i32_ext (by rw [hnb.sg]; rfl)
    refine ⟨u, ?_, ⟨rfl, fun _ _ _ => rfl⟩, va, ha, by rw [Int.gcd_zero_right]⟩
    show gf_Calculator_findDivisor_S19 F gv_z _ u 9 p3 (Int32.ofNat i) = _
    unfold gf_Calculator_findDivisor_S19
    rw [if_neg (fun e : (10000 : Int32) ≤ Int32.ofNat i => by have := (gi_le (a := 10000) (by omega) (by omega)).mp e; omega), hr.get rfl gv_r9_4]
    simp only [gf_nn]
    rw [if_pos e]
  | succ K ih =>
    intro i f u va vb hr ha hb hva hle hK hi hf
    obtain ⟨f, rfl⟩ : ∃ g, f = g + 1 := ⟨f - 1, by omega⟩
    by_cases hb0 : vb = 0
    · subst hb0
      obtain ⟨nb, hnb⟩ := hb
      have e : u.1 18 2 = 0 := i32_ext (by rw [hnb.sg]; rfl)
      refine ⟨u, ?_, ⟨rfl, fun _ _ _ => rfl⟩, va, ha, by rw [Int.gcd_zero_right]⟩
      show gf_Calculator_findDivisor_S19 F gv_z _ u 9 p3 (Int32.ofNat i) = _
      unfold gf_Calculator_findDivisor_S19
      rw [if_neg (fun e : (10000 : Int32) ≤ Int32.ofNat i => by have := (gi_le (a := 10000) (by omega) (by omega)).mp e; omega), hr.get rfl gv_r9_4]
      simp only [gf_nn]
      rw [if_pos e]
    · obtain ⟨w, a1, a2, a3, a4⟩ := gw_gcdS hF (p3 := p3) (i := i) (f := f) hr ha hb hva (by omega) hb0 (by omega)
      rw [a1]
      have hmod : (va.tmod vb).natAbs = va.natAbs % vb.natAbs := Int.natAbs_tmod ..
      have hpos : 0 < vb.natAbs := by omega
      have hlt : va.natAbs % vb.natAbs < vb.natAbs := Nat.mod_lt _ hpos
      have hhalf : 2 * (va.natAbs % vb.natAbs) < va.natAbs + 1 := by
        have := Nat.div_add_mod va.natAbs vb.natAbs
        have h1 : 1 ≤ va.natAbs / vb.natAbs := (Nat.le_div_iff_mul_le hpos).mpr (by omega)
        have h2 : vb.natAbs * 1 ≤ vb.natAbs * (va.natAbs / vb.natAbs) := Nat.mul_le_mul_left _ h1
        omega
      obtain ⟨w', b1, b2, g, b3, b4⟩ := ih (i + 1) f w vb (va.tmod vb) (hr.wr a2) a3 a4 (by omega) (by omega) (by
        rw [hmod]
        have h3 : 2 * (vb.natAbs * (va.natAbs % vb.natAbs)) ≤ vb.natAbs * va.natAbs := by
          rw [Nat.mul_left_comm]
          exact Nat.mul_le_mul_left _ (by omega)
        rw [Nat.pow_succ] at hK
        rw [Nat.mul_comm] at hK
        omega) (by omega) (by omega)
      refine ⟨w', b1, a2.trans b2, g, b3, ?_⟩
      rw [b4]
      show Nat.gcd vb.natAbs (va.tmod vb).natAbs = Nat.gcd va.natAbs vb.natAbs
      rw [hmod, Nat.gcd_comm va.natAbs, Nat.gcd_rec vb.natAbs va.natAbs, Nat.gcd_comm]
theorem gw_gcd {F : Nat} (hF : 20000 ≤ F) {u : gw_St} {p1 q1 p2 q2 p3 q3 : Nat} {va vb : Int} (hr : gv_Rf u) (hp1 : p1 < 10 ∨ 19 < p1) (hq1 : q1 < 10 ∨ 19 < q1) (hp2 : p2 < 10 ∨ 19 < p2) (hq2 : q2 < 10 ∨ 19 < q2) (hp3 : p3 < 10 ∨ 19 < p3) (hq3 : q3 < 10 ∨ 19 < q3) (hpq3 : p3 ≠ q3) (hr1 : u.2.2 p1 0 = q1 + 1) (hr2 : u.2.2 p2 0 = q2 + 1) (hr3 : u.2.2 p3 0 = q3 + 1) (ha : Wh u p1 q1 va) (hb : Wh u p2 q2 vb) {ka kb : Nat} (hka : va.natAbs < 2147483648 ^ ka) (hkb : vb.natAbs < 2147483648 ^ kb) (hca : ka ≤ gv_z.2.2 q1) (hcb : kb ≤ gv_z.2.2 q2) (hk1 : ka ≤ 47) (hk2 : kb ≤ 47) (hc3 : (ka ≤ gv_z.2.2 q3 ∧ kb ≤ gv_z.2.2 q3)) :
    ∃ w, gf_Calculator_findDivisor F gv_z u 9 p1 p2 p3 = some w ∧ (∃ v, Wr 10 19 u v ∧ Wf p3 q3 v w) ∧ Wh w p3 q3 (Int.gcd va vb) := by
  obtain ⟨na, hna, da⟩ := ha.cap hka
  obtain ⟨nb, hnb, db⟩ := hb.cap hkb
  have hA : va.natAbs < 2147483648 ^ 47 := Nat.lt_of_lt_of_le hka (Nat.pow_le_pow_right (by decide) hk1)
  have hB : vb.natAbs < 2147483648 ^ 47 := Nat.lt_of_lt_of_le hkb (Nat.pow_le_pow_right (by decide) hk2)
  obtain ⟨w1, a1, a2, a3⟩ := gw_copyW (F := F) (z := gv_z) (p := 16) (q := 17) (p' := p1) (q' := q1) (u := u) (by omega) (by omega) (by omega) (hr.get rfl gv_r16_0) hr1 da (by omega) (by rw [gv_l17]; omega)
  have q1' := a2.wr (lo := 10) (hi := 19) (by omega) (by omega) (by omega) (by omega)
  have r1 := hr.wr q1'
  obtain ⟨w2, b1, b2, b3⟩ := gw_copyW (F := F) (z := gv_z) (p := 18) (q := 19) (p' := p2) (q' := q2) (u := w1) (by omega) (by omega) (by omega) (r1.get rfl gv_r18_0) (by rw [a2.1]; exact hr2) (db.wr q1' hp2 hq2) (by omega) (by rw [gv_l19]; omega)
  have q2' := q1'.trans (b2.wr (lo := 10) (hi := 19) (by omega) (by omega) (by omega) (by omega))
  have r2 := hr.wr q2'
  have a3' : Wh w2 16 17 va := ⟨na, a3.fr b2 (by omega) (by omega) (by omega) (by omega)⟩
  have b3' : Wh w2 18 19 vb := ⟨nb, b3⟩
  have hloop : ∃ w, gf_Calculator_findDivisor_L19 F gv_z F w2 9 p3 (Int32.ofNat 0) = gf_Calculator_findDivisor_b77 F gv_z w 9 p3 ∧ Wr 10 19 w2 w ∧ ∃ g : Int, Wh w 16 17 g ∧ g.natAbs = Int.gcd va vb := by
    have hpw : (2147483648 ^ 47 : Nat) * 2147483648 ^ 47 = 2 ^ 2914 := by decide +kernel
    by_cases c : vb.natAbs ≤ va.natAbs
    · exact gw_gcdL hF 2914 0 F w2 va vb r2 a3' b3' hA c (by rw [← hpw]; exact Nat.mul_lt_mul'' hA hB) (by omega) (by omega)
    · have hb0 : vb ≠ 0 := fun h => by subst h; omega
      obtain ⟨F', hF'⟩ : ∃ f, F = f + 1 := ⟨F - 1, by omega⟩
      obtain ⟨w3, c1, c2, c3, c4⟩ := gw_gcdS (F := F) hF (p3 := p3) (i := 0) (f := F') r2 a3' b3' hA hB hb0 (by omega)
      have hm : (va.tmod vb).natAbs = va.natAbs := by rw [Int.natAbs_tmod, Nat.mod_eq_of_lt (by omega)]
      obtain ⟨w4, d1, d2, g, d3, d4⟩ := gw_gcdL (F := F) hF (p3 := p3) 2914 1 F' w3 vb (va.tmod vb) (r2.wr c2) c3 c4 hB (by omega) (by rw [hm, ← hpw]; exact Nat.mul_lt_mul'' hB hA) (by omega) (by omega)
      refine ⟨w4, ?_, c2.trans d2, g, d3, ?_⟩
      · rw [← d1, ← c1]
        congr 1
      · rw [d4]
        show Nat.gcd vb.natAbs (va.tmod vb).natAbs = Nat.gcd va.natAbs vb.natAbs
        rw [hm, Nat.gcd_comm]
  obtain ⟨w3, c1, c2, g, c3, c4⟩ := hloop
  have q3' := q2'.trans c2
  have r3 := hr.wr q3'
  have hgcap : g.natAbs < 2147483648 ^ (if ka ≤ kb then kb else ka) := by
    rw [c4]
    show Nat.gcd va.natAbs vb.natAbs < _
    have hge : ∀ x, va.natAbs < x → vb.natAbs < x → Nat.gcd va.natAbs vb.natAbs < x := by
      intro x hx hy
      by_cases h0 : va.natAbs = 0
      · rw [h0, Nat.gcd_zero_left]; exact hy
      · exact Nat.lt_of_le_of_lt (Nat.gcd_le_left _ (by omega)) hx
    apply hge
    · exact Nat.lt_of_lt_of_le hka (Nat.pow_le_pow_right (by decide) (by split <;> omega))
    · exact Nat.lt_of_lt_of_le hkb (Nat.pow_le_pow_right (by decide) (by split <;> omega))
  obtain ⟨ng, hng, dg⟩ := c3.cap hgcap
  have hng2 : ng ≤ gv_z.2.2 q3 ∧ ng ≤ 47 := by split at hng <;> omega
  obtain ⟨w4, d1, d2, d3⟩ := gw_copyW (F := F) (z := gv_z) (p := p3) (q := q3) (p' := 16) (q' := 17) (u := w3) hpq3 (by omega) (by omega) (by rw [q3'.1]; exact hr3) (r3.get rfl gv_r16_0) dg (by rw [gv_l17]; omega) hng2.1
  obtain ⟨sx, hsx⟩ : ∃ sx, sx = (if 0 ≤ (w4.1 p3 2) then (w4.1 p3 2) else 0 - (w4.1 p3 2)) := ⟨_, rfl⟩
  refine ⟨gw_wi w4 p3 2 sx, ?_, ⟨w3, q3', d2.trans (Wf.wf (Or.inr rfl))⟩, ng, d3.1, ?_, fun i hi => ?_, fun h => ?_, ?_⟩
  · show gf_Calculator_findDivisor_b0 F gv_z u 9 p1 p2 p3 = _
    unfold gf_Calculator_findDivisor_b0
    rw [hr.get rfl gv_r9_3]
    simp only [gf_nn]
    rw [a1]
    show gf_nn (w1.2.2 9 4) _ = _
    rw [r1.get rfl gv_r9_4]
    simp only [gf_nn]
    rw [b1]
    show gf_Calculator_findDivisor_L19 F gv_z F w2 9 p3 (Int32.ofNat 0) = _
    rw [c1]
    unfold gf_Calculator_findDivisor_b77
    rw [r3.get rfl gv_r9_3]
    simp only [gf_nn]
    rw [d1]
    simp only [Option.bind_some, gf_nm]
    rw [← hsx]
  · simp only [gw_wi]
    rw [if_neg (by omega)]
    exact d3.2.1
  · simp only [gw_wi]
    rw [if_neg (by omega)]
    exact d3.2.2.1 i hi
  · unfold lm
    simp only [gw_wi]
    rw [if_neg (by omega)]
    exact d3.2.2.2.1 h
  · have ew : wv (gw_wi w4 p3 2 sx) q3 ng = wv w4 q3 ng := wv_congr (fun i _ => by simp only [gw_wi]; rw [if_neg (by omega)])
    have es : (gw_wi w4 p3 2 sx).1 p3 2 = sx := by simp [gw_wi]
    have habs := d3.abs
    rw [es, ew, ← habs, c4]
    rcases d3.2.2.2.2 with ⟨x1, x2, x3⟩ | ⟨x1, x2, x3⟩ | ⟨x1, x2, x3⟩
    · left
      rw [x2] at hsx
      refine ⟨x1, by rw [hsx]; rfl, ?_⟩
      rw [x3] at c4
      have : Int.gcd va vb = 0 := c4.symm
      rw [this]; rfl
    · right; left
      rw [x2] at hsx
      exact ⟨x1, by rw [hsx]; rfl, rfl⟩
    · right; left
      rw [x2] at hsx
      exact ⟨x1, by rw [hsx]; rfl, rfl⟩
