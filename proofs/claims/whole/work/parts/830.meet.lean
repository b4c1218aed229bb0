theorem dif_lt {a b c d : Int} (ha : a.natAbs < 2147483648 ^ 9) (hd : d.natAbs < 2147483648 ^ 9) (hc : c.natAbs < 2147483648 ^ 9) (hb : b.natAbs < 2147483648 ^ 9) : (a * d - c * b).natAbs < 2147483648 ^ 19 := by
  have l1 := absmul ha hd
  have l2 := absmul hc hb
  have e : (2147483648 : Nat) ^ 19 = 2147483648 * 2147483648 ^ 18 := by rw [show 19 = 18 + 1 from rfl, Nat.pow_succ, Nat.mul_comm]
  have e2 : (2147483648 : Nat) ^ (9 + 9) = 2147483648 ^ 18 := rfl
  rw [e2] at l1 l2
  rw [e]
  generalize (2147483648 : Nat) ^ 18 = T at *
  omega
theorem gs_meet {F : Nat} (hF : 20000 ≤ F) {u : gw_St} {n r B : Nat} (hr : gv_Rf u) (hw : gv_Wk u n r) (hl : gv_Dl u n) (hs : gv_Sp u n B) (hR : gv_Rs u) (x y : Int32) : ∃ k a u1 u2, gf_Law_meet F gv_z u 0 x y 701 = some (k, u1) ∧ gf_Model_meet F gv_z u1 670 x y = some (a, u2) ∧ u2.1 670 0 = k ∧ (k = 0 → u2.2.1 701 0 = if a = 0 then 0 else 1) ∧ Hf u u2 ∧ gv_Rs u2 := by
  have em : (-1 : Int32).toInt = -1 := rfl
  have rv : gv_Rf (gw_wi u 670 0 0) := hr.eq rfl
  have hn := hw.1
  -- a dial in use, on both sides
  have use : ∀ z : Int32, (0 ≤ z.toInt ∧ z.toInt < 12 ∧ u.1 57 z.toNatClampNeg ≠ -1) → ∃ k g, z = Int32.ofNat k ∧ k < 12 ∧ u.1 57 k = Int32.ofNat g ∧ u.1 679 k = Int32.ofNat g ∧ g < n := by
    intro z cd
    obtain ⟨k, rfl, hk⟩ : ∃ k, z = Int32.ofNat k ∧ k < 12 := ⟨z.toInt.toNat, i32_ext (by rw [i32_nat (by omega)]; omega), by omega⟩
    have cd3 := cd.2.2
    rw [i32_clamp (by omega)] at cd3
    have hlk := hl k hk
    have hg0 : 0 ≤ (u.1 57 k).toInt := by
      rcases Int.lt_or_le (u.1 57 k).toInt 0 with q | q
      · exact absurd (i32_ext (by rw [em]; omega)) cd3
      · exact q
    obtain ⟨g, hgk, hgn⟩ : ∃ g, u.1 57 k = Int32.ofNat g ∧ g < n := ⟨(u.1 57 k).toInt.toNat, i32_ext (by rw [i32_nat (by omega)]; omega), by omega⟩
    exact ⟨k, g, rfl, hk, hgk, by rw [hlk.1, hgk], hgn⟩
  have unuse : ∀ z : Int32, ¬ (0 ≤ z.toInt ∧ z.toInt < 12 ∧ u.1 57 z.toNatClampNeg ≠ -1) → ¬ (0 ≤ z.toInt ∧ z.toInt < 12 ∧ ¬ (gw_wi u 670 0 0).1 679 z.toNatClampNeg < 0) := by
    rintro z cd ⟨q1, q2, q3⟩
    have hx : z.toNatClampNeg < 12 := by
      have : z.toNatClampNeg = z.toInt.toNat := rfl
      omega
    have hlk := hl _ hx
    refine cd ⟨q1, q2, fun e => q3 ?_⟩
    rw [show (gw_wi u 670 0 0).1 679 z.toNatClampNeg = u.1 57 z.toNatClampNeg from hlk.1, e]
    decide
  have inuse : ∀ z : Int32, (0 ≤ z.toInt ∧ z.toInt < 12 ∧ u.1 57 z.toNatClampNeg ≠ -1) → (0 ≤ z.toInt ∧ z.toInt < 12 ∧ ¬ (gw_wi u 670 0 0).1 679 z.toNatClampNeg < 0) := by
    intro z cd
    obtain ⟨k, g, rfl, hk, h1, h2, h3⟩ := use z cd
    refine ⟨cd.1, cd.2.1, ?_⟩
    rw [i32_clamp (by omega), show (gw_wi u 670 0 0).1 679 k = u.1 679 k from rfl, h2]
    exact gi_n0 (by omega)
  by_cases c1 : 0 ≤ x.toInt ∧ x.toInt < 12 ∧ u.1 57 x.toNatClampNeg ≠ -1
  · by_cases c2 : 0 ≤ y.toInt ∧ y.toInt < 12 ∧ u.1 57 y.toNatClampNeg ≠ -1
    · obtain ⟨k, g, rfl, hk, kg1, kg2, hg⟩ := use x c1
      obtain ⟨l, h, rfl, hl', lh1, lh2, hh⟩ := use y c2
      obtain ⟨hB, s1, s2, s3, s4, s5, s6⟩ := id hs
      obtain ⟨k1, k2, k3, k4⟩ := gv_spK hr hB
      obtain ⟨f1, f2, f3, f4⟩ := gv_spF hr hB (show g < 60 by omega)
      obtain ⟨f1', f2', f3', f4'⟩ := gv_spF hr hB (show h < 60 by omega)
      have D0 : gf_Desk_meet F gv_z u 0 (Int32.ofNat k) (Int32.ofNat l) = if u.1 (B + 1) g = 0 then some (.inl 0, u) else if u.1 (B + 1) h = 0 then some (.inl 0, u) else gf_cl (gf_Hands_turnsToMeet F gv_z u 45 (B + 3 + 5 * g) (B + 3 + 5 * h)) fun a50 u48 => if a50 = 0 then some (.inl 0, u48) else (gf_ct (gf_Desk_keepFound F gv_z u48 0) fun a54 u52 => some (.inl (1 : Int32), u52)) := by
        show gf_Desk_meet_b0 F gv_z u 0 (Int32.ofNat k) (Int32.ofNat l) = _
        unfold gf_Desk_meet_b0 gf_Desk_meet_b79
        rw [gs_needDial hr, if_pos c1]
        simp only [gf_ct]
        rw [gs_needDial hr, if_pos c2]
        dsimp only
        rw [hr.get rfl gv_r0_4, gnn, if_neg (gi_ix (by rw [gv_l57]; omega) (by omega)), i32_clamp (by omega)]
        simp only [gf_nm]
        rw [gnn, if_neg (gi_ix (by rw [gv_l57]; omega) (by omega)), i32_clamp (by omega), kg1, lh1, s1, gnn, k1, gnn, if_neg (gi_ix (by rw [k3]; omega) (by omega)), i32_clamp (by omega)]
        by_cases q1 : u.1 (B + 1) g = 0
        · rw [if_pos q1, if_pos q1, if_neg (by decide)]
        · rw [if_neg q1, if_neg q1, gnn, k1, gnn, if_neg (gi_ix (by rw [k3]; omega) (by omega)), i32_clamp (by omega)]
          by_cases q2 : u.1 (B + 1) h = 0
          · rw [if_pos q2, if_pos q2, if_neg (by decide)]
          · rw [if_neg q2, if_neg q2, hr.get rfl gv_r0_3, gnn, gnn, k2, gnn, if_neg (gi_ic (by rw [k4]; omega) (by omega)), f1, show B + 4 + 5 * g = (B + 3 + 5 * g) + 1 by omega, gnn, gnn, k2, gnn, if_neg (gi_ic (by rw [k4]; omega) (by omega)), f1', show B + 4 + 5 * h = (B + 3 + 5 * h) + 1 by omega, gnn]
            rfl
      have M0 : u.1 681 g = 0 ∨ u.1 681 h = 0 → ∀ w : gw_St, w.1 = u.1 → gv_Rf w → gf_Model_meet F gv_z w 670 (Int32.ofNat k) (Int32.ofNat l) = some (0, gw_wi w 670 0 0) := by
        intro hz w hw1 hrw
        have rw' : gv_Rf (gw_wi w 670 0 0) := hrw.eq rfl
        have iw : ∀ p q, ¬ (p = 670 ∧ q = 0) → (gw_wi w 670 0 0).1 p q = u.1 p q := fun p q h => by
          simp only [gw_wi]
          rw [if_neg h, hw1]
        have dial : ∀ j z, j < 12 → z < 60 → u.1 679 j = Int32.ofNat z → gf_Model_isDial F gv_z (gw_wi w 670 0 0) 670 (Int32.ofNat j) = some (1, gw_wi w 670 0 0) := by
          intro j z hj hz hjz
          rw [gs_isDial rw', if_pos ⟨by rw [i32_nat (by omega)]; omega, by rw [i32_nat (by omega)]; omega, by rw [i32_clamp (by omega), iw 679 j (by omega), hjz]; exact gi_n0 (by omega)⟩]
        show gf_Model_meet_b0 F gv_z w 670 (Int32.ofNat k) (Int32.ofNat l) = _
        unfold gf_Model_meet_b0 gf_Model_meet_b69
        simp only [gf_nm]
        rw [dial k g hk (by omega) kg2]
        simp only [gf_cl]
        rw [if_neg (by decide), dial l h hl' (by omega) lh2]
        dsimp only
        rw [if_neg (by decide), rw'.get rfl gv_r670_26, gnn, if_neg (gi_ix (by rw [gv_l679]; omega) (by omega)), gnn, if_neg (gi_ix (by rw [gv_l679]; omega) (by omega)), i32_clamp (by omega), i32_clamp (by omega), iw 679 k (by omega), iw 679 l (by omega), kg2, lh2, rw'.get rfl gv_r670_28, gnn, if_neg (gi_ix (by rw [gv_l681]; omega) (by omega)), i32_clamp (by omega), iw 681 g (by omega)]
        by_cases q1 : u.1 681 g = 0
        · rw [if_pos q1, if_neg (by decide)]
        · rw [if_neg q1, gnn, if_neg (gi_ix (by rw [gv_l681]; omega) (by omega)), i32_clamp (by omega), iw 681 h (by omega), if_pos (hz.resolve_left q1), if_neg (by decide)]
      have zero : (u.1 681 g = 0 ∨ u.1 681 h = 0) → gf_Desk_meet F gv_z u 0 (Int32.ofNat k) (Int32.ofNat l) = some (.inl 0, u) → ∃ k' a u1 u2, gf_Law_meet F gv_z u 0 (Int32.ofNat k) (Int32.ofNat l) 701 = some (k', u1) ∧ gf_Model_meet F gv_z u1 670 (Int32.ofNat k) (Int32.ofNat l) = some (a, u2) ∧ u2.1 670 0 = k' ∧ (k' = 0 → u2.2.1 701 0 = if a = 0 then 0 else 1) ∧ Hf u u2 ∧ gv_Rs u2 := by
        intro hz hD
        have m := M0 hz (gw_wl u 701 0 (if (0 : Int32) = 0 then 0 else 1)) rfl (hr.eq rfl)
        refine ⟨_, _, _, _, lw_meet_v hD gv_zo, m, rfl, fun _ => rfl, ⟨rfl, fun p q h1 h2 => ?_, fun p q _ _ _ _ h5 => ?_⟩, hR.same (fun p q hp => ?_)⟩
        · simp only [gw_wi, gw_wl]
          rw [if_neg (by omega)]
        · simp only [gw_wi, gw_wl]
          rw [if_neg h5]
        · simp only [gw_wi, gw_wl]
          rw [if_neg (by omega)]
      by_cases q1 : u.1 (B + 1) g = 0
      · rw [if_pos q1] at D0
        exact zero (Or.inl (by rw [s5 g hg]; exact q1)) D0
      · rw [if_neg q1] at D0
        by_cases q2 : u.1 (B + 1) h = 0
        · rw [if_pos q2] at D0
          exact zero (Or.inr (by rw [s5 h hh]; exact q2)) D0
        · rw [if_neg q2] at D0
          have hk1 : u.1 (B + 1) g = 1 := (s3 g (by omega)).resolve_left q1
          have hk2 : u.1 (B + 1) h = 1 := (s3 h (by omega)).resolve_left q2
          obtain ⟨a, b, hv, hfs⟩ := hs.fs hr hn hg hk1
          obtain ⟨c, d, hv', hfs'⟩ := hs.fs hr hn hh hk2
          obtain ⟨v1, v2, v3, v4, v5, v6, v7⟩ := hv
          obtain ⟨x1, x2, x3, x4, x5, x6, x7⟩ := hv'
          obtain ⟨w1, p1, p2, p3⟩ := gh_meet (F := F) hF (u := u) (p := B + 3 + 5 * g) (p' := B + 3 + 5 * h) hr hfs hfs'
          obtain ⟨DD, hDD⟩ : ∃ DD, DD = (a * d - c * b).natAbs := ⟨_, rfl⟩
          obtain ⟨EE, hEE⟩ : ∃ EE, EE = b.natAbs * d.natAbs := ⟨_, rfl⟩
          rw [p2] at D0
          simp only [gf_cl] at D0
          have iu1 : ∀ p q, ¬ (10 ≤ p ∧ p ≤ 56) → w1.1 p q = u.1 p q := fun p q h1 => p1.2 p q h1
          have model : ∀ w3 : gw_St, gv_Rf w3 → (∀ p q, ¬ (10 ≤ p ∧ p ≤ 56) → ¬ (59 ≤ p ∧ p ≤ 63) → w3.1 p q = u.1 p q) → _ := fun w3 hr3 iu => gm_meet (F := F) hF (w := w3) (k := k) (l := l) (g := g) (h := h) (a := a) (b := b) (c := c) (d := d) hr3 hk hl' (by omega) (by omega) (by rw [iu 679 k (by omega) (by omega)]; exact kg2) (by rw [iu 679 l (by omega) (by omega)]; exact lh2) (by rw [iu 681 g (by omega) (by omega), s5 g hg]; exact q1) (by rw [iu 681 h (by omega) (by omega), s5 h hh]; exact q2) v2 x2 (by rw [iu 682 g (by omega) (by omega)]; exact v5) (by rw [iu 682 h (by omega) (by omega)]; exact x5) (v6.same (fun q => iu 683 q (by omega) (by omega))) (v7.same (fun q => iu 684 q (by omega) (by omega))) (x6.same (fun q => iu 683 q (by omega) (by omega))) (x7.same (fun q => iu 684 q (by omega) (by omega))) hDD hEE
          by_cases cD : a * d - c * b = 0
          · rw [if_pos cD, if_pos rfl] at D0
            have hD0 : DD = 0 := by rw [hDD, cD]; rfl
            obtain ⟨w3, hw3⟩ : ∃ w3, w3 = gw_wl w1 701 0 (if (0 : Int32) = 0 then 0 else 1) := ⟨_, rfl⟩
            have hr3 : gv_Rf w3 := by rw [hw3]; exact hr.eq (by show w1.2.2 = u.2.2; rw [p1.1])
            obtain ⟨w4, m1, m2, m3⟩ := model w3 hr3 (fun p q h1 h2 => by rw [hw3]; exact iu1 p q h1)
            rw [if_pos hD0] at m1 m3
            have hlaw := lw_meet_v D0 gv_zo
            rw [← hw3] at hlaw
            refine ⟨_, _, _, _, hlaw, m1, m3.1, fun _ => ?_, ⟨?_, fun p q h1 h2 => ?_, fun p q h1 h2 h3 h4 h5 => ?_⟩, ?_⟩
            · rw [m2.2.1 701 0 (by omega), hw3]; rfl
            · rw [m2.1, hw3]
              show w1.2.2 = u.2.2
              rw [p1.1]
            · rw [m2.2.1 p q h1, hw3]
              simp only [gw_wl]
              rw [if_neg (by omega), p1.1]
            · rw [m3.2 p q h5, hw3]
              exact iu1 p q h1
            · exact hR.same (fun p q hp => by rw [m3.2 p q (by omega), hw3]; exact iu1 p q (by omega))
          · rw [if_neg cD, if_neg (by decide)] at D0
            have hD0 : DD ≠ 0 := by rw [hDD]; omega
            have p4 := p3 cD
            have hbd : b * d = (EE : Int) := by
              rw [hEE, Int.natCast_mul, Int.natAbs_of_nonneg (Int.le_of_lt v2), Int.natAbs_of_nonneg (Int.le_of_lt x2)]
            rw [hbd, ← hDD] at p4
            have eg : Int.gcd (EE : Int) (DD : Int) = Nat.gcd EE DD := rfl
            have t1 : ((EE : Nat) : Int).tdiv ((Nat.gcd EE DD : Nat) : Int) = ((EE / Nat.gcd EE DD : Nat) : Int) := rfl
            have t2 : ((DD : Nat) : Int).tdiv ((Nat.gcd EE DD : Nat) : Int) = ((DD / Nat.gcd EE DD : Nat) : Int) := rfl
            rw [eg, t1, t2] at p4
            obtain ⟨P, hP⟩ : ∃ P, P = EE / Nat.gcd EE DD := ⟨_, rfl⟩
            obtain ⟨Q, hQ⟩ : ∃ Q, Q = DD / Nat.gcd EE DD := ⟨_, rfl⟩
            rw [← hP, ← hQ] at p4
            have hEl : EE < 2147483648 ^ 18 := by
              have := absmul hfs.2.2.2.2.1 hfs'.2.2.2.2.1
              rw [hbd] at this
              exact this
            have hDl : DD < 2147483648 ^ 19 := by
              rw [hDD]
              exact dif_lt hfs.2.2.2.1 hfs'.2.2.2.2.1 hfs'.2.2.2.1 hfs.2.2.2.2.1
            have hPl : P < 2147483648 ^ 19 := by
              have h2 := Nat.div_le_self EE (Nat.gcd EE DD)
              have h3 : (2147483648 : Nat) ^ 18 ≤ 2147483648 ^ 19 := Nat.pow_le_pow_right (by decide) (by omega)
              omega
            have hQl : Q < 2147483648 ^ 19 := by
              have h2 := Nat.div_le_self DD (Nat.gcd EE DD)
              omega
            have r1 := hr.wr p1
            obtain ⟨w2, o1, o2, o3⟩ := gd_keep (F := F) (u := w1) (k := 19) r1 p4 (by omega) hPl hQl
            have ePa : ((P : Nat) : Int).natAbs = P := rfl
            have eQa : ((Q : Nat) : Int).natAbs = Q := rfl
            rw [ePa, eQa] at o1 o3
            rw [o1] at D0
            have iu : ∀ p q, ¬ (10 ≤ p ∧ p ≤ 56) → ¬ (59 ≤ p ∧ p ≤ 63) → w2.1 p q = u.1 p q := fun p q h1 h2 => (o2.2 p q h2).trans (p1.2 p q h1)
            have w22 : w2.2 = u.2 := by rw [o2.1, p1.1]
            by_cases cl : 2 ^ 256 ≤ P ∨ 2 ^ 256 ≤ Q
            · rw [if_pos cl] at D0
              simp only [gf_ct] at D0
              obtain ⟨w4, m1, m2, m3⟩ := model w2 (hr.eq (by rw [w22])) iu
              rw [← hP, ← hQ, if_neg hD0, if_pos cl] at m1 m3
              refine ⟨_, _, _, _, lw_meet_4 D0, m1, m3.1, fun q => absurd q (by decide), ⟨by rw [m2.1, w22], fun p q h1 h2 => by rw [m2.2.1 p q h1, w22], fun p q h1 h2 h3 h4 h5 => by rw [m3.2 p q h5, iu p q h1 h2]⟩, ?_⟩
              rw [if_pos cl] at o3
              exact hR.same (fun p q hp => by rw [m3.2 p q (by omega), o3, p1.2 p q (by omega)])
            · rw [if_neg cl] at D0
              simp only [gf_ct] at D0
              obtain ⟨w3, hw3⟩ : ∃ w3, w3 = gw_wl w2 701 0 (if (1 : Int32) = 0 then 0 else 1) := ⟨_, rfl⟩
              have hr3 : gv_Rf w3 := by rw [hw3]; exact hr.eq (by show w2.2.2 = u.2.2; rw [w22])
              obtain ⟨w4, m1, m2, m3⟩ := model w3 hr3 (fun p q h1 h2 => by rw [hw3]; exact iu p q h1 h2)
              rw [← hP, ← hQ, if_neg hD0, if_neg cl] at m1 m3
              have hlaw := lw_meet_v D0 gv_zo
              rw [← hw3] at hlaw
              refine ⟨_, _, _, _, hlaw, m1, m3.1, fun _ => ?_, ⟨?_, fun p q h1 h2 => ?_, fun p q h1 h2 h3 h4 h5 => ?_⟩, ?_⟩
              · rw [m2.2.1 701 0 (by omega), hw3]; rfl
              · rw [m2.1, hw3]
                show w2.2.2 = u.2.2
                rw [w22]
              · rw [m2.2.1 p q h1, hw3]
                simp only [gw_wl]
                rw [if_neg (by omega), w22]
              · rw [m2.2.2 p q h3 h4 h5, hw3]
                exact iu p q h1 h2
              · rw [if_neg cl] at o3
                refine ⟨P, Q, o3.same (fun p q h1 h2 => ?_), by omega, by omega, by omega, by omega, m3.2.1, m3.2.2⟩
                rw [m2.2.2 p q (by omega) (by omega) (by omega), hw3]
                rfl
    · have hD : gf_Desk_meet F gv_z u 0 x y = some (.inr 3, u) := by
        show gf_Desk_meet_b0 F gv_z u 0 x y = _
        unfold gf_Desk_meet_b0
        rw [gs_needDial hr, if_pos c1]
        simp only [gf_ct]
        rw [gs_needDial hr, if_neg c2]
      have hM : gf_Model_meet F gv_z u 670 x y = some (0, gw_wi (gw_wi u 670 0 0) 670 0 1) := by
        show gf_Model_meet_b0 F gv_z u 670 x y = _
        unfold gf_Model_meet_b0
        simp only [gf_nm]
        rw [gs_isDial rv, if_pos (inuse x c1)]
        simp only [gf_cl]
        rw [if_neg (by decide), gs_isDial rv, if_neg (unuse y c2)]
        rfl
      exact ⟨_, _, _, _, lw_meet_3 hD, hM, rfl, fun q => absurd q (by decide), (gs_refused hR).1, (gs_refused hR).2⟩
  · have hD : gf_Desk_meet F gv_z u 0 x y = some (.inr 3, u) := by
      show gf_Desk_meet_b0 F gv_z u 0 x y = _
      unfold gf_Desk_meet_b0
      rw [gs_needDial hr, if_neg c1]
      rfl
    have hM : gf_Model_meet F gv_z u 670 x y = some (0, gw_wi (gw_wi u 670 0 0) 670 0 1) := by
      show gf_Model_meet_b0 F gv_z u 670 x y = _
      unfold gf_Model_meet_b0
      simp only [gf_nm]
      rw [gs_isDial rv, if_neg (unuse x c1)]
      rfl
    exact ⟨_, _, _, _, lw_meet_3 hD, hM, rfl, fun q => absurd q (by decide), (gs_refused hR).1, (gs_refused hR).2⟩
