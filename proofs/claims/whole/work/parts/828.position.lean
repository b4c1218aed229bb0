/-- what position, meet and back may change -/
def Hf (u w : gw_St) : Prop := w.2.2 = u.2.2 ∧ (∀ p k, p ≠ 700 → p ≠ 701 → w.2.1 p k = u.2.1 p k) ∧ (∀ p k, ¬ (10 ≤ p ∧ p ≤ 56) → ¬ (59 ≤ p ∧ p ≤ 63) → p ≠ 689 → p ≠ 690 → ¬ (p = 670 ∧ k = 0) → w.1 p k = u.1 p k)
theorem Wd.same {u w : gw_St} {p q n : Nat} {v : Int} (h : Wd u p q n v) (h1 : ∀ k, w.1 p k = u.1 p k) (h2 : ∀ k, w.1 q k = u.1 q k) : Wd w p q n v := by
  obtain ⟨a1, a2, a3, a4, a5⟩ := h
  have el : ∀ i, lm w q i = lm u q i := fun i => by unfold lm; rw [h2]
  have ev : wv w q n = wv u q n := wv_congr (fun i _ => h2 i)
  refine ⟨a1, (h1 1).trans a2, fun i hi => by rw [h2]; exact a3 i hi, fun h => by rw [el]; exact a4 h, ?_⟩
  rw [h1 2, ev]
  exact a5
theorem Wh.same {u w : gw_St} {p q : Nat} {v : Int} (h : Wh u p q v) (h1 : ∀ k, w.1 p k = u.1 p k) (h2 : ∀ k, w.1 q k = u.1 q k) : Wh w p q v := h.elim fun n hn => ⟨n, hn.same h1 h2⟩
theorem Fr.same {u w : gw_St} {p : Nat} {a b : Int} (h : Fr u p a b) (h1 : ∀ q k, p < q → q ≤ p + 4 → w.1 q k = u.1 q k) : Fr w p a b := ⟨h.1.same (fun k => h1 _ k (by omega) (by omega)) (fun k => h1 _ k (by omega) (by omega)), h.2.same (fun k => h1 _ k (by omega) (by omega)) (fun k => h1 _ k (by omega) (by omega))⟩
theorem Iw.same {u w : gw_St} {t a v : Nat} (h : Iw u t a v) (h1 : ∀ k, w.1 t k = u.1 t k) : Iw w t a v := by
  unfold Iw
  simp only [h1]
  exact h
theorem gv_Rs.same {u w : gw_St} (h : gv_Rs u) (h1 : ∀ p k, (59 ≤ p ∧ p ≤ 63) ∨ p = 689 ∨ p = 690 → w.1 p k = u.1 p k) : gv_Rs w := by
  obtain ⟨a, b, h2, h3, h4, h5, h6, h7, h8⟩ := h
  exact ⟨a, b, h2.same (fun q k q1 q2 => h1 q k (by omega)), h3, h4, h5, h6, h7.same (fun k => h1 _ k (by omega)), h8.same (fun k => h1 _ k (by omega))⟩
theorem gs_refused {u : gw_St} {v k : Int32} (h : gv_Rs u) : Hf u (gw_wi (gw_wi u 670 0 v) 670 0 k) ∧ gv_Rs (gw_wi (gw_wi u 670 0 v) 670 0 k) := by
  have e : ∀ p q, ¬ (p = 670 ∧ q = 0) → (gw_wi (gw_wi u 670 0 v) 670 0 k).1 p q = u.1 p q := fun p q hq => by
    simp only [gw_wi]
    rw [if_neg hq, if_neg hq]
  exact ⟨⟨rfl, fun _ _ _ _ => rfl, fun p q _ _ _ _ h5 => e p q h5⟩, h.same (fun p q hp => e p q (by omega))⟩
/-- a speed as the hands take it -/
theorem gv_Sp.fs {u : gw_St} {n B g : Nat} (hr : gv_Rf u) (hs : gv_Sp u n B) (hn : n ≤ 60) (hg : g < n) (hk : u.1 (B + 1) g = 1) : ∃ a b, gv_Sv u B g a b ∧ Fs u (B + 3 + 5 * g) a b := by
  obtain ⟨hB, s1, s2, s3, s4, s5, s6⟩ := hs
  obtain ⟨a, b, hv⟩ := s6 g hg hk
  obtain ⟨f1, f2, f3, f4⟩ := gv_spF hr hB (show g < 60 by omega)
  exact ⟨a, b, hv, by omega, f2, hv.1, p256' hv.2.2.1, p256' hv.2.2.2.1, f3, f4⟩
theorem tdn {a b : Int} (ha : 0 ≤ a) (hb : 0 ≤ b) : a.tdiv b = ((a.toNat / b.toNat : Nat) : Int) ∧ a.tmod b = ((a.toNat % b.toNat : Nat) : Int) := by
  obtain ⟨m, rfl⟩ := Int.eq_ofNat_of_zero_le ha
  obtain ⟨n, rfl⟩ := Int.eq_ofNat_of_zero_le hb
  exact ⟨rfl, rfl⟩
theorem gs_position {F : Nat} (hF : 20000 ≤ F) {u : gw_St} {n r B : Nat} (hr : gv_Rf u) (hw : gv_Wk u n r) (hl : gv_Dl u n) (hs : gv_Sp u n B) (hR : gv_Rs u) (x y z : Int32) : ∃ k a u1 u2, gf_Law_position F gv_z u 0 x y z 701 = some (k, u1) ∧ gf_Model_position F gv_z u1 670 x y z = some (a, u2) ∧ u2.1 670 0 = k ∧ (k = 0 → lg_cmp (u2.2.1 701 0) a.toInt64 = 0) ∧ Hf u u2 ∧ gv_Rs u2 := by
  have em : (-1 : Int32).toInt = -1 := rfl
  have e1 : (1 : Int32).toInt = 1 := rfl
  have e0 : (0 : Int32).toInt = 0 := rfl
  have rv : gv_Rf (gw_wi u 670 0 0) := hr.eq rfl
  by_cases cd : 0 ≤ x.toInt ∧ x.toInt < 12 ∧ u.1 57 x.toNatClampNeg ≠ -1
  · obtain ⟨k, rfl, hk⟩ : ∃ k, x = Int32.ofNat k ∧ k < 12 := ⟨x.toInt.toNat, i32_ext (by rw [i32_nat (by omega)]; omega), by omega⟩
    have cd3 := cd.2.2
    rw [i32_clamp (by omega)] at cd3
    have hlk := hl k hk
    have hg0 : 0 ≤ (u.1 57 k).toInt := by
      rcases Int.lt_or_le (u.1 57 k).toInt 0 with q | q
      · exact absurd (i32_ext (by rw [em]; omega)) cd3
      · exact q
    obtain ⟨g, hgk, hgn⟩ : ∃ g, u.1 57 k = Int32.ofNat g ∧ g < n := ⟨(u.1 57 k).toInt.toNat, i32_ext (by rw [i32_nat (by have := hw.1; omega)]; omega), by omega⟩
    have hn := hw.1
    have hdv := hlk.2.2.2.2 (by omega)
    obtain ⟨d, hdk, hd⟩ : ∃ d, u.1 58 k = Int32.ofNat d ∧ d ≤ 100000 := ⟨(u.1 58 k).toInt.toNat, i32_ext (by rw [i32_nat (by omega)]; omega), by omega⟩
    obtain ⟨hB, s1, s2, s3, s4, s5, s6⟩ := id hs
    obtain ⟨k1, k2, k3, k4⟩ := gv_spK hr hB
    obtain ⟨f1, f2, f3, f4⟩ := gv_spF hr hB (show g < 60 by omega)
    have M0 : gf_Model_position F gv_z u 670 (Int32.ofNat k) y z = if (1 : Int32) ≤ z then (if u.1 681 g = 0 then some (0, gw_wi (gw_wi u 670 0 0) 670 0 3) else gf_Model_position F gv_z u 670 (Int32.ofNat k) y z) else some (0, gw_wi (gw_wi u 670 0 0) 670 0 2) := by
      show gf_Model_position_b0 F gv_z u 670 (Int32.ofNat k) y z = if (1 : Int32) ≤ z then (if u.1 681 g = 0 then some (0, gw_wi (gw_wi u 670 0 0) 670 0 3) else gf_Model_position_b0 F gv_z u 670 (Int32.ofNat k) y z) else some (0, gw_wi (gw_wi u 670 0 0) 670 0 2)
      unfold gf_Model_position_b0
      simp only [gf_nm]
      rw [gs_isDial rv, if_pos ⟨by rw [i32_nat (by omega)]; omega, by rw [i32_nat (by omega)]; omega, by rw [i32_clamp (by omega), show (gw_wi u 670 0 0).1 679 k = u.1 57 k from hlk.1, hgk]; exact gi_n0 (by omega)⟩]
      simp only [gf_cl]
      rw [if_neg (by decide)]
      by_cases cz : (1 : Int32) ≤ z
      · rw [if_pos cz, if_pos cz]
        by_cases cs : u.1 681 g = 0
        · rw [if_pos cs, rv.get rfl gv_r670_26]
          simp only [gf_nn]
          rw [if_neg (gi_ix (by rw [gv_l679]; omega) (by omega)), i32_clamp (by omega), show (gw_wi u 670 0 0).1 679 k = u.1 57 k from hlk.1, hgk, rv.get rfl gv_r670_28]
          dsimp only
          rw [if_neg (gi_ix (by rw [gv_l681]; omega) (by omega)), i32_clamp (by omega), if_pos (show (gw_wi u 670 0 0).1 681 g = 0 from cs)]
          rfl
        · rw [if_neg cs]
      · rw [if_neg cz, if_neg cz]
        rfl
    have D0 : gf_Desk_position F gv_z u 0 (Int32.ofNat k) y z = if (1 : Int32) ≤ z then (if u.1 (B + 1) g = 0 then some (.inr 2, u) else gf_cl (gf_Hands_point F gv_z u 45 (B + 3 + 5 * g) y z (Int32.ofNat d)) fun a31 u29 => gf_ct (gf_Desk_keepFound F gv_z u29 0) fun a34 u32 => some (.inl a31, u32)) else some (.inr 1, u) := by
      show gf_Desk_position_b0 F gv_z u 0 (Int32.ofNat k) y z = _
      unfold gf_Desk_position_b0
      rw [gs_needDial hr, if_pos cd]
      simp only [gf_ct]
      by_cases cz : (1 : Int32) ≤ z
      · rw [if_pos cz, if_pos cz, hr.get rfl gv_r0_4]
        simp only [gf_nn, gf_nm]
        rw [if_neg (gi_ix (by rw [gv_l57]; omega) (by omega)), i32_clamp (by omega), hgk, s1]
        dsimp only
        rw [k1]
        dsimp only
        rw [if_neg (gi_ix (by rw [k3]; omega) (by omega)), i32_clamp (by omega)]
        by_cases cs : u.1 (B + 1) g = 0
        · rw [if_pos cs, if_pos cs]
        · rw [if_neg cs, if_neg cs, hr.get rfl gv_r0_3, k2]
          dsimp only
          rw [if_neg (show ¬ (Int32.ofNat g < 0 ∨ gv_z.2.2 (B + 2) ≤ g) from by rintro (q | q); exact gi_n0 (by omega) q; omega), f1, show B + 4 + 5 * g = (B + 3 + 5 * g) + 1 by omega, hr.get rfl gv_r0_5]
          dsimp only
          rw [if_neg (show ¬ (Int32.ofNat k < 0 ∨ gv_z.2.2 58 ≤ k) from by rintro (q | q); exact gi_n0 (by omega) q; (rw [gv_l58] at q; omega)), hdk]
      · rw [if_neg cz, if_neg cz]
    by_cases cz : (1 : Int32) ≤ z
    · have cz' := i32_le.mp cz
      rw [if_pos cz] at D0
      by_cases cs : u.1 (B + 1) g = 0
      · rw [if_pos cs] at D0
        rw [if_pos cz, if_pos (by rw [s5 g hgn]; exact cs)] at M0
        exact ⟨_, _, _, _, lw_position_2 D0, M0, rfl, fun q => absurd q (by decide), (gs_refused hR).1, (gs_refused hR).2⟩
      · rw [if_neg cs] at D0
        have hk1 : u.1 (B + 1) g = 1 := (s3 g (by omega)).resolve_left cs
        obtain ⟨a, b, hv, hfs⟩ := hs.fs hr hn hgn hk1
        obtain ⟨v1, v2, v3, v4, v5, v6, v7⟩ := hv
        obtain ⟨w1, p1, p2, p3⟩ := gh_point (F := F) hF (u := u) (p := B + 3 + 5 * g) (x := y) (y := z) (d := Int32.ofNat d) hr hfs v2 (by omega)
        obtain ⟨BB, hBB⟩ : ∃ BB, BB = (b * z.toInt).toNat := ⟨_, rfl⟩
        obtain ⟨rr, hrr⟩ : ∃ rr, rr = ((a * y.toInt) % (b * z.toInt)).toNat := ⟨_, rfl⟩
        have hbz : 0 < b * z.toInt := Int.mul_pos v2 (by omega)
        have hmod := Int.emod_nonneg (a * y.toInt) (show b * z.toInt ≠ 0 by omega)
        have eB : b * z.toInt = (BB : Int) := by omega
        have eR : (a * y.toInt) % (b * z.toInt) = (rr : Int) := by omega
        rw [eR, eB, i32_nat (by omega)] at p1 p3
        have eX : (rr : Int) * (d : Int) = ((rr * d : Nat) : Int) := (Int.natCast_mul _ _).symm
        have tq : ((rr * d : Nat) : Int).tdiv (BB : Int) = ((rr * d / BB : Nat) : Int) := rfl
        have tm : ((rr * d : Nat) : Int).tmod (BB : Int) = ((rr * d % BB : Nat) : Int) := rfl
        rw [eX, tq] at p1
        rw [eX, tm] at p3
        have eg : Int.gcd ((rr * d % BB : Nat) : Int) (BB : Int) = Nat.gcd (rr * d % BB) BB := rfl
        rw [eg] at p3
        have tq2 : ((rr * d % BB : Nat) : Int).tdiv ((Nat.gcd (rr * d % BB) BB : Nat) : Int) = ((rr * d % BB / Nat.gcd (rr * d % BB) BB : Nat) : Int) := rfl
        have tq3 : ((BB : Nat) : Int).tdiv ((Nat.gcd (rr * d % BB) BB : Nat) : Int) = ((BB / Nat.gcd (rr * d % BB) BB : Nat) : Int) := rfl
        rw [tq2, tq3] at p3
        obtain ⟨P, hP⟩ : ∃ P, P = rr * d % BB / Nat.gcd (rr * d % BB) BB := ⟨_, rfl⟩
        obtain ⟨Q, hQ⟩ : ∃ Q, Q = BB / Nat.gcd (rr * d % BB) BB := ⟨_, rfl⟩
        rw [← hP, ← hQ] at p3
        have hBBl : BB < 2147483648 ^ 11 := by
          have := absmul hfs.2.2.2.2.1 (int2 z)
          rw [eB] at this
          exact this
        have hBB0 : 0 < BB := by omega
        have hPl : P < 2147483648 ^ 11 := by
          have h1 := Nat.mod_lt (rr * d) hBB0
          have h2 := Nat.div_le_self (rr * d % BB) (Nat.gcd (rr * d % BB) BB)
          omega
        have hQl : Q < 2147483648 ^ 11 := by
          have h2 := Nat.div_le_self BB (Nat.gcd (rr * d % BB) BB)
          omega
        have r1 := hr.wr p2
        obtain ⟨w2, q1, q2, q3⟩ := gd_keep (F := F) (u := w1) (k := 11) r1 p3 (by omega) hPl hQl
        have ePa : ((P : Nat) : Int).natAbs = P := rfl
        have eQa : ((Q : Nat) : Int).natAbs = Q := rfl
        rw [ePa, eQa] at q1 q3
        rw [p1] at D0
        simp only [gf_cl] at D0
        rw [q1] at D0
        have iu : ∀ p q, ¬ (10 ≤ p ∧ p ≤ 56) → ¬ (59 ≤ p ∧ p ≤ 63) → w2.1 p q = u.1 p q := fun p q h1 h2 => (q2.2 p q h2).trans (p2.2 p q h1)
        have w22 : w2.2 = u.2 := by rw [q2.1, p2.1]
        by_cases cl : 2 ^ 256 ≤ P ∨ 2 ^ 256 ≤ Q
        · rw [if_pos cl] at D0
          simp only [gf_ct] at D0
          obtain ⟨w3, m1, m2, m3⟩ := gm_position (F := F) hF (w := w2) (k := k) (g := g) (d := d) (a := a) (b := b) (x := y) (y := z) (hr.eq (by rw [w22])) hk (by omega) (by rw [iu 679 k (by omega) (by omega), hlk.1, hgk]) (by rw [iu 680 k (by omega) (by omega), hlk.2.1, hdk]) hd (by rw [iu 681 g (by omega) (by omega), s5 g hgn]; exact cs) (by omega) v2 (by rw [iu 682 g (by omega) (by omega)]; exact v5) (v6.same (fun q => iu 683 q (by omega) (by omega))) (v7.same (fun q => iu 684 q (by omega) (by omega))) hBB hrr
          rw [← hP, ← hQ, if_pos cl] at m1 m3
          refine ⟨_, _, _, _, lw_position_4 D0, m1, m3.1, fun q => absurd q (by decide), ⟨by rw [m2.1, w22], fun p q h1 h2 => by rw [m2.2.1 p q h1, w22], fun p q h1 h2 h3 h4 h5 => by rw [m3.2 p q h5, iu p q h1 h2]⟩, ?_⟩
          rw [if_pos cl] at q3
          exact hR.same (fun p q hp => by rw [m3.2 p q (by omega), q3, p2.2 p q (by omega)])
        · rw [if_neg cl] at D0
          simp only [gf_ct] at D0
          obtain ⟨w3', hw3'⟩ : ∃ w3', w3' = gw_wl w2 701 0 (Int32.ofNat ((rr * d / BB : Nat) : Int).natAbs).toInt64 := ⟨_, rfl⟩
          have iu' : ∀ p q, ¬ (10 ≤ p ∧ p ≤ 56) → ¬ (59 ≤ p ∧ p ≤ 63) → w3'.1 p q = u.1 p q := fun p q h1 h2 => by rw [hw3']; exact iu p q h1 h2
          have hr3 : gv_Rf w3' := by rw [hw3']; exact hr.eq (by show w2.2.2 = u.2.2; rw [w22])
          obtain ⟨w3, m1, m2, m3⟩ := gm_position (F := F) hF (w := w3') (k := k) (g := g) (d := d) (a := a) (b := b) (x := y) (y := z) hr3 hk (by omega) (by rw [iu' 679 k (by omega) (by omega), hlk.1, hgk]) (by rw [iu' 680 k (by omega) (by omega), hlk.2.1, hdk]) hd (by rw [iu' 681 g (by omega) (by omega), s5 g hgn]; exact cs) (by omega) v2 (by rw [iu' 682 g (by omega) (by omega)]; exact v5) (v6.same (fun q => iu' 683 q (by omega) (by omega))) (v7.same (fun q => iu' 684 q (by omega) (by omega))) hBB hrr
          rw [← hP, ← hQ, if_neg cl] at m1 m3
          have hlaw := lw_position_v D0 gv_zo
          rw [← hw3'] at hlaw
          refine ⟨_, _, _, _, hlaw, m1, m3.1, fun _ => ?_, ⟨?_, fun p q h1 h2 => ?_, fun p q h1 h2 h3 h4 h5 => ?_⟩, ?_⟩
          · have e701 : w3.2.1 701 0 = (Int32.ofNat ((rr * d / BB : Nat) : Int).natAbs).toInt64 := by rw [m2.2.1 701 0 (by omega), hw3']; rfl
            rw [e701]
            exact lgc_zero.mpr rfl
          · rw [m2.1, hw3']
            show w2.2.2 = u.2.2
            rw [w22]
          · rw [m2.2.1 p q h1, hw3']
            simp only [gw_wl]
            rw [if_neg (by omega), w22]
          · rw [m2.2.2 p q h3 h4 h5, iu' p q h1 h2]
          · rw [if_neg cl] at q3
            refine ⟨P, Q, q3.same (fun p q h1 h2 => ?_), by omega, by omega, by omega, by omega, m3.2.1, m3.2.2⟩
            rw [m2.2.2 p q (by omega) (by omega) (by omega), hw3']
            rfl
    · rw [if_neg cz] at D0 M0
      exact ⟨_, _, _, _, lw_position_1 D0, M0, rfl, fun q => absurd q (by decide), (gs_refused hR).1, (gs_refused hR).2⟩
  · have hD : gf_Desk_position F gv_z u 0 x y z = some (.inr 3, u) := by
      show gf_Desk_position_b0 F gv_z u 0 x y z = _
      unfold gf_Desk_position_b0
      rw [gs_needDial hr, if_neg cd]
      rfl
    have hM : gf_Model_position F gv_z u 670 x y z = some (0, gw_wi (gw_wi u 670 0 0) 670 0 1) := by
      show gf_Model_position_b0 F gv_z u 670 x y z = _
      unfold gf_Model_position_b0
      simp only [gf_nm]
      rw [gs_isDial rv, if_neg]
      · rfl
      · rintro ⟨q1, q2, q3⟩
        have hx : x.toNatClampNeg < 12 := by
          have : x.toNatClampNeg = x.toInt.toNat := rfl
          omega
        have hlk := hl _ hx
        refine cd ⟨q1, q2, fun e => q3 ?_⟩
        rw [show (gw_wi u 670 0 0).1 679 x.toNatClampNeg = u.1 57 x.toNatClampNeg from hlk.1, e]
        decide
    exact ⟨_, _, _, _, lw_position_3 hD, hM, rfl, fun q => absurd q (by decide), (gs_refused hR).1, (gs_refused hR).2⟩
