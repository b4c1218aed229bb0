theorem gs_result {F : Nat} {u : gw_St} (hr : gv_Rf u) (hs : gv_Rs u) (x y : Int32) : ∃ k a u1 u2, gf_Law_result F gv_z u 0 x y 701 = some (k, u1) ∧ gf_Model_result F gv_z u1 670 x y = some (a, u2) ∧ u2.1 670 0 = k ∧ (k = 0 → lg_cmp (u2.2.1 701 0) a.toInt64 = 0) ∧ gv_off gv_S_thr u u2 := by
  have e0 : (0 : Int32).toInt = 0 := rfl
  have e1 : (1 : Int32).toInt = 1 := rfl
  have e7 : (7 : Int32).toInt = 7 := rfl
  have e8 : (8 : Int32).toInt = 8 := rfl
  by_cases c : 0 ≤ x.toInt ∧ x.toInt ≤ 1 ∧ 0 ≤ y.toInt ∧ y.toInt ≤ 7
  · obtain ⟨a, b, h1, h2, h3, h4, h5, h6, h7⟩ := hs
    obtain ⟨c1, c2, c3, c4⟩ := c
    obtain ⟨i, rfl, hi⟩ : ∃ i, y = Int32.ofNat i ∧ i < 8 := ⟨y.toInt.toNat, i32_ext (by rw [i32_nat (by omega)]; omega), by omega⟩
    have hx := gv_x59 hr
    obtain ⟨na, n1, n2, da⟩ := h1.1.cap2 (c := 9) (p256' h4) (by omega)
    obtain ⟨nb, m1, m2, db⟩ := h1.2.cap2 (c := 9) (p256' h5) (by omega)
    have wa := gw_word (F := F) (z := gv_z) hx.2.2.1 da (by rw [gv_l61]; omega) hi
    have wb := gw_word (F := F) (z := gv_z) hx.2.2.2 db (by rw [gv_l63]; omega) hi
    have hD : gf_Desk_result F gv_z u 0 x (Int32.ofNat i) = some (.inl (if x = 0 then Int32.ofNat (a.natAbs / 2 ^ (32 * i)) else Int32.ofNat (b.natAbs / 2 ^ (32 * i))), u) := by
      show gf_Desk_result_b0 F gv_z u 0 x (Int32.ofNat i) = _
      unfold gf_Desk_result_b0 gf_Desk_result_b56
      rw [if_neg (fun q : x < 0 => by have := i32_lt.mp q; omega), if_neg (fun q : 1 < x => by have := i32_lt.mp q; omega), if_neg (gi_n0 (by omega)), if_pos (show Int32.ofNat i < 8 from (gi_lt (b := 8) (by omega) (by omega)).mpr hi)]
      by_cases cx : x = 0
      · rw [if_pos cx, if_pos cx, hr.get rfl gv_r0_6]
        show gf_nn (u.2.2 59 0) _ = _
        rw [hx.1]
        simp only [gf_nn]
        rw [wa]
        rfl
      · rw [if_neg cx, if_neg cx, hr.get rfl gv_r0_6]
        show gf_nn (u.2.2 59 1) _ = _
        rw [hx.2.1]
        simp only [gf_nn]
        rw [wb]
        rfl
    obtain ⟨u1, hu1⟩ : ∃ u1, u1 = gw_wl u 701 0 ((if x = 0 then Int32.ofNat (a.natAbs / 2 ^ (32 * i)) else Int32.ofNat (b.natAbs / 2 ^ (32 * i)))).toInt64 := ⟨_, rfl⟩
    have r1 : gv_Rf (gw_wi u1 670 0 0) := by rw [hu1]; exact hr.eq rfl
    have i6 : Iw (gw_wi u1 670 0 0) 689 0 a.natAbs := by rw [hu1]; exact h6
    have i7 : Iw (gw_wi u1 670 0 0) 690 0 b.natAbs := by rw [hu1]; exact h7
    have hM : gf_Model_result F gv_z u1 670 x (Int32.ofNat i) = some (if x = 0 then Int32.ofNat (a.natAbs / 2 ^ (32 * i)) else Int32.ofNat (b.natAbs / 2 ^ (32 * i)), gw_wi u1 670 0 0) := by
      show gf_Model_result_b0 F gv_z u1 670 x (Int32.ofNat i) = _
      unfold gf_Model_result_b0 gf_Model_result_b55
      simp only [gf_nm]
      rw [gs_within, if_pos (by omega)]
      simp only [gf_cl]
      rw [if_neg (by decide), gs_within, if_pos (by rw [i32_nat (by omega)]; omega)]
      dsimp only
      rw [if_neg (by decide)]
      by_cases cx : x = 0
      · rw [if_pos cx, if_pos cx, r1.get rfl gv_r670_36]
        simp only [gf_nn]
        rw [show gf_Model_word F gv_z (gw_wi u1 670 0 0) 689 0 (Int32.ofNat i) = _ from gz_word (F := F) (t := 689) (j := 0) (by omega) (by rw [gv_l689]; omega) i6 hi]
      · rw [if_neg cx, if_neg cx, r1.get rfl gv_r670_37]
        simp only [gf_nn]
        rw [show gf_Model_word F gv_z (gw_wi u1 670 0 0) 690 0 (Int32.ofNat i) = _ from gz_word (F := F) (t := 690) (j := 0) (by omega) (by rw [gv_l690]; omega) i7 hi]
    rw [hu1] at hM
    refine ⟨_, _, _, _, lw_result_v hD gv_zo, hM, rfl, fun _ => lgc_zero.mpr rfl, ?_⟩
    exact gv_off_thr1
  · have h := gs_result0 (F := F) (z := gv_z) (u := u) c
    refine ⟨_, _, _, _, h.1, h.2, rfl, fun q => absurd q (by decide), ?_⟩
    exact gv_off_thr
theorem gs_speed {F : Nat} {u : gw_St} {n r B : Nat} (hr : gv_Rf u) (hw : gv_Wk u n r) (hs : gv_Sp u n B) (x y z : Int32) : ∃ k a u1 u2, gf_Law_speed F gv_z u 0 x y z 701 = some (k, u1) ∧ gf_Model_speed F gv_z u1 670 x y z = some (a, u2) ∧ u2.1 670 0 = k ∧ (k = 0 → lg_cmp (u2.2.1 701 0) a.toInt64 = 0) ∧ gv_off gv_S_thr u u2 := by
  have e0 : (0 : Int32).toInt = 0 := rfl
  have e1 : (1 : Int32).toInt = 1 := rfl
  have e2 : (2 : Int32).toInt = 2 := rfl
  have e7 : (7 : Int32).toInt = 7 := rfl
  have e8 : (8 : Int32).toInt = 8 := rfl
  have w1 := hw.1
  have w4 := hw.2.2.2.1
  -- a refused call
  have refuse : gf_Desk_speed F gv_z u 0 x y z = some (.inr 3, u) → gf_Model_speed F gv_z u 670 x y z = some (0, gw_wi (gw_wi u 670 0 0) 670 0 1) → ∃ k a u1 u2, gf_Law_speed F gv_z u 0 x y z 701 = some (k, u1) ∧ gf_Model_speed F gv_z u1 670 x y z = some (a, u2) ∧ u2.1 670 0 = k ∧ (k = 0 → lg_cmp (u2.2.1 701 0) a.toInt64 = 0) ∧ gv_off gv_S_thr u u2 := fun h1 h2 => ⟨_, _, _, _, lw_speed_3 h1, h2, rfl, fun q => absurd q (by decide), gv_off_thr⟩
  by_cases cg : 0 ≤ x.toInt ∧ x.toInt < n
  · have M1 : ∀ w : gw_St, w.1 670 18 = Int32.ofNat n → gf_Model_speed F gv_z w 670 x y z = gf_cl (gf_Model_within F gv_z (gw_wi w 670 0 0) y (0 : Int32) (2 : Int32)) fun a38 u36 => if a38 = 0 then (gf_Model_speed_b40 F gv_z u36 670) else (if y = 0 then (gf_Model_speed_b34 F gv_z u36 670 x y z z 0 0) else (gf_Model_speed_b34 F gv_z u36 670 x y z z 0 7)) := by
      intro w hw4
      show gf_Model_speed_b0 F gv_z w 670 x y z = _
      unfold gf_Model_speed_b0
      simp only [gf_nm]
      rw [gs_isGear w1 (show (gw_wi w 670 0 0).1 670 18 = Int32.ofNat n from hw4), if_pos cg]
      simp only [gf_cl]
      rw [if_neg (by decide)]
    have D1 : gf_Desk_speed F gv_z u 0 x y z = if y < 0 then some (.inr 3, u) else (if (2 : Int32) < y then some (.inr 3, u) else (if z < 0 then some (.inr 3, u) else (if y = 0 then (gf_Desk_speed_b29 F gv_z u 0 x y z z 1) else (gf_Desk_speed_b29 F gv_z u 0 x y z z 8)))) := by
      show gf_Desk_speed_b0 F gv_z u 0 x y z = _
      unfold gf_Desk_speed_b0 gf_Desk_speed_b32
      rw [gs_needGear hr hw.1 hw.2.2.1, if_pos cg]
      rfl
    by_cases cy : 0 ≤ y.toInt ∧ y.toInt ≤ 2
    · by_cases cz : 0 ≤ z.toInt ∧ z.toInt < (if y = 0 then 1 else 8 : Int)
      · -- the call is answered or has no speed
        obtain ⟨g, rfl, hg⟩ : ∃ g, x = Int32.ofNat g ∧ g < n := ⟨x.toInt.toNat, i32_ext (by rw [i32_nat (by omega)]; omega), by omega⟩
        obtain ⟨i, rfl, hi⟩ : ∃ i, z = Int32.ofNat i ∧ i < 8 := ⟨z.toInt.toNat, i32_ext (by rw [i32_nat (by split at cz <;> omega)]; omega), by split at cz <;> omega⟩
        obtain ⟨hB, s1, s2, s3, s4, s5, s6⟩ := hs
        obtain ⟨k1, k2, k3, k4⟩ := gv_spK hr hB
        obtain ⟨f1, f2, f3, f4⟩ := gv_spF hr hB (show g < 60 by omega)
        have D2 : gf_Desk_speed F gv_z u 0 (Int32.ofNat g) y (Int32.ofNat i) = if u.1 (B + 1) g = 0 then some (.inr 2, u) else (if y = 0 then some (.inl (u.1 (B + 3 + 5 * g + 1) 2), u) else if y = 1 then gf_cl (gf_Whole_word F gv_z u (B + 3 + 5 * g + 1) (Int32.ofNat i)) fun a26 u24 => some (.inl a26, u24) else gf_cl (gf_Whole_word F gv_z u (B + 3 + 5 * g + 3) (Int32.ofNat i)) fun a26 u24 => some (.inl a26, u24)) := by
          have hb29 : ∀ m : Int32, i < m.toInt → gf_Desk_speed_b29 F gv_z u 0 (Int32.ofNat g) y (Int32.ofNat i) (Int32.ofNat i) m = if u.1 (B + 1) g = 0 then some (.inr 2, u) else (if y = 0 then some (.inl (u.1 (B + 3 + 5 * g + 1) 2), u) else if y = 1 then gf_cl (gf_Whole_word F gv_z u (B + 3 + 5 * g + 1) (Int32.ofNat i)) fun a26 u24 => some (.inl a26, u24) else gf_cl (gf_Whole_word F gv_z u (B + 3 + 5 * g + 3) (Int32.ofNat i)) fun a26 u24 => some (.inl a26, u24)) := by
            intro m hm
            unfold gf_Desk_speed_b29 gf_Desk_speed_b110
            rw [if_pos (i32_lt.mpr (by rw [i32_nat (by omega)]; exact hm)), s1]
            simp only [gf_nn]
            rw [k1]
            dsimp only
            rw [if_neg (gi_ix (by rw [k3]; omega) (by omega)), i32_clamp (by omega)]
            by_cases ck : u.1 (B + 1) g = 0
            · rw [if_pos ck, if_pos ck]
            · rw [if_neg ck, if_neg ck, k2]
              dsimp only
              rw [if_neg (show ¬ (Int32.ofNat g < 0 ∨ gv_z.2.2 (B + 2) ≤ g) from by rintro (q | q); exact gi_n0 (by omega) q; omega), f1, show B + 4 + 5 * g = (B + 3 + 5 * g) + 1 by omega]
              dsimp only
              rw [show u.2.2 (B + 3 + 5 * g) 0 = B + 3 + 5 * g + 2 from f2.1, show u.2.2 (B + 3 + 5 * g) 1 = B + 3 + 5 * g + 4 from f2.2.1]
          rw [D1, if_neg (fun q : y < 0 => by have := i32_lt.mp q; omega), if_neg (fun q : 2 < y => by have := i32_lt.mp q; omega), if_neg (gi_n0 (by omega))]
          by_cases y0 : y = 0
          · rw [if_pos y0]
            rw [if_pos y0, i32_nat (by omega)] at cz
            exact hb29 1 (by omega)
          · rw [if_neg y0]
            exact hb29 8 (by omega)
        have M2 : ∀ w : gw_St, w.1 670 18 = Int32.ofNat n → gv_Rf w → gf_Model_speed F gv_z w 670 (Int32.ofNat g) y (Int32.ofNat i) = if w.1 681 g = 0 then some (0, gw_wi (gw_wi w 670 0 0) 670 0 2) else (if y = 0 then some (w.1 682 g, gw_wi w 670 0 0) else if y = 1 then gf_cl (gf_Model_word F gv_z (gw_wi w 670 0 0) 683 (Int32.ofNat g) (Int32.ofNat i)) fun a26 u24 => some (a26, u24) else gf_cl (gf_Model_word F gv_z (gw_wi w 670 0 0) 684 (Int32.ofNat g) (Int32.ofNat i)) fun a26 u24 => some (a26, u24)) := by
          intro w hw4 hrw
          have hrw1 : gv_Rf (gw_wi w 670 0 0) := hrw.eq rfl
          have hb34 : ∀ m : Int32, i ≤ m.toInt → gf_Model_speed_b34 F gv_z (gw_wi w 670 0 0) 670 (Int32.ofNat g) y (Int32.ofNat i) (Int32.ofNat i) 0 m = if w.1 681 g = 0 then some (0, gw_wi (gw_wi w 670 0 0) 670 0 2) else (if y = 0 then some (w.1 682 g, gw_wi w 670 0 0) else if y = 1 then gf_cl (gf_Model_word F gv_z (gw_wi w 670 0 0) 683 (Int32.ofNat g) (Int32.ofNat i)) fun a26 u24 => some (a26, u24) else gf_cl (gf_Model_word F gv_z (gw_wi w 670 0 0) 684 (Int32.ofNat g) (Int32.ofNat i)) fun a26 u24 => some (a26, u24)) := by
            intro m hm
            unfold gf_Model_speed_b34 gf_Model_speed_b100
            rw [gs_within, if_pos (by rw [i32_nat (by omega), e0]; omega)]
            simp only [gf_cl]
            rw [if_neg (by decide), hrw1.get rfl gv_r670_28]
            simp only [gf_nn]
            rw [if_neg (gi_ix (by rw [gv_l681]; omega) (by omega)), i32_clamp (by omega)]
            by_cases ck : w.1 681 g = 0
            · rw [if_pos ck, if_pos (show (gw_wi w 670 0 0).1 681 g = 0 from ck)]
              rfl
            · rw [if_neg ck, if_neg (show ¬ (gw_wi w 670 0 0).1 681 g = 0 from ck)]
              by_cases y0 : y = 0
              · rw [if_pos y0, if_pos y0, hrw1.get rfl gv_r670_29]
                dsimp only
                rw [if_neg (show ¬ (Int32.ofNat g < 0 ∨ gv_z.2.2 682 ≤ g) from by rintro (q | q); exact gi_n0 (by omega) q; (rw [gv_l682] at q; omega))]
                rfl
              · rw [if_neg y0, if_neg y0]
                by_cases y1 : y = 1
                · rw [if_pos y1, if_pos y1, hrw1.get rfl gv_r670_30]
                · rw [if_neg y1, if_neg y1, hrw1.get rfl gv_r670_31]
          rw [M1 w hw4, gs_within, if_pos (by omega)]
          simp only [gf_cl]
          rw [if_neg (by decide)]
          by_cases y0 : y = 0
          · rw [if_pos y0]
            rw [if_pos y0, i32_nat (by omega)] at cz
            exact hb34 0 (by omega)
          · rw [if_neg y0]
            exact hb34 7 (by omega)
        by_cases ck : u.1 (B + 1) g = 0
        · rw [if_pos ck] at D2
          have m := M2 u w4 hr
          rw [if_pos (by rw [s5 g hg]; exact ck)] at m
          exact ⟨_, _, _, _, lw_speed_2 D2, m, rfl, fun q => absurd q (by decide), gv_off_thr⟩
        · have ck1 : u.1 (B + 1) g = 1 := (s3 g (by omega)).resolve_left ck
          obtain ⟨a, b, v1, v2, v3, v4, v5, v6, v7⟩ := s6 g hg ck1
          rw [if_neg ck] at D2
          have hm0 : ¬ u.1 681 g = 0 := by rw [s5 g hg]; exact ck
          by_cases y0 : y = 0
          · rw [if_pos y0] at D2
            have m := M2 (gw_wl u 701 0 (u.1 (B + 3 + 5 * g + 1) 2).toInt64) w4 (hr.eq rfl)
            rw [if_neg (show ¬ (gw_wl u 701 0 (u.1 (B + 3 + 5 * g + 1) 2).toInt64).1 681 g = 0 from hm0), if_pos y0] at m
            refine ⟨_, _, _, _, lw_speed_v D2 gv_zo, m, rfl, fun _ => lgc_zero.mpr ?_, gv_off_thr1⟩
            obtain ⟨na, da⟩ := v1.1
            show (u.1 (B + 3 + 5 * g + 1) 2).toInt64.toInt = (u.1 682 g).toInt64.toInt
            rw [n32_to64, n32_to64, v5, da.sg]
          · rw [if_neg y0] at D2
            obtain ⟨na, n1, n2, da⟩ := v1.1.cap2 (c := 9) (p256' v3) (by omega)
            obtain ⟨nb, m1, m2, db⟩ := v1.2.cap2 (c := 9) (p256' v4) (by omega)
            by_cases y1 : y = 1
            · rw [if_pos y1, gw_word (F := F) (z := gv_z) f2.2.2.1 da (by rw [f3]; omega) hi] at D2
              have m := M2 (gw_wl u 701 0 (Int32.ofNat (a.natAbs / 2 ^ (32 * i))).toInt64) w4 (hr.eq rfl)
              rw [if_neg (show ¬ (gw_wl u 701 0 (Int32.ofNat (a.natAbs / 2 ^ (32 * i))).toInt64).1 681 g = 0 from hm0), if_neg y0, if_pos y1, gz_word (F := F) (t := 683) (j := g) (by omega) (by rw [gv_l683]; omega) (show Iw (gw_wi (gw_wl u 701 0 (Int32.ofNat (a.natAbs / 2 ^ (32 * i))).toInt64) 670 0 0) 683 g a.natAbs from v6) hi] at m
              exact ⟨_, _, _, _, lw_speed_v D2 gv_zo, m, rfl, fun _ => lgc_zero.mpr rfl, gv_off_thr1⟩
            · rw [if_neg y1, gw_word (F := F) (z := gv_z) f2.2.2.2 db (by rw [f4]; omega) hi] at D2
              have m := M2 (gw_wl u 701 0 (Int32.ofNat (b.natAbs / 2 ^ (32 * i))).toInt64) w4 (hr.eq rfl)
              rw [if_neg (show ¬ (gw_wl u 701 0 (Int32.ofNat (b.natAbs / 2 ^ (32 * i))).toInt64).1 681 g = 0 from hm0), if_neg y0, if_neg y1, gz_word (F := F) (t := 684) (j := g) (by omega) (by rw [gv_l684]; omega) (show Iw (gw_wi (gw_wl u 701 0 (Int32.ofNat (b.natAbs / 2 ^ (32 * i))).toInt64) 670 0 0) 684 g b.natAbs from v7) hi] at m
              exact ⟨_, _, _, _, lw_speed_v D2 gv_zo, m, rfl, fun _ => lgc_zero.mpr rfl, gv_off_thr1⟩
      · refine refuse ?_ ?_
        · rw [D1, if_neg (fun q : y < 0 => by have := i32_lt.mp q; omega), if_neg (fun q : 2 < y => by have := i32_lt.mp q; omega)]
          by_cases z0 : z < 0
          · rw [if_pos z0]
          · have z0' : ¬ z.toInt < 0 := fun q => z0 (i32_lt.mpr q)
            rw [if_neg z0]
            by_cases y0 : y = 0
            · rw [if_pos y0]
              rw [if_pos y0] at cz
              unfold gf_Desk_speed_b29 gf_Desk_speed_b32
              rw [if_neg (fun q : z < 1 => by have := i32_lt.mp q; omega)]
            · rw [if_neg y0]
              rw [if_neg y0] at cz
              unfold gf_Desk_speed_b29 gf_Desk_speed_b32
              rw [if_neg (fun q : z < 8 => by have := i32_lt.mp q; omega)]
        · rw [M1 u w4, gs_within, if_pos (by omega)]
          simp only [gf_cl]
          rw [if_neg (by decide)]
          by_cases y0 : y = 0
          · rw [if_pos y0]
            rw [if_pos y0] at cz
            unfold gf_Model_speed_b34 gf_Model_speed_b40
            rw [gs_within, if_neg (by omega)]
            rfl
          · rw [if_neg y0]
            rw [if_neg y0] at cz
            unfold gf_Model_speed_b34 gf_Model_speed_b40
            rw [gs_within, if_neg (by omega)]
            rfl
    · refine refuse ?_ ?_
      · rw [D1]
        by_cases y0 : y < 0
        · rw [if_pos y0]
        · have y0' : ¬ y.toInt < 0 := fun q => y0 (i32_lt.mpr q)
          rw [if_neg y0, if_pos (i32_lt.mpr (by omega))]
      · rw [M1 u w4, gs_within, if_neg (by omega)]
        rfl
  · refine refuse ?_ ?_
    · show gf_Desk_speed_b0 F gv_z u 0 x y z = _
      unfold gf_Desk_speed_b0
      rw [gs_needGear hr hw.1 hw.2.2.1, if_neg cg]
      rfl
    · show gf_Model_speed_b0 F gv_z u 670 x y z = _
      unfold gf_Model_speed_b0
      simp only [gf_nm]
      rw [gs_isGear w1 (show (gw_wi u 670 0 0).1 670 18 = Int32.ofNat n from w4), if_neg cg]
      rfl
