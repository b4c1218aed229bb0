/-! want, the reference's -/
def gv_wtW (w : gw_St) (x1 x2 s lo : Int32) (n k : Nat) : gw_St := gw_wi (gw_wi (gw_wi (gw_wi (gw_wi (gw_wi (gw_wi (gw_wi (gw_wi w 670 0 0) 670 1 1) 670 2 x1) 670 3 x2) 670 4 s) 670 5 lo) 670 6 (Int32.ofNat n)) 670 7 (Int32.ofNat k)) 670 8 0
theorem gs_Mw90 {F : Nat} {z : gw_Sh} {w : gw_St} {x1 x2 lo : Int32} {S n : Nat} (hn : n < 114) (hs : 1 ≤ S) (hs2 : S < 5) (h3 : S = 3 → n ≤ 60) (h4 : S = 4 → n ≤ 20) : gf_Model_want_b90 F z (gw_wi w 670 0 0) 670 x1 x2 (Int32.ofNat S) lo (Int32.ofNat n) = some (Int32.ofNat (gv_wy n S), gv_wtW w x1 x2 (Int32.ofNat S) lo n (gv_wy n S)) := by
  unfold gf_Model_want_b90
  simp only [gf_nm]
  rw [gs_ways hn hs hs2 h3 h4]
  rfl
theorem gs_Mwant1 {F : Nat} {z : gw_Sh} {w : gw_St} {x1 x2 lo hi : Int32} {S n : Nat} (h1 : 1 ≤ x1.toInt) (h2 : 1 ≤ x2.toInt) (hal : gv_al (Int32.ofNat S) lo hi) (hs2 : S < 5) (hn : (n : Int) = hi.toInt - lo.toInt + 1) : gf_Model_want F z w 670 x1 x2 (Int32.ofNat S) lo hi = some (Int32.ofNat (gv_wy n S), gv_wtW w x1 x2 (Int32.ofNat S) lo n (gv_wy n S)) := by
  have es : (Int32.ofNat S).toInt = S := i32_nat (by omega)
  have hal2 := hal
  unfold gv_al at hal2
  rw [es] at hal2
  obtain ⟨b1, b2, b3, b4, b5, b6, b7⟩ := hal2
  have e1 : (1 : Int32).toInt = 1 := rfl
  have e4 : (4 : Int32).toInt = 4 := rfl
  have e8 : (8 : Int32).toInt = 8 := rfl
  have e120 : (120 : Int32).toInt = 120 := rfl
  have e60 : (60 : Int32).toInt = 60 := rfl
  have e20 : (20 : Int32).toInt = 20 := rfl
  have en : hi - lo + 1 = Int32.ofNat n := by
    apply i32_ext
    rw [gv_num b3 b4 b5, i32_nat (by omega)]
    omega
  have eni : (Int32.ofNat n).toInt = n := i32_nat (by omega)
  have K := gs_Mw90 (F := F) (z := z) (w := w) (x1 := x1) (x2 := x2) (lo := lo) (S := S) (n := n) (by omega) (by omega) hs2 (fun q => by omega) (fun q => by omega)
  show gf_Model_want_b0 F z w 670 x1 x2 (Int32.ofNat S) lo hi = _
  unfold gf_Model_want_b0 gf_Model_want_b72
  simp only [gf_nm]
  rw [if_neg (fun q : x1 < 1 => by have := i32_lt.mp q; omega), if_neg (fun q : x2 < 1 => by have := i32_lt.mp q; omega), gs_within, if_pos (by omega)]
  simp only [gf_cl]
  rw [if_neg (by decide), if_neg (fun q : lo < 8 => by have := i32_lt.mp q; omega), if_neg (fun q : hi < lo => by have := i32_lt.mp q; omega), if_pos (show hi ≤ 120 from i32_le.mpr (by omega)), en]
  by_cases c3 : Int32.ofNat S = 3
  · have s3 : S = 3 := (gv_lit (k := 3) (by omega) (by omega)).mp c3
    have c4 : ¬ Int32.ofNat S = 4 := fun q => by have := (gv_lit (k := 4) (by omega) (by omega)).mp q; omega
    rw [if_pos c3, if_neg (fun q : (60 : Int32) < Int32.ofNat n => by have := i32_lt.mp q; omega), if_neg c4]
    exact K
  · rw [if_neg c3]
    by_cases c4 : Int32.ofNat S = 4
    · have s4 : S = 4 := (gv_lit (k := 4) (by omega) (by omega)).mp c4
      rw [if_pos c4, if_pos (show Int32.ofNat n ≤ 20 from i32_le.mpr (by omega))]
      exact K
    · rw [if_neg c4]
      exact K
