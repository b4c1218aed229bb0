/-! one round of the law's loop, for each call -/
theorem gv_i0 {L i : Nat} (hi : i + 6 ≤ L) (hL : L ≤ 3072) : ¬ (Int32.ofNat L - (6 : Int32)) < Int32.ofNat i := by
  intro h
  have h := i32_lt.mp h
  have e6 : (6 : Int32).toInt = 6 := rfl
  rw [n32_sub (by rw [i32_nat (by omega), e6]; omega) (by rw [i32_nat (by omega), e6]; omega), i32_nat (by omega), i32_nat (by omega), e6] at h
  omega
theorem gv_ij {i : Nat} (j : Nat) (hi : i + j < 2147483648) : Int32.ofNat i + Int32.ofNat j = Int32.ofNat (i + j) := (Int32.ofNat_add i j).symm
theorem gv_ib {L k : Nat} (h : k < L) (hL : L ≤ 3072) : ¬ (Int32.ofNat k < 0 ∨ L ≤ (Int32.ofNat k).toNatClampNeg) := by
  intro c
  rcases c with c | c
  · have := i32_lt.mp c
    have e0 : (0 : Int32).toInt = 0 := rfl
    rw [i32_nat (by omega)] at this
    omega
  · rw [i32_clamp (by omega)] at c
    omega
theorem gv_ic {L k : Nat} (h : k < L) (hL : L ≤ 3072) : ¬ (Int32.ofNat k < 0 ∨ L ≤ k) := by
  have := gv_ib h hL
  rw [i32_clamp (by omega)] at this
  exact this
theorem gv_o0 {z : gw_Sh} (h : z.2.2 701 = 1) : ¬ ((0 : Int32) < 0 ∨ z.2.2 701 ≤ ((0 : Int32)).toNatClampNeg) := by
  rw [h]; decide
theorem gv_thr {F : Nat} {z : gw_Sh} {u : gw_St} {t : Nat} : gf_Model_thrown F z u t = some (u.1 t 0, u) := rfl
/-- the law's round goes on at the next one -/
def gv_R (F : Nat) (xs : Nat → Int32) (L : Nat) (z : gw_Sh) (u : gw_St) (J : gw_St → Prop) (i : Nat) : Prop := ∀ rc : gw_St → Nat → Nat → Nat → Int32 → Option Int32, ∃ w, J w ∧ gf_Law_law_S23 F xs L z rc u 0 670 701 (Int32.ofNat i) = rc w 0 670 701 (Int32.ofNat i + 6)
set_option maxHeartbeats 4000000 in
set_option maxRecDepth 20000 in
theorem gv_op0 {F : Nat} {xs : Nat → Int32} {L i : Nat} {z : gw_Sh} {u : gw_St} {J : gw_St → Prop} (hL : L ≤ 3072) (hi : i + 6 ≤ L) (ho : z.2.2 701 = 1) (hc : xs i &&& 31 = 0) (h : ∃ k a u1 u2, gf_Law_want F z u 0 (xs (i + 1)) (xs (i + 2)) (xs (i + 3)) (xs (i + 4)) (xs (i + 5)) 701 = some (k, u1) ∧ gf_Model_want F z u1 670 (xs (i + 1)) (xs (i + 2)) (xs (i + 3)) (xs (i + 4)) (xs (i + 5)) = some (a, u2) ∧ u2.1 670 0 = k ∧ (k = 0 → lg_cmp (u2.2.1 701 0) a.toInt64 = 0) ∧ J u2) : gv_R F xs L z u J i := by
  intro rc
  have e1 : Int32.ofNat i + (1 : Int32) = Int32.ofNat (i + 1) := gv_ij 1 (by omega)
  have e2 : Int32.ofNat i + (2 : Int32) = Int32.ofNat (i + 2) := gv_ij 2 (by omega)
  have e3 : Int32.ofNat i + (3 : Int32) = Int32.ofNat (i + 3) := gv_ij 3 (by omega)
  have e4 : Int32.ofNat i + (4 : Int32) = Int32.ofNat (i + 4) := gv_ij 4 (by omega)
  have e5 : Int32.ofNat i + (5 : Int32) = Int32.ofNat (i + 5) := gv_ij 5 (by omega)
  have c0 : (Int32.ofNat i).toNatClampNeg = i := i32_clamp (by omega)
  unfold gf_Law_law_S23
  rw [if_neg (gv_i0 hi hL), if_neg (gv_ib (by omega) hL), c0]
  rw [if_pos hc]
  obtain ⟨k, a, u1, u2, h1, h2, h3, h4, hj⟩ := h
  rw [e1, e2, e3, e4, e5, if_neg (gv_ib (k := i + 1) (by omega) hL), if_neg (gv_ib (k := i + 2) (by omega) hL), if_neg (gv_ib (k := i + 3) (by omega) hL), if_neg (gv_ib (k := i + 4) (by omega) hL), if_neg (gv_ib (k := i + 5) (by omega) hL), i32_clamp (n := i + 1) (by omega), i32_clamp (n := i + 2) (by omega), i32_clamp (n := i + 3) (by omega), i32_clamp (n := i + 4) (by omega), i32_clamp (n := i + 5) (by omega)]
  rw [h1]
  simp only [gf_cl]
  rw [if_neg (gv_ic (k := i + 1) (by omega) hL), if_neg (gv_ic (k := i + 2) (by omega) hL), if_neg (gv_ic (k := i + 3) (by omega) hL), if_neg (gv_ic (k := i + 4) (by omega) hL), if_neg (gv_ic (k := i + 5) (by omega) hL), h2]
  simp only [gf_cl, gv_thr]
  rw [if_pos h3]
  refine ⟨u2, hj, ?_⟩
  by_cases hk : k = 0
  · rw [if_pos hk, if_neg (gv_o0 ho), show ((0 : Int32)).toNatClampNeg = 0 from rfl, if_pos (h4 hk)]
    rfl
  · rw [if_neg hk]
    rfl
set_option maxHeartbeats 4000000 in
set_option maxRecDepth 20000 in
theorem gv_op1 {F : Nat} {xs : Nat → Int32} {L i : Nat} {z : gw_Sh} {u : gw_St} {J : gw_St → Prop} (hL : L ≤ 3072) (hi : i + 6 ≤ L) (ho : z.2.2 701 = 1) (hc : xs i &&& 31 = 1) (h : ∃ k a u1 u2, gf_Law_search F z u 0 (xs (i + 1)) 701 = some (k, u1) ∧ gf_Model_search F z u1 670 (xs (i + 1)) = some (a, u2) ∧ u2.1 670 0 = k ∧ (k = 0 → u2.2.1 701 0 = if a = 0 then 0 else 1) ∧ J u2) : gv_R F xs L z u J i := by
  intro rc
  have e1 : Int32.ofNat i + (1 : Int32) = Int32.ofNat (i + 1) := gv_ij 1 (by omega)
  have c0 : (Int32.ofNat i).toNatClampNeg = i := i32_clamp (by omega)
  unfold gf_Law_law_S23
  rw [if_neg (gv_i0 hi hL), if_neg (gv_ib (by omega) hL), c0]
  rw [if_neg (by rw [hc]; decide)]
  rw [if_pos hc]
  obtain ⟨k, a, u1, u2, h1, h2, h3, h4, hj⟩ := h
  rw [e1, if_neg (gv_ib (k := i + 1) (by omega) hL), i32_clamp (n := i + 1) (by omega)]
  rw [h1]
  simp only [gf_cl]
  rw [if_neg (gv_ic (k := i + 1) (by omega) hL), h2]
  simp only [gf_cl, gv_thr]
  rw [if_pos h3]
  refine ⟨u2, hj, ?_⟩
  by_cases hk : k = 0
  · rw [if_pos hk, if_neg (gv_o0 ho), show ((0 : Int32)).toNatClampNeg = 0 from rfl]
    have h5 := h4 hk
    by_cases ha : a = 0
    · rw [if_pos ha] at h5 ⊢
      rw [h5]
      rfl
    · rw [if_neg ha] at h5 ⊢
      rw [h5]
      rfl
  · rw [if_neg hk]
    rfl
set_option maxHeartbeats 4000000 in
set_option maxRecDepth 20000 in
theorem gv_op2 {F : Nat} {xs : Nat → Int32} {L i : Nat} {z : gw_Sh} {u : gw_St} {J : gw_St → Prop} (hL : L ≤ 3072) (hi : i + 6 ≤ L) (ho : z.2.2 701 = 1) (hc : xs i &&& 31 = 2) (h : ∃ k a u1 u2, gf_Law_tooth F z u 0 (xs (i + 1)) (xs (i + 2)) 701 = some (k, u1) ∧ gf_Model_tooth F z u1 670 (xs (i + 1)) (xs (i + 2)) = some (a, u2) ∧ u2.1 670 0 = k ∧ (k = 0 → lg_cmp (u2.2.1 701 0) a.toInt64 = 0) ∧ J u2) : gv_R F xs L z u J i := by
  intro rc
  have e1 : Int32.ofNat i + (1 : Int32) = Int32.ofNat (i + 1) := gv_ij 1 (by omega)
  have e2 : Int32.ofNat i + (2 : Int32) = Int32.ofNat (i + 2) := gv_ij 2 (by omega)
  have c0 : (Int32.ofNat i).toNatClampNeg = i := i32_clamp (by omega)
  unfold gf_Law_law_S23
  rw [if_neg (gv_i0 hi hL), if_neg (gv_ib (by omega) hL), c0]
  rw [if_neg (by rw [hc]; decide)]
  rw [if_neg (by rw [hc]; decide)]
  rw [if_pos hc]
  obtain ⟨k, a, u1, u2, h1, h2, h3, h4, hj⟩ := h
  rw [e1, e2, if_neg (gv_ib (k := i + 1) (by omega) hL), if_neg (gv_ib (k := i + 2) (by omega) hL), i32_clamp (n := i + 1) (by omega), i32_clamp (n := i + 2) (by omega)]
  rw [h1]
  simp only [gf_cl]
  rw [if_neg (gv_ic (k := i + 1) (by omega) hL), if_neg (gv_ic (k := i + 2) (by omega) hL), h2]
  simp only [gf_cl, gv_thr]
  rw [if_pos h3]
  refine ⟨u2, hj, ?_⟩
  by_cases hk : k = 0
  · rw [if_pos hk, if_neg (gv_o0 ho), show ((0 : Int32)).toNatClampNeg = 0 from rfl, if_pos (h4 hk)]
    rfl
  · rw [if_neg hk]
    rfl
set_option maxHeartbeats 4000000 in
set_option maxRecDepth 20000 in
theorem gv_op3 {F : Nat} {xs : Nat → Int32} {L i : Nat} {z : gw_Sh} {u : gw_St} {J : gw_St → Prop} (hL : L ≤ 3072) (hi : i + 6 ≤ L) (ho : z.2.2 701 = 1) (hc : xs i &&& 31 = 3) (h : ∃ k a u1 u2, gf_Law_error F z u 0 (xs (i + 1)) 701 = some (k, u1) ∧ gf_Model_error F z u1 670 (xs (i + 1)) = some (a, u2) ∧ u2.1 670 0 = k ∧ (k = 0 → lg_cmp (u2.2.1 701 0) a = 0) ∧ J u2) : gv_R F xs L z u J i := by
  intro rc
  have e1 : Int32.ofNat i + (1 : Int32) = Int32.ofNat (i + 1) := gv_ij 1 (by omega)
  have c0 : (Int32.ofNat i).toNatClampNeg = i := i32_clamp (by omega)
  unfold gf_Law_law_S23
  rw [if_neg (gv_i0 hi hL), if_neg (gv_ib (by omega) hL), c0]
  rw [if_neg (by rw [hc]; decide)]
  rw [if_neg (by rw [hc]; decide)]
  rw [if_neg (by rw [hc]; decide)]
  rw [if_pos hc]
  obtain ⟨k, a, u1, u2, h1, h2, h3, h4, hj⟩ := h
  rw [e1, if_neg (gv_ib (k := i + 1) (by omega) hL), i32_clamp (n := i + 1) (by omega)]
  rw [h1]
  simp only [gf_cl]
  rw [if_neg (gv_ic (k := i + 1) (by omega) hL), h2]
  simp only [gf_cl, gv_thr]
  rw [if_pos h3]
  refine ⟨u2, hj, ?_⟩
  by_cases hk : k = 0
  · rw [if_pos hk, if_neg (gv_o0 ho), show ((0 : Int32)).toNatClampNeg = 0 from rfl, if_pos (h4 hk)]
    rfl
  · rw [if_neg hk]
    rfl
set_option maxHeartbeats 4000000 in
set_option maxRecDepth 20000 in
theorem gv_op4 {F : Nat} {xs : Nat → Int32} {L i : Nat} {z : gw_Sh} {u : gw_St} {J : gw_St → Prop} (hL : L ≤ 3072) (hi : i + 6 ≤ L) (ho : z.2.2 701 = 1) (hc : xs i &&& 31 = 4) (h : ∃ k a u1 u2, gf_Law_quotient F z u 0 (xs (i + 1)) (xs (i + 2)) (xs (i + 3)) 701 = some (k, u1) ∧ gf_Model_quotient F z u1 670 (xs (i + 1)) (xs (i + 2)) (xs (i + 3)) = some (a, u2) ∧ u2.1 670 0 = k ∧ (k = 0 → lg_cmp (u2.2.1 701 0) a.toInt64 = 0) ∧ J u2) : gv_R F xs L z u J i := by
  intro rc
  have e1 : Int32.ofNat i + (1 : Int32) = Int32.ofNat (i + 1) := gv_ij 1 (by omega)
  have e2 : Int32.ofNat i + (2 : Int32) = Int32.ofNat (i + 2) := gv_ij 2 (by omega)
  have e3 : Int32.ofNat i + (3 : Int32) = Int32.ofNat (i + 3) := gv_ij 3 (by omega)
  have c0 : (Int32.ofNat i).toNatClampNeg = i := i32_clamp (by omega)
  unfold gf_Law_law_S23
  rw [if_neg (gv_i0 hi hL), if_neg (gv_ib (by omega) hL), c0]
  rw [if_neg (by rw [hc]; decide)]
  rw [if_neg (by rw [hc]; decide)]
  rw [if_neg (by rw [hc]; decide)]
  rw [if_neg (by rw [hc]; decide)]
  rw [if_pos hc]
  obtain ⟨k, a, u1, u2, h1, h2, h3, h4, hj⟩ := h
  rw [e1, e2, e3, if_neg (gv_ib (k := i + 1) (by omega) hL), if_neg (gv_ib (k := i + 2) (by omega) hL), if_neg (gv_ib (k := i + 3) (by omega) hL), i32_clamp (n := i + 1) (by omega), i32_clamp (n := i + 2) (by omega), i32_clamp (n := i + 3) (by omega)]
  rw [h1]
  simp only [gf_cl]
  rw [if_neg (gv_ic (k := i + 1) (by omega) hL), if_neg (gv_ic (k := i + 2) (by omega) hL), if_neg (gv_ic (k := i + 3) (by omega) hL), h2]
  simp only [gf_cl, gv_thr]
  rw [if_pos h3]
  refine ⟨u2, hj, ?_⟩
  by_cases hk : k = 0
  · rw [if_pos hk, if_neg (gv_o0 ho), show ((0 : Int32)).toNatClampNeg = 0 from rfl, if_pos (h4 hk)]
    rfl
  · rw [if_neg hk]
    rfl
set_option maxHeartbeats 4000000 in
set_option maxRecDepth 20000 in
theorem gv_op5 {F : Nat} {xs : Nat → Int32} {L i : Nat} {z : gw_Sh} {u : gw_St} {J : gw_St → Prop} (hL : L ≤ 3072) (hi : i + 6 ≤ L) (ho : z.2.2 701 = 1) (hc : xs i &&& 31 = 5) (h : ∃ k a u1 u2, gf_Law_gear F z u 0 (xs (i + 1)) 701 = some (k, u1) ∧ gf_Model_gear F z u1 670 (xs (i + 1)) = some (a, u2) ∧ u2.1 670 0 = k ∧ (k = 0 → lg_cmp (u2.2.1 701 0) a.toInt64 = 0) ∧ J u2) : gv_R F xs L z u J i := by
  intro rc
  have e1 : Int32.ofNat i + (1 : Int32) = Int32.ofNat (i + 1) := gv_ij 1 (by omega)
  have c0 : (Int32.ofNat i).toNatClampNeg = i := i32_clamp (by omega)
  unfold gf_Law_law_S23
  rw [if_neg (gv_i0 hi hL), if_neg (gv_ib (by omega) hL), c0]
  rw [if_neg (by rw [hc]; decide)]
  rw [if_neg (by rw [hc]; decide)]
  rw [if_neg (by rw [hc]; decide)]
  rw [if_neg (by rw [hc]; decide)]
  rw [if_neg (by rw [hc]; decide)]
  rw [if_pos hc]
  obtain ⟨k, a, u1, u2, h1, h2, h3, h4, hj⟩ := h
  rw [e1, if_neg (gv_ib (k := i + 1) (by omega) hL), i32_clamp (n := i + 1) (by omega)]
  rw [h1]
  simp only [gf_cl]
  rw [if_neg (gv_ic (k := i + 1) (by omega) hL), h2]
  simp only [gf_cl, gv_thr]
  rw [if_pos h3]
  refine ⟨u2, hj, ?_⟩
  by_cases hk : k = 0
  · rw [if_pos hk, if_neg (gv_o0 ho), show ((0 : Int32)).toNatClampNeg = 0 from rfl, if_pos (h4 hk)]
    rfl
  · rw [if_neg hk]
    rfl
set_option maxHeartbeats 4000000 in
set_option maxRecDepth 20000 in
theorem gv_op6 {F : Nat} {xs : Nat → Int32} {L i : Nat} {z : gw_Sh} {u : gw_St} {J : gw_St → Prop} (hL : L ≤ 3072) (hi : i + 6 ≤ L) (ho : z.2.2 701 = 1) (hc : xs i &&& 31 = 6) (h : ∃ k a u1 u2, gf_Law_mesh F z u 0 (xs (i + 1)) (xs (i + 2)) 701 = some (k, u1) ∧ gf_Model_mesh F z u1 670 (xs (i + 1)) (xs (i + 2)) = some (a, u2) ∧ u2.1 670 0 = k ∧ (k = 0 → lg_cmp (u2.2.1 701 0) a.toInt64 = 0) ∧ J u2) : gv_R F xs L z u J i := by
  intro rc
  have e1 : Int32.ofNat i + (1 : Int32) = Int32.ofNat (i + 1) := gv_ij 1 (by omega)
  have e2 : Int32.ofNat i + (2 : Int32) = Int32.ofNat (i + 2) := gv_ij 2 (by omega)
  have c0 : (Int32.ofNat i).toNatClampNeg = i := i32_clamp (by omega)
  unfold gf_Law_law_S23
  rw [if_neg (gv_i0 hi hL), if_neg (gv_ib (by omega) hL), c0]
  rw [if_neg (by rw [hc]; decide)]
  rw [if_neg (by rw [hc]; decide)]
  rw [if_neg (by rw [hc]; decide)]
  rw [if_neg (by rw [hc]; decide)]
  rw [if_neg (by rw [hc]; decide)]
  rw [if_neg (by rw [hc]; decide)]
  rw [if_pos hc]
  obtain ⟨k, a, u1, u2, h1, h2, h3, h4, hj⟩ := h
  rw [e1, e2, if_neg (gv_ib (k := i + 1) (by omega) hL), if_neg (gv_ib (k := i + 2) (by omega) hL), i32_clamp (n := i + 1) (by omega), i32_clamp (n := i + 2) (by omega)]
  rw [h1]
  simp only [gf_cl]
  rw [if_neg (gv_ic (k := i + 1) (by omega) hL), if_neg (gv_ic (k := i + 2) (by omega) hL), h2]
  simp only [gf_cl, gv_thr]
  rw [if_pos h3]
  refine ⟨u2, hj, ?_⟩
  by_cases hk : k = 0
  · rw [if_pos hk, if_neg (gv_o0 ho), show ((0 : Int32)).toNatClampNeg = 0 from rfl, if_pos (h4 hk)]
    rfl
  · rw [if_neg hk]
    rfl
set_option maxHeartbeats 4000000 in
set_option maxRecDepth 20000 in
theorem gv_op7 {F : Nat} {xs : Nat → Int32} {L i : Nat} {z : gw_Sh} {u : gw_St} {J : gw_St → Prop} (hL : L ≤ 3072) (hi : i + 6 ≤ L) (ho : z.2.2 701 = 1) (hc : xs i &&& 31 = 7) (h : ∃ k a u1 u2, gf_Law_inner F z u 0 (xs (i + 1)) (xs (i + 2)) 701 = some (k, u1) ∧ gf_Model_inner F z u1 670 (xs (i + 1)) (xs (i + 2)) = some (a, u2) ∧ u2.1 670 0 = k ∧ (k = 0 → lg_cmp (u2.2.1 701 0) a.toInt64 = 0) ∧ J u2) : gv_R F xs L z u J i := by
  intro rc
  have e1 : Int32.ofNat i + (1 : Int32) = Int32.ofNat (i + 1) := gv_ij 1 (by omega)
  have e2 : Int32.ofNat i + (2 : Int32) = Int32.ofNat (i + 2) := gv_ij 2 (by omega)
  have c0 : (Int32.ofNat i).toNatClampNeg = i := i32_clamp (by omega)
  unfold gf_Law_law_S23
  rw [if_neg (gv_i0 hi hL), if_neg (gv_ib (by omega) hL), c0]
  rw [if_neg (by rw [hc]; decide)]
  rw [if_neg (by rw [hc]; decide)]
  rw [if_neg (by rw [hc]; decide)]
  rw [if_neg (by rw [hc]; decide)]
  rw [if_neg (by rw [hc]; decide)]
  rw [if_neg (by rw [hc]; decide)]
  rw [if_neg (by rw [hc]; decide)]
  rw [if_pos hc]
  obtain ⟨k, a, u1, u2, h1, h2, h3, h4, hj⟩ := h
  rw [e1, e2, if_neg (gv_ib (k := i + 1) (by omega) hL), if_neg (gv_ib (k := i + 2) (by omega) hL), i32_clamp (n := i + 1) (by omega), i32_clamp (n := i + 2) (by omega)]
  rw [h1]
  simp only [gf_cl]
  rw [if_neg (gv_ic (k := i + 1) (by omega) hL), if_neg (gv_ic (k := i + 2) (by omega) hL), h2]
  simp only [gf_cl, gv_thr]
  rw [if_pos h3]
  refine ⟨u2, hj, ?_⟩
  by_cases hk : k = 0
  · rw [if_pos hk, if_neg (gv_o0 ho), show ((0 : Int32)).toNatClampNeg = 0 from rfl, if_pos (h4 hk)]
    rfl
  · rw [if_neg hk]
    rfl
set_option maxHeartbeats 4000000 in
set_option maxRecDepth 20000 in
theorem gv_op8 {F : Nat} {xs : Nat → Int32} {L i : Nat} {z : gw_Sh} {u : gw_St} {J : gw_St → Prop} (hL : L ≤ 3072) (hi : i + 6 ≤ L) (ho : z.2.2 701 = 1) (hc : xs i &&& 31 = 8) (h : ∃ k a u1 u2, gf_Law_arbor F z u 0 (xs (i + 1)) (xs (i + 2)) 701 = some (k, u1) ∧ gf_Model_arbor F z u1 670 (xs (i + 1)) (xs (i + 2)) = some (a, u2) ∧ u2.1 670 0 = k ∧ (k = 0 → lg_cmp (u2.2.1 701 0) a.toInt64 = 0) ∧ J u2) : gv_R F xs L z u J i := by
  intro rc
  have e1 : Int32.ofNat i + (1 : Int32) = Int32.ofNat (i + 1) := gv_ij 1 (by omega)
  have e2 : Int32.ofNat i + (2 : Int32) = Int32.ofNat (i + 2) := gv_ij 2 (by omega)
  have c0 : (Int32.ofNat i).toNatClampNeg = i := i32_clamp (by omega)
  unfold gf_Law_law_S23
  rw [if_neg (gv_i0 hi hL), if_neg (gv_ib (by omega) hL), c0]
  rw [if_neg (by rw [hc]; decide)]
  rw [if_neg (by rw [hc]; decide)]
  rw [if_neg (by rw [hc]; decide)]
  rw [if_neg (by rw [hc]; decide)]
  rw [if_neg (by rw [hc]; decide)]
  rw [if_neg (by rw [hc]; decide)]
  rw [if_neg (by rw [hc]; decide)]
  rw [if_neg (by rw [hc]; decide)]
  rw [if_pos hc]
  obtain ⟨k, a, u1, u2, h1, h2, h3, h4, hj⟩ := h
  rw [e1, e2, if_neg (gv_ib (k := i + 1) (by omega) hL), if_neg (gv_ib (k := i + 2) (by omega) hL), i32_clamp (n := i + 1) (by omega), i32_clamp (n := i + 2) (by omega)]
  rw [h1]
  simp only [gf_cl]
  rw [if_neg (gv_ic (k := i + 1) (by omega) hL), if_neg (gv_ic (k := i + 2) (by omega) hL), h2]
  simp only [gf_cl, gv_thr]
  rw [if_pos h3]
  refine ⟨u2, hj, ?_⟩
  by_cases hk : k = 0
  · rw [if_pos hk, if_neg (gv_o0 ho), show ((0 : Int32)).toNatClampNeg = 0 from rfl, if_pos (h4 hk)]
    rfl
  · rw [if_neg hk]
    rfl
set_option maxHeartbeats 4000000 in
set_option maxRecDepth 20000 in
theorem gv_op9 {F : Nat} {xs : Nat → Int32} {L i : Nat} {z : gw_Sh} {u : gw_St} {J : gw_St → Prop} (hL : L ≤ 3072) (hi : i + 6 ≤ L) (ho : z.2.2 701 = 1) (hc : xs i &&& 31 = 9) (h : ∃ k a u1 u2, gf_Law_planet F z u 0 (xs (i + 1)) (xs (i + 2)) (xs (i + 3)) 701 = some (k, u1) ∧ gf_Model_planet F z u1 670 (xs (i + 1)) (xs (i + 2)) (xs (i + 3)) = some (a, u2) ∧ u2.1 670 0 = k ∧ (k = 0 → lg_cmp (u2.2.1 701 0) a.toInt64 = 0) ∧ J u2) : gv_R F xs L z u J i := by
  intro rc
  have e1 : Int32.ofNat i + (1 : Int32) = Int32.ofNat (i + 1) := gv_ij 1 (by omega)
  have e2 : Int32.ofNat i + (2 : Int32) = Int32.ofNat (i + 2) := gv_ij 2 (by omega)
  have e3 : Int32.ofNat i + (3 : Int32) = Int32.ofNat (i + 3) := gv_ij 3 (by omega)
  have c0 : (Int32.ofNat i).toNatClampNeg = i := i32_clamp (by omega)
  unfold gf_Law_law_S23
  rw [if_neg (gv_i0 hi hL), if_neg (gv_ib (by omega) hL), c0]
  rw [if_neg (by rw [hc]; decide)]
  rw [if_neg (by rw [hc]; decide)]
  rw [if_neg (by rw [hc]; decide)]
  rw [if_neg (by rw [hc]; decide)]
  rw [if_neg (by rw [hc]; decide)]
  rw [if_neg (by rw [hc]; decide)]
  rw [if_neg (by rw [hc]; decide)]
  rw [if_neg (by rw [hc]; decide)]
  rw [if_neg (by rw [hc]; decide)]
  rw [if_pos hc]
  obtain ⟨k, a, u1, u2, h1, h2, h3, h4, hj⟩ := h
  rw [e1, e2, e3, if_neg (gv_ib (k := i + 1) (by omega) hL), if_neg (gv_ib (k := i + 2) (by omega) hL), if_neg (gv_ib (k := i + 3) (by omega) hL), i32_clamp (n := i + 1) (by omega), i32_clamp (n := i + 2) (by omega), i32_clamp (n := i + 3) (by omega)]
  rw [h1]
  simp only [gf_cl]
  rw [if_neg (gv_ic (k := i + 1) (by omega) hL), if_neg (gv_ic (k := i + 2) (by omega) hL), if_neg (gv_ic (k := i + 3) (by omega) hL), h2]
  simp only [gf_cl, gv_thr]
  rw [if_pos h3]
  refine ⟨u2, hj, ?_⟩
  by_cases hk : k = 0
  · rw [if_pos hk, if_neg (gv_o0 ho), show ((0 : Int32)).toNatClampNeg = 0 from rfl, if_pos (h4 hk)]
    rfl
  · rw [if_neg hk]
    rfl
set_option maxHeartbeats 4000000 in
set_option maxRecDepth 20000 in
theorem gv_op10 {F : Nat} {xs : Nat → Int32} {L i : Nat} {z : gw_Sh} {u : gw_St} {J : gw_St → Prop} (hL : L ≤ 3072) (hi : i + 6 ≤ L) (ho : z.2.2 701 = 1) (hc : xs i &&& 31 = 10) (h : ∃ k a u1 u2, gf_Law_remove F z u 0 (xs (i + 1)) 701 = some (k, u1) ∧ gf_Model_remove F z u1 670 (xs (i + 1)) = some (a, u2) ∧ u2.1 670 0 = k ∧ (k = 0 → lg_cmp (u2.2.1 701 0) a.toInt64 = 0) ∧ J u2) : gv_R F xs L z u J i := by
  intro rc
  have e1 : Int32.ofNat i + (1 : Int32) = Int32.ofNat (i + 1) := gv_ij 1 (by omega)
  have c0 : (Int32.ofNat i).toNatClampNeg = i := i32_clamp (by omega)
  unfold gf_Law_law_S23
  rw [if_neg (gv_i0 hi hL), if_neg (gv_ib (by omega) hL), c0]
  rw [if_neg (by rw [hc]; decide)]
  rw [if_neg (by rw [hc]; decide)]
  rw [if_neg (by rw [hc]; decide)]
  rw [if_neg (by rw [hc]; decide)]
  rw [if_neg (by rw [hc]; decide)]
  rw [if_neg (by rw [hc]; decide)]
  rw [if_neg (by rw [hc]; decide)]
  rw [if_neg (by rw [hc]; decide)]
  rw [if_neg (by rw [hc]; decide)]
  rw [if_neg (by rw [hc]; decide)]
  rw [if_pos hc]
  obtain ⟨k, a, u1, u2, h1, h2, h3, h4, hj⟩ := h
  rw [e1, if_neg (gv_ib (k := i + 1) (by omega) hL), i32_clamp (n := i + 1) (by omega)]
  rw [h1]
  simp only [gf_cl]
  rw [if_neg (gv_ic (k := i + 1) (by omega) hL), h2]
  simp only [gf_cl, gv_thr]
  rw [if_pos h3]
  refine ⟨u2, hj, ?_⟩
  by_cases hk : k = 0
  · rw [if_pos hk, if_neg (gv_o0 ho), show ((0 : Int32)).toNatClampNeg = 0 from rfl, if_pos (h4 hk)]
    rfl
  · rw [if_neg hk]
    rfl
set_option maxHeartbeats 4000000 in
set_option maxRecDepth 20000 in
theorem gv_op11 {F : Nat} {xs : Nat → Int32} {L i : Nat} {z : gw_Sh} {u : gw_St} {J : gw_St → Prop} (hL : L ≤ 3072) (hi : i + 6 ≤ L) (ho : z.2.2 701 = 1) (hc : xs i &&& 31 = 11) (h : ∃ k a u1 u2, gf_Law_relation F z u 0 (xs (i + 1)) (xs (i + 2)) 701 = some (k, u1) ∧ gf_Model_relation F z u1 670 (xs (i + 1)) (xs (i + 2)) = some (a, u2) ∧ u2.1 670 0 = k ∧ (k = 0 → lg_cmp (u2.2.1 701 0) a.toInt64 = 0) ∧ J u2) : gv_R F xs L z u J i := by
  intro rc
  have e1 : Int32.ofNat i + (1 : Int32) = Int32.ofNat (i + 1) := gv_ij 1 (by omega)
  have e2 : Int32.ofNat i + (2 : Int32) = Int32.ofNat (i + 2) := gv_ij 2 (by omega)
  have c0 : (Int32.ofNat i).toNatClampNeg = i := i32_clamp (by omega)
  unfold gf_Law_law_S23
  rw [if_neg (gv_i0 hi hL), if_neg (gv_ib (by omega) hL), c0]
  rw [if_neg (by rw [hc]; decide)]
  rw [if_neg (by rw [hc]; decide)]
  rw [if_neg (by rw [hc]; decide)]
  rw [if_neg (by rw [hc]; decide)]
  rw [if_neg (by rw [hc]; decide)]
  rw [if_neg (by rw [hc]; decide)]
  rw [if_neg (by rw [hc]; decide)]
  rw [if_neg (by rw [hc]; decide)]
  rw [if_neg (by rw [hc]; decide)]
  rw [if_neg (by rw [hc]; decide)]
  rw [if_neg (by rw [hc]; decide)]
  rw [if_pos hc]
  obtain ⟨k, a, u1, u2, h1, h2, h3, h4, hj⟩ := h
  rw [e1, e2, if_neg (gv_ib (k := i + 1) (by omega) hL), if_neg (gv_ib (k := i + 2) (by omega) hL), i32_clamp (n := i + 1) (by omega), i32_clamp (n := i + 2) (by omega)]
  rw [h1]
  simp only [gf_cl]
  rw [if_neg (gv_ic (k := i + 1) (by omega) hL), if_neg (gv_ic (k := i + 2) (by omega) hL), h2]
  simp only [gf_cl, gv_thr]
  rw [if_pos h3]
  refine ⟨u2, hj, ?_⟩
  by_cases hk : k = 0
  · rw [if_pos hk, if_neg (gv_o0 ho), show ((0 : Int32)).toNatClampNeg = 0 from rfl, if_pos (h4 hk)]
    rfl
  · rw [if_neg hk]
    rfl
set_option maxHeartbeats 4000000 in
set_option maxRecDepth 20000 in
theorem gv_op12 {F : Nat} {xs : Nat → Int32} {L i : Nat} {z : gw_Sh} {u : gw_St} {J : gw_St → Prop} (hL : L ≤ 3072) (hi : i + 6 ≤ L) (ho : z.2.2 701 = 1) (hc : xs i &&& 31 = 12) (h : ∃ k a u1 u2, gf_Law_crank F z u 0 (xs (i + 1)) 701 = some (k, u1) ∧ gf_Model_crank F z u1 670 (xs (i + 1)) = some (a, u2) ∧ u2.1 670 0 = k ∧ (k = 0 → lg_cmp (u2.2.1 701 0) a.toInt64 = 0) ∧ J u2) : gv_R F xs L z u J i := by
  intro rc
  have e1 : Int32.ofNat i + (1 : Int32) = Int32.ofNat (i + 1) := gv_ij 1 (by omega)
  have c0 : (Int32.ofNat i).toNatClampNeg = i := i32_clamp (by omega)
  unfold gf_Law_law_S23
  rw [if_neg (gv_i0 hi hL), if_neg (gv_ib (by omega) hL), c0]
  rw [if_neg (by rw [hc]; decide)]
  rw [if_neg (by rw [hc]; decide)]
  rw [if_neg (by rw [hc]; decide)]
  rw [if_neg (by rw [hc]; decide)]
  rw [if_neg (by rw [hc]; decide)]
  rw [if_neg (by rw [hc]; decide)]
  rw [if_neg (by rw [hc]; decide)]
  rw [if_neg (by rw [hc]; decide)]
  rw [if_neg (by rw [hc]; decide)]
  rw [if_neg (by rw [hc]; decide)]
  rw [if_neg (by rw [hc]; decide)]
  rw [if_neg (by rw [hc]; decide)]
  rw [if_pos hc]
  obtain ⟨k, a, u1, u2, h1, h2, h3, h4, hj⟩ := h
  rw [e1, if_neg (gv_ib (k := i + 1) (by omega) hL), i32_clamp (n := i + 1) (by omega)]
  rw [h1]
  simp only [gf_cl]
  rw [if_neg (gv_ic (k := i + 1) (by omega) hL), h2]
  simp only [gf_cl, gv_thr]
  rw [if_pos h3]
  refine ⟨u2, hj, ?_⟩
  by_cases hk : k = 0
  · rw [if_pos hk, if_neg (gv_o0 ho), show ((0 : Int32)).toNatClampNeg = 0 from rfl, if_pos (h4 hk)]
    rfl
  · rw [if_neg hk]
    rfl
set_option maxHeartbeats 4000000 in
set_option maxRecDepth 20000 in
theorem gv_op13 {F : Nat} {xs : Nat → Int32} {L i : Nat} {z : gw_Sh} {u : gw_St} {J : gw_St → Prop} (hL : L ≤ 3072) (hi : i + 6 ≤ L) (ho : z.2.2 701 = 1) (hc : xs i &&& 31 = 13) (h : ∃ k a u1 u2, gf_Law_solve F z u 0 701 = some (k, u1) ∧ gf_Model_solve F z u1 670 = some (a, u2) ∧ u2.1 670 0 = k ∧ (k = 0 → lg_cmp (u2.2.1 701 0) a.toInt64 = 0) ∧ J u2) : gv_R F xs L z u J i := by
  intro rc
  have c0 : (Int32.ofNat i).toNatClampNeg = i := i32_clamp (by omega)
  unfold gf_Law_law_S23
  rw [if_neg (gv_i0 hi hL), if_neg (gv_ib (by omega) hL), c0]
  rw [if_neg (by rw [hc]; decide)]
  rw [if_neg (by rw [hc]; decide)]
  rw [if_neg (by rw [hc]; decide)]
  rw [if_neg (by rw [hc]; decide)]
  rw [if_neg (by rw [hc]; decide)]
  rw [if_neg (by rw [hc]; decide)]
  rw [if_neg (by rw [hc]; decide)]
  rw [if_neg (by rw [hc]; decide)]
  rw [if_neg (by rw [hc]; decide)]
  rw [if_neg (by rw [hc]; decide)]
  rw [if_neg (by rw [hc]; decide)]
  rw [if_neg (by rw [hc]; decide)]
  rw [if_neg (by rw [hc]; decide)]
  rw [if_pos hc]
  obtain ⟨k, a, u1, u2, h1, h2, h3, h4, hj⟩ := h
  rw [h1]
  simp only [gf_cl]
  rw [h2]
  simp only [gf_cl, gv_thr]
  rw [if_pos h3]
  refine ⟨u2, hj, ?_⟩
  by_cases hk : k = 0
  · rw [if_pos hk, if_neg (gv_o0 ho), show ((0 : Int32)).toNatClampNeg = 0 from rfl, if_pos (h4 hk)]
    rfl
  · rw [if_neg hk]
    rfl
set_option maxHeartbeats 4000000 in
set_option maxRecDepth 20000 in
theorem gv_op14 {F : Nat} {xs : Nat → Int32} {L i : Nat} {z : gw_Sh} {u : gw_St} {J : gw_St → Prop} (hL : L ≤ 3072) (hi : i + 6 ≤ L) (ho : z.2.2 701 = 1) (hc : xs i &&& 31 = 14) (h : ∃ k a u1 u2, gf_Law_speed F z u 0 (xs (i + 1)) (xs (i + 2)) (xs (i + 3)) 701 = some (k, u1) ∧ gf_Model_speed F z u1 670 (xs (i + 1)) (xs (i + 2)) (xs (i + 3)) = some (a, u2) ∧ u2.1 670 0 = k ∧ (k = 0 → lg_cmp (u2.2.1 701 0) a.toInt64 = 0) ∧ J u2) : gv_R F xs L z u J i := by
  intro rc
  have e1 : Int32.ofNat i + (1 : Int32) = Int32.ofNat (i + 1) := gv_ij 1 (by omega)
  have e2 : Int32.ofNat i + (2 : Int32) = Int32.ofNat (i + 2) := gv_ij 2 (by omega)
  have e3 : Int32.ofNat i + (3 : Int32) = Int32.ofNat (i + 3) := gv_ij 3 (by omega)
  have c0 : (Int32.ofNat i).toNatClampNeg = i := i32_clamp (by omega)
  unfold gf_Law_law_S23
  rw [if_neg (gv_i0 hi hL), if_neg (gv_ib (by omega) hL), c0]
  rw [if_neg (by rw [hc]; decide)]
  rw [if_neg (by rw [hc]; decide)]
  rw [if_neg (by rw [hc]; decide)]
  rw [if_neg (by rw [hc]; decide)]
  rw [if_neg (by rw [hc]; decide)]
  rw [if_neg (by rw [hc]; decide)]
  rw [if_neg (by rw [hc]; decide)]
  rw [if_neg (by rw [hc]; decide)]
  rw [if_neg (by rw [hc]; decide)]
  rw [if_neg (by rw [hc]; decide)]
  rw [if_neg (by rw [hc]; decide)]
  rw [if_neg (by rw [hc]; decide)]
  rw [if_neg (by rw [hc]; decide)]
  rw [if_neg (by rw [hc]; decide)]
  rw [if_pos hc]
  obtain ⟨k, a, u1, u2, h1, h2, h3, h4, hj⟩ := h
  rw [e1, e2, e3, if_neg (gv_ib (k := i + 1) (by omega) hL), if_neg (gv_ib (k := i + 2) (by omega) hL), if_neg (gv_ib (k := i + 3) (by omega) hL), i32_clamp (n := i + 1) (by omega), i32_clamp (n := i + 2) (by omega), i32_clamp (n := i + 3) (by omega)]
  rw [h1]
  simp only [gf_cl]
  rw [if_neg (gv_ic (k := i + 1) (by omega) hL), if_neg (gv_ic (k := i + 2) (by omega) hL), if_neg (gv_ic (k := i + 3) (by omega) hL), h2]
  simp only [gf_cl, gv_thr]
  rw [if_pos h3]
  refine ⟨u2, hj, ?_⟩
  by_cases hk : k = 0
  · rw [if_pos hk, if_neg (gv_o0 ho), show ((0 : Int32)).toNatClampNeg = 0 from rfl, if_pos (h4 hk)]
    rfl
  · rw [if_neg hk]
    rfl
set_option maxHeartbeats 4000000 in
set_option maxRecDepth 20000 in
theorem gv_op15 {F : Nat} {xs : Nat → Int32} {L i : Nat} {z : gw_Sh} {u : gw_St} {J : gw_St → Prop} (hL : L ≤ 3072) (hi : i + 6 ≤ L) (ho : z.2.2 701 = 1) (hc : xs i &&& 31 = 15) (h : ∃ k a u1 u2, gf_Law_dial F z u 0 (xs (i + 1)) (xs (i + 2)) (xs (i + 3)) 701 = some (k, u1) ∧ gf_Model_dial F z u1 670 (xs (i + 1)) (xs (i + 2)) (xs (i + 3)) = some (a, u2) ∧ u2.1 670 0 = k ∧ (k = 0 → lg_cmp (u2.2.1 701 0) a.toInt64 = 0) ∧ J u2) : gv_R F xs L z u J i := by
  intro rc
  have e1 : Int32.ofNat i + (1 : Int32) = Int32.ofNat (i + 1) := gv_ij 1 (by omega)
  have e2 : Int32.ofNat i + (2 : Int32) = Int32.ofNat (i + 2) := gv_ij 2 (by omega)
  have e3 : Int32.ofNat i + (3 : Int32) = Int32.ofNat (i + 3) := gv_ij 3 (by omega)
  have c0 : (Int32.ofNat i).toNatClampNeg = i := i32_clamp (by omega)
  unfold gf_Law_law_S23
  rw [if_neg (gv_i0 hi hL), if_neg (gv_ib (by omega) hL), c0]
  rw [if_neg (by rw [hc]; decide)]
  rw [if_neg (by rw [hc]; decide)]
  rw [if_neg (by rw [hc]; decide)]
  rw [if_neg (by rw [hc]; decide)]
  rw [if_neg (by rw [hc]; decide)]
  rw [if_neg (by rw [hc]; decide)]
  rw [if_neg (by rw [hc]; decide)]
  rw [if_neg (by rw [hc]; decide)]
  rw [if_neg (by rw [hc]; decide)]
  rw [if_neg (by rw [hc]; decide)]
  rw [if_neg (by rw [hc]; decide)]
  rw [if_neg (by rw [hc]; decide)]
  rw [if_neg (by rw [hc]; decide)]
  rw [if_neg (by rw [hc]; decide)]
  rw [if_neg (by rw [hc]; decide)]
  rw [if_pos hc]
  obtain ⟨k, a, u1, u2, h1, h2, h3, h4, hj⟩ := h
  rw [e1, e2, e3, if_neg (gv_ib (k := i + 1) (by omega) hL), if_neg (gv_ib (k := i + 2) (by omega) hL), if_neg (gv_ib (k := i + 3) (by omega) hL), i32_clamp (n := i + 1) (by omega), i32_clamp (n := i + 2) (by omega), i32_clamp (n := i + 3) (by omega)]
  rw [h1]
  simp only [gf_cl]
  rw [if_neg (gv_ic (k := i + 1) (by omega) hL), if_neg (gv_ic (k := i + 2) (by omega) hL), if_neg (gv_ic (k := i + 3) (by omega) hL), h2]
  simp only [gf_cl, gv_thr]
  rw [if_pos h3]
  refine ⟨u2, hj, ?_⟩
  by_cases hk : k = 0
  · rw [if_pos hk, if_neg (gv_o0 ho), show ((0 : Int32)).toNatClampNeg = 0 from rfl, if_pos (h4 hk)]
    rfl
  · rw [if_neg hk]
    rfl
set_option maxHeartbeats 4000000 in
set_option maxRecDepth 20000 in
theorem gv_op16 {F : Nat} {xs : Nat → Int32} {L i : Nat} {z : gw_Sh} {u : gw_St} {J : gw_St → Prop} (hL : L ≤ 3072) (hi : i + 6 ≤ L) (ho : z.2.2 701 = 1) (hc : xs i &&& 31 = 16) (h : ∃ k a u1 u2, gf_Law_position F z u 0 (xs (i + 1)) (xs (i + 2)) (xs (i + 3)) 701 = some (k, u1) ∧ gf_Model_position F z u1 670 (xs (i + 1)) (xs (i + 2)) (xs (i + 3)) = some (a, u2) ∧ u2.1 670 0 = k ∧ (k = 0 → lg_cmp (u2.2.1 701 0) a.toInt64 = 0) ∧ J u2) : gv_R F xs L z u J i := by
  intro rc
  have e1 : Int32.ofNat i + (1 : Int32) = Int32.ofNat (i + 1) := gv_ij 1 (by omega)
  have e2 : Int32.ofNat i + (2 : Int32) = Int32.ofNat (i + 2) := gv_ij 2 (by omega)
  have e3 : Int32.ofNat i + (3 : Int32) = Int32.ofNat (i + 3) := gv_ij 3 (by omega)
  have c0 : (Int32.ofNat i).toNatClampNeg = i := i32_clamp (by omega)
  unfold gf_Law_law_S23
  rw [if_neg (gv_i0 hi hL), if_neg (gv_ib (by omega) hL), c0]
  rw [if_neg (by rw [hc]; decide)]
  rw [if_neg (by rw [hc]; decide)]
  rw [if_neg (by rw [hc]; decide)]
  rw [if_neg (by rw [hc]; decide)]
  rw [if_neg (by rw [hc]; decide)]
  rw [if_neg (by rw [hc]; decide)]
  rw [if_neg (by rw [hc]; decide)]
  rw [if_neg (by rw [hc]; decide)]
  rw [if_neg (by rw [hc]; decide)]
  rw [if_neg (by rw [hc]; decide)]
  rw [if_neg (by rw [hc]; decide)]
  rw [if_neg (by rw [hc]; decide)]
  rw [if_neg (by rw [hc]; decide)]
  rw [if_neg (by rw [hc]; decide)]
  rw [if_neg (by rw [hc]; decide)]
  rw [if_neg (by rw [hc]; decide)]
  rw [if_pos hc]
  obtain ⟨k, a, u1, u2, h1, h2, h3, h4, hj⟩ := h
  rw [e1, e2, e3, if_neg (gv_ib (k := i + 1) (by omega) hL), if_neg (gv_ib (k := i + 2) (by omega) hL), if_neg (gv_ib (k := i + 3) (by omega) hL), i32_clamp (n := i + 1) (by omega), i32_clamp (n := i + 2) (by omega), i32_clamp (n := i + 3) (by omega)]
  rw [h1]
  simp only [gf_cl]
  rw [if_neg (gv_ic (k := i + 1) (by omega) hL), if_neg (gv_ic (k := i + 2) (by omega) hL), if_neg (gv_ic (k := i + 3) (by omega) hL), h2]
  simp only [gf_cl, gv_thr]
  rw [if_pos h3]
  refine ⟨u2, hj, ?_⟩
  by_cases hk : k = 0
  · rw [if_pos hk, if_neg (gv_o0 ho), show ((0 : Int32)).toNatClampNeg = 0 from rfl, if_pos (h4 hk)]
    rfl
  · rw [if_neg hk]
    rfl
set_option maxHeartbeats 4000000 in
set_option maxRecDepth 20000 in
theorem gv_op17 {F : Nat} {xs : Nat → Int32} {L i : Nat} {z : gw_Sh} {u : gw_St} {J : gw_St → Prop} (hL : L ≤ 3072) (hi : i + 6 ≤ L) (ho : z.2.2 701 = 1) (hc : xs i &&& 31 = 17) (h : ∃ k a u1 u2, gf_Law_meet F z u 0 (xs (i + 1)) (xs (i + 2)) 701 = some (k, u1) ∧ gf_Model_meet F z u1 670 (xs (i + 1)) (xs (i + 2)) = some (a, u2) ∧ u2.1 670 0 = k ∧ (k = 0 → u2.2.1 701 0 = if a = 0 then 0 else 1) ∧ J u2) : gv_R F xs L z u J i := by
  intro rc
  have e1 : Int32.ofNat i + (1 : Int32) = Int32.ofNat (i + 1) := gv_ij 1 (by omega)
  have e2 : Int32.ofNat i + (2 : Int32) = Int32.ofNat (i + 2) := gv_ij 2 (by omega)
  have c0 : (Int32.ofNat i).toNatClampNeg = i := i32_clamp (by omega)
  unfold gf_Law_law_S23
  rw [if_neg (gv_i0 hi hL), if_neg (gv_ib (by omega) hL), c0]
  rw [if_neg (by rw [hc]; decide)]
  rw [if_neg (by rw [hc]; decide)]
  rw [if_neg (by rw [hc]; decide)]
  rw [if_neg (by rw [hc]; decide)]
  rw [if_neg (by rw [hc]; decide)]
  rw [if_neg (by rw [hc]; decide)]
  rw [if_neg (by rw [hc]; decide)]
  rw [if_neg (by rw [hc]; decide)]
  rw [if_neg (by rw [hc]; decide)]
  rw [if_neg (by rw [hc]; decide)]
  rw [if_neg (by rw [hc]; decide)]
  rw [if_neg (by rw [hc]; decide)]
  rw [if_neg (by rw [hc]; decide)]
  rw [if_neg (by rw [hc]; decide)]
  rw [if_neg (by rw [hc]; decide)]
  rw [if_neg (by rw [hc]; decide)]
  rw [if_neg (by rw [hc]; decide)]
  rw [if_pos hc]
  obtain ⟨k, a, u1, u2, h1, h2, h3, h4, hj⟩ := h
  rw [e1, e2, if_neg (gv_ib (k := i + 1) (by omega) hL), if_neg (gv_ib (k := i + 2) (by omega) hL), i32_clamp (n := i + 1) (by omega), i32_clamp (n := i + 2) (by omega)]
  rw [h1]
  simp only [gf_cl]
  rw [if_neg (gv_ic (k := i + 1) (by omega) hL), if_neg (gv_ic (k := i + 2) (by omega) hL), h2]
  simp only [gf_cl, gv_thr]
  rw [if_pos h3]
  refine ⟨u2, hj, ?_⟩
  by_cases hk : k = 0
  · rw [if_pos hk, if_neg (gv_o0 ho), show ((0 : Int32)).toNatClampNeg = 0 from rfl]
    have h5 := h4 hk
    by_cases ha : a = 0
    · rw [if_pos ha] at h5 ⊢
      rw [h5]
      rfl
    · rw [if_neg ha] at h5 ⊢
      rw [h5]
      rfl
  · rw [if_neg hk]
    rfl
set_option maxHeartbeats 4000000 in
set_option maxRecDepth 20000 in
theorem gv_op18 {F : Nat} {xs : Nat → Int32} {L i : Nat} {z : gw_Sh} {u : gw_St} {J : gw_St → Prop} (hL : L ≤ 3072) (hi : i + 6 ≤ L) (ho : z.2.2 701 = 1) (hc : xs i &&& 31 = 18) (h : ∃ k a u1 u2, gf_Law_back F z u 0 701 = some (k, u1) ∧ gf_Model_back F z u1 670 = some (a, u2) ∧ u2.1 670 0 = k ∧ (k = 0 → u2.2.1 701 0 = if a = 0 then 0 else 1) ∧ J u2) : gv_R F xs L z u J i := by
  intro rc
  have c0 : (Int32.ofNat i).toNatClampNeg = i := i32_clamp (by omega)
  unfold gf_Law_law_S23
  rw [if_neg (gv_i0 hi hL), if_neg (gv_ib (by omega) hL), c0]
  rw [if_neg (by rw [hc]; decide)]
  rw [if_neg (by rw [hc]; decide)]
  rw [if_neg (by rw [hc]; decide)]
  rw [if_neg (by rw [hc]; decide)]
  rw [if_neg (by rw [hc]; decide)]
  rw [if_neg (by rw [hc]; decide)]
  rw [if_neg (by rw [hc]; decide)]
  rw [if_neg (by rw [hc]; decide)]
  rw [if_neg (by rw [hc]; decide)]
  rw [if_neg (by rw [hc]; decide)]
  rw [if_neg (by rw [hc]; decide)]
  rw [if_neg (by rw [hc]; decide)]
  rw [if_neg (by rw [hc]; decide)]
  rw [if_neg (by rw [hc]; decide)]
  rw [if_neg (by rw [hc]; decide)]
  rw [if_neg (by rw [hc]; decide)]
  rw [if_neg (by rw [hc]; decide)]
  rw [if_neg (by rw [hc]; decide)]
  rw [if_pos hc]
  obtain ⟨k, a, u1, u2, h1, h2, h3, h4, hj⟩ := h
  rw [h1]
  simp only [gf_cl]
  rw [h2]
  simp only [gf_cl, gv_thr]
  rw [if_pos h3]
  refine ⟨u2, hj, ?_⟩
  by_cases hk : k = 0
  · rw [if_pos hk, if_neg (gv_o0 ho), show ((0 : Int32)).toNatClampNeg = 0 from rfl]
    have h5 := h4 hk
    by_cases ha : a = 0
    · rw [if_pos ha] at h5 ⊢
      rw [h5]
      rfl
    · rw [if_neg ha] at h5 ⊢
      rw [h5]
      rfl
  · rw [if_neg hk]
    rfl
set_option maxHeartbeats 4000000 in
set_option maxRecDepth 20000 in
theorem gv_op19 {F : Nat} {xs : Nat → Int32} {L i : Nat} {z : gw_Sh} {u : gw_St} {J : gw_St → Prop} (hL : L ≤ 3072) (hi : i + 6 ≤ L) (ho : z.2.2 701 = 1) (hc : xs i &&& 31 = 19) (h : ∃ k a u1 u2, gf_Law_result F z u 0 (xs (i + 1)) (xs (i + 2)) 701 = some (k, u1) ∧ gf_Model_result F z u1 670 (xs (i + 1)) (xs (i + 2)) = some (a, u2) ∧ u2.1 670 0 = k ∧ (k = 0 → lg_cmp (u2.2.1 701 0) a.toInt64 = 0) ∧ J u2) : gv_R F xs L z u J i := by
  intro rc
  have e1 : Int32.ofNat i + (1 : Int32) = Int32.ofNat (i + 1) := gv_ij 1 (by omega)
  have e2 : Int32.ofNat i + (2 : Int32) = Int32.ofNat (i + 2) := gv_ij 2 (by omega)
  have c0 : (Int32.ofNat i).toNatClampNeg = i := i32_clamp (by omega)
  unfold gf_Law_law_S23
  rw [if_neg (gv_i0 hi hL), if_neg (gv_ib (by omega) hL), c0]
  rw [if_neg (by rw [hc]; decide)]
  rw [if_neg (by rw [hc]; decide)]
  rw [if_neg (by rw [hc]; decide)]
  rw [if_neg (by rw [hc]; decide)]
  rw [if_neg (by rw [hc]; decide)]
  rw [if_neg (by rw [hc]; decide)]
  rw [if_neg (by rw [hc]; decide)]
  rw [if_neg (by rw [hc]; decide)]
  rw [if_neg (by rw [hc]; decide)]
  rw [if_neg (by rw [hc]; decide)]
  rw [if_neg (by rw [hc]; decide)]
  rw [if_neg (by rw [hc]; decide)]
  rw [if_neg (by rw [hc]; decide)]
  rw [if_neg (by rw [hc]; decide)]
  rw [if_neg (by rw [hc]; decide)]
  rw [if_neg (by rw [hc]; decide)]
  rw [if_neg (by rw [hc]; decide)]
  rw [if_neg (by rw [hc]; decide)]
  rw [if_neg (by rw [hc]; decide)]
  rw [if_pos hc]
  obtain ⟨k, a, u1, u2, h1, h2, h3, h4, hj⟩ := h
  rw [e1, e2, if_neg (gv_ib (k := i + 1) (by omega) hL), if_neg (gv_ib (k := i + 2) (by omega) hL), i32_clamp (n := i + 1) (by omega), i32_clamp (n := i + 2) (by omega)]
  rw [h1]
  simp only [gf_cl]
  rw [if_neg (gv_ic (k := i + 1) (by omega) hL), if_neg (gv_ic (k := i + 2) (by omega) hL), h2]
  simp only [gf_cl, gv_thr]
  rw [if_pos h3]
  refine ⟨u2, hj, ?_⟩
  by_cases hk : k = 0
  · rw [if_pos hk, if_neg (gv_o0 ho), show ((0 : Int32)).toNatClampNeg = 0 from rfl, if_pos (h4 hk)]
    rfl
  · rw [if_neg hk]
    rfl
set_option maxHeartbeats 4000000 in
set_option maxRecDepth 20000 in
theorem gv_op20 {F : Nat} {xs : Nat → Int32} {L i : Nat} {z : gw_Sh} {u : gw_St} {J : gw_St → Prop} (hL : L ≤ 3072) (hi : i + 6 ≤ L) (ho : z.2.2 701 = 1) (hc : xs i &&& 31 = 20) (h : ∃ a u1 u2, gf_Desk_clear F z u 0 = some (a, u1) ∧ gf_Model_clear F z u1 670 = some (a, u2) ∧ J u2) : gv_R F xs L z u J i := by
  intro rc
  have c0 : (Int32.ofNat i).toNatClampNeg = i := i32_clamp (by omega)
  unfold gf_Law_law_S23
  rw [if_neg (gv_i0 hi hL), if_neg (gv_ib (by omega) hL), c0]
  rw [if_neg (by rw [hc]; decide)]
  rw [if_neg (by rw [hc]; decide)]
  rw [if_neg (by rw [hc]; decide)]
  rw [if_neg (by rw [hc]; decide)]
  rw [if_neg (by rw [hc]; decide)]
  rw [if_neg (by rw [hc]; decide)]
  rw [if_neg (by rw [hc]; decide)]
  rw [if_neg (by rw [hc]; decide)]
  rw [if_neg (by rw [hc]; decide)]
  rw [if_neg (by rw [hc]; decide)]
  rw [if_neg (by rw [hc]; decide)]
  rw [if_neg (by rw [hc]; decide)]
  rw [if_neg (by rw [hc]; decide)]
  rw [if_neg (by rw [hc]; decide)]
  rw [if_neg (by rw [hc]; decide)]
  rw [if_neg (by rw [hc]; decide)]
  rw [if_neg (by rw [hc]; decide)]
  rw [if_neg (by rw [hc]; decide)]
  rw [if_neg (by rw [hc]; decide)]
  rw [if_neg (by rw [hc]; decide)]
  rw [if_pos hc]
  obtain ⟨a, u1, u2, h1, h2, hj⟩ := h
  rw [h1]
  simp only [gf_cl]
  rw [h2]
  simp only [gf_cl]
  exact ⟨u2, hj, rfl⟩
set_option maxHeartbeats 4000000 in
set_option maxRecDepth 20000 in
theorem gv_op21 {F : Nat} {xs : Nat → Int32} {L i : Nat} {z : gw_Sh} {u : gw_St} {J : gw_St → Prop} (hL : L ≤ 3072) (hi : i + 6 ≤ L) (ho : z.2.2 701 = 1) (hc : xs i &&& 31 = 21) (h : ∃ a u1 u2, gf_Desk_count F z u 0 (xs (i + 1)) = some (a, u1) ∧ gf_Model_count F z u1 670 (xs (i + 1)) = some (a, u2) ∧ J u2) : gv_R F xs L z u J i := by
  intro rc
  have e1 : Int32.ofNat i + (1 : Int32) = Int32.ofNat (i + 1) := gv_ij 1 (by omega)
  have c0 : (Int32.ofNat i).toNatClampNeg = i := i32_clamp (by omega)
  unfold gf_Law_law_S23
  rw [if_neg (gv_i0 hi hL), if_neg (gv_ib (by omega) hL), c0]
  rw [if_neg (by rw [hc]; decide)]
  rw [if_neg (by rw [hc]; decide)]
  rw [if_neg (by rw [hc]; decide)]
  rw [if_neg (by rw [hc]; decide)]
  rw [if_neg (by rw [hc]; decide)]
  rw [if_neg (by rw [hc]; decide)]
  rw [if_neg (by rw [hc]; decide)]
  rw [if_neg (by rw [hc]; decide)]
  rw [if_neg (by rw [hc]; decide)]
  rw [if_neg (by rw [hc]; decide)]
  rw [if_neg (by rw [hc]; decide)]
  rw [if_neg (by rw [hc]; decide)]
  rw [if_neg (by rw [hc]; decide)]
  rw [if_neg (by rw [hc]; decide)]
  rw [if_neg (by rw [hc]; decide)]
  rw [if_neg (by rw [hc]; decide)]
  rw [if_neg (by rw [hc]; decide)]
  rw [if_neg (by rw [hc]; decide)]
  rw [if_neg (by rw [hc]; decide)]
  rw [if_neg (by rw [hc]; decide)]
  rw [if_neg (by rw [hc]; decide)]
  rw [if_pos hc]
  obtain ⟨a, u1, u2, h1, h2, hj⟩ := h
  rw [e1, if_neg (gv_ib (k := i + 1) (by omega) hL), i32_clamp (n := i + 1) (by omega)]
  rw [h1]
  simp only [gf_cl]
  rw [if_neg (gv_ic (k := i + 1) (by omega) hL), h2]
  simp only [gf_cl]
  exact ⟨u2, hj, rfl⟩
set_option maxHeartbeats 4000000 in
set_option maxRecDepth 20000 in
theorem gv_opd {F : Nat} {xs : Nat → Int32} {L i : Nat} {z : gw_Sh} {u : gw_St} {J : gw_St → Prop} (hL : L ≤ 3072) (hi : i + 6 ≤ L) (h0 : ¬ xs i &&& 31 = 0) (h1 : ¬ xs i &&& 31 = 1) (h2 : ¬ xs i &&& 31 = 2) (h3 : ¬ xs i &&& 31 = 3) (h4 : ¬ xs i &&& 31 = 4) (h5 : ¬ xs i &&& 31 = 5) (h6 : ¬ xs i &&& 31 = 6) (h7 : ¬ xs i &&& 31 = 7) (h8 : ¬ xs i &&& 31 = 8) (h9 : ¬ xs i &&& 31 = 9) (h10 : ¬ xs i &&& 31 = 10) (h11 : ¬ xs i &&& 31 = 11) (h12 : ¬ xs i &&& 31 = 12) (h13 : ¬ xs i &&& 31 = 13) (h14 : ¬ xs i &&& 31 = 14) (h15 : ¬ xs i &&& 31 = 15) (h16 : ¬ xs i &&& 31 = 16) (h17 : ¬ xs i &&& 31 = 17) (h18 : ¬ xs i &&& 31 = 18) (h19 : ¬ xs i &&& 31 = 19) (h20 : ¬ xs i &&& 31 = 20) (h21 : ¬ xs i &&& 31 = 21) (hj : J u) : gv_R F xs L z u J i := by
  intro rc
  have c0 : (Int32.ofNat i).toNatClampNeg = i := i32_clamp (by omega)
  unfold gf_Law_law_S23
  rw [if_neg (gv_i0 hi hL), if_neg (gv_ib (by omega) hL), c0]
  rw [if_neg h0, if_neg h1, if_neg h2, if_neg h3, if_neg h4, if_neg h5, if_neg h6, if_neg h7, if_neg h8, if_neg h9, if_neg h10, if_neg h11, if_neg h12, if_neg h13, if_neg h14, if_neg h15, if_neg h16, if_neg h17, if_neg h18, if_neg h19, if_neg h20, if_neg h21]
  exact ⟨u, hj, rfl⟩
theorem gv_exit {F : Nat} {xs : Nat → Int32} {L i : Nat} {z : gw_Sh} {u : gw_St} {rc : gw_St → Nat → Nat → Nat → Int32 → Option Int32} {a b c : Nat} (hL : L ≤ 3072) (hi : i ≤ 4000) (hx : ¬ i + 6 ≤ L) : gf_Law_law_S23 F xs L z rc u a b c (Int32.ofNat i) = some 1 := by
  unfold gf_Law_law_S23
  rw [if_pos]
  apply i32_lt.mpr
  have e6 : (6 : Int32).toInt = 6 := rfl
  rw [n32_sub (by rw [i32_nat (by omega), e6]; omega) (by rw [i32_nat (by omega), e6]; omega), i32_nat (by omega), i32_nat (by omega), e6]
  omega
theorem gv_loop {F : Nat} {xs : Nat → Int32} {L : Nat} {z : gw_Sh} {I : gw_St → Prop} (hL : L ≤ 3072) (hR : ∀ u i, I u → i + 6 ≤ L → gv_R F xs L z u I i) : ∀ (f : Nat) (u : gw_St) (i : Nat), I u → (i = 0 ∨ i ≤ L) → L < i + 6 * f → gf_Law_law_L23 F xs L z f u 0 670 701 (Int32.ofNat i) = some 1 := by
  intro f
  induction f with
  | zero => intro u i hI h1 h2; omega
  | succ f ih =>
    intro u i hI h1 h2
    show gf_Law_law_S23 F xs L z (gf_Law_law_L23 F xs L z f) u 0 670 701 (Int32.ofNat i) = some 1
    by_cases hi : i + 6 ≤ L
    · obtain ⟨w, hw, e⟩ := hR u i hI hi (gf_Law_law_L23 F xs L z f)
      rw [e, show Int32.ofNat i + 6 = Int32.ofNat (i + 6) from gv_ij 6 (by omega)]
      exact ih w (i + 6) hw (Or.inr hi) (by omega)
    · exact gv_exit hL (by omega) hi
/-- scripts of one call -/
theorem gv_one {F : Nat} {xs : Nat → Int32} {L : Nat} {z : gw_Sh} {u : gw_St} (hL : L ≤ 6) (hR : L = 6 → gv_R F xs L z u (fun _ => True) 0) : gf_Law_law_L23 F xs L z 513 u 0 670 701 0 = some 1 := by
  show gf_Law_law_S23 F xs L z (gf_Law_law_L23 F xs L z 512) u 0 670 701 (Int32.ofNat 0) = some 1
  by_cases h6 : L = 6
  · obtain ⟨w, -, e⟩ := hR h6 (gf_Law_law_L23 F xs L z 512)
    rw [e]
    show gf_Law_law_S23 F xs L z (gf_Law_law_L23 F xs L z 511) w 0 670 701 (Int32.ofNat 6) = some 1
    exact gv_exit (by omega) (by omega) (by omega)
  · exact gv_exit (by omega) (by omega) (by omega)
theorem gv_32 (x : Int32) : (x &&& 31) = 0 ∨ (x &&& 31) = 1 ∨ (x &&& 31) = 2 ∨ (x &&& 31) = 3 ∨ (x &&& 31) = 4 ∨ (x &&& 31) = 5 ∨ (x &&& 31) = 6 ∨ (x &&& 31) = 7 ∨ (x &&& 31) = 8 ∨ (x &&& 31) = 9 ∨ (x &&& 31) = 10 ∨ (x &&& 31) = 11 ∨ (x &&& 31) = 12 ∨ (x &&& 31) = 13 ∨ (x &&& 31) = 14 ∨ (x &&& 31) = 15 ∨ (x &&& 31) = 16 ∨ (x &&& 31) = 17 ∨ (x &&& 31) = 18 ∨ (x &&& 31) = 19 ∨ (x &&& 31) = 20 ∨ (x &&& 31) = 21 ∨ (¬ (x &&& 31) = 0 ∧ ¬ (x &&& 31) = 1 ∧ ¬ (x &&& 31) = 2 ∧ ¬ (x &&& 31) = 3 ∧ ¬ (x &&& 31) = 4 ∧ ¬ (x &&& 31) = 5 ∧ ¬ (x &&& 31) = 6 ∧ ¬ (x &&& 31) = 7 ∧ ¬ (x &&& 31) = 8 ∧ ¬ (x &&& 31) = 9 ∧ ¬ (x &&& 31) = 10 ∧ ¬ (x &&& 31) = 11 ∧ ¬ (x &&& 31) = 12 ∧ ¬ (x &&& 31) = 13 ∧ ¬ (x &&& 31) = 14 ∧ ¬ (x &&& 31) = 15 ∧ ¬ (x &&& 31) = 16 ∧ ¬ (x &&& 31) = 17 ∧ ¬ (x &&& 31) = 18 ∧ ¬ (x &&& 31) = 19 ∧ ¬ (x &&& 31) = 20 ∧ ¬ (x &&& 31) = 21) := by
  by_cases h0 : (x &&& 31) = 0
  · exact Or.inl h0
  refine Or.inr ?_
  by_cases h1 : (x &&& 31) = 1
  · exact Or.inl h1
  refine Or.inr ?_
  by_cases h2 : (x &&& 31) = 2
  · exact Or.inl h2
  refine Or.inr ?_
  by_cases h3 : (x &&& 31) = 3
  · exact Or.inl h3
  refine Or.inr ?_
  by_cases h4 : (x &&& 31) = 4
  · exact Or.inl h4
  refine Or.inr ?_
  by_cases h5 : (x &&& 31) = 5
  · exact Or.inl h5
  refine Or.inr ?_
  by_cases h6 : (x &&& 31) = 6
  · exact Or.inl h6
  refine Or.inr ?_
  by_cases h7 : (x &&& 31) = 7
  · exact Or.inl h7
  refine Or.inr ?_
  by_cases h8 : (x &&& 31) = 8
  · exact Or.inl h8
  refine Or.inr ?_
  by_cases h9 : (x &&& 31) = 9
  · exact Or.inl h9
  refine Or.inr ?_
  by_cases h10 : (x &&& 31) = 10
  · exact Or.inl h10
  refine Or.inr ?_
  by_cases h11 : (x &&& 31) = 11
  · exact Or.inl h11
  refine Or.inr ?_
  by_cases h12 : (x &&& 31) = 12
  · exact Or.inl h12
  refine Or.inr ?_
  by_cases h13 : (x &&& 31) = 13
  · exact Or.inl h13
  refine Or.inr ?_
  by_cases h14 : (x &&& 31) = 14
  · exact Or.inl h14
  refine Or.inr ?_
  by_cases h15 : (x &&& 31) = 15
  · exact Or.inl h15
  refine Or.inr ?_
  by_cases h16 : (x &&& 31) = 16
  · exact Or.inl h16
  refine Or.inr ?_
  by_cases h17 : (x &&& 31) = 17
  · exact Or.inl h17
  refine Or.inr ?_
  by_cases h18 : (x &&& 31) = 18
  · exact Or.inl h18
  refine Or.inr ?_
  by_cases h19 : (x &&& 31) = 19
  · exact Or.inl h19
  refine Or.inr ?_
  by_cases h20 : (x &&& 31) = 20
  · exact Or.inl h20
  refine Or.inr ?_
  by_cases h21 : (x &&& 31) = 21
  · exact Or.inl h21
  exact Or.inr ⟨h0, h1, h2, h3, h4, h5, h6, h7, h8, h9, h10, h11, h12, h13, h14, h15, h16, h17, h18, h19, h20, h21⟩
