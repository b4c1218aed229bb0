theorem Wd.few {u : gw_St} {p q n : Nat} {v : Int} (h : Wd u p q n v) (hv : v.natAbs < 2 ^ 660) : n ≤ 22 := by
  obtain ⟨a1, a2, a3, a4, a5⟩ := h
  apply Classical.byContradiction
  intro hn
  have h0 : 0 < n := by omega
  have h1 := bv_le (B := 2147483648) (f := lm u q) h0
  have h2 : 1 * 2147483648 ^ (n - 1) ≤ lm u q (n - 1) * 2147483648 ^ (n - 1) := Nat.mul_le_mul_right _ (by have := a4 h0; omega)
  have h3 : 2147483648 ^ 22 ≤ 2147483648 ^ (n - 1) := Nat.pow_le_pow_right (by decide) (by omega)
  have h4 : 2 ^ 660 ≤ 2147483648 ^ 22 := by decide +kernel
  have h5 : v.natAbs = wv u q n := by
    rcases a5 with ⟨b1, -, -⟩ | ⟨-, -, b3⟩ | ⟨-, -, b3⟩ <;> omega
  have h6 : wv u q n = bv 2147483648 (lm u q) n := rfl
  omega
theorem eq_store {F : Nat} {u : gw_St} {p q n row col : Nat} {v : Int} (hr : gv_Rf u) (hpq : p ≠ q) (hp : p < 22 ∨ 24 < p) (hq : q < 22 ∨ 24 < q) (hrp : u.2.2 p 0 = q + 1) (hc : 22 ≤ gv_z.2.2 q) (h1 : row < 60) (h2 : col < 60) (h : Wd u p q n v) (hv : v.natAbs < 2 ^ 660) : ∃ w, gf_Equations_store F gv_z u 22 p (Int32.ofNat row) (Int32.ofNat col) = some w ∧ w.2 = u.2 ∧ (∀ a k, ¬ (a = 24 ∧ k = 60 * row + col) → ¬ (a = 23 ∧ 22 * (60 * row + col) ≤ k ∧ k < 22 * (60 * row + col) + 22) → w.1 a k = u.1 a k) ∧ Cw w (60 * row + col) v := by
  have hn := h.few hv
  obtain ⟨a1, a2, a3, a4, a5⟩ := h
  obtain ⟨t1, t2, t3, t4, t5⟩ := sg_tab n (by omega)
  have hj : 60 * row + col < 3600 := by omega
  obtain ⟨j, hje⟩ : ∃ j, j = 60 * row + col := ⟨_, rfl⟩
  rw [← hje] at hj ⊢
  generalize hs : u.1 p 2 * Int32.ofNat n = sz
  generalize hw : gw_cp (gw_wi u 24 j sz) q 0 23 (22 * j) n = w
  have hb : gf_Equations_store F gv_z u 22 p (Int32.ofNat row) (Int32.ofNat col) = some w := by
    show gf_Equations_store_b0 F gv_z u 22 p (Int32.ofNat row) (Int32.ofNat col) = _
    unfold gf_Equations_store_b0
    rw [show gf_Equations_at F gv_z u (Int32.ofNat row) (Int32.ofNat col) = some (Int32.ofNat j, u) from by show some (Int32.ofNat row * 60 + Int32.ofNat col, u) = _; rw [gi_cell, ← hje]]
    simp only [gf_cl]
    have r1 : gv_Rf (gw_wi u 24 j sz) := hr.eq rfl
    rw [hr.get rfl gv_r22_2, gnn, if_neg (gi_ix (by rw [gv_l24]; omega) (by omega)), i32_clamp (by omega), a2, hs]
    simp only [gf_nm]
    have h1' : (gw_wi u 24 j sz).1 p 1 = Int32.ofNat n := by rw [wi_ne (by omega)]; exact a2
    rw [show (gw_wi u 24 j sz).2.2 p 0 = q + 1 from hrp, gnn, r1.get rfl gv_r22_1, gnn, h1', gi_22, i32_clamp (by omega), i32_clamp (by omega), if_neg]
    · rw [← hw]
      rfl
    · rintro (c | c | c | c | c)
      · exact absurd c (by decide)
      · exact gi_n0 (by omega) c
      · exact gi_n0 (by omega) c
      · have : (0 : Int32).toNatClampNeg = 0 := rfl
        omega
      · rw [gv_l23] at c; omega
  have hl : ∀ i, i < n → w.1 23 (22 * j + i) = u.1 q i := by
    intro i hi
    rw [← hw]
    simp only [gw_cp, va_cpy]
    rw [if_pos True.intro, if_pos (by omega), wi_ne (by omega), show 0 + (22 * j + i - 22 * j) = i by omega]
  have h24 : w.1 24 j = sz := by
    rw [← hw]
    simp only [gw_cp]
    rw [if_neg (by omega), wi_same]
  have hb2 : bv 2147483648 (fun i => (w.1 23 (22 * j + i)).toInt.toNat) n = wv u q n := bv_congr (fun i hi => by rw [hl i hi]; rfl)
  refine ⟨w, hb, by rw [← hw]; rfl, fun a k g1 g2 => ?_, n, hn, fun i hi => by rw [hl i hi]; exact a3 i hi, fun h0 => by rw [hl _ (by omega)]; exact a4 h0, ?_⟩
  · rw [← hw]
    simp only [gw_cp, va_cpy]
    by_cases e : a = 23
    · rw [if_pos e, if_neg (by omega), wi_ne (by omega), e]
    · rw [if_neg e, wi_ne (by omega)]
  · rw [h24, hb2, ← hs]
    rcases a5 with ⟨b1, b2, b3⟩ | ⟨b1, b2, b3⟩ | ⟨b1, b2, b3⟩
    · exact Or.inl ⟨b1, by rw [b2, b1]; rfl, b3⟩
    · exact Or.inr (Or.inl ⟨b1, by rw [b2]; exact t4, b3⟩)
    · exact Or.inr (Or.inr ⟨b1, by rw [b2]; exact t5, b3⟩)
/-- a cell is 0 where its size is -/
theorem Cw.zero {u : gw_St} {j : Nat} {v : Int} (h : Cw u j v) : u.1 24 j = 0 ↔ v = 0 := by
  obtain ⟨n, a1, a2, a3, a4⟩ := h
  have tab : ∀ n, n < 23 → 0 < n → Int32.ofNat n ≠ 0 ∧ -(Int32.ofNat n) ≠ 0 := by decide +kernel
  have hpos : 0 < n → 0 < bv 2147483648 (fun i => (u.1 23 (22 * j + i)).toInt.toNat) n := fun h0 => by
    have h1 := bv_le (B := 2147483648) (f := fun i => (u.1 23 (22 * j + i)).toInt.toNat) h0
    have h2 := a3 h0
    have h3 : 0 < (u.1 23 (22 * j + (n - 1))).toInt.toNat * 2147483648 ^ (n - 1) := Nat.mul_pos (by omega) (Nat.pow_pos (by decide))
    exact Nat.lt_of_lt_of_le h3 h1
  rcases a4 with ⟨b1, b2, b3⟩ | ⟨b1, b2, b3⟩ | ⟨b1, b2, b3⟩
  · exact ⟨fun _ => b3, fun _ => b2⟩
  · have := hpos b1
    exact ⟨fun q => absurd (b2.symm.trans q) (tab n (by omega) b1).1, fun q => by omega⟩
  · have := hpos b1
    exact ⟨fun q => absurd (b2.symm.trans q) (tab n (by omega) b1).2, fun q => by omega⟩
