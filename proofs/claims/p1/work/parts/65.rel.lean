/-! relations -/
theorem gv_m4 {r : Nat} : Int32.ofNat r * 4 = Int32.ofNat (4 * r) := by
  rw [Nat.mul_comm]
  exact (Int32.ofNat_mul r 4).symm
theorem gs_addRel {F : Nat} {u : gw_St} {r : Nat} {k a b c : Int32} (hr : gv_Rf u) (h3 : u.1 6 3 = Int32.ofNat r) (hn : r < 120) : gf_Works_addRelation F gv_z u 6 k a b c = some (Int32.ofNat r, gw_wi (gw_wi (gw_wi (gw_wi (gw_wi u 8 (4 * r) k) 8 (4 * r + 1) a) 8 (4 * r + 2) b) 8 (4 * r + 3) c) 6 3 (Int32.ofNat (r + 1))) := by
  show gf_Works_addRelation_b0 F gv_z u 6 k a b c = _
  unfold gf_Works_addRelation_b0
  simp only [gf_nm]
  rw [h3, gv_m4, hr.get rfl gv_r6_1]
  simp only [gf_nn]
  rw [gv_l8, if_neg (gv_ix (by omega) (by omega)), i32_clamp (by omega)]
  rw [show (gw_wi u 8 (4 * r) k).2.2 6 1 = 9 from hr.get rfl gv_r6_1]
  simp only [gf_nn]
  rw [show Int32.ofNat (4 * r) + 1 = Int32.ofNat (4 * r + 1) from gv_ij 1 (by omega), gv_l8, if_neg (gv_ix (by omega) (by omega)), i32_clamp (by omega)]
  rw [show (gw_wi (gw_wi u 8 (4 * r) k) 8 (4 * r + 1) a).2.2 6 1 = 9 from hr.get rfl gv_r6_1]
  simp only [gf_nn]
  rw [show Int32.ofNat (4 * r) + 2 = Int32.ofNat (4 * r + 2) from gv_ij 2 (by omega), gv_l8, if_neg (gv_ix (by omega) (by omega)), i32_clamp (by omega)]
  rw [show (gw_wi (gw_wi (gw_wi u 8 (4 * r) k) 8 (4 * r + 1) a) 8 (4 * r + 2) b).2.2 6 1 = 9 from hr.get rfl gv_r6_1]
  simp only [gf_nn]
  rw [show Int32.ofNat (4 * r) + 3 = Int32.ofNat (4 * r + 3) from gv_ij 3 (by omega), gv_l8, if_neg (gv_ix (by omega) (by omega)), i32_clamp (by omega)]
  show some (u.1 6 3 + 1 - 1, gw_wi _ 6 3 (u.1 6 3 + 1)) = _
  rw [h3, gv_inc, gv_dec (by omega)]
theorem gs_relM {F : Nat} {w : gw_St} {r : Nat} {k a b c : Int32} (hr : gv_Rf w) (h3 : w.1 670 19 = Int32.ofNat r) (hn : r < 120) : gf_Model_relate_b101 F gv_z w 670 k a b c = some (Int32.ofNat r, gw_wi (gw_wi (gw_wi (gw_wi (gw_wi w 675 r k) 676 r a) 677 r b) 678 r c) 670 19 (Int32.ofNat (r + 1))) := by
  unfold gf_Model_relate_b101
  simp only [gf_nm]
  rw [h3, if_neg (fun q => by have := (gv_lit (n := r) (k := 120) (by omega) (by omega)).mp q; omega), hr.get rfl gv_rm22]
  simp only [gf_nn]
  rw [gv_l675, if_neg (gv_ix hn (by omega)), i32_clamp (by omega)]
  rw [show (gw_wi w 675 r k).2.2 670 23 = 677 from hr.get rfl gv_rm23]
  simp only [gf_nn]
  rw [show (gw_wi w 675 r k).1 670 19 = Int32.ofNat r from h3, gv_l676, if_neg (gv_ix hn (by omega)), i32_clamp (by omega)]
  rw [show (gw_wi (gw_wi w 675 r k) 676 r a).2.2 670 24 = 678 from hr.get rfl gv_rm24]
  simp only [gf_nn]
  rw [show (gw_wi (gw_wi w 675 r k) 676 r a).1 670 19 = Int32.ofNat r from h3, gv_l677, if_neg (gv_ix hn (by omega)), i32_clamp (by omega)]
  rw [show (gw_wi (gw_wi (gw_wi w 675 r k) 676 r a) 677 r b).2.2 670 25 = 679 from hr.get rfl gv_rm25]
  simp only [gf_nn]
  rw [show (gw_wi (gw_wi (gw_wi w 675 r k) 676 r a) 677 r b).1 670 19 = Int32.ofNat r from h3, gv_l678, if_neg (gv_ix hn (by omega)), i32_clamp (by omega)]
  show some (w.1 670 19 + 1 - 1, gw_wi _ 670 19 (w.1 670 19 + 1)) = _
  rw [h3, gv_inc, gv_dec (by omega)]
theorem gs_relF {F : Nat} {z : gw_Sh} {w : gw_St} {k a b c : Int32} (h3 : w.1 670 19 = Int32.ofNat 120) : gf_Model_relate_b101 F z w 670 k a b c = some (0, gw_wi w 670 0 3) := by
  unfold gf_Model_relate_b101
  rw [if_pos (show w.1 670 19 = 120 from h3)]
  rfl
/-- what is asked of a relation -/
def gv_Vr (u : gw_St) (n : Nat) (k a b c : Int32) : Prop := 0 ≤ k.toInt ∧ k.toInt ≤ 3 ∧ 0 ≤ a.toInt ∧ a.toInt < n ∧ 0 ≤ b.toInt ∧ b.toInt < n ∧ a ≠ b ∧ (k = 3 → 0 ≤ c.toInt ∧ c.toInt < n ∧ a ≠ c ∧ b ≠ c) ∧ (k ≠ 3 → c = -1) ∧ (k = 1 → (u.1 7 a.toNatClampNeg).toInt < (u.1 7 b.toNatClampNeg).toInt)
theorem gv_Wk.add {u : gw_St} {n r : Nat} {k a b c : Int32} (h : gv_Wk u n r) (hr : r < 120) (hv : gv_Vr u n k a b c) {w : gw_St} (e3 : w.1 6 3 = Int32.ofNat (r + 1)) (e4 : w.1 670 19 = Int32.ofNat (r + 1)) (e : ∀ p q, (gv_T_wk p q = true ∧ ¬ (p = 8 ∧ 4 * r ≤ q) ∧ ¬ (675 ≤ p ∧ p ≤ 678 ∧ q = r) ∧ ¬ (p = 6 ∧ q = 3) ∧ ¬ (p = 670 ∧ q = 19)) → w.1 p q = u.1 p q)
    (f : w.1 8 (4 * r) = k ∧ w.1 8 (4 * r + 1) = a ∧ w.1 8 (4 * r + 2) = b ∧ w.1 8 (4 * r + 3) = c ∧ w.1 675 r = k ∧ w.1 676 r = a ∧ w.1 677 r = b ∧ w.1 678 r = c) : gv_Wk w n (r + 1) := by
  obtain ⟨w1, w2, w3, w4, w5, w6, w7, w8, w9, w10, w11⟩ := h
  obtain ⟨f1, f2, f3, f4, f5, f6, f7, f8⟩ := f
  have e7 : ∀ q, w.1 7 q = u.1 7 q := fun q => e 7 q ⟨rfl, by omega, by omega, by omega, by omega⟩
  have e64 : w.1 6 4 = u.1 6 4 := e 6 4 ⟨rfl, by omega, by omega, by omega, by omega⟩
  refine ⟨w1, by omega, (e 6 2 ⟨rfl, by omega, by omega, by omega, by omega⟩).trans w3, (e 670 18 ⟨rfl, by omega, by omega, by omega, by omega⟩).trans w4, e3, e4, fun g hg => ?_, fun j hj => ?_, ?_, ?_, ?_⟩
  · rw [e7, e 674 g ⟨rfl, by omega, by omega, by omega, by omega⟩]; exact w7 g hg
  · by_cases hj2 : j = r
    · subst hj2
      rw [f1, f2, f3, f4, f5, f6, f7, f8, e7, e7]
      exact ⟨rfl, rfl, rfl, rfl, hv⟩
    · have e8 : ∀ q, q < 4 * r → w.1 8 q = u.1 8 q := fun q hq => e 8 q ⟨rfl, by omega, by omega, by omega, by omega⟩
      rw [e8 (4 * j) (by omega), e8 (4 * j + 1) (by omega), e8 (4 * j + 2) (by omega), e8 (4 * j + 3) (by omega), e 675 j ⟨rfl, by omega, by omega, by omega, by omega⟩, e 676 j ⟨rfl, by omega, by omega, by omega, by omega⟩, e 677 j ⟨rfl, by omega, by omega, by omega, by omega⟩, e 678 j ⟨rfl, by omega, by omega, by omega, by omega⟩, e7, e7]
      exact w8 j (by omega)
  · rw [e64, e 670 20 ⟨rfl, by omega, by omega, by omega, by omega⟩]; exact w9
  · rw [e64]; exact w10
  · rw [e64]; exact w11
