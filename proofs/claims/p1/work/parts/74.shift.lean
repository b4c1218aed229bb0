/-! remove: the reference's shift -/
def gv_sh (w : gw_St) (a b : Nat) : gw_St := (fun p q => if (675 ≤ p ∧ p ≤ 678) ∧ a ≤ q ∧ q < b then w.1 p (q + 1) else w.1 p q, w.2)
theorem gv_sh_step {w : gw_St} {a k : Nat} (h : a ≤ k) : gw_wi (gw_wi (gw_wi (gw_wi (gv_sh w a k) 675 k (w.1 675 (k + 1))) 676 k (w.1 676 (k + 1))) 677 k (w.1 677 (k + 1))) 678 k (w.1 678 (k + 1)) = gv_sh w a (k + 1) := by
  refine Prod.ext ?_ rfl
  funext p q
  simp only [gw_wi, gv_sh]
  by_cases e4 : p = 678 ∧ q = k
  · rw [if_pos e4, if_pos (by omega), e4.1, e4.2]
  rw [if_neg e4]
  by_cases e3 : p = 677 ∧ q = k
  · rw [if_pos e3, if_pos (by omega), e3.1, e3.2]
  rw [if_neg e3]
  by_cases e2 : p = 676 ∧ q = k
  · rw [if_pos e2, if_pos (by omega), e2.1, e2.2]
  rw [if_neg e2]
  by_cases e1 : p = 675 ∧ q = k
  · rw [if_pos e1, if_pos (by omega), e1.1, e1.2]
  rw [if_neg e1]
  by_cases c : (675 ≤ p ∧ p ≤ 678) ∧ a ≤ q ∧ q < k
  · rw [if_pos c, if_pos (by omega)]
  · rw [if_neg c, if_neg (by omega)]
theorem gs_rmL {F : Nat} {w : gw_St} {r a : Nat} (hr : gv_Rf w) (h : w.1 670 19 = Int32.ofNat r) (hr2 : r < 120) : ∀ (j f k : Nat), k + j = r → a ≤ k → j < f → gf_Model_remove_L37 F gv_z f (gv_sh w a k) 670 (Int32.ofNat k) = some (Int32.ofNat r, gv_sh w a r) := by
  intro j
  induction j with
  | zero =>
    intro f k hk ha hf
    obtain ⟨f, rfl⟩ : ∃ g, f = g + 1 := ⟨f - 1, by omega⟩
    have : k = r := by omega
    subst this
    show gf_Model_remove_S37 F gv_z (gf_Model_remove_L37 F gv_z f) (gv_sh w a k) 670 (Int32.ofNat k) = _
    unfold gf_Model_remove_S37
    have e : (gv_sh w a k).1 670 19 = Int32.ofNat k := h
    rw [e, if_pos (i32_le.mpr (Int.le_refl _))]
  | succ j ih =>
    intro f k hk ha hf
    obtain ⟨f, rfl⟩ : ∃ g, f = g + 1 := ⟨f - 1, by omega⟩
    show gf_Model_remove_S37 F gv_z (gf_Model_remove_L37 F gv_z f) (gv_sh w a k) 670 (Int32.ofNat k) = _
    unfold gf_Model_remove_S37
    have e : (gv_sh w a k).1 670 19 = Int32.ofNat r := h
    have i1 : ¬ (Int32.ofNat k < 0 ∨ 120 ≤ (Int32.ofNat k).toNatClampNeg) := gv_ix (by omega) (by omega)
    have i2 : ¬ (Int32.ofNat (k + 1) < 0 ∨ 120 ≤ (Int32.ofNat (k + 1)).toNatClampNeg) := gv_ix (by omega) (by omega)
    have j1 : ¬ (Int32.ofNat k < 0 ∨ 120 ≤ k) := by
      have := i1
      rw [i32_clamp (by omega)] at this
      exact this
    have j2 : ¬ (Int32.ofNat (k + 1) < 0 ∨ 120 ≤ k + 1) := by
      have := i2
      rw [i32_clamp (by omega)] at this
      exact this
    have rd : ∀ p, (gv_sh w a k).1 p (k + 1) = w.1 p (k + 1) := fun p => by
      simp only [gv_sh]
      rw [if_neg (by omega)]
    rw [e, if_neg (fun q => by have := i32_le.mp q; rw [i32_nat (by omega), i32_nat (by omega)] at this; omega)]
    simp only [gf_nm]
    rw [show (gv_sh w a k).2.2 670 22 = 676 from hr.get rfl gv_rm22]
    simp only [gf_nn]
    rw [gv_inc, gv_l675, if_neg i2, if_neg i1, i32_clamp (n := k) (by omega), i32_clamp (n := k + 1) (by omega), rd]
    rw [show (gw_wi (gv_sh w a k) 675 k (w.1 675 (k + 1))).2.2 670 23 = 677 from hr.get rfl gv_rm23]
    simp only []
    rw [gv_l676, if_neg j2, if_neg j1, show (gw_wi (gv_sh w a k) 675 k (w.1 675 (k + 1))).1 676 (k + 1) = w.1 676 (k + 1) from rd 676]
    rw [show (gw_wi (gw_wi (gv_sh w a k) 675 k (w.1 675 (k + 1))) 676 k (w.1 676 (k + 1))).2.2 670 24 = 678 from hr.get rfl gv_rm24]
    simp only []
    rw [gv_l677, if_neg j2, if_neg j1, show (gw_wi (gw_wi (gv_sh w a k) 675 k (w.1 675 (k + 1))) 676 k (w.1 676 (k + 1))).1 677 (k + 1) = w.1 677 (k + 1) from rd 677]
    rw [show (gw_wi (gw_wi (gw_wi (gv_sh w a k) 675 k (w.1 675 (k + 1))) 676 k (w.1 676 (k + 1))) 677 k (w.1 677 (k + 1))).2.2 670 25 = 679 from hr.get rfl gv_rm25]
    simp only []
    rw [gv_l678, if_neg j2, if_neg j1, show (gw_wi (gw_wi (gw_wi (gv_sh w a k) 675 k (w.1 675 (k + 1))) 676 k (w.1 676 (k + 1))) 677 k (w.1 677 (k + 1))).1 678 (k + 1) = w.1 678 (k + 1) from rd 678, gv_sh_step ha]
    exact ih f (k + 1) (by omega) (by omega) (by omega)
