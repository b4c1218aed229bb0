theorem gz_tell {F : Nat} (hF : 2000 ≤ F) {u : gw_St} {a b va vb : Nat} (hr : gv_Rf u) (ha : a < 20) (hb : b < 20) (h : Zw u a va) (g : Zw u b vb) (h1 : va < 2 ^ 256) (h2 : vb < 2 ^ 256) : ∃ w, gf_Model_tell F gv_z u 670 (Int32.ofNat a) (Int32.ofNat b) = some w ∧ w.2 = u.2 ∧ (∀ p k, p ≠ 689 → p ≠ 690 → w.1 p k = u.1 p k) ∧ Iw w 689 0 va ∧ Iw w 690 0 vb := by
  obtain ⟨w1, a1, a2, a3, a4⟩ := gz_store (F := F) hF (u := u) (t := 689) (a := a) (j := 0) hr ha (by omega) (by rw [gv_l689]; omega) h h1
  have r1 : gv_Rf w1 := hr.eq (by rw [a2])
  have g1 : Zw w1 b vb := by unfold Zw zi; rw [a2]; exact g
  obtain ⟨w2, b1, b2, b3, b4⟩ := gz_store (F := F) hF (u := w1) (t := 690) (a := b) (j := 0) r1 hb (by omega) (by rw [gv_l690]; omega) g1 h2
  refine ⟨w2, ?_, by rw [b2, a2], fun p k h3 h4 => by rw [b3 p k (by omega), a3 p k (by omega)], ?_, b4⟩
  · show gf_Model_tell_b0 F gv_z u 670 (Int32.ofNat a) (Int32.ofNat b) = _
    unfold gf_Model_tell_b0
    rw [hr.get rfl gv_r670_36]
    simp only [gf_nn]
    rw [show gf_Model_store F gv_z u 670 689 0 (Int32.ofNat a) = some w1 from a1]
    show gf_nn (w1.2.2 670 37) _ = _
    rw [r1.get rfl gv_r670_37]
    simp only [gf_nn]
    rw [show gf_Model_store F gv_z w1 670 690 0 (Int32.ofNat b) = some w2 from b1]
    rfl
  · have e : ∀ k, w2.1 689 k = w1.1 689 k := fun k => b3 689 k (by omega)
    unfold Iw
    simp only [e]
    exact a4
theorem gd_keep {F : Nat} {u : gw_St} {a b : Int} {k : Nat} (hr : gv_Rf u) (h : Fr u 46 a b) (hk : k ≤ 47) (ha : a.natAbs < 2147483648 ^ k) (hb : b.natAbs < 2147483648 ^ k) : ∃ w, gf_Desk_keepFound F gv_z u 0 = some (if 2 ^ 256 ≤ a.natAbs ∨ 2 ^ 256 ≤ b.natAbs then .inr 4 else .inl (), w) ∧ Wr 59 63 u w ∧ (if 2 ^ 256 ≤ a.natAbs ∨ 2 ^ 256 ≤ b.natAbs then w = u else Fr w 59 a b) := by
  have hl := gw_large (F := F) (z := gv_z) (gv_x46 hr) h ha hb (by rw [gv_l48]; omega) (by rw [gv_l50]; omega)
  show ∃ w, gf_Desk_keepFound_b0 F gv_z u 0 = some _ ∧ _
  unfold gf_Desk_keepFound_b0
  rw [hr.get rfl gv_r0_3]
  show ∃ w, gf_nn (u.2.2 45 1) _ = some _ ∧ _
  rw [hr.get rfl gv_r45_1]
  simp only [gf_nn]
  rw [hl]
  simp only [gf_cl]
  by_cases c : 2 ^ 256 ≤ a.natAbs ∨ 2 ^ 256 ≤ b.natAbs
  · rw [if_pos c, if_neg (by decide)]
    exact ⟨u, by rw [if_pos c], ⟨rfl, fun _ _ _ => rfl⟩, by rw [if_pos c]⟩
  · rw [if_neg c, if_pos rfl]
    obtain ⟨w, b1, b2, b3⟩ := gw_fcopy (F := F) (z := gv_z) (p := 59) (p' := 46) (k := 9) (gv_x59 hr) (gv_x46 hr) (by omega) h (p256 (fun q => c (Or.inl q))) (p256 (fun q => c (Or.inr q))) (by rw [gv_l48]; omega) (by rw [gv_l50]; omega) (by rw [gv_l61]; omega) (by rw [gv_l63]; omega)
    refine ⟨w, ?_, b2, by rw [if_neg c]; exact b3⟩
    rw [hr.get rfl gv_r0_6]
    show gf_nn (u.2.2 0 3) _ = _
    rw [hr.get rfl gv_r0_3]
    show gf_nn (u.2.2 45 1) _ = _
    rw [hr.get rfl gv_r45_1]
    simp only [gf_nn]
    rw [b1, if_neg c]
    rfl
theorem big300 {x : Nat} (h : x < 2 ^ 400) : x < 65536 ^ 256 := by
  rw [pw16]
  exact Nat.lt_of_lt_of_le h (Nat.pow_le_pow_right (by decide) (by omega))
/-- a rest of a product with a sign, as the reference finds it -/
theorem emod_sg {a x b y : Int} (hb : 0 < b) (hy : 0 < y) : ((a * x) % (b * y)).toNat = if ((a < 0) ≠ (x < 0)) ∧ (a.natAbs * x.natAbs) % (b.natAbs * y.natAbs) ≠ 0 then b.natAbs * y.natAbs - (a.natAbs * x.natAbs) % (b.natAbs * y.natAbs) else (a.natAbs * x.natAbs) % (b.natAbs * y.natAbs) := by
  obtain ⟨m, hm⟩ : ∃ m : Nat, m = b.natAbs * y.natAbs := ⟨_, rfl⟩
  obtain ⟨n, hn⟩ : ∃ n : Nat, n = a.natAbs * x.natAbs := ⟨_, rfl⟩
  have hm0 : 0 < m := by rw [hm]; exact Nat.mul_pos (by omega) (by omega)
  have eb : b * y = (m : Int) := by
    rw [hm, Int.natCast_mul]
    congr 1 <;> omega
  rw [← hm, ← hn, eb]
  have hpos : ∀ k : Nat, ((k : Int) % (m : Int)).toNat = k % m := fun k => by rw [← Int.natCast_emod]; rfl
  have hneg : ((-(n : Int)) % (m : Int)).toNat = if n % m ≠ 0 then m - n % m else n % m := by
    have h1 := Int.emod_nonneg (-(n : Int)) (show (m : Int) ≠ 0 by omega)
    have h2 := Int.emod_lt_of_pos (-(n : Int)) (show (0 : Int) < m by omega)
    have h3 := Nat.div_add_mod n m
    have h4 := Nat.mod_lt n hm0
    by_cases c : n % m ≠ 0
    · rw [if_pos c]
      have e : -(n : Int) = ((m - n % m : Nat) : Int) + (m : Int) * (-(n / m : Nat) - 1) := by
        rw [Int.mul_sub, Int.mul_neg, ← Int.natCast_mul]
        omega
      rw [e, Int.add_mul_emod_self_left, ← Int.natCast_emod, Nat.mod_eq_of_lt (by omega)]
      rfl
    · rw [if_neg c]
      have e : -(n : Int) = 0 + (m : Int) * (-(n / m : Nat)) := by
        rw [Int.mul_neg, ← Int.natCast_mul]
        omega
      rw [e, Int.add_mul_emod_self_left]
      simp only [Int.zero_emod]
      omega
  have hprod : a * x = if (a < 0) ≠ (x < 0) then -(n : Int) else (n : Int) := by
    rw [hn, Int.natCast_mul]
    by_cases ca : a < 0
    · by_cases cx : x < 0
      · rw [if_neg (by simp [ca, cx])]
        have e1 : a = -(a.natAbs : Int) := by omega
        have e2 : x = -(x.natAbs : Int) := by omega
        rw [e1, e2, Int.neg_mul_neg]
        simp
      · rw [if_pos (by simp [ca, cx])]
        have e1 : a = -(a.natAbs : Int) := by omega
        have e2 : x = (x.natAbs : Int) := by omega
        rw [e1, e2, Int.neg_mul]
        simp
    · by_cases cx : x < 0
      · rw [if_pos (by simp [ca, cx])]
        have e1 : a = (a.natAbs : Int) := by omega
        have e2 : x = -(x.natAbs : Int) := by omega
        rw [e1, e2, Int.mul_neg]
        simp
      · rw [if_neg (by simp [ca, cx])]
        have e1 : a = (a.natAbs : Int) := by omega
        have e2 : x = (x.natAbs : Int) := by omega
        rw [e1, e2]
        simp
  rw [hprod]
  by_cases cs : (a < 0) ≠ (x < 0)
  · rw [if_pos cs, hneg]
    by_cases c : n % m ≠ 0
    · rw [if_pos c, if_pos ⟨cs, c⟩]
    · rw [if_neg c, if_neg (fun q => c q.2)]
  · rw [if_neg cs, if_neg (fun q => cs q.1), hpos]
