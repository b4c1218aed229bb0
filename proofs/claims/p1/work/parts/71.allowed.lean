/-! want: what is allowed -/
abbrev gv_al (s lo hi : Int32) : Prop := 1 ≤ s.toInt ∧ s.toInt ≤ 4 ∧ 8 ≤ lo.toInt ∧ lo.toInt ≤ hi.toInt ∧ hi.toInt ≤ 120 ∧ ¬ (s.toInt = 3 ∧ 60 < hi.toInt - lo.toInt + 1) ∧ ¬ (s.toInt = 4 ∧ 20 < hi.toInt - lo.toInt + 1)
theorem gv_num {lo hi : Int32} (h1 : 8 ≤ lo.toInt) (h2 : lo.toInt ≤ hi.toInt) (h3 : hi.toInt ≤ 120) : (hi - lo + 1).toInt = hi.toInt - lo.toInt + 1 := by
  have e1 : (1 : Int32).toInt = 1 := rfl
  have e : (hi - lo).toInt = hi.toInt - lo.toInt := n32_sub (by omega) (by omega)
  rw [n32_add (by rw [e, e1]; omega) (by rw [e, e1]; omega), e, e1]
theorem gs_allowed {F : Nat} {z : gw_Sh} {u : gw_St} {s lo hi : Int32} : gf_Trains_areAllowed F z u s lo hi = some (if gv_al s lo hi then 1 else 0, u) := by
  show gf_Trains_areAllowed_b0 F z u s lo hi = _
  unfold gf_Trains_areAllowed_b0 gf_Trains_areAllowed_b27 gf_Trains_areAllowed_b46 gf_Trains_areAllowed_b61 gf_Trains_areAllowed_b57 gf_Trains_areAllowed_b62
  simp only [gf_nm]
  have e1 : (1 : Int32).toInt = 1 := rfl
  have e4 : (4 : Int32).toInt = 4 := rfl
  have e8 : (8 : Int32).toInt = 8 := rfl
  have e120 : (120 : Int32).toInt = 120 := rfl
  have e60 : (60 : Int32).toInt = 60 := rfl
  have e20 : (20 : Int32).toInt = 20 := rfl
  have z0 : ¬ ¬ ((0 : Int32) &&& 1 = 0) := by decide
  have z1 : ¬ ¬ ((1 : Int32) &&& 1 = 1) := by decide
  rw [if_neg z0, if_neg z1]
  by_cases c1 : s < 1
  · have := i32_lt.mp c1
    rw [if_pos c1, if_neg (show ¬ gv_al s lo hi by omega)]
  have c1' : ¬ s.toInt < (1 : Int32).toInt := fun q => c1 (i32_lt.mpr q)
  rw [if_neg c1]
  by_cases c2 : 4 < s
  · have := i32_lt.mp c2
    rw [if_pos c2, if_neg (show ¬ gv_al s lo hi by omega)]
  have c2' : ¬ (4 : Int32).toInt < s.toInt := fun q => c2 (i32_lt.mpr q)
  rw [if_neg c2]
  by_cases c3 : lo < 8
  · have := i32_lt.mp c3
    rw [if_pos c3, if_neg (show ¬ gv_al s lo hi by omega)]
  have c3' : ¬ lo.toInt < (8 : Int32).toInt := fun q => c3 (i32_lt.mpr q)
  rw [if_neg c3]
  by_cases c4 : hi < lo
  · have := i32_lt.mp c4
    rw [if_pos c4, if_neg (show ¬ gv_al s lo hi by omega)]
  have c4' : ¬ hi.toInt < lo.toInt := fun q => c4 (i32_lt.mpr q)
  rw [if_neg c4]
  by_cases c5 : hi ≤ 120
  · have c5' := i32_le.mp c5
    have en := gv_num (lo := lo) (hi := hi) (by omega) (by omega) (by omega)
    rw [if_pos c5]
    by_cases c6 : s = 3
    · have s3 : s.toInt = 3 := by rw [c6]; rfl
      have c8 : ¬ s = 4 := fun q => by rw [q] at s3; exact absurd s3 (by decide)
      rw [if_pos c6]
      by_cases c7 : 60 < hi - lo + 1
      · have := i32_lt.mp c7
        rw [if_pos c7, if_neg (show ¬ gv_al s lo hi by omega)]
      · have c7' : ¬ (60 : Int32).toInt < (hi - lo + 1).toInt := fun q => c7 (i32_lt.mpr q)
        rw [if_neg c7, if_neg c8, if_pos (show gv_al s lo hi by omega)]
    · have s3 : s.toInt ≠ 3 := fun q => c6 (i32_ext (by rw [q]; rfl))
      rw [if_neg c6]
      by_cases c8 : s = 4
      · have s4 : s.toInt = 4 := by rw [c8]; rfl
        rw [if_pos c8]
        by_cases c9 : 20 < hi - lo + 1
        · have := i32_lt.mp c9
          rw [if_pos c9, if_neg (show ¬ gv_al s lo hi by omega)]
        · have c9' : ¬ (20 : Int32).toInt < (hi - lo + 1).toInt := fun q => c9 (i32_lt.mpr q)
          rw [if_neg c9, if_pos (show gv_al s lo hi by omega)]
      · have s4 : s.toInt ≠ 4 := fun q => c8 (i32_ext (by rw [q]; rfl))
        rw [if_neg c8, if_pos (show gv_al s lo hi by omega)]
  · have c5' : ¬ hi.toInt ≤ (120 : Int32).toInt := fun q => c5 (i32_le.mpr q)
    rw [if_neg c5, if_neg (show ¬ gv_al s lo hi by omega)]
/-- how many choices there are -/
def gv_wy (n s : Nat) : Nat := match s with
  | 1 => n
  | 2 => n * (n + 1) / 2
  | 3 => n * (n + 1) * (n + 2) / 6
  | _ => n * (n + 1) * (n + 2) * (n + 3) / 24
theorem gs_ways_d : ∀ n, n < 114 → ∀ s, s < 5 → (1 ≤ s ∧ (s = 3 → n ≤ 60) ∧ (s = 4 → n ≤ 20)) → (gf_Model_ways 0 gw_z0 gw_u0 (Int32.ofNat n) (Int32.ofNat s)).map (·.1) = some (Int32.ofNat (gv_wy n s)) := by decide +kernel
theorem gs_ways {F : Nat} {z : gw_Sh} {u : gw_St} {n s : Nat} (hn : n < 114) (hs : 1 ≤ s) (hs2 : s < 5) (h3 : s = 3 → n ≤ 60) (h4 : s = 4 → n ≤ 20) : gf_Model_ways F z u (Int32.ofNat n) (Int32.ofNat s) = some (Int32.ofNat (gv_wy n s), u) := by
  have h := gs_ways_d n hn s hs2 ⟨hs, h3, h4⟩
  have e : gf_Model_ways F z u (Int32.ofNat n) (Int32.ofNat s) = (gf_Model_ways 0 gw_z0 gw_u0 (Int32.ofNat n) (Int32.ofNat s)).map (fun q => (q.1, u)) := by
    show gf_Model_ways_b0 F z u (Int32.ofNat n) (Int32.ofNat s) = (gf_Model_ways_b0 0 gw_z0 gw_u0 (Int32.ofNat n) (Int32.ofNat s)).map (fun q => (q.1, u))
    unfold gf_Model_ways_b0 gf_Model_ways_b62
    rw [if_neg (by decide : ¬ (2 : Int32) = 0), if_neg (by decide : ¬ (6 : Int32) = 0), if_neg (by decide : ¬ (12 : Int32) = 0)]
    split
    · rfl
    · split
      · rfl
      · split
        · rfl
        · rfl
  rw [e]
  cases hq : gf_Model_ways 0 gw_z0 gw_u0 (Int32.ofNat n) (Int32.ofNat s) with
  | none => rw [hq] at h; cases h
  | some q =>
    rw [hq] at h
    have : q.1 = Int32.ofNat (gv_wy n s) := Option.some.inj h
    show some (q.1, u) = _
    rw [this]
