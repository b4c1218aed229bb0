theorem gs_Dinner {F : Nat} {u : gw_St} {n r : Nat} {a b : Int32} (hr : gv_Rf u) (hw : gv_Wk u n r) (h1 : gv_in n a ∧ gv_in n b) (h2 : a ≠ b) : gf_Desk_inner F gv_z u 0 a b = if (u.1 7 a.toNatClampNeg).toInt < (u.1 7 b.toNatClampNeg).toInt then (if r = 120 then some (.inr 2, u) else some (.inl (Int32.ofNat r), gv_relU u r 1 a b (-1))) else some (.inr 1, u) := by
  obtain ⟨w1, w2, w3, w4, w5, -⟩ := id hw
  show gf_Desk_inner_b0 F gv_z u 0 a b = _
  unfold gf_Desk_inner_b0
  rw [gs_needTwo1 hr w1 w3 h1, if_neg h2]
  simp only [gf_ct]
  rw [hr.get rfl gv_r0_1]
  simp only [gf_nn]
  rw [hr.get rfl gv_r6_0]
  simp only []
  rw [gv_l7, if_neg (gv_inx h1.2 w1).2, if_neg (gv_inx h1.1 w1).2]
  by_cases c : (u.1 7 a.toNatClampNeg).toInt < (u.1 7 b.toNatClampNeg).toInt
  · rw [if_pos c, if_pos (i32_lt.mpr c), gs_needRoom hr w2 w5]
    by_cases h3 : r = 120
    · rw [if_pos h3, if_pos h3]
    · rw [if_neg h3, if_neg h3]
      simp only []
      rw [hr.get rfl gv_r0_1]
      simp only []
      rw [gs_addRel hr w5 (by omega)]
      rfl
  · rw [if_neg c, if_neg (fun q => c (i32_lt.mp q))]
theorem gs_b75i {F : Nat} {u w : gw_St} {n r : Nat} {a b c : Int32} (hr : gv_Rf w) (hw : gv_Wk u n r) (e : ∀ g, w.1 674 g = u.1 674 g) (h1 : gv_in n a ∧ gv_in n b) : gf_Model_relate_b75 F gv_z w 670 1 a b c = if (u.1 7 a.toNatClampNeg).toInt < (u.1 7 b.toNatClampNeg).toInt then gf_Model_relate_b101 F gv_z w 670 1 a b c else some (0, gw_wi w 670 0 2) := by
  obtain ⟨w1, w2, w3, w4, w5, w6, w7, -⟩ := id hw
  unfold gf_Model_relate_b75
  rw [if_pos (rfl : (1 : Int32) = 1), hr.get rfl gv_rm21]
  simp only [gf_nn]
  rw [gv_l674, if_neg (gv_inx h1.2 w1).2, if_neg (gv_inx h1.1 w1).2, e, e, (w7 _ (gv_inx h1.1 w1).1).1, (w7 _ (gv_inx h1.2 w1).1).1]
  by_cases c : (u.1 7 a.toNatClampNeg).toInt < (u.1 7 b.toNatClampNeg).toInt
  · rw [if_pos c, if_pos (i32_lt.mpr c)]
  · rw [if_neg c, if_neg (fun q => c (i32_lt.mp q))]
    rfl
theorem gs_inner {F : Nat} {u : gw_St} {n r : Nat} (hr : gv_Rf u) (hw : gv_Wk u n r) (a b : Int32) : ∃ r', gv_Op gv_S_rel u n r' (gf_Law_inner F gv_z u 0 a b 701) (fun w => gf_Model_inner F gv_z w 670 a b) (fun w a => lg_cmp (w.2.1 701 0) a.toInt64 = 0) := by
  obtain ⟨w1, w2, w3, w4, w5, w6, w7, w8, w9, w10, w11⟩ := id hw
  have M : ∀ w, gf_Model_inner F gv_z w 670 a b = gf_Model_inner_b0 F gv_z w 670 a b := fun _ => rfl
  unfold gf_Model_inner_b0 at M
  refine gs_rel_ok (P1 := gv_in n a ∧ gv_in n b) (P2 := a ≠ b ∧ (u.1 7 a.toNatClampNeg).toInt < (u.1 7 b.toNatClampNeg).toInt) (kind := 1) (a := a) (b := b) (c := -1) hr hw ?_ ?_ ?_ ?_ ?_ ?_ ?_ ?_ ?_
  · intro h1
    apply lw_inner_3
    show gf_Desk_inner_b0 F gv_z u 0 a b = _
    unfold gf_Desk_inner_b0
    rw [gs_needTwo0 hr w1 w3 h1]; rfl
  · intro h1 h2
    apply lw_inner_1
    by_cases e : a = b
    · show gf_Desk_inner_b0 F gv_z u 0 a b = _
      unfold gf_Desk_inner_b0
      rw [gs_needTwo1 hr w1 w3 h1, if_pos e]; rfl
    · rw [gs_Dinner hr hw h1 e, if_neg (fun q => h2 ⟨e, q⟩)]
  · intro h1 h2 h3
    apply lw_inner_2
    rw [gs_Dinner hr hw h1 h2.1, if_pos h2.2, if_pos h3]
  · intro h1 h2 h3
    apply lw_inner_v _ gv_zo
    rw [gs_Dinner hr hw h1 h2.1, if_pos h2.2, if_neg (by omega)]
  · intro w hrw _ e h1
    show gf_Model_inner F gv_z w 670 a b = _
    rw [M, gs_Mrel0 w1 ((e 670 18 rfl (by decide) (by decide)).trans w4) (by decide) h1]; rfl
  · intro w hrw _ e h1 h2
    show gf_Model_inner F gv_z w 670 a b = _
    rw [M, gs_Mrel1 w1 ((e 670 18 rfl (by decide) (by decide)).trans w4) (by decide) h1]
    by_cases eb : a = b
    · rw [if_pos eb]; rfl
    · rw [if_neg eb, gs_b75i (u := u) (w := gw_wi w 670 0 0) (hrw.eq rfl) hw (fun g => e 674 g rfl (by decide) (by omega)) h1, if_neg (fun q => h2 ⟨eb, q⟩)]; rfl
  · intro w hrw _ e h1 h2 h3
    show gf_Model_inner F gv_z w 670 a b = _
    rw [M, gs_Mrel1 w1 ((e 670 18 rfl (by decide) (by decide)).trans w4) (by decide) h1, if_neg h2.1, gs_b75i (u := u) (w := gw_wi w 670 0 0) (hrw.eq rfl) hw (fun g => e 674 g rfl (by decide) (by omega)) h1, if_pos h2.2, gs_relF (show (gw_wi w 670 0 0).1 670 19 = Int32.ofNat 120 by rw [← h3]; exact (e 670 19 rfl (by decide) (by decide)).trans w6)]; rfl
  · intro w hrw _ e h1 h2 h3
    show gf_Model_inner F gv_z w 670 a b = _
    rw [M, gs_Mrel1 w1 ((e 670 18 rfl (by decide) (by decide)).trans w4) (by decide) h1, if_neg h2.1, gs_b75i (u := u) (w := gw_wi w 670 0 0) (hrw.eq rfl) hw (fun g => e 674 g rfl (by decide) (by omega)) h1, if_pos h2.2, gs_relM (w := gw_wi w 670 0 0) (hrw.eq rfl) (show (gw_wi w 670 0 0).1 670 19 = Int32.ofNat r from (e 670 19 rfl (by decide) (by decide)).trans w6) h3]; rfl
  · intro h1 h2
    exact ⟨by decide, by decide, h1.1.1, h1.1.2, h1.2.1, h1.2.2, h2.1, fun q => absurd q (by decide), fun _ => rfl, fun _ => h2.2⟩
theorem gs_Dpl0 {F : Nat} {u : gw_St} {n r : Nat} {a b c : Int32} (hr : gv_Rf u) (hw : gv_Wk u n r) (h1 : ¬ (gv_in n a ∧ gv_in n b ∧ gv_in n c)) : gf_Desk_planet F gv_z u 0 a b c = some (.inr 3, u) := by
  obtain ⟨w1, w2, w3, w4, w5, -⟩ := id hw
  show gf_Desk_planet_b0 F gv_z u 0 a b c = _
  unfold gf_Desk_planet_b0
  rw [gs_needGear hr w1 w3]
  by_cases ca : 0 ≤ a.toInt ∧ a.toInt < n
  · rw [if_pos ca]
    simp only [gf_ct]
    rw [gs_needGear hr w1 w3]
    by_cases cb : 0 ≤ b.toInt ∧ b.toInt < n
    · rw [if_pos cb]
      simp only []
      rw [gs_needGear hr w1 w3, if_neg (fun q => h1 ⟨ca, cb, q⟩)]
    · rw [if_neg cb]
  · rw [if_neg ca]
    rfl
theorem gs_Dpl1 {F : Nat} {u : gw_St} {n r : Nat} {a b c : Int32} (hr : gv_Rf u) (hw : gv_Wk u n r) (h1 : gv_in n a ∧ gv_in n b ∧ gv_in n c) : gf_Desk_planet F gv_z u 0 a b c = if a = b ∨ a = c ∨ b = c then some (.inr 1, u) else if r = 120 then some (.inr 2, u) else some (.inl (Int32.ofNat r), gv_relU u r 3 a b c) := by
  obtain ⟨w1, w2, w3, w4, w5, -⟩ := id hw
  show gf_Desk_planet_b0 F gv_z u 0 a b c = _
  unfold gf_Desk_planet_b0
  rw [gs_needGear hr w1 w3, if_pos h1.1]
  simp only [gf_ct]
  rw [gs_needGear hr w1 w3, if_pos h1.2.1]
  simp only []
  rw [gs_needGear hr w1 w3, if_pos h1.2.2]
  simp only []
  by_cases e1 : a = b
  · rw [if_pos e1, if_pos (Or.inl e1)]; rfl
  · rw [if_neg e1]
    by_cases e2 : a = c
    · rw [if_pos e2, if_pos (Or.inr (Or.inl e2))]; rfl
    · rw [if_neg e2]
      by_cases e3 : b = c
      · rw [if_pos e3, if_pos (Or.inr (Or.inr e3))]; rfl
      · rw [if_neg e3, if_neg (fun q => by rcases q with q | q | q <;> contradiction), gs_needRoom hr w2 w5]
        by_cases h3 : r = 120
        · rw [if_pos h3, if_pos h3]
        · rw [if_neg h3, if_neg h3]
          simp only []
          rw [hr.get rfl gv_r0_1]
          simp only [gf_nn]
          rw [gs_addRel hr w5 (by omega)]
          rfl
theorem gs_Mpl0 {F : Nat} {w : gw_St} {n : Nat} {a b c : Int32} (hn : n ≤ 60) (h : w.1 670 18 = Int32.ofNat n) (hc : ¬ (gv_in n a ∧ gv_in n b ∧ gv_in n c)) : gf_Model_relate F gv_z w 670 3 a b c = some (0, gw_wi (gw_wi w 670 0 0) 670 0 1) := by
  have h' : (gw_wi w 670 0 0).1 670 18 = Int32.ofNat n := h
  show gf_Model_relate_b0 F gv_z w 670 3 a b c = _
  unfold gf_Model_relate_b0
  simp only [gf_nm]
  rw [if_pos trivial]
  unfold gf_Model_relate_b15
  rw [gs_isGear hn h']
  by_cases ca : 0 ≤ a.toInt ∧ a.toInt < n
  · rw [if_pos ca]
    simp only [gf_cl]
    rw [if_neg (by decide), gs_isGear hn h']
    by_cases cb : 0 ≤ b.toInt ∧ b.toInt < n
    · rw [if_pos cb]
      simp only []
      rw [if_neg (by decide), if_neg (by decide), gs_isGear hn h', if_neg (fun q => hc ⟨ca, cb, q⟩)]
      rfl
    · rw [if_neg cb]
      rfl
  · rw [if_neg ca]
    rfl
theorem gs_Mpl1 {F : Nat} {w : gw_St} {n : Nat} {a b c : Int32} (hn : n ≤ 60) (h : w.1 670 18 = Int32.ofNat n) (hc : gv_in n a ∧ gv_in n b ∧ gv_in n c) : gf_Model_relate F gv_z w 670 3 a b c = if a = b ∨ a = c ∨ b = c then some (0, gw_wi (gw_wi w 670 0 0) 670 0 2) else gf_Model_relate_b101 F gv_z (gw_wi w 670 0 0) 670 3 a b c := by
  have h' : (gw_wi w 670 0 0).1 670 18 = Int32.ofNat n := h
  show gf_Model_relate_b0 F gv_z w 670 3 a b c = _
  unfold gf_Model_relate_b0
  simp only [gf_nm]
  rw [if_pos trivial]
  unfold gf_Model_relate_b15
  rw [gs_isGear hn h', if_pos hc.1]
  simp only [gf_cl]
  rw [if_neg (by decide), gs_isGear hn h', if_pos hc.2.1]
  simp only []
  rw [if_neg (by decide), if_neg (by decide), gs_isGear hn h', if_pos hc.2.2]
  simp only []
  rw [if_neg (by decide)]
  unfold gf_Model_relate_b53
  by_cases e1 : a = b
  · rw [if_pos e1, if_pos (Or.inl e1)]; rfl
  · rw [if_neg e1, if_neg (by decide)]
    by_cases e2 : a = c
    · rw [if_pos e2, if_pos (Or.inr (Or.inl e2))]; rfl
    · rw [if_neg e2]
      by_cases e3 : b = c
      · rw [if_pos e3, if_pos (Or.inr (Or.inr e3))]; rfl
      · rw [if_neg e3, if_neg (fun q => by rcases q with q | q | q <;> contradiction), gs_b75n (by decide)]
theorem gs_planet {F : Nat} {u : gw_St} {n r : Nat} (hr : gv_Rf u) (hw : gv_Wk u n r) (a b c : Int32) : ∃ r', gv_Op gv_S_rel u n r' (gf_Law_planet F gv_z u 0 a b c 701) (fun w => gf_Model_planet F gv_z w 670 a b c) (fun w a => lg_cmp (w.2.1 701 0) a.toInt64 = 0) := by
  obtain ⟨w1, w2, w3, w4, w5, w6, w7, w8, w9, w10, w11⟩ := id hw
  have M : ∀ w, gf_Model_planet F gv_z w 670 a b c = gf_Model_planet_b0 F gv_z w 670 a b c := fun _ => rfl
  unfold gf_Model_planet_b0 at M
  refine gs_rel_ok (P1 := gv_in n a ∧ gv_in n b ∧ gv_in n c) (P2 := ¬ (a = b ∨ a = c ∨ b = c)) (kind := 3) (a := a) (b := b) (c := c) hr hw ?_ ?_ ?_ ?_ ?_ ?_ ?_ ?_ ?_
  · intro h1
    exact lw_planet_3 (gs_Dpl0 hr hw h1)
  · intro h1 h2
    apply lw_planet_1
    rw [gs_Dpl1 hr hw h1, if_pos (Decidable.not_not.mp h2)]
  · intro h1 h2 h3
    apply lw_planet_2
    rw [gs_Dpl1 hr hw h1, if_neg h2, if_pos h3]
  · intro h1 h2 h3
    apply lw_planet_v _ gv_zo
    rw [gs_Dpl1 hr hw h1, if_neg h2, if_neg (by omega)]
  · intro w hrw _ e h1
    show gf_Model_planet F gv_z w 670 a b c = _
    rw [M, gs_Mpl0 w1 ((e 670 18 rfl (by decide) (by decide)).trans w4) h1]; rfl
  · intro w hrw _ e h1 h2
    show gf_Model_planet F gv_z w 670 a b c = _
    rw [M, gs_Mpl1 w1 ((e 670 18 rfl (by decide) (by decide)).trans w4) h1, if_pos (Decidable.not_not.mp h2)]; rfl
  · intro w hrw _ e h1 h2 h3
    show gf_Model_planet F gv_z w 670 a b c = _
    rw [M, gs_Mpl1 w1 ((e 670 18 rfl (by decide) (by decide)).trans w4) h1, if_neg h2, gs_relF (show (gw_wi w 670 0 0).1 670 19 = Int32.ofNat 120 by rw [← h3]; exact (e 670 19 rfl (by decide) (by decide)).trans w6)]; rfl
  · intro w hrw _ e h1 h2 h3
    show gf_Model_planet F gv_z w 670 a b c = _
    rw [M, gs_Mpl1 w1 ((e 670 18 rfl (by decide) (by decide)).trans w4) h1, if_neg h2, gs_relM (w := gw_wi w 670 0 0) (hrw.eq rfl) (show (gw_wi w 670 0 0).1 670 19 = Int32.ofNat r from (e 670 19 rfl (by decide) (by decide)).trans w6) h3]; rfl
  · intro h1 h2
    exact ⟨by decide, by decide, h1.1.1, h1.1.2, h1.2.1.1, h1.2.1.2, fun q => h2 (Or.inl q), fun _ => ⟨h1.2.2.1, h1.2.2.2, fun q => h2 (Or.inr (Or.inl q)), fun q => h2 (Or.inr (Or.inr q))⟩, fun q => absurd rfl q, fun q => absurd q (by decide)⟩
