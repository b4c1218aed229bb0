def gv_relU (u : gw_St) (r : Nat) (k a b c : Int32) : gw_St := gw_wi (gw_wi (gw_wi (gw_wi (gw_wi u 8 (4 * r) k) 8 (4 * r + 1) a) 8 (4 * r + 2) b) 8 (4 * r + 3) c) 6 3 (Int32.ofNat (r + 1))
def gv_relW (w : gw_St) (r : Nat) (k a b c : Int32) : gw_St := gw_wi (gw_wi (gw_wi (gw_wi (gw_wi w 675 r k) 676 r a) 677 r b) 678 r c) 670 19 (Int32.ofNat (r + 1))
def gv_S_rel (p k : Nat) : Bool := p == 8 || (p == 6 && k == 3) || p == 675 || p == 676 || p == 677 || p == 678 || (p == 670 && (k == 0 || k == 19)) || (p == 701 && k == 0)
theorem gs_rel_ok {u : gw_St} {n r : Nat} (hr : gv_Rf u) (hw : gv_Wk u n r) {kind a b c : Int32} {P1 P2 : Prop} {lw : Option (Int32 × gw_St)} {md : gw_St → Option (Int32 × gw_St)}
    (l1 : ¬ P1 → lw = some (1, u)) (l2 : P1 → ¬ P2 → lw = some (2, u)) (l3 : P1 → P2 → r = 120 → lw = some (3, u)) (l4 : P1 → P2 → r < 120 → lw = some (0, gw_wl (gv_relU u r kind a b c) 701 0 (Int32.ofNat r).toInt64))
    (m1 : ∀ w, gv_Rf w → gv_Wk u n r → (∀ p k, gv_T_wk p k = true → ¬ p = 8 → ¬ (p = 6 ∧ k = 3) → w.1 p k = u.1 p k) → ¬ P1 → md w = some (0, gw_wi (gw_wi w 670 0 0) 670 0 1)) (m2 : ∀ w, gv_Rf w → gv_Wk u n r → (∀ p k, gv_T_wk p k = true → ¬ p = 8 → ¬ (p = 6 ∧ k = 3) → w.1 p k = u.1 p k) → P1 → ¬ P2 → md w = some (0, gw_wi (gw_wi w 670 0 0) 670 0 2))
    (m3 : ∀ w, gv_Rf w → gv_Wk u n r → (∀ p k, gv_T_wk p k = true → ¬ p = 8 → ¬ (p = 6 ∧ k = 3) → w.1 p k = u.1 p k) → P1 → P2 → r = 120 → md w = some (0, gw_wi (gw_wi w 670 0 0) 670 0 3)) (m4 : ∀ w, gv_Rf w → gv_Wk u n r → (∀ p k, gv_T_wk p k = true → ¬ p = 8 → ¬ (p = 6 ∧ k = 3) → w.1 p k = u.1 p k) → P1 → P2 → r < 120 → md w = some (Int32.ofNat r, gv_relW (gw_wi w 670 0 0) r kind a b c))
    (hv : P1 → P2 → gv_Vr u n kind a b c) : ∃ r', gv_Op gv_S_rel u n r' lw md (fun w a => lg_cmp (w.2.1 701 0) a.toInt64 = 0) := by
  have same : ∀ k : Int32, gv_Wk (gw_wi (gw_wi u 670 0 0) 670 0 k) n r := fun k => hw.same (fun p q h => by
    simp only [gv_T_wk, Bool.or_eq_true, Bool.and_eq_true, beq_iff_eq] at h
    simp only [gw_wi]
    rw [if_neg (by omega), if_neg (by omega)])
  have off : ∀ k : Int32, gv_off gv_S_rel u (gw_wi (gw_wi u 670 0 0) 670 0 k) := fun k => ⟨fun p q hS => by
    simp only [gv_S_rel, Bool.or_eq_false_iff, Bool.and_eq_false_iff, beq_eq_false_iff_ne, ne_eq] at hS
    refine ⟨?_, rfl⟩
    simp only [gw_wi]
    rw [if_neg (by omega), if_neg (by omega)], rfl⟩
  by_cases h1 : P1
  · by_cases h2 : P2
    · by_cases h3 : r = 120
      · exact ⟨r, 3, 0, u, _, l3 h1 h2 h3, m3 u hr hw (fun _ _ _ _ _ => rfl) h1 h2 h3, rfl, fun q => absurd q (by decide), same 3, off 3⟩
      · have h4 : r < 120 := by
          have := hw.2.1
          omega
        refine ⟨r + 1, 0, Int32.ofNat r, _, _, l4 h1 h2 h4, m4 _ (hr.eq rfl) hw (fun p q ht h8 h6 => ?_) h1 h2 h4, rfl, fun _ => lgc_zero.mpr rfl, ?_, ⟨fun p q hS => ?_, rfl⟩⟩
        · simp only [gv_T_wk, Bool.or_eq_true, Bool.and_eq_true, beq_iff_eq] at ht
          simp only [gv_relU, gw_wi, gw_wl]
          rw [if_neg (by omega), if_neg (by omega), if_neg (by omega), if_neg (by omega), if_neg (by omega)]
        · refine hw.add h4 (hv h1 h2) rfl rfl (fun p q ht => ?_) ⟨?_, ?_, ?_, ?_, ?_, ?_, ?_, ?_⟩
          · obtain ⟨ht, t1, t2, t3, t4⟩ := ht
            simp only [gv_T_wk, Bool.or_eq_true, Bool.and_eq_true, beq_iff_eq] at ht
            simp only [gv_relW, gv_relU, gw_wi, gw_wl]
            rw [if_neg (by omega), if_neg (by omega), if_neg (by omega), if_neg (by omega), if_neg (by omega), if_neg (by omega), if_neg (by omega), if_neg (by omega), if_neg (by omega), if_neg (by omega), if_neg (by omega)]
          · simp [gv_relW, gv_relU, gw_wi, gw_wl]
          · simp [gv_relW, gv_relU, gw_wi, gw_wl]
          · simp [gv_relW, gv_relU, gw_wi, gw_wl]
          · simp [gv_relW, gv_relU, gw_wi, gw_wl]
          · simp [gv_relW, gv_relU, gw_wi, gw_wl]
          · simp [gv_relW, gv_relU, gw_wi, gw_wl]
          · simp [gv_relW, gv_relU, gw_wi, gw_wl]
          · simp [gv_relW, gv_relU, gw_wi, gw_wl]
        · simp only [gv_S_rel, Bool.or_eq_false_iff, Bool.and_eq_false_iff, beq_eq_false_iff_ne, ne_eq] at hS
          constructor
          · simp only [gv_relW, gv_relU, gw_wi, gw_wl]
            rw [if_neg (by omega), if_neg (by omega), if_neg (by omega), if_neg (by omega), if_neg (by omega), if_neg (by omega), if_neg (by omega), if_neg (by omega), if_neg (by omega), if_neg (by omega), if_neg (by omega)]
          · simp only [gv_relW, gv_relU, gw_wi, gw_wl]
            rw [if_neg (by omega)]
    · exact ⟨r, 2, 0, u, _, l2 h1 h2, m2 u hr hw (fun _ _ _ _ _ => rfl) h1 h2, rfl, fun q => absurd q (by decide), same 2, off 2⟩
  · exact ⟨r, 1, 0, u, _, l1 h1, m1 u hr hw (fun _ _ _ _ _ => rfl) h1, rfl, fun q => absurd q (by decide), same 1, off 1⟩
abbrev gv_in (n : Nat) (x : Int32) : Prop := 0 ≤ x.toInt ∧ x.toInt < n
theorem gs_needRoom {F : Nat} {z : gw_Sh} {u : gw_St} {r : Nat} (hr : gv_Rf u) (hn : r ≤ 120) (h : u.1 6 3 = Int32.ofNat r) : gf_Desk_needRoomForRelation F z u 0 = some (if r = 120 then .inr 2 else .inl (), u) := by
  show gf_Desk_needRoomForRelation_b0 F z u 0 = _
  unfold gf_Desk_needRoomForRelation_b0
  rw [hr.get rfl gv_r0_1]
  simp only [gf_nn]
  rw [h]
  by_cases c : r = 120
  · rw [if_pos c, if_pos (show Int32.ofNat r = 120 by rw [c]; rfl)]
  · rw [if_neg c, if_neg (fun q : Int32.ofNat r = 120 => c ((gv_lit (n := r) (k := 120) (by omega) (by omega)).mp q))]
theorem gs_needTwo0 {F : Nat} {z : gw_Sh} {u : gw_St} {a b : Int32} {n : Nat} (hr : gv_Rf u) (hn : n ≤ 60) (h : u.1 6 2 = Int32.ofNat n) (c : ¬ (gv_in n a ∧ gv_in n b)) : gf_Desk_needTwoGears F z u 0 a b = some (.inr 3, u) := by
  show gf_Desk_needTwoGears_b0 F z u 0 a b = _
  unfold gf_Desk_needTwoGears_b0
  rw [gs_needGear hr hn h]
  by_cases ca : 0 ≤ a.toInt ∧ a.toInt < n
  · rw [if_pos ca]
    simp only [gf_ct]
    rw [gs_needGear hr hn h, if_neg (fun q => c ⟨ca, q⟩)]
  · rw [if_neg ca]
    rfl
theorem gs_needTwo1 {F : Nat} {z : gw_Sh} {u : gw_St} {a b : Int32} {n : Nat} (hr : gv_Rf u) (hn : n ≤ 60) (h : u.1 6 2 = Int32.ofNat n) (c : gv_in n a ∧ gv_in n b) : gf_Desk_needTwoGears F z u 0 a b = some (if a = b then .inr 1 else .inl (), u) := by
  show gf_Desk_needTwoGears_b0 F z u 0 a b = _
  unfold gf_Desk_needTwoGears_b0
  rw [gs_needGear hr hn h, if_pos c.1]
  simp only [gf_ct]
  rw [gs_needGear hr hn h, if_pos c.2]
  by_cases e : a = b
  · simp [e]
  · simp [e]
theorem gs_Mrel0 {F : Nat} {w : gw_St} {n : Nat} {k a b c : Int32} (hn : n ≤ 60) (h : w.1 670 18 = Int32.ofNat n) (hk : k ≠ 3) (hc : ¬ (gv_in n a ∧ gv_in n b)) : gf_Model_relate F gv_z w 670 k a b c = some (0, gw_wi (gw_wi w 670 0 0) 670 0 1) := by
  have h' : (gw_wi w 670 0 0).1 670 18 = Int32.ofNat n := h
  show gf_Model_relate_b0 F gv_z w 670 k a b c = _
  unfold gf_Model_relate_b0
  simp only [gf_nm]
  rw [if_neg hk]
  unfold gf_Model_relate_b15
  rw [gs_isGear hn h']
  by_cases ca : 0 ≤ a.toInt ∧ a.toInt < n
  · rw [if_pos ca]
    simp only [gf_cl]
    rw [if_neg (by decide), gs_isGear hn h', if_neg (fun q => hc ⟨ca, q⟩)]
    rfl
  · rw [if_neg ca]
    rfl
/-- behind the gears' test -/
theorem gs_Mrel1 {F : Nat} {w : gw_St} {n : Nat} {k a b c : Int32} (hn : n ≤ 60) (h : w.1 670 18 = Int32.ofNat n) (hk : k ≠ 3) (hc : gv_in n a ∧ gv_in n b) : gf_Model_relate F gv_z w 670 k a b c = if a = b then some (0, gw_wi (gw_wi w 670 0 0) 670 0 2) else gf_Model_relate_b75 F gv_z (gw_wi w 670 0 0) 670 k a b c := by
  have h' : (gw_wi w 670 0 0).1 670 18 = Int32.ofNat n := h
  show gf_Model_relate_b0 F gv_z w 670 k a b c = _
  unfold gf_Model_relate_b0
  simp only [gf_nm]
  rw [if_neg hk]
  unfold gf_Model_relate_b15
  rw [gs_isGear hn h', if_pos hc.1]
  simp only [gf_cl]
  rw [if_neg (by decide), gs_isGear hn h', if_pos hc.2]
  simp only [gf_cl]
  rw [if_neg (by decide), if_pos trivial]
  unfold gf_Model_relate_b53
  by_cases e : a = b
  · rw [if_pos e, if_pos e]; rfl
  · rw [if_neg e, if_neg e, if_pos (rfl : (0 : Int32) = 0)]
theorem gs_b75n {F : Nat} {w : gw_St} {k a b c : Int32} (hk : k ≠ 1) : gf_Model_relate_b75 F gv_z w 670 k a b c = gf_Model_relate_b101 F gv_z w 670 k a b c := by
  unfold gf_Model_relate_b75
  rw [if_neg hk]
theorem gv_inx {n : Nat} {x : Int32} (h : gv_in n x) (hn : n ≤ 60) : x.toNatClampNeg < n ∧ ¬ (x < 0 ∨ 60 ≤ x.toNatClampNeg) := by
  have h1 : (x.toNatClampNeg : Int) = x.toInt := Int.toNat_of_nonneg h.1
  have e0 : (0 : Int32).toInt = 0 := rfl
  refine ⟨by omega, fun q => ?_⟩
  rcases q with q | q
  · have := i32_lt.mp q
    omega
  · omega
theorem gs_mesh {F : Nat} {u : gw_St} {n r : Nat} (hr : gv_Rf u) (hw : gv_Wk u n r) (a b : Int32) : ∃ r', gv_Op gv_S_rel u n r' (gf_Law_mesh F gv_z u 0 a b 701) (fun w => gf_Model_mesh F gv_z w 670 a b) (fun w a => lg_cmp (w.2.1 701 0) a.toInt64 = 0) := by
  obtain ⟨w1, w2, w3, w4, w5, w6, w7, w8, w9, w10, w11⟩ := id hw
  have D : gf_Desk_mesh F gv_z u 0 a b = gf_Desk_mesh_b0 F gv_z u 0 a b := rfl
  unfold gf_Desk_mesh_b0 at D
  have M : ∀ w, gf_Model_mesh F gv_z w 670 a b = gf_Model_mesh_b0 F gv_z w 670 a b := fun _ => rfl
  unfold gf_Model_mesh_b0 at M
  refine gs_rel_ok (P1 := gv_in n a ∧ gv_in n b) (P2 := a ≠ b) (kind := 0) (a := a) (b := b) (c := -1) hr hw ?_ ?_ ?_ ?_ ?_ ?_ ?_ ?_ ?_
  · intro h1
    apply lw_mesh_3
    rw [D, gs_needTwo0 hr w1 w3 h1]; rfl
  · intro h1 h2
    apply lw_mesh_1
    rw [D, gs_needTwo1 hr w1 w3 h1, if_pos (Decidable.not_not.mp h2)]; rfl
  · intro h1 h2 h3
    apply lw_mesh_2
    rw [D, gs_needTwo1 hr w1 w3 h1, if_neg h2]
    simp only [gf_ct]
    rw [gs_needRoom hr w2 w5, if_pos h3]
  · intro h1 h2 h3
    apply lw_mesh_v _ gv_zo
    rw [D, gs_needTwo1 hr w1 w3 h1, if_neg h2]
    simp only [gf_ct]
    rw [gs_needRoom hr w2 w5, if_neg (by omega)]
    simp only []
    rw [hr.get rfl gv_r0_1]
    simp only [gf_nn]
    rw [gs_addRel hr w5 h3]
    rfl
  · intro w hrw _ e h1
    show gf_Model_mesh F gv_z w 670 a b = _
    rw [M, gs_Mrel0 w1 ((e 670 18 rfl (by decide) (by decide)).trans w4) (by decide) h1]; rfl
  · intro w hrw _ e h1 h2
    show gf_Model_mesh F gv_z w 670 a b = _
    rw [M, gs_Mrel1 w1 ((e 670 18 rfl (by decide) (by decide)).trans w4) (by decide) h1, if_pos (Decidable.not_not.mp h2)]; rfl
  · intro w hrw _ e h1 h2 h3
    show gf_Model_mesh F gv_z w 670 a b = _
    rw [M, gs_Mrel1 w1 ((e 670 18 rfl (by decide) (by decide)).trans w4) (by decide) h1, if_neg h2, gs_b75n (by decide), gs_relF (show (gw_wi w 670 0 0).1 670 19 = Int32.ofNat 120 by rw [← h3]; exact (e 670 19 rfl (by decide) (by decide)).trans w6)]; rfl
  · intro w hrw _ e h1 h2 h3
    show gf_Model_mesh F gv_z w 670 a b = _
    rw [M, gs_Mrel1 w1 ((e 670 18 rfl (by decide) (by decide)).trans w4) (by decide) h1, if_neg h2, gs_b75n (by decide), gs_relM (w := gw_wi w 670 0 0) (hrw.eq rfl) (show (gw_wi w 670 0 0).1 670 19 = Int32.ofNat r from (e 670 19 rfl (by decide) (by decide)).trans w6) h3]; rfl
  · intro h1 h2
    exact ⟨by decide, by decide, h1.1.1, h1.1.2, h1.2.1, h1.2.2, h2, fun q => absurd q (by decide), fun _ => rfl, fun q => absurd q (by decide)⟩
theorem gs_arbor {F : Nat} {u : gw_St} {n r : Nat} (hr : gv_Rf u) (hw : gv_Wk u n r) (a b : Int32) : ∃ r', gv_Op gv_S_rel u n r' (gf_Law_arbor F gv_z u 0 a b 701) (fun w => gf_Model_arbor F gv_z w 670 a b) (fun w a => lg_cmp (w.2.1 701 0) a.toInt64 = 0) := by
  obtain ⟨w1, w2, w3, w4, w5, w6, w7, w8, w9, w10, w11⟩ := id hw
  have D : gf_Desk_arbor F gv_z u 0 a b = gf_Desk_arbor_b0 F gv_z u 0 a b := rfl
  unfold gf_Desk_arbor_b0 at D
  have M : ∀ w, gf_Model_arbor F gv_z w 670 a b = gf_Model_arbor_b0 F gv_z w 670 a b := fun _ => rfl
  unfold gf_Model_arbor_b0 at M
  refine gs_rel_ok (P1 := gv_in n a ∧ gv_in n b) (P2 := a ≠ b) (kind := 2) (a := a) (b := b) (c := -1) hr hw ?_ ?_ ?_ ?_ ?_ ?_ ?_ ?_ ?_
  · intro h1
    apply lw_arbor_3
    rw [D, gs_needTwo0 hr w1 w3 h1]; rfl
  · intro h1 h2
    apply lw_arbor_1
    rw [D, gs_needTwo1 hr w1 w3 h1, if_pos (Decidable.not_not.mp h2)]; rfl
  · intro h1 h2 h3
    apply lw_arbor_2
    rw [D, gs_needTwo1 hr w1 w3 h1, if_neg h2]
    simp only [gf_ct]
    rw [gs_needRoom hr w2 w5, if_pos h3]
  · intro h1 h2 h3
    apply lw_arbor_v _ gv_zo
    rw [D, gs_needTwo1 hr w1 w3 h1, if_neg h2]
    simp only [gf_ct]
    rw [gs_needRoom hr w2 w5, if_neg (by omega)]
    simp only []
    rw [hr.get rfl gv_r0_1]
    simp only [gf_nn]
    rw [gs_addRel hr w5 h3]
    rfl
  · intro w hrw _ e h1
    show gf_Model_arbor F gv_z w 670 a b = _
    rw [M, gs_Mrel0 w1 ((e 670 18 rfl (by decide) (by decide)).trans w4) (by decide) h1]; rfl
  · intro w hrw _ e h1 h2
    show gf_Model_arbor F gv_z w 670 a b = _
    rw [M, gs_Mrel1 w1 ((e 670 18 rfl (by decide) (by decide)).trans w4) (by decide) h1, if_pos (Decidable.not_not.mp h2)]; rfl
  · intro w hrw _ e h1 h2 h3
    show gf_Model_arbor F gv_z w 670 a b = _
    rw [M, gs_Mrel1 w1 ((e 670 18 rfl (by decide) (by decide)).trans w4) (by decide) h1, if_neg h2, gs_b75n (by decide), gs_relF (show (gw_wi w 670 0 0).1 670 19 = Int32.ofNat 120 by rw [← h3]; exact (e 670 19 rfl (by decide) (by decide)).trans w6)]; rfl
  · intro w hrw _ e h1 h2 h3
    show gf_Model_arbor F gv_z w 670 a b = _
    rw [M, gs_Mrel1 w1 ((e 670 18 rfl (by decide) (by decide)).trans w4) (by decide) h1, if_neg h2, gs_b75n (by decide), gs_relM (w := gw_wi w 670 0 0) (hrw.eq rfl) (show (gw_wi w 670 0 0).1 670 19 = Int32.ofNat r from (e 670 19 rfl (by decide) (by decide)).trans w6) h3]; rfl
  · intro h1 h2
    exact ⟨by decide, by decide, h1.1.1, h1.1.2, h1.2.1, h1.2.2, h2, fun q => absurd q (by decide), fun _ => rfl, fun q => absurd q (by decide)⟩
