def cnt (P : Nat → Bool) : Nat → Nat
  | 0 => 0
  | n + 1 => cnt P n + (if P n then 1 else 0)
theorem cnt_le (P : Nat → Bool) : ∀ n, cnt P n ≤ n
  | 0 => Nat.le_refl _
  | n + 1 => by
    have := cnt_le P n
    unfold cnt
    split <;> omega
theorem cnt_congr {P Q : Nat → Bool} : ∀ {n : Nat}, (∀ k, k < n → P k = Q k) → cnt P n = cnt Q n
  | 0, _ => rfl
  | n + 1, h => by
    unfold cnt
    rw [cnt_congr (fun k hk => h k (by omega)), h n (by omega)]
theorem cnt_cut {P : Nat → Bool} {m : Nat} : ∀ {n : Nat}, m ≤ n → (∀ k, m ≤ k → k < n → P k = false) → cnt P n = cnt P m
  | 0, h, _ => by
    have : m = 0 := by omega
    subst this
    rfl
  | n + 1, h, h0 => by
    by_cases e : m = n + 1
    · rw [e]
    · unfold cnt
      rw [cnt_cut (n := n) (by omega) (fun k h1 h2 => h0 k h1 (by omega)), h0 n (by omega) (by omega)]
      simp only [Bool.false_eq_true, ite_false, Nat.add_zero]
      cases m with
      | zero => rfl
      | succ m => rfl
theorem gs_dials {F : Nat} (hF : 2000 ≤ F) {u : gw_St} (hr : gv_Rf u) : gf_Desk_dialsInUse F gv_z u 0 = some (Int32.ofNat (cnt (fun k => decide (u.1 57 k ≠ -1)) 12), u) := by
  have main := gl_up (σ := Nat) (N := 12) (L := fun f c k => gf_Desk_dialsInUse_L4 F gv_z f u 0 (Int32.ofNat c) (Int32.ofNat k)) (I := fun k c => c = cnt (fun k => decide (u.1 57 k ≠ -1)) k) (R := fun r => r = some (Int32.ofNat (cnt (fun k => decide (u.1 57 k ≠ -1)) 12), u))
    (fun f c k hI hk => by
      refine ⟨_, rfl, ?_⟩
      show gf_Desk_dialsInUse_S4 F gv_z _ u 0 (Int32.ofNat c) (Int32.ofNat k) = _
      unfold gf_Desk_dialsInUse_S4 gf_Desk_dialsInUse_b23
      rw [if_neg (fun e : (12 : Int32) ≤ Int32.ofNat k => by have := (gi_le (a := 12) (by omega) (by omega)).mp e; omega), hr.get rfl gv_r0_4]
      simp only [gf_nn, gf_nm]
      rw [if_neg (gi_ix (by rw [gv_l57]; omega) (by omega)), i32_clamp (by omega), gw_iS, gw_iS, hI]
      by_cases e : u.1 57 k = -1
      · rw [if_pos e]
        unfold cnt
        rw [if_neg (by simp [e]), Nat.add_zero]
        cases k <;> rfl
      · rw [if_neg e]
        show _ = gf_Desk_dialsInUse_L4 F gv_z f u 0 (Int32.ofNat (cnt _ k + (if decide (u.1 57 k ≠ -1) = true then 1 else 0))) _
        rw [if_pos (by simp [e])])
    (fun f c hI => by
      show gf_Desk_dialsInUse_S4 F gv_z _ u 0 (Int32.ofNat c) (Int32.ofNat 12) = _
      unfold gf_Desk_dialsInUse_S4
      rw [if_pos (by decide), hI])
  exact main 12 0 0 F (by omega) rfl (by omega)
theorem gs_howMany {F : Nat} (hF : 2000 ≤ F) {u : gw_St} {B : Nat} (hr : gv_Rf u) (hB : B = 64 ∨ B = 367) : gf_Speeds_howMany F gv_z u B = some (Int32.ofNat (cnt (fun k => decide (u.1 (B + 1) k ≠ 0)) 60), u) := by
  obtain ⟨k1, k2, k3, k4⟩ := gv_spK hr hB
  have main := gl_up (σ := Nat) (N := 60) (L := fun f c k => gf_Speeds_howMany_L4 F gv_z f u B (Int32.ofNat c) (Int32.ofNat k)) (I := fun k c => c = cnt (fun k => decide (u.1 (B + 1) k ≠ 0)) k) (R := fun r => r = some (Int32.ofNat (cnt (fun k => decide (u.1 (B + 1) k ≠ 0)) 60), u))
    (fun f c k hI hk => by
      refine ⟨_, rfl, ?_⟩
      show gf_Speeds_howMany_S4 F gv_z _ u B (Int32.ofNat c) (Int32.ofNat k) = _
      unfold gf_Speeds_howMany_S4 gf_Speeds_howMany_b22
      rw [if_neg (fun e : (60 : Int32) ≤ Int32.ofNat k => by have := (gi_le (a := 60) (by omega) (by omega)).mp e; omega), show u.2.2 B 0 = B + 1 + 1 from k1]
      simp only [gf_nn, gf_nm]
      rw [if_neg (gi_ix (by rw [k3]; omega) (by omega)), i32_clamp (by omega), gw_iS, gw_iS, hI]
      by_cases e : u.1 (B + 1) k = 0
      · rw [if_pos e]
        unfold cnt
        rw [if_neg (by simp [e]), Nat.add_zero]
        cases k <;> rfl
      · rw [if_neg e]
        show _ = gf_Speeds_howMany_L4 F gv_z f u B (Int32.ofNat (cnt _ k + (if decide (u.1 (B + 1) k ≠ 0) = true then 1 else 0))) _
        rw [if_pos (by simp [e])])
    (fun f c hI => by
      show gf_Speeds_howMany_S4 F gv_z _ u B (Int32.ofNat c) (Int32.ofNat 60) = _
      unfold gf_Speeds_howMany_S4
      rw [if_pos (by decide), hI])
  exact main 60 0 0 F (by omega) rfl (by omega)
theorem gs_countL {F : Nat} (hF : 2000 ≤ F) {u : gw_St} {N q : Nat} {x : Int32} {P : Nat → Bool} (hN : N ≤ 60) (hst : ∀ f c k, k < N → gf_Model_count_S62 F gv_z (gf_Model_count_L62 F gv_z f) u 670 x (Int32.ofNat c) (Int32.ofNat k) = gf_Model_count_L62 F gv_z f u 670 x (Int32.ofNat (c + (if P k then 1 else 0))) (Int32.ofNat (k + 1))) (hex : ∀ f c, gf_Model_count_S62 F gv_z (gf_Model_count_L62 F gv_z f) u 670 x (Int32.ofNat c) (Int32.ofNat N) = some (Int32.ofNat c, u)) : gf_Model_count_L62 F gv_z F u 670 x (Int32.ofNat 0) (Int32.ofNat 0) = some (Int32.ofNat (cnt P N), u) := by
  have main := gl_up (σ := Nat) (N := N) (L := fun f c k => gf_Model_count_L62 F gv_z f u 670 x (Int32.ofNat c) (Int32.ofNat k)) (I := fun k c => c = cnt P k) (R := fun r => r = some (Int32.ofNat (cnt P N), u))
    (fun f c k hI hk => ⟨c + (if P k then 1 else 0), by rw [hI]; rfl, hst f c k hk⟩)
    (fun f c hI => by rw [show gf_Model_count_L62 F gv_z (f + 1) u 670 x (Int32.ofNat c) (Int32.ofNat N) = _ from hex f c, hI])
  exact main N 0 0 F (by omega) rfl (by omega)
theorem gs_count {F : Nat} (hF : 2000 ≤ F) {u : gw_St} {n r B : Nat} (hr : gv_Rf u) (hw : gv_Wk u n r) (hl : gv_Dl u n) (hs : gv_Sp u n B) (hT : (if u.1 670 1 = 0 then 0 else u.1 670 7) = u.1 1 9 - u.1 1 10) (x : Int32) : ∃ a u1 u2, gf_Desk_count F gv_z u 0 x = some (a, u1) ∧ gf_Model_count F gv_z u1 670 x = some (a, u2) ∧ gv_off gv_S_thr u u2 := by
  have w1 := hw.1
  have hoff : gv_off gv_S_thr u (gw_wi u 670 0 0) := ⟨fun p q hS => by
    simp only [gv_S_thr, Bool.or_eq_false_iff, Bool.and_eq_false_iff, beq_eq_false_iff_ne, ne_eq] at hS
    refine ⟨?_, rfl⟩
    simp only [gw_wi]
    rw [if_neg (by omega)], rfl⟩
  have rv : gv_Rf (gw_wi u 670 0 0) := hr.eq rfl
  have e0 : (0 : Int32).toInt = 0 := rfl
  have e4 : (4 : Int32).toInt = 4 := rfl
  by_cases c : 0 ≤ x.toInt ∧ x.toInt ≤ 4
  · have M : gf_Model_count F gv_z u 670 x = (if (2 : Int32) ≤ x then (if x = (4 : Int32) then (if u.1 670 1 = 0 then some (0, gw_wi u 670 0 0) else some (u.1 670 7, gw_wi u 670 0 0)) else (gf_Model_count_L62 F gv_z F (gw_wi u 670 0 0) 670 x 0 0)) else (if x = 0 then some (u.1 670 18, gw_wi u 670 0 0) else some (u.1 670 19, gw_wi u 670 0 0))) := by
      show gf_Model_count_b0 F gv_z u 670 x = _
      unfold gf_Model_count_b0
      simp only [gf_nm]
      rw [gs_within, if_pos (by omega)]
      simp only [gf_cl]
      rw [if_neg (by decide)]
      rfl
    rcases (show x = 0 ∨ x = 1 ∨ x = 2 ∨ x = 3 ∨ x = 4 by
      rcases (show x.toInt = 0 ∨ x.toInt = 1 ∨ x.toInt = 2 ∨ x.toInt = 3 ∨ x.toInt = 4 by omega) with h | h | h | h | h
      · left; exact i32_ext h
      · right; left; exact i32_ext h
      · right; right; left; exact i32_ext h
      · right; right; right; left; exact i32_ext h
      · right; right; right; right; exact i32_ext h) with rfl | rfl | rfl | rfl | rfl
    · refine ⟨u.1 6 2, u, gw_wi u 670 0 0, ?_, ?_, hoff⟩
      · show gf_Desk_count_b0 F gv_z u 0 0 = _
        unfold gf_Desk_count_b0
        rw [if_pos rfl, hr.get rfl gv_r0_1]
        rfl
      · rw [M, if_neg (by decide), if_pos rfl, hw.2.2.1, hw.2.2.2.1]
    · refine ⟨u.1 6 3, u, gw_wi u 670 0 0, ?_, ?_, hoff⟩
      · show gf_Desk_count_b0 F gv_z u 0 1 = _
        unfold gf_Desk_count_b0
        rw [if_neg (by decide), if_pos rfl, hr.get rfl gv_r0_1]
        rfl
      · rw [M, if_neg (by decide), if_neg (by decide), hw.2.2.2.2.1, hw.2.2.2.2.2.1]
    · refine ⟨Int32.ofNat (cnt (fun k => decide (u.1 57 k ≠ -1)) 12), u, gw_wi u 670 0 0, ?_, ?_, hoff⟩
      · show gf_Desk_count_b0 F gv_z u 0 2 = _
        unfold gf_Desk_count_b0
        rw [if_neg (by decide), if_neg (by decide), if_pos rfl, gs_dials hF hr]
        rfl
      · rw [M, if_pos (by decide), if_neg (by decide)]
        rw [show gf_Model_count_L62 F gv_z F (gw_wi u 670 0 0) 670 2 0 0 = _ from gs_countL (F := F) hF (u := gw_wi u 670 0 0) (N := 12) (q := 0) (x := 2) (P := fun k => decide (¬ u.1 679 k < 0)) (by omega) (fun f c k hk => by
          unfold gf_Model_count_S62 gf_Model_count_b77 gf_Model_count_b111 gf_Model_count_b107 gf_Model_count_b112
          rw [if_pos rfl, if_neg (fun e : (12 : Int32) ≤ Int32.ofNat k => by have := (gi_le (a := 12) (by omega) (by omega)).mp e; omega), if_pos rfl, rv.get rfl gv_r670_26]
          simp only [gf_nn, gf_nm]
          rw [if_neg (gi_ix (by rw [gv_l679]; omega) (by omega)), i32_clamp (by omega), gw_iS]
          by_cases e : u.1 679 k < 0
          · rw [if_pos (show (gw_wi u 670 0 0).1 679 k < 0 from e), if_neg (by simp [e]), show Int32.ofNat c + 0 = Int32.ofNat (c + 0) from gi_add (b := 0)]
          · rw [if_neg (show ¬ (gw_wi u 670 0 0).1 679 k < 0 from e), if_pos (by simp [e]), show Int32.ofNat c + 1 = Int32.ofNat (c + 1) from gw_iS]) (fun f c => by
          unfold gf_Model_count_S62 gf_Model_count_b77
          rw [if_pos rfl, if_pos (by decide)])]
        congr 3
        exact cnt_congr (fun k hk => by
          have h := hl k hk
          rw [h.1]
          have em : (-1 : Int32).toInt = -1 := rfl
          by_cases e : u.1 57 k = -1
          · rw [e]; decide
          · have h1 : (u.1 57 k).toInt ≠ -1 := fun q => e (i32_ext (by rw [q, em]))
            have h2 : ¬ u.1 57 k < 0 := fun q => by have := i32_lt.mp q; omega
            simp [e, h2])
    · obtain ⟨hB, s1, s2, s3, s4, s5, s6⟩ := hs
      refine ⟨Int32.ofNat (cnt (fun k => decide (u.1 (B + 1) k ≠ 0)) 60), u, gw_wi u 670 0 0, ?_, ?_, hoff⟩
      · show gf_Desk_count_b0 F gv_z u 0 3 = _
        unfold gf_Desk_count_b0
        rw [if_neg (by decide), if_neg (by decide), if_neg (by decide), if_pos rfl, s1]
        simp only [gf_nn]
        rw [gs_howMany hF hr hB]
        rfl
      · rw [M, if_pos (by decide), if_neg (by decide)]
        rw [show gf_Model_count_L62 F gv_z F (gw_wi u 670 0 0) 670 3 0 0 = _ from gs_countL (F := F) hF (u := gw_wi u 670 0 0) (N := n) (q := 0) (x := 3) (P := fun k => decide (u.1 681 k ≠ 0)) (by omega) (fun f c k hk => by
          unfold gf_Model_count_S62 gf_Model_count_b77 gf_Model_count_b111 gf_Model_count_b107 gf_Model_count_b112
          rw [if_neg (by decide), show (gw_wi u 670 0 0).1 670 18 = Int32.ofNat n from hw.2.2.2.1, if_neg (fun e => by have := (gi_le (by omega) (by omega)).mp e; omega), if_neg (by decide), rv.get rfl gv_r670_28]
          simp only [gf_nn, gf_nm]
          rw [if_neg (gi_ix (by rw [gv_l681]; omega) (by omega)), i32_clamp (by omega), gw_iS]
          by_cases e : u.1 681 k = 0
          · rw [if_pos (show (gw_wi u 670 0 0).1 681 k = 0 from e), if_neg (by simp [e]), show Int32.ofNat c + 0 = Int32.ofNat (c + 0) from gi_add (b := 0)]
          · rw [if_neg (show ¬ (gw_wi u 670 0 0).1 681 k = 0 from e), if_pos (by simp [e]), show Int32.ofNat c + 1 = Int32.ofNat (c + 1) from gw_iS]) (fun f c => by
          unfold gf_Model_count_S62 gf_Model_count_b77
          rw [if_neg (by decide), show (gw_wi u 670 0 0).1 670 18 = Int32.ofNat n from hw.2.2.2.1, if_pos ((gi_le (by omega) (by omega)).mpr (Nat.le_refl _))])]
        congr 3
        rw [cnt_cut (m := n) (n := 60) (by omega) (fun k h1 h2 => by rw [s4 k h1 h2]; rfl)]
        exact cnt_congr (fun k hk => by rw [s5 k hk])
    · refine ⟨u.1 1 9 - u.1 1 10, u, gw_wi u 670 0 0, ?_, ?_, hoff⟩
      · show gf_Desk_count_b0 F gv_z u 0 4 = _
        unfold gf_Desk_count_b0
        rw [if_neg (by decide), if_neg (by decide), if_neg (by decide), if_neg (by decide), if_pos rfl, hr.get rfl gv_r0_0]
        rfl
      · rw [M, if_pos (by decide), if_pos rfl, ← hT]
        by_cases e : u.1 670 1 = 0
        · rw [if_pos e, if_pos e]
        · rw [if_neg e, if_neg e]
  · have h := gs_count0 (F := F) (z := gv_z) (u := u) c
    exact ⟨_, _, _, h.1, h.2, hoff⟩
