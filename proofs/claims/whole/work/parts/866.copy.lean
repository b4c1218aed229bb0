/-- one gear's speed taken over -/
theorem gm_cp1 {F : Nat} (hF : 2000 ≤ F) {u : gw_St} {g : Nat} {rc : gw_St → Nat → Int32 → Option (Int32 × gw_St)} (hr : gv_Rf u) (hg : g < 60) : ∃ w, gf_Model_solve_L138 F gv_z rc F u 670 (Int32.ofNat g) 0 = rc w 670 (Int32.ofNat (g + 1)) ∧ Gf (fun _ => False) (fun a k => (a = 683 ∨ a = 684) ∧ 16 * g ≤ k ∧ k < 16 * g + 16) u w ∧ ∀ k, k < 16 → w.1 683 (16 * g + k) = u.1 687 (16 * g + k) ∧ w.1 684 (16 * g + k) = u.1 688 (16 * g + k) := by
  have main := gl_up (σ := gw_St) (N := 16) (L := fun f w k => gf_Model_solve_L138 F gv_z rc f w 670 (Int32.ofNat g) (Int32.ofNat k)) (I := fun j w => Gf (fun _ => False) (fun a k => (a = 683 ∨ a = 684) ∧ 16 * g ≤ k ∧ k < 16 * g + 16) u w ∧ ∀ k, k < j → w.1 683 (16 * g + k) = u.1 687 (16 * g + k) ∧ w.1 684 (16 * g + k) = u.1 688 (16 * g + k)) (R := fun y => ∃ w, y = rc w 670 (Int32.ofNat (g + 1)) ∧ Gf (fun _ => False) (fun a k => (a = 683 ∨ a = 684) ∧ 16 * g ≤ k ∧ k < 16 * g + 16) u w ∧ ∀ k, k < 16 → w.1 683 (16 * g + k) = u.1 687 (16 * g + k) ∧ w.1 684 (16 * g + k) = u.1 688 (16 * g + k))
    (fun f w j hI hj => by
      obtain ⟨b1, b2⟩ := hI
      have hrw := hr.gf b1
      have h7 : w.1 687 (16 * g + j) = u.1 687 (16 * g + j) := b1.2.2 _ _ (by omega)
      have h8 : w.1 688 (16 * g + j) = u.1 688 (16 * g + j) := b1.2.2 _ _ (by omega)
      have g1 : Gf (fun _ => False) (fun a k => (a = 683 ∨ a = 684) ∧ 16 * g ≤ k ∧ k < 16 * g + 16) w (gw_wi w 683 (16 * g + j) (u.1 687 (16 * g + j))) := Gf.wi (by omega)
      have g2 : Gf (fun _ => False) (fun a k => (a = 683 ∨ a = 684) ∧ 16 * g ≤ k ∧ k < 16 * g + 16) (gw_wi w 683 (16 * g + j) (u.1 687 (16 * g + j))) (gw_wi (gw_wi w 683 (16 * g + j) (u.1 687 (16 * g + j))) 684 (16 * g + j) (u.1 688 (16 * g + j))) := Gf.wi (by omega)
      have r1 := hrw.gf g1
      refine ⟨_, ⟨b1.trans (g1.trans g2), fun k hk => ?_⟩, ?_⟩
      · by_cases e : k = j
        · subst e
          exact ⟨by rw [wi_ne (by omega), wi_same], wi_same⟩
        · rw [wi_ne (by omega), wi_ne (by omega), wi_ne (by omega), wi_ne (by omega)]
          exact b2 k (by omega)
      · show gf_Model_solve_S138 F gv_z rc _ w 670 (Int32.ofNat g) (Int32.ofNat j) = _
        unfold gf_Model_solve_S138
        rw [if_neg (show ¬ (16 : Int32) ≤ Int32.ofNat j from fun e => by have := (gi_le (a := 16) (by omega) (by omega)).mp e; omega), hrw.get rfl gv_r670_30, gnn, hrw.get rfl gv_r670_34, gnn, gi16, if_neg (gi_ix (by rw [gv_l687]; omega) (by omega)), if_neg (gi_ix (by rw [gv_l683]; omega) (by omega)), i32_clamp (by omega), h7]
        simp only [gf_nm]
        rw [r1.get rfl gv_r670_31, gnn, r1.get rfl gv_r670_35, gnn, if_neg (gi_ic (by rw [gv_l688]; omega) (by omega)), if_neg (gi_ic (by rw [gv_l684]; omega) (by omega)), wi_ne (show ¬ (688 = 683 ∧ 16 * g + j = 16 * g + j) by omega), h8, gw_iS])
    (fun f w hI => by
      obtain ⟨b1, b2⟩ := hI
      refine ⟨w, ?_, b1, b2⟩
      show gf_Model_solve_S138 F gv_z rc _ w 670 (Int32.ofNat g) (Int32.ofNat 16) = _
      unfold gf_Model_solve_S138
      rw [if_pos (show (16 : Int32) ≤ Int32.ofNat 16 by decide)]
      simp only [gf_nm]
      rw [gw_iS])
  exact main 16 0 u F (by omega) ⟨Gf.refl, fun k hk => absurd hk (Nat.not_lt_zero k)⟩ (by omega)
/-- the speed of gear g stands -/
def Vt (w : gw_St) (hd : Nat → Bool) (X Y : Nat → Int) (g : Nat) : Prop := (hd g = true → w.1 681 g = 1 ∧ w.1 682 g = sgn (X g) ∧ Iw w 683 g (X g).natAbs ∧ Iw w 684 g (Y g).natAbs) ∧ (hd g = false → w.1 681 g = 0)
def Ko (a _k : Nat) : Prop := 681 ≤ a ∧ a ≤ 684
theorem gm_cp {F : Nat} (hF : 2000 ≤ F) {u : gw_St} {n : Nat} {hd : Nat → Bool} {X Y : Nat → Int} (hr : gv_Rf u) (hn : n ≤ 60) (h18 : u.1 670 18 = Int32.ofNat n) (hV : ∀ g, g < n → Vl u hd X Y g) : ∃ w, gf_Model_solve_L104 F gv_z F u 670 0 = some (-1, w) ∧ Gf (fun _ => False) Ko u w ∧ ∀ g, g < n → Vt w hd X Y g := by
  have main := gl_up (σ := gw_St) (N := n) (L := fun f w k => gf_Model_solve_L104 F gv_z f w 670 (Int32.ofNat k)) (I := fun j w => Gf (fun _ => False) Ko u w ∧ ∀ g, g < j → Vt w hd X Y g) (R := fun y => ∃ w, y = some (-1, w) ∧ Gf (fun _ => False) Ko u w ∧ ∀ g, g < n → Vt w hd X Y g)
    (fun f w j hI hj => by
      obtain ⟨b1, b2⟩ := hI
      have hrw := hr.gf b1
      let w1 := gw_wi w 681 j (w.1 685 j)
      let w2 := gw_wi w1 682 j (w.1 686 j)
      have g1 : Gf (fun _ => False) Ko w w1 := Gf.wi ⟨by omega, by omega⟩
      have g2 : Gf (fun _ => False) Ko w1 w2 := Gf.wi ⟨by omega, by omega⟩
      have r1 := hrw.gf g1
      have r2 := r1.gf g2
      obtain ⟨w3, e3, g3, v3⟩ := gm_cp1 (F := F) hF (u := w2) (g := j) (rc := gf_Model_solve_L104 F gv_z f) r2 (by omega)
      have g3' : Gf (fun _ => False) Ko w2 w3 := g3.mono (fun _ h => h) (fun a k h => by unfold Ko; omega)
      have hVj := hV j hj
      have h5 : w.1 685 j = u.1 685 j := b1.2.2 _ _ (by unfold Ko; omega)
      have h6 : w.1 686 j = u.1 686 j := b1.2.2 _ _ (by unfold Ko; omega)
      have hb : vp_nar .boolean (w.1 685 j) = w.1 685 j := by
        rw [h5]
        cases hh : hd j with
        | true => rw [(hVj.1 hh).1]; rfl
        | false => rw [hVj.2 hh]; rfl
      have hw2 : ∀ p k, 685 ≤ p → w2.1 p k = u.1 p k := fun p k hp => by
        rw [wi_ne (by omega), wi_ne (by omega)]
        exact b1.2.2 _ _ (by unfold Ko; omega)
      refine ⟨w3, ⟨b1.trans (g1.trans (g2.trans g3')), fun g hg => ?_⟩, ?_⟩
      · by_cases e : g = j
        · subst e
          have c1 : w3.1 681 g = u.1 685 g := by
            rw [g3.2.2 681 g (by omega), wi_ne (by omega), wi_same, h5]
          have c2 : w3.1 682 g = u.1 686 g := by
            rw [g3.2.2 682 g (by omega), wi_same, h6]
          refine ⟨fun q => ?_, fun q => by rw [c1]; exact hVj.2 q⟩
          obtain ⟨a1, a2, a3, a4⟩ := hVj.1 q
          refine ⟨by rw [c1]; exact a1, by rw [c2]; exact a2, ?_, ?_⟩
          · have c3 : ∀ k, k < 16 → w3.1 683 (16 * g + k) = u.1 687 (16 * g + k) := fun k hk => by
              rw [(v3 k hk).1]; exact hw2 _ _ (by omega)
            refine ⟨fun k hk => by rw [c3 k hk]; exact a3.1 k hk, ?_⟩
            rw [← a3.2]
            exact bv_congr (fun k hk => by rw [c3 k hk])
          · have c3 : ∀ k, k < 16 → w3.1 684 (16 * g + k) = u.1 688 (16 * g + k) := fun k hk => by
              rw [(v3 k hk).2]; exact hw2 _ _ (by omega)
            refine ⟨fun k hk => by rw [c3 k hk]; exact a4.1 k hk, ?_⟩
            rw [← a4.2]
            exact bv_congr (fun k hk => by rw [c3 k hk])
        · have c1 : w3.1 681 g = w.1 681 g := by rw [g3.2.2 681 g (by omega), wi_ne (by omega), wi_ne (by omega)]
          have c2 : w3.1 682 g = w.1 682 g := by rw [g3.2.2 682 g (by omega), wi_ne (by omega), wi_ne (by omega)]
          have hold := b2 g (by omega)
          refine ⟨fun q => ?_, fun q => by rw [c1]; exact hold.2 q⟩
          obtain ⟨a1, a2, a3, a4⟩ := hold.1 q
          refine ⟨by rw [c1]; exact a1, by rw [c2]; exact a2, a3.at (fun k hk => ?_), a4.at (fun k hk => ?_)⟩
          · rw [g3.2.2 _ _ (by omega), wi_ne (by omega), wi_ne (by omega)]
          · rw [g3.2.2 _ _ (by omega), wi_ne (by omega), wi_ne (by omega)]
      · show gf_Model_solve_S104 F gv_z _ w 670 (Int32.ofNat j) = _
        unfold gf_Model_solve_S104
        rw [show w.1 670 18 = Int32.ofNat n from by rw [b1.2.2 670 18 (by unfold Ko; omega)]; exact h18, if_neg (fun e => by have := (gi_le (by omega) (by omega)).mp e; omega), hrw.get rfl gv_r670_28, gnn, hrw.get rfl gv_r670_32, gnn, if_neg (gi_ix (by rw [gv_l685]; omega) (by omega)), if_neg (gi_ix (by rw [gv_l681]; omega) (by omega)), i32_clamp (by omega), hb]
        simp only [gf_nm]
        rw [r1.get rfl gv_r670_29, gnn, r1.get rfl gv_r670_33, gnn, if_neg (gi_ic (by rw [gv_l686]; omega) (by omega)), if_neg (gi_ic (by rw [gv_l682]; omega) (by omega)), wi_ne (show ¬ (686 = 681 ∧ j = j) by omega)]
        exact e3)
    (fun f w hI => by
      obtain ⟨b1, b2⟩ := hI
      refine ⟨w, ?_, b1, b2⟩
      show gf_Model_solve_S104 F gv_z _ w 670 (Int32.ofNat n) = _
      unfold gf_Model_solve_S104
      rw [show w.1 670 18 = Int32.ofNat n from by rw [b1.2.2 670 18 (by unfold Ko; omega)]; exact h18, if_pos ((gi_le (by omega) (by omega)).mpr (Nat.le_refl _))])
  exact main n 0 u F (by omega) ⟨Gf.refl, fun g hg => absurd hg (Nat.not_lt_zero g)⟩ (by omega)
