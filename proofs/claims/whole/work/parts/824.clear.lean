/-- a row is filled, nothing else is changed -/
def Rw (q N : Nat) (x : Int32) (u w : gw_St) : Prop := w.2 = u.2 ∧ (∀ a k, ¬ (a = q ∧ k < N) → w.1 a k = u.1 a k) ∧ ∀ k, k < N → w.1 q k = x
theorem Rw.step {q N k : Nat} {x : Int32} {u w : gw_St} (h : Rw q k x u w) (hk : k < N) : Rw q (k + 1) x u (gw_wi w q k x) := ⟨h.1, fun a j hj => by
    simp only [gw_wi]
    rw [if_neg (by omega)]
    exact h.2.1 a j (by omega), fun j hj => by
    simp only [gw_wi, true_and]
    by_cases e : j = k
    · rw [if_pos e]
    · rw [if_neg e]
      exact h.2.2 j (by omega)⟩
theorem gs_forget {F : Nat} (hF : 2000 ≤ F) {u : gw_St} {B : Nat} (hr : gv_Rf u) (hB : B = 64 ∨ B = 367) : ∃ w, gf_Speeds_forget F gv_z u B = some w ∧ Rw (B + 1) 60 0 u w := by
  obtain ⟨k1, k2, k3, k4⟩ := gv_spK hr hB
  have main := gl_up (σ := gw_St) (N := 60) (L := fun f w k => gf_Speeds_forget_L2 F gv_z f w B (Int32.ofNat k)) (I := fun k w => Rw (B + 1) k 0 u w) (R := fun r => ∃ w, r = some w ∧ Rw (B + 1) 60 0 u w)
    (fun f w k hI hk => by
      refine ⟨gw_wi w (B + 1) k 0, hI.step (N := 60) hk, ?_⟩
      show gf_Speeds_forget_S2 F gv_z _ w B (Int32.ofNat k) = _
      unfold gf_Speeds_forget_S2
      rw [if_neg (fun e : (60 : Int32) ≤ Int32.ofNat k => by have := (gi_le (a := 60) (by omega) (by omega)).mp e; omega), show w.2.2 B 0 = B + 1 + 1 from by rw [hI.1]; exact k1]
      simp only [gf_nn, gf_nm]
      rw [if_neg (gi_ix (by rw [k3]; omega) (by omega)), i32_clamp (by omega), gw_iS]
      rfl)
    (fun f w hI => ⟨w, by
      show gf_Speeds_forget_S2 F gv_z _ w B (Int32.ofNat 60) = _
      unfold gf_Speeds_forget_S2
      rw [if_pos (by decide)], hI⟩)
  exact main 60 0 u F (by omega) ⟨rfl, fun _ _ _ => rfl, fun k hk => absurd hk (Nat.not_lt_zero k)⟩ (by omega)
theorem gs_fill57 {F : Nat} (hF : 2000 ≤ F) {u : gw_St} : ∃ w, gf_Arrays_fill1 F gv_z u 57 (-1) = some w ∧ Rw 57 12 (-1) u w := by
  have main := gl_up (σ := gw_St) (N := 12) (L := fun f w k => gf_Arrays_fill1_L5 F gv_z f w 57 (-1) (Int32.ofNat k) (Int32.ofNat 12)) (I := fun k w => Rw 57 k (-1) u w) (R := fun r => ∃ w, r = some w ∧ Rw 57 12 (-1) u w)
    (fun f w k hI hk => by
      refine ⟨gw_wi w 57 k (-1), hI.step (N := 12) hk, ?_⟩
      show gf_Arrays_fill1_S5 F gv_z _ w 57 (-1) (Int32.ofNat k) (Int32.ofNat 12) = _
      unfold gf_Arrays_fill1_S5
      rw [if_neg (fun e => by have := (gi_le (by omega) (by omega)).mp e; omega), if_neg (gi_ix (by rw [gv_l57]; omega) (by omega)), i32_clamp (by omega)]
      simp only [gf_nm]
      rw [gw_iS])
    (fun f w hI => ⟨w, by
      show gf_Arrays_fill1_S5 F gv_z _ w 57 (-1) (Int32.ofNat 12) (Int32.ofNat 12) = _
      unfold gf_Arrays_fill1_S5
      rw [if_pos (by decide)], hI⟩)
  obtain ⟨w, a1, a2⟩ := main 12 0 u F (by omega) ⟨rfl, fun _ _ _ => rfl, fun k hk => absurd hk (Nat.not_lt_zero k)⟩ (by omega)
  refine ⟨w, ?_, a2⟩
  rw [← a1]
  show gf_Arrays_fill1_b0 F gv_z u 57 (-1) = _
  unfold gf_Arrays_fill1_b0
  rw [gv_l57]
  rfl
theorem gs_clearM {F : Nat} (hF : 2000 ≤ F) {u : gw_St} (hr : gv_Rf u) : ∃ w, gf_Model_clear F gv_z u 670 = some (u.1 670 18, w) ∧ w.2 = u.2 ∧ w.1 670 18 = 0 ∧ w.1 670 19 = 0 ∧ w.1 670 20 = -1 ∧ (∀ k, k < 12 → w.1 679 k = -1) ∧ (∀ k, k < 60 → w.1 681 k = 0) ∧ (∀ a k, ¬ (a = 679 ∧ k < 12) → ¬ (a = 681 ∧ k < 60) → ¬ (a = 670 ∧ (k = 0 ∨ k = 18 ∨ k = 19 ∨ k = 20)) → w.1 a k = u.1 a k) := by
  obtain ⟨v, hv⟩ : ∃ v, v = gw_wi (gw_wi (gw_wi (gw_wi u 670 0 0) 670 18 0) 670 19 0) 670 20 (-1) := ⟨_, rfl⟩
  have hrv : gv_Rf v := by rw [hv]; exact hr.eq rfl
  have two : ∀ (w0 : gw_St), w0.2 = v.2 → ∃ w, gf_Model_clear_L48 F gv_z F w0 670 (u.1 670 18) (Int32.ofNat 0) = some (u.1 670 18, w) ∧ Rw 681 60 0 w0 w := by
    intro w0 h0
    have main := gl_up (σ := gw_St) (N := 60) (L := fun f w k => gf_Model_clear_L48 F gv_z f w 670 (u.1 670 18) (Int32.ofNat k)) (I := fun k w => Rw 681 k 0 w0 w) (R := fun r => ∃ w, r = some (u.1 670 18, w) ∧ Rw 681 60 0 w0 w)
      (fun f w k hI hk => by
        have hrw : gv_Rf w := hrv.eq (by rw [hI.1, h0])
        refine ⟨gw_wi w 681 k 0, hI.step (N := 60) hk, ?_⟩
        show gf_Model_clear_S48 F gv_z _ w 670 (u.1 670 18) (Int32.ofNat k) = _
        unfold gf_Model_clear_S48
        rw [if_neg (fun e : (60 : Int32) ≤ Int32.ofNat k => by have := (gi_le (a := 60) (by omega) (by omega)).mp e; omega), hrw.get rfl gv_r670_28]
        simp only [gf_nn, gf_nm]
        rw [if_neg (gi_ix (by rw [gv_l681]; omega) (by omega)), i32_clamp (by omega), gw_iS]
        rfl)
      (fun f w hI => ⟨w, by
        show gf_Model_clear_S48 F gv_z _ w 670 (u.1 670 18) (Int32.ofNat 60) = _
        unfold gf_Model_clear_S48
        rw [if_pos (by decide)], hI⟩)
    exact main 60 0 w0 F (by omega) ⟨rfl, fun _ _ _ => rfl, fun k hk => absurd hk (Nat.not_lt_zero k)⟩ (by omega)
  have main := gl_up (σ := gw_St) (N := 12) (L := fun f w k => gf_Model_clear_L27 F gv_z f w 670 (u.1 670 18) (Int32.ofNat k)) (I := fun k w => Rw 679 k (-1) v w) (R := fun r => ∃ w0 w, r = some (u.1 670 18, w) ∧ Rw 679 12 (-1) v w0 ∧ Rw 681 60 0 w0 w)
    (fun f w k hI hk => by
      have hrw : gv_Rf w := hrv.eq (by rw [hI.1])
      refine ⟨gw_wi w 679 k (-1), hI.step (N := 12) hk, ?_⟩
      show gf_Model_clear_S27 F gv_z _ w 670 (u.1 670 18) (Int32.ofNat k) = _
      unfold gf_Model_clear_S27
      rw [if_neg (fun e : (12 : Int32) ≤ Int32.ofNat k => by have := (gi_le (a := 12) (by omega) (by omega)).mp e; omega), hrw.get rfl gv_r670_26]
      simp only [gf_nn, gf_nm]
      rw [if_neg (gi_ix (by rw [gv_l679]; omega) (by omega)), i32_clamp (by omega), gw_iS])
    (fun f w hI => by
      obtain ⟨w', a1, a2⟩ := two w hI.1
      refine ⟨w, w', ?_, hI, a2⟩
      rw [← a1]
      show gf_Model_clear_S27 F gv_z _ w 670 (u.1 670 18) (Int32.ofNat 12) = _
      unfold gf_Model_clear_S27
      rw [if_pos (by decide)]
      rfl)
  obtain ⟨w0, w, a1, a2, a3⟩ := main 12 0 v F (by omega) ⟨rfl, fun _ _ _ => rfl, fun k hk => absurd hk (Nat.not_lt_zero k)⟩ (by omega)
  have e : ∀ a k, ¬ (a = 679 ∧ k < 12) → ¬ (a = 681 ∧ k < 60) → w.1 a k = v.1 a k := fun a k h1 h2 => (a3.2.1 a k h2).trans (a2.2.1 a k h1)
  refine ⟨w, ?_, ?_, ?_, ?_, ?_, fun k hk => (a3.2.1 679 k (by omega)).trans (a2.2.2 k hk), a3.2.2, fun a k h1 h2 h3 => ?_⟩
  · rw [← a1, hv]
    rfl
  · rw [a3.1, a2.1, hv]; rfl
  · rw [e 670 18 (by omega) (by omega), hv]; rfl
  · rw [e 670 19 (by omega) (by omega), hv]; rfl
  · rw [e 670 20 (by omega) (by omega), hv]; rfl
  · rw [e a k h1 h2, hv]
    simp only [gw_wi]
    rw [if_neg (by omega), if_neg (by omega), if_neg (by omega), if_neg (by omega)]
/-- clear, on both sides -/
theorem gs_clear {F : Nat} (hF : 2000 ≤ F) {u : gw_St} {n r B : Nat} (hr : gv_Rf u) (hw : gv_Wk u n r) (hl : gv_Dl u n) (hs : gv_Sp u n B) : ∃ a u1 u2, gf_Desk_clear F gv_z u 0 = some (a, u1) ∧ gf_Model_clear F gv_z u1 670 = some (a, u2) ∧ gv_Wk u2 0 0 ∧ gv_Dl u2 0 ∧ gv_Sp u2 0 B ∧ u2.2 = u.2 ∧ (∀ a k, a ≠ 57 → a ≠ 679 → a ≠ 681 → a ≠ B + 1 → ¬ (a = 6 ∧ 2 ≤ k ∧ k ≤ 4) → ¬ (a = 670 ∧ (k = 0 ∨ k = 18 ∨ k = 19 ∨ k = 20)) → u2.1 a k = u.1 a k) := by
  obtain ⟨hB, s1, s2, s3, s4, s5, s6⟩ := hs
  obtain ⟨v, hv⟩ : ∃ v, v = gw_wi (gw_wi (gw_wi u 6 2 0) 6 3 0) 6 4 (-1) := ⟨_, rfl⟩
  have rv : gv_Rf v := by rw [hv]; exact hr.eq rfl
  obtain ⟨w1, a1, a2⟩ := gs_forget (F := F) hF (u := v) rv hB
  have r1 : gv_Rf w1 := rv.eq (by rw [a2.1])
  obtain ⟨w2, b1, b2⟩ := gs_fill57 (F := F) hF (u := w1)
  have r2 : gv_Rf w2 := r1.eq (by rw [b2.1])
  obtain ⟨w3, c1, c2, c3, c4, c5, c6, c7, c8⟩ := gs_clearM (F := F) hF (u := w2) r2
  have e2 : ∀ a k, a ≠ 57 → a ≠ B + 1 → w2.1 a k = v.1 a k := fun a k h1 h2 => (b2.2.1 a k (by omega)).trans (a2.2.1 a k (by omega))
  have ev : ∀ a k, ¬ (a = 6 ∧ 2 ≤ k ∧ k ≤ 4) → v.1 a k = u.1 a k := fun a k h => by
    rw [hv]
    simp only [gw_wi]
    rw [if_neg (by omega), if_neg (by omega), if_neg (by omega)]
  have en : w2.1 670 18 = u.1 6 2 := by
    rw [e2 670 18 (by omega) (by omega), ev 670 18 (by omega), hw.2.2.2.1, hw.2.2.1]
  have e3 : ∀ a k, a ≠ 57 → a ≠ 679 → a ≠ 681 → a ≠ B + 1 → ¬ (a = 6 ∧ 2 ≤ k ∧ k ≤ 4) → ¬ (a = 670 ∧ (k = 0 ∨ k = 18 ∨ k = 19 ∨ k = 20)) → w3.1 a k = u.1 a k := fun a k h1 h2 h3 h4 h5 h6 => by
    rw [c8 a k (by omega) (by omega) h6, e2 a k h1 h4, ev a k h5]
  have e6 : ∀ k, 2 ≤ k → k ≤ 4 → w3.1 6 k = if k = 4 then -1 else 0 := fun k h1 h2 => by
    rw [c8 6 k (by omega) (by omega) (by omega), e2 6 k (by omega) (by omega), hv]
    simp only [gw_wi, true_and]
    by_cases q : k = 4
    · rw [if_pos q, if_pos q]
    · rw [if_neg q, if_neg q]
      by_cases q3 : k = 3
      · rw [if_pos q3]
      · rw [if_neg q3, if_pos (by omega)]
  have e57 : ∀ k, k < 12 → w3.1 57 k = -1 := fun k hk => by rw [c8 57 k (by omega) (by omega) (by omega)]; exact b2.2.2 k hk
  have eB : ∀ k, k < 60 → w3.1 (B + 1) k = 0 := fun k hk => by rw [c8 (B + 1) k (by omega) (by omega) (by omega), b2.2.1 (B + 1) k (by omega)]; exact a2.2.2 k hk
  have eall : w3.2 = u.2 := by rw [c2, b2.1, a2.1, hv]; rfl
  refine ⟨u.1 6 2, w2, w3, ?_, by rw [c1, en], ⟨by omega, by omega, ?_, c3, ?_, c4, fun g hg => absurd hg (Nat.not_lt_zero g), fun j hj => absurd hj (Nat.not_lt_zero j), ?_, ?_, ?_⟩, ?_, ⟨hB, ?_, ?_, fun g hg => Or.inl (eB g hg), fun g _ hg => eB g hg, fun g hg => absurd hg (Nat.not_lt_zero g), fun g hg => absurd hg (Nat.not_lt_zero g)⟩, eall, e3⟩
  · show gf_Desk_clear_b0 F gv_z u 0 = _
    unfold gf_Desk_clear_b0
    rw [hr.get rfl gv_r0_1]
    simp only [gf_nn, gf_nm]
    have he : gf_Works_empty F gv_z u 6 = some v := by rw [hv]; rfl
    rw [he]
    show gf_nn (v.2.2 0 7) _ = _
    rw [show v.2.2 0 7 = B + 1 from by rw [hv]; exact s1]
    simp only [gf_nn]
    rw [a1]
    show gf_nn (w1.2.2 0 4) _ = _
    rw [r1.get rfl gv_r0_4]
    simp only [gf_nn]
    rw [b1]
    rfl
  · rw [e6 2 (by omega) (by omega)]; rfl
  · rw [e6 3 (by omega) (by omega)]; rfl
  · rw [c5, e6 4 (by omega) (by omega)]; rfl
  · rw [e6 4 (by omega) (by omega)]; decide
  · rw [e6 4 (by omega) (by omega)]; decide
  · intro d hd
    have hne : (-1 : Int32).toInt = -1 := rfl
    have h58 : w3.1 58 d = u.1 58 d := e3 58 d (by omega) (by omega) (by omega) (by omega) (by omega) (by omega)
    have h680 : w3.1 680 d = u.1 680 d := e3 680 d (by omega) (by omega) (by omega) (by omega) (by omega) (by omega)
    rw [e57 d hd, c6 d hd, h58, h680]
    exact ⟨rfl, (hl d hd).2.1, by rw [hne]; omega, by rw [hne]; omega, fun q => absurd hne q⟩
  · rw [eall]; exact s1
  · rw [eall]; exact s2
