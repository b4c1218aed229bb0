def Kr (a k : Nat) : Prop := Kt a k ∨ a = 695 ∨ a = 696
theorem Kr_wk : ∀ a k, Kr a k → gv_T_wk a k = false := fun a k h => by
  unfold Kr Kt at h
  unfold gv_T_wk
  rcases h with (h | ⟨h, g⟩) | h | h
  · subst h; rfl
  · subst h; subst g; rfl
  · subst h; rfl
  · subst h; rfl
theorem gm_rankAll {F : Nat} (hF : 2000 ≤ F) {u : gw_St} {p n r cr : Nat} {P Pc : Nat → Nat} (hr : gv_Rf u) (hw : gv_Wk u n r) (hc : u.1 670 20 = Int32.ofNat cr) (hcr : cr < n) (hp : Pm p) (hp1 : 100000 < p) (hp2 : p < 2147483648) (hP : ∀ i, i < r → u.1 695 i = Int32.ofNat (P i) ∧ u.1 696 i = Int32.ofNat (Pc i) ∧ P i < 1000 ∧ Pc i < 1000) : ∃ w, gf_Model_rankAll F gv_z u 670 (Int64.ofNat p) = some w ∧ Gf Ks Kr u w ∧ ∀ i, i < r → ∃ Q Qc, w.1 695 i = Int32.ofNat (max (P i) Q) ∧ w.1 696 i = Int32.ofNat (max (Pc i) Qc) ∧ Q ≤ 60 ∧ Qc ≤ 61 ∧ rkp p (rv u) (i + 1) n Q ∧ rkp p (apX (rv u) (i + 1) (at1 cr 1)) (i + 2) n Qc := by
  have hn := hw.1
  have hr120 := hw.2.1
  have main := gl_up (σ := gw_St) (N := r) (L := fun g w k => gf_Model_rankAll_L7 F gv_z g w 670 (Int64.ofNat p) (Int32.ofNat k)) (I := fun j w => Gf Ks Kr u w ∧ (∃ q W v, Rr w p n q W v ∧ SI p n (rv u) j q W) ∧ (∀ i, i < j → ∃ Q Qc, w.1 695 i = Int32.ofNat (max (P i) Q) ∧ w.1 696 i = Int32.ofNat (max (Pc i) Qc) ∧ Q ≤ 60 ∧ Qc ≤ 61 ∧ rkp p (rv u) (i + 1) n Q ∧ rkp p (apX (rv u) (i + 1) (at1 cr 1)) (i + 2) n Qc) ∧ (∀ i, j ≤ i → i < r → w.1 695 i = Int32.ofNat (P i) ∧ w.1 696 i = Int32.ofNat (Pc i))) (R := fun x => ∃ w, x = some w ∧ Gf Ks Kr u w ∧ ∀ i, i < r → ∃ Q Qc, w.1 695 i = Int32.ofNat (max (P i) Q) ∧ w.1 696 i = Int32.ofNat (max (Pc i) Qc) ∧ Q ≤ 60 ∧ Qc ≤ 61 ∧ rkp p (rv u) (i + 1) n Q ∧ rkp p (apX (rv u) (i + 1) (at1 cr 1)) (i + 2) n Qc)
    (fun f w j hI hj => by
      obtain ⟨g, ⟨q, W, v, hR, hS⟩, h1, h2⟩ := hI
      have hrw := hr.gf g
      have hww := hw.gf g Kr_wk
      have hrv : ∀ j, rv w j = rv u j := fun j => rv_eq (fun k => g.2.2 7 k (by unfold Kr Kt; omega)) (fun k => g.2.2 8 k (by unfold Kr Kt; omega))
      obtain ⟨w1, q1, W1, v1, e1, g1, hR1, hS1⟩ := gm_take (F := F) hF hrw hww hj hp hp1 hp2 hR hS (fun c _ => by rw [hrv]) (fun x => gf_Model_rankAll_b40 F gv_z (gf_Model_rankAll_L7 F gv_z f) x 670 (Int64.ofNat p) (Int32.ofNat j))
      have hj2 := h2 j (Nat.le_refl _) hj
      obtain ⟨w2, Qc, e2, g2, p1, p2, hQc, hk⟩ := gm_rank2 (F := F) hF (u := w1) (rc := gf_Model_rankAll_L7 F gv_z f) (P := P j) (Pc := Pc j) (hrw.gf g1) (by omega) (by rw [g1.2.2 670 20 (by unfold Kt; omega), g.2.2 670 20 (by unfold Kr Kt; omega)]; exact hc) hcr hp hp2 hR1 hS1 (by rw [g1.2.2 695 j (by unfold Kt; omega)]; exact hj2.1) (by rw [g1.2.2 696 j (by unfold Kt; omega)]; exact hj2.2) (hP j hj).2.2.1 (hP j hj).2.2.2
      have g12 : Gf Ks (fun a k => Kt a k ∨ (a = 695 ∨ a = 696) ∧ k = j) w w2 := (g1.mono (fun _ h => h) (fun _ _ h => Or.inl h)).trans (g2.mono (fun a h => Or.inr h) (fun _ _ h => Or.inr h))
      have hR2 : Rr w2 p n q1 W1 v1 := by
        obtain ⟨a1, a2, a3, a4, a5, a6, a7⟩ := hR1
        refine ⟨a1, a2, ?_, ?_, fun i hi => ?_, fun i hi c hc => ?_, a7⟩
        · rw [g2.2.2 670 41 (by omega)]; exact a3
        · rw [g2.2.2 670 18 (by omega)]; exact a4
        · rw [g2.2.2 693 i (by omega)]; exact a5 i hi
        · rw [g2.2.1 692 (by omega)]; exact a6 i hi c hc
      refine ⟨w2, ⟨g.trans (g12.mono (fun _ h => h) (fun a k h => by unfold Kr; rcases h with h | h; exact Or.inl h; exact Or.inr h.1)), ⟨q1, W1, v1, hR2, hS1⟩, fun i hi => ?_, fun i hi hir => ?_⟩, ?_⟩
      · by_cases e : i = j
        · subst e
          exact ⟨q1, Qc, p1, p2, hR1.1, hQc, rk_plain hp hR1 hS1, hk⟩
        · rw [g12.2.2 695 i (by unfold Kt; omega), g12.2.2 696 i (by unfold Kt; omega)]
          exact h1 i (by omega)
      · rw [g12.2.2 695 i (by unfold Kt; omega), g12.2.2 696 i (by unfold Kt; omega)]
        exact h2 i (by omega) hir
      · show gf_Model_rankAll_S7 F gv_z _ w 670 (Int64.ofNat p) (Int32.ofNat j) = _
        unfold gf_Model_rankAll_S7
        rw [hww.2.2.2.2.2.1, if_neg (fun e => by have := (gi_le (by omega) (by omega)).mp e; omega), e1, e2])
    (fun f w hI => by
      obtain ⟨g, -, h1, -⟩ := hI
      have hww := hw.gf g Kr_wk
      refine ⟨w, ?_, g, h1⟩
      show gf_Model_rankAll_S7 F gv_z _ w 670 (Int64.ofNat p) (Int32.ofNat r) = _
      unfold gf_Model_rankAll_S7
      rw [hww.2.2.2.2.2.1, if_pos ((gi_le (by omega) (by omega)).mpr (Nat.le_refl _))])
  have g0 : Gf Ks Kr u (gw_wi u 670 41 0) := Gf.wi (Or.inl (Or.inr ⟨rfl, rfl⟩))
  have := main r 0 (gw_wi u 670 41 0) F (by omega) ⟨g0, ⟨0, fun _ _ => 0, fun _ => 0, ⟨by omega, hn, wi_same, by rw [wi_ne (by omega)]; exact hw.2.2.2.1, fun i hi => absurd hi (Nat.not_lt_zero i), fun i hi => absurd hi (Nat.not_lt_zero i), fun i j hi => absurd hi (Nat.not_lt_zero i)⟩, fun i hi => absurd hi (Nat.not_lt_zero i), fun i hi => absurd hi (Nat.not_lt_zero i)⟩, fun i hi => absurd hi (Nat.not_lt_zero i), fun i _ hi => by
    rw [wi_ne (by omega), wi_ne (by omega)]
    exact ⟨(hP i hi).1, (hP i hi).2.1⟩⟩ (by omega)
  exact this
