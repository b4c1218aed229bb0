/-- relation i leaves the crank free, the relations before it included -/
def Cl (u : gw_St) (n cr i : Nat) : Prop := ∃ k D E, Rk (rv u) (i + 1) n k D ∧ D.natAbs < 2 ^ 660 ∧ Rk (apX (rv u) (i + 1) (at1 cr 1)) (i + 2) n (k + 1) E ∧ E.natAbs < 2 ^ 660
/-- it stops the crank -/
def Ch (u : gw_St) (n cr i : Nat) : Prop := ∃ k D E, Rk (rv u) (i + 1) n k D ∧ D.natAbs < 2 ^ 660 ∧ Rk (apX (rv u) (i + 1) (at1 cr 1)) (i + 2) n k E ∧ E.natAbs < 2 ^ 660
theorem rkT_use {R : Nat → Nat → Int} {m n q k : Nat} {D : Int} (h : rkT 70 R m n q) (hk : Rk R m n k D) (hD : D.natAbs < 2 ^ 660) : q = k := by
  obtain ⟨s, C, hQ⟩ := id hk
  obtain ⟨t, ht, hnd, -⟩ := dvs_two hQ.1 hD hQ.1 hD
  exact (h k D hk).2 ⟨t, ht, hnd⟩
def lowR (u : gw_St) (l : Nat) : Nat := if gk u l = 3 ∧ gC u l < min (gA u l) (gB u l) then gC u l else min (gA u l) (gB u l)
def Kz (a k : Nat) : Prop := Ky a k ∨ Kr a k ∨ Ko a k ∨ a = 670 ∧ k = 0
theorem thr_wk : ∀ a k, (a = 670 ∧ k = 0) → gv_T_wk a k = false := fun a k h => by
  obtain ⟨rfl, rfl⟩ := h
  rfl
theorem gm_solve0 {F : Nat} {u : gw_St} (h : (u.1 670 20).toInt < 0) : gf_Model_solve F gv_z u 670 = some (0, gw_wi (gw_wi u 670 0 0) 670 0 1) := by
  show gf_Model_solve_b0 F gv_z u 670 = _
  unfold gf_Model_solve_b0
  simp only [gf_nm]
  rw [wi_ne (show ¬ (670 = 670 ∧ 20 = 0) by omega), if_neg (fun e => by have := i32_le.mp e; have h0 : (0 : Int32).toInt = 0 := rfl; omega)]
  rfl
theorem gm_solve {F : Nat} (hF : 20000 ≤ F) {u : gw_St} {n r cr : Nat} (hr : gv_Rf u) (hw : gv_Wk u n r) (hpr : gv_Pr u) (hc : u.1 670 20 = Int32.ofNat cr) (hcr : cr < n) : ∀ l, l < r → (∀ i, i < l → Cl u n cr i) → Ch u n cr l → ∃ w, gf_Model_solve F gv_z u 670 = some (Int32.ofNat (lowR u l), w) ∧ Gf Kx Kz u w ∧ w.1 670 0 = 0 ∧ ∀ p k, 681 ≤ p → p ≤ 684 → w.1 p k = u.1 p k := by
  intro l hl hC hH
  have hn := hw.1
  have hr120 := hw.2.1
  let u1 := gw_wi u 670 0 0
  have g1 : Gf Ks (fun a k => a = 670 ∧ k = 0) u u1 := Gf.wi ⟨rfl, rfl⟩
  have hr1 := hr.gf g1
  have hw1 := hw.gf g1 thr_wk
  have hrv : rv u1 = rv u := funext fun j => rv_eq (fun k => g1.2.2 7 k (by omega)) (fun k => g1.2.2 8 k (by omega))
  obtain ⟨w, P, Pc, g2, h2, d⟩ := gm_clashing (F := F) (by omega) hr1 hw1 (hpr.gf g1 (fun k => by omega)) (by rw [g1.2.2 670 20 (by omega)]; exact hc) hcr
  rw [hrv] at h2
  have hne : ∀ i, i < l → P i ≠ Pc i := fun i hi => by
    obtain ⟨k, D, E, a1, a2, a3, a4⟩ := hC i hi
    obtain ⟨-, -, -, -, b5, b6⟩ := h2 i (by omega)
    have := rkT_use b5 a1 a2
    have := rkT_use b6 a3 a4
    omega
  have heq : P l = Pc l := by
    obtain ⟨k, D, E, a1, a2, a3, a4⟩ := hH
    obtain ⟨-, -, -, -, b5, b6⟩ := h2 l hl
    have := rkT_use b5 a1 a2
    have := rkT_use b6 a3 a4
    omega
  have hcl : gf_Model_clashing F gv_z u1 670 = some (Int32.ofNat l, w) := by
    rcases d with ⟨m, m1, m2, m3, m4⟩ | ⟨m1, -⟩
    · have : m = l := by
        rcases Nat.lt_trichotomy m l with h | h | h
        · exact absurd m2 (hne m h)
        · exact h
        · exact absurd heq (m3 l h)
      rw [← this]; exact m4
    · exact absurd heq (m1 l hl)
  have g12 : Gf Kx Kz u w := (g1.mono (fun _ h => Or.inl (Or.inl h)) (fun _ _ h => Or.inr (Or.inr (Or.inr h)))).trans (g2.mono (fun _ h => Or.inl (Or.inl h)) (fun _ _ h => Or.inr (Or.inl h)))
  refine ⟨w, ?_, g12, ?_, fun p k h1 h2 => by rw [g2.2.2 p k (by unfold Kr Kt; omega), g1.2.2 p k (by omega)]⟩
  · obtain ⟨⟨k1, -, k3⟩, ⟨a1, -, a3⟩, ⟨b1, -, b3⟩, hab, h3⟩ := wk_rel hw hl
    have hrw := hr.gf g12
    have hk : ∀ p, 675 ≤ p → p ≤ 678 → w.1 p l = u.1 p l := fun p h1 h2 => g12.2.2 p l (by unfold Kz Ky Kw Kt Km Kr Ko Kt; omega)
    show gf_Model_solve_b0 F gv_z u 670 = _
    unfold gf_Model_solve_b0
    simp only [gf_nm]
    rw [wi_ne (show ¬ (670 = 670 ∧ 20 = 0) by omega), hc, if_pos (i32_le.mpr (by rw [i32_nat (by omega)]; exact Int.natCast_nonneg _)), show gf_Model_clashing F gv_z (gw_wi u 670 0 0) 670 = some (Int32.ofNat l, w) from hcl]
    simp only [gf_cl]
    rw [if_neg (fun e => by have := i32_lt.mp e; rw [i32_nat (by omega)] at this; have h0 : (0 : Int32).toInt = 0 := rfl; omega), hrw.get rfl gv_rm23, gnn, if_neg (gi_ix (by rw [gv_l676]; omega) (by omega)), i32_clamp (by omega), hrw.get rfl gv_rm24, gnn, if_neg (gi_ic (by rw [gv_l677]; omega) (by omega)), hk 677 (by omega) (by omega), hk 676 (by omega) (by omega), a1, b1, gnn, if_neg (gi_ic (by rw [gv_l677]; omega) (by omega)), gnn, if_neg (gi_ic (by rw [gv_l676]; omega) (by omega)), hk 677 (by omega) (by omega), hk 676 (by omega) (by omega), a1, b1]
    have hb57 : ∀ x : Nat, x < 60 → x = min (gA u l) (gB u l) → gf_Model_solve_b57 F gv_z w 670 (Int32.ofNat l) (Int32.ofNat x) = some (Int32.ofNat (lowR u l), w) := by
      intro x hx hxe
      unfold gf_Model_solve_b57 gf_Model_solve_b87 gf_Model_solve_b88
      rw [hrw.get rfl gv_rm22, gnn, if_neg (gi_ix (by rw [gv_l675]; omega) (by omega)), i32_clamp (by omega), hk 675 (by omega) (by omega), k1]
      unfold lowR
      rw [← hxe]
      by_cases c3 : gk u l = 3
      · obtain ⟨d1, -, d3, -, -⟩ := h3 c3
        rw [if_pos (by rw [c3]; rfl), hrw.get rfl gv_rm25, gnn, if_neg (gi_ic (by rw [gv_l678]; omega) (by omega)), hk 678 (by omega) (by omega), d1, gnn, if_neg (gi_ic (by rw [gv_l678]; omega) (by omega)), hk 678 (by omega) (by omega), d1]
        by_cases c : gC u l < x
        · rw [if_neg (show ¬ Int32.ofNat x ≤ Int32.ofNat (gC u l) from fun e => by have := (gi_le (by omega) (by omega)).mp e; omega), if_pos (show gk u l = 3 ∧ gC u l < x from ⟨c3, c⟩)]
        · rw [if_pos (show Int32.ofNat x ≤ Int32.ofNat (gC u l) from (gi_le (by omega) (by omega)).mpr (by omega)), if_neg (show ¬ (gk u l = 3 ∧ gC u l < x) from fun q => c q.2)]
      · rw [if_neg (fun e => c3 (by have := congrArg Int32.toInt e; rw [i32_nat (by omega)] at this; exact Int.ofNat.inj this)), if_neg (fun q => c3 q.1)]
    by_cases c : gB u l ≤ gA u l
    · rw [if_pos ((gi_le (by omega) (by omega)).mpr c)]
      exact hb57 _ (by omega) (by omega)
    · rw [if_neg (fun e => c ((gi_le (by omega) (by omega)).mp e))]
      exact hb57 _ (by omega) (by omega)
  · rw [g2.2.2 670 0 (by unfold Kr Kt; omega)]
    exact wi_same
theorem gm_solve1 {F : Nat} (hF : 20000 ≤ F) {u : gw_St} {n r cr full : Nat} {hd : Nat → Bool} {X Y : Nat → Int} (hr : gv_Rf u) (hw : gv_Wk u n r) (hpr : gv_Pr u) (hc : u.1 670 20 = Int32.ofNat cr) (hcr : cr < n) (hC : ∀ i, i < r → Cl u n cr i) (hfull : full < 1000) (hf0 : r = 0 → full = 1) (hf1 : 0 < r → ∃ E, Rk (apX (rv u) r (at1 cr 1)) (r + 1) n full E ∧ E.natAbs < 2 ^ 660) (hS : Sd n (cR u cr) (r + 1) full hd X Y) : ∃ w, Gf Kx Kz u w ∧ (((∃ g, g < n ∧ bigS hd X Y g) ∧ gf_Model_solve F gv_z u 670 = some (0, w) ∧ w.1 670 0 = 2 ∧ ∀ p k, 681 ≤ p → p ≤ 684 → w.1 p k = u.1 p k) ∨ ((∀ g, g < n → ¬ bigS hd X Y g) ∧ gf_Model_solve F gv_z u 670 = some (-1, w) ∧ w.1 670 0 = 0 ∧ ∀ g, g < n → Vt w hd X Y g)) := by
  have hn := hw.1
  have hr120 := hw.2.1
  let u1 := gw_wi u 670 0 0
  have g1 : Gf Ks (fun a k => a = 670 ∧ k = 0) u u1 := Gf.wi ⟨rfl, rfl⟩
  have hr1 := hr.gf g1
  have hw1 := hw.gf g1 thr_wk
  have hrv : rv u1 = rv u := funext fun j => rv_eq (fun k => g1.2.2 7 k (by omega)) (fun k => g1.2.2 8 k (by omega))
  obtain ⟨w, P, Pc, g2, h2, d⟩ := gm_clashing (F := F) (by omega) hr1 hw1 (hpr.gf g1 (fun k => by omega)) (by rw [g1.2.2 670 20 (by omega)]; exact hc) hcr
  rw [hrv] at h2
  have hne : ∀ i, i < r → P i ≠ Pc i := fun i hi => by
    obtain ⟨k, D, E, a1, a2, a3, a4⟩ := hC i hi
    obtain ⟨-, -, -, -, b5, b6⟩ := h2 i (by omega)
    have := rkT_use b5 a1 a2
    have := rkT_use b6 a3 a4
    omega
  have hcl : gf_Model_clashing F gv_z u1 670 = some (-1, w) := by
    rcases d with ⟨m, m1, m2, -, -⟩ | ⟨-, m2⟩
    · exact absurd m2 (hne m m1)
    · exact m2
  have g12 : Gf Kx Kz u w := (g1.mono (fun _ h => Or.inl (Or.inl h)) (fun _ _ h => Or.inr (Or.inr (Or.inr h)))).trans (g2.mono (fun _ h => Or.inl (Or.inl h)) (fun _ _ h => Or.inr (Or.inl h)))
  have hrw := hr.gf g12
  have hww : gv_Wk w n r := hw1.gf g2 Kr_wk
  have hRw : cR w cr = cR u cr := cR_eq (fun k => g12.2.2 7 k (by unfold Kz Ky Kw Kt Km Kr Ko Kt; omega)) (fun k => g12.2.2 8 k (by unfold Kz Ky Kw Kt Km Kr Ko Kt; omega))
  have hcw : w.1 670 20 = Int32.ofNat cr := by rw [g12.2.2 670 20 (by unfold Kz Ky Kw Kt Km Kr Ko Kt; omega)]; exact hc
  have hf1w : 0 < r → w.1 696 (r - 1) = Int32.ofNat full := fun h0 => by
    obtain ⟨E, e1, e2⟩ := hf1 h0
    obtain ⟨-, b2, -, -, -, b6⟩ := h2 (r - 1) (by omega)
    rw [show r - 1 + 1 = r by omega, show r - 1 + 2 = r + 1 by omega] at b6
    rw [b2, rkT_use b6 e1 e2]
  obtain ⟨w2, g3, d3⟩ := gm_findSpeeds (F := F) hF hrw hww (hpr.gf g12 (fun k => by unfold Kz Ky Kw Kt Km Kr Ko Kt; omega)) hcw hcr hfull hf0 hf1w (by rw [hRw]; exact hS)
  have g23 : Gf Kx Kz u w2 := g12.trans (g3.mono (fun _ h => h) (fun _ _ h => Or.inl h))
  have hst : ∀ x, gf_Model_findSpeeds F gv_z w 670 = some (x, w2) → gf_Model_solve F gv_z u 670 = if x = 0 then some (0, gw_wi w2 670 0 2) else gf_Model_solve_L104 F gv_z F w2 670 0 := fun x hx => by
    show gf_Model_solve_b0 F gv_z u 670 = _
    unfold gf_Model_solve_b0
    simp only [gf_nm]
    rw [wi_ne (show ¬ (670 = 670 ∧ 20 = 0) by omega), hc, if_pos (i32_le.mpr (by rw [i32_nat (by omega)]; exact Int.natCast_nonneg _)), show gf_Model_clashing F gv_z (gw_wi u 670 0 0) 670 = some (-1, w) from hcl]
    simp only [gf_cl]
    rw [if_pos (by decide), hx]
    rfl
  rcases d3 with ⟨d1, d2⟩ | ⟨d1, d2, d4⟩
  · refine ⟨gw_wi w2 670 0 2, g23.trans (Gf.wi (Or.inr (Or.inr (Or.inr ⟨rfl, rfl⟩)))), Or.inl ⟨d1, by rw [hst 0 d2, if_pos rfl], wi_same, fun p k h1 h2 => ?_⟩⟩
    rw [wi_ne (by omega), g3.2.2 p k (by unfold Ky Kw Kt Km; omega), g2.2.2 p k (by unfold Kr Kt; omega), wi_ne (by omega)]
  · obtain ⟨w3, e3, g4, v3⟩ := gm_cp (F := F) (by omega) (hr.gf g23) hn (by rw [g23.2.2 670 18 (by unfold Kz Ky Kw Kt Km Kr Ko Kt; omega)]; exact hw.2.2.2.1) d4
    refine ⟨w3, g23.trans (g4.mono (fun _ h => absurd h id) (fun _ _ h => Or.inr (Or.inr (Or.inl h)))), Or.inr ⟨d1, by rw [hst 1 d2, if_neg (by decide)]; exact e3, ?_, v3⟩⟩
    rw [g4.2.2 670 0 (by unfold Ko; omega), g3.2.2 670 0 (by unfold Ky Kw Kt Km; omega), g2.2.2 670 0 (by unfold Kr Kt; omega)]
    exact wi_same
