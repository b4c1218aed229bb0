/-- the primes stand -/
def gv_Pr (u : gw_St) : Prop := ∀ k, k < 70 → u.1 691 k = Int32.ofNat (prP k)
theorem gv_Pr.gf {S : Nat → Prop} {T : Nat → Nat → Prop} {u w : gw_St} (h : gv_Pr u) (f : Gf S T u w) (hT : ∀ k, ¬ T 691 k) : gv_Pr w := fun k hk => by rw [f.2.2 691 k (hT k)]; exact h k hk
theorem gv_r670_38 : gv_u.2.2 670 38 = 692 := by decide +kernel
theorem gv_l691 : gv_z.2.2 691 = 70 := by decide +kernel
theorem i32_64 {n : Nat} (h : n < 2147483648) : (Int32.ofNat n).toInt64 = Int64.ofNat n := i64_ext (by rw [n32_to64, i32_nat h, i64_nat (by omega)])
/-- what the first T primes tell of a rank -/
def rkT (T : Nat) (R : Nat → Nat → Int) (m n q : Nat) : Prop := ∀ k D, Rk R m n k D → q ≤ k ∧ ((∃ t, t < T ∧ ¬ (prP t : Int) ∣ D) → q = k)
theorem rkT.step {T m n q Q : Nat} {R : Nat → Nat → Int} (h : rkT T R m n q) (g : rkp (prP T) R m n Q) : rkT (T + 1) R m n (max q Q) := by
  intro k D hk
  obtain ⟨h1, h2⟩ := h k D hk
  obtain ⟨g1, g2⟩ := g k D hk
  refine ⟨by omega, ?_⟩
  rintro ⟨t, ht, hD⟩
  by_cases e : t = T
  · subst e; have := g2 hD; omega
  · have := h2 ⟨t, by omega, hD⟩; omega
theorem gm_cl1 {F : Nat} (hF : 2000 ≤ F) {u : gw_St} {n r : Nat} (hr : gv_Rf u) (hw : gv_Wk u n r) : ∃ w, gf_Model_clashing F gv_z u 670 = gf_Model_clashing_L32 F gv_z F w 670 0 ∧ Gf (fun _ => False) (fun a _ => a = 695 ∨ a = 696) u w ∧ ∀ i, i < r → w.1 695 i = Int32.ofNat 0 ∧ w.1 696 i = Int32.ofNat 0 := by
  have hr120 := hw.2.1
  have hwk : ∀ a k, (a = 695 ∨ a = 696) → gv_T_wk a k = false := fun a k h => by rcases h with h | h <;> subst h <;> rfl
  have main := gl_up (σ := gw_St) (N := r) (L := fun g w k => gf_Model_clashing_L2 F gv_z g w 670 (Int32.ofNat k)) (I := fun j w => Gf (fun _ => False) (fun a _ => a = 695 ∨ a = 696) u w ∧ ∀ i, i < j → w.1 695 i = Int32.ofNat 0 ∧ w.1 696 i = Int32.ofNat 0) (R := fun x => ∃ w, x = gf_Model_clashing_L32 F gv_z F w 670 0 ∧ Gf (fun _ => False) (fun a _ => a = 695 ∨ a = 696) u w ∧ ∀ i, i < r → w.1 695 i = Int32.ofNat 0 ∧ w.1 696 i = Int32.ofNat 0)
    (fun f w j hI hj => by
      obtain ⟨g, h1⟩ := hI
      have hrw := hr.gf g
      have hww := hw.gf g hwk
      have g1 : Gf (fun _ => False) (fun a _ => a = 695 ∨ a = 696) w (gw_wi w 695 j 0) := Gf.wi (Or.inl rfl)
      have hr1 := hrw.gf g1
      refine ⟨gw_wi (gw_wi w 695 j 0) 696 j 0, ⟨g.trans (g1.trans (Gf.wi (Or.inr rfl))), fun i hi => ?_⟩, ?_⟩
      · by_cases e : i = j
        · subst e
          exact ⟨by rw [wi_ne (by omega), wi_same]; rfl, wi_same⟩
        · rw [wi_ne (by omega), wi_ne (by omega), wi_ne (by omega), wi_ne (by omega)]
          exact h1 i (by omega)
      · show gf_Model_clashing_S2 F gv_z _ w 670 (Int32.ofNat j) = _
        unfold gf_Model_clashing_S2
        rw [hww.2.2.2.2.2.1, if_neg (fun e => by have := (gi_le (by omega) (by omega)).mp e; omega), hrw.get rfl gv_r670_43, gnn, if_neg (gi_ix (by rw [gv_l695]; omega) (by omega)), i32_clamp (by omega)]
        simp only [gf_nm]
        rw [hr1.get rfl gv_r670_44, gnn, if_neg (gi_ic (by rw [gv_l696]; omega) (by omega)), gw_iS])
    (fun f w hI => by
      obtain ⟨g, h1⟩ := hI
      have hww := hw.gf g hwk
      refine ⟨w, ?_, g, h1⟩
      show gf_Model_clashing_S2 F gv_z _ w 670 (Int32.ofNat r) = _
      unfold gf_Model_clashing_S2
      rw [hww.2.2.2.2.2.1, if_pos ((gi_le (by omega) (by omega)).mpr (Nat.le_refl _))])
  exact main r 0 u F (by omega) ⟨Gf.refl, fun i hi => absurd hi (Nat.not_lt_zero i)⟩ (by omega)
theorem gm_cl2 {F : Nat} (hF : 2000 ≤ F) {u : gw_St} {n r cr : Nat} (hr : gv_Rf u) (hw : gv_Wk u n r) (hpr : gv_Pr u) (hc : u.1 670 20 = Int32.ofNat cr) (hcr : cr < n) (h0 : ∀ i, i < r → u.1 695 i = Int32.ofNat 0 ∧ u.1 696 i = Int32.ofNat 0) : ∃ w, ∃ P Pc : Nat → Nat, gf_Model_clashing_L32 F gv_z F u 670 0 = gf_Model_clashing_L57 F gv_z F w 670 0 ∧ Gf Ks Kr u w ∧ ∀ i, i < r → w.1 695 i = Int32.ofNat (P i) ∧ w.1 696 i = Int32.ofNat (Pc i) ∧ P i < 1000 ∧ Pc i < 1000 ∧ rkT 70 (rv u) (i + 1) n (P i) ∧ rkT 70 (apX (rv u) (i + 1) (at1 cr 1)) (i + 2) n (Pc i) := by
  have main := gl_up (σ := gw_St) (N := 70) (L := fun g w k => gf_Model_clashing_L32 F gv_z g w 670 (Int32.ofNat k)) (I := fun T w => Gf Ks Kr u w ∧ ∃ P Pc : Nat → Nat, ∀ i, i < r → w.1 695 i = Int32.ofNat (P i) ∧ w.1 696 i = Int32.ofNat (Pc i) ∧ P i < 1000 ∧ Pc i < 1000 ∧ rkT T (rv u) (i + 1) n (P i) ∧ rkT T (apX (rv u) (i + 1) (at1 cr 1)) (i + 2) n (Pc i)) (R := fun x => ∃ w, ∃ P Pc : Nat → Nat, x = gf_Model_clashing_L57 F gv_z F w 670 0 ∧ Gf Ks Kr u w ∧ ∀ i, i < r → w.1 695 i = Int32.ofNat (P i) ∧ w.1 696 i = Int32.ofNat (Pc i) ∧ P i < 1000 ∧ Pc i < 1000 ∧ rkT 70 (rv u) (i + 1) n (P i) ∧ rkT 70 (apX (rv u) (i + 1) (at1 cr 1)) (i + 2) n (Pc i))
    (fun f w T hI hT => by
      obtain ⟨g, P, Pc, h1⟩ := hI
      have hrw := hr.gf g
      have hww := hw.gf g Kr_wk
      have hprw := hpr.gf g (fun k => by unfold Kr Kt; omega)
      have hrv : rv w = rv u := funext fun j => rv_eq (fun k => g.2.2 7 k (by unfold Kr Kt; omega)) (fun k => g.2.2 8 k (by unfold Kr Kt; omega))
      obtain ⟨d1, d2, -⟩ := prP_d T hT
      obtain ⟨w1, e1, g1, h2⟩ := gm_rankAll (F := F) hF (P := P) (Pc := Pc) hrw hww (by rw [g.2.2 670 20 (by unfold Kr Kt; omega)]; exact hc) hcr (prP_pm hT) (by omega) d2 (fun i hi => ⟨(h1 i hi).1, (h1 i hi).2.1, (h1 i hi).2.2.1, (h1 i hi).2.2.2.1⟩)
      rw [hrv] at h2
      have hch : ∀ i, ∃ Q Qc, i < r → w1.1 695 i = Int32.ofNat (max (P i) Q) ∧ w1.1 696 i = Int32.ofNat (max (Pc i) Qc) ∧ Q ≤ 60 ∧ Qc ≤ 61 ∧ rkp (prP T) (rv u) (i + 1) n Q ∧ rkp (prP T) (apX (rv u) (i + 1) (at1 cr 1)) (i + 2) n Qc := fun i => by
        by_cases hi : i < r
        · obtain ⟨Q, Qc, h⟩ := h2 i hi
          exact ⟨Q, Qc, fun _ => h⟩
        · exact ⟨0, 0, fun h => absurd h hi⟩
      refine ⟨w1, ⟨g.trans g1, fun i => max (P i) (Classical.choose (hch i)), fun i => max (Pc i) (Classical.choose (Classical.choose_spec (hch i))), fun i hi => ?_⟩, ?_⟩
      · obtain ⟨a1, a2, a3, a4, a5, a6⟩ := Classical.choose_spec (Classical.choose_spec (hch i)) hi
        obtain ⟨-, -, b3, b4, b5, b6⟩ := h1 i hi
        exact ⟨a1, a2, by dsimp only; omega, by dsimp only; omega, b5.step a5, b6.step a6⟩
      · show gf_Model_clashing_S32 F gv_z _ w 670 (Int32.ofNat T) = _
        unfold gf_Model_clashing_S32
        rw [if_neg (fun e : (70 : Int32) ≤ Int32.ofNat T => by have := (gi_le (a := 70) (by omega) (by omega)).mp e; omega), hrw.get rfl gv_r670_38, gnn, if_neg (gi_ix (by rw [gv_l691]; omega) (by omega)), i32_clamp (by omega), hprw T hT, i32_64 d2, e1, Option.bind_some]
        simp only [gf_nm]
        rw [gw_iS])
    (fun f w hI => by
      obtain ⟨g, P, Pc, h1⟩ := hI
      refine ⟨w, P, Pc, ?_, g, h1⟩
      show gf_Model_clashing_S32 F gv_z _ w 670 (Int32.ofNat 70) = _
      unfold gf_Model_clashing_S32
      rw [if_pos (show (70 : Int32) ≤ Int32.ofNat 70 from by decide)])
  exact main 70 0 u F (by omega) ⟨Gf.refl, fun _ => 0, fun _ => 0, fun i hi => ⟨(h0 i hi).1, (h0 i hi).2, by dsimp only; omega, by dsimp only; omega, fun k D _ => ⟨Nat.zero_le _, fun ⟨t, ht, _⟩ => absurd ht (Nat.not_lt_zero t)⟩, fun k D _ => ⟨Nat.zero_le _, fun ⟨t, ht, _⟩ => absurd ht (Nat.not_lt_zero t)⟩⟩⟩ (by omega)
/-- the first relation whose ranks agree -/
theorem gm_cl3 {F : Nat} {u : gw_St} {n r : Nat} {P Pc : Nat → Nat} (hr : gv_Rf u) (hw : gv_Wk u n r) (h : ∀ i, i < r → u.1 695 i = Int32.ofNat (P i) ∧ u.1 696 i = Int32.ofNat (Pc i) ∧ P i < 1000 ∧ Pc i < 1000) : ∀ (j i f : Nat), i + j = r → j < f → (∀ l, l < i → P l ≠ Pc l) → (∃ l, l < r ∧ P l = Pc l ∧ (∀ m, m < l → P m ≠ Pc m) ∧ gf_Model_clashing_L57 F gv_z f u 670 (Int32.ofNat i) = some (Int32.ofNat l, u)) ∨ ((∀ l, l < r → P l ≠ Pc l) ∧ gf_Model_clashing_L57 F gv_z f u 670 (Int32.ofNat i) = some (-1, u)) := by
  have hr120 := hw.2.1
  intro j
  induction j with
  | zero =>
    intro i f hi hf h0
    obtain ⟨f, rfl⟩ : ∃ g, f = g + 1 := ⟨f - 1, by omega⟩
    have : i = r := by omega
    subst this
    refine Or.inr ⟨h0, ?_⟩
    show gf_Model_clashing_S57 F gv_z _ u 670 (Int32.ofNat i) = _
    unfold gf_Model_clashing_S57
    rw [hw.2.2.2.2.2.1, if_pos ((gi_le (by omega) (by omega)).mpr (Nat.le_refl _))]
  | succ j ih =>
    intro i f hi hf h0
    obtain ⟨f, rfl⟩ : ∃ g, f = g + 1 := ⟨f - 1, by omega⟩
    obtain ⟨h1, h2, h3, h4⟩ := h i (by omega)
    have hst : gf_Model_clashing_L57 F gv_z (f + 1) u 670 (Int32.ofNat i) = if P i = Pc i then some (Int32.ofNat i, u) else gf_Model_clashing_L57 F gv_z f u 670 (Int32.ofNat (i + 1)) := by
      show gf_Model_clashing_S57 F gv_z _ u 670 (Int32.ofNat i) = _
      unfold gf_Model_clashing_S57
      rw [hw.2.2.2.2.2.1, if_neg (fun e => by have := (gi_le (by omega) (by omega)).mp e; omega), hr.get rfl gv_r670_43, gnn, if_neg (gi_ix (by rw [gv_l695]; omega) (by omega)), i32_clamp (by omega), hr.get rfl gv_r670_44, gnn, if_neg (gi_ic (by rw [gv_l696]; omega) (by omega)), h1, h2]
      by_cases c : P i = Pc i
      · rw [if_pos c, if_pos (by rw [c])]
      · rw [if_neg c, if_neg (fun e => c (by have := congrArg Int32.toInt e; rw [i32_nat (by omega), i32_nat (by omega)] at this; omega))]
        simp only [gf_nm]
        rw [gw_iS]
    rw [hst]
    by_cases c : P i = Pc i
    · rw [if_pos c]
      exact Or.inl ⟨i, by omega, c, h0, rfl⟩
    · rw [if_neg c]
      exact ih (i + 1) f (by omega) (by omega) (fun l hl => by
        by_cases e : l = i
        · rw [e]; exact c
        · exact h0 l (by omega))
theorem gm_clashing {F : Nat} (hF : 2000 ≤ F) {u : gw_St} {n r cr : Nat} (hr : gv_Rf u) (hw : gv_Wk u n r) (hpr : gv_Pr u) (hc : u.1 670 20 = Int32.ofNat cr) (hcr : cr < n) : ∃ w, ∃ P Pc : Nat → Nat, Gf Ks Kr u w ∧ (∀ i, i < r → w.1 695 i = Int32.ofNat (P i) ∧ w.1 696 i = Int32.ofNat (Pc i) ∧ P i < 1000 ∧ Pc i < 1000 ∧ rkT 70 (rv u) (i + 1) n (P i) ∧ rkT 70 (apX (rv u) (i + 1) (at1 cr 1)) (i + 2) n (Pc i)) ∧ ((∃ l, l < r ∧ P l = Pc l ∧ (∀ m, m < l → P m ≠ Pc m) ∧ gf_Model_clashing F gv_z u 670 = some (Int32.ofNat l, w)) ∨ ((∀ l, l < r → P l ≠ Pc l) ∧ gf_Model_clashing F gv_z u 670 = some (-1, w))) := by
  have hr120 := hw.2.1
  obtain ⟨w1, e1, g1, h1⟩ := gm_cl1 (F := F) hF hr hw
  have g1' : Gf Ks Kr u w1 := g1.mono (fun _ h => absurd h id) (fun _ _ h => Or.inr h)
  have hrv : rv w1 = rv u := funext fun j => rv_eq (fun k => g1.2.2 7 k (by omega)) (fun k => g1.2.2 8 k (by omega))
  obtain ⟨w2, P, Pc, e2, g2, h2⟩ := gm_cl2 (F := F) hF (hr.gf g1') (hw.gf g1' Kr_wk) (hpr.gf g1' (fun k => by unfold Kr Kt; omega)) (by rw [g1.2.2 670 20 (by omega)]; exact hc) hcr h1
  rw [hrv] at h2
  have g12 := g1'.trans g2
  refine ⟨w2, P, Pc, g12, h2, ?_⟩
  rw [e1, e2]
  exact gm_cl3 (F := F) (hr.gf g12) (hw.gf g12 Kr_wk) (fun i hi => ⟨(h2 i hi).1, (h2 i hi).2.1, (h2 i hi).2.2.1, (h2 i hi).2.2.2.1⟩) r 0 F (by omega) (by omega) (fun l hl => absurd hl (Nat.not_lt_zero l))
