theorem eN_bd {A : Nat → Nat → Int} {s : Nat → Nat} {k col h : Nat} {x : Int} (hs : ∀ l, l < k → s l ≠ col) (hi : ∀ l j, l < k → j < k → s l = s j → l = j) (bD : (eD A s k).natAbs < 2147483648 ^ 22) (bC : ∀ l, l < k → (eC A s k l col).natAbs < 2147483648 ^ 22) (hx : x.natAbs ≤ 2000) : (eN A s k (at1 h x) col).natAbs ≤ 2147483648 ^ 22 * 2000 := by
  by_cases c : h = col
  · rw [c, eN_own hs, Int.natAbs_mul]
    exact Nat.mul_le_mul (Nat.le_of_lt bD) hx
  · by_cases w : ∃ l, l < k ∧ s l = h
    · obtain ⟨l, hl, e⟩ := w
      rw [← e, eN_row hi hl (hs l hl), Int.natAbs_neg, Int.natAbs_mul]
      exact Nat.mul_le_mul (Nat.le_of_lt (bC l hl)) hx
    · rw [eN_none (fun l hl q => w ⟨l, hl, q⟩) c]
      exact Nat.zero_le _
/-- the new row's cell at col -/
theorem eq_fill {F : Nat} (hF : 2000 ≤ F) {u : gw_St} {n cr k pc cnt col : Nat} {A : Nat → Nat → Int} {s : Nat → Nat} {G : Nat → Nat} {g v : Nat → Int} (hr : gv_Rf u) (hn : n ≤ 60) (hE : Eq1 u n cr k A s pc) (hT : Tm u n cnt G g) (hv : ∀ c, v c = sm (fun t => at1 (G t) (g t) c) cnt) (hcol : col < n) (hs : ∀ l, l < k → s l ≠ col) (hi : ∀ l j, l < k → j < k → s l = s j → l = j) (bD : (eD A s k).natAbs < 2147483648 ^ 22) (bC : ∀ l, l < k → (eC A s k l col).natAbs < 2147483648 ^ 22) (bN : (eN A s k v col).natAbs < 2 ^ 660) : ∃ w, gf_Equations_fillNewCell F gv_z u 22 (Int32.ofNat col) = some w ∧ w.2 = u.2 ∧ (∀ a j, ¬ (28 ≤ a ∧ a ≤ 35) → ¬ (a = 24 ∧ j = 60 * k + col) → ¬ (a = 23 ∧ 22 * (60 * k + col) ≤ j ∧ j < 22 * (60 * k + col) + 22) → w.1 a j = u.1 a j) ∧ Cw w (60 * k + col) (eN A s k v col) := by
  have hcnt := hT.1
  have hVe : eN A s k v col = sm (fun t => eN A s k (at1 (G t) (g t)) col) cnt := by
    rw [show v = fun c => sm (fun t => at1 (G t) (g t) c) cnt from funext hv, eN_sm]
  have bV : ∀ t, t ≤ cnt → (sm (fun t => eN A s k (at1 (G t) (g t)) col) t).natAbs ≤ t * (2147483648 ^ 22 * 2000) := by
    intro t
    induction t with
    | zero => intro _; exact Nat.le_of_eq (by rw [Nat.zero_mul]; rfl)
    | succ t ih =>
      intro ht
      have h1 := ih (by omega)
      obtain ⟨-, -, -, g4, g5⟩ := hT.2.2.1 t (by omega)
      have h2 := eN_bd (h := G t) (x := g t) hs hi bD bC (by omega)
      show (sm (fun t => eN A s k (at1 (G t) (g t)) col) t + eN A s k (at1 (G t) (g t)) col).natAbs ≤ _
      rw [Nat.succ_mul]
      exact Nat.le_trans (Int.natAbs_add_le _ _) (Nat.add_le_add h1 h2)
  have bV2 : ∀ t, t ≤ cnt → (sm (fun t => eN A s k (at1 (G t) (g t)) col) t).natAbs < 2147483648 ^ 23 := fun t ht => by
    have h1 := bV t ht
    have h2 : t * (2147483648 ^ 22 * 2000) ≤ 3 * (2147483648 ^ 22 * 2000) := Nat.mul_le_mul_right _ (by omega)
    have h3 : 3 * (2147483648 ^ 22 * 2000) < 2147483648 ^ 23 := by decide +kernel
    exact Nat.lt_of_le_of_lt (Nat.le_trans h1 h2) h3
  obtain ⟨w0, a1, a2, a3⟩ := gw_setLong (F := F) hF (z := gv_z) (p := 34) (q := 35) (u := u) (y := 0) (by omega) (hr.get rfl gv_r34_0) (by rw [gv_l35]; omega) (by decide) (by decide)
  have f0 : Wp (fun a => 28 ≤ a ∧ a ≤ 35) u w0 := a2.wp ⟨by omega, by omega⟩ ⟨by omega, by omega⟩
  have main := gl_up (σ := gw_St) (N := cnt) (L := fun f w t => gf_Equations_fillNewCell_L10 F gv_z f w 22 (Int32.ofNat col) (Int32.ofNat t)) (I := fun t w => Wp (fun a => 28 ≤ a ∧ a ≤ 35) u w ∧ Wh w 34 35 (sm (fun t => eN A s k (at1 (G t) (g t)) col) t)) (R := fun x => ∃ w, x = some w ∧ w.2 = u.2 ∧ (∀ a j, ¬ (28 ≤ a ∧ a ≤ 35) → ¬ (a = 24 ∧ j = 60 * k + col) → ¬ (a = 23 ∧ 22 * (60 * k + col) ≤ j ∧ j < 22 * (60 * k + col) + 22) → w.1 a j = u.1 a j) ∧ Cw w (60 * k + col) (eN A s k v col))
    (fun f w t hI ht => by
      obtain ⟨b1, b2⟩ := hI
      obtain ⟨w', c1, c2, c3⟩ := eq_fill1 (F := F) hF (rc := gf_Equations_fillNewCell_L10 F gv_z f) (hr.wp b1) hn (hE.wp b1 (fun _ q => q)) (hT.wp b1 (fun _ q => q)) ht hcol hs hi b2 (bV2 t (by omega)) bD bC
      exact ⟨w', ⟨b1.trans c2, c3⟩, c1⟩)
    (fun f w hI => by
      obtain ⟨b1, b2⟩ := hI
      have hrw := hr.wp b1
      have hEw := hE.wp b1 (fun _ q => q)
      have hTw := hT.wp b1 (fun _ q => q)
      rw [← hVe] at b2
      obtain ⟨m, b2⟩ := b2
      obtain ⟨w', c1, c2, c3, c4⟩ := eq_store (F := F) (p := 34) (q := 35) (row := k) (col := col) hrw (by omega) (by omega) (by omega) (hrw.get rfl gv_r34_0) (by rw [gv_l35]; omega) hE.2.2.2.2.2.2.1 (by omega) b2 bN
      refine ⟨w', ?_, c2.trans b1.1, fun a j q1 q2 q3 => by rw [c3 a j q2 q3, b1.2 a q1], c4⟩
      show gf_Equations_fillNewCell_S10 F gv_z _ w 22 (Int32.ofNat col) (Int32.ofNat cnt) = _
      unfold gf_Equations_fillNewCell_S10
      rw [hTw.2.1, if_pos ((gi_le (by omega) (by omega)).mpr (Nat.le_refl _)), hrw.get rfl gv_r22_9, gnn, hEw.2.2.2.2.2.1, c1, Option.bind_some])
  have hfin := main cnt 0 w0 F (by omega) ⟨f0, a3⟩ (by omega)
  have hst : gf_Equations_fillNewCell F gv_z u 22 (Int32.ofNat col) = gf_Equations_fillNewCell_L10 F gv_z F w0 22 (Int32.ofNat col) (Int32.ofNat 0) := by
    show gf_Equations_fillNewCell_b0 F gv_z u 22 (Int32.ofNat col) = _
    unfold gf_Equations_fillNewCell_b0
    rw [hr.get rfl gv_r22_9, gnn, a1, Option.bind_some]
    rfl
  rw [hst]
  exact hfin
