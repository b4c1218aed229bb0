/-- only the row k's cells and the numbers in use are changed -/
def Mr (k : Nat) (u w : gw_St) : Prop := w.2 = u.2 ∧ ∀ a j, ¬ (28 ≤ a ∧ a ≤ 35) → ¬ (a = 24 ∧ 60 * k ≤ j ∧ j < 60 * k + 60) → ¬ (a = 23 ∧ 22 * (60 * k) ≤ j ∧ j < 22 * (60 * k + 60)) → w.1 a j = u.1 a j
theorem Mr.refl {k : Nat} {u : gw_St} : Mr k u u := ⟨rfl, fun _ _ _ _ _ => rfl⟩
theorem Mr.trans {k : Nat} {u v w : gw_St} (h : Mr k u v) (g : Mr k v w) : Mr k u w := ⟨g.1.trans h.1, fun a j q1 q2 q3 => (g.2 a j q1 q2 q3).trans (h.2 a j q1 q2 q3)⟩
theorem gv_Rf.mr {k : Nat} {u w : gw_St} (h : gv_Rf u) (f : Mr k u w) : gv_Rf w := h.eq (by rw [f.1])
theorem Eq1.mr {u w : gw_St} {n cr k : Nat} {A : Nat → Nat → Int} {s : Nat → Nat} {pc : Nat} (hn : n ≤ 60) (h : Eq1 u n cr k A s pc) (f : Mr k u w) : Eq1 w n cr k A s pc := by
  obtain ⟨h1, h2, h3, h4, h5, h6, h7, h8, h9, h10, h11⟩ := h
  refine ⟨h1, by rw [f.1]; exact h2, by rw [f.1]; exact h3, by rw [f.2 22 14 (by omega) (by omega) (by omega)]; exact h4, by rw [f.2 22 16 (by omega) (by omega) (by omega)]; exact h5, by rw [f.2 22 15 (by omega) (by omega) (by omega)]; exact h6, h7, h8.same (fun j => f.2 pc j (by omega) (by omega) (by omega)) (fun j => f.2 (pc + 1) j (by omega) (by omega) (by omega)), fun l hl => by rw [f.2 25 _ (by omega) (by omega) (by omega)]; exact h9 l hl, fun c hc hs => by rw [f.2 25 _ (by omega) (by omega) (by omega)]; exact h10 c hc hs, fun l hl c hc hs => (h11 l hl c hc hs).same (f.2 24 _ (by omega) (by omega) (by omega)) (fun i hi => f.2 23 _ (by omega) (by omega) (by omega))⟩
theorem Tm.mr {k : Nat} {u w : gw_St} {n cnt : Nat} {G : Nat → Nat} {g : Nat → Int} (h : Tm u n cnt G g) (f : Mr k u w) : Tm w n cnt G g := by
  obtain ⟨h1, h2, h3, h4⟩ := h
  exact ⟨h1, by rw [f.2 22 13 (by omega) (by omega) (by omega)]; exact h2, fun t ht => by rw [f.2 26 t (by omega) (by omega) (by omega), f.2 27 t (by omega) (by omega) (by omega)]; exact h3 t ht, h4⟩
/-- the column found so far -/
def Ow (A : Nat → Nat → Int) (s : Nat → Nat) (k cr : Nat) (v : Nat → Int) (c : Nat) (x : Int32) : Prop := (x = -1 ∧ ∀ d, d < c → d ≠ cr → (∀ l, l < k → s l ≠ d) → eN A s k v d = 0) ∨ ∃ a, a < c ∧ x = Int32.ofNat a ∧ a ≠ cr ∧ (∀ l, l < k → s l ≠ a) ∧ eN A s k v a ≠ 0
theorem eq_newRow {F : Nat} (hF : 2000 ≤ F) {u : gw_St} {n cr k pc cnt : Nat} {A : Nat → Nat → Int} {s : Nat → Nat} {G : Nat → Nat} {g v : Nat → Int} (hr : gv_Rf u) (hn : n ≤ 60) (hcr : cr < n) (hE : Eq1 u n cr k A s pc) (hT : Tm u n cnt G g) (hv : ∀ c, v c = sm (fun t => at1 (G t) (g t) c) cnt) (hi : ∀ l j, l < k → j < k → s l = s j → l = j) (bD : (eD A s k).natAbs < 2147483648 ^ 22) (bC : ∀ c, c < n → (∀ l, l < k → s l ≠ c) → (∀ l, l < k → (eC A s k l c).natAbs < 2147483648 ^ 22) ∧ (eN A s k v c).natAbs < 2 ^ 660) : ∃ w x, gf_Equations_makeNewRow F gv_z u 22 = some (x, w) ∧ Mr k u w ∧ Ow A s k cr v n x ∧ ∀ c, c < n → (∀ l, l < k → s l ≠ c) → Cw w (60 * k + c) (eN A s k v c) := by
  have run : ∀ (j c f : Nat) (w : gw_St) (x : Int32), c + j = n → j < f → Mr k u w → Ow A s k cr v c x → (∀ d, d < c → (∀ l, l < k → s l ≠ d) → Cw w (60 * k + d) (eN A s k v d)) → ∃ w' x', gf_Equations_makeNewRow_L4 F gv_z f w 22 x (Int32.ofNat c) = some (x', w') ∧ Mr k u w' ∧ Ow A s k cr v n x' ∧ ∀ c, c < n → (∀ l, l < k → s l ≠ c) → Cw w' (60 * k + c) (eN A s k v c) := by
    intro j
    induction j with
    | zero =>
      intro c f w x hc hf hm ho hw
      obtain ⟨f, rfl⟩ : ∃ q, f = q + 1 := ⟨f - 1, by omega⟩
      have : c = n := by omega
      subst this
      refine ⟨w, x, ?_, hm, ho, hw⟩
      show gf_Equations_makeNewRow_S4 F gv_z _ w 22 x (Int32.ofNat c) = _
      unfold gf_Equations_makeNewRow_S4
      rw [(hE.mr hn hm).2.2.2.1, if_pos ((gi_le (by omega) (by omega)).mpr (Nat.le_refl _))]
    | succ j ih =>
      intro c f w x hc hf hm ho hw
      obtain ⟨f, rfl⟩ : ∃ q, f = q + 1 := ⟨f - 1, by omega⟩
      have hEw := hE.mr hn hm
      have hrw := hr.mr hm
      have hcn : c < n := by omega
      have hhead : gf_Equations_makeNewRow_L4 F gv_z (f + 1) w 22 x (Int32.ofNat c) = if w.1 25 c = -1 then ((gf_Equations_fillNewCell F gv_z w 22 (Int32.ofNat c)).bind fun u8 => if x = (-1 : Int32) then (if Int32.ofNat c = (u8.1 22 16) then (gf_Equations_makeNewRow_b58 F gv_z (gf_Equations_makeNewRow_L4 F gv_z f) u8 22 x (Int32.ofNat c)) else (gf_nn (u8.2.2 22 2) fun q12 => gf_cl (gf_Equations_at F gv_z u8 (u8.1 22 15) (Int32.ofNat c)) fun a16 u14 => if (a16 < 0 ∨ gv_z.2.2 q12 ≤ (a16).toNatClampNeg) then none else if (u14.1 q12 (a16).toNatClampNeg) = 0 then (gf_Equations_makeNewRow_b58 F gv_z (gf_Equations_makeNewRow_L4 F gv_z f) u14 22 x (Int32.ofNat c)) else (gf_Equations_makeNewRow_b58 F gv_z (gf_Equations_makeNewRow_L4 F gv_z f) u14 22 (Int32.ofNat c) (Int32.ofNat c)))) else (gf_Equations_makeNewRow_b58 F gv_z (gf_Equations_makeNewRow_L4 F gv_z f) u8 22 x (Int32.ofNat c))) else gf_Equations_makeNewRow_L4 F gv_z f w 22 x (Int32.ofNat (c + 1)) := by
        show gf_Equations_makeNewRow_S4 F gv_z _ w 22 x (Int32.ofNat c) = _
        unfold gf_Equations_makeNewRow_S4
        rw [hEw.2.2.2.1, if_neg (fun e => by have := (gi_le (by omega) (by omega)).mp e; omega), hrw.get rfl gv_r22_3, gnn, if_neg (gi_ix (by rw [gv_l25]; omega) (by omega)), i32_clamp (by omega)]
        by_cases q : w.1 25 c = -1
        · rw [if_pos q, if_pos q]
        · rw [if_neg q, if_neg q]
          unfold gf_Equations_makeNewRow_b58
          simp only [gf_nm]
          rw [gw_iS]
      rw [hhead]
      by_cases hp : ∃ l, l < k ∧ s l = c
      · -- a column of a row
        obtain ⟨l, hl, e⟩ := hp
        have h25 : w.1 25 c = Int32.ofNat l := by rw [← e]; exact hEw.2.2.2.2.2.2.2.2.1 l hl
        have hk60 := hEw.2.2.2.2.2.2.1
        rw [if_neg (fun q => by rw [h25] at q; have := congrArg Int32.toInt q; rw [i32_nat (by omega)] at this; have o : (-1 : Int32).toInt = -1 := rfl; omega)]
        refine ih (c + 1) f w x (by omega) (by omega) hm ?_ (fun d hd hs => ?_)
        · rcases ho with ⟨o1, o2⟩ | ⟨a, o1, o2⟩
          · refine Or.inl ⟨o1, fun d hd hd2 hs => ?_⟩
            by_cases q : d = c
            · exact absurd (by rw [e, q]) (hs l hl)
            · exact o2 d (by omega) hd2 hs
          · exact Or.inr ⟨a, by omega, o2⟩
        · by_cases q : d = c
          · exact absurd (by rw [e, q]) (hs l hl)
          · exact hw d (by omega) hs
      · have hs : ∀ l, l < k → s l ≠ c := fun l hl q => hp ⟨l, hl, q⟩
        obtain ⟨bC1, bN⟩ := bC c hcn hs
        obtain ⟨w1, a1, a2, a3, a4⟩ := eq_fill (F := F) hF hrw hn hEw (hT.mr hm) hv hcn hs hi bD bC1 bN
        have m1 : Mr k w w1 := ⟨a2, fun a j q1 q2 q3 => a3 a j q1 (by omega) (by omega)⟩
        have hE1 := hEw.mr hn m1
        have hr1 := hrw.mr m1
        have hk60 := hE1.2.2.2.2.2.2.1
        rw [if_pos (hEw.2.2.2.2.2.2.2.2.2.1 c hcn hs), a1, Option.bind_some]
        have hcells : ∀ d, d < c + 1 → (∀ l, l < k → s l ≠ d) → Cw w1 (60 * k + d) (eN A s k v d) := fun d hd hsd => by
          by_cases q : d = c
          · rw [q]; exact a4
          · exact (hw d (by omega) hsd).same (a3 24 _ (by omega) (by omega) (by omega)) (fun i hi' => a3 23 _ (by omega) (by omega) (by omega))
        have hnext : ∀ x', gf_Equations_makeNewRow_b58 F gv_z (gf_Equations_makeNewRow_L4 F gv_z f) w1 22 x' (Int32.ofNat c) = gf_Equations_makeNewRow_L4 F gv_z f w1 22 x' (Int32.ofNat (c + 1)) := fun x' => by
          unfold gf_Equations_makeNewRow_b58
          simp only [gf_nm]
          rw [gw_iS]
        by_cases hx : x = -1
        · rw [if_pos hx, hE1.2.2.2.2.1]
          rcases ho with ⟨o1, o2⟩ | ⟨a, o1, o2, -⟩
          · by_cases hcc : c = cr
            · rw [if_pos (by rw [hcc]), hnext]
              exact ih (c + 1) f w1 x (by omega) (by omega) (hm.trans m1) (Or.inl ⟨o1, fun d hd hd2 hsd => o2 d (by omega) hd2 hsd⟩) hcells
            · rw [if_neg (fun e => hcc (by have := congrArg Int32.toInt e; rw [i32_nat (by omega), i32_nat (by omega)] at this; omega)), hr1.get rfl gv_r22_2, gnn, hE1.2.2.2.2.2.1, show gf_Equations_at F gv_z w1 (Int32.ofNat k) (Int32.ofNat c) = some (Int32.ofNat (60 * k + c), w1) from by show some (Int32.ofNat k * 60 + Int32.ofNat c, w1) = _; rw [gi_cell]]
              simp only [gf_cl]
              rw [if_neg (gi_ix (by rw [gv_l24]; omega) (by omega)), i32_clamp (by omega)]
              by_cases z : eN A s k v c = 0
              · rw [if_pos (a4.zero.mpr z), hnext]
                refine ih (c + 1) f w1 x (by omega) (by omega) (hm.trans m1) (Or.inl ⟨o1, fun d hd hd2 hsd => ?_⟩) hcells
                by_cases q : d = c
                · rw [q]; exact z
                · exact o2 d (by omega) hd2 hsd
              · rw [if_neg (fun q => z (a4.zero.mp q)), hnext]
                exact ih (c + 1) f w1 (Int32.ofNat c) (by omega) (by omega) (hm.trans m1) (Or.inr ⟨c, by omega, rfl, hcc, hs, z⟩) hcells
          · rw [hx] at o2
            have := congrArg Int32.toInt o2
            rw [i32_nat (by omega)] at this
            have o : (-1 : Int32).toInt = -1 := rfl
            omega
        · rw [if_neg hx, hnext]
          rcases ho with ⟨o1, o2⟩ | ⟨a, o1, o2⟩
          · exact absurd o1 hx
          · exact ih (c + 1) f w1 x (by omega) (by omega) (hm.trans m1) (Or.inr ⟨a, by omega, o2⟩) hcells
  obtain ⟨w', x', e, r⟩ := run n 0 F u (-1) (by omega) (by omega) Mr.refl (Or.inl ⟨rfl, fun d hd => absurd hd (Nat.not_lt_zero d)⟩) (fun d hd => absurd hd (Nat.not_lt_zero d))
  exact ⟨w', x', e, r⟩
