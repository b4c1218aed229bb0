/-- the class's rows: k kept, at the columns s, the common number at pc -/
def Eq1 (u : gw_St) (n cr k : Nat) (A : Nat → Nat → Int) (s : Nat → Nat) (pc : Nat) : Prop := (pc = 41 ∨ pc = 43) ∧ u.2.2 22 11 = pc + 1 ∧ u.2.2 22 12 = 84 - pc + 1 ∧ u.1 22 14 = Int32.ofNat n ∧ u.1 22 16 = Int32.ofNat cr ∧ u.1 22 15 = Int32.ofNat k ∧ k < 60 ∧ Wh u pc (pc + 1) (eD A s k) ∧ (∀ l, l < k → u.1 25 (s l) = Int32.ofNat l) ∧ (∀ c, c < n → (∀ l, l < k → s l ≠ c) → u.1 25 c = -1) ∧ ∀ l, l < k → ∀ c, c < n → (∀ m, m < k → s m ≠ c) → Cw u (60 * l + c) (eC A s k l c)
theorem Eq1.wp {S : Nat → Prop} {u w : gw_St} {n cr k : Nat} {A : Nat → Nat → Int} {s : Nat → Nat} {pc : Nat} (h : Eq1 u n cr k A s pc) (f : Wp S u w) (hS : ∀ a, S a → 28 ≤ a ∧ a ≤ 35) : Eq1 w n cr k A s pc := by
  obtain ⟨h1, h2, h3, h4, h5, h6, h7, h8, h9, h10, h11⟩ := h
  have ns : ∀ a, a < 28 ∨ 35 < a → ¬ S a := fun a ha q => by have := hS a q; omega
  refine ⟨h1, by rw [f.1]; exact h2, by rw [f.1]; exact h3, by rw [f.2 22 (ns 22 (by omega))]; exact h4, by rw [f.2 22 (ns 22 (by omega))]; exact h5, by rw [f.2 22 (ns 22 (by omega))]; exact h6, h7, h8.wp f (ns _ (by omega)) (ns _ (by omega)), fun l hl => by rw [f.2 25 (ns 25 (by omega))]; exact h9 l hl, fun c hc hs => by rw [f.2 25 (ns 25 (by omega))]; exact h10 c hc hs, fun l hl c hc hs => (h11 l hl c hc hs).same (f.2 24 (ns 24 (by omega)) _) (fun i _ => f.2 23 (ns 23 (by omega)) _)⟩
theorem Tm.wp {S : Nat → Prop} {u w : gw_St} {n cnt : Nat} {G : Nat → Nat} {g : Nat → Int} (h : Tm u n cnt G g) (f : Wp S u w) (hS : ∀ a, S a → 28 ≤ a ∧ a ≤ 35) : Tm w n cnt G g := by
  obtain ⟨h1, h2, h3, h4⟩ := h
  have ns : ∀ a, a < 28 → ¬ S a := fun a ha q => by have := hS a q; omega
  exact ⟨h1, by rw [f.2 22 (ns 22 (by omega))]; exact h2, fun t ht => by rw [f.2 26 (ns 26 (by omega)), f.2 27 (ns 27 (by omega))]; exact h3 t ht, h4⟩
theorem eq_fill1 {F : Nat} (hF : 2000 ≤ F) {u : gw_St} {n cr k pc cnt t col : Nat} {A : Nat → Nat → Int} {s : Nat → Nat} {G : Nat → Nat} {g : Nat → Int} {V : Int} {rc : gw_St → Nat → Int32 → Int32 → Option gw_St} (hr : gv_Rf u) (hn : n ≤ 60) (hE : Eq1 u n cr k A s pc) (hT : Tm u n cnt G g) (ht : t < cnt) (hcol : col < n) (hs : ∀ l, l < k → s l ≠ col) (hi : ∀ l j, l < k → j < k → s l = s j → l = j) (hV : Wh u 34 35 V) (bV : V.natAbs < 2147483648 ^ 23) (bD : (eD A s k).natAbs < 2147483648 ^ 22) (bC : ∀ l, l < k → (eC A s k l col).natAbs < 2147483648 ^ 22) : ∃ w, gf_Equations_fillNewCell_S10 F gv_z rc u 22 (Int32.ofNat col) (Int32.ofNat t) = rc w 22 (Int32.ofNat col) (Int32.ofNat (t + 1)) ∧ Wp (fun a => 28 ≤ a ∧ a ≤ 35) u w ∧ Wh w 34 35 (V + eN A s k (at1 (G t) (g t)) col) := by
  obtain ⟨t1, t2, t3, t4⟩ := id hT
  obtain ⟨p1, p2, p3, p4, p5⟩ := t3 t ht
  obtain ⟨h1, h2, h3, h4, h5, h6, h7, h8, h9, h10, h11⟩ := id hE
  have bf : ∀ x : Int, -2000 ≤ x → x ≤ 2000 → x.natAbs < 2147483648 ^ 1 := fun x a b => by omega
  unfold gf_Equations_fillNewCell_S10 gf_Equations_fillNewCell_b160
  rw [t2, if_neg (fun e => by have := (gi_le (by omega) (by omega)).mp e; omega), hr.get rfl gv_r22_3, gnn, hr.get rfl gv_r22_4, gnn, if_neg (gi_ix (by rw [gv_l26]; omega) (by omega)), i32_clamp (by omega), p1, if_neg (gi_ix (by rw [gv_l25]; omega) (by omega)), i32_clamp (by omega)]
  simp only [gf_nm]
  rw [gnn, if_neg (gi_ic (by rw [gv_l26]; omega) (by omega)), p1]
  by_cases c : G t = col
  · -- the term's own column
    rw [if_pos (by rw [c]), hr.get rfl gv_r22_7, gnn, hr.get rfl gv_r22_5, gnn, if_neg (gi_ic (by rw [gv_l27]; omega) (by omega))]
    have en : (-(u.1 27 t)).toInt = -(g t) := by rw [n32_neg (by omega), p3]
    obtain ⟨w1, a1, a2, a3⟩ := gw_setLong (F := F) hF (z := gv_z) (p := 30) (q := 31) (u := u) (y := (-(u.1 27 t)).toInt64) (by omega) (hr.get rfl gv_r30_0) (by rw [gv_l31]; omega) (by rw [n32_to64, en]; omega) (by rw [n32_to64, en]; omega)
    rw [n32_to64, en] at a3
    have f1 : Wp (fun a => 28 ≤ a ∧ a ≤ 35) u w1 := a2.wp ⟨by omega, by omega⟩ ⟨by omega, by omega⟩
    have g1 : Wp (fun a => 30 ≤ a ∧ a ≤ 31) u w1 := a2.wp ⟨by omega, by omega⟩ ⟨by omega, by omega⟩
    have r1 := hr.wp f1
    obtain ⟨w2, w3, b1, b2, b3, b4, b5⟩ := eq_sub (F := F) hF (u := w1) (p := pc) (X := eD A s k) (y := -(g t)) (V := V) r1 (by omega) (h8.wp f1 (by omega) (by omega)) a3 (hV.wp g1 (by omega) (by omega)) bD (bf _ (by omega) (by omega)) bV
    have r2 := r1.wp b4
    refine ⟨w3, ?_, f1.trans (b3.mono (fun a q => by omega)), ?_⟩
    · rw [a1, Option.bind_some, r1.get rfl gv_r22_8, gnn, show w1.2.2 22 11 = pc + 1 from by rw [a2.1]; exact h2, gnn, r1.get rfl gv_r22_7, gnn, b1, Option.bind_some, r2.get rfl gv_r22_9, gnn, gnn, r2.get rfl gv_r22_8, gnn, b2, Option.bind_some, gw_iS]
    · rw [c, eN_own hs, show V + eD A s k * g t = V - eD A s k * -(g t) by rw [Int.mul_neg]; omega]
      exact b5
  · rw [if_neg (fun e => c (by have := congrArg Int32.toInt e; rw [i32_nat (by omega), i32_nat (by omega)] at this; omega))]
    by_cases w : ∃ l, l < k ∧ s l = G t
    · obtain ⟨l, hl, e⟩ := w
      have hcw := h11 l hl col hcol hs
      have e25 : u.1 25 (G t) = Int32.ofNat l := by rw [← e]; exact h9 l hl
      rw [e25, if_neg (fun q => by have := congrArg Int32.toInt q; rw [i32_nat (by omega)] at this; have o : (-1 : Int32).toInt = -1 := rfl; omega), hr.get rfl gv_r22_2, gnn, show gf_Equations_at F gv_z u (Int32.ofNat l) (Int32.ofNat col) = some (Int32.ofNat (60 * l + col), u) from by show some (Int32.ofNat l * 60 + Int32.ofNat col, u) = _; rw [gi_cell]]
      simp only [gf_cl]
      rw [if_neg (gi_ix (by rw [gv_l24]; omega) (by omega)), i32_clamp (by omega)]
      have hsl : s l ≠ col := hs l hl
      rw [← e, eN_row hi hl hsl]
      by_cases z : eC A s k l col = 0
      · rw [if_pos (hcw.zero.mpr z), z, gw_iS]
        refine ⟨u, rfl, Wp.refl, ?_⟩
        rw [Int.zero_mul, Int.neg_zero, Int.add_zero]
        exact hV
      · rw [if_neg (fun q => z (hcw.zero.mp q)), hr.get rfl gv_r22_6, gnn]
        obtain ⟨w1, m1, a1, a2, -, a3⟩ := eq_load (F := F) (p := 28) (q := 29) (row := l) (col := col) hr (by omega) (by omega) (by omega) (hr.get rfl gv_r28_0) (by rw [gv_l29]; omega) (by omega) (by omega) hcw
        have f1 : Wp (fun a => 28 ≤ a ∧ a ≤ 35) u w1 := a2.wp ⟨by omega, by omega⟩ ⟨by omega, by omega⟩
        have g1 : Wp (fun a => 28 ≤ a ∧ a ≤ 29) u w1 := a2.wp ⟨by omega, by omega⟩ ⟨by omega, by omega⟩
        have r1 := hr.wp f1
        have e27 : w1.1 27 t = u.1 27 t := f1.2 27 (by omega) t
        obtain ⟨w2, b1, b2, b3⟩ := gw_setLong (F := F) hF (z := gv_z) (p := 30) (q := 31) (u := w1) (y := (w1.1 27 t).toInt64) (by omega) (r1.get rfl gv_r30_0) (by rw [gv_l31]; omega) (by rw [n32_to64, e27, p3]; omega) (by rw [n32_to64, e27, p3]; omega)
        rw [n32_to64, e27, p3] at b3
        have f2 : Wp (fun a => 28 ≤ a ∧ a ≤ 35) w1 w2 := b2.wp ⟨by omega, by omega⟩ ⟨by omega, by omega⟩
        have g2 : Wp (fun a => 30 ≤ a ∧ a ≤ 31) w1 w2 := b2.wp ⟨by omega, by omega⟩ ⟨by omega, by omega⟩
        have r2 := r1.wp f2
        obtain ⟨w3, w4, c1, c2, c3, c4, c5⟩ := eq_sub (F := F) hF (u := w2) (p := 28) (X := eC A s k l col) (y := g t) (V := V) r2 (by omega) ((show Wh w1 28 29 (eC A s k l col) from ⟨m1, a3⟩).wp g2 (by omega) (by omega)) b3 ((hV.wp g1 (by omega) (by omega)).wp g2 (by omega) (by omega)) (bC l hl) (bf _ p4 p5) bV
        have r3 := r2.wp c4
        refine ⟨w4, ?_, f1.trans (f2.trans (c3.mono (fun a q => by omega))), ?_⟩
        · rw [a1, Option.bind_some, r1.get rfl gv_r22_7, gnn, r1.get rfl gv_r22_5, gnn, if_neg (gi_ic (by rw [gv_l27]; omega) (by omega)), b1, Option.bind_some, r2.get rfl gv_r22_8, gnn, r2.get rfl gv_r22_6, gnn, r2.get rfl gv_r22_7, gnn, c1, Option.bind_some, r3.get rfl gv_r22_9, gnn, gnn, r3.get rfl gv_r22_8, gnn, c2, Option.bind_some, gw_iS]
        · rw [show V + -(eC A s k l col * g t) = V - eC A s k l col * g t by omega]
          exact c5
    · have hno : ∀ l, l < k → s l ≠ G t := fun l hl q => w ⟨l, hl, q⟩
      rw [h10 (G t) p2 hno, if_pos rfl, gw_iS]
      refine ⟨u, rfl, Wp.refl, ?_⟩
      rw [eN_none hno c, Int.add_zero]
      exact hV
