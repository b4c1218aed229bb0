/-- the choices in order -/
def Sa (u : gw_St) (S lo hi T q0 : Nat) (b : Nat → Nat) : Prop := (∀ j, j < T → u.2.1 q0 j = Int64.ofNat (b j)) ∧ (∀ i j, i < j → j < T → b i < b j) ∧ (∀ j, j < T → ∃ x, isC S lo hi x ∧ b j = vv S x) ∧ ∀ x, isC S lo hi x → ∃ j, j < T ∧ b j = vv S x
def cx (b : Nat → Nat) (j : Nat) : Nat := b j % 268435456
theorem Sa.at {u : gw_St} {S lo hi T q0 j : Nat} {b : Nat → Nat} (h : Sa u S lo hi T q0 b) (hp : TaP S lo hi) (hj : j < T) : isC S lo hi (cx b j) ∧ b j = vv S (cx b j) ∧ b j < 2 ^ 56 ∧ b j / 268435456 = pP S (cx b j) ∧ tT S (b j) = tT S (cx b j) := by
  obtain ⟨x, x1, x2⟩ := h.2.2.1 j hj
  obtain ⟨v1, v2, v3⟩ := vv_lt hp x1
  have hS : S ≤ 4 := hp.2.1
  have e : cx b j = x := by unfold cx; rw [x2]; exact v3
  rw [e, x2]
  exact ⟨x1, rfl, v1, v2, by unfold vv; exact tT_big hS⟩
theorem Sa.same {u w : gw_St} {S lo hi T q0 : Nat} {b : Nat → Nat} (h : Sa u S lo hi T q0 b) (e : ∀ j, w.2.1 q0 j = u.2.1 q0 j) : Sa w S lo hi T q0 b := ⟨fun j hj => by rw [e]; exact h.1 j hj, h.2⟩
theorem Sa.ord {u : gw_St} {S lo hi T q0 i j : Nat} {b : Nat → Nat} (h : Sa u S lo hi T q0 b) (hp : TaP S lo hi) (hij : i ≤ j) (hj : j < T) : pP S (cx b i) ≤ pP S (cx b j) ∧ (pP S (cx b i) = pP S (cx b j) → cx b i ≤ cx b j) := by
  by_cases e : i = j
  · rw [e]; exact ⟨Nat.le_refl _, fun _ => Nat.le_refl _⟩
  · have h1 := h.2.1 i j (by omega) hj
    obtain ⟨-, a2, a3, a4, -⟩ := h.at hp (show i < T by omega)
    obtain ⟨-, b2, b3, b4, -⟩ := h.at hp hj
    rw [← a4, ← b4]
    unfold cx
    omega
/-- takeGroup -/
theorem tr_group {F : Nat} (hF : 50000 ≤ F) {u : gw_St} {S lo hi T q0 g : Nat} {b : Nat → Nat} (hk : Tk u S lo hi T q0) (hs : Sa u S lo hi T q0 b) (h13 : u.1 1 13 = Int32.ofNat g) (hg : g ≤ T) (hst : ∀ j, j < g → g < T → pP S (cx b j) < pP S (cx b g)) : ∃ w, gf_Trains_takeGroup F gv_z u 1 = some w ∧ w.2 = u.2 ∧ (∀ a k, ¬ (a = 1 ∧ (k = 12 ∨ k = 13)) → w.1 a k = u.1 a k) ∧ ((g = T ∧ w.1 1 12 = -1 ∧ w.1 1 13 = Int32.ofNat g) ∨ (g < T ∧ ∃ m e, w.1 1 12 = Int32.ofNat m ∧ w.1 1 13 = Int32.ofNat e ∧ g ≤ m ∧ m < e ∧ e ≤ T ∧ isRep S lo hi (cx b m) ∧ pP S (cx b m) = pP S (cx b g) ∧ (∀ j, j < e → pP S (cx b j) ≤ pP S (cx b g)) ∧ ∀ j, e ≤ j → j < T → pP S (cx b g) < pP S (cx b j))) := by
  obtain ⟨hp, -, h6, h7, h8, h9, hq, h10, h11⟩ := id hk
  obtain ⟨n1, n2, n3⟩ := hk.num
  obtain ⟨l1, l2⟩ := hk.len
  have hS : S ≤ 4 := hp.2.1
  by_cases c : g = T
  · refine ⟨gw_wi u 1 12 (-1), ?_, rfl, fun a k q => by rw [wi_ne (by omega)], Or.inl ⟨c, wi_same, by rw [wi_ne (by omega)]; exact h13⟩⟩
    show gf_Trains_takeGroup_b0 F gv_z u 1 = _
    unfold gf_Trains_takeGroup_b0 gf_Trains_takeGroup_b19
    simp only [gf_nm]
    rw [h13, h9, if_pos ((gi_le (by omega) (by omega)).mpr (by omega)), wi_same, if_pos rfl]
  · have hgT : g < T := by omega
    have run : ∀ (j i f m : Nat) (w : gw_St), i + j = T → j < f → w.2 = u.2 → (∀ a k, ¬ (a = 1 ∧ (k = 12 ∨ k = 13)) → w.1 a k = u.1 a k) → w.1 1 12 = Int32.ofNat m → g ≤ m → m < i → (∀ l, g ≤ l → l < i → pP S (cx b l) = pP S (cx b g) ∧ tT S (cx b m) ≤ tT S (cx b l) ∧ (l < m → tT S (cx b m) < tT S (cx b l))) → ∃ w', gf_Trains_takeGroup_L35 F gv_z f w 1 (Int32.ofNat g) (Int32.ofNat i) = some w' ∧ w'.2 = u.2 ∧ (∀ a k, ¬ (a = 1 ∧ (k = 12 ∨ k = 13)) → w'.1 a k = u.1 a k) ∧ ∃ m e, w'.1 1 12 = Int32.ofNat m ∧ w'.1 1 13 = Int32.ofNat e ∧ g ≤ m ∧ m < e ∧ e ≤ T ∧ isRep S lo hi (cx b m) ∧ pP S (cx b m) = pP S (cx b g) ∧ (∀ j, j < e → pP S (cx b j) ≤ pP S (cx b g)) ∧ ∀ j, e ≤ j → j < T → pP S (cx b g) < pP S (cx b j) := by
      have fin : ∀ (i m : Nat) (w : gw_St), i ≤ T → (∀ l, i ≤ l → l < T → pP S (cx b g) < pP S (cx b l)) → w.2 = u.2 → (∀ a k, ¬ (a = 1 ∧ (k = 12 ∨ k = 13)) → w.1 a k = u.1 a k) → w.1 1 12 = Int32.ofNat m → g ≤ m → m < i → (∀ l, g ≤ l → l < i → pP S (cx b l) = pP S (cx b g) ∧ tT S (cx b m) ≤ tT S (cx b l) ∧ (l < m → tT S (cx b m) < tT S (cx b l))) → ∃ w', gf_Trains_takeGroup_b102 F gv_z w 1 (Int32.ofNat i) = some w' ∧ w'.2 = u.2 ∧ (∀ a k, ¬ (a = 1 ∧ (k = 12 ∨ k = 13)) → w'.1 a k = u.1 a k) ∧ ∃ m e, w'.1 1 12 = Int32.ofNat m ∧ w'.1 1 13 = Int32.ofNat e ∧ g ≤ m ∧ m < e ∧ e ≤ T ∧ isRep S lo hi (cx b m) ∧ pP S (cx b m) = pP S (cx b g) ∧ (∀ j, j < e → pP S (cx b j) ≤ pP S (cx b g)) ∧ ∀ j, e ≤ j → j < T → pP S (cx b g) < pP S (cx b j) := by
        intro i m w hi hup e1 e2 e3 m1 m2 m3
        refine ⟨gw_wi w 1 13 (Int32.ofNat i), rfl, e1, fun a k q => by rw [wi_ne (by omega)]; exact e2 a k q, m, i, by rw [wi_ne (by omega)]; exact e3, wi_same, m1, m2, hi, ⟨(hs.at hp (by omega)).1, fun y hy hpy => ?_⟩, (m3 m m1 m2).1, fun j hj => ?_, hup⟩
        · obtain ⟨j, hj, e⟩ := hs.2.2.2 y hy
          have ey : cx b j = y := by unfold cx; rw [e]; exact (vv_lt hp hy).2.2
          rw [(m3 m m1 m2).1, ← ey] at hpy
          have hgj : g ≤ j := by
            apply Classical.byContradiction
            intro q
            have := hst j (by omega) hgT
            omega
          have hji : j < i := by
            apply Classical.byContradiction
            intro q
            have := hup j (by omega) hj
            omega
          obtain ⟨-, t2, t3⟩ := m3 j hgj hji
          rw [← ey]
          by_cases q : tT S (cx b m) < tT S (cx b j)
          · exact Or.inl q
          · refine Or.inr ⟨by omega, (hs.ord hp ?_ hj).2 (by rw [(m3 m m1 m2).1, hpy])⟩
            apply Classical.byContradiction
            intro q2
            exact q (t3 (by omega))
        · by_cases q : j < g
          · exact Nat.le_of_lt (hst j q hgT)
          · exact Nat.le_of_eq (m3 j (by omega) hj).1
      intro j
      induction j with
      | zero =>
        intro i f m w hi hf e1 e2 e3 m1 m2 m3
        obtain ⟨f, rfl⟩ : ∃ q, f = q + 1 := ⟨f - 1, by omega⟩
        have hfin := fin i m w (by omega) (fun l h1 h2 => by omega) e1 e2 e3 m1 m2 m3
        show ∃ w', gf_Trains_takeGroup_S35 F gv_z _ w 1 (Int32.ofNat g) (Int32.ofNat i) = some w' ∧ _
        unfold gf_Trains_takeGroup_S35
        rw [e2 1 9 (by omega), h9, if_pos ((gi_le (by omega) (by omega)).mpr (by omega))]
        exact hfin
      | succ j ih =>
        intro i f m w hi hf e1 e2 e3 m1 m2 m3
        obtain ⟨f, rfl⟩ : ∃ q, f = q + 1 := ⟨f - 1, by omega⟩
        have hiT : i < T := by omega
        obtain ⟨-, -, i3, i4, i5⟩ := hs.at hp hiT
        obtain ⟨-, -, g3, g4, -⟩ := hs.at hp hgT
        obtain ⟨-, -, m3', m4, m5⟩ := hs.at hp (show m < T by omega)
        have hb : ∀ l, l < T → w.2.1 q0 l = Int64.ofNat (b l) := fun l hl => by rw [e1]; exact hs.1 l hl
        have h6w : w.1 1 6 = Int32.ofNat S := by rw [e2 1 6 (by omega)]; exact h6
        have hPi : b i / 268435456 < 2 ^ 28 := by omega
        have hPg : b g / 268435456 < 2 ^ 28 := by omega
        have e96 : ∀ v : gw_St, gf_Trains_takeGroup_b96 F gv_z (gf_Trains_takeGroup_L35 F gv_z f) v 1 (Int32.ofNat g) (Int32.ofNat i) = gf_Trains_takeGroup_L35 F gv_z f v 1 (Int32.ofNat g) (Int32.ofNat (i + 1)) := fun v => by
          unfold gf_Trains_takeGroup_b96
          simp only [gf_nm]
          rw [gw_iS]
        have hcm : lg_cmp (Int64.ofNat (b i / 268435456)) (Int64.ofNat (b g / 268435456)) = 0 ↔ pP S (cx b i) = pP S (cx b g) := by
          rw [lgc_zero, i64_nat (by omega), i64_nat (by omega), i4, g4]
          omega
        have hhead : gf_Trains_takeGroup_L35 F gv_z (f + 1) w 1 (Int32.ofNat g) (Int32.ofNat i) = if pP S (cx b i) = pP S (cx b g) then (if tT S (cx b m) ≤ tT S (cx b i) then gf_Trains_takeGroup_L35 F gv_z f w 1 (Int32.ofNat g) (Int32.ofNat (i + 1)) else gf_Trains_takeGroup_L35 F gv_z f (gw_wi w 1 12 (Int32.ofNat i)) 1 (Int32.ofNat g) (Int32.ofNat (i + 1))) else gf_Trains_takeGroup_b102 F gv_z w 1 (Int32.ofNat i) := by
          show gf_Trains_takeGroup_S35 F gv_z _ w 1 (Int32.ofNat g) (Int32.ofNat i) = _
          unfold gf_Trains_takeGroup_S35
          have hq0 : w.2.2 1 0 = q0 + 1 := by rw [e1]; exact h10
          rw [e2 1 9 (by omega), h9, if_neg (fun e => by have := (gi_le (by omega) (by omega)).mp e; omega), hq0, gnn, if_neg (gi_ix (by rw [l1]; omega) (by omega)), i32_clamp (by omega), hb i hiT, tr_product i3]
          simp only [gf_cl]
          rw [hq0, gnn, if_neg (gi_ix (by rw [l1]; omega) (by omega)), i32_clamp (n := g) (by omega), hb g hgT, tr_product g3]
          simp only []
          by_cases z : pP S (cx b i) = pP S (cx b g)
          · rw [if_pos (hcm.mpr z), if_pos z, hq0, gnn, if_neg (gi_ic (by rw [l1]; omega) (by omega)), hb i hiT, tr_teeth (by omega) h6w hS i3]
            simp only []
            have t1 := tT_le (S := S) (v := b i) hS
            have t2 := tT_le (S := S) (v := b m) hS
            rw [hq0, gnn, e3, if_neg (gi_ix (by rw [l1]; omega) (by omega)), i32_clamp (n := m) (by omega), hb m (by omega), tr_teeth (by omega) h6w hS m3']
            simp only []
            rw [e96, ← i5, ← m5]
            by_cases y : tT S (b m) ≤ tT S (b i)
            · rw [if_pos ((gi_le (by omega) (by omega)).mpr y), if_pos y]
            · rw [if_neg (fun e => y ((gi_le (by omega) (by omega)).mp e)), if_neg y]
              simp only [gf_nm]
              rw [e96]
          · rw [if_neg (fun e => z (hcm.mp e)), if_neg z]
        rw [hhead]
        by_cases z : pP S (cx b i) = pP S (cx b g)
        · rw [if_pos z]
          by_cases y : tT S (cx b m) ≤ tT S (cx b i)
          · rw [if_pos y]
            refine ih (i + 1) f m w (by omega) (by omega) e1 e2 e3 m1 (by omega) (fun l h1 h2 => ?_)
            by_cases e : l = i
            · rw [e]; exact ⟨z, y, fun q => by omega⟩
            · exact m3 l h1 (by omega)
          · rw [if_neg y]
            refine ih (i + 1) f i (gw_wi w 1 12 (Int32.ofNat i)) (by omega) (by omega) e1 (fun a k q => by rw [wi_ne (by omega)]; exact e2 a k q) wi_same (by omega) (by omega) (fun l h1 h2 => ?_)
            by_cases e : l = i
            · rw [e]; exact ⟨z, Nat.le_refl _, fun q => by omega⟩
            · obtain ⟨q1, q2, -⟩ := m3 l h1 (by omega)
              exact ⟨q1, by omega, fun _ => by omega⟩
        · rw [if_neg z]
          refine fin i m w (by omega) (fun l h1 h2 => ?_) e1 e2 e3 m1 m2 m3
          have o1 := (hs.ord hp (show g ≤ i by omega) hiT).1
          have o2 := (hs.ord hp h1 h2).1
          omega
    have hfin := run (T - (g + 1)) (g + 1) F g (gw_wi u 1 12 (Int32.ofNat g)) (by omega) (by omega) rfl (fun a k q => by rw [wi_ne (by omega)]) wi_same (Nat.le_refl _) (by omega) (fun l h1 h2 => by
      have : l = g := by omega
      rw [this]
      exact ⟨rfl, Nat.le_refl _, fun q => by omega⟩)
    obtain ⟨w', a1, a2, a3, a4⟩ := hfin
    refine ⟨w', ?_, a2, a3, Or.inr ⟨hgT, a4⟩⟩
    show gf_Trains_takeGroup_b0 F gv_z u 1 = _
    unfold gf_Trains_takeGroup_b0 gf_Trains_takeGroup_b19
    simp only [gf_nm]
    rw [h13, h9, if_neg (fun e => by have := (gi_le (by omega) (by omega)).mp e; omega), wi_same, if_neg (fun e => by have := congrArg Int32.toInt e; rw [i32_nat (by omega)] at this; have o : (-1 : Int32).toInt = -1 := rfl; omega), gw_iS]
    exact a1
