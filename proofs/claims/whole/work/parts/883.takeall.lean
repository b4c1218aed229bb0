theorem gs_fill25 {F : Nat} (hF : 2000 ≤ F) {u : gw_St} : ∃ w, gf_Arrays_fill1 F gv_z u 25 (-1) = some w ∧ Rw 25 60 (-1) u w := by
  have main := gl_up (σ := gw_St) (N := 60) (L := fun f w k => gf_Arrays_fill1_L5 F gv_z f w 25 (-1) (Int32.ofNat k) (Int32.ofNat 60)) (I := fun k w => Rw 25 k (-1) u w) (R := fun r => ∃ w, r = some w ∧ Rw 25 60 (-1) u w)
    (fun f w k hI hk => by
      refine ⟨gw_wi w 25 k (-1), hI.step (N := 60) hk, ?_⟩
      show gf_Arrays_fill1_S5 F gv_z _ w 25 (-1) (Int32.ofNat k) (Int32.ofNat 60) = _
      unfold gf_Arrays_fill1_S5
      rw [if_neg (fun e => by have := (gi_le (by omega) (by omega)).mp e; omega), if_neg (gi_ix (by rw [gv_l25]; omega) (by omega)), i32_clamp (by omega)]
      simp only [gf_nm]
      rw [gw_iS])
    (fun f w hI => by
      refine ⟨w, ?_, hI⟩
      show gf_Arrays_fill1_S5 F gv_z _ w 25 (-1) (Int32.ofNat 60) (Int32.ofNat 60) = _
      unfold gf_Arrays_fill1_S5
      rw [if_pos ((gi_le (by omega) (by omega)).mpr (Nat.le_refl _))])
  have := main 60 0 u F (by omega) ⟨rfl, fun _ _ _ => rfl, fun k hk => absurd hk (Nat.not_lt_zero k)⟩ (by omega)
  show ∃ w, gf_Arrays_fill1_b0 F gv_z u 25 (-1) = some w ∧ _
  unfold gf_Arrays_fill1_b0
  simp only [gf_nm]
  rw [gv_l25]
  exact this
theorem Eq1.kp {u w : gw_St} {n cr k : Nat} {A : Nat → Nat → Int} {s : Nat → Nat} {pc : Nat} (h : Eq1 u n cr k A s pc) (f : Gf (fun _ => False) Kp u w) : Eq1 w n cr k A s pc := by
  obtain ⟨h1, h2, h3, h4, h5, h6, h7, h8, h9, h10, h11⟩ := h
  have same : ∀ a i, ¬ (a = 26 ∨ a = 27 ∨ a = 22 ∧ i = 13) → w.1 a i = u.1 a i := fun a i q => f.2.2 a i q
  refine ⟨h1, by rw [f.1]; exact h2, by rw [f.1]; exact h3, by rw [same 22 14 (by omega)]; exact h4, by rw [same 22 16 (by omega)]; exact h5, by rw [same 22 15 (by omega)]; exact h6, h7, h8.same (fun j => same pc j (by omega)) (fun j => same (pc + 1) j (by omega)), fun l hl => by rw [same 25 _ (by omega)]; exact h9 l hl, fun c hc hs => by rw [same 25 _ (by omega)]; exact h10 c hc hs, fun l hl c hc hs => (h11 l hl c hc hs).same (same 24 _ (by omega)) (fun i hi => same 23 _ (by omega))⟩
theorem Eg.kp {u w : gw_St} (f : Gf (fun _ => False) Kp u w) : Eg u w := ⟨funext fun p => funext fun k => f.2.1 p (fun q => q) k, fun p k _ => by rw [f.1], fun a i q => f.2.2 a i (fun e => by unfold Kp at e; omega)⟩
theorem Eg.mr {k : Nat} {u w : gw_St} (f : Mr k u w) : Eg u w := ⟨by rw [f.1], fun p k _ => by rw [f.1], fun a i q => f.2 a i (by omega) (by omega) (by omega)⟩
theorem gv_Wk.eg {u w : gw_St} {n r : Nat} (h : gv_Wk u n r) (f : Eg u w) : gv_Wk w n r := h.same (fun p k ht => f.2.2 p k (fun e => by
  simp only [gv_T_wk, Bool.or_eq_true, Bool.and_eq_true, beq_iff_eq] at ht
  omega))
theorem rv_eg {u w : gw_St} (f : Eg u w) : rv w = rv u := funext fun j => rv_eq (fun k => f.2.2 7 k (by omega)) (fun k => f.2.2 8 k (by omega))
theorem el_lt {R : Nat → Nat → Int} {m n k cr : Nat} {A : Nat → Nat → Int} {s : Nat → Nat} (h : El R m n A s k) (hcr : cr < n) (hs : ∀ l, l < k → s l ≠ cr) : k + 1 ≤ n := by
  refine inj_le (t := exr s k cr) (fun l hl => ?_) (fun l m hl hm e => ?_)
  · unfold exr
    by_cases q : l = k
    · rw [if_pos q]; exact hcr
    · rw [if_neg q]; exact h.2.1 l (by omega)
  · unfold exr at e
    by_cases q : l = k
    · by_cases q2 : m = k
      · omega
      · rw [if_pos q, if_neg q2] at e
        exact absurd e.symm (hs m (by omega))
    · by_cases q2 : m = k
      · rw [if_neg q, if_pos q2] at e
        exact absurd e (hs l (by omega))
      · rw [if_neg q, if_neg q2] at e
        exact h.2.2.1 l m (by omega) (by omega) e
/-- takeAll -/
theorem eq_takeAll {F : Nat} (hF : 2000 ≤ F) {u : gw_St} {n r cr pc : Nat} (hr : gv_Rf u) (hw : gv_Wk u n r) (hcr : cr < n) (hc6 : u.1 6 4 = Int32.ofNat cr) (hpc : pc = 41 ∨ pc = 43) (hp11 : u.2.2 22 11 = pc + 1) (hp12 : u.2.2 22 12 = 84 - pc + 1) : ∃ w A s k pc', Eg u w ∧ Eq1 w n cr k A s pc' ∧ ((∃ l, l < r ∧ gf_Equations_takeAll F gv_z u 22 6 = some (Int32.ofNat l, w) ∧ (∀ i, i < l → Cl u n cr i) ∧ Ch u n cr l) ∨ (gf_Equations_takeAll F gv_z u 22 6 = some (-1, w) ∧ (∀ i, i < r → Cl u n cr i) ∧ El (rv u) r n A s k ∧ ∀ l, l < k → s l ≠ cr)) := by
  have hn := hw.1
  have hr120 := hw.2.1
  have hb : ∀ j, j < r → Bd n (rv u j) := fun j hj => bd_rv hw hj
  have hw63 : u.1 6 3 = Int32.ofNat r := hw.2.2.2.2.1
  have hw62 : u.1 6 2 = Int32.ofNat n := hw.2.2.1
  have run : ∀ (d j f : Nat) (w : gw_St) (A : Nat → Nat → Int) (s : Nat → Nat) (k pc : Nat), j + d = r → d < f → Eg u w → Eq1 w n cr k A s pc → El (rv u) j n A s k → (∀ l, l < k → s l ≠ cr) → (∀ i, i < j → Cl u n cr i) → ∃ w' A' s' k' pc', Eg u w' ∧ Eq1 w' n cr k' A' s' pc' ∧ ((∃ l, l < r ∧ gf_Equations_takeAll_L39 F gv_z f w 22 6 (Int32.ofNat j) = some (Int32.ofNat l, w') ∧ (∀ i, i < l → Cl u n cr i) ∧ Ch u n cr l) ∨ (gf_Equations_takeAll_L39 F gv_z f w 22 6 (Int32.ofNat j) = some (-1, w') ∧ (∀ i, i < r → Cl u n cr i) ∧ El (rv u) r n A' s' k' ∧ ∀ l, l < k' → s' l ≠ cr)) := by
    intro d
    induction d with
    | zero =>
      intro j f w A s k pc hj hf hg hE hEl hs hC
      obtain ⟨f, rfl⟩ : ∃ q, f = q + 1 := ⟨f - 1, by omega⟩
      have : j = r := by omega
      subst this
      refine ⟨w, A, s, k, pc, hg, hE, Or.inr ⟨?_, hC, hEl, hs⟩⟩
      show gf_Equations_takeAll_S39 F gv_z _ w 22 6 (Int32.ofNat j) = _
      unfold gf_Equations_takeAll_S39
      rw [hg.2.2 6 3 (by omega), hw63, if_pos ((gi_le (by omega) (by omega)).mpr (Nat.le_refl _))]
    | succ d ih =>
      intro j f w A s k pc hj hf hg hE hEl hs hC
      obtain ⟨f, rfl⟩ : ∃ q, f = q + 1 := ⟨f - 1, by omega⟩
      have hjr : j < r := by omega
      have hrw := hr.eg hg
      have hww := hw.eg hg
      have hb1 : ∀ i, i < j + 1 → Bd n (rv u i) := fun i hi => hb i (by omega)
      have hb0 : ∀ i, i < j → Bd n (rv u i) := fun i hi => hb i (by omega)
      obtain ⟨w1, cnt, G, g, a1, a2, a3, a4⟩ := eq_setTerms (F := F) hrw hww hjr
      rw [rv_eg hg] at a4
      have r1 := hrw.gf a2
      have hE1 := hE.kp a2
      obtain ⟨w2, x, b1, b2, b3, b4⟩ := eq_newRow (F := F) hF r1 hn hcr hE1 a3 a4 hEl.2.2.1 (b660 (hEl.bd hb0 hn)) (fun c hc hsc => ⟨fun l hl => b660 (hEl.bdC hb0 hn hc hsc), hEl.bdN hb1 hn hc⟩)
      have hE2 := hE1.mr hn b2
      have r2 := r1.mr b2
      have g2 : Eg u w2 := hg.trans ((Eg.kp a2).trans (Eg.mr b2))
      have hk60 := hE2.2.2.2.2.2.2.1
      have hcrow := b4 cr hcr hs
      have hhead : gf_Equations_takeAll_L39 F gv_z (f + 1) w 22 6 (Int32.ofNat j) = if x = (-1 : Int32) then (if w2.1 24 (60 * k + cr) = 0 then gf_Equations_takeAll_L39 F gv_z f w2 22 6 (Int32.ofNat (j + 1)) else some (Int32.ofNat j, w2)) else ((gf_Equations_giveColumn F gv_z w2 22 x).bind fun u17 => gf_Equations_takeAll_L39 F gv_z f u17 22 6 (Int32.ofNat (j + 1))) := by
        show gf_Equations_takeAll_S39 F gv_z _ w 22 6 (Int32.ofNat j) = _
        unfold gf_Equations_takeAll_S39 gf_Equations_takeAll_b92
        rw [hg.2.2 6 3 (by omega), hw63, if_neg (fun e => by have := (gi_le (by omega) (by omega)).mp e; omega), a1, Option.bind_some, b1]
        simp only [gf_cl, gf_nm]
        rw [r2.get rfl gv_r22_2, gnn, hE2.2.2.2.2.2.1, hE2.2.2.2.2.1, show gf_Equations_at F gv_z w2 (Int32.ofNat k) (Int32.ofNat cr) = some (Int32.ofNat (60 * k + cr), w2) from by show some (Int32.ofNat k * 60 + Int32.ofNat cr, w2) = _; rw [gi_cell]]
        simp only []
        rw [if_neg (gi_ix (by rw [gv_l24]; omega) (by omega)), i32_clamp (by omega), gw_iS]
      rw [hhead]
      rcases b3 with ⟨o1, o2⟩ | ⟨a, o1, o2, o3, o4, o5⟩
      · rw [if_pos o1]
        have hz : ∀ c, c < n → c ≠ cr → eN A s k (rv u j) c = 0 := fun c hc hne => by
          by_cases q : ∃ l, l < k ∧ s l = c
          · obtain ⟨l, hl, e⟩ := q
            rw [← e]; exact eN_piv hl
          · exact o2 c hc hne (fun l hl e => q ⟨l, hl, e⟩)
        by_cases z : eN A s k (rv u j) cr = 0
        · rw [if_pos (hcrow.zero.mpr z)]
          have hEl' := hEl.skip (fun c hc => by
            by_cases q : c = cr
            · rw [q]; exact z
            · exact hz c hc q)
          refine ih (j + 1) f w2 A s k pc (by omega) (by omega) g2 hE2 hEl' hs (fun i hi => ?_)
          by_cases q : i = j
          · rw [q]; exact el_Cl hw hjr hcr hEl' hs
          · exact hC i (by omega)
        · rw [if_neg (fun e => z (hcrow.zero.mp e))]
          exact ⟨w2, A, s, k, pc, g2, hE2, Or.inl ⟨j, hjr, rfl, hC, el_Ch hw hjr hcr hEl hs hz z⟩⟩
      · rw [if_neg (fun e => by rw [o2] at e; have := congrArg Int32.toInt e; rw [i32_nat (by omega)] at this; have o : (-1 : Int32).toInt = -1 := rfl; omega), o2]
        obtain ⟨hEl', -⟩ := hEl.step o1 o5
        have hs' : ∀ l, l < k + 1 → exr s k a l ≠ cr := fun l hl => by
          unfold exr
          by_cases q : l = k
          · rw [if_pos q]; exact o3
          · rw [if_neg q]; exact hs l (by omega)
        have hlt := el_lt hEl' hcr hs'
        obtain ⟨w3, c1, c2, c3⟩ := eq_give (F := F) hF r2 hn hE2 hEl hb1 o1 o5 (by omega) b4
        rw [c1, Option.bind_some]
        refine ih (j + 1) f w3 _ _ (k + 1) (84 - pc) (by omega) (by omega) (g2.trans c2) c3 hEl' hs' (fun i hi => ?_)
        by_cases q : i = j
        · rw [q]; exact el_Cl hw hjr hcr hEl' hs'
        · exact hC i (by omega)
  -- the start
  have hrp : u.2.2 pc 0 = pc + 1 + 1 ∧ gv_z.2.2 (pc + 1) = 48 := by
    rcases hpc with e | e <;> subst e
    · exact ⟨hr.get rfl gv_r41_0, gv_l42⟩
    · exact ⟨hr.get rfl gv_r43_0, gv_l44⟩
  generalize hg1 : gw_wi u 22 14 (Int32.ofNat n) = g1
  generalize hg2 : gw_wi g1 22 16 (Int32.ofNat cr) = g2
  generalize hg3 : gw_wi g2 22 15 0 = g3
  have gi : ∀ b i, g3.1 b i = if b = 22 ∧ i = 15 then 0 else if b = 22 ∧ i = 16 then Int32.ofNat cr else if b = 22 ∧ i = 14 then Int32.ofNat n else u.1 b i := fun b i => by
    rw [← hg3, ← hg2, ← hg1]
    rfl
  have gu : g3.2 = u.2 := by rw [← hg3, ← hg2, ← hg1]; rfl
  obtain ⟨w1, a1, a2, a3⟩ := gw_setLong (F := F) hF (z := gv_z) (p := pc) (q := pc + 1) (u := g3) (y := 1) (by omega) (by rw [gu]; exact hrp.1) (by omega) (by decide) (by decide)
  have u1 : w1.2 = u.2 := a2.1.trans gu
  have r1 : gv_Rf w1 := hr.eq (by rw [u1])
  obtain ⟨w2, b1, b2⟩ := gs_fill25 (F := F) hF (u := w1)
  have u2 : w2.2 = u.2 := b2.1.trans u1
  have hb2 : ∀ a i, ¬ (a = 25 ∧ i < 60) → w2.1 a i = w1.1 a i := b2.2.1
  have i1 : ∀ a i, a ≠ pc → a ≠ pc + 1 → w1.1 a i = g3.1 a i := fun a i q1 q2 => a2.2 a i q2 (fun e => q1 e.1)
  have hg : Eg u w2 := Eg.of u2 (fun a i q => by rw [hb2 a i (by omega), i1 a i (by omega) (by omega), gi, if_neg (by omega), if_neg (by omega), if_neg (by omega)])
  have hE : Eq1 w2 n cr 0 (fun _ _ => 0) (fun _ => 0) pc := by
    refine ⟨hpc, by rw [u2]; exact hp11, by rw [u2]; exact hp12, ?_, ?_, ?_, by omega, ?_, fun l hl => absurd hl (Nat.not_lt_zero l), fun c hc _ => b2.2.2 c (by omega), fun l hl => absurd hl (Nat.not_lt_zero l)⟩
    · rw [hb2 _ _ (by omega), i1 _ _ (by omega) (by omega), gi, if_neg (by omega), if_neg (by omega), if_pos ⟨rfl, rfl⟩]
    · rw [hb2 _ _ (by omega), i1 _ _ (by omega) (by omega), gi, if_neg (by omega), if_pos ⟨rfl, rfl⟩]
    · rw [hb2 _ _ (by omega), i1 _ _ (by omega) (by omega), gi, if_pos ⟨rfl, rfl⟩]; rfl
    · show Wh w2 pc (pc + 1) 1
      exact (show Wh w1 pc (pc + 1) 1 from a3).same (fun i => hb2 _ _ (by omega)) (fun i => hb2 _ _ (by omega))
  obtain ⟨w', A', s', k', pc', c1, c2, c3⟩ := run r 0 F w2 _ _ 0 pc (by omega) (by omega) hg hE El.zero (fun l hl => absurd hl (Nat.not_lt_zero l)) (fun i hi => absurd hi (Nat.not_lt_zero i))
  have hst : gf_Equations_takeAll F gv_z u 22 6 = gf_Equations_takeAll_L39 F gv_z F w2 22 6 (Int32.ofNat 0) := by
    show gf_Equations_takeAll_b0 F gv_z u 22 6 = _
    unfold gf_Equations_takeAll_b0
    simp only [gf_nm]
    rw [hw62, hg1, show g1.1 6 4 = Int32.ofNat cr from by rw [← hg1, wi_ne (by omega)]; exact hc6, hg2, hg3, show g3.2.2 22 11 = pc + 1 from by rw [gu]; exact hp11, gnn, a1, Option.bind_some, r1.get rfl gv_r22_3, gnn, b1, Option.bind_some]
    rfl
  rw [hst]
  exact ⟨w', A', s', k', pc', c1, c2, c3⟩
