/-- nothing is changed but the numbers in use, the calculator's and row l's cells -/
def Cg (l : Nat) (u w : gw_St) : Prop := w.2 = u.2 ∧ ∀ a i, ¬ (28 ≤ a ∧ a ≤ 29 ∨ 32 ≤ a ∧ a ≤ 35) → ¬ (10 ≤ a ∧ a ≤ 15) → ¬ (a = 24 ∧ 60 * l ≤ i ∧ i < 60 * l + 60) → ¬ (a = 23 ∧ 22 * (60 * l) ≤ i ∧ i < 22 * (60 * l + 60)) → w.1 a i = u.1 a i
theorem Cg.refl {l : Nat} {u : gw_St} : Cg l u u := ⟨rfl, fun _ _ _ _ _ _ => rfl⟩
theorem Cg.trans {l : Nat} {u v w : gw_St} (h : Cg l u v) (g : Cg l v w) : Cg l u w := ⟨g.1.trans h.1, fun a j q1 q2 q3 q4 => (g.2 a j q1 q2 q3 q4).trans (h.2 a j q1 q2 q3 q4)⟩
theorem Cf.cg {l c : Nat} (hc : c < 60) {u w : gw_St} (h : Cf (60 * l + c) u w) : Cg l u w := ⟨h.1, fun a i q1 q2 q3 q4 => h.2 a i q1 q2 (by omega) (by omega)⟩
theorem Wh.sg0 {u : gw_St} {p q : Nat} {v : Int} (h : Wh u p q v) : u.1 p 2 = 0 → v = 0 := fun e => by
  obtain ⟨n, h⟩ := h
  have := h.sg
  rw [e] at this
  exact Int.sign_eq_zero_iff_zero.mp this.symm
theorem eq_clrS {F : Nat} {u : gw_St} {n l k c a : Nat} {rc : gw_St → Nat → Int32 → Int32 → Int32 → Option gw_St} (hr : gv_Rf u) (hn : n ≤ 60) (h14 : u.1 22 14 = Int32.ofNat n) (h15 : u.1 22 15 = Int32.ofNat k) (hl : l < 60) (hk : k < 60) (hc : c < n) : ∃ sx : Int32, gf_Equations_clearColumn_S12 F gv_z rc u 22 (Int32.ofNat l) (Int32.ofNat a) (Int32.ofNat c) = gf_Equations_clearColumn_b64 F gv_z rc u 22 (Int32.ofNat l) (Int32.ofNat a) (Int32.ofNat c) sx ∧ (sx = 0 ∨ sx = 1 ∧ u.1 24 (60 * l + c) = 0 ∧ (u.1 30 2 = 0 ∨ u.1 24 (60 * k + c) = 0)) := by
  have hat : ∀ m, gf_Equations_at F gv_z u (Int32.ofNat m) (Int32.ofNat c) = some (Int32.ofNat (60 * m + c), u) := fun m => by
    show some (Int32.ofNat m * 60 + Int32.ofNat c, u) = _
    rw [gi_cell]
  unfold gf_Equations_clearColumn_S12
  rw [h14, if_neg (fun e => by have := (gi_le (by omega) (by omega)).mp e; omega), hr.get rfl gv_r22_2, gnn, hat]
  simp only [gf_cl]
  rw [if_neg (gi_ix (by rw [gv_l24]; omega) (by omega)), i32_clamp (by omega)]
  by_cases z1 : u.1 24 (60 * l + c) = 0
  · rw [if_pos z1, hr.get rfl gv_r22_7, gnn]
    by_cases z2 : u.1 30 2 = 0
    · rw [if_pos z2]
      exact ⟨1, rfl, Or.inr ⟨rfl, z1, Or.inl z2⟩⟩
    · rw [if_neg z2, hr.get rfl gv_r22_2, gnn, h15, hat]
      simp only []
      rw [if_neg (gi_ix (by rw [gv_l24]; omega) (by omega)), i32_clamp (by omega)]
      by_cases z3 : u.1 24 (60 * k + c) = 0
      · rw [if_pos z3]
        exact ⟨1, rfl, Or.inr ⟨rfl, z1, Or.inr z3⟩⟩
      · rw [if_neg z3]
        exact ⟨0, rfl, Or.inl rfl⟩
  · rw [if_neg z1]
    exact ⟨0, rfl, Or.inl rfl⟩
theorem eq_clr64 {F : Nat} {u : gw_St} {l a c : Nat} {sx : Int32} {rc : gw_St → Nat → Int32 → Int32 → Int32 → Option gw_St} (hr : gv_Rf u) (hc : c < 60) (ha : a < 60) (h : u.1 25 c ≠ -1 ∨ c = a ∨ sx = 1) : gf_Equations_clearColumn_b64 F gv_z rc u 22 (Int32.ofNat l) (Int32.ofNat a) (Int32.ofNat c) sx = rc u 22 (Int32.ofNat l) (Int32.ofNat a) (Int32.ofNat (c + 1)) := by
  have e185 : gf_Equations_clearColumn_b185 F gv_z rc u 22 (Int32.ofNat l) (Int32.ofNat a) (Int32.ofNat c) = rc u 22 (Int32.ofNat l) (Int32.ofNat a) (Int32.ofNat (c + 1)) := by
    unfold gf_Equations_clearColumn_b185
    simp only [gf_nm]
    rw [gw_iS]
  unfold gf_Equations_clearColumn_b64
  rw [e185, hr.get rfl gv_r22_3, gnn, if_neg (gi_ix (by rw [gv_l25]; omega) (by omega)), i32_clamp (by omega)]
  by_cases z1 : u.1 25 c = -1
  · rw [if_pos z1]
    by_cases z2 : c = a
    · rw [if_pos (by rw [z2])]
    · rw [if_neg (fun e => z2 ((gi_eq (by omega) (by omega)).mp e))]
      rcases h with h | h | h
      · exact absurd z1 h
      · exact absurd h z2
      · rw [if_neg (by rw [h]; decide)]
  · rw [if_neg z1]
/-- clearColumn -/
theorem eq_clear {F : Nat} (hF : 2000 ≤ F) {u : gw_St} {n l k a pc : Nat} {f x D : Int} {y z q : Nat → Int} (hr : gv_Rf u) (hn : n ≤ 60) (hpc : pc = 41 ∨ pc = 43) (h11 : u.2.2 22 11 = pc + 1) (h12 : u.2.2 22 12 = 84 - pc + 1) (h14 : u.1 22 14 = Int32.ofNat n) (h15 : u.1 22 15 = Int32.ofNat k) (hl : l < k) (hk : k < 60) (ha : a < n) (hx : Wh u (84 - pc) (84 - pc + 1) x) (hD : Wh u pc (pc + 1) D) (hf : Cw u (60 * l + a) f) (hyz : ∀ c, c < n → u.1 25 c = -1 → Cw u (60 * l + c) (y c) ∧ Cw u (60 * k + c) (z c) ∧ (y c).natAbs < 2 ^ 660 ∧ (z c).natAbs < 2 ^ 660 ∧ (q c).natAbs < 2 ^ 660 ∧ D * q c = x * y c - f * z c) (bf : f.natAbs < 2 ^ 660) (bx : x.natAbs < 2 ^ 660) (bD : D.natAbs < 2 ^ 660) (hD0 : D ≠ 0) : ∃ w, gf_Equations_clearColumn F gv_z u 22 (Int32.ofNat l) (Int32.ofNat a) = some w ∧ w.2 = u.2 ∧ (∀ a i, ¬ (28 ≤ a ∧ a ≤ 35) → ¬ (10 ≤ a ∧ a ≤ 15) → ¬ (a = 24 ∧ 60 * l ≤ i ∧ i < 60 * l + 60) → ¬ (a = 23 ∧ 22 * (60 * l) ≤ i ∧ i < 22 * (60 * l + 60)) → w.1 a i = u.1 a i) ∧ ∀ c, c < n → u.1 25 c = -1 → c ≠ a → Cw w (60 * l + c) (q c) := by
  obtain ⟨u1, n1, a1, a2, -, a4⟩ := eq_load (F := F) (p := 30) (q := 31) (row := l) (col := a) hr (by omega) (by omega) (by omega) (hr.get rfl gv_r30_0) (by rw [gv_l31]; omega) (by omega) (by omega) hf
  have s1 : Wp (fun a => 30 ≤ a ∧ a ≤ 31) u u1 := a2.wp ⟨by omega, by omega⟩ ⟨by omega, by omega⟩
  have r1 := hr.wp s1
  have hf1 : Wh u1 30 31 f := ⟨n1, a4⟩
  have run : ∀ (j c fu : Nat) (w : gw_St), c + j = n → j < fu → Cg l u1 w → (∀ d, d < n → u.1 25 d = -1 → d ≠ a → Cw w (60 * l + d) (if d < c then q d else y d)) → ∃ w', gf_Equations_clearColumn_L12 F gv_z fu w 22 (Int32.ofNat l) (Int32.ofNat a) (Int32.ofNat c) = some w' ∧ Cg l u1 w' ∧ (∀ d, d < n → u.1 25 d = -1 → d ≠ a → Cw w' (60 * l + d) (q d)) := by
    intro j
    induction j with
    | zero =>
      intro c fu w hc hfu hm hw
      obtain ⟨fu, rfl⟩ : ∃ q, fu = q + 1 := ⟨fu - 1, by omega⟩
      have : c = n := by omega
      subst this
      refine ⟨w, ?_, hm, fun d hd h1 h2 => by have := hw d hd h1 h2; rw [if_pos hd] at this; exact this⟩
      show gf_Equations_clearColumn_S12 F gv_z _ w 22 _ _ (Int32.ofNat c) = _
      unfold gf_Equations_clearColumn_S12
      rw [hm.2 22 14 (by omega) (by omega) (by omega) (by omega), s1.2 22 (by omega), h14, if_pos ((gi_le (by omega) (by omega)).mpr (Nat.le_refl _))]
    | succ j ih =>
      intro c fu w hc hfu hm hw
      obtain ⟨fu, rfl⟩ : ∃ q, fu = q + 1 := ⟨fu - 1, by omega⟩
      have hcn : c < n := by omega
      have hrw : gv_Rf w := r1.eq (by rw [hm.1])
      have same : ∀ b i, ¬ (28 ≤ b ∧ b ≤ 35) → ¬ (10 ≤ b ∧ b ≤ 15) → ¬ (b = 24 ∧ 60 * l ≤ i ∧ i < 60 * l + 60) → ¬ (b = 23 ∧ 22 * (60 * l) ≤ i ∧ i < 22 * (60 * l + 60)) → w.1 b i = u.1 b i := fun b i q1 q2 q3 q4 => by rw [hm.2 b i (by omega) q2 q3 q4, s1.2 b (by omega)]
      have e2 : w.2 = u.2 := hm.1.trans s1.1
      have hfw : Wh w 30 31 f := hf1.same (fun i => hm.2 30 i (by omega) (by omega) (by omega) (by omega)) (fun i => hm.2 31 i (by omega) (by omega) (by omega) (by omega))
      have hxw : Wh w (84 - pc) (84 - pc + 1) x := hx.same (fun i => same _ i (by omega) (by omega) (by omega) (by omega)) (fun i => same _ i (by omega) (by omega) (by omega) (by omega))
      have hDw : Wh w pc (pc + 1) D := hD.same (fun i => same _ i (by omega) (by omega) (by omega) (by omega)) (fun i => same _ i (by omega) (by omega) (by omega) (by omega))
      have h25 : w.1 25 c = u.1 25 c := same 25 c (by omega) (by omega) (by omega) (by omega)
      have h15w : w.1 22 15 = Int32.ofNat k := by rw [same 22 15 (by omega) (by omega) (by omega) (by omega)]; exact h15
      obtain ⟨sx, t1, t2⟩ := eq_clrS (F := F) (a := a) (rc := gf_Equations_clearColumn_L12 F gv_z fu) hrw hn (by rw [same 22 14 (by omega) (by omega) (by omega) (by omega)]; exact h14) h15w (show l < 60 by omega) hk hcn
      have hgo : gf_Equations_clearColumn_L12 F gv_z (fu + 1) w 22 (Int32.ofNat l) (Int32.ofNat a) (Int32.ofNat c) = gf_Equations_clearColumn_b64 F gv_z (gf_Equations_clearColumn_L12 F gv_z fu) w 22 (Int32.ofNat l) (Int32.ofNat a) (Int32.ofNat c) sx := t1
      rw [hgo]
      by_cases c1 : u.1 25 c = -1 ∧ c ≠ a
      · obtain ⟨c1, c2⟩ := c1
        obtain ⟨y1, y2, y3, y4, y5, y6⟩ := hyz c hcn c1
        have hyw := hw c hcn c1 c2
        rw [if_neg (Nat.lt_irrefl c)] at hyw
        have hzw : Cw w (60 * k + c) (z c) := y2.same (same 24 _ (by omega) (by omega) (by omega) (by omega)) (fun i _ => same 23 _ (by omega) (by omega) (by omega) (by omega))
        rcases t2 with e | ⟨e, t3, t4⟩
        · subst e
          obtain ⟨w', b1, b2, b3⟩ := eq_clr0 (F := F) hF (rc := gf_Equations_clearColumn_L12 F gv_z fu) hrw hpc (by rw [e2]; exact h11) (by rw [e2]; exact h12) h15w (by omega) hk (by omega) (by omega) c2 (by rw [h25]; exact c1) hfw hxw hDw hyw hzw bf bx bD y3 y4 y5 hD0 y6
          rw [b1]
          refine ih (c + 1) fu w' (by omega) (by omega) (hm.trans (b2.cg (by omega))) (fun d hd h1 h2 => ?_)
          by_cases e : d = c
          · rw [e, if_pos (by omega)]; exact b3
          · have := (hw d hd h1 h2).same (w := w') (b2.2 24 _ (by omega) (by omega) (by omega) (by omega)) (fun i hi => b2.2 23 _ (by omega) (by omega) (by omega) (by omega))
            rw [show (if d < c + 1 then q d else y d) = if d < c then q d else y d from by
              by_cases g : d < c
              · rw [if_pos g, if_pos (by omega)]
              · rw [if_neg g, if_neg (by omega)]]
            exact this
        · rw [eq_clr64 hrw (by omega) (by omega) (Or.inr (Or.inr e))]
          have hy0 : y c = 0 := hyw.zero.mp t3
          have hq0 : q c = 0 := by
            have : f * z c = 0 := by
              rcases t4 with t4 | t4
              · rw [hfw.sg0 t4, Int.zero_mul]
              · rw [hzw.zero.mp t4, Int.mul_zero]
            rw [this, hy0, Int.mul_zero, Int.sub_zero] at y6
            exact (Int.mul_eq_zero.mp y6).resolve_left hD0
          refine ih (c + 1) fu w (by omega) (by omega) hm (fun d hd h1 h2 => ?_)
          by_cases e : d = c
          · rw [e, if_pos (by omega), hq0, ← hy0]; exact hyw
          · rw [show (if d < c + 1 then q d else y d) = if d < c then q d else y d from by
              by_cases g : d < c
              · rw [if_pos g, if_pos (by omega)]
              · rw [if_neg g, if_neg (by omega)]]
            exact hw d hd h1 h2
      · rw [eq_clr64 hrw (by omega) (by omega) (by
          by_cases g : u.1 25 c = -1
          · exact Or.inr (Or.inl (Classical.byContradiction fun g2 => c1 ⟨g, g2⟩))
          · exact Or.inl (by rw [h25]; exact g))]
        refine ih (c + 1) fu w (by omega) (by omega) hm (fun d hd h1 h2 => ?_)
        have hne : d ≠ c := fun e => c1 ⟨by rw [← e]; exact h1, by rw [← e]; exact h2⟩
        rw [show (if d < c + 1 then q d else y d) = if d < c then q d else y d from by
          by_cases g : d < c
          · rw [if_pos g, if_pos (by omega)]
          · rw [if_neg g, if_neg (by omega)]]
        exact hw d hd h1 h2
  obtain ⟨w', b1, b2, b3⟩ := run n 0 F u1 (by omega) (by omega) Cg.refl (fun d hd h1 h2 => by
    rw [if_neg (Nat.not_lt_zero d)]
    exact (hyz d hd h1).1.same (s1.2 24 (by omega) _) (fun i _ => s1.2 23 (by omega) _))
  refine ⟨w', ?_, b2.1.trans s1.1, fun b i q1 q2 q3 q4 => by rw [b2.2 b i (by omega) q2 q3 q4, s1.2 b (by omega)], b3⟩
  show gf_Equations_clearColumn_b0 F gv_z u 22 (Int32.ofNat l) (Int32.ofNat a) = _
  unfold gf_Equations_clearColumn_b0
  rw [hr.get rfl gv_r22_7, gnn, a1, Option.bind_some]
  exact b1
