theorem b660 {x : Int} (h : x.natAbs < 2 ^ 660) : x.natAbs < 2147483648 ^ 22 := Nat.lt_of_lt_of_le h (by decide +kernel)
/-- nothing is changed but the numbers in use, the calculator's and the cell at j -/
def Cf (j : Nat) (u w : gw_St) : Prop := w.2 = u.2 ∧ ∀ a i, ¬ (28 ≤ a ∧ a ≤ 29 ∨ 32 ≤ a ∧ a ≤ 35) → ¬ (10 ≤ a ∧ a ≤ 15) → ¬ (a = 24 ∧ i = j) → ¬ (a = 23 ∧ 22 * j ≤ i ∧ i < 22 * j + 22) → w.1 a i = u.1 a i
/-- one cell made anew -/
theorem eq_clr0 {F : Nat} (hF : 2000 ≤ F) {u : gw_St} {l k c a pc : Nat} {f x D y z q : Int} {rc : gw_St → Nat → Int32 → Int32 → Int32 → Option gw_St} (hr : gv_Rf u) (hpc : pc = 41 ∨ pc = 43) (h11 : u.2.2 22 11 = pc + 1) (h12 : u.2.2 22 12 = 84 - pc + 1) (h15 : u.1 22 15 = Int32.ofNat k) (hl : l < 60) (hk : k < 60) (hc : c < 60) (ha : a < 60) (hca : c ≠ a) (hro : u.1 25 c = -1) (hf : Wh u 30 31 f) (hx : Wh u (84 - pc) (84 - pc + 1) x) (hD : Wh u pc (pc + 1) D) (hy : Cw u (60 * l + c) y) (hz : Cw u (60 * k + c) z) (bf : f.natAbs < 2 ^ 660) (bx : x.natAbs < 2 ^ 660) (bD : D.natAbs < 2 ^ 660) (hy2 : y.natAbs < 2 ^ 660) (bz : z.natAbs < 2 ^ 660) (bq : q.natAbs < 2 ^ 660) (hD0 : D ≠ 0) (hq : D * q = x * y - f * z) : ∃ w, gf_Equations_clearColumn_b64 F gv_z rc u 22 (Int32.ofNat l) (Int32.ofNat a) (Int32.ofNat c) 0 = rc w 22 (Int32.ofNat l) (Int32.ofNat a) (Int32.ofNat (c + 1)) ∧ Cf (60 * l + c) u w ∧ Cw w (60 * l + c) q := by
  have hpp : 84 - pc = 41 ∨ 84 - pc = 43 := by omega
  have hrp : ∀ {v : gw_St}, gv_Rf v → ∀ p, p = 41 ∨ p = 43 → v.2.2 p 0 = p + 1 + 1 ∧ gv_z.2.2 (p + 1) = 48 := fun hv p hp => by
    rcases hp with e | e <;> subst e
    · exact ⟨hv.get rfl gv_r41_0, gv_l42⟩
    · exact ⟨hv.get rfl gv_r43_0, gv_l44⟩
  -- the row's cell
  obtain ⟨w1, n1, a1, a2, a3, a4⟩ := eq_load (F := F) (p := 28) (q := 29) (row := l) (col := c) hr (by omega) (by omega) (by omega) (hr.get rfl gv_r28_0) (by rw [gv_l29]; omega) hl hc hy
  have s1 : Wp (fun a => 28 ≤ a ∧ a ≤ 29) u w1 := a2.wp ⟨by omega, by omega⟩ ⟨by omega, by omega⟩
  have r1 := hr.wp s1
  obtain ⟨nx, hx1⟩ := hx.wp s1 (by omega) (by omega)
  obtain ⟨hp1, hp2⟩ := hrp r1 (84 - pc) hpp
  have mx := hx1.most (b660 bx)
  obtain ⟨w2, b1, b2, b3⟩ := gw_product (F := F) hF (z := gv_z) (p := 34) (q := 35) (p1 := 84 - pc) (q1 := 84 - pc + 1) (p2 := 28) (q2 := 29) (u := w1) (by omega) (by omega) (by omega) (by omega) (by omega) (by omega) (by omega) (by omega) (by omega) (r1.get rfl gv_r34_0) hp1 (r1.get rfl gv_r28_0) hx1 a4 (by omega) (by rw [gv_l29]; omega) (by rw [gv_l35]; omega) (by rw [gv_l35]; omega)
  have s2 : Wp (fun a => 34 ≤ a ∧ a ≤ 35) w1 w2 := b2.wp ⟨by omega, by omega⟩ ⟨by omega, by omega⟩
  have r2 := r1.wp s2
  have e12 : ∀ a i, ¬ (28 ≤ a ∧ a ≤ 29) → ¬ (34 ≤ a ∧ a ≤ 35) → w2.1 a i = u.1 a i := fun a i q1 q2 => by rw [s2.2 a q2, s1.2 a q1]
  have hz2 : Cw w2 (60 * k + c) z := hz.same (e12 24 _ (by omega) (by omega)) (fun i _ => e12 23 _ (by omega) (by omega))
  obtain ⟨w3, n3, c1, c2, c3, c4⟩ := eq_load (F := F) (p := 28) (q := 29) (row := k) (col := c) r2 (by omega) (by omega) (by omega) (r2.get rfl gv_r28_0) (by rw [gv_l29]; omega) hk hc hz2
  have s3 : Wp (fun a => 28 ≤ a ∧ a ≤ 29) w2 w3 := c2.wp ⟨by omega, by omega⟩ ⟨by omega, by omega⟩
  have r3 := r2.wp s3
  obtain ⟨nf, hf3⟩ := ((hf.wp s1 (by omega) (by omega)).wp s2 (by omega) (by omega)).wp s3 (by omega) (by omega)
  have mf := hf3.most (b660 bf)
  obtain ⟨w4, d1, d2, d3⟩ := gw_product (F := F) hF (z := gv_z) (p := 32) (q := 33) (p1 := 30) (q1 := 31) (p2 := 28) (q2 := 29) (u := w3) (by omega) (by omega) (by omega) (by omega) (by omega) (by omega) (by omega) (by omega) (by omega) (r3.get rfl gv_r32_0) (r3.get rfl gv_r30_0) (r3.get rfl gv_r28_0) hf3 c4 (by rw [gv_l31]; omega) (by rw [gv_l29]; omega) (by rw [gv_l33]; omega) (by rw [gv_l33]; omega)
  have s4 : Wp (fun a => 32 ≤ a ∧ a ≤ 33) w3 w4 := d2.wp ⟨by omega, by omega⟩ ⟨by omega, by omega⟩
  have r4 := r3.wp s4
  obtain ⟨ns, hs4⟩ := (b3.wp s3 (by omega) (by omega)).wp s4 (by omega) (by omega)
  obtain ⟨np, hp4⟩ := d3
  have big : ∀ {v w : Int}, v.natAbs < 2 ^ 660 → w.natAbs < 2 ^ 660 → (v * w).natAbs < 2147483648 ^ 43 := fun {v w} h1 h2 => by
    rw [Int.natAbs_mul]
    have h3 : v.natAbs * w.natAbs ≤ 2 ^ 660 * 2 ^ 660 := Nat.mul_le_mul (Nat.le_of_lt h1) (Nat.le_of_lt h2)
    have h4 : 2 ^ 660 * 2 ^ 660 < 2147483648 ^ 43 := by decide +kernel
    exact Nat.lt_of_le_of_lt h3 h4
  have ms := hs4.most (big bx hy2)
  have mp := hp4.most (big bf bz)
  obtain ⟨w5, e1, e2, e3⟩ := gw_difference (F := F) hF (z := gv_z) (p := 34) (q := 35) (p1 := 34) (q1 := 35) (p2 := 32) (q2 := 33) (u := w4) (by omega) (by omega) (by omega) (r4.get rfl gv_r34_0) (r4.get rfl gv_r34_0) (r4.get rfl gv_r32_0) hs4 hp4 (by rw [gv_l35]; omega) (by rw [gv_l33]; omega) (by rw [gv_l35]; omega) (by rw [gv_l35]; omega) (by rw [gv_l35]; omega)
  have s5 : Wp (fun a => 34 ≤ a ∧ a ≤ 35) w4 w5 := e2.wp ⟨by omega, by omega⟩ ⟨by omega, by omega⟩
  have r5 := r4.wp s5
  rw [← hq] at e3
  obtain ⟨nd, hd5⟩ := e3
  obtain ⟨nc, hc5⟩ := ((((hD.wp s1 (by omega) (by omega)).wp s2 (by omega) (by omega)).wp s3 (by omega) (by omega)).wp s4 (by omega) (by omega)).wp s5 (by omega) (by omega)
  have md := hd5.most (big bD bq)
  have mc := hc5.most (b660 bD)
  obtain ⟨hq1, hq2⟩ := hrp r5 pc hpc
  obtain ⟨w6, f1, f2, f3, -⟩ := gw_divide (F := F) hF (u := w5) (p1 := 34) (q1 := 35) (p2 := pc) (q2 := pc + 1) r5 (by omega) (by omega) (by omega) (by omega) (r5.get rfl gv_r34_0) hq1 hd5 hc5 (by rw [gv_l35]; omega) (by omega) (by omega) (by omega)
  have r6 := r5.wr f2
  rw [Int.mul_tdiv_cancel_left _ hD0] at f3
  obtain ⟨nq, hq6⟩ := f3
  obtain ⟨w7, g1, g2, g3, g4⟩ := eq_store (F := F) (p := 10) (q := 11) (row := l) (col := c) r6 (by omega) (by omega) (by omega) (r6.get rfl gv_r10_0) (by rw [gv_l11]; omega) hl hc hq6 bq
  have ref : ∀ v : gw_St, v.2 = u.2 → v.2.2 22 11 = pc + 1 ∧ v.2.2 22 12 = 84 - pc + 1 := fun v hv => by rw [hv]; exact ⟨h11, h12⟩
  have u2 : w2.2 = u.2 := s2.1.trans s1.1
  have u5 : w5.2 = u.2 := s5.1.trans (s4.1.trans (s3.1.trans u2))
  refine ⟨w7, ?_, ⟨g2.trans (f2.1.trans u5), fun b i q1 q2 q3 q4 => ?_⟩, g4⟩
  · unfold gf_Equations_clearColumn_b64 gf_Equations_clearColumn_b185
    rw [hr.get rfl gv_r22_3, gnn, if_neg (gi_ix (by rw [gv_l25]; omega) (by omega)), i32_clamp (by omega), hro, if_pos rfl, if_neg (fun e => hca (by have := congrArg Int32.toInt e; rw [i32_nat (by omega), i32_nat (by omega)] at this; omega)), if_pos rfl, hr.get rfl gv_r22_6, gnn, a1, Option.bind_some, r1.get rfl gv_r22_9, gnn, (ref w1 s1.1).2, gnn, r1.get rfl gv_r22_6, gnn, b1, Option.bind_some, r2.get rfl gv_r22_6, gnn, e12 22 15 (by omega) (by omega), h15, c1, Option.bind_some, r3.get rfl gv_r22_8, gnn, r3.get rfl gv_r22_7, gnn, r3.get rfl gv_r22_6, gnn, d1, Option.bind_some, r4.get rfl gv_r22_9, gnn, gnn, r4.get rfl gv_r22_8, gnn, e1, Option.bind_some, r5.get rfl gv_r22_0, gnn, r5.get rfl gv_r22_9, gnn, (ref w5 u5).1, gnn, f1, Option.bind_some, r6.get rfl gv_r22_0, gnn, r6.get rfl gv_r9_0, gnn, g1, Option.bind_some]
    simp only [gf_nm]
    rw [gw_iS]
  · rw [g3 b i q3 q4, f2.2 b i q2, s5.2 b (by omega), s4.2 b (by omega), s3.2 b (by omega), e12 b i (by omega) (by omega)]
