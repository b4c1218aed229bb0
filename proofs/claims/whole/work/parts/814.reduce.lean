theorem Wh.cap2 {u : gw_St} {p q k c : Nat} {v : Int} (h : Wh u p q v) (hv : v.natAbs < 2147483648 ^ k) (hk : k ≤ c) : ∃ n, n ≤ c ∧ n ≤ k ∧ Wd u p q n v := by
  obtain ⟨n, hn, d⟩ := h.cap hv
  exact ⟨n, by omega, hn, d⟩
theorem td_gcd (a b : Int) : (a.tdiv (Int.gcd a b : Nat)).natAbs ≤ a.natAbs := by
  rw [Int.natAbs_tdiv]
  exact Nat.div_le_self _ _
def Sr (p : Nat) (a : Nat) : Prop := (10 ≤ a ∧ a ≤ 21) ∨ (p + 1 ≤ a ∧ a ≤ p + 4)
theorem gw_reduce {F : Nat} (hF : 20000 ≤ F) {u : gw_St} {p k : Nat} {a b : Int} (hr : gv_Rf u) (hp : p + 4 < 10 ∨ 21 < p) (hx : Fx u p) (h : Fr u p a b) (ha : a.natAbs < 2147483648 ^ k) (hb : b.natAbs < 2147483648 ^ k) (hk : k ≤ 47) (h1 : k ≤ gv_z.2.2 (p + 2)) (h2 : k ≤ gv_z.2.2 (p + 4)) : ∃ w, gf_Calculator_reduce F gv_z u 9 p = some w ∧ Wp (Sr p) u w ∧ Fr w p (a.tdiv (Int.gcd a b : Nat)) (b.tdiv (Int.gcd a b : Nat)) := by
  have S10 : ∀ x, 10 ≤ x → x ≤ 21 → Sr p x := fun x h1 h2 => Or.inl ⟨h1, h2⟩
  have N1 : ¬ (10 ≤ p + 1 ∧ p + 1 ≤ 21) := by omega
  obtain ⟨w1, a1, ⟨v1, a2, a3⟩, a4⟩ := gw_gcd (F := F) hF (p1 := p + 1) (q1 := p + 2) (p2 := p + 3) (q2 := p + 4) (p3 := 20) (q3 := 21) hr (by omega) (by omega) (by omega) (by omega) (by omega) (by omega) (by omega) hx.2.2.1 hx.2.2.2 (hr.get rfl gv_r20_0) h.1 h.2 ha hb h1 h2 hk hk (by rw [gv_l21]; omega)
  have f1 : Wr 10 21 u w1 := (a2.mono (by omega) (by omega)).trans (a3.wr (by omega) (by omega) (by omega) (by omega))
  have r1 := hr.wr f1
  have x1 := hx.eq f1.1
  have hg : ((Int.gcd a b : Nat) : Int).natAbs < 2147483648 ^ k := by
    show Nat.gcd a.natAbs b.natAbs < _
    by_cases h0 : a.natAbs = 0
    · rw [h0, Nat.gcd_zero_left]; exact hb
    · exact Nat.lt_of_le_of_lt (Nat.gcd_le_left _ (by omega)) ha
  obtain ⟨ng, g1, g2, dg⟩ := a4.cap2 hg hk
  obtain ⟨na, n1, n2, da⟩ := (h.1.wr f1 (by omega) (by omega)).cap2 ha hk
  obtain ⟨w2, b1, b2, b3, b4⟩ := gw_divide (F := F) (by omega) r1 (p1 := p + 1) (q1 := p + 2) (p2 := 20) (q2 := 21) (by omega) (by omega) (by omega) (by omega) x1.2.2.1 (r1.get rfl gv_r20_0) da dg (by omega) (by rw [gv_l21]; omega) n1 g1
  have f2 := f1.trans (b2.mono (by omega) (by omega))
  have r2 := hr.wr f2
  have x2 := hx.eq f2.1
  obtain ⟨nq, q1, q2, dq⟩ := b3.cap2 (Nat.lt_of_le_of_lt (td_gcd a b) ha) hk
  obtain ⟨w3, c1, c2, c3⟩ := gw_copyW (F := F) (z := gv_z) (p := p + 1) (q := p + 2) (p' := 10) (q' := 11) (u := w2) (by omega) (by omega) (by omega) x2.2.2.1 (r2.get rfl gv_r10_0) dq (by rw [gv_l11]; omega) (by omega)
  have f3 : Wp (Sr p) u w3 := (f2.wp S10).trans (c2.wp (Or.inr ⟨by omega, by omega⟩) (Or.inr ⟨by omega, by omega⟩))
  have r3 := hr.wp f3
  have x3 := hx.eq f3.1
  have bot3 : Wh w3 (p + 3) (p + 4) b := (h.2.wr f2 (by omega) (by omega)).fr c2 (by omega) (by omega) (by omega) (by omega)
  obtain ⟨nb, m1, m2, db⟩ := bot3.cap2 hb hk
  have dg3 : Wd w3 20 21 ng (Int.gcd a b : Nat) := (dg.wr b2 (by omega) (by omega)).fr c2 (by omega) (by omega) (by omega) (by omega)
  obtain ⟨w4, d1, d2, d3, d4⟩ := gw_divide (F := F) (by omega) r3 (p1 := p + 3) (q1 := p + 4) (p2 := 20) (q2 := 21) (by omega) (by omega) (by omega) (by omega) x3.2.2.2 (r3.get rfl gv_r20_0) db dg3 (by omega) (by rw [gv_l21]; omega) m1 g1
  have f4 : Wp (Sr p) u w4 := f3.trans ((d2.mono (lo' := 10) (hi' := 21) (by omega) (by omega)).wp S10)
  have r4 := hr.wp f4
  have x4 := hx.eq f4.1
  obtain ⟨nq', q1', q2', dq'⟩ := d3.cap2 (k := k) (by rw [Int.gcd_comm]; exact Nat.lt_of_le_of_lt (td_gcd b a) hb) hk
  obtain ⟨w5, e1, e2, e3⟩ := gw_copyW (F := F) (z := gv_z) (p := p + 3) (q := p + 4) (p' := 10) (q' := 11) (u := w4) (by omega) (by omega) (by omega) x4.2.2.2 (r4.get rfl gv_r10_0) dq' (by rw [gv_l11]; omega) (by omega)
  refine ⟨w5, ?_, f4.trans (e2.wp (Or.inr ⟨by omega, by omega⟩) (Or.inr ⟨by omega, by omega⟩)), ⟨nq, (c3.wr d2 (by omega) (by omega)).fr e2 (by omega) (by omega) (by omega) (by omega)⟩, ⟨nq', e3⟩⟩
  show gf_Calculator_reduce_b0 F gv_z u 9 p = _
  unfold gf_Calculator_reduce_b0
  rw [hx.1]
  show gf_nn (u.2.2 p 1) _ = _
  rw [hx.2.1]
  show gf_nn (u.2.2 9 5) _ = _
  rw [hr.get rfl gv_r9_5]
  simp only [gf_nn]
  rw [a1]
  show gf_nn (w1.2.2 p 0) _ = _
  rw [x1.1]
  show gf_nn (w1.2.2 9 5) _ = _
  rw [r1.get rfl gv_r9_5]
  simp only [gf_nn]
  rw [b1]
  show gf_nn (w2.2.2 p 0) _ = _
  rw [x2.1]
  show gf_nn (w2.2.2 9 0) _ = _
  rw [r2.get rfl gv_r9_0]
  simp only [gf_nn]
  rw [c1]
  show gf_nn (w3.2.2 p 1) _ = _
  rw [x3.2.1]
  show gf_nn (w3.2.2 9 5) _ = _
  rw [r3.get rfl gv_r9_5]
  simp only [gf_nn]
  rw [d1]
  show gf_nn (w4.2.2 p 1) _ = _
  rw [x4.2.1]
  show gf_nn (w4.2.2 9 0) _ = _
  rw [r4.get rfl gv_r9_0]
  simp only [gf_nn]
  rw [e1]
  rfl
