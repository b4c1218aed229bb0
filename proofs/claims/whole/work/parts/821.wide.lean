theorem gz_gcdL {F : Nat} (hF : 20000 ≤ F) {a b : Nat} (ha : a < 16) (hb : b < 16) (hab : a ≠ b) : ∀ (K f : Nat) (u : gw_St) (va vb : Nat), gv_Rf u → Zw u a va → Zw u b vb → Zw u 17 0 → (vb = 0 ∨ va * vb < 2 ^ K ∧ vb ≤ va) → K + 1 < f →
    ∃ w, gf_Model_greatest_L7 F gv_z f u 670 (Int32.ofNat a) (Int32.ofNat b) = some w ∧ Zf (fun x => x = a ∨ x = b ∨ x = 16 ∨ x = 18 ∨ x = 19) u w ∧ Zw w a (Nat.gcd va vb) ∧ Zw w b 0 := by
  intro K
  induction K with
  | zero =>
    intro f u va vb hr h g h17 hK hf
    obtain ⟨f, rfl⟩ : ∃ q, f = q + 1 := ⟨f - 1, by omega⟩
    have hv : vb = 0 := by
      rcases hK with h | ⟨h1, h2⟩
      · exact h
      · rcases Nat.mul_eq_zero.mp (show va * vb = 0 by simpa using h1) with h | h <;> omega
    subst hv
    obtain ⟨m, m1, m2, m3, m4, m5, m6, m7⟩ := gz_size (F := F) (by omega) hr (by omega) g
    have hm : m = 0 := by
      apply Nat.eq_zero_of_not_pos
      intro e
      have := m6 e
      have : 0 < 65536 ^ (m - 1) := Nat.pow_pos (by decide)
      omega
    refine ⟨u, ?_, Zf.refl, by rw [Nat.gcd_zero_right]; exact h, g⟩
    show gf_Model_greatest_S7 F gv_z _ u 670 (Int32.ofNat a) (Int32.ofNat b) = _
    unfold gf_Model_greatest_S7
    rw [m2, hm]
    rfl
  | succ K ih =>
    intro f u va vb hr h g h17 hK hf
    obtain ⟨f, rfl⟩ : ∃ q, f = q + 1 := ⟨f - 1, by omega⟩
    obtain ⟨m, m1, m2, m3, m4, m5, m6, m7⟩ := gz_size (F := F) (by omega) hr (by omega) g
    by_cases hv : vb = 0
    · subst hv
      have hm : m = 0 := by
        apply Nat.eq_zero_of_not_pos
        intro e
        have := m6 e
        have : 0 < 65536 ^ (m - 1) := Nat.pow_pos (by decide)
        omega
      refine ⟨u, ?_, Zf.refl, by rw [Nat.gcd_zero_right]; exact h, g⟩
      show gf_Model_greatest_S7 F gv_z _ u 670 (Int32.ofNat a) (Int32.ofNat b) = _
      unfold gf_Model_greatest_S7
      rw [m2, hm]
      rfl
    · have hm : m ≠ 0 := by
        intro e
        subst e
        simp at m5
        exact hv m5
      obtain ⟨w1, a1, a2, a3⟩ := gz_set (F := F) (by omega) (u := u) (a := 16) (v := 0) (y := 0) hr (by omega) rfl
      have r1 := hr.zf a2
      obtain ⟨w2, b1, b2, b3, b4⟩ := gz_divide (F := F) hF (u := w1) (a := a) (b := b) (c := 16) (d := 17) (vd := 0) (vc := 0) r1 (by omega) (by omega) (by omega) (by omega) (by omega) (h.zf a2 (by omega)) (g.zf a2 (by omega)) a3 (h17.zf a2 (by omega)) (by omega) (by rw [Nat.zero_mul]; exact Nat.pow_pos (by decide)) (by rw [Nat.zero_mul]; exact Nat.pow_pos (by decide))
      have r2 := r1.zf b2
      have g2 : Zw w2 b vb := (g.zf a2 (by omega)).zf b2 (by omega)
      obtain ⟨w3, c1, c2, c3⟩ := gz_copy (F := F) (by omega) (u := w2) (a := 16) (b := a) r2 (by omega) (by omega) b3
      have r3 := r2.zf c2
      obtain ⟨w4, d1, d2, d3⟩ := gz_copy (F := F) (by omega) (u := w3) (a := a) (b := b) r3 (by omega) (by omega) (g2.zf c2 (by omega))
      have r4 := r3.zf d2
      obtain ⟨w5, e1, e2, e3⟩ := gz_copy (F := F) (by omega) (u := w4) (a := b) (b := 16) r4 (by omega) (by omega) (c3.zf d2 (by omega))
      have r5 := r4.zf e2
      have h17' : Zw w5 17 0 := ((((h17.zf a2 (by omega)).zf b2 (by omega)).zf c2 (by omega)).zf d2 (by omega)).zf e2 (by omega)
      have hlt : va % vb < vb := Nat.mod_lt _ (by omega)
      obtain ⟨hK1, hK2⟩ := hK.resolve_left hv
      obtain ⟨w6, o1, o2, o3, o4⟩ := ih f w5 vb (va % vb) r5 (d3.zf e2 (by omega)) e3 h17' (by
        right
        refine ⟨?_, by omega⟩
        have hhalf : 2 * (va % vb) ≤ va := by
          have := Nat.div_add_mod va vb
          have h1 : 1 ≤ va / vb := (Nat.le_div_iff_mul_le (by omega)).mpr (by omega)
          have h2 : vb * 1 ≤ vb * (va / vb) := Nat.mul_le_mul_left _ h1
          omega
        have h3 : 2 * (vb * (va % vb)) ≤ vb * va := by
          rw [Nat.mul_left_comm]
          exact Nat.mul_le_mul_left _ hhalf
        rw [Nat.pow_succ, Nat.mul_comm va] at hK1
        omega) (by omega)
      refine ⟨w6, ?_, (((((a2.mono (fun x e => by omega)).trans (b2.mono (fun x e => by omega))).trans (c2.mono (fun x e => by omega))).trans (d2.mono (fun x e => by omega))).trans (e2.mono (fun x e => by omega))).trans o2, ?_, o4⟩
      · show gf_Model_greatest_S7 F gv_z _ u 670 (Int32.ofNat a) (Int32.ofNat b) = _
        unfold gf_Model_greatest_S7
        rw [m2]
        simp only [gf_cl]
        rw [if_neg (fun e => by have := (gi_le0 (by omega)).mp e; omega), show gf_Model_setWide F gv_z u 670 16 0 = some w1 from a1]
        show (gf_Model_divide F gv_z w1 670 (Int32.ofNat a) (Int32.ofNat b) 16 17).bind _ = _
        rw [show gf_Model_divide F gv_z w1 670 (Int32.ofNat a) (Int32.ofNat b) 16 17 = some w2 from b1]
        show (gf_Model_copyWide F gv_z w2 670 16 (Int32.ofNat a)).bind _ = _
        rw [show gf_Model_copyWide F gv_z w2 670 16 (Int32.ofNat a) = some w3 from c1]
        show (gf_Model_copyWide F gv_z w3 670 (Int32.ofNat a) (Int32.ofNat b)).bind _ = _
        rw [d1]
        show (gf_Model_copyWide F gv_z w4 670 (Int32.ofNat b) 16).bind _ = _
        rw [show gf_Model_copyWide F gv_z w4 670 (Int32.ofNat b) 16 = some w5 from e1]
        exact o1
      · rw [Nat.gcd_comm va, Nat.gcd_rec vb va, Nat.gcd_comm]
        exact o3
theorem gz_gcd {F : Nat} (hF : 20000 ≤ F) {u : gw_St} {a b va vb : Nat} (ha : a < 16) (hb : b < 16) (hab : a ≠ b) (hr : gv_Rf u) (h : Zw u a va) (g : Zw u b vb) : ∃ w, gf_Model_greatest F gv_z u 670 (Int32.ofNat a) (Int32.ofNat b) = some w ∧ Zf (fun x => x = a ∨ x = b ∨ x = 16 ∨ x = 17 ∨ x = 18 ∨ x = 19) u w ∧ Zw w a (Nat.gcd va vb) ∧ Zw w b 0 := by
  obtain ⟨w1, a1, a2, a3⟩ := gz_set (F := F) (by omega) (u := u) (a := 17) (v := 0) (y := 0) hr (by omega) rfl
  have r1 := hr.zf a2
  have h1 := h.zf a2 (by omega)
  have g1 := g.zf a2 (by omega)
  have hpw : (65536 : Nat) ^ 256 * 65536 ^ 256 = 2 ^ 8192 := by rw [pw16, ← Nat.pow_add]
  have hout : ∀ w, gf_Model_greatest_L7 F gv_z F w1 670 (Int32.ofNat a) (Int32.ofNat b) = some w → gf_Model_greatest F gv_z u 670 (Int32.ofNat a) (Int32.ofNat b) = some w := by
    intro w hw
    show (gf_Model_setWide F gv_z u 670 17 0).bind _ = _
    rw [show gf_Model_setWide F gv_z u 670 17 0 = some w1 from a1]
    exact hw
  by_cases c : vb ≤ va
  · obtain ⟨w2, b1, b2, b3, b4⟩ := gz_gcdL (F := F) hF ha hb hab 8192 F w1 va vb r1 h1 g1 a3 (Or.inr ⟨by rw [← hpw]; exact Nat.mul_lt_mul'' h.lt g.lt, c⟩) (by omega)
    exact ⟨w2, hout w2 b1, (a2.mono (fun x e => by omega)).trans (b2.mono (fun x e => by omega)), b3, b4⟩
  · obtain ⟨F', hF'⟩ : ∃ f, F = f + 1 := ⟨F - 1, by omega⟩
    obtain ⟨m, m1, m2, m3, m4, m5, m6, m7⟩ := gz_size (F := F) (by omega) r1 (by omega) g1
    have hm : m ≠ 0 := by
      intro e
      subst e
      simp at m5
      omega
    obtain ⟨w2, b1, b2, b3⟩ := gz_set (F := F) (by omega) (u := w1) (a := 16) (v := 0) (y := 0) r1 (by omega) rfl
    have r2 := r1.zf b2
    obtain ⟨w3, c1, c2, c3, c4⟩ := gz_divide (F := F) hF (u := w2) (a := a) (b := b) (c := 16) (d := 17) (vd := 0) (vc := 0) r2 (by omega) (by omega) (by omega) (by omega) (by omega) (h1.zf b2 (by omega)) (g1.zf b2 (by omega)) b3 (a3.zf b2 (by omega)) (by omega) (by rw [Nat.zero_mul]; exact Nat.pow_pos (by decide)) (by rw [Nat.zero_mul]; exact Nat.pow_pos (by decide))
    have r3 := r2.zf c2
    rw [Nat.mod_eq_of_lt (by omega)] at c3
    obtain ⟨w4, d1, d2, d3⟩ := gz_copy (F := F) (by omega) (u := w3) (a := 16) (b := a) r3 (by omega) (by omega) c3
    have r4 := r3.zf d2
    obtain ⟨w5, e1, e2, e3⟩ := gz_copy (F := F) (by omega) (u := w4) (a := a) (b := b) r4 (by omega) (by omega) (((g1.zf b2 (by omega)).zf c2 (by omega)).zf d2 (by omega))
    have r5 := r4.zf e2
    obtain ⟨w6, k1, k2, k3⟩ := gz_copy (F := F) (by omega) (u := w5) (a := b) (b := 16) r5 (by omega) (by omega) (d3.zf e2 (by omega))
    have r6 := r5.zf k2
    have h17' : Zw w6 17 0 := ((((a3.zf b2 (by omega)).zf c2 (by omega)).zf d2 (by omega)).zf e2 (by omega)).zf k2 (by omega)
    obtain ⟨w7, o1, o2, o3, o4⟩ := gz_gcdL (F := F) hF ha hb hab 8192 F' w6 vb va r6 (e3.zf k2 (by omega)) k3 h17' (Or.inr ⟨by rw [← hpw]; exact Nat.mul_lt_mul'' g.lt h.lt, by omega⟩) (by omega)
    refine ⟨w7, hout w7 ?_, ((((((a2.mono (fun x e => by omega)).trans (b2.mono (fun x e => by omega))).trans (c2.mono (fun x e => by omega))).trans (d2.mono (fun x e => by omega))).trans (e2.mono (fun x e => by omega))).trans (k2.mono (fun x e => by omega))).trans (o2.mono (fun x e => by omega)), by rw [Nat.gcd_comm]; exact o3, o4⟩
    rw [hF'] at m2 b1 c1 d1 e1 k1 o1 ⊢
    show gf_Model_greatest_S7 (F' + 1) gv_z _ w1 670 (Int32.ofNat a) (Int32.ofNat b) = _
    unfold gf_Model_greatest_S7
    rw [m2]
    simp only [gf_cl]
    rw [if_neg (fun e => by have := (gi_le0 (by omega)).mp e; omega), show gf_Model_setWide (F' + 1) gv_z w1 670 16 0 = some w2 from b1]
    show (gf_Model_divide (F' + 1) gv_z w2 670 (Int32.ofNat a) (Int32.ofNat b) 16 17).bind _ = _
    rw [show gf_Model_divide (F' + 1) gv_z w2 670 (Int32.ofNat a) (Int32.ofNat b) 16 17 = some w3 from c1]
    show (gf_Model_copyWide (F' + 1) gv_z w3 670 16 (Int32.ofNat a)).bind _ = _
    rw [show gf_Model_copyWide (F' + 1) gv_z w3 670 16 (Int32.ofNat a) = some w4 from d1]
    show (gf_Model_copyWide (F' + 1) gv_z w4 670 (Int32.ofNat a) (Int32.ofNat b)).bind _ = _
    rw [e1]
    show (gf_Model_copyWide (F' + 1) gv_z w5 670 (Int32.ofNat b) 16).bind _ = _
    rw [show gf_Model_copyWide (F' + 1) gv_z w5 670 (Int32.ofNat b) 16 = some w6 from k1]
    exact o1
theorem gz_quot {F : Nat} (hF : 20000 ≤ F) {u : gw_St} {a va vb : Nat} (ha : a < 13) (hr : gv_Rf u) (h : Zw u a va) (g : Zw u 14 vb) (hb0 : 0 < vb) : ∃ w, gf_Model_quotientOf F gv_z u 670 (Int32.ofNat a) 14 = some w ∧ Zf (fun x => x = a ∨ x = 13 ∨ x = 15 ∨ x = 18 ∨ x = 19) u w ∧ Zw w a (va / vb) := by
  obtain ⟨w1, a1, a2, a3⟩ := gz_set (F := F) (by omega) (u := u) (a := 13) (v := 0) (y := 0) hr (by omega) rfl
  have r1 := hr.zf a2
  obtain ⟨w2, b1, b2, b3⟩ := gz_set (F := F) (by omega) (u := w1) (a := 15) (v := 1) (y := 1) r1 (by omega) rfl
  have r2 := r1.zf b2
  have hq : va / vb < 65536 ^ 256 := Nat.lt_of_le_of_lt (Nat.div_le_self _ _) h.lt
  obtain ⟨w3, c1, c2, c3, c4⟩ := gz_divide (F := F) hF (u := w2) (a := a) (b := 14) (c := 13) (d := 15) (vd := 1) (vc := 0) r2 (by omega) (by omega) (by omega) (by omega) (by omega) ((h.zf a2 (by omega)).zf b2 (by omega)) ((g.zf a2 (by omega)).zf b2 (by omega)) (a3.zf b2 (by omega)) b3 hb0 (by rw [Nat.one_mul]; exact h.lt) (by rw [Nat.one_mul, Nat.zero_add]; exact hq)
  rw [Nat.one_mul, Nat.zero_add] at c4
  have r3 := r2.zf c2
  obtain ⟨w4, d1, d2, d3⟩ := gz_copy (F := F) (by omega) (u := w3) (a := a) (b := 13) r3 (by omega) (by omega) c4
  refine ⟨w4, ?_, (((a2.mono (fun x e => by omega)).trans (b2.mono (fun x e => by omega))).trans (c2.mono (fun x e => by omega))).trans (d2.mono (fun x e => by omega)), d3⟩
  show (gf_Model_setWide F gv_z u 670 13 0).bind _ = _
  rw [show gf_Model_setWide F gv_z u 670 13 0 = some w1 from a1]
  show (gf_Model_setWide F gv_z w1 670 15 1).bind _ = _
  rw [show gf_Model_setWide F gv_z w1 670 15 1 = some w2 from b1]
  show (gf_Model_divide F gv_z w2 670 (Int32.ofNat a) 14 13 15).bind _ = _
  rw [show gf_Model_divide F gv_z w2 670 (Int32.ofNat a) 14 13 15 = some w3 from c1]
  show (gf_Model_copyWide F gv_z w3 670 (Int32.ofNat a) 13).bind _ = _
  rw [show gf_Model_copyWide F gv_z w3 670 (Int32.ofNat a) 13 = some w4 from d1]
  rfl
theorem gz_lowest {F : Nat} (hF : 20000 ≤ F) {u : gw_St} {a b va vb : Nat} (ha : a < 13) (hb : b < 13) (hab : a ≠ b) (hr : gv_Rf u) (h : Zw u a va) (g : Zw u b vb) (h0 : 0 < Nat.gcd va vb) : ∃ w, gf_Model_lowest F gv_z u 670 (Int32.ofNat a) (Int32.ofNat b) = some w ∧ Zf (fun x => x = a ∨ x = b ∨ 13 ≤ x) u w ∧ Zw w a (va / Nat.gcd va vb) ∧ Zw w b (vb / Nat.gcd va vb) := by
  obtain ⟨w1, a1, a2, a3⟩ := gz_copy (F := F) (by omega) (u := u) (a := 14) (b := a) hr (by omega) (by omega) h
  have r1 := hr.zf a2
  obtain ⟨w2, b1, b2, b3⟩ := gz_copy (F := F) (by omega) (u := w1) (a := 15) (b := b) r1 (by omega) (by omega) (g.zf a2 (by omega))
  have r2 := r1.zf b2
  obtain ⟨w3, c1, c2, c3, c4⟩ := gz_gcd (F := F) hF (u := w2) (a := 14) (b := 15) (by omega) (by omega) (by omega) r2 (a3.zf b2 (by omega)) b3
  have r3 := r2.zf c2
  obtain ⟨w4, d1, d2, d3⟩ := gz_quot (F := F) hF (u := w3) (a := a) ha r3 (((h.zf a2 (by omega)).zf b2 (by omega)).zf c2 (by omega)) c3 h0
  have r4 := r3.zf d2
  obtain ⟨w5, e1, e2, e3⟩ := gz_quot (F := F) hF (u := w4) (a := b) hb r4 ((((g.zf a2 (by omega)).zf b2 (by omega)).zf c2 (by omega)).zf d2 (by omega)) (c3.zf d2 (by omega)) h0
  refine ⟨w5, ?_, ((((a2.mono (fun x e => by omega)).trans (b2.mono (fun x e => by omega))).trans (c2.mono (fun x e => by omega))).trans (d2.mono (fun x e => by omega))).trans (e2.mono (fun x e => by omega)), d3.zf e2 (by omega), e3⟩
  show (gf_Model_copyWide F gv_z u 670 14 (Int32.ofNat a)).bind _ = _
  rw [show gf_Model_copyWide F gv_z u 670 14 (Int32.ofNat a) = some w1 from a1]
  show (gf_Model_copyWide F gv_z w1 670 15 (Int32.ofNat b)).bind _ = _
  rw [show gf_Model_copyWide F gv_z w1 670 15 (Int32.ofNat b) = some w2 from b1]
  show (gf_Model_greatest F gv_z w2 670 14 15).bind _ = _
  rw [show gf_Model_greatest F gv_z w2 670 14 15 = some w3 from c1]
  show (gf_Model_quotientOf F gv_z w3 670 (Int32.ofNat a) 14).bind _ = _
  rw [d1]
  show (gf_Model_quotientOf F gv_z w4 670 (Int32.ofNat b) 14).bind _ = _
  rw [e1]
  rfl
theorem gz_large {F : Nat} (hF : 2000 ≤ F) {u : gw_St} {a v : Nat} (hr : gv_Rf u) (ha : a < 20) (h : Zw u a v) : gf_Model_isLarge F gv_z u 670 (Int32.ofNat a) = some (if 2 ^ 256 ≤ v then 1 else 0, u) := by
  obtain ⟨k, k1, k2, k3, k4⟩ := gz_bits (F := F) hF hr ha h
  show gf_Model_isLarge_b0 F gv_z u 670 (Int32.ofNat a) = _
  unfold gf_Model_isLarge_b0 gf_Model_isLarge_b16
  rw [k2]
  simp only [gf_cl]
  by_cases c : k ≤ 256
  · rw [if_pos (show Int32.ofNat k ≤ 256 from (gi_le (b := 256) (by omega) (by omega)).mpr c), if_neg (by decide), if_neg]
    intro e
    have : (2 : Nat) ^ k ≤ 2 ^ 256 := Nat.pow_le_pow_right (by decide) c
    omega
  · rw [if_neg (fun e : Int32.ofNat k ≤ 256 => c ((gi_le (b := 256) (by omega) (by omega)).mp e)), if_neg (by decide), if_pos]
    exact Nat.le_trans (Nat.pow_le_pow_right (by decide) (by omega)) (k4 (by omega))
/-- sixteen digits of a row of ints -/
def Iw (u : gw_St) (t a v : Nat) : Prop := (∀ k, k < 16 → 0 ≤ (u.1 t (16 * a + k)).toInt ∧ (u.1 t (16 * a + k)).toInt < 65536) ∧ bv 65536 (fun k => (u.1 t (16 * a + k)).toInt.toNat) 16 = v
theorem Iw.lt {u : gw_St} {t a v : Nat} (h : Iw u t a v) : v < 2 ^ 256 := by
  rw [← h.2, show (2 : Nat) ^ 256 = 65536 ^ 16 from by decide]
  exact bv_lt (fun i hi => by have := h.1 i hi; omega)
theorem gi16 {a k : Nat} : (16 : Int32) * Int32.ofNat a + Int32.ofNat k = Int32.ofNat (16 * a + k) := by
  rw [show (16 : Int32) = Int32.ofNat 16 from rfl, gi_mul, gi_add]
theorem gz_store {F : Nat} (hF : 2000 ≤ F) {u : gw_St} {t a j v : Nat} (hr : gv_Rf u) (ha : a < 20) (hj : j < 60) (ht : 16 * j + 16 ≤ gv_z.2.2 t) (h : Zw u a v) (hv : v < 2 ^ 256) : ∃ w, gf_Model_store F gv_z u 670 t (Int32.ofNat j) (Int32.ofNat a) = some w ∧ w.2 = u.2 ∧ (∀ p k, ¬ (p = t ∧ 16 * j ≤ k ∧ k < 16 * j + 16) → w.1 p k = u.1 p k) ∧ Iw w t j v := by
  have main := gl_up (σ := gw_St) (N := 16) (L := fun f w k => gf_Model_store_L3 F gv_z f w 670 t (Int32.ofNat j) (Int32.ofNat a) (Int32.ofNat k))
    (I := fun k w => w.2 = u.2 ∧ (∀ p i, ¬ (p = t ∧ 16 * j ≤ i ∧ i < 16 * j + 16) → w.1 p i = u.1 p i) ∧ ∀ i, i < k → (w.1 t (16 * j + i)).toInt = zi u a i)
    (R := fun r => ∃ w, r = some w ∧ w.2 = u.2 ∧ (∀ p k, ¬ (p = t ∧ 16 * j ≤ k ∧ k < 16 * j + 16) → w.1 p k = u.1 p k) ∧ Iw w t j v)
    (fun f w k hI hk => by
      obtain ⟨b1, b2, b3⟩ := hI
      have hrw : gv_Rf w := hr.eq (by rw [b1])
      have dk := h.1 k (by omega)
      have ez : (w.2.1 700 (256 * a + k)).toInt = zi u a k := by rw [b1]; rfl
      refine ⟨gw_wi w t (16 * j + k) ((w.2.1 700 (256 * a + k)).toInt32), ⟨b1, fun p i hp => ?_, fun i hi => ?_⟩, ?_⟩
      · simp only [gw_wi]
        rw [if_neg (by omega)]
        exact b2 p i hp
      · simp only [gw_wi, true_and]
        by_cases e : i = k
        · rw [if_pos (by omega), n64_to32 (by omega) (by omega), ez, e]
        · rw [if_neg (by omega)]
          exact b3 i (by omega)
      · show gf_Model_store_S3 F gv_z _ w 670 t (Int32.ofNat j) (Int32.ofNat a) (Int32.ofNat k) = _
        unfold gf_Model_store_S3
        rw [if_neg (fun e : (16 : Int32) ≤ Int32.ofNat k => by have := (gi_le (a := 16) (by omega) (by omega)).mp e; omega), hrw.get rfl gv_r670_48]
        simp only [gf_nn, gf_nm]
        rw [gz_ix, gi16, if_neg (gi_ix (by rw [gv_l700]; omega) (by omega)), if_neg (gi_ix (by omega) (by omega)), i32_clamp (by omega), i32_clamp (by omega), gw_iS])
    (fun f w hI => by
      obtain ⟨b1, b2, b3⟩ := hI
      refine ⟨w, ?_, b1, b2, fun k hk => by rw [b3 k hk]; exact h.1 k (by omega), ?_⟩
      · show gf_Model_store_S3 F gv_z _ w 670 t (Int32.ofNat j) (Int32.ofNat a) (Int32.ofNat 16) = _
        unfold gf_Model_store_S3
        rw [if_pos (by decide)]
      · rw [bv_congr (g := fun i => (zi u a i).toNat) (fun i hi => by rw [b3 i hi])]
        have e := h.bv
        have hz : ∀ i, 16 ≤ i → i < 256 → (zi u a i).toNat = 0 := by
          intro i h1 h2
          have d := bv_dig (B := 65536) (by decide) (f := fun i => (zi u a i).toNat) (n := 256) (k := i) (fun k hk => by have := h.1 k hk; omega) h2
          rw [e] at d
          rw [← d, Nat.div_eq_of_lt, Nat.zero_mod]
          have h3 : (65536 : Nat) ^ 16 ≤ 65536 ^ i := Nat.pow_le_pow_right (by decide) h1
          have h4 : (2 : Nat) ^ 256 = 65536 ^ 16 := by decide
          omega
        rw [← e]
        exact (bv_cut (by omega) (fun i h1 h2 => hz i h1 h2)).symm)
  exact main 16 0 u F (by omega) ⟨rfl, fun _ _ _ => rfl, fun i hi => absurd hi (Nat.not_lt_zero i)⟩ (by omega)
theorem gz_load {F : Nat} (hF : 2000 ≤ F) {u : gw_St} {t a j v : Nat} (hr : gv_Rf u) (ha : a < 20) (hj : j < 60) (ht : 16 * j + 16 ≤ gv_z.2.2 t) (h : Iw u t j v) : ∃ w, gf_Model_load F gv_z u 670 (Int32.ofNat a) t (Int32.ofNat j) = some w ∧ Zf (fun c => c = a) u w ∧ Zw w a v := by
  obtain ⟨w0, a1, a2, a3, a4⟩ := gz_clear (F := F) hF hr ha
  have main := gl_up (σ := gw_St) (N := 16) (L := fun f w k => gf_Model_load_L8 F gv_z f w 670 (Int32.ofNat a) t (Int32.ofNat j) (Int32.ofNat k))
    (I := fun k w => Zf (fun c => c = a) w0 w ∧ (∀ i, i < k → zi w a i = (u.1 t (16 * j + i)).toInt) ∧ (∀ i, k ≤ i → i < 256 → zi w a i = 0))
    (R := fun r => ∃ w, r = some w ∧ Zf (fun c => c = a) w0 w ∧ Zw w a v)
    (fun f w k hI hk => by
      obtain ⟨b1, b2, b3⟩ := hI
      have hrw := (hr.zf a2).zf b1
      have ew : w.1 t (16 * j + k) = u.1 t (16 * j + k) := by rw [b1.1, a2.1]
      refine ⟨gw_wl w 700 (256 * a + k) (w.1 t (16 * j + k)).toInt64, ⟨b1.trans (Zf.wl (by omega)), fun i hi => ?_, fun i h1 h2 => ?_⟩, ?_⟩
      · rw [zi_set1]
        by_cases e : i = k
        · rw [if_pos e, n32_to64, ew, e]
        · rw [if_neg e]; exact b2 i (by omega)
      · rw [zi_set1, if_neg (by omega)]
        exact b3 i (by omega) h2
      · show gf_Model_load_S8 F gv_z _ w 670 (Int32.ofNat a) t (Int32.ofNat j) (Int32.ofNat k) = _
        unfold gf_Model_load_S8
        rw [if_neg (fun e : (16 : Int32) ≤ Int32.ofNat k => by have := (gi_le (a := 16) (by omega) (by omega)).mp e; omega), hrw.get rfl gv_r670_48]
        simp only [gf_nn, gf_nm]
        rw [gi16, gz_ix, if_neg (gi_ix (by omega) (by omega)), if_neg (gi_ix (by rw [gv_l700]; omega) (by omega)), i32_clamp (by omega), i32_clamp (by omega), gw_iS])
    (fun f w hI => by
      obtain ⟨b1, b2, b3⟩ := hI
      have hrng : ∀ k, k < 256 → 0 ≤ zi w a k ∧ zi w a k < 65536 := fun k hk => by
        by_cases c : k < 16
        · rw [b2 k c]; exact h.1 k c
        · rw [b3 k (by omega) hk]; omega
      refine ⟨w, ?_, b1, hrng, ?_⟩
      · show gf_Model_load_S8 F gv_z _ w 670 (Int32.ofNat a) t (Int32.ofNat j) (Int32.ofNat 16) = _
        unfold gf_Model_load_S8
        rw [if_pos (by decide)]
      · rw [iv_bv (fun i hi => (hrng i hi).1), bv_cut (m := 16) (n := 256) (by omega) (fun i h1 h2 => by rw [b3 i h1 h2]; rfl), bv_congr (g := fun k => (u.1 t (16 * j + k)).toInt.toNat) (fun i hi => by rw [b2 i hi]), h.2])
  obtain ⟨w, c1, c2, c3⟩ := main 16 0 w0 F (by omega) ⟨Zf.refl, fun i hi => absurd hi (Nat.not_lt_zero i), fun i _ hi => a4 i hi⟩ (by omega)
  refine ⟨w, ?_, a2.trans c2, c3⟩
  show (gf_Model_clearWide F gv_z u 670 (Int32.ofNat a)).bind _ = _
  rw [a1]
  exact c1
