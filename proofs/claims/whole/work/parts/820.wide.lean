theorem gz_mulI {F : Nat} (hF : 2000 ≤ F) {u : gw_St} {t a b va vb n m i : Nat} {rc : gw_St → Nat → Int32 → Int32 → Int32 → Int32 → Int32 → Int32 → Option gw_St} (hr : gv_Rf u) (ht : t < 20) (ha : a < 20) (hb : b < 20) (hta : t ≠ a) (htb : t ≠ b) (h : Zw u a va) (g : Zw u b vb) (hn : n ≤ 256) (hm : m ≤ 256) (hnm : n + m ≤ 257) (hi : i < n) {w0 : gw_St} {S : Int} (hw0 : Zf (fun c => c = t) u w0) (hz : ∀ k, k < 256 → 0 ≤ zi w0 t k ∧ zi w0 t k ≤ i * 4294967296) (hS : iv (zi w0 t) 256 = S) :
    ∃ w, gf_Model_multiply_L32 F gv_z rc F w0 670 (Int32.ofNat t) (Int32.ofNat a) (Int32.ofNat b) (Int32.ofNat n) (Int32.ofNat m) (Int32.ofNat i) 0 = rc w 670 (Int32.ofNat t) (Int32.ofNat a) (Int32.ofNat b) (Int32.ofNat n) (Int32.ofNat m) (Int32.ofNat (i + 1)) ∧ Zf (fun c => c = t) u w ∧ (∀ k, k < 256 → 0 ≤ zi w t k ∧ zi w t k ≤ (i + 1 : Nat) * 4294967296) ∧ iv (zi w t) 256 = S + zi u a i * ((65536 ^ i : Nat) : Int) * iv (zi u b) m := by
  have main := gl_up (σ := gw_St) (N := m) (L := fun f w k => gf_Model_multiply_L32 F gv_z rc f w 670 (Int32.ofNat t) (Int32.ofNat a) (Int32.ofNat b) (Int32.ofNat n) (Int32.ofNat m) (Int32.ofNat i) (Int32.ofNat k))
    (I := fun k w => Zf (fun c => c = t) u w ∧ (∀ j, j < 256 → 0 ≤ zi w t j ∧ zi w t j ≤ (if j < i + k then i + 1 else i : Nat) * 4294967296) ∧ iv (zi w t) 256 = S + zi u a i * ((65536 ^ i : Nat) : Int) * iv (zi u b) k)
    (R := fun r => ∃ w, r = rc w 670 (Int32.ofNat t) (Int32.ofNat a) (Int32.ofNat b) (Int32.ofNat n) (Int32.ofNat m) (Int32.ofNat (i + 1)) ∧ Zf (fun c => c = t) u w ∧ (∀ k, k < 256 → 0 ≤ zi w t k ∧ zi w t k ≤ (i + 1 : Nat) * 4294967296) ∧ iv (zi w t) 256 = S + zi u a i * ((65536 ^ i : Nat) : Int) * iv (zi u b) m)
    (fun f w k hI hk => by
      obtain ⟨b1, b2, b3⟩ := hI
      have hrw := hr.zf b1
      have da := h.1 i (by omega)
      have db := g.1 k (by omega)
      have dt := b2 (i + k) (by omega)
      rw [if_neg (by omega)] at dt
      have ea : (w.2.1 700 (256 * a + i)).toInt = zi u a i := by rw [b1.2.2.2 a (fun e => hta e.symm) i (by omega)]; rfl
      have eb : (w.2.1 700 (256 * b + k)).toInt = zi u b k := by rw [b1.2.2.2 b (fun e => htb e.symm) k (by omega)]; rfl
      have hp0 : 0 ≤ zi u a i * zi u b k := Int.mul_nonneg da.1 db.1
      have hp1 : zi u a i * zi u b k ≤ 4294967295 := by
        have h1 : zi u a i * zi u b k ≤ 65535 * zi u b k := Int.mul_le_mul_of_nonneg_right (by omega) db.1
        omega
      have hmul : (w.2.1 700 (256 * a + i) * w.2.1 700 (256 * b + k)).toInt = zi u a i * zi u b k := by
        rw [n64_mul (by rw [ea, eb]; omega) (by rw [ea, eb]; omega), ea, eb]
      have hi256 : (i : Int) ≤ 256 := by omega
      have et : (w.2.1 700 (256 * t + (i + k))).toInt = zi w t (i + k) := rfl
      have hsum : (w.2.1 700 (256 * t + (i + k)) + w.2.1 700 (256 * a + i) * w.2.1 700 (256 * b + k)).toInt = zi w t (i + k) + zi u a i * zi u b k := by
        rw [n64_add (by rw [et, hmul]; omega) (by rw [et, hmul]; omega), et, hmul]
      refine ⟨gw_wl w 700 (256 * t + (i + k)) (w.2.1 700 (256 * t + (i + k)) + w.2.1 700 (256 * a + i) * w.2.1 700 (256 * b + k)), ⟨b1.trans (Zf.wl (by omega)), fun j hj => ?_, ?_⟩, ?_⟩
      · rw [zi_set1]
        by_cases e : j = i + k
        · rw [if_pos e, hsum, if_pos (by omega)]
          omega
        · rw [if_neg e]
          have := b2 j hj
          by_cases c : j < i + k
          · rw [if_pos (by omega)]; rw [if_pos c] at this; exact this
          · rw [if_neg (by omega)]; rw [if_neg c] at this; exact this
      · have e0 : iv (zi (gw_wl w 700 (256 * t + (i + k)) (w.2.1 700 (256 * t + (i + k)) + w.2.1 700 (256 * a + i) * w.2.1 700 (256 * b + k))) t) 256 = iv (fun j => if j = i + k then zi w t (i + k) + zi u a i * zi u b k else zi w t j) 256 := iv_congr (fun j hj => by rw [zi_set1, hsum])
        rw [e0, iv_set (f := zi w t) (by omega), b3]
        show _ = S + _ * (iv (zi u b) k + zi u b k * ((65536 ^ k : Nat) : Int))
        rw [Int.mul_add, Nat.pow_add, Int.natCast_mul]
        have e1 : zi w t (i + k) + zi u a i * zi u b k - zi w t (i + k) = zi u a i * zi u b k := by omega
        rw [e1]
        have e2 : zi u a i * zi u b k * (((65536 ^ i : Nat) : Int) * ((65536 ^ k : Nat) : Int)) = zi u a i * ((65536 ^ i : Nat) : Int) * (zi u b k * ((65536 ^ k : Nat) : Int)) := by
          rw [Int.mul_assoc, Int.mul_assoc, Int.mul_left_comm (zi u b k)]
        rw [e2]
        omega
      · show gf_Model_multiply_S32 F gv_z rc _ w 670 (Int32.ofNat t) (Int32.ofNat a) (Int32.ofNat b) (Int32.ofNat n) (Int32.ofNat m) (Int32.ofNat i) (Int32.ofNat k) = _
        unfold gf_Model_multiply_S32
        rw [if_neg (fun e => by have := (gi_le (by omega) (by omega)).mp e; omega), gi_add, if_neg (fun e : (256 : Int32) ≤ Int32.ofNat (i + k) => by have := (gi_le (a := 256) (by omega) (by omega)).mp e; omega), hrw.get rfl gv_r670_48]
        simp only [gf_nn, gf_nm]
        rw [gz_ix, gz_ix, gz_ix, gi_add, show 256 * t + i + k = 256 * t + (i + k) by omega, if_neg (gi_ix (by rw [gv_l700]; omega) (by omega)), if_neg (gi_ix (by rw [gv_l700]; omega) (by omega)), if_neg (gi_ix (by rw [gv_l700]; omega) (by omega)), if_neg (gi_ix (by rw [gv_l700]; omega) (by omega)), i32_clamp (by omega), i32_clamp (by omega), i32_clamp (by omega), gw_iS])
    (fun f w hI => by
      obtain ⟨b1, b2, b3⟩ := hI
      refine ⟨w, ?_, b1, fun k hk => ?_, b3⟩
      · show gf_Model_multiply_S32 F gv_z rc _ w 670 (Int32.ofNat t) (Int32.ofNat a) (Int32.ofNat b) (Int32.ofNat n) (Int32.ofNat m) (Int32.ofNat i) (Int32.ofNat m) = _
        unfold gf_Model_multiply_S32 gf_Model_multiply_b102
        rw [if_pos ((gi_le (by omega) (by omega)).mpr (Nat.le_refl _))]
        simp only [gf_nm]
        rw [gw_iS]
      · have := b2 k hk
        refine ⟨this.1, Int.le_trans this.2 ?_⟩
        split <;> omega)
  exact main m 0 w0 F (by omega) ⟨hw0, fun j hj => by
    have := hz j hj
    refine ⟨this.1, Int.le_trans this.2 ?_⟩
    split <;> omega, by rw [hS]; simp [iv]⟩ (by omega)
theorem gz_mul {F : Nat} (hF : 2000 ≤ F) {u : gw_St} {t a b va vb : Nat} (hr : gv_Rf u) (ht : t < 20) (ha : a < 20) (hb : b < 20) (hta : t ≠ a) (htb : t ≠ b) (h : Zw u a va) (g : Zw u b vb) (hl : va * vb < 65536 ^ 256) : ∃ w, gf_Model_multiply F gv_z u 670 (Int32.ofNat t) (Int32.ofNat a) (Int32.ofNat b) = some w ∧ Zf (fun c => c = t) u w ∧ Zw w t (va * vb) := by
  obtain ⟨w0, a1, a2, a3, a4⟩ := gz_clear (F := F) hF hr ht
  have r0 := hr.zf a2
  have h0 := h.zf a2 (fun e => hta e.symm)
  have g0 := g.zf a2 (fun e => htb e.symm)
  obtain ⟨n, n1, n2, n3, n4, n5, n6, n7⟩ := gz_size (F := F) hF r0 ha h0
  obtain ⟨m, m1, m2, m3, m4, m5, m6, m7⟩ := gz_size (F := F) hF r0 hb g0
  have hnm : 0 < n → 0 < m → n + m ≤ 257 := fun hn hm => by
    have x1 := n6 hn
    have x2 := m6 hm
    have x3 : 65536 ^ (n - 1 + (m - 1)) ≤ va * vb := by rw [Nat.pow_add]; exact Nat.mul_le_mul x1 x2
    apply Nat.le_of_not_lt
    intro e
    have : 65536 ^ 256 ≤ 65536 ^ (n - 1 + (m - 1)) := Nat.pow_le_pow_right (by decide) (by omega)
    omega
  have eva : iv (zi w0 a) n = (va : Int) := by rw [iv_bv (fun i hi => (h0.1 i (by omega)).1), n7]
  have evb : iv (zi w0 b) m = (vb : Int) := by rw [iv_bv (fun i hi => (g0.1 i (by omega)).1), m7]
  have main := gl_up (σ := gw_St) (N := n) (L := fun f w i => gf_Model_multiply_L22 F gv_z f w 670 (Int32.ofNat t) (Int32.ofNat a) (Int32.ofNat b) (Int32.ofNat n) (Int32.ofNat m) (Int32.ofNat i))
    (I := fun i w => Zf (fun c => c = t) w0 w ∧ (∀ k, k < 256 → 0 ≤ zi w t k ∧ zi w t k ≤ (i : Nat) * 4294967296) ∧ iv (zi w t) 256 = iv (zi w0 a) i * (vb : Int))
    (R := fun r => ∃ w, r = some w ∧ Zf (fun c => c = t) w0 w ∧ Zw w t (va * vb))
    (fun f w i hI hi => by
      obtain ⟨b1, b2, b3⟩ := hI
      have hrec : gf_Model_multiply_L22 F gv_z (f + 1) w 670 (Int32.ofNat t) (Int32.ofNat a) (Int32.ofNat b) (Int32.ofNat n) (Int32.ofNat m) (Int32.ofNat i) = gf_Model_multiply_L32 F gv_z (gf_Model_multiply_L22 F gv_z f) F w 670 (Int32.ofNat t) (Int32.ofNat a) (Int32.ofNat b) (Int32.ofNat n) (Int32.ofNat m) (Int32.ofNat i) 0 := by
        show gf_Model_multiply_S22 F gv_z _ w 670 (Int32.ofNat t) (Int32.ofNat a) (Int32.ofNat b) (Int32.ofNat n) (Int32.ofNat m) (Int32.ofNat i) = _
        unfold gf_Model_multiply_S22
        rw [if_neg (fun e => by have := (gi_le (by omega) (by omega)).mp e; omega)]
      rw [hrec]
      by_cases hm0 : m = 0
      · subst hm0
        obtain ⟨F', rfl⟩ : ∃ f, F = f + 1 := ⟨F - 1, by omega⟩
        have hvb : vb = 0 := by rw [← m7]; rfl
        refine ⟨w, ⟨b1, fun k hk => ?_, ?_⟩, ?_⟩
        · have := b2 k hk
          omega
        · rw [b3, hvb]; simp
        · show gf_Model_multiply_S32 (F' + 1) gv_z _ _ w 670 (Int32.ofNat t) (Int32.ofNat a) (Int32.ofNat b) (Int32.ofNat n) (Int32.ofNat 0) (Int32.ofNat i) 0 = _
          unfold gf_Model_multiply_S32 gf_Model_multiply_b102
          rw [if_pos (by decide)]
          simp only [gf_nm]
          rw [gw_iS]
      · obtain ⟨w', d1, d2, d3, d4⟩ := gz_mulI (F := F) hF (rc := gf_Model_multiply_L22 F gv_z f) r0 ht ha hb hta htb h0 g0 n1 m1 (hnm (by omega) (by omega)) hi b1 b2 b3
        refine ⟨w', ⟨d2, d3, ?_⟩, d1⟩
        rw [d4, evb]
        show _ = (iv (zi w0 a) i + zi w0 a i * ((65536 ^ i : Nat) : Int)) * (vb : Int)
        rw [Int.add_mul])
    (fun f w hI => by
      obtain ⟨b1, b2, b3⟩ := hI
      have hiv : iv (zi w t) 256 = ((va * vb : Nat) : Int) := by rw [b3, eva]; exact (Int.natCast_mul _ _).symm
      obtain ⟨w', c1, c2, c3⟩ := gz_settle (F := F) hF (u := w) (a := t) (v := va * vb) (r0.zf b1) ht (fun k hk => by
        have := b2 k hk
        omega) hiv hl
      refine ⟨w', ?_, b1.trans c2, c3⟩
      show gf_Model_multiply_S22 F gv_z _ w 670 (Int32.ofNat t) (Int32.ofNat a) (Int32.ofNat b) (Int32.ofNat n) (Int32.ofNat m) (Int32.ofNat n) = _
      unfold gf_Model_multiply_S22
      rw [if_pos ((gi_le (by omega) (by omega)).mpr (Nat.le_refl _)), c1]
      rfl)
  obtain ⟨w, c1, c2, c3⟩ := main n 0 w0 F (by omega) ⟨Zf.refl, fun k hk => by rw [a4 k hk]; omega, by
    rw [iv_congr (g := fun _ => 0) (fun k hk => a4 k hk)]
    rw [iv_bv (fun _ _ => by omega), bv_zero (f := fun _ => Int.toNat 0) (fun _ _ => rfl)]
    simp [iv]⟩ (by omega)
  refine ⟨w, ?_, a2.trans c2, c3⟩
  show (gf_Model_clearWide F gv_z u 670 (Int32.ofNat t)).bind _ = _
  rw [a1]
  show gf_cl (gf_Model_size F gv_z w0 670 (Int32.ofNat a)) _ = _
  rw [n2]
  show gf_cl (gf_Model_size F gv_z w0 670 (Int32.ofNat b)) _ = _
  rw [m2]
  exact c1
/-- the reference's division -/
theorem gz_divide {F : Nat} (hF : 20000 ≤ F) {u : gw_St} {a b c d va vb vc vd : Nat} (hr : gv_Rf u) (ha : a < 18) (hb : b < 18) (hc : c < 18) (hd : d < 18) (hac : a ≠ c) (h : Zw u a va) (g : Zw u b vb) (hC : Zw u c vc) (hD : Zw u d vd) (hb0 : 0 < vb) (hfit : vd * va < 65536 ^ 256) (hfit2 : vc + vd * (va / vb) < 65536 ^ 256) :
    ∃ w, gf_Model_divide F gv_z u 670 (Int32.ofNat a) (Int32.ofNat b) (Int32.ofNat c) (Int32.ofNat d) = some w ∧ Zf (fun x => x = a ∨ x = c ∨ x = 18 ∨ x = 19) u w ∧ Zw w a (va % vb) ∧ Zw w c (vc + vd * (va / vb)) := by
  obtain ⟨ka, x1, x2, x3, x4⟩ := gz_bits (F := F) (by omega) hr (by omega) h
  obtain ⟨kb, y1, y2, y3, y4⟩ := gz_bits (F := F) (by omega) hr (by omega) g
  have hkb : 0 < kb := by
    apply Nat.pos_of_ne_zero
    intro e
    subst e
    simp at y3
    omega
  show ∃ w, gf_Model_divide_b0 F gv_z u 670 (Int32.ofNat a) (Int32.ofNat b) (Int32.ofNat c) (Int32.ofNat d) = some w ∧ _
  unfold gf_Model_divide_b0
  rw [x2]
  simp only [gf_cl]
  rw [y2]
  simp only [gf_nm]
  by_cases ck : kb ≤ ka
  · obtain ⟨s, hs⟩ : ∃ s, s = ka - kb := ⟨_, rfl⟩
    rw [gi_sub ck (by omega), ← hs, if_pos (show (0 : Int32) ≤ Int32.ofNat s from (gi_le (a := 0) (by omega) (by omega)).mpr (by omega))]
    have p18 : vb * 2 ^ s < 65536 ^ 256 := by
      have h1 : vb * 2 ^ s < 2 ^ kb * 2 ^ s := Nat.mul_lt_mul_of_pos_right y3 (Nat.two_pow_pos s)
      have h2 : (2 : Nat) ^ kb * 2 ^ s ≤ 2 ^ 4096 := by rw [← Nat.pow_add]; exact Nat.pow_le_pow_right (by decide) (by omega)
      have h3 : (2 : Nat) ^ 4096 = 65536 ^ 256 := (pw16 256).symm
      omega
    have p19 : vd * 2 ^ s < 65536 ^ 256 := by
      have h1 : 2 ^ s ≤ va := Nat.le_trans (Nat.pow_le_pow_right (by decide) (by omega)) (x4 (by omega))
      exact Nat.lt_of_le_of_lt (Nat.mul_le_mul_left _ h1) hfit
    obtain ⟨w1, a1, a2, a3⟩ := gz_copy (F := F) (by omega) (u := u) (a := 18) (b := b) hr (by omega) (by omega) g
    have r1 := hr.zf a2
    obtain ⟨w2, b1, b2, b3⟩ := gz_copy (F := F) (by omega) (u := w1) (a := 19) (b := d) r1 (by omega) (by omega) (hD.zf a2 (by omega))
    have f2 : Zf (fun x => x = a ∨ x = c ∨ x = 18 ∨ x = 19) u w2 := (a2.mono (fun x e => by omega)).trans (b2.mono (fun x e => by omega))
    have r2 := hr.zf f2
    rw [show gf_Model_copyWide F gv_z u 670 18 (Int32.ofNat b) = some w1 from a1]
    show ∃ w, (gf_Model_copyWide F gv_z w1 670 19 (Int32.ofNat d)).bind _ = some w ∧ _
    rw [show gf_Model_copyWide F gv_z w1 670 19 (Int32.ofNat d) = some w2 from b1]
    show ∃ w, gf_Model_divide_L37 F gv_z F w2 670 (Int32.ofNat a) (Int32.ofNat c) (Int32.ofNat s) (Int32.ofNat 0) = some w ∧ _
    have dbl := gl_up (σ := gw_St) (N := s) (L := fun f w k => gf_Model_divide_L37 F gv_z f w 670 (Int32.ofNat a) (Int32.ofNat c) (Int32.ofNat s) (Int32.ofNat k))
      (I := fun k w => Zf (fun x => x = 18 ∨ x = 19) w2 w ∧ Zw w 18 (vb * 2 ^ k) ∧ Zw w 19 (vd * 2 ^ k))
      (R := fun r => ∃ w, r = gf_Model_divide_L66 F gv_z F w 670 (Int32.ofNat a) (Int32.ofNat c) (Int32.ofNat s) ∧ Zf (fun x => x = 18 ∨ x = 19) w2 w ∧ Zw w 18 (vb * 2 ^ s) ∧ Zw w 19 (vd * 2 ^ s))
      (fun f w k hI hk => by
        obtain ⟨i1, i2, i3⟩ := hI
        have rw1 := r2.zf i1
        have hpk : 2 * 2 ^ k ≤ 2 ^ s := by
          have : (2 : Nat) ^ (k + 1) ≤ 2 ^ s := Nat.pow_le_pow_right (by decide) hk
          rw [Nat.pow_succ] at this
          omega
        have q1 : 2 * (vb * 2 ^ k) ≤ vb * 2 ^ s := by rw [Nat.mul_left_comm]; exact Nat.mul_le_mul_left _ hpk
        have q2 : 2 * (vd * 2 ^ k) ≤ vd * 2 ^ s := by rw [Nat.mul_left_comm]; exact Nat.mul_le_mul_left _ hpk
        obtain ⟨w', t1, t2, t3⟩ := gz_twice (F := F) (by omega) (u := w) (a := 18) rw1 (by omega) i2 (by omega)
        obtain ⟨w'', v1, v2, v3⟩ := gz_twice (F := F) (by omega) (u := w') (a := 19) (rw1.zf t2) (by omega) (i3.zf t2 (by omega)) (by omega)
        refine ⟨w'', ⟨i1.trans ((t2.mono (fun x e => Or.inl e)).trans (v2.mono (fun x e => Or.inr e))), ?_, ?_⟩, ?_⟩
        · have := t3.zf v2 (by omega)
          rw [show vb * 2 ^ (k + 1) = 2 * (vb * 2 ^ k) by rw [Nat.pow_succ, Nat.mul_comm (2 ^ k), Nat.mul_left_comm]]
          exact this
        · rw [show vd * 2 ^ (k + 1) = 2 * (vd * 2 ^ k) by rw [Nat.pow_succ, Nat.mul_comm (2 ^ k), Nat.mul_left_comm]]
          exact v3
        · show gf_Model_divide_S37 F gv_z _ w 670 (Int32.ofNat a) (Int32.ofNat c) (Int32.ofNat s) (Int32.ofNat k) = _
          unfold gf_Model_divide_S37
          rw [if_neg (fun e => by have := (gi_le (by omega) (by omega)).mp e; omega), show gf_Model_twice F gv_z w 670 18 = some w' from t1]
          show (gf_Model_twice F gv_z w' 670 19).bind _ = _
          rw [show gf_Model_twice F gv_z w' 670 19 = some w'' from v1]
          show gf_Model_divide_L37 F gv_z f w'' 670 (Int32.ofNat a) (Int32.ofNat c) (Int32.ofNat s) (Int32.ofNat k + 1) = _
          rw [gw_iS])
      (fun f w hI => by
        obtain ⟨i1, i2, i3⟩ := hI
        refine ⟨w, ?_, i1, i2, i3⟩
        show gf_Model_divide_S37 F gv_z _ w 670 (Int32.ofNat a) (Int32.ofNat c) (Int32.ofNat s) (Int32.ofNat s) = _
        unfold gf_Model_divide_S37
        rw [if_pos ((gi_le (by omega) (by omega)).mpr (Nat.le_refl _))])
    obtain ⟨w3, e1, e2, e3, e4⟩ := dbl s 0 w2 F (by omega) ⟨Zf.refl, by rw [Nat.pow_zero, Nat.mul_one]; exact a3.zf b2 (by omega), by rw [Nat.pow_zero, Nat.mul_one]; exact b3⟩ (by omega)
    rw [e1]
    have f3 : Zf (fun x => x = a ∨ x = c ∨ x = 18 ∨ x = 19) u w3 := f2.trans (e2.mono (fun x e => by omega))
    have run : ∀ (j f : Nat) (w : gw_St) (A Q : Nat), j ≤ 4097 → j < f → Zf (fun x => x = a ∨ x = c ∨ x = 18 ∨ x = 19) u w → (0 < j → Zw w 18 (vb * 2 ^ (j - 1)) ∧ Zw w 19 (vd * 2 ^ (j - 1))) → Zw w a A → A < vb * 2 ^ j → A + vb * Q = va → Zw w c (vc + vd * Q) → ∃ w', gf_Model_divide_L66 F gv_z f w 670 (Int32.ofNat a) (Int32.ofNat c) (Int32.ofNat j - 1) = some w' ∧ Zf (fun x => x = a ∨ x = c ∨ x = 18 ∨ x = 19) u w' ∧ Zw w' a (va % vb) ∧ Zw w' c (vc + vd * (va / vb)) := by
      intro j
      induction j with
      | zero =>
        intro f w A Q _ hf hw _ hA hAl hE hCw
        obtain ⟨f, rfl⟩ : ∃ g, f = g + 1 := ⟨f - 1, by omega⟩
        rw [Nat.pow_zero, Nat.mul_one] at hAl
        have q1 : va / vb = Q := by rw [← hE, Nat.add_mul_div_left _ _ hb0, Nat.div_eq_of_lt hAl, Nat.zero_add]
        have q2 : va % vb = A := by rw [← hE, Nat.add_mul_mod_self_left, Nat.mod_eq_of_lt hAl]
        refine ⟨w, ?_, hw, by rw [q2]; exact hA, by rw [q1]; exact hCw⟩
        show gf_Model_divide_S66 F gv_z _ w 670 (Int32.ofNat a) (Int32.ofNat c) (Int32.ofNat 0 - 1) = _
        unfold gf_Model_divide_S66
        rw [if_pos (by decide)]
      | succ j ih =>
        intro f w A Q hj hf hw hz hA hAl hE hCw
        obtain ⟨f, rfl⟩ : ∃ g, f = g + 1 := ⟨f - 1, by omega⟩
        obtain ⟨z1, z2⟩ := hz (by omega)
        rw [Nat.add_sub_cancel] at z1 z2
        have rw1 := hr.zf hw
        have fin : ∀ (w5 : gw_St) (A' Q' : Nat), Zf (fun x => x = a ∨ x = c ∨ x = 18 ∨ x = 19) u w5 → Zw w5 18 (vb * 2 ^ j) → Zw w5 19 (vd * 2 ^ j) → Zw w5 a A' → A' < vb * 2 ^ j → A' + vb * Q' = va → Zw w5 c (vc + vd * Q') → ∃ w', gf_Model_divide_b97 F gv_z (gf_Model_divide_L66 F gv_z f) w5 670 (Int32.ofNat a) (Int32.ofNat c) (Int32.ofNat j) = some w' ∧ Zf (fun x => x = a ∨ x = c ∨ x = 18 ∨ x = 19) u w' ∧ Zw w' a (va % vb) ∧ Zw w' c (vc + vd * (va / vb)) := by
          intro w5 A' Q' k1 k2 k3 k4 k5 k6 k7
          have r5 := hr.zf k1
          obtain ⟨w6, m1, m2, m3⟩ := gz_half (F := F) (by omega) (u := w5) (a := 18) r5 (by omega) k2
          obtain ⟨w7, n1, n2, n3⟩ := gz_half (F := F) (by omega) (u := w6) (a := 19) (r5.zf m2) (by omega) (k3.zf m2 (by omega))
          obtain ⟨w8, o1, o2, o3, o4⟩ := ih f w7 A' Q' (by omega) (by omega) (k1.trans ((m2.mono (fun x e => by omega)).trans (n2.mono (fun x e => by omega)))) (fun hj0 => by
            obtain ⟨j', rfl⟩ : ∃ j', j = j' + 1 := ⟨j - 1, by omega⟩
            have e1 : vb * 2 ^ (j' + 1) / 2 = vb * 2 ^ j' := by rw [Nat.pow_succ, ← Nat.mul_assoc, Nat.mul_div_cancel _ (by decide)]
            have e2 : vd * 2 ^ (j' + 1) / 2 = vd * 2 ^ j' := by rw [Nat.pow_succ, ← Nat.mul_assoc, Nat.mul_div_cancel _ (by decide)]
            rw [e1] at m3
            rw [e2] at n3
            rw [Nat.add_sub_cancel]
            exact ⟨m3.zf n2 (by omega), n3⟩) ((k4.zf m2 (by omega)).zf n2 (by omega)) k5 k6 ((k7.zf m2 (by omega)).zf n2 (by omega))
          refine ⟨w8, ?_, o2, o3, o4⟩
          unfold gf_Model_divide_b97
          rw [show gf_Model_half F gv_z w5 670 18 = some w6 from m1]
          show (gf_Model_half F gv_z w6 670 19).bind _ = _
          rw [show gf_Model_half F gv_z w6 670 19 = some w7 from n1]
          show gf_Model_divide_L66 F gv_z f w7 670 (Int32.ofNat a) (Int32.ofNat c) (Int32.ofNat j + (-1)) = _
          rw [show Int32.ofNat j + (-1) = Int32.ofNat j - 1 from (Int32.sub_eq_add_neg ..).symm, o1]
        have hst : ∀ P : gw_St → Prop, (∃ w', gf_Model_divide_S66 F gv_z (gf_Model_divide_L66 F gv_z f) w 670 (Int32.ofNat a) (Int32.ofNat c) (Int32.ofNat j) = some w' ∧ P w') → ∃ w', gf_Model_divide_L66 F gv_z (f + 1) w 670 (Int32.ofNat a) (Int32.ofNat c) (Int32.ofNat (j + 1) - 1) = some w' ∧ P w' := by
          intro P hP
          obtain ⟨w', p1, p2⟩ := hP
          refine ⟨w', ?_, p2⟩
          show gf_Model_divide_S66 F gv_z _ w 670 (Int32.ofNat a) (Int32.ofNat c) (Int32.ofNat (j + 1) - 1) = _
          rw [gi_sub1 (by omega)]
          exact p1
        apply hst
        unfold gf_Model_divide_S66
        rw [if_neg (gi_n0 (by omega)), show gf_Model_compareWide F gv_z w 670 (Int32.ofNat a) 18 = _ from gz_compare (F := F) (by omega) (u := w) (a := a) (b := 18) rw1 (by omega) (by omega) hA z1]
        simp only [gf_cl]
        by_cases cA : A < vb * 2 ^ j
        · rw [if_pos cA, if_pos (by decide)]
          exact fin w A Q hw z1 z2 hA cA hE hCw
        · rw [if_neg cA]
          have hpos : ¬ (if A = vb * 2 ^ j then (0 : Int32) else 1) < 0 := by split <;> decide
          rw [if_neg hpos]
          obtain ⟨w4, m1, m2, m3⟩ := gz_add (F := F) (by omega) (u := w) (a := a) (b := 18) (v := A - vb * 2 ^ j) (x := 1) rw1 (by omega) (by omega) (by omega) hA z1 (Or.inr ⟨rfl, by omega⟩) (by have := hA.lt; omega)
          have hQ : vd * (Q + 2 ^ j) ≤ vd * (va / vb) := by
            apply Nat.mul_le_mul_left
            rw [Nat.le_div_iff_mul_le hb0, Nat.mul_comm, Nat.mul_add]
            omega
          rw [Nat.mul_add] at hQ
          obtain ⟨w5, n1, n2, n3⟩ := gz_add (F := F) (by omega) (u := w4) (a := c) (b := 19) (v := vc + vd * (Q + 2 ^ j)) (x := 0) (rw1.zf m2) (by omega) (by omega) (by omega) (hCw.zf m2 (by omega)) (z2.zf m2 (by omega)) (Or.inl ⟨rfl, by rw [Nat.mul_add]; omega⟩) (by rw [Nat.mul_add]; omega)
          have k1 : Zf (fun x => x = a ∨ x = c ∨ x = 18 ∨ x = 19) u w5 := hw.trans ((m2.mono (fun x e => by omega)).trans (n2.mono (fun x e => by omega)))
          rw [show gf_Model_addWide F gv_z w 670 (Int32.ofNat a) 18 1 = some w4 from m1]
          show ∃ w', (gf_Model_addWide F gv_z w4 670 (Int32.ofNat c) 19 0).bind _ = some w' ∧ _
          rw [show gf_Model_addWide F gv_z w4 670 (Int32.ofNat c) 19 0 = some w5 from n1]
          exact fin w5 (A - vb * 2 ^ j) (Q + 2 ^ j) k1 ((z1.zf m2 (by omega)).zf n2 (by omega)) ((z2.zf m2 (by omega)).zf n2 (by omega)) (m3.zf n2 (by omega)) (by rw [Nat.pow_succ, ← Nat.mul_assoc] at hAl; omega) (by rw [Nat.mul_add]; omega) n3
    have hva : va < vb * 2 ^ (s + 1) := by
      have h1 : 2 ^ (kb - 1) * 2 ^ (s + 1) ≤ vb * 2 ^ (s + 1) := Nat.mul_le_mul_right _ (y4 hkb)
      rw [← Nat.pow_add, show kb - 1 + (s + 1) = ka by omega] at h1
      omega
    obtain ⟨w4, o1, o2, o3, o4⟩ := run (s + 1) F w3 va 0 (by omega) (by omega) f3 (fun _ => by rw [Nat.add_sub_cancel]; exact ⟨e3, e4⟩) (((h.zf a2 (by omega)).zf b2 (by omega)).zf e2 (by omega)) hva (by omega) (by rw [Nat.mul_zero, Nat.add_zero]; exact ((hC.zf a2 (by omega)).zf b2 (by omega)).zf e2 (by omega))
    refine ⟨w4, ?_, o2, o3, o4⟩
    rw [← o1, gi_sub1 (by omega)]
  · have hneg : ¬ (0 : Int32) ≤ Int32.ofNat ka - Int32.ofNat kb := by
      intro e
      have := i32_le.mp e
      have e0 : (0 : Int32).toInt = 0 := rfl
      rw [n32_sub (by rw [i32_nat (by omega), i32_nat (by omega)]; omega) (by rw [i32_nat (by omega), i32_nat (by omega)]; omega), i32_nat (by omega), i32_nat (by omega)] at this
      omega
    rw [if_neg hneg]
    have hlt : va < vb := by
      have h1 := y4 hkb
      have h2 : (2 : Nat) ^ ka ≤ 2 ^ (kb - 1) := Nat.pow_le_pow_right (by decide) (by omega)
      omega
    refine ⟨u, rfl, Zf.refl, ?_, ?_⟩
    · rw [Nat.mod_eq_of_lt hlt]; exact h
    · rw [Nat.div_eq_of_lt hlt, Nat.mul_zero, Nat.add_zero]; exact hC
