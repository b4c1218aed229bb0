theorem gz_clear {F : Nat} (hF : 2000 ≤ F) {u : gw_St} {a : Nat} (hr : gv_Rf u) (ha : a < 20) : ∃ w, gf_Model_clearWide F gv_z u 670 (Int32.ofNat a) = some w ∧ Zf (fun b => b = a) u w ∧ Zw w a 0 ∧ ∀ k, k < 256 → zi w a k = 0 := by
  have main := gl_up (σ := gw_St) (N := 256) (L := fun f w k => gf_Model_clearWide_L2 F gv_z f w 670 (Int32.ofNat a) (Int32.ofNat k))
    (I := fun k w => Zf (fun b => b = a) u w ∧ ∀ j, j < k → zi w a j = 0)
    (R := fun r => ∃ w, r = some w ∧ Zf (fun b => b = a) u w ∧ Zw w a 0 ∧ ∀ k, k < 256 → zi w a k = 0)
    (fun f w k hI hk => by
      obtain ⟨b1, b2⟩ := hI
      have hrw := hr.zf b1
      refine ⟨gw_wl w 700 (256 * a + k) 0, ⟨b1.trans (Zf.wl hk), fun j hj => ?_⟩, ?_⟩
      · rw [zi_set1]
        by_cases h : j = k
        · rw [if_pos h]; rfl
        · rw [if_neg h]; exact b2 j (by omega)
      · show gf_Model_clearWide_S2 F gv_z _ w 670 (Int32.ofNat a) (Int32.ofNat k) = _
        unfold gf_Model_clearWide_S2
        rw [if_neg (fun e : (256 : Int32) ≤ Int32.ofNat k => by have := (gi_le (a := 256) (by omega) (by omega)).mp e; omega), hrw.get rfl gv_r670_48]
        simp only [gf_nn, gf_nm]
        rw [gz_ix, if_neg (gi_ix (by rw [gv_l700]; omega) (by omega)), i32_clamp (by omega), gw_iS])
    (fun f w hI => by
      obtain ⟨b1, b2⟩ := hI
      refine ⟨w, ?_, b1, ⟨fun k hk => by rw [b2 k hk]; omega, ?_⟩, b2⟩
      · show gf_Model_clearWide_S2 F gv_z _ w 670 (Int32.ofNat a) (Int32.ofNat 256) = _
        unfold gf_Model_clearWide_S2
        rw [if_pos (by decide)]
      · rw [iv_bv (fun k hk => by rw [b2 k hk]; omega), bv_zero (fun k hk => by rw [b2 k hk]; rfl)])
  exact main 256 0 u F (by omega) ⟨Zf.refl, fun j hj => absurd hj (Nat.not_lt_zero j)⟩ (by omega)
theorem gz_copy {F : Nat} (hF : 2000 ≤ F) {u : gw_St} {a b v : Nat} (hr : gv_Rf u) (ha : a < 20) (hb : b < 20) (h : Zw u b v) : ∃ w, gf_Model_copyWide F gv_z u 670 (Int32.ofNat a) (Int32.ofNat b) = some w ∧ Zf (fun c => c = a) u w ∧ Zw w a v := by
  have main := gl_up (σ := gw_St) (N := 256) (L := fun f w k => gf_Model_copyWide_L2 F gv_z f w 670 (Int32.ofNat a) (Int32.ofNat b) (Int32.ofNat k))
    (I := fun k w => Zf (fun c => c = a) u w ∧ (∀ j, j < 256 → zi w b j = zi u b j) ∧ ∀ j, j < k → zi w a j = zi u b j)
    (R := fun r => ∃ w, r = some w ∧ Zf (fun c => c = a) u w ∧ Zw w a v)
    (fun f w k hI hk => by
      obtain ⟨b1, b2, b3⟩ := hI
      have hrw := hr.zf b1
      refine ⟨gw_wl w 700 (256 * a + k) (w.2.1 700 (256 * b + k)), ⟨b1.trans (Zf.wl hk), fun j hj => ?_, fun j hj => ?_⟩, ?_⟩
      · rw [zi_set hk hj]
        by_cases h : b = a ∧ j = k
        · rw [if_pos h, h.2]; exact b2 k hk
        · rw [if_neg h]; exact b2 j hj
      · rw [zi_set1]
        by_cases h : j = k
        · rw [if_pos h, h]; exact b2 k hk
        · rw [if_neg h]; exact b3 j (by omega)
      · show gf_Model_copyWide_S2 F gv_z _ w 670 (Int32.ofNat a) (Int32.ofNat b) (Int32.ofNat k) = _
        unfold gf_Model_copyWide_S2
        rw [if_neg (fun e : (256 : Int32) ≤ Int32.ofNat k => by have := (gi_le (a := 256) (by omega) (by omega)).mp e; omega), hrw.get rfl gv_r670_48]
        simp only [gf_nn, gf_nm]
        rw [gz_ix, gz_ix, if_neg (gi_ix (by rw [gv_l700]; omega) (by omega)), if_neg (gi_ix (by rw [gv_l700]; omega) (by omega)), i32_clamp (by omega), i32_clamp (by omega), gw_iS])
    (fun f w hI => by
      obtain ⟨b1, b2, b3⟩ := hI
      refine ⟨w, ?_, b1, ⟨fun k hk => by rw [b3 k hk]; exact h.1 k hk, by rw [iv_congr b3]; exact h.2⟩⟩
      show gf_Model_copyWide_S2 F gv_z _ w 670 (Int32.ofNat a) (Int32.ofNat b) (Int32.ofNat 256) = _
      unfold gf_Model_copyWide_S2
      rw [if_pos (by decide)])
  exact main 256 0 u F (by omega) ⟨Zf.refl, fun _ _ => rfl, fun j hj => absurd hj (Nat.not_lt_zero j)⟩ (by omega)
theorem gz_sizeL {F : Nat} {u : gw_St} {a : Nat} (hr : gv_Rf u) (ha : a < 20) : ∀ (n f : Nat), n ≤ 256 → n < f → ∃ m, m ≤ n ∧ gf_Model_size_L4 F gv_z f u 670 (Int32.ofNat a) (Int32.ofNat n) = some (Int32.ofNat m, u) ∧ (∀ k, m ≤ k → k < n → zi u a k = 0) ∧ (0 < m → zi u a (m - 1) ≠ 0) := by
  intro n
  induction n with
  | zero =>
    intro f _ hf
    obtain ⟨f, rfl⟩ : ∃ g, f = g + 1 := ⟨f - 1, by omega⟩
    refine ⟨0, by omega, ?_, fun k h1 h2 => by omega, fun h => by omega⟩
    show gf_Model_size_S4 F gv_z _ u 670 (Int32.ofNat a) (Int32.ofNat 0) = _
    unfold gf_Model_size_S4 gf_Model_size_b33
    rw [if_pos (by decide)]
  | succ n ih =>
    intro f hn hf
    obtain ⟨f, rfl⟩ : ∃ g, f = g + 1 := ⟨f - 1, by omega⟩
    have hst : gf_Model_size_L4 F gv_z (f + 1) u 670 (Int32.ofNat a) (Int32.ofNat (n + 1)) = if lg_cmp (u.2.1 700 (256 * a + n)) 0 = 0 then gf_Model_size_L4 F gv_z f u 670 (Int32.ofNat a) (Int32.ofNat n) else some (Int32.ofNat (n + 1), u) := by
      show gf_Model_size_S4 F gv_z _ u 670 (Int32.ofNat a) (Int32.ofNat (n + 1)) = _
      unfold gf_Model_size_S4 gf_Model_size_b33
      rw [if_neg (fun e => by have := (gi_le0 (by omega)).mp e; omega), hr.get rfl gv_r670_48]
      simp only [gf_nn, gf_nm]
      rw [gz_ix, show Int32.ofNat (256 * a + (n + 1)) - 1 = Int32.ofNat (256 * a + n) from gi_sub1 (n := 256 * a + n) (by omega), if_neg (gi_ix (by rw [gv_l700]; omega) (by omega)), i32_clamp (by omega), gi_m1 (by omega)]
    have e0 : (0 : Int64).toInt = 0 := rfl
    by_cases c : lg_cmp (u.2.1 700 (256 * a + n)) 0 = 0
    · obtain ⟨m, m1, m2, m3, m4⟩ := ih f (by omega) (by omega)
      refine ⟨m, by omega, by rw [hst, if_pos c]; exact m2, fun k h1 h2 => ?_, m4⟩
      by_cases h : k = n
      · have := lgc_zero.mp c
        rw [h]; exact this
      · exact m3 k h1 (by omega)
    · refine ⟨n + 1, Nat.le_refl _, by rw [hst, if_neg c], fun k h1 h2 => by omega, fun _ e => c (lgc_zero.mpr e)⟩
theorem gz_size {F : Nat} (hF : 2000 ≤ F) {u : gw_St} {a v : Nat} (hr : gv_Rf u) (ha : a < 20) (h : Zw u a v) : ∃ m, m ≤ 256 ∧ gf_Model_size F gv_z u 670 (Int32.ofNat a) = some (Int32.ofNat m, u) ∧ (∀ k, m ≤ k → k < 256 → zi u a k = 0) ∧ (0 < m → zi u a (m - 1) ≠ 0) ∧ v < 65536 ^ m ∧ (0 < m → 65536 ^ (m - 1) ≤ v) ∧ bv 65536 (fun i => (zi u a i).toNat) m = v := by
  obtain ⟨m, m1, m2, m3, m4⟩ := gz_sizeL (F := F) hr ha 256 F (by omega) (by omega)
  have hv : bv 65536 (fun i => (zi u a i).toNat) m = v := by
    rw [← h.bv]
    exact (bv_cut m1 (fun i h1 h2 => by rw [m3 i h1 h2]; rfl)).symm
  refine ⟨m, m1, m2, m3, m4, ?_, fun hm => ?_, hv⟩
  · rw [← hv]
    exact bv_lt (fun i hi => by have := h.1 i (by omega); omega)
  · have h1 := bv_le (B := 65536) (f := fun i => (zi u a i).toNat) hm
    have h2 := m4 hm
    have h3 := h.1 (m - 1) (by omega)
    rw [hv] at h1
    have h4 : 1 * 65536 ^ (m - 1) ≤ (zi u a (m - 1)).toNat * 65536 ^ (m - 1) := Nat.mul_le_mul_right _ (by omega)
    rw [Nat.one_mul] at h4
    exact Nat.le_trans h4 h1
theorem pw16 (n : Nat) : 65536 ^ n = 2 ^ (16 * n) := by
  rw [Nat.pow_mul]
theorem gz_bitsL {F : Nat} {u : gw_St} {a n X : Nat} (hr : gv_Rf u) (ha : a < 20) (hn : 0 < n) (hn2 : n ≤ 256) (hX : zi u a (n - 1) = (X : Int)) (hX2 : X < 65536) : ∀ (j b f : Nat), b + j = 17 → j < f → ∃ c, b ≤ c ∧ c ≤ b + 16 ∧ X < 2 ^ c ∧ (b < c → 2 ^ (c - 1) ≤ X) ∧ (b ≤ 16 → gf_Model_bits_L8 F gv_z f u 670 (Int32.ofNat a) (Int32.ofNat n) (Int32.ofNat b) = some (Int32.ofNat (16 * (n - 1) + c), u)) := by
  intro j
  induction j with
  | zero =>
    intro b f hb hf
    refine ⟨b, by omega, by omega, ?_, by omega, by omega⟩
    have : (2 : Nat) ^ 16 ≤ 2 ^ b := Nat.pow_le_pow_right (by decide) (by omega)
    omega
  | succ j ih =>
    intro b f hb hf
    obtain ⟨f, rfl⟩ : ∃ g, f = g + 1 := ⟨f - 1, by omega⟩
    have hst : b ≤ 16 → gf_Model_bits_L8 F gv_z (f + 1) u 670 (Int32.ofNat a) (Int32.ofNat n) (Int32.ofNat b) = if X / 2 ^ b = 0 then some (Int32.ofNat (16 * (n - 1) + b), u) else gf_Model_bits_L8 F gv_z f u 670 (Int32.ofNat a) (Int32.ofNat n) (Int32.ofNat (b + 1)) := by
      intro hb16
      show gf_Model_bits_S8 F gv_z _ u 670 (Int32.ofNat a) (Int32.ofNat n) (Int32.ofNat b) = _
      unfold gf_Model_bits_S8 gf_Model_bits_b39 gf_Model_bits_b55
      rw [if_neg (fun e => by have := (gi_le0 (by omega)).mp e; omega), hr.get rfl gv_r670_48]
      simp only [gf_nn, gf_nm]
      rw [gz_ix, show Int32.ofNat (256 * a + n) - 1 = Int32.ofNat (256 * a + (n - 1)) from by rw [show 256 * a + (n - 1) = 256 * a + n - 1 by omega]; exact gi_sub (b := 1) (by omega) (by omega), if_neg (gi_ix (by rw [gv_l700]; omega) (by omega)), i32_clamp (by omega)]
      have hs := n64_shrv (t := u.2.1 700 (256 * a + (n - 1))) (s := b) (by omega)
      have hX' : (u.2.1 700 (256 * a + (n - 1))).toInt = (X : Int) := hX
      rw [hX', p2_cast, ← Int.natCast_ediv] at hs
      have e0 : (0 : Int64).toInt = 0 := rfl
      by_cases c : X / 2 ^ b = 0
      · rw [if_pos c, if_pos (lgc_zero.mpr (by rw [hs, c]; rfl)), if_neg (fun e => by have := (gi_eq0 (by omega)).mp e; omega)]
        rw [show Int32.ofNat n - 1 = Int32.ofNat (n - 1) from gi_sub (b := 1) (by omega) (by omega), show (16 : Int32) = Int32.ofNat 16 from rfl, gi_mul, gi_add]
      · rw [if_neg c, if_neg (fun e => by have := lgc_zero.mp e; rw [hs, e0] at this; omega), gw_iS]
    by_cases c : X / 2 ^ b = 0
    · have hlt : X < 2 ^ b := by
        rcases Nat.div_eq_zero_iff.mp c with h | h
        · have := Nat.two_pow_pos b; omega
        · exact h
      exact ⟨b, by omega, by omega, hlt, by omega, fun hb => by rw [hst hb, if_pos c]⟩
    · obtain ⟨c', c1, c2, c3, c4, c5⟩ := ih (b + 1) f (by omega) (by omega)
      have hge : 2 ^ b ≤ X := by
        apply Nat.le_of_not_lt
        intro h
        exact c (Nat.div_eq_of_lt h)
      have hb16 : b < 16 := p2_lt (m := 16) hge (by omega)
      refine ⟨c', by omega, ?_, c3, fun _ => ?_, fun hb => by rw [hst hb, if_neg c]; exact c5 (by omega)⟩
      · apply Nat.le_of_not_lt
        intro h
        have h1 := c4 (by omega)
        have h2 := p2_lt (m := 16) h1 (by omega)
        omega
      · by_cases h : b + 1 < c'
        · exact c4 h
        · rw [show c' - 1 = b by omega]; exact hge
/-- how many bits a wide number has -/
theorem gz_bits {F : Nat} (hF : 2000 ≤ F) {u : gw_St} {a v : Nat} (hr : gv_Rf u) (ha : a < 20) (h : Zw u a v) : ∃ k, k ≤ 4096 ∧ gf_Model_bits F gv_z u 670 (Int32.ofNat a) = some (Int32.ofNat k, u) ∧ v < 2 ^ k ∧ (0 < k → 2 ^ (k - 1) ≤ v) := by
  obtain ⟨m, m1, m2, m3, m4, m5, m6, m7⟩ := gz_size (F := F) hF hr ha h
  show ∃ k, k ≤ 4096 ∧ gf_Model_bits_b0 F gv_z u 670 (Int32.ofNat a) = some (Int32.ofNat k, u) ∧ _
  unfold gf_Model_bits_b0
  rw [m2]
  simp only [gf_cl]
  by_cases c : m = 0
  · subst c
    obtain ⟨f, rfl⟩ : ∃ g, F = g + 1 := ⟨F - 1, by omega⟩
    refine ⟨0, by omega, ?_, by simpa using m5, by omega⟩
    show gf_Model_bits_S8 (f + 1) gv_z _ u 670 (Int32.ofNat a) (Int32.ofNat 0) 0 = _
    unfold gf_Model_bits_S8 gf_Model_bits_b39 gf_Model_bits_b55
    rw [if_pos (by decide), if_pos (by decide)]
    rfl
  · have hd := h.1 (m - 1) (by omega)
    obtain ⟨X, hX⟩ : ∃ X : Nat, zi u a (m - 1) = (X : Int) := ⟨(zi u a (m - 1)).toNat, by omega⟩
    have hX0 := m4 (by omega)
    obtain ⟨c', c1, c2, c3, c4, c5⟩ := gz_bitsL (F := F) hr ha (n := m) (X := X) (by omega) m1 hX (by omega) 17 0 F (by omega) (by omega)
    have hc0 : 0 < c' := by
      apply Nat.pos_of_ne_zero
      intro e
      subst e
      simp at c3
      omega
    have hc16 : c' ≤ 16 := by omega
    have hev : v = bv 65536 (fun i => (zi u a i).toNat) (m - 1) + X * 65536 ^ (m - 1) := by
      rw [← m7]
      obtain ⟨n, rfl⟩ : ∃ n, m = n + 1 := ⟨m - 1, by omega⟩
      show _ + (zi u a n).toNat * _ = _
      rw [show n + 1 - 1 = n from rfl] at hX
      rw [hX]; rfl
    have hl : bv 65536 (fun i => (zi u a i).toNat) (m - 1) < 65536 ^ (m - 1) := bv_lt (fun i hi => by have := h.1 i (by omega); omega)
    refine ⟨16 * (m - 1) + c', by omega, c5 (by omega), ?_, fun _ => ?_⟩
    · have h1 : (X + 1) * 65536 ^ (m - 1) ≤ 2 ^ c' * 65536 ^ (m - 1) := Nat.mul_le_mul_right _ c3
      rw [Nat.add_mul] at h1
      have h2 : 2 ^ c' * 65536 ^ (m - 1) = 2 ^ (16 * (m - 1) + c') := by rw [pw16, ← Nat.pow_add, Nat.add_comm]
      omega
    · have h0 := c4 hc0
      have h1 : 2 ^ (c' - 1) * 65536 ^ (m - 1) ≤ X * 65536 ^ (m - 1) := Nat.mul_le_mul_right _ h0
      have h2 : 2 ^ (c' - 1) * 65536 ^ (m - 1) = 2 ^ (16 * (m - 1) + c' - 1) := by rw [pw16, ← Nat.pow_add]; congr 1; omega
      omega
theorem n64_ushrv {y : Int64} {s : Nat} (hs : s < 64) (h : 0 ≤ y.toInt) : ((y).toUInt64 >>> ((Int32.ofNat s).toInt64.toUInt64 &&& Int64.toUInt64 63)).toInt64.toInt = y.toInt / ((2 ^ s : Nat) : Int) := by
  have hp := n64_pos h
  have h1 : ((y).toUInt64 >>> ((Int32.ofNat s).toInt64.toUInt64 &&& Int64.toUInt64 63)).toInt64.toBitVec.toNat = y.toBitVec.toNat / 2 ^ s := by
    show ((y).toUInt64 >>> ((Int32.ofNat s).toInt64.toUInt64 &&& Int64.toUInt64 63)).toNat = _
    rw [UInt64.toNat_shiftRight]
    have e : ((Int32.ofNat s).toInt64.toUInt64 &&& Int64.toUInt64 63).toNat % 64 = s := by
      revert s
      decide +kernel
    rw [e]
    show y.toBitVec.toNat >>> s = _
    rw [Nat.shiftRight_eq_div_pow]
  have hlt : y.toBitVec.toNat / 2 ^ s < 9223372036854775808 := by
    have h3 := n64_hi y
    have := Nat.div_le_self y.toBitVec.toNat (2 ^ s)
    omega
  rw [n64_ofn h1 hlt, Int.natCast_ediv, hp]
theorem gz_set {F : Nat} (hF : 2000 ≤ F) {u : gw_St} {a v : Nat} {y : Int64} (hr : gv_Rf u) (ha : a < 20) (hy : y.toInt = (v : Int)) : ∃ w, gf_Model_setWide F gv_z u 670 (Int32.ofNat a) y = some w ∧ Zf (fun b => b = a) u w ∧ Zw w a v := by
  obtain ⟨w0, a1, a2, a3, a4⟩ := gz_clear (F := F) hF hr ha
  have hv64 : v < 65536 ^ 4 := by
    have := n64_hi y
    have e : (65536 : Nat) ^ 4 = 18446744073709551616 := by decide
    omega
  have main := gl_up (σ := gw_St) (N := 4) (L := fun f w k => gf_Model_setWide_L8 F gv_z f w 670 (Int32.ofNat a) y (Int32.ofNat k))
    (I := fun k w => Zf (fun c => c = a) w0 w ∧ (∀ j, j < k → zi w a j = ((v / 65536 ^ j % 65536 : Nat) : Int)) ∧ (∀ j, k ≤ j → j < 256 → zi w a j = 0))
    (R := fun r => ∃ w, r = some w ∧ Zf (fun c => c = a) w0 w ∧ Zw w a v)
    (fun f w k hI hk => by
      obtain ⟨b1, b2, b3⟩ := hI
      have hrw := (hr.zf a2).zf b1
      have hd := n64_and16 (t := ((y).toUInt64 >>> ((Int32.ofNat (16 * k)).toInt64.toUInt64 &&& Int64.toUInt64 63)).toInt64)
      rw [n64_ushrv (by omega) (by omega), hy, ← Int.natCast_ediv, ← pw16] at hd
      refine ⟨gw_wl w 700 (256 * a + k) ((((y).toUInt64 >>> ((Int32.ofNat (16 * k)).toInt64.toUInt64 &&& Int64.toUInt64 63)).toInt64) &&& (65535 : Int64)), ⟨b1.trans (Zf.wl (by omega)), fun j hj => ?_, fun j h1 h2 => ?_⟩, ?_⟩
      · rw [zi_set1]
        by_cases h : j = k
        · rw [if_pos h, h, hd]; omega
        · rw [if_neg h]; exact b2 j (by omega)
      · rw [zi_set1, if_neg (by omega)]
        exact b3 j (by omega) h2
      · show gf_Model_setWide_S8 F gv_z _ w 670 (Int32.ofNat a) y (Int32.ofNat k) = _
        unfold gf_Model_setWide_S8
        rw [if_neg (fun e : (4 : Int32) ≤ Int32.ofNat k => by have := (gi_le (a := 4) (by omega) (by omega)).mp e; omega), hrw.get rfl gv_r670_48]
        simp only [gf_nn, gf_nm]
        rw [gz_ix, if_neg (gi_ix (by rw [gv_l700]; omega) (by omega)), i32_clamp (by omega), gw_iS, show (16 : Int32) * Int32.ofNat k = Int32.ofNat (16 * k) from gi_mul (a := 16)])
    (fun f w hI => by
      obtain ⟨b1, b2, b3⟩ := hI
      have hrng : ∀ k, k < 256 → 0 ≤ zi w a k ∧ zi w a k < 65536 := fun k hk => by
        by_cases h : k < 4
        · rw [b2 k h]; omega
        · rw [b3 k (by omega) hk]; omega
      refine ⟨w, ?_, b1, hrng, ?_⟩
      · show gf_Model_setWide_S8 F gv_z _ w 670 (Int32.ofNat a) y (Int32.ofNat 4) = _
        unfold gf_Model_setWide_S8
        rw [if_pos (by decide)]
      · rw [iv_bv (fun i hi => (hrng i hi).1)]
        rw [bv_cut (m := 4) (n := 256) (by omega) (fun i h1 h2 => by rw [b3 i h1 h2]; rfl)]
        rw [bv_congr (g := fun i => v / 65536 ^ i % 65536) (fun i hi => by rw [b2 i hi]; omega), bv_of, Nat.mod_eq_of_lt hv64])
  obtain ⟨w, c1, c2, c3⟩ := main 4 0 w0 F (by omega) ⟨Zf.refl, fun j hj => absurd hj (Nat.not_lt_zero j), fun j _ hj => a4 j hj⟩ (by omega)
  refine ⟨w, ?_, a2.trans c2, c3⟩
  show (gf_Model_clearWide F gv_z u 670 (Int32.ofNat a)).bind _ = _
  rw [a1]
  exact c1
