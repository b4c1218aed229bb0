def zv (u : gw_St) (a n : Nat) : Nat := bv 65536 (fun i => (zi u a i).toNat) n
theorem zv_S (u : gw_St) (a n : Nat) : zv u a (n + 1) = zv u a n + (zi u a n).toNat * 65536 ^ n := rfl
theorem zv_lt {u : gw_St} {a v n : Nat} (h : Zw u a v) (hn : n ≤ 256) : zv u a n < 65536 ^ n := bv_lt (fun i hi => by have := h.1 i (by omega); omega)
theorem gz_compareL {F : Nat} {u : gw_St} {a b va vb : Nat} (hr : gv_Rf u) (ha : a < 20) (hb : b < 20) (h : Zw u a va) (g : Zw u b vb) : ∀ (n f : Nat), n ≤ 256 → n < f → gf_Model_compareWide_L4 F gv_z f u 670 (Int32.ofNat a) (Int32.ofNat b) (Int32.ofNat n - 1) = some (if zv u a n < zv u b n then -1 else if zv u a n = zv u b n then 0 else 1, u) := by
  intro n
  induction n with
  | zero =>
    intro f _ hf
    obtain ⟨f, rfl⟩ : ∃ g, f = g + 1 := ⟨f - 1, by omega⟩
    show gf_Model_compareWide_S4 F gv_z _ u 670 (Int32.ofNat a) (Int32.ofNat b) (Int32.ofNat 0 - 1) = _
    unfold gf_Model_compareWide_S4
    rw [if_pos (by decide)]
    rfl
  | succ n ih =>
    intro f hn hf
    obtain ⟨f, rfl⟩ : ∃ g, f = g + 1 := ⟨f - 1, by omega⟩
    have l1 := zv_lt h (n := n) (by omega)
    have l2 := zv_lt g (n := n) (by omega)
    have d1 := h.1 n (by omega)
    have d2 := g.1 n (by omega)
    show gf_Model_compareWide_S4 F gv_z _ u 670 (Int32.ofNat a) (Int32.ofNat b) (Int32.ofNat (n + 1) - 1) = _
    unfold gf_Model_compareWide_S4 gf_Model_compareWide_b69
    rw [gi_sub1 (by omega), if_neg (gi_n0 (by omega)), hr.get rfl gv_r670_48]
    simp only [gf_nn, gf_nm]
    rw [gz_ix, gz_ix, if_neg (gi_ix (by rw [gv_l700]; omega) (by omega)), if_neg (gi_ix (by rw [gv_l700]; omega) (by omega)), if_neg (gi_ix (by rw [gv_l700]; omega) (by omega)), if_neg (gi_ix (by rw [gv_l700]; omega) (by omega)), i32_clamp (by omega), i32_clamp (by omega)]
    have ea : (u.2.1 700 (256 * a + n)).toInt = zi u a n := rfl
    have eb : (u.2.1 700 (256 * b + n)).toInt = zi u b n := rfl
    rw [zv_S, zv_S]
    generalize hP : 65536 ^ n = P at l1 l2
    by_cases c : lg_cmp (u.2.1 700 (256 * a + n)) (u.2.1 700 (256 * b + n)) = 0
    · have c' := lgc_zero.mp c
      rw [if_pos c, show Int32.ofNat n + (-1) = Int32.ofNat n - 1 from (Int32.sub_eq_add_neg ..).symm, ih f (by omega) (by omega)]
      rw [ea, eb] at c'
      rw [c']
      congr 2
      simp only [Nat.add_lt_add_iff_right, Nat.add_right_cancel_iff]
    · have c' : zi u a n ≠ zi u b n := fun e => c (lgc_zero.mpr e)
      rw [if_neg c]
      by_cases e : zi u a n < zi u b n
      · have hm : ((zi u a n).toNat + 1) * P ≤ (zi u b n).toNat * P := Nat.mul_le_mul_right _ (by omega)
        rw [Nat.add_mul] at hm
        have hneg : lg_cmp (u.2.1 700 (256 * a + n)) (u.2.1 700 (256 * b + n)) < 0 := lgc_neg.mpr e
        rw [if_neg (fun q => by
          have x1 := i32_le.mp q
          have x2 := i32_lt.mp hneg
          omega), if_pos (by omega)]
      · have hm : ((zi u b n).toNat + 1) * P ≤ (zi u a n).toNat * P := Nat.mul_le_mul_right _ (by omega)
        rw [Nat.add_mul] at hm
        rw [if_pos (i32_le.mpr (by
          apply Int.le_of_not_gt
          intro q
          have := lgc_neg.mp (i32_lt.mpr q)
          omega)), if_neg (by omega), if_neg (by omega)]
theorem gz_compare {F : Nat} (hF : 2000 ≤ F) {u : gw_St} {a b va vb : Nat} (hr : gv_Rf u) (ha : a < 20) (hb : b < 20) (h : Zw u a va) (g : Zw u b vb) : gf_Model_compareWide F gv_z u 670 (Int32.ofNat a) (Int32.ofNat b) = some (if va < vb then -1 else if va = vb then 0 else 1, u) := by
  have := gz_compareL (F := F) hr ha hb h g 256 F (by omega) (by omega)
  rw [show zv u a 256 = va from h.bv, show zv u b 256 = vb from g.bv] at this
  exact this
theorem gz_add {F : Nat} (hF : 2000 ≤ F) {u : gw_St} {a b va vb v : Nat} {x : Int32} (hr : gv_Rf u) (ha : a < 20) (hb : b < 20) (hab : a ≠ b) (h : Zw u a va) (g : Zw u b vb) (hv : (x = 0 ∧ v = va + vb) ∨ (x = 1 ∧ va = v + vb)) (hl : v < 65536 ^ 256) : ∃ w, gf_Model_addWide F gv_z u 670 (Int32.ofNat a) (Int32.ofNat b) x = some w ∧ Zf (fun c => c = a) u w ∧ Zw w a v := by
  obtain ⟨s, hs⟩ : ∃ s : Int, s = if x = 0 then 1 else -1 := ⟨_, rfl⟩
  have hs1 : s = 1 ∨ s = -1 := by rw [hs]; split; exact Or.inl rfl; exact Or.inr rfl
  have main := gl_up (σ := gw_St) (N := 256) (L := fun f w k => gf_Model_addWide_L3 F gv_z f w 670 (Int32.ofNat a) (Int32.ofNat b) x (Int32.ofNat k))
    (I := fun k w => Zf (fun c => c = a) u w ∧ (∀ j, j < k → zi w a j = zi u a j + s * zi u b j) ∧ (∀ j, k ≤ j → j < 256 → zi w a j = zi u a j))
    (R := fun r => ∃ w, r = some w ∧ Zf (fun c => c = a) u w ∧ Zw w a v)
    (fun f w k hI hk => by
      obtain ⟨b1, b2, b3⟩ := hI
      have hrw := hr.zf b1
      have da := h.1 k hk
      have db := g.1 k hk
      have ea : (w.2.1 700 (256 * a + k)).toInt = zi u a k := b3 k (Nat.le_refl _) hk
      have eb : (w.2.1 700 (256 * b + k)).toInt = zi u b k := by rw [b1.2.2.2 b (fun e => hab e.symm) k hk]; rfl
      obtain ⟨Y, hY⟩ : ∃ Y : Int64, Y = if x = 0 then w.2.1 700 (256 * b + k) else -(w.2.1 700 (256 * b + k)) := ⟨_, rfl⟩
      have hYv : Y.toInt = s * zi u b k := by
        rw [hY, hs]
        by_cases c : x = 0
        · rw [if_pos c, if_pos c, eb, Int.one_mul]
        · rw [if_neg c, if_neg c, Int64.toInt_neg, eb]
          rw [Int.bmod_eq_of_le (by omega) (by omega)]
          omega
      have hsum : (w.2.1 700 (256 * a + k) + Y).toInt = zi u a k + s * zi u b k := by
        have : -65536 < s * zi u b k ∧ s * zi u b k < 65536 := by rcases hs1 with e | e <;> rw [e] <;> omega
        rw [n64_add (by omega) (by omega), ea, hYv]
      refine ⟨gw_wl w 700 (256 * a + k) (w.2.1 700 (256 * a + k) + Y), ⟨b1.trans (Zf.wl hk), fun j hj => ?_, fun j h1 h2 => ?_⟩, ?_⟩
      · rw [zi_set1]
        by_cases e : j = k
        · rw [if_pos e, e, hsum]
        · rw [if_neg e]; exact b2 j (by omega)
      · rw [zi_set1, if_neg (by omega)]
        exact b3 j (by omega) h2
      · show gf_Model_addWide_S3 F gv_z _ w 670 (Int32.ofNat a) (Int32.ofNat b) x (Int32.ofNat k) = _
        unfold gf_Model_addWide_S3 gf_Model_addWide_b59
        rw [if_neg (fun e : (256 : Int32) ≤ Int32.ofNat k => by have := (gi_le (a := 256) (by omega) (by omega)).mp e; omega), hrw.get rfl gv_r670_48]
        simp only [gf_nn, gf_nm]
        rw [gz_ix, gz_ix, if_neg (gi_ix (by rw [gv_l700]; omega) (by omega))]
        by_cases c : x = 0
        · rw [if_pos c, hY, if_pos c, if_neg (gi_ix (by rw [gv_l700]; omega) (by omega)), if_neg (gi_ix (by rw [gv_l700]; omega) (by omega)), i32_clamp (by omega), i32_clamp (by omega), gw_iS]
        · rw [if_neg c, hY, if_neg c, if_neg (gi_ix (by rw [gv_l700]; omega) (by omega)), if_neg (gi_ix (by rw [gv_l700]; omega) (by omega)), i32_clamp (by omega), i32_clamp (by omega), gw_iS])
    (fun f w hI => by
      obtain ⟨b1, b2, b3⟩ := hI
      have hrw := hr.zf b1
      have hiv : iv (zi w a) 256 = (v : Int) := by
        rw [iv_congr b2, iv_add, iv_mul, h.2, g.2]
        rcases hv with ⟨e1, e2⟩ | ⟨e1, e2⟩
        · rw [hs, if_pos e1, e2]; omega
        · rw [hs, if_neg (by rw [e1]; decide), e2]; omega
      obtain ⟨w', c1, c2, c3⟩ := gz_settle (F := F) hF (u := w) (a := a) (v := v) hrw ha (fun k hk => by
        have da := h.1 k hk
        have db := g.1 k hk
        rw [b2 k hk]
        rcases hs1 with e | e <;> rw [e] <;> omega) hiv hl
      refine ⟨w', ?_, b1.trans c2, c3⟩
      show gf_Model_addWide_S3 F gv_z _ w 670 (Int32.ofNat a) (Int32.ofNat b) x (Int32.ofNat 256) = _
      unfold gf_Model_addWide_S3
      rw [if_pos (by decide), c1]
      rfl)
  exact main 256 0 u F (by omega) ⟨Zf.refl, fun j hj => absurd hj (Nat.not_lt_zero j), fun _ _ _ => rfl⟩ (by omega)
theorem gz_restL {F : Nat} {u : gw_St} {a v p : Nat} (hr : gv_Rf u) (ha : a < 20) (h : Zw u a v) (hp : 0 < p) (hp2 : p < 2147483648) : ∀ (n f : Nat) (r : Nat), n ≤ 256 → n < f → r < p → gf_Model_restSmall_L8 F gv_z f u 670 (Int32.ofNat a) (Int64.ofNat p) (Int64.ofNat r) (Int32.ofNat n - 1) = some (Int64.ofNat ((r * 65536 ^ n + zv u a n) % p), u) := by
  intro n
  induction n with
  | zero =>
    intro f r _ hf hrp
    obtain ⟨f, rfl⟩ : ∃ g, f = g + 1 := ⟨f - 1, by omega⟩
    show gf_Model_restSmall_S8 F gv_z _ u 670 (Int32.ofNat a) (Int64.ofNat p) (Int64.ofNat r) (Int32.ofNat 0 - 1) = _
    unfold gf_Model_restSmall_S8
    rw [if_pos (by decide)]
    congr 3
    rw [show zv u a 0 = 0 from rfl, Nat.pow_zero, Nat.mul_one, Nat.add_zero, Nat.mod_eq_of_lt hrp]
  | succ n ih =>
    intro f r hn hf hrp
    obtain ⟨f, rfl⟩ : ∃ g, f = g + 1 := ⟨f - 1, by omega⟩
    have d1 := h.1 n (by omega)
    have ep : (Int64.ofNat p).toInt = p := i64_nat (by omega)
    have er : (Int64.ofNat r).toInt = r := i64_nat (by omega)
    have e6 : (65536 : Int64).toInt = 65536 := rfl
    have ea : (u.2.1 700 (256 * a + n)).toInt = zi u a n := rfl
    have m1 : (Int64.ofNat r * 65536).toInt = r * 65536 := by rw [n64_mul (by rw [er, e6]; omega) (by rw [er, e6]; omega), er, e6]
    have m2 : (Int64.ofNat r * 65536 + u.2.1 700 (256 * a + n)).toInt = r * 65536 + zi u a n := by rw [n64_add (by omega) (by omega), m1, ea]
    have m3 : (Int64.ofNat r * 65536 + u.2.1 700 (256 * a + n)) - (Int64.ofNat r * 65536 + u.2.1 700 (256 * a + n)) / Int64.ofNat p * Int64.ofNat p = Int64.ofNat ((r * 65536 + (zi u a n).toNat) % p) := by
      apply i64_of
      · rw [n64_rem (by omega) (by omega), m2, ep, Int.natCast_emod]
        congr 1
        omega
      · have := Nat.mod_lt (r * 65536 + (zi u a n).toNat) hp; omega
    show gf_Model_restSmall_S8 F gv_z _ u 670 (Int32.ofNat a) (Int64.ofNat p) (Int64.ofNat r) (Int32.ofNat (n + 1) - 1) = _
    unfold gf_Model_restSmall_S8
    rw [gi_sub1 (by omega), if_neg (gi_n0 (by omega)), hr.get rfl gv_r670_48]
    simp only [gf_nn, gf_nm]
    rw [gz_ix, if_neg (gi_ix (by rw [gv_l700]; omega) (by omega)), if_neg (fun e => by have := congrArg Int64.toInt e; rw [ep] at this; have z0 : (0 : Int64).toInt = 0 := rfl; omega), i32_clamp (by omega), m3, show Int32.ofNat n + (-1) = Int32.ofNat n - 1 from (Int32.sub_eq_add_neg ..).symm]
    rw [ih f _ (by omega) (by omega) (Nat.mod_lt _ hp)]
    congr 3
    rw [Nat.add_mod, Nat.mul_mod, Nat.mod_mod, ← Nat.mul_mod, ← Nat.add_mod, zv_S, Nat.pow_succ, Nat.add_mul, Nat.mul_comm (65536 ^ n) 65536, Nat.mul_assoc]
    congr 1
    omega
theorem gz_rest {F : Nat} (hF : 2000 ≤ F) {u : gw_St} {a v p : Nat} {y : Int64} (hr : gv_Rf u) (ha : a < 20) (h : Zw u a v) (hp : 0 < p) (hp2 : p < 2147483648) (hy : y = Int64.ofNat p) : gf_Model_restSmall F gv_z u 670 (Int32.ofNat a) y = some (Int64.ofNat (v % p), u) := by
  subst hy
  have := gz_restL (F := F) hr ha h hp hp2 256 F 0 (by omega) (by omega) hp
  rw [Nat.zero_mul, Nat.zero_add, show zv u a 256 = v from h.bv] at this
  exact this
theorem bv_half {f : Nat → Nat} {n i : Nat} (hf : ∀ i, i < n → f i < 65536) (hi : i < n) : bv 65536 f n / 2 / 65536 ^ i % 65536 = f i / 2 + (if i + 1 < n then f (i + 1) % 2 else 0) * 32768 := by
  have h0 := hf i hi
  rw [Nat.div_div_eq_div_mul, Nat.mul_comm 2, ← Nat.div_div_eq_div_mul, bv_div (by decide) hf (by omega)]
  obtain ⟨m, hm⟩ : ∃ m, n - i = m + 1 := ⟨n - i - 1, by omega⟩
  rw [hm, bv_succ']
  by_cases c : i + 1 < n
  · rw [if_pos c]
    have h1 := hf (i + 1) c
    obtain ⟨m', rfl⟩ : ∃ m', m = m' + 1 := ⟨m - 1, by omega⟩
    rw [bv_succ']
    generalize bv 65536 (fun k => f (i + (k + 1 + 1))) m' = R
    show (f i + 65536 * (f (i + 1) + 65536 * R)) / 2 % 65536 = _
    omega
  · rw [if_neg c]
    have : m = 0 := by omega
    subst this
    show (f i + 65536 * 0) / 2 % 65536 = _
    omega
theorem n64_and1 {t : Int64} : (t &&& (1 : Int64)).toInt = t.toInt % 2 := by
  have h := n64_and (t := t) (m := 1) (k := 1) (by omega) (by decide)
  have e : (2 : Int) ^ 1 = 2 := by decide
  rw [e] at h
  exact h
theorem gz_half {F : Nat} (hF : 2000 ≤ F) {u : gw_St} {a v : Nat} (hr : gv_Rf u) (ha : a < 20) (h : Zw u a v) : ∃ w, gf_Model_half F gv_z u 670 (Int32.ofNat a) = some w ∧ Zf (fun c => c = a) u w ∧ Zw w a (v / 2) := by
  have main := gl_up (σ := gw_St) (N := 256) (L := fun f w k => gf_Model_half_L2 F gv_z f w 670 (Int32.ofNat a) (Int32.ofNat k))
    (I := fun k w => Zf (fun c => c = a) u w ∧ (∀ j, j < k → zi w a j = ((v / 2 / 65536 ^ j % 65536 : Nat) : Int)) ∧ (∀ j, k ≤ j → j < 256 → zi w a j = zi u a j))
    (R := fun r => ∃ w, r = some w ∧ Zf (fun c => c = a) u w ∧ Zw w a (v / 2))
    (fun f w k hI hk => by
      obtain ⟨b1, b2, b3⟩ := hI
      have hrw := hr.zf b1
      have da := h.1 k hk
      have ea : (w.2.1 700 (256 * a + k)).toInt = zi u a k := b3 k (Nat.le_refl _) hk
      obtain ⟨Y, hY⟩ : ∃ Y : Int64, Y = if k + 1 < 256 then w.2.1 700 (256 * a + k + 1) &&& 1 else 0 := ⟨_, rfl⟩
      have hYv : Y.toInt = (((if k + 1 < 256 then (zi u a (k + 1)).toNat % 2 else 0) : Nat) : Int) := by
        rw [hY]
        by_cases c : k + 1 < 256
        · have d2 := h.1 (k + 1) c
          have e2 : (w.2.1 700 (256 * a + k + 1)).toInt = zi u a (k + 1) := b3 (k + 1) (by omega) c
          rw [if_pos c, if_pos c, n64_and1, e2]; omega
        · rw [if_neg c, if_neg c]; rfl
      have hYb : Y.toInt = 0 ∨ Y.toInt = 1 := by
        rw [hYv]; split <;> omega
      have e15 : (2 : Int) ^ 15 = 32768 := by decide
      have hsl : (Y <<< (((15 : Int32)).toInt64 &&& 63)).toInt = Y.toInt * 32768 := by
        have := n64_shl (a := Y) (s := 15) (by omega) (by omega) (by rw [e15]; omega)
        rw [e15] at this
        exact this
      have hsr : (w.2.1 700 (256 * a + k) >>> (((1 : Int32)).toInt64 &&& 63)).toInt = zi u a k / 2 := by
        have := n64_shrv (t := w.2.1 700 (256 * a + k)) (s := 1) (by omega)
        rw [ea] at this
        exact this
      have hor : ((w.2.1 700 (256 * a + k) >>> (((1 : Int32)).toInt64 &&& 63)) ||| (Y <<< (((15 : Int32)).toInt64 &&& 63))).toInt = ((v / 2 / 65536 ^ k % 65536 : Nat) : Int) := by
        rw [show (w.2.1 700 (256 * a + k) >>> (((1 : Int32)).toInt64 &&& 63)) ||| (Y <<< (((15 : Int32)).toInt64 &&& 63)) = (Y <<< (((15 : Int32)).toInt64 &&& 63)) ||| (w.2.1 700 (256 * a + k) >>> (((1 : Int32)).toInt64 &&& 63)) from Int64.or_comm ..]
        rw [n64_or (k := 15) (c := Y.toInt) (by omega) (by rw [e15]; omega) (by omega) (by rw [hsl, e15]), hsl, hsr, hYv, ← h.bv]
        rw [bv_half (fun i hi => by have := h.1 i hi; omega) hk]
        omega
      refine ⟨gw_wl w 700 (256 * a + k) ((w.2.1 700 (256 * a + k) >>> (((1 : Int32)).toInt64 &&& 63)) ||| (Y <<< (((15 : Int32)).toInt64 &&& 63))), ⟨b1.trans (Zf.wl hk), fun j hj => ?_, fun j h1 h2 => ?_⟩, ?_⟩
      · rw [zi_set1]
        by_cases e : j = k
        · rw [if_pos e, e, hor]
        · rw [if_neg e]; exact b2 j (by omega)
      · rw [zi_set1, if_neg (by omega)]
        exact b3 j (by omega) h2
      · show gf_Model_half_S2 F gv_z _ w 670 (Int32.ofNat a) (Int32.ofNat k) = _
        have hst : gf_Model_half_S2 F gv_z (gf_Model_half_L2 F gv_z f) w 670 (Int32.ofNat a) (Int32.ofNat k) = gf_Model_half_b38 F gv_z (gf_Model_half_L2 F gv_z f) w 670 (Int32.ofNat a) (Int32.ofNat k) Y := by
          unfold gf_Model_half_S2
          rw [if_neg (fun e : (256 : Int32) ≤ Int32.ofNat k => by have := (gi_le (a := 256) (by omega) (by omega)).mp e; omega), gw_iS]
          by_cases c : k + 1 < 256
          · rw [if_neg (fun e : (256 : Int32) ≤ Int32.ofNat (k + 1) => by have := (gi_le (a := 256) (by omega) (by omega)).mp e; omega), hrw.get rfl gv_r670_48]
            simp only [gf_nn]
            rw [gz_ix, gw_iS, if_neg (gi_ix (by rw [gv_l700]; omega) (by omega)), i32_clamp (by omega), hY, if_pos c]
          · rw [if_pos (show (256 : Int32) ≤ Int32.ofNat (k + 1) from (gi_le (a := 256) (by omega) (by omega)).mpr (by omega)), hY, if_neg c]
        rw [hst]
        unfold gf_Model_half_b38
        rw [hrw.get rfl gv_r670_48]
        simp only [gf_nn, gf_nm]
        rw [gz_ix, if_neg (gi_ix (by rw [gv_l700]; omega) (by omega)), if_neg (gi_ix (by rw [gv_l700]; omega) (by omega)), i32_clamp (by omega), gw_iS])
    (fun f w hI => by
      obtain ⟨b1, b2, b3⟩ := hI
      refine ⟨w, ?_, b1, fun k hk => by rw [b2 k hk]; omega, ?_⟩
      · show gf_Model_half_S2 F gv_z _ w 670 (Int32.ofNat a) (Int32.ofNat 256) = _
        unfold gf_Model_half_S2
        rw [if_pos (by decide)]
      · rw [iv_bv (fun i hi => by rw [b2 i hi]; omega)]
        rw [bv_congr (g := fun i => v / 2 / 65536 ^ i % 65536) (fun i hi => by rw [b2 i hi]; omega), bv_of, Nat.mod_eq_of_lt]
        exact Nat.lt_of_le_of_lt (Nat.div_le_self _ _) h.lt)
  exact main 256 0 u F (by omega) ⟨Zf.refl, fun j hj => absurd hj (Nat.not_lt_zero j), fun _ _ _ => rfl⟩ (by omega)
