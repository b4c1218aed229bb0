/-! the reference's wide numbers: 256 digits of 16 bits -/
theorem gi_mul {a b : Nat} : Int32.ofNat a * Int32.ofNat b = Int32.ofNat (a * b) := (Int32.ofNat_mul a b).symm
theorem gz_ix {a k : Nat} : (256 : Int32) * Int32.ofNat a + Int32.ofNat k = Int32.ofNat (256 * a + k) := by
  rw [show (256 : Int32) = Int32.ofNat 256 from rfl, gi_mul, gi_add]
theorem gv_r670_48 : gv_u.2.2 670 48 = 701 := by decide +kernel
theorem gv_l700 : gv_z.2.2 700 = 5120 := by decide +kernel
def iv (f : Nat → Int) : Nat → Int
  | 0 => 0
  | n + 1 => iv f n + f n * ((65536 ^ n : Nat) : Int)
theorem iv_congr {f g : Nat → Int} : ∀ {n : Nat}, (∀ i, i < n → f i = g i) → iv f n = iv g n
  | 0, _ => rfl
  | n + 1, h => by
    unfold iv
    rw [iv_congr (fun i hi => h i (by omega)), h n (by omega)]
theorem iv_bv {f : Nat → Int} : ∀ {n : Nat}, (∀ i, i < n → 0 ≤ f i) → iv f n = (bv 65536 (fun i => (f i).toNat) n : Int)
  | 0, _ => rfl
  | n + 1, h => by
    show iv f n + f n * ((65536 ^ n : Nat) : Int) = ((bv 65536 (fun i => (f i).toNat) n + (f n).toNat * 65536 ^ n : Nat) : Int)
    rw [iv_bv (fun i hi => h i (by omega)), Int.natCast_add, Int.natCast_mul]
    have : (((f n).toNat : Nat) : Int) = f n := Int.toNat_of_nonneg (h n (by omega))
    rw [this]
theorem iv_mul (m : Int) (f : Nat → Int) : ∀ n, iv (fun i => m * f i) n = m * iv f n
  | 0 => by simp [iv]
  | n + 1 => by
    unfold iv
    rw [iv_mul m f n, Int.mul_add, Int.mul_assoc]
theorem iv_add (f g : Nat → Int) : ∀ n, iv (fun i => f i + g i) n = iv f n + iv g n
  | 0 => by simp [iv]
  | n + 1 => by
    unfold iv
    rw [iv_add f g n, Int.add_mul]
    omega
theorem iv_set {f : Nat → Int} {n k : Nat} {v : Int} (hk : k < n) : iv (fun i => if i = k then v else f i) n = iv f n + (v - f k) * ((65536 ^ k : Nat) : Int) := by
  induction n with
  | zero => omega
  | succ n ih =>
    unfold iv
    by_cases h : k = n
    · subst h
      rw [if_pos rfl, iv_congr (g := f) (fun i hi => if_neg (by omega)), Int.sub_mul]
      omega
    · rw [ih (by omega), if_neg (show ¬ n = k by omega)]
      omega
def zi (u : gw_St) (a k : Nat) : Int := (u.2.1 700 (256 * a + k)).toInt
/-- nothing is changed but wide numbers of S -/
def Zf (S : Nat → Prop) (u w : gw_St) : Prop := w.1 = u.1 ∧ w.2.2 = u.2.2 ∧ (∀ p k, p ≠ 700 → w.2.1 p k = u.2.1 p k) ∧ ∀ b, ¬ S b → ∀ k, k < 256 → w.2.1 700 (256 * b + k) = u.2.1 700 (256 * b + k)
/-- the wide number a is v -/
def Zw (u : gw_St) (a v : Nat) : Prop := (∀ k, k < 256 → 0 ≤ zi u a k ∧ zi u a k < 65536) ∧ iv (zi u a) 256 = (v : Int)
theorem Zf.refl {S : Nat → Prop} {u : gw_St} : Zf S u u := ⟨rfl, rfl, fun _ _ _ => rfl, fun _ _ _ _ => rfl⟩
theorem Zf.trans {S : Nat → Prop} {u v w : gw_St} (h : Zf S u v) (g : Zf S v w) : Zf S u w := ⟨g.1.trans h.1, g.2.1.trans h.2.1, fun p k hp => (g.2.2.1 p k hp).trans (h.2.2.1 p k hp), fun b hb k hk => (g.2.2.2 b hb k hk).trans (h.2.2.2 b hb k hk)⟩
theorem Zf.mono {S T : Nat → Prop} {u w : gw_St} (h : Zf S u w) (hs : ∀ a, S a → T a) : Zf T u w := ⟨h.1, h.2.1, h.2.2.1, fun b hb k hk => h.2.2.2 b (fun q => hb (hs b q)) k hk⟩
theorem gv_Rf.zf {S : Nat → Prop} {u w : gw_St} (h : gv_Rf u) (f : Zf S u w) : gv_Rf w := h.eq f.2.1
theorem Zw.zf {S : Nat → Prop} {u w : gw_St} {a v : Nat} (h : Zw u a v) (f : Zf S u w) (ha : ¬ S a) : Zw w a v := by
  have e : ∀ k, k < 256 → zi w a k = zi u a k := fun k hk => by unfold zi; rw [f.2.2.2 a ha k hk]
  exact ⟨fun k hk => by rw [e k hk]; exact h.1 k hk, by rw [iv_congr e]; exact h.2⟩
theorem zi_set {u : gw_St} {a b k j : Nat} {x : Int64} (hk : k < 256) (hj : j < 256) : zi (gw_wl u 700 (256 * a + k) x) b j = if b = a ∧ j = k then x.toInt else zi u b j := by
  unfold zi
  simp only [gw_wl, true_and]
  by_cases c : b = a ∧ j = k
  · rw [if_pos c, if_pos (by omega)]
  · rw [if_neg c, if_neg (by omega)]
theorem zi_set1 {u : gw_St} {a k j : Nat} {x : Int64} : zi (gw_wl u 700 (256 * a + k) x) a j = if j = k then x.toInt else zi u a j := by
  unfold zi
  simp only [gw_wl, true_and]
  by_cases c : j = k
  · rw [if_pos c, if_pos (by omega)]
  · rw [if_neg c, if_neg (by omega)]
theorem Zf.wl {u : gw_St} {a k : Nat} {x : Int64} (hk : k < 256) : Zf (fun b => b = a) u (gw_wl u 700 (256 * a + k) x) := ⟨rfl, rfl, fun p j hp => by simp only [gw_wl]; rw [if_neg (by omega)], fun b hb j hj => by simp only [gw_wl]; rw [if_neg (by omega)]⟩
theorem n64_and16 {t : Int64} : (t &&& (65535 : Int64)).toInt = t.toInt % 65536 := by
  have h := n64_and (t := t) (m := 65535) (k := 16) (by omega) (by decide)
  have e : (2 : Int) ^ 16 = 65536 := by decide
  rw [e] at h
  exact h
theorem n64_shr16 {t : Int64} : (t >>> (((16 : Int32)).toInt64 &&& 63)).toInt = t.toInt / 65536 := by
  have h := n64_shrv (t := t) (s := 16) (by omega)
  have e : (2 : Int) ^ 16 = 65536 := by decide
  rw [e] at h
  exact h
/-- loops that carry -/
theorem zl_carry {L : Nat → gw_St → Int64 → Int32 → Option gw_St} {u : gw_St} {a F : Nat} {m : Int} {T : gw_St → Int64 → Nat → Int64} (hF : 2000 ≤ F) (hb : ∀ k, k < 256 → -2305843009213693952 ≤ m * zi u a k ∧ m * zi u a k ≤ 2305843009213693952)
    (hT : ∀ w c k, k < 256 → zi w a k = zi u a k → -70368744177664 ≤ c.toInt → c.toInt ≤ 70368744177664 → (T w c k).toInt = m * zi u a k + c.toInt)
    (hstep : ∀ f w c k, k < 256 → w.2.2 = u.2.2 → L (f + 1) w c (Int32.ofNat (256 * a + k)) = L f (gw_wl w 700 (256 * a + k) (T w c k &&& 65535)) (T w c k >>> (((16 : Int32)).toInt64 &&& 63)) (Int32.ofNat (256 * a + k + 1)))
    (hexit : ∀ f w c, L (f + 1) w c (Int32.ofNat (256 * a + 256)) = some w) :
    ∃ w, L F u 0 (Int32.ofNat (256 * a)) = some w ∧ Zf (fun b => b = a) u w ∧ (∀ k, k < 256 → 0 ≤ zi w a k ∧ zi w a k < 65536) ∧ iv (zi w a) 256 = m * iv (zi u a) 256 % ((65536 ^ 256 : Nat) : Int) := by
  have main := gl_up (σ := gw_St × Int64) (N := 256) (L := fun f t k => L f t.1 t.2 (Int32.ofNat (256 * a + k)))
    (I := fun k t => Zf (fun b => b = a) u t.1 ∧ (∀ j, k ≤ j → j < 256 → zi t.1 a j = zi u a j) ∧ (∀ j, j < k → 0 ≤ zi t.1 a j ∧ zi t.1 a j < 65536) ∧ -70368744177664 ≤ t.2.toInt ∧ t.2.toInt ≤ 70368744177664 ∧ iv (zi t.1 a) k + t.2.toInt * ((65536 ^ k : Nat) : Int) = m * iv (zi u a) k)
    (R := fun r => ∃ w, r = some w ∧ Zf (fun b => b = a) u w ∧ (∀ k, k < 256 → 0 ≤ zi w a k ∧ zi w a k < 65536) ∧ iv (zi w a) 256 = m * iv (zi u a) 256 % ((65536 ^ 256 : Nat) : Int))
    (fun f t k hI hk => by
      obtain ⟨w, c⟩ := t
      obtain ⟨b1, b2, b3, b4, b5, b6⟩ := hI
      dsimp only at b1 b2 b3 b4 b5 b6 ⊢
      have hTv := hT w c k hk (b2 k (Nat.le_refl _) hk) b4 b5
      have hbk := hb k hk
      have hd := n64_and16 (t := T w c k)
      have hs := n64_shr16 (t := T w c k)
      refine ⟨(gw_wl w 700 (256 * a + k) (T w c k &&& 65535), T w c k >>> (((16 : Int32)).toInt64 &&& 63)), ⟨b1.trans (Zf.wl hk), fun j h1 h2 => ?_, fun j hj => ?_, ?_, ?_, ?_⟩, hstep f w c k hk b1.2.1⟩
      · rw [zi_set1, if_neg (by omega)]
        exact b2 j (by omega) h2
      · rw [zi_set1]
        by_cases h : j = k
        · rw [if_pos h, hd]; omega
        · rw [if_neg h]; exact b3 j (by omega)
      · dsimp only; rw [hs]; omega
      · dsimp only; rw [hs]; omega
      · dsimp only
        show iv (zi (gw_wl w 700 (256 * a + k) (T w c k &&& 65535)) a) k + zi (gw_wl w 700 (256 * a + k) (T w c k &&& 65535)) a k * ((65536 ^ k : Nat) : Int) + _ = m * (iv (zi u a) k + zi u a k * ((65536 ^ k : Nat) : Int))
        rw [iv_congr (g := zi w a) (fun j hj => by rw [zi_set1, if_neg (by omega)]), zi_set1, if_pos rfl]
        have e3 : (T w c k &&& 65535).toInt + (T w c k >>> (((16 : Int32)).toInt64 &&& 63)).toInt * 65536 = m * zi u a k + c.toInt := by
          rw [hd, hs, ← hTv]; omega
        generalize (T w c k &&& 65535).toInt = d at e3
        generalize (T w c k >>> (((16 : Int32)).toInt64 &&& 63)).toInt = c' at e3
        have e5 := congrArg (· * ((65536 ^ k : Nat) : Int)) e3
        simp only [Int.add_mul] at e5
        rw [Nat.pow_succ, Nat.mul_comm (65536 ^ k), Int.mul_add, ← Int.mul_assoc m]
        have e8 : c' * ((65536 * 65536 ^ k : Nat) : Int) = c' * 65536 * ((65536 ^ k : Nat) : Int) := by rw [Int.natCast_mul, ← Int.mul_assoc]; rfl
        rw [e8]
        omega)
    (fun f t hI => by
      obtain ⟨w, c⟩ := t
      obtain ⟨b1, b2, b3, b4, b5, b6⟩ := hI
      dsimp only at b1 b2 b3 b4 b5 b6 ⊢
      refine ⟨w, hexit f w c, b1, b3, ?_⟩
      have h1 := iv_bv (fun i hi => (b3 i hi).1)
      have h2 : bv 65536 (fun i => (zi w a i).toNat) 256 < 65536 ^ 256 := bv_lt (fun i hi => by have := b3 i hi; omega)
      rw [← b6, Int.add_mul_emod_self_right, Int.emod_eq_of_lt]
      · rw [h1]; exact Int.natCast_nonneg _
      · rw [h1]; exact Int.ofNat_lt.mpr h2)
  exact main 256 0 (u, 0) F (by omega) ⟨Zf.refl, fun _ _ _ => rfl, fun j hj => absurd hj (Nat.not_lt_zero j), show -70368744177664 ≤ (0 : Int64).toInt by decide, show (0 : Int64).toInt ≤ 70368744177664 by decide, by
    have e0 : (0 : Int64).toInt = 0 := rfl
    dsimp only
    rw [e0]
    simp [iv]⟩ (by omega)
theorem Zw.lt {u : gw_St} {a v : Nat} (h : Zw u a v) : v < 65536 ^ 256 := by
  have h1 := iv_bv (fun i hi => (h.1 i hi).1)
  have h2 : bv 65536 (fun i => (zi u a i).toNat) 256 < 65536 ^ 256 := bv_lt (fun i hi => by have := h.1 i hi; omega)
  rw [h.2] at h1
  have : v = bv 65536 (fun i => (zi u a i).toNat) 256 := Int.ofNat.inj h1
  rw [this]; exact h2
theorem Zw.bv {u : gw_St} {a v : Nat} (h : Zw u a v) : bv 65536 (fun i => (zi u a i).toNat) 256 = v := by
  have h1 := iv_bv (fun i hi => (h.1 i hi).1)
  rw [h.2] at h1
  exact (Int.ofNat.inj h1).symm
theorem gz_settle {F : Nat} (hF : 2000 ≤ F) {u : gw_St} {a v : Nat} (hr : gv_Rf u) (ha : a < 20) (hb : ∀ k, k < 256 → -2305843009213693952 ≤ zi u a k ∧ zi u a k ≤ 2305843009213693952) (hv : iv (zi u a) 256 = (v : Int)) (hl : v < 65536 ^ 256) :
    ∃ w, gf_Model_settle F gv_z u 670 (Int32.ofNat a) = some w ∧ Zf (fun b => b = a) u w ∧ Zw w a v := by
  obtain ⟨w, a1, a2, a3, a4⟩ := zl_carry (L := fun f w c x => gf_Model_settle_L9 F gv_z f w 670 (Int32.ofNat a) c x) (u := u) (a := a) (m := 1) (T := fun w c k => w.2.1 700 (256 * a + k) + c) hF (fun k hk => by rw [Int.one_mul]; exact hb k hk)
    (fun w c k hk he h1 h2 => by
      have := hb k hk
      have e : (w.2.1 700 (256 * a + k)).toInt = zi u a k := he
      rw [n64_add (by omega) (by omega), e, Int.one_mul])
    (fun f w c k hk hw => by
      have hrw : gv_Rf w := hr.eq hw
      show gf_Model_settle_S9 F gv_z _ w 670 (Int32.ofNat a) c (Int32.ofNat (256 * a + k)) = _
      unfold gf_Model_settle_S9
      rw [show (256 : Int32) * Int32.ofNat a + (256 : Int32) = Int32.ofNat (256 * a + 256) from gz_ix (k := 256), if_neg (fun e => by have := (gi_le (by omega) (by omega)).mp e; omega), hrw.get rfl gv_r670_48]
      simp only [gf_nn, gf_nm]
      rw [if_neg (gi_ix (by rw [gv_l700]; omega) (by omega)), if_neg (gi_ix (by rw [gv_l700]; omega) (by omega)), i32_clamp (by omega), gw_iS])
    (fun f w c => by
      show gf_Model_settle_S9 F gv_z _ w 670 (Int32.ofNat a) c (Int32.ofNat (256 * a + 256)) = _
      unfold gf_Model_settle_S9
      rw [show (256 : Int32) * Int32.ofNat a + (256 : Int32) = Int32.ofNat (256 * a + 256) from gz_ix (k := 256), if_pos ((gi_le (by omega) (by omega)).mpr (Nat.le_refl _))])
  refine ⟨w, ?_, a2, a3, ?_⟩
  · rw [← a1]
    show gf_Model_settle_L9 F gv_z F u 670 (Int32.ofNat a) 0 ((256 : Int32) * Int32.ofNat a) = _
    rw [show (256 : Int32) * Int32.ofNat a = Int32.ofNat (256 * a) from by rw [show (256 : Int32) = Int32.ofNat 256 from rfl, gi_mul]]
  · rw [a4, Int.one_mul, hv]
    exact Int.emod_eq_of_lt (Int.natCast_nonneg _) (Int.ofNat_lt.mpr hl)
theorem gz_twice {F : Nat} (hF : 2000 ≤ F) {u : gw_St} {a v : Nat} (hr : gv_Rf u) (ha : a < 20) (h : Zw u a v) (hl : 2 * v < 65536 ^ 256) :
    ∃ w, gf_Model_twice F gv_z u 670 (Int32.ofNat a) = some w ∧ Zf (fun b => b = a) u w ∧ Zw w a (2 * v) := by
  obtain ⟨w, a1, a2, a3, a4⟩ := zl_carry (L := fun f w c x => gf_Model_twice_L9 F gv_z f w 670 (Int32.ofNat a) c x) (u := u) (a := a) (m := 2) (T := fun w c k => 2 * w.2.1 700 (256 * a + k) + c) hF (fun k hk => by have := h.1 k hk; omega)
    (fun w c k hk he h1 h2 => by
      have := h.1 k hk
      have e : (w.2.1 700 (256 * a + k)).toInt = zi u a k := he
      have e2 : (2 : Int64).toInt = 2 := rfl
      have e3 : (2 * w.2.1 700 (256 * a + k)).toInt = 2 * zi u a k := by rw [n64_mul (by rw [e, e2]; omega) (by rw [e, e2]; omega), e, e2]
      rw [n64_add (by omega) (by omega), e3])
    (fun f w c k hk hw => by
      have hrw : gv_Rf w := hr.eq hw
      show gf_Model_twice_S9 F gv_z _ w 670 (Int32.ofNat a) c (Int32.ofNat (256 * a + k)) = _
      unfold gf_Model_twice_S9
      rw [show (256 : Int32) * Int32.ofNat a + (256 : Int32) = Int32.ofNat (256 * a + 256) from gz_ix (k := 256), if_neg (fun e => by have := (gi_le (by omega) (by omega)).mp e; omega), hrw.get rfl gv_r670_48]
      simp only [gf_nn, gf_nm]
      rw [if_neg (gi_ix (by rw [gv_l700]; omega) (by omega)), if_neg (gi_ix (by rw [gv_l700]; omega) (by omega)), i32_clamp (by omega), gw_iS])
    (fun f w c => by
      show gf_Model_twice_S9 F gv_z _ w 670 (Int32.ofNat a) c (Int32.ofNat (256 * a + 256)) = _
      unfold gf_Model_twice_S9
      rw [show (256 : Int32) * Int32.ofNat a + (256 : Int32) = Int32.ofNat (256 * a + 256) from gz_ix (k := 256), if_pos ((gi_le (by omega) (by omega)).mpr (Nat.le_refl _))])
  refine ⟨w, ?_, a2, a3, ?_⟩
  · rw [← a1]
    show gf_Model_twice_L9 F gv_z F u 670 (Int32.ofNat a) 0 ((256 : Int32) * Int32.ofNat a) = _
    rw [show (256 : Int32) * Int32.ofNat a = Int32.ofNat (256 * a) from by rw [show (256 : Int32) = Int32.ofNat 256 from rfl, gi_mul]]
  · rw [a4, h.2]
    have e : (2 : Int) * (v : Int) = ((2 * v : Nat) : Int) := by omega
    rw [e]
    exact Int.emod_eq_of_lt (Int.natCast_nonneg _) (Int.ofNat_lt.mpr hl)
theorem gz_times {F : Nat} (hF : 2000 ≤ F) {u : gw_St} {a v m : Nat} {y : Int64} (hr : gv_Rf u) (ha : a < 20) (h : Zw u a v) (hy : y.toInt = (m : Int)) (hm : m ≤ 2147483648) (hl : v * m < 65536 ^ 256) :
    ∃ w, gf_Model_timesSmall F gv_z u 670 (Int32.ofNat a) y = some w ∧ Zf (fun b => b = a) u w ∧ Zw w a (v * m) := by
  have hmz : ∀ k, k < 256 → 0 ≤ (m : Int) * zi u a k ∧ (m : Int) * zi u a k ≤ 2147483648 * 65535 := fun k hk => by
    have := h.1 k hk
    refine ⟨Int.mul_nonneg (by omega) (by omega), ?_⟩
    have h1 : (m : Int) * zi u a k ≤ (m : Int) * 65535 := Int.mul_le_mul_of_nonneg_left (by omega) (by omega)
    omega
  obtain ⟨w, a1, a2, a3, a4⟩ := zl_carry (L := fun f w c x => gf_Model_timesSmall_L10 F gv_z f w 670 (Int32.ofNat a) y c x) (u := u) (a := a) (m := m) (T := fun w c k => w.2.1 700 (256 * a + k) * y + c) hF (fun k hk => by have := hmz k hk; omega)
    (fun w c k hk he h1 h2 => by
      have := hmz k hk
      have e : (w.2.1 700 (256 * a + k)).toInt = zi u a k := he
      have e2 : (w.2.1 700 (256 * a + k)).toInt * y.toInt = (m : Int) * zi u a k := by rw [e, hy, Int.mul_comm]
      have e3 : (w.2.1 700 (256 * a + k) * y).toInt = (m : Int) * zi u a k := by rw [n64_mul (by rw [e2]; omega) (by rw [e2]; omega), e2]
      rw [n64_add (by omega) (by omega), e3])
    (fun f w c k hk hw => by
      have hrw : gv_Rf w := hr.eq hw
      show gf_Model_timesSmall_S10 F gv_z _ w 670 (Int32.ofNat a) y c (Int32.ofNat (256 * a + k)) = _
      unfold gf_Model_timesSmall_S10
      rw [show (256 : Int32) * Int32.ofNat a + (256 : Int32) = Int32.ofNat (256 * a + 256) from gz_ix (k := 256), if_neg (fun e => by have := (gi_le (by omega) (by omega)).mp e; omega), hrw.get rfl gv_r670_48]
      simp only [gf_nn, gf_nm]
      rw [if_neg (gi_ix (by rw [gv_l700]; omega) (by omega)), if_neg (gi_ix (by rw [gv_l700]; omega) (by omega)), i32_clamp (by omega), gw_iS])
    (fun f w c => by
      show gf_Model_timesSmall_S10 F gv_z _ w 670 (Int32.ofNat a) y c (Int32.ofNat (256 * a + 256)) = _
      unfold gf_Model_timesSmall_S10
      rw [show (256 : Int32) * Int32.ofNat a + (256 : Int32) = Int32.ofNat (256 * a + 256) from gz_ix (k := 256), if_pos ((gi_le (by omega) (by omega)).mpr (Nat.le_refl _))])
  refine ⟨w, ?_, a2, a3, ?_⟩
  · rw [← a1]
    show gf_Model_timesSmall_L10 F gv_z F u 670 (Int32.ofNat a) y 0 ((256 : Int32) * Int32.ofNat a) = _
    rw [show (256 : Int32) * Int32.ofNat a = Int32.ofNat (256 * a) from by rw [show (256 : Int32) = Int32.ofNat 256 from rfl, gi_mul]]
  · rw [a4, h.2]
    have e : (m : Int) * (v : Int) = ((v * m : Nat) : Int) := by rw [Nat.mul_comm]; exact (Int.natCast_mul _ _).symm
    rw [e]
    exact Int.emod_eq_of_lt (Int.natCast_nonneg _) (Int.ofNat_lt.mpr hl)
