/-! speeds and results on both sides -/
theorem gv_sp64 : ∀ g, g < 60 → gv_u.2.2 66 g = 68 + 5 * g ∧ gv_u.2.2 (67 + 5 * g) 0 = 69 + 5 * g ∧ gv_u.2.2 (67 + 5 * g) 1 = 71 + 5 * g ∧ gv_u.2.2 (68 + 5 * g) 0 = 70 + 5 * g ∧ gv_u.2.2 (70 + 5 * g) 0 = 72 + 5 * g ∧ gv_z.2.2 (69 + 5 * g) = 9 ∧ gv_z.2.2 (71 + 5 * g) = 9 := by decide +kernel
theorem gv_sp367 : ∀ g, g < 60 → gv_u.2.2 369 g = 371 + 5 * g ∧ gv_u.2.2 (370 + 5 * g) 0 = 372 + 5 * g ∧ gv_u.2.2 (370 + 5 * g) 1 = 374 + 5 * g ∧ gv_u.2.2 (371 + 5 * g) 0 = 373 + 5 * g ∧ gv_u.2.2 (373 + 5 * g) 0 = 375 + 5 * g ∧ gv_z.2.2 (372 + 5 * g) = 9 ∧ gv_z.2.2 (374 + 5 * g) = 9 := by decide +kernel
theorem gv_fixhi {p k : Nat} (h : 56 < p) : gv_fix p k = true := by
  unfold gv_fix
  have h0 : (p == 0) = false := beq_eq_false_iff_ne.mpr (by omega)
  have h1 : (p == 1) = false := beq_eq_false_iff_ne.mpr (by omega)
  have h2 : (p == 22) = false := beq_eq_false_iff_ne.mpr (by omega)
  rw [h0, h1, h2]
  rfl
/-- the tables of a speeds object at B -/
theorem gv_spF {u : gw_St} (hr : gv_Rf u) {B g : Nat} (hB : B = 64 ∨ B = 367) (hg : g < 60) : u.2.2 (B + 2) g = B + 4 + 5 * g ∧ Fx u (B + 3 + 5 * g) ∧ gv_z.2.2 (B + 3 + 5 * g + 2) = 9 ∧ gv_z.2.2 (B + 3 + 5 * g + 4) = 9 := by
  rcases hB with rfl | rfl
  · obtain ⟨h1, h2, h3, h4, h5, h6, h7⟩ := gv_sp64 g hg
    refine ⟨(hr 66 g (gv_fixhi (by omega))).trans (by omega), ⟨?_, ?_, ?_, ?_⟩, ?_, ?_⟩
    · rw [show 64 + 3 + 5 * g = 67 + 5 * g by omega]
      exact (hr _ _ (gv_fixhi (by omega))).trans (by omega)
    · rw [show 64 + 3 + 5 * g = 67 + 5 * g by omega]
      exact (hr _ _ (gv_fixhi (by omega))).trans (by omega)
    · rw [show 64 + 3 + 5 * g + 1 = 68 + 5 * g by omega]
      exact (hr _ _ (gv_fixhi (by omega))).trans (by omega)
    · rw [show 64 + 3 + 5 * g + 3 = 70 + 5 * g by omega]
      exact (hr _ _ (gv_fixhi (by omega))).trans (by omega)
    · rw [show 64 + 3 + 5 * g + 2 = 69 + 5 * g by omega]; exact h6
    · rw [show 64 + 3 + 5 * g + 4 = 71 + 5 * g by omega]; exact h7
  · obtain ⟨h1, h2, h3, h4, h5, h6, h7⟩ := gv_sp367 g hg
    refine ⟨(hr 369 g (gv_fixhi (by omega))).trans (by omega), ⟨?_, ?_, ?_, ?_⟩, ?_, ?_⟩
    · rw [show 367 + 3 + 5 * g = 370 + 5 * g by omega]
      exact (hr _ _ (gv_fixhi (by omega))).trans (by omega)
    · rw [show 367 + 3 + 5 * g = 370 + 5 * g by omega]
      exact (hr _ _ (gv_fixhi (by omega))).trans (by omega)
    · rw [show 367 + 3 + 5 * g + 1 = 371 + 5 * g by omega]
      exact (hr _ _ (gv_fixhi (by omega))).trans (by omega)
    · rw [show 367 + 3 + 5 * g + 3 = 373 + 5 * g by omega]
      exact (hr _ _ (gv_fixhi (by omega))).trans (by omega)
    · rw [show 367 + 3 + 5 * g + 2 = 372 + 5 * g by omega]; exact h6
    · rw [show 367 + 3 + 5 * g + 4 = 374 + 5 * g by omega]; exact h7
theorem gv_spK {u : gw_St} (hr : gv_Rf u) {B : Nat} (hB : B = 64 ∨ B = 367) : u.2.2 B 0 = B + 2 ∧ u.2.2 B 1 = B + 3 ∧ gv_z.2.2 (B + 1) = 60 ∧ gv_z.2.2 (B + 2) = 60 := by
  rcases hB with rfl | rfl
  · exact ⟨(hr _ _ (gv_fixhi (by omega))).trans (by decide +kernel), (hr _ _ (gv_fixhi (by omega))).trans (by decide +kernel), by decide +kernel, by decide +kernel⟩
  · exact ⟨(hr _ _ (gv_fixhi (by omega))).trans (by decide +kernel), (hr _ _ (gv_fixhi (by omega))).trans (by decide +kernel), by decide +kernel, by decide +kernel⟩
/-- the speed of a gear, on both sides -/
def gv_Sv (u : gw_St) (B g : Nat) (a b : Int) : Prop := Fr u (B + 3 + 5 * g) a b ∧ 0 < b ∧ a.natAbs < 2 ^ 256 ∧ b.natAbs < 2 ^ 256 ∧ (u.1 682 g).toInt = a.sign ∧ Iw u 683 g a.natAbs ∧ Iw u 684 g b.natAbs
/-- the speeds: the class's object at B holds what the reference holds -/
def gv_Sp (u : gw_St) (n B : Nat) : Prop := (B = 64 ∨ B = 367) ∧ u.2.2 0 7 = B + 1 ∧ u.2.2 0 8 = 432 - B ∧ (∀ g, g < 60 → u.1 (B + 1) g = 0 ∨ u.1 (B + 1) g = 1) ∧ (∀ g, n ≤ g → g < 60 → u.1 (B + 1) g = 0) ∧ (∀ g, g < n → u.1 681 g = u.1 (B + 1) g) ∧ (∀ g, g < n → u.1 (B + 1) g = 1 → ∃ a b, gv_Sv u B g a b)
/-- the result, on both sides -/
def gv_Rs (u : gw_St) : Prop := ∃ a b : Int, Fr u 59 a b ∧ 0 ≤ a ∧ 0 ≤ b ∧ a.natAbs < 2 ^ 256 ∧ b.natAbs < 2 ^ 256 ∧ Iw u 689 0 a.natAbs ∧ Iw u 690 0 b.natAbs
theorem gv_r0_6 : gv_u.2.2 0 6 = 60 := by decide +kernel
theorem gv_r0_3 : gv_u.2.2 0 3 = 46 := by decide +kernel
theorem gv_x59 {u : gw_St} (hr : gv_Rf u) : Fx u 59 := by
  have h1 : u.2.2 59 0 = 61 := hr.get rfl (by decide +kernel)
  have h2 : u.2.2 59 1 = 63 := hr.get rfl (by decide +kernel)
  have h3 : u.2.2 60 0 = 62 := hr.get rfl (by decide +kernel)
  have h4 : u.2.2 62 0 = 64 := hr.get rfl (by decide +kernel)
  exact ⟨h1, h2, h3, h4⟩
theorem gv_l61 : gv_z.2.2 61 = 9 := by decide +kernel
theorem gv_l63 : gv_z.2.2 63 = 9 := by decide +kernel
theorem gv_l683 : gv_z.2.2 683 = 960 := by decide +kernel
theorem gv_l684 : gv_z.2.2 684 = 960 := by decide +kernel
theorem gv_l689 : gv_z.2.2 689 = 16 := by decide +kernel
theorem gv_l690 : gv_z.2.2 690 = 16 := by decide +kernel
theorem gv_l682 : gv_z.2.2 682 = 60 := by decide +kernel
theorem gv_r670_28 : gv_u.2.2 670 28 = 682 := by decide +kernel
theorem gv_r670_29 : gv_u.2.2 670 29 = 683 := by decide +kernel
theorem gv_r670_30 : gv_u.2.2 670 30 = 684 := by decide +kernel
theorem gv_r670_31 : gv_u.2.2 670 31 = 685 := by decide +kernel
theorem gv_r670_36 : gv_u.2.2 670 36 = 690 := by decide +kernel
theorem gv_r670_37 : gv_u.2.2 670 37 = 691 := by decide +kernel
theorem p256' {x : Nat} (h : x < 2 ^ 256) : x < 2147483648 ^ 9 := p256 (by omega)
/-- a word out of two digits -/
theorem n32_word {x y : Int32} (hx : 0 ≤ x.toInt ∧ x.toInt < 65536) (hy : 0 ≤ y.toInt ∧ y.toInt < 65536) : x ||| (y <<< ((16 : Int32) &&& 31)) = Int32.ofNat (x.toInt.toNat + 65536 * y.toInt.toNat) := by
  obtain ⟨m, rfl, hm⟩ : ∃ m, x = Int32.ofNat m ∧ m < 65536 := ⟨x.toInt.toNat, i32_ext (by rw [i32_nat (by omega)]; omega), by omega⟩
  obtain ⟨n, rfl, hn⟩ : ∃ n, y = Int32.ofNat n ∧ n < 65536 := ⟨y.toInt.toNat, i32_ext (by rw [i32_nat (by omega)]; omega), by omega⟩
  rw [i32_nat (by omega), i32_nat (by omega)]
  show _ = Int32.ofNat (m + 65536 * n)
  apply Int32.toBitVec_inj.mp
  apply BitVec.eq_of_toNat_eq
  rw [Int32.toBitVec_or, BitVec.toNat_or, Int32.toBitVec_shiftLeft]
  have e1 : ((16 : Int32) &&& 31).toBitVec.smod 32 = 16#32 := by decide
  rw [e1, BitVec.shiftLeft_eq', BitVec.toNat_shiftLeft]
  have e2 : (Int32.ofNat m).toBitVec.toNat = m := by
    show m % 2 ^ 32 = m
    omega
  have e3 : (Int32.ofNat n).toBitVec.toNat = n := by
    show n % 2 ^ 32 = n
    omega
  have e4 : (Int32.ofNat (m + 65536 * n)).toBitVec.toNat = m + 65536 * n := by
    show (m + 65536 * n) % 2 ^ 32 = _
    omega
  rw [e2, e3, e4]
  have e5 : (16#32).toNat = 16 := rfl
  rw [e5]
  have e6 : n <<< 16 % 2 ^ 32 = n <<< 16 := by
    rw [Nat.shiftLeft_eq]
    omega
  rw [e6, Nat.or_comm, ← Nat.shiftLeft_add_eq_or_of_lt (by omega), Nat.shiftLeft_eq]
  omega
theorem gz_word {F : Nat} {u : gw_St} {t j i v : Nat} (hj : j < 60) (ht : 16 * j + 16 ≤ gv_z.2.2 t) (h : Iw u t j v) (hi : i < 8) : gf_Model_word F gv_z u t (Int32.ofNat j) (Int32.ofNat i) = some (Int32.ofNat (v / 2 ^ (32 * i)), u) := by
  show gf_Model_word_b0 F gv_z u t (Int32.ofNat j) (Int32.ofNat i) = _
  unfold gf_Model_word_b0
  rw [show (2 : Int32) * Int32.ofNat i = Int32.ofNat (2 * i) from gi_mul (a := 2), gi16, show Int32.ofNat (16 * j + 2 * i) + (1 : Int32) = Int32.ofNat (16 * j + (2 * i + 1)) from gi_add (b := 1), if_neg (gi_ix (by omega) (by omega)), if_neg (gi_ix (by omega) (by omega)), i32_clamp (by omega), i32_clamp (by omega), n32_word (h.1 (2 * i) (by omega)) (h.1 (2 * i + 1) (by omega))]
  congr 2
  have hd : ∀ k, k < 16 → (u.1 t (16 * j + k)).toInt.toNat = v / 65536 ^ k % 65536 := fun k hk => by
    rw [← h.2]
    exact (bv_dig (B := 65536) (by decide) (f := fun k => (u.1 t (16 * j + k)).toInt.toNat) (fun q hq => by have := h.1 q hq; omega) hk).symm
  rw [hd (2 * i) (by omega), hd (2 * i + 1) (by omega)]
  have e1 : (2 : Nat) ^ (32 * i) = 65536 ^ (2 * i) := by rw [pw16]; congr 1; omega
  rw [e1, Nat.pow_succ, ← Nat.div_div_eq_div_mul]
  generalize v / 65536 ^ (2 * i) = X
  have e2 : X = (X % 65536 + 65536 * (X / 65536 % 65536)) + X / 4294967296 * 4294967296 := by omega
  have e3 : Int32.ofNat X = Int32.ofNat ((X % 65536 + 65536 * (X / 65536 % 65536)) + X / 4294967296 * 4294967296) := congrArg Int32.ofNat e2
  rw [e3, ← gi_add (b := X / 4294967296 * 4294967296)]
  have e0 : ∀ Y, Int32.ofNat (Y * 4294967296) = 0 := fun Y => by
    rw [Int32.ofNat_mul]
    show Int32.ofNat Y * 0 = 0
    exact Int32.mul_zero
  rw [e0]
  exact (Int32.add_zero _).symm
