theorem cg.of_mod {p a b : Nat} (h : a % p = b) : cg p (a : Int) (b : Int) := by
  rw [← h]
  exact (cg.emod a).symm
/-- one prime taken in -/
theorem gm_crt1 {F : Nat} (hF : 20000 ≤ F) {u : gw_St} {T g c N M ρ : Nat} {rc : gw_St → Nat → Int32 → Int32 → Int32 → Option (Int32 × gw_St)} (hr : gv_Rf u) (hpr : gv_Pr u) (hT : T < 70) (hg : g < 60) (hc : c < 46) (hG : u.1 697 T = 1) (hρ : u.2.1 699 (60 * T + g) = Int64.ofNat ρ) (hρp : ρ < prP T) (z0 : Zw u 0 N) (z1 : Zw u 1 M) (hNM : N < M) (hpM : ¬ prP T ∣ M) (hfit : M * prP T < 65536 ^ 256) : ∃ w k, gf_Model_rebuild_S16 F gv_z rc u 670 (Int32.ofNat g) (Int32.ofNat c) (Int32.ofNat T) = rc w 670 (Int32.ofNat g) (Int32.ofNat (c + 1)) (Int32.ofNat (T + 1)) ∧ Zf (fun a => a ≤ 2) u w ∧ Zw w 0 (N + M * k) ∧ Zw w 1 (M * prP T) ∧ N + M * k < M * prP T ∧ cg (prP T) ((N + M * k : Nat) : Int) (ρ : Int) := by
  obtain ⟨d1, d2, -⟩ := prP_d T hT
  have hP := prP_pm hT
  have hp0 := hpr T hT
  generalize prP T = p at *
  have hM0 : M % p ≠ 0 := fun e => hpM (Nat.dvd_of_mod_eq_zero e)
  have hMp : M % p < p := Nat.mod_lt _ (by omega)
  have hNp : N % p < p := Nat.mod_lt _ (by omega)
  obtain ⟨t, e1, ht, ht1⟩ := gm_power (F := F) (by omega) (z := gv_z) (u := u) hP d2 hMp hM0
  have eρ : (Int64.ofNat ρ).toInt = (ρ : Int) := i64_nat (by omega)
  have eN : (Int64.ofNat (N % p)).toInt = ((N % p : Nat) : Int) := i64_nat (by omega)
  have es : (Int64.ofNat ρ - Int64.ofNat (N % p)).toInt = (ρ : Int) - ((N % p : Nat) : Int) := by rw [n64_sub (by omega) (by omega), eρ, eN]
  have hoff := n64_pm (x := Int64.ofNat ρ - Int64.ofNat (N % p)) (p := p) (by omega) d2 (by omega) (by omega)
  rw [es] at hoff
  have hm0 := Int.emod_nonneg ((ρ : Int) - ((N % p : Nat) : Int)) (show (p : Int) ≠ 0 by omega)
  have hm1 := Int.emod_lt_of_pos ((ρ : Int) - ((N % p : Nat) : Int)) (show (0 : Int) < p by omega)
  obtain ⟨off, hof⟩ : ∃ off : Nat, off = (((ρ : Int) - ((N % p : Nat) : Int)) % (p : Int)).toNat := ⟨_, rfl⟩
  rw [← hof] at hoff
  have hofI : (off : Int) = ((ρ : Int) - ((N % p : Nat) : Int)) % (p : Int) := by omega
  have hofp : off < p := by omega
  have hmul : off * t ≤ 2147483647 * 2147483647 := Nat.mul_le_mul (by omega) (by omega)
  have hk : off * t % p < p := Nat.mod_lt _ (by omega)
  obtain ⟨k, hkd⟩ : ∃ k, k = off * t % p := ⟨_, rfl⟩
  rw [← hkd] at hk
  have hMk : M * k + M ≤ M * p := by
    have : M * (k + 1) ≤ M * p := Nat.mul_le_mul_left _ (by omega)
    rw [Nat.mul_add, Nat.mul_one] at this
    exact this
  obtain ⟨w1, a1, a2, a3⟩ := gz_copy (F := F) (by omega) (u := u) (a := 2) (b := 1) hr (by omega) (by omega) z1
  have r1 := hr.zf a2
  obtain ⟨w2, b1, b2, b3⟩ := gz_times (F := F) (by omega) (u := w1) (a := 2) (v := M) (m := k) (y := Int64.ofNat k) r1 (by omega) a3 (i64_nat (by omega)) (by omega) (by omega)
  have r2 := r1.zf b2
  obtain ⟨w3, c1, c2, c3⟩ := gz_add (F := F) (by omega) (u := w2) (a := 0) (b := 2) (v := N + M * k) (x := 0) r2 (by omega) (by omega) (by omega) ((z0.zf a2 (by omega)).zf b2 (by omega)) b3 (Or.inl ⟨rfl, rfl⟩) (by omega)
  have r3 := r2.zf c2
  obtain ⟨w4, f1, f2, f3⟩ := gz_times (F := F) (by omega) (u := w3) (a := 1) (v := M) (m := p) (y := Int64.ofNat p) r3 (by omega) (((z1.zf a2 (by omega)).zf b2 (by omega)).zf c2 (by omega)) (i64_nat (by omega)) (by omega) hfit
  refine ⟨w4, k, ?_, (((a2.mono (fun a h => by omega)).trans (b2.mono (fun a h => by omega))).trans (c2.mono (fun a h => by omega))).trans (f2.mono (fun a h => by omega)), c3.zf f2 (by omega), f3, by omega, ?_⟩
  · unfold gf_Model_rebuild_S16 gf_Model_rebuild_b132
    rw [if_neg (show ¬ (70 : Int32) ≤ Int32.ofNat T from fun e => by have := (gi_le (a := 70) (by omega) (by omega)).mp e; omega), if_neg (show ¬ (46 : Int32) ≤ Int32.ofNat c from fun e => by have := (gi_le (a := 46) (by omega) (by omega)).mp e; omega), hr.get rfl gv_r670_45, gnn, if_neg (gi_ix (by rw [gv_l697]; omega) (by omega)), i32_clamp (by omega), hG, if_neg (by decide), hr.get rfl gv_r670_38, gnn, if_neg (gi_ic (by rw [gv_l691]; omega) (by omega)), hp0, i32_64 d2]
    simp only [gf_nm]
    rw [hr.get rfl gv_r670_47, gnn, gi60, if_neg (gi_ix (by rw [gv_l699]; omega) (by omega)), i32_clamp (by omega), hρ, show gf_Model_restSmall F gv_z u 670 0 (Int64.ofNat p) = some (Int64.ofNat (N % p), u) from gz_rest (F := F) (by omega) (a := 0) hr (by omega) z0 (by omega) d2 rfl]
    simp only [gf_cl]
    rw [if_neg (i64_ne0 (by omega) (by omega)), if_neg (i64_ne0 (by omega) (by omega)), hoff, show gf_Model_restSmall F gv_z u 670 1 (Int64.ofNat p) = some (Int64.ofNat (M % p), u) from gz_rest (F := F) (by omega) (a := 1) hr (by omega) z1 (by omega) d2 rfl]
    simp only []
    rw [e1]
    simp only []
    rw [if_neg (i64_ne0 (by omega) (by omega)), i64_mul, i64_rem (by omega) (by omega) (by omega), ← hkd, show gf_Model_copyWide F gv_z u 670 2 1 = some w1 from a1, Option.bind_some, show gf_Model_timesSmall F gv_z w1 670 2 (Int64.ofNat k) = some w2 from b1, Option.bind_some, show gf_Model_addWide F gv_z w2 670 0 2 0 = some w3 from c1, Option.bind_some, show gf_Model_timesSmall F gv_z w3 670 1 (Int64.ofNat p) = some w4 from f1, Option.bind_some, gw_iS, gw_iS]
  · have s1 : cg p (k : Int) ((off : Int) * (t : Int)) := by
      have := cg.emod (p := p) (off * t)
      rw [← hkd, Int.natCast_mul] at this
      exact this
    have s2 : cg p ((t : Int) * (M : Int)) 1 := by
      have h1 := cg.of_mod ht1
      rw [Int.natCast_mul] at h1
      exact (((cg.emod (p := p) M).mul (t : Int)).symm).trans h1
    have s3 : cg p (off : Int) ((ρ : Int) - (N : Int)) := by
      rw [hofI]
      exact cg.mod.trans ((cg.refl _).sub (cg.emod N))
    have s4 := (s1.mul (M : Int))
    have s5 := s2.mul (off : Int)
    rw [Int.mul_one, ← Int.mul_assoc, Int.mul_comm ((off : Int) * (t : Int)) (M : Int)] at s5
    have s6 := (cg.refl (p := (p : Int)) (N : Int)).add ((s4.trans s5).trans s3)
    rw [show (N : Int) + ((ρ : Int) - (N : Int)) = (ρ : Int) by omega] at s6
    rw [Int.natCast_add, Int.natCast_mul]
    exact s6
