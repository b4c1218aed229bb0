/-- how many of the first T are good -/
def cn (G : Nat → Bool) : Nat → Nat
  | 0 => 0
  | T + 1 => cn G T + if G T then 1 else 0
theorem cn_mono {G : Nat → Bool} {T U : Nat} (h : T ≤ U) : cn G T ≤ cn G U := by
  induction U with
  | zero => have : T = 0 := by omega
            subst this; exact Nat.le_refl _
  | succ U ih =>
    by_cases e : T = U + 1
    · rw [e]; exact Nat.le_refl _
    · have := ih (by omega)
      show _ ≤ cn G U + _
      omega
theorem prP_nd {s t : Nat} (hs : s < t) (ht : t < 70) : ¬ prP t ∣ prP s := by
  rintro ⟨k, hk⟩
  have h1 := prP_ne t ht s hs
  obtain ⟨a1, a2, -⟩ := prP_d t ht
  obtain ⟨b1, b2, -⟩ := prP_d s (by omega)
  rcases Nat.lt_or_ge k 2 with h | h
  · have : k = 0 ∨ k = 1 := by omega
    rcases this with h | h
    · subst h; omega
    · subst h; omega
  · have : prP t * 2 ≤ prP t * k := Nat.mul_le_mul_left _ h
    omega
theorem cp_mul {M p : Nat} {a : Int} (hp : Pm p) (hpM : ¬ p ∣ M) (h1 : (M : Int) ∣ a) (h2 : (p : Int) ∣ a) : ((M * p : Nat) : Int) ∣ a := by
  obtain ⟨k, hk⟩ := h1
  rw [hk] at h2
  rcases hp.int _ _ h2 with h | h
  · exact absurd (Int.natAbs_dvd_natAbs.mpr h) hpM
  · obtain ⟨l, hl⟩ := h
    exact ⟨l, by rw [hk, hl, Int.natCast_mul, Int.mul_assoc]⟩
/-- what the primes below T that are good say of x / y -/
def Rs (G : Nat → Bool) (ρ : Nat → Nat) (T : Nat) (x y : Int) : Prop := ∀ t, t < T → G t = true → (prP t : Int) ∣ y * (ρ t : Int) - x
theorem gm_crt {F : Nat} (hF : 20000 ≤ F) {u0 : gw_St} {g : Nat} {G : Nat → Bool} {ρ : Nat → Nat} (hr0 : gv_Rf u0) (hpr : gv_Pr u0) (hg : g < 60) (hG : ∀ T, T < 70 → u0.1 697 T = if G T then 1 else 0) (hρ : ∀ T, T < 70 → G T = true → u0.2.1 699 (60 * T + g) = Int64.ofNat (ρ T) ∧ ρ T < prP T) (hcn : 46 ≤ cn G 70) : ∀ (j T f : Nat) (u : gw_St) (N M : Nat), T + j = 70 → j < f → Zf (fun a => a ≤ 2) u0 u → Zw u 0 N → Zw u 1 M → N < M → cn G T ≤ 46 → 1073741824 ^ cn G T ≤ M → M ≤ 2147483648 ^ cn G T → (∀ x y, Rs G ρ T x y → (M : Int) ∣ y * (N : Int) - x) → (∀ t, T ≤ t → t < 70 → ¬ prP t ∣ M) → ∃ w N' M', gf_Model_rebuild_L16 F gv_z f u 670 (Int32.ofNat g) (Int32.ofNat (cn G T)) (Int32.ofNat T) = gf_Model_rebuild_b138 F gv_z w 670 ∧ Zf (fun a => a ≤ 2) u0 w ∧ Zw w 0 N' ∧ Zw w 1 M' ∧ N' < M' ∧ 1073741824 ^ 46 ≤ M' ∧ M' ≤ 2147483648 ^ 46 ∧ (∀ x y, Rs G ρ 70 x y → (M' : Int) ∣ y * (N' : Int) - x) := by
  intro j
  induction j with
  | zero =>
    intro T f u N M hT hf hz z0 z1 hNM hc hlo hhi hcrt hnd
    obtain ⟨f, rfl⟩ : ∃ q, f = q + 1 := ⟨f - 1, by omega⟩
    have : T = 70 := by omega
    subst this
    have h46 : cn G 70 = 46 := by omega
    rw [h46] at hlo hhi
    refine ⟨u, N, M, ?_, hz, z0, z1, hNM, hlo, hhi, hcrt⟩
    show gf_Model_rebuild_S16 F gv_z _ u 670 (Int32.ofNat g) (Int32.ofNat (cn G 70)) (Int32.ofNat 70) = _
    unfold gf_Model_rebuild_S16
    rw [if_pos (show (70 : Int32) ≤ Int32.ofNat 70 by decide)]
  | succ j ih =>
    intro T f u N M hT hf hz z0 z1 hNM hc hlo hhi hcrt hnd
    obtain ⟨f, rfl⟩ : ∃ q, f = q + 1 := ⟨f - 1, by omega⟩
    by_cases c46 : cn G T = 46
    · rw [c46] at hlo hhi
      refine ⟨u, N, M, ?_, hz, z0, z1, hNM, hlo, hhi, fun x y h => hcrt x y (fun t ht => h t (by omega))⟩
      show gf_Model_rebuild_S16 F gv_z _ u 670 (Int32.ofNat g) (Int32.ofNat (cn G T)) (Int32.ofNat T) = _
      unfold gf_Model_rebuild_S16
      rw [if_neg (show ¬ (70 : Int32) ≤ Int32.ofNat T from fun e => by have := (gi_le (a := 70) (by omega) (by omega)).mp e; omega), c46, if_pos (show (46 : Int32) ≤ Int32.ofNat 46 by decide)]
    · have hr := hr0.zf hz
      have hgT : u.1 697 T = if G T then 1 else 0 := by rw [hz.1]; exact hG T (by omega)
      by_cases cG : G T = true
      · rw [if_pos cG] at hgT
        obtain ⟨ρ1, ρ2⟩ := hρ T (by omega) cG
        obtain ⟨d1, d2, -⟩ := prP_d T (by omega)
        have hP := prP_pm (k := T) (by omega)
        have hup : M * prP T ≤ 2147483648 ^ (cn G T + 1) := by
          rw [Nat.pow_succ]
          exact Nat.mul_le_mul hhi (by omega)
        have hcS : cn G (T + 1) = cn G T + 1 := by
          show cn G T + (if G T then 1 else 0) = _
          rw [if_pos cG]
        have hfit : M * prP T < 65536 ^ 256 := by
          refine Nat.lt_of_le_of_lt hup (Nat.lt_of_le_of_lt (Nat.pow_le_pow_right (by decide) (show cn G T + 1 ≤ 46 by omega)) ?_)
          decide +kernel
        obtain ⟨w, k, e1, f1, y0, y1, hlt, hcg⟩ := gm_crt1 (F := F) hF (rc := gf_Model_rebuild_L16 F gv_z f) hr (fun k hk => by rw [hz.1]; exact hpr k hk) (by omega) hg (show cn G T < 46 by omega) hgT (by rw [hz.2.2.1 699 _ (by omega)]; exact ρ1) ρ2 z0 z1 hNM (hnd T (Nat.le_refl _) (by omega)) hfit
        have hst : gf_Model_rebuild_L16 F gv_z (f + 1) u 670 (Int32.ofNat g) (Int32.ofNat (cn G T)) (Int32.ofNat T) = gf_Model_rebuild_L16 F gv_z f w 670 (Int32.ofNat g) (Int32.ofNat (cn G (T + 1))) (Int32.ofNat (T + 1)) := by rw [hcS]; exact e1
        rw [hst]
        refine ih (T + 1) f w (N + M * k) (M * prP T) (by omega) (by omega) (hz.trans f1) y0 y1 hlt (by omega) ?_ (by rw [hcS]; exact hup) (fun x y h => ?_) (fun t h1 h2 hd => ?_)
        · rw [hcS, Nat.pow_succ]
          exact Nat.mul_le_mul hlo (by omega)
        · refine cp_mul hP (hnd T (Nat.le_refl _) (by omega)) ?_ ?_
          · obtain ⟨l, hl⟩ := hcrt x y (fun t ht => h t (by omega))
            refine ⟨l + y * (k : Int), ?_⟩
            rw [Int.natCast_add, Int.natCast_mul, Int.mul_add, Int.mul_add, ← hl, show y * ((M : Int) * (k : Int)) = (M : Int) * (y * (k : Int)) from Int.mul_left_comm _ _ _]
            omega
          · have h3 := h T (by omega) cG
            have h4 := hcg.mul y
            obtain ⟨a, ha⟩ := h3
            obtain ⟨b, hb⟩ := h4
            exact ⟨a + b, by rw [Int.mul_add, ← ha, ← hb]; omega⟩
        · rcases (prP_pm h2).2 _ _ hd with h | h
          · exact hnd t (by omega) h2 h
          · exact prP_nd (by omega) h2 h
      · have cG' : G T = false := by simpa using cG
        rw [if_neg cG] at hgT
        have hcS : cn G (T + 1) = cn G T := by
          show cn G T + (if G T then 1 else 0) = _
          rw [if_neg cG]
          rfl
        have hst : gf_Model_rebuild_L16 F gv_z (f + 1) u 670 (Int32.ofNat g) (Int32.ofNat (cn G T)) (Int32.ofNat T) = gf_Model_rebuild_L16 F gv_z f u 670 (Int32.ofNat g) (Int32.ofNat (cn G (T + 1))) (Int32.ofNat (T + 1)) := by
          rw [hcS]
          show gf_Model_rebuild_S16 F gv_z _ u 670 (Int32.ofNat g) (Int32.ofNat (cn G T)) (Int32.ofNat T) = _
          unfold gf_Model_rebuild_S16 gf_Model_rebuild_b132
          rw [if_neg (show ¬ (70 : Int32) ≤ Int32.ofNat T from fun e => by have := (gi_le (a := 70) (by omega) (by omega)).mp e; omega), if_neg (show ¬ (46 : Int32) ≤ Int32.ofNat (cn G T) from fun e => by have := (gi_le (a := 46) (by omega) (by omega)).mp e; omega), hr.get rfl gv_r670_45, gnn, if_neg (gi_ix (by rw [gv_l697]; omega) (by omega)), i32_clamp (by omega), hgT, if_pos rfl]
          simp only [gf_nm]
          rw [gw_iS]
        rw [hst]
        exact ih (T + 1) f u N M (by omega) (by omega) hz z0 z1 hNM (by omega) (by rw [hcS]; exact hlo) (by rw [hcS]; exact hhi) (fun x y h => hcrt x y (fun t ht => h t (by omega))) (fun t h1 h2 => hnd t (by omega) h2)
/-- the fraction that Euclid's rounds leave -/
theorem eu_end {Q M N B : Nat} {e : Int} {r rp tp t : Nat} {x y : Int} (hE : Eu Q M N e r rp tp t) (he : e = 1 ∨ e = -1) (hrQ : r < Q) (hM : M ≠ 0) (hB1 : 2 * B ≤ Q) (hB2 : 2 * (B * Q) ≤ M) (hy : 0 < y) (hyB : y < B) (hx1 : -(B : Int) < x) (hx2 : x < B) (hg : Int.gcd x y = 1) (hd : (M : Int) ∣ y * (N : Int) - x) : (t : Int) = y ∧ (r : Int) = x.natAbs ∧ (x ≠ 0 → (e = 1 ↔ 0 < x)) := by
  obtain ⟨h1, h2, h3, h4, S, S', h5, h6, h7⟩ := hE
  obtain ⟨w, hw⟩ := hd
  -- y r = e t x
  have hdiv : (M : Int) ∣ y * (r : Int) - e * (t : Int) * x := by
    refine ⟨e * (t : Int) * w + y * S, ?_⟩
    rw [Int.mul_add, show (M : Int) * (e * (t : Int) * w) = e * (t : Int) * ((M : Int) * w) from Int.mul_left_comm _ _ _, ← hw, Int.mul_sub, h5, Int.mul_add, show y * (e * (t : Int) * (N : Int)) = e * (t : Int) * (y * (N : Int)) from Int.mul_left_comm _ _ _, show y * (S * (M : Int)) = (M : Int) * (y * S) by rw [← Int.mul_assoc, Int.mul_comm]]
    omega
  have hsmall1 : y * (r : Int) < (B * Q : Nat) ∧ 0 ≤ y * (r : Int) := by
    refine ⟨?_, Int.mul_nonneg (by omega) (by omega)⟩
    rw [Int.natCast_mul]
    have k1 : y * (r : Int) ≤ y * (Q : Int) := Int.mul_le_mul_of_nonneg_left (by omega) (by omega)
    have k2 : y * (Q : Int) < (B : Int) * (Q : Int) := Int.mul_lt_mul_of_pos_right hyB (by omega)
    omega
  have hsmall2 : (2 * ((t : Int) * x) ≤ M ∧ -(M : Int) ≤ 2 * ((t : Int) * x)) := by
    have k0 : (t : Int) * (Q : Int) ≤ M := by exact_mod_cast h4
    have k1 : (t : Int) * x ≤ (t : Int) * B := Int.mul_le_mul_of_nonneg_left (by omega) (by omega)
    have k2 : (t : Int) * (-(B : Int)) ≤ (t : Int) * x := Int.mul_le_mul_of_nonneg_left (by omega) (by omega)
    have k3 : (t : Int) * (2 * (B : Int)) ≤ (t : Int) * (Q : Int) := Int.mul_le_mul_of_nonneg_left (by omega) (by omega)
    rw [Int.mul_neg] at k2
    rw [Int.mul_left_comm] at k3
    omega
  have hBQ : 2 * ((B * Q : Nat) : Int) ≤ M := by exact_mod_cast hB2
  have heq : y * (r : Int) = e * (t : Int) * x := by
    obtain ⟨k, hk⟩ := hdiv
    have hex : e * (t : Int) * x = (t : Int) * x ∨ e * (t : Int) * x = -((t : Int) * x) := by
      rcases he with h | h
      · left; rw [h, Int.one_mul]
      · right; rw [h, Int.neg_mul, Int.one_mul, Int.neg_mul]
    have hk0 : k = 0 := by
      apply Classical.byContradiction
      intro hne
      have hMp : (0 : Int) < M := by omega
      rcases Int.lt_or_gt_of_ne hne with h | h
      · have : (M : Int) * k ≤ (M : Int) * (-1) := Int.mul_le_mul_of_nonneg_left (by omega) (by omega)
        omega
      · have : (M : Int) * 1 ≤ (M : Int) * k := Int.mul_le_mul_of_nonneg_left (by omega) (by omega)
        omega
    rw [hk0] at hk
    omega
  -- y divides e t
  have hyT : y ∣ e * (t : Int) := by
    have : y ∣ e * (t : Int) * x := ⟨(r : Int), heq.symm⟩
    have h2' := Int.natAbs_dvd_natAbs.mpr this
    rw [Int.natAbs_mul] at h2'
    exact Int.natAbs_dvd_natAbs.mp (Nat.Coprime.dvd_of_dvd_mul_right (show Nat.gcd y.natAbs x.natAbs = 1 by rw [Nat.gcd_comm]; exact hg) h2')
  obtain ⟨k, hk⟩ := hyT
  have hrk : (r : Int) = k * x := by
    rw [hk, Int.mul_assoc] at heq
    exact Int.eq_of_mul_eq_mul_left (by omega) heq
  have hSk : S = -(k * w) := by
    have k1 : (M : Int) * S = (M : Int) * (-(k * w)) := by
      rw [Int.mul_neg, Int.mul_left_comm, ← hw, Int.mul_sub, ← hrk, ← Int.mul_assoc, Int.mul_comm k y, ← hk, h5, Int.mul_comm S]
      omega
    exact Int.eq_of_mul_eq_mul_left (by omega) k1
  have hk1 : k ∣ 1 := by
    have : k ∣ e * (t : Int) * S' + e * (tp : Int) * S := by
      rw [hk, hSk]
      exact ⟨y * S' - e * (tp : Int) * w, by rw [Int.mul_sub, Int.mul_neg, Int.mul_left_comm (e * (tp : Int)), Int.mul_comm y k, Int.mul_assoc]; omega⟩
    rcases h7 with h | h
    · rw [h] at this; exact this
    · rw [h] at this; exact Int.dvd_neg.mp this
  have hkk : k = 1 ∨ k = -1 := by
    have h8 := Int.natAbs_dvd_natAbs.mpr hk1
    have h9 := Nat.dvd_one.mp h8
    omega
  have ht0 : (0 : Int) < t := by omega
  rcases hkk with h | h
  · rw [h, Int.mul_one] at hk
    rw [h, Int.one_mul] at hrk
    rcases he with g | g
    · rw [g, Int.one_mul] at hk
      exact ⟨hk, by omega, fun hx => ⟨fun _ => by omega, fun _ => g⟩⟩
    · rw [g, Int.neg_mul, Int.one_mul] at hk
      omega
  · rw [h, Int.mul_neg, Int.mul_one] at hk
    rw [h, Int.neg_mul, Int.one_mul] at hrk
    rcases he with g | g
    · rw [g, Int.one_mul] at hk
      omega
    · rw [g, Int.neg_mul, Int.one_mul] at hk
      exact ⟨by omega, by omega, fun hx => ⟨fun q => by omega, fun q => by omega⟩⟩
