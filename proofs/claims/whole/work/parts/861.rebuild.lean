theorem gm_rebuild {F : Nat} (hF : 20000 ≤ F) {u : gw_St} {g : Nat} {G : Nat → Bool} {ρ : Nat → Nat} {x y : Int} (hr : gv_Rf u) (hpr : gv_Pr u) (hg : g < 60) (hG : ∀ T, T < 70 → u.1 697 T = if G T then 1 else 0) (hρ : ∀ T, T < 70 → G T = true → u.2.1 699 (60 * T + g) = Int64.ofNat (ρ T) ∧ ρ T < prP T) (hcn : 46 ≤ cn G 70) (hy : 0 < y) (hyB : y < (2 ^ 660 : Nat)) (hx1 : -((2 ^ 660 : Nat) : Int) < x) (hx2 : x < (2 ^ 660 : Nat)) (hgcd : Int.gcd x y = 1) (hR : Rs G ρ 70 x y) : ∃ w, gf_Model_rebuild F gv_z u 670 (Int32.ofNat g) = some (if x = 0 then 0 else if 0 < x then 1 else -1, w) ∧ Zf (fun a => a ≤ 4 ∨ a = 18 ∨ a = 19) u w ∧ Zw w 0 x.natAbs ∧ Zw w 1 y.natAbs := by
  obtain ⟨w1, a1, a2, a3⟩ := gz_set (F := F) (by omega) (u := u) (a := 0) (v := 0) (y := 0) hr (by omega) rfl
  have r1 := hr.zf a2
  obtain ⟨w2, b1, b2, b3⟩ := gz_set (F := F) (by omega) (u := w1) (a := 1) (v := 1) (y := 1) r1 (by omega) rfl
  have r2 := r1.zf b2
  have z02 : Zf (fun a => a ≤ 2) u w2 := (a2.mono (fun a h => by omega)).trans (b2.mono (fun a h => by omega))
  obtain ⟨w3, N, M, e3, f3, y0, y1, hNM, hlo, hhi, hcrt⟩ := gm_crt (F := F) hF (u0 := u) (g := g) (G := G) (ρ := ρ) hr hpr hg hG hρ hcn 70 0 F w2 0 1 (by omega) (by omega) z02 (a3.zf b2 (by omega)) b3 (by omega) (Nat.zero_le _) (Nat.le_refl _) (Nat.le_refl _) (fun x y _ => ⟨y * ((0 : Nat) : Int) - x, by simp⟩) (fun t _ ht hd => by
    have := (prP_pm ht).1
    have := Nat.dvd_one.mp hd
    omega)
  have r3 := hr.zf f3
  obtain ⟨w4, c1, c2, c3⟩ := gz_set (F := F) (by omega) (u := w3) (a := 3) (v := 0) (y := 0) r3 (by omega) rfl
  have r4 := r3.zf c2
  obtain ⟨w5, d1, d2, d3⟩ := gz_set (F := F) (by omega) (u := w4) (a := 4) (v := 1) (y := 1) r4 (by omega) rfl
  have r5 := r4.zf d2
  have hQM : 2 * (2 ^ 660 * 2 ^ 680) ≤ M := Nat.le_trans (by decide +kernel) hlo
  have hQ1 : 1 * 2 ^ 680 ≤ M := Nat.le_trans (by decide +kernel) hlo
  have hM0 : M ≠ 0 := by omega
  obtain ⟨Q, hQd⟩ : ∃ Q, Q = 2 ^ 680 := ⟨_, rfl⟩
  obtain ⟨B, hBd⟩ : ∃ B, B = 2 ^ 660 := ⟨_, rfl⟩
  have hBQ : 2 * B ≤ Q := by rw [hBd, hQd]; decide +kernel
  rw [← hQd] at hQ1 hQM
  rw [← hBd] at hQM hyB hx1 hx2
  have hE0 : Eu Q M N 1 N M 0 1 := ⟨by omega, hNM, by omega, hQ1, 0, 1, by simp, by simp, by simp⟩
  have hMlt : M < 65536 ^ 256 := Nat.lt_of_le_of_lt hhi (by decide +kernel)
  have hprod : N * M < 2 ^ 2852 := by
    have h1 : N * M < M * M := Nat.mul_lt_mul_of_pos_right hNM (by omega)
    have h2 : M * M ≤ 2147483648 ^ 46 * 2147483648 ^ 46 := Nat.mul_le_mul hhi hhi
    have h3 : 2147483648 ^ 46 * 2147483648 ^ 46 = 2 ^ 2852 := by decide +kernel
    rw [h3] at h2
    exact Nat.lt_of_lt_of_le h1 h2
  obtain ⟨w6, e', r', rp', tp', t', o1, o2, o3, o4, o5, o6, o7⟩ := gm_euclid (F := F) hF (Q := Q) (M := M) (N := N) hQd hMlt 2852 F w5 1 1 N M 0 1 r5 ((y0.zf c2 (by omega)).zf d2 (by omega)) ((y1.zf c2 (by omega)).zf d2 (by omega)) (c3.zf d2 (by omega)) d3 (Or.inl ⟨rfl, rfl⟩) hE0 hprod (by omega)
  obtain ⟨q1, q2, q3⟩ := eu_end (B := B) o7 o6 o5 hM0 hBQ hQM hy hyB hx1 hx2 hgcd (hcrt x y hR)
  have hr' : r' = x.natAbs := by omega
  have ht' : t' = y.natAbs := by omega
  refine ⟨w6, ?_, (((f3.mono (fun a h => by omega)).trans (c2.mono (fun a h => by omega))).trans (d2.mono (fun a h => by omega))).trans o2, by rw [← hr']; exact o3, by rw [← ht']; exact o4⟩
  show gf_Model_rebuild_b0 F gv_z u 670 (Int32.ofNat g) = _
  unfold gf_Model_rebuild_b0
  rw [show gf_Model_setWide F gv_z u 670 0 0 = some w1 from a1, Option.bind_some, show gf_Model_setWide F gv_z w1 670 1 1 = some w2 from b1, Option.bind_some]
  show gf_Model_rebuild_L16 F gv_z F w2 670 (Int32.ofNat g) (Int32.ofNat (cn G 0)) (Int32.ofNat 0) = _
  rw [e3]
  unfold gf_Model_rebuild_b138
  rw [show gf_Model_setWide F gv_z w3 670 3 0 = some w4 from c1, Option.bind_some, show gf_Model_setWide F gv_z w4 670 4 1 = some w5 from d1, Option.bind_some, o1]
  by_cases c : x = 0
  · rw [if_pos c, if_pos (by omega)]
  · rw [if_neg c, if_neg (by omega)]
    by_cases c2 : 0 < x
    · rw [if_pos c2, if_pos ((q3 c).mpr c2)]
    · rw [if_neg c2, if_neg (fun q => c2 ((q3 c).mp q))]
/-! few primes divide a number of that size -/
theorem cn_imp {G H : Nat → Bool} : ∀ {T : Nat}, (∀ t, t < T → G t = true → H t = true) → cn G T ≤ cn H T
  | 0, _ => Nat.le_refl _
  | T + 1, h => by
    have h1 := cn_imp (G := G) (H := H) (T := T) (fun t ht => h t (by omega))
    have h2 := h T (by omega)
    show cn G T + (if G T then 1 else 0) ≤ cn H T + (if H T then 1 else 0)
    by_cases c : G T = true
    · rw [if_pos c, if_pos (h2 c)]; omega
    · rw [if_neg c]; omega
theorem cn_not {G : Nat → Bool} : ∀ T : Nat, cn G T + cn (fun t => !G t) T = T
  | 0 => rfl
  | T + 1 => by
    have h1 := cn_not (G := G) T
    show cn G T + (if G T then 1 else 0) + (cn (fun t => !G t) T + (if (!G T) then 1 else 0)) = T + 1
    by_cases c : G T = true
    · rw [if_pos c, if_neg (by rw [c]; decide)]; omega
    · have c' : G T = false := by simpa using c
      rw [if_neg c, if_pos (by rw [c']; rfl)]; omega
theorem cn_or {G H : Nat → Bool} : ∀ T : Nat, cn (fun t => G t || H t) T ≤ cn G T + cn H T
  | 0 => Nat.le_refl _
  | T + 1 => by
    have h1 := cn_or (G := G) (H := H) T
    show cn (fun t => G t || H t) T + (if (G T || H T) then 1 else 0) ≤ cn G T + (if G T then 1 else 0) + (cn H T + (if H T then 1 else 0))
    by_cases c : G T = true
    · rw [if_pos c]
      have : (if (G T || H T) then 1 else 0) ≤ 1 := by split <;> omega
      omega
    · have c' : G T = false := by simpa using c
      rw [c', Bool.false_or, if_neg (show ¬ false = true by decide)]
      omega
theorem cn_full {G : Nat → Bool} : ∀ {T : Nat}, (∀ t, t < T → G t = true) → cn G T = T
  | 0, _ => rfl
  | T + 1, h => by
    show cn G T + (if G T then 1 else 0) = T + 1
    rw [cn_full (fun t ht => h t (by omega)), if_pos (h T (by omega))]
/-- the primes that divide D -/
def dvs (D : Int) (t : Nat) : Bool := decide ((prP t : Int) ∣ D)
theorem dvs_le {D : Int} (hD : D ≠ 0) (hB : D.natAbs < 2 ^ 660) : cn (dvs D) 70 ≤ 21 := by
  have run : ∀ T, T ≤ 70 → ∃ P : Nat, P ∣ D.natAbs ∧ 1073741824 ^ cn (dvs D) T ≤ P ∧ ∀ t, T ≤ t → t < 70 → ¬ prP t ∣ P := by
    intro T
    induction T with
    | zero =>
      intro _
      refine ⟨1, Nat.one_dvd _, Nat.le_refl _, fun t _ ht hd => ?_⟩
      have := (prP_pm ht).1
      have := Nat.dvd_one.mp hd
      omega
    | succ T ih =>
      intro hT
      obtain ⟨P, h1, h2, h3⟩ := ih (by omega)
      by_cases c : dvs D T = true
      · have hc : cn (dvs D) (T + 1) = cn (dvs D) T + 1 := by
          show cn (dvs D) T + (if dvs D T then 1 else 0) = _
          rw [if_pos c]
        obtain ⟨d1, d2, -⟩ := prP_d T (by omega)
        have hd : prP T ∣ D.natAbs := Int.natAbs_dvd_natAbs.mpr (of_decide_eq_true c)
        have hP := prP_pm (k := T) (by omega)
        refine ⟨P * prP T, ?_, ?_, fun t ht1 ht2 hdd => ?_⟩
        · obtain ⟨k, hk⟩ := h1
          rw [hk] at hd
          rcases hP.2 _ _ hd with h | h
          · exact absurd h (h3 T (Nat.le_refl _) (by omega))
          · obtain ⟨l, hl⟩ := h
            exact ⟨l, by rw [hk, hl, Nat.mul_assoc]⟩
        · rw [hc, Nat.pow_succ]
          exact Nat.mul_le_mul h2 (by omega)
        · rcases (prP_pm ht2).2 _ _ hdd with h | h
          · exact h3 t (by omega) ht2 h
          · exact prP_nd (by omega) ht2 h
      · have hc : cn (dvs D) (T + 1) = cn (dvs D) T := by
          show cn (dvs D) T + (if dvs D T then 1 else 0) = _
          rw [if_neg c]
          rfl
        refine ⟨P, h1, by rw [hc]; exact h2, fun t ht1 ht2 => h3 t (by omega) ht2⟩
  obtain ⟨P, h1, h2, -⟩ := run 70 (by omega)
  have h3 := Nat.le_of_dvd (by omega) h1
  apply Classical.byContradiction
  intro h
  have h4 : 1073741824 ^ 22 ≤ 1073741824 ^ cn (dvs D) 70 := Nat.pow_le_pow_right (by decide) (by omega)
  have h5 : 1073741824 ^ 22 = 2 ^ 660 := by decide +kernel
  rw [h5] at h4
  omega
theorem dvs_no {D : Int} (hD : D ≠ 0) (hB : D.natAbs < 2 ^ 660) : 46 ≤ cn (fun t => !dvs D t) 70 := by
  have h1 := dvs_le hD hB
  have h2 := cn_not (G := dvs D) 70
  omega
theorem dvs_two {D E : Int} (hD : D ≠ 0) (hB : D.natAbs < 2 ^ 660) (hE : E ≠ 0) (hB2 : E.natAbs < 2 ^ 660) : ∃ t, t < 70 ∧ ¬ (prP t : Int) ∣ D ∧ ¬ (prP t : Int) ∣ E := by
  apply Classical.byContradiction
  intro h
  have h1 := dvs_le hD hB
  have h2 := dvs_le hE hB2
  have h3 := cn_or (G := dvs D) (H := dvs E) 70
  have h4 := cn_full (G := fun t => dvs D t || dvs E t) (T := 70) (fun t ht => by
    by_cases c : (prP t : Int) ∣ D
    · unfold dvs; rw [decide_eq_true c]; rfl
    · by_cases c2 : (prP t : Int) ∣ E
      · unfold dvs; rw [decide_eq_true c2, Bool.or_true]
      · exact absurd ⟨t, ht, c, c2⟩ h)
  omega
