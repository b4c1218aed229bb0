/-! rebuilding a fraction from its rests -/
theorem eu_a (e t tp N M S S' q : Int) : -(e * tp) * N + S' * M - (e * t * N + S * M) * q = -e * (tp + t * q) * N + (S' - q * S) * M := by
  rw [Int.sub_mul, Int.add_mul, Int.neg_mul, Int.neg_mul, Int.neg_mul, Int.mul_add, Int.add_mul]
  rw [show e * t * N * q = e * (t * q) * N by rw [Int.mul_right_comm, Int.mul_assoc e t q], show S * M * q = q * S * M by rw [Int.mul_comm q S, Int.mul_right_comm]]
  omega
theorem eu_b (e t tp S S' q : Int) : -e * (tp + t * q) * S + -e * t * (S' - q * S) = -(e * t * S' + e * tp * S) := by
  rw [Int.mul_add, Int.add_mul, Int.mul_sub]
  simp only [Int.neg_mul]
  rw [show e * (t * q) * S = e * t * (q * S) by rw [← Int.mul_assoc e t q, Int.mul_assoc]]
  omega
/-- Euclid's numbers: r and rp remain, t and tp are the factors of N, e the sign -/
def Eu (Q M N : Nat) (e : Int) (r rp tp t : Nat) : Prop := 0 < t ∧ r < rp ∧ rp * t + r * tp = M ∧ t * Q ≤ M ∧ ∃ S S' : Int, (r : Int) = e * (t : Int) * (N : Int) + S * (M : Int) ∧ (rp : Int) = -(e * (tp : Int)) * (N : Int) + S' * (M : Int) ∧ (e * (t : Int) * S' + e * (tp : Int) * S = 1 ∨ e * (t : Int) * S' + e * (tp : Int) * S = -1)
theorem Eu.step {Q M N : Nat} {e : Int} {r rp tp t : Nat} (h : Eu Q M N e r rp tp t) (hQ : Q ≤ r) (hr : 0 < r) : Eu Q M N (-e) (rp % r) r t (tp + t * (rp / r)) := by
  obtain ⟨h1, h2, h3, h4, S, S', h5, h6, h7⟩ := h
  have hd := Nat.div_add_mod rp r
  have hq : 1 ≤ rp / r := (Nat.le_div_iff_mul_le hr).mpr (by omega)
  have ht : t * 1 ≤ t * (rp / r) := Nat.mul_le_mul_left _ hq
  have hM : r * (tp + t * (rp / r)) + rp % r * t = M := by
    rw [Nat.mul_add, Nat.mul_left_comm, Nat.mul_comm (rp % r) t, Nat.add_assoc, ← Nat.mul_add, hd, Nat.mul_comm t rp, Nat.add_comm, Nat.mul_comm r tp]
    rw [Nat.mul_comm r tp] at h3
    exact h3
  refine ⟨by omega, Nat.mod_lt _ hr, hM, ?_, S' - ((rp / r : Nat) : Int) * S, S, ?_, ?_, ?_⟩
  · have : (tp + t * (rp / r)) * Q ≤ (tp + t * (rp / r)) * r := Nat.mul_le_mul_left _ hQ
    rw [Nat.mul_comm _ r] at this
    omega
  · have hdI : (r : Int) * ((rp / r : Nat) : Int) + ((rp % r : Nat) : Int) = (rp : Int) := by exact_mod_cast hd
    have e1 : ((rp % r : Nat) : Int) = (rp : Int) - (r : Int) * ((rp / r : Nat) : Int) := by omega
    rw [e1, Int.natCast_add, Int.natCast_mul]
    have := eu_a e t tp N M S S' ((rp / r : Nat) : Int)
    rw [← h5, ← h6] at this
    exact this
  · rw [show -(-e * (t : Int)) = e * (t : Int) by rw [Int.neg_mul, Int.neg_neg]]
    exact h5
  · rw [Int.natCast_add, Int.natCast_mul, eu_b]
    rcases h7 with h | h <;> rw [h]
    · exact Or.inr rfl
    · exact Or.inl rfl
/-- Euclid's rounds until few bits remain -/
theorem gm_euclid {F : Nat} (hF : 20000 ≤ F) {Q M N : Nat} (hQ : Q = 2 ^ 680) (hM : M < 65536 ^ 256) : ∀ (K f : Nat) (u : gw_St) (x : Int32) (e : Int) (r rp tp t : Nat), gv_Rf u → Zw u 0 r → Zw u 1 rp → Zw u 3 tp → Zw u 4 t → (x = 1 ∧ e = 1 ∨ x = 0 ∧ e = -1) → Eu Q M N e r rp tp t → r * rp < 2 ^ K → K + 1 < f →
    ∃ w e' r' rp' tp' t', gf_Model_rebuild_L152 F gv_z f u 670 x = some (if r' = 0 then 0 else if e' = 1 then 1 else -1, w) ∧ Zf (fun a => a ≤ 4 ∨ a = 18 ∨ a = 19) u w ∧ Zw w 0 r' ∧ Zw w 1 t' ∧ r' < Q ∧ (e' = 1 ∨ e' = -1) ∧ Eu Q M N e' r' rp' tp' t' := by
  intro K
  induction K with
  | zero =>
    intro f u x e r rp tp t hr z0 z1 z3 z4 hx hE hK hf
    obtain ⟨f, rfl⟩ : ∃ q, f = q + 1 := ⟨f - 1, by omega⟩
    have h2 := hE.2.1
    have hr0 : r = 0 := by
      rcases Nat.mul_eq_zero.mp (show r * rp = 0 by simpa using hK) with h | h <;> omega
    subst hr0
    obtain ⟨k, k1, k2, k3, k4⟩ := gz_bits (F := F) (by omega) hr (by omega) z0
    have hk : k = 0 := by
      apply Nat.eq_zero_of_not_pos
      intro h
      have := k4 h
      have : 0 < 2 ^ (k - 1) := Nat.pow_pos (by decide)
      omega
    obtain ⟨w1, a1, a2, a3⟩ := gz_copy (F := F) (by omega) (u := u) (a := 1) (b := 4) hr (by omega) (by omega) z4
    have z0' := z0.zf a2 (by omega)
    obtain ⟨m, m1, m2, m3, m4, m5, m6, m7⟩ := gz_size (F := F) (by omega) (hr.zf a2) (by omega) z0'
    have hm : m = 0 := by
      apply Nat.eq_zero_of_not_pos
      intro h
      have := m6 h
      have : 0 < 65536 ^ (m - 1) := Nat.pow_pos (by decide)
      omega
    refine ⟨w1, e, 0, rp, tp, t, ?_, a2.mono (fun a h => by omega), z0', a3, by rw [hQ]; exact Nat.pow_pos (by decide), by rcases hx with h | h; exact Or.inl h.2; exact Or.inr h.2, hE⟩
    show gf_Model_rebuild_S152 F gv_z _ u 670 x = _
    unfold gf_Model_rebuild_S152
    rw [show gf_Model_bits F gv_z u 670 0 = some (Int32.ofNat k, u) from k2, hk]
    simp only [gf_cl]
    rw [if_pos (show Int32.ofNat 0 ≤ (680 : Int32) by decide), show gf_Model_copyWide F gv_z u 670 1 4 = some w1 from a1]
    rw [Option.bind_some, show gf_Model_size F gv_z w1 670 0 = some (Int32.ofNat m, w1) from m2, hm]
    rfl
  | succ K ih =>
    intro f u x e r rp tp t hr z0 z1 z3 z4 hx hE hK hf
    obtain ⟨f, rfl⟩ : ∃ q, f = q + 1 := ⟨f - 1, by omega⟩
    obtain ⟨h1, h2, h3, h4, -⟩ := id hE
    obtain ⟨k, k1, k2, k3, k4⟩ := gz_bits (F := F) (by omega) hr (by omega) z0
    by_cases ck : k ≤ 680
    · -- the end
      obtain ⟨w1, a1, a2, a3⟩ := gz_copy (F := F) (by omega) (u := u) (a := 1) (b := 4) hr (by omega) (by omega) z4
      have z0' := z0.zf a2 (by omega)
      obtain ⟨m, m1, m2, m3, m4, m5, m6, m7⟩ := gz_size (F := F) (by omega) (hr.zf a2) (by omega) z0'
      have hm : m = 0 ↔ r = 0 := by
        constructor
        · intro h
          subst h
          simpa using m5
        · intro h
          apply Nat.eq_zero_of_not_pos
          intro g
          have := m6 g
          have : 0 < 65536 ^ (m - 1) := Nat.pow_pos (by decide)
          omega
      refine ⟨w1, e, r, rp, tp, t, ?_, a2.mono (fun a h => by omega), z0', a3, by rw [hQ]; exact Nat.lt_of_lt_of_le k3 (Nat.pow_le_pow_right (by decide) ck), by rcases hx with h | h; exact Or.inl h.2; exact Or.inr h.2, hE⟩
      show gf_Model_rebuild_S152 F gv_z _ u 670 x = _
      unfold gf_Model_rebuild_S152 gf_Model_rebuild_b247
      rw [show gf_Model_bits F gv_z u 670 0 = some (Int32.ofNat k, u) from k2]
      simp only [gf_cl]
      rw [if_pos (show Int32.ofNat k ≤ (680 : Int32) from (gi_le (b := 680) (by omega) (by omega)).mpr ck), show gf_Model_copyWide F gv_z u 670 1 4 = some w1 from a1]
      rw [Option.bind_some, show gf_Model_size F gv_z w1 670 0 = some (Int32.ofNat m, w1) from m2]
      show (if Int32.ofNat m = 0 then some (0, w1) else if x = 0 then some (-1, w1) else some (1, w1)) = _
      by_cases c : r = 0
      · rw [if_pos c, if_pos (by rw [hm.mpr c]; rfl)]
      · rw [if_neg c, if_neg (fun q => c (hm.mp (by have := congrArg Int32.toInt q; rw [i32_nat (by omega)] at this; exact Int.ofNat.inj this)))]
        rcases hx with ⟨hx, he⟩ | ⟨hx, he⟩
        · rw [if_neg (by rw [hx]; decide), if_pos he]
        · rw [if_pos hx, if_neg (by omega)]
    · have hQr : Q ≤ r := by
        rw [hQ]
        exact Nat.le_trans (Nat.pow_le_pow_right (by decide) (by omega)) (k4 (by omega))
      have hQ0 : 0 < Q := by rw [hQ]; exact Nat.pow_pos (by decide)
      have hr0 : 0 < r := by omega
      have hE2 := hE.step hQr hr0
      obtain ⟨i1, i2, i3, i4, -⟩ := id hE2
      have hfit : t * rp < 65536 ^ 256 := by rw [Nat.mul_comm]; omega
      have hfit2 : tp + t * (rp / r) < 65536 ^ 256 := by
        have : 1 * (tp + t * (rp / r)) ≤ r * (tp + t * (rp / r)) := Nat.mul_le_mul_right _ (by omega)
        omega
      obtain ⟨w1, a1, a2, a3, a4⟩ := gz_divide (F := F) hF (u := u) (a := 1) (b := 0) (c := 3) (d := 4) hr (by omega) (by omega) (by omega) (by omega) (by omega) z1 z0 z3 z4 hr0 hfit hfit2
      have r1 := hr.zf a2
      obtain ⟨w2, b1, b2, b3⟩ := gz_copy (F := F) (by omega) (u := w1) (a := 2) (b := 1) r1 (by omega) (by omega) a3
      have r2 := r1.zf b2
      have z02 : Zw w2 0 r := (z0.zf a2 (by omega)).zf b2 (by omega)
      have z42 : Zw w2 4 t := (z4.zf a2 (by omega)).zf b2 (by omega)
      have z32 : Zw w2 3 (tp + t * (rp / r)) := a4.zf b2 (by omega)
      obtain ⟨w3, c1, c2, c3⟩ := gz_copy (F := F) (by omega) (u := w2) (a := 1) (b := 0) r2 (by omega) (by omega) z02
      have r3 := r2.zf c2
      obtain ⟨w4, d1, d2, d3⟩ := gz_copy (F := F) (by omega) (u := w3) (a := 0) (b := 2) r3 (by omega) (by omega) (b3.zf c2 (by omega))
      have r4 := r3.zf d2
      obtain ⟨w5, e1, e2, e3⟩ := gz_copy (F := F) (by omega) (u := w4) (a := 2) (b := 3) r4 (by omega) (by omega) ((z32.zf c2 (by omega)).zf d2 (by omega))
      have r5 := r4.zf e2
      obtain ⟨w6, f1, f2, f3⟩ := gz_copy (F := F) (by omega) (u := w5) (a := 3) (b := 4) r5 (by omega) (by omega) (((z42.zf c2 (by omega)).zf d2 (by omega)).zf e2 (by omega))
      have r6 := r5.zf f2
      obtain ⟨w7, g1, g2, g3⟩ := gz_copy (F := F) (by omega) (u := w6) (a := 4) (b := 2) r6 (by omega) (by omega) (e3.zf f2 (by omega))
      have r7 := r6.zf g2
      have y0 : Zw w7 0 (rp % r) := ((d3.zf e2 (by omega)).zf f2 (by omega)).zf g2 (by omega)
      have y1 : Zw w7 1 r := (((c3.zf d2 (by omega)).zf e2 (by omega)).zf f2 (by omega)).zf g2 (by omega)
      have y3 : Zw w7 3 t := f3.zf g2 (by omega)
      have hprod : rp % r * r < 2 ^ K := by
        have hd := Nat.div_add_mod rp r
        have hq : 1 ≤ rp / r := (Nat.le_div_iff_mul_le hr0).mpr (by omega)
        have hq2 : r * 1 ≤ r * (rp / r) := Nat.mul_le_mul_left _ hq
        have hml := Nat.mod_lt rp hr0
        have hhalf : 2 * (rp % r) ≤ rp := by omega
        have h3 : 2 * (rp % r) * r ≤ rp * r := Nat.mul_le_mul_right _ hhalf
        rw [Nat.mul_assoc, Nat.mul_comm rp r] at h3
        rw [Nat.pow_succ] at hK
        omega
      let x' : Int32 := if x = 0 then 1 else 0
      have hx' : x' = 1 ∧ -e = 1 ∨ x' = 0 ∧ -e = -1 := by
        rcases hx with ⟨hx, he⟩ | ⟨hx, he⟩
        · right
          exact ⟨by show (if x = 0 then (1 : Int32) else 0) = 0; rw [hx]; rfl, by omega⟩
        · left
          exact ⟨by show (if x = 0 then (1 : Int32) else 0) = 1; rw [hx]; rfl, by omega⟩
      obtain ⟨w8, e', r', rp', tp', t', o1, o2, o3⟩ := ih f w7 x' (-e) (rp % r) r t (tp + t * (rp / r)) r7 y0 y1 y3 g3 hx' hE2 hprod (by omega)
      refine ⟨w8, e', r', rp', tp', t', ?_, (((((((a2.mono (fun x e => by omega)).trans (b2.mono (fun x e => by omega))).trans (c2.mono (fun x e => by omega))).trans (d2.mono (fun x e => by omega))).trans (e2.mono (fun x e => by omega))).trans (f2.mono (fun x e => by omega))).trans (g2.mono (fun x e => by omega))).trans o2, o3⟩
      rw [← o1]
      show gf_Model_rebuild_S152 F gv_z _ u 670 x = _
      unfold gf_Model_rebuild_S152 gf_Model_rebuild_b216
      rw [show gf_Model_bits F gv_z u 670 0 = some (Int32.ofNat k, u) from k2]
      simp only [gf_cl]
      rw [if_neg (show ¬ Int32.ofNat k ≤ (680 : Int32) from fun q => ck ((gi_le (b := 680) (by omega) (by omega)).mp q)), show gf_Model_divide F gv_z u 670 1 0 3 4 = some w1 from a1]
      show (gf_Model_copyWide F gv_z w1 670 2 1).bind _ = _
      rw [show gf_Model_copyWide F gv_z w1 670 2 1 = some w2 from b1]
      show (gf_Model_copyWide F gv_z w2 670 1 0).bind _ = _
      rw [show gf_Model_copyWide F gv_z w2 670 1 0 = some w3 from c1]
      show (gf_Model_copyWide F gv_z w3 670 0 2).bind _ = _
      rw [show gf_Model_copyWide F gv_z w3 670 0 2 = some w4 from d1]
      show (gf_Model_copyWide F gv_z w4 670 2 3).bind _ = _
      rw [show gf_Model_copyWide F gv_z w4 670 2 3 = some w5 from e1]
      show (gf_Model_copyWide F gv_z w5 670 3 4).bind _ = _
      rw [show gf_Model_copyWide F gv_z w5 670 3 4 = some w6 from f1]
      show (gf_Model_copyWide F gv_z w6 670 4 2).bind _ = _
      rw [show gf_Model_copyWide F gv_z w6 670 4 2 = some w7 from g1]
      show (if x = 0 then gf_Model_rebuild_L152 F gv_z f w7 670 1 else gf_Model_rebuild_L152 F gv_z f w7 670 0) = gf_Model_rebuild_L152 F gv_z f w7 670 (if x = 0 then 1 else 0)
      by_cases c : x = 0
      · rw [if_pos c, if_pos c]
      · rw [if_neg c, if_neg c]
