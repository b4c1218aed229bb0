theorem gi_ic {k N : Nat} (h : k < N) (hk : k < 2147483648) : ¬ (Int32.ofNat k < 0 ∨ N ≤ k) := by
  rintro (q | q)
  · exact gi_n0 hk q
  · omega
theorem absdif {a b c d : Int} (hb : 0 < b) (hd : 0 < d) : (a * d - c * b).natAbs = if 0 ≤ a.sign * c.sign then (if a.natAbs * d.natAbs < c.natAbs * b.natAbs then c.natAbs * b.natAbs - a.natAbs * d.natAbs else a.natAbs * d.natAbs - c.natAbs * b.natAbs) else a.natAbs * d.natAbs + c.natAbs * b.natAbs := by
  have e1 : ∀ x y : Int, 0 < y → x * y = x.sign * ((x.natAbs * y.natAbs : Nat) : Int) := by
    intro x y hy
    rw [Int.natCast_mul, ← Int.mul_assoc, Int.sign_mul_natAbs]
    congr 1
    omega
  rw [e1 a d hd, e1 c b hb]
  have z : ∀ x : Int, x = 0 → x.natAbs = 0 := fun x h => by rw [h]; rfl
  generalize hM : a.natAbs * d.natAbs = M
  generalize hN : c.natAbs * b.natAbs = N
  rcases Int.lt_trichotomy a 0 with ha | ha | ha
  · rw [Int.sign_eq_neg_one_of_neg ha]
    rcases Int.lt_trichotomy c 0 with hc | hc | hc
    · rw [Int.sign_eq_neg_one_of_neg hc, if_pos (by decide)]
      split <;> omega
    · have : N = 0 := by rw [← hN, z c hc, Nat.zero_mul]
      rw [hc, Int.sign_zero, if_pos (by decide), this]
      split <;> omega
    · rw [Int.sign_eq_one_of_pos hc, if_neg (by decide)]
      omega
  · have : M = 0 := by rw [← hM, z a ha, Nat.zero_mul]
    rw [ha, Int.sign_zero, this]
    rw [if_pos (by rw [Int.zero_mul]; omega)]
    rcases Int.lt_trichotomy c 0 with hc | hc | hc
    · rw [Int.sign_eq_neg_one_of_neg hc]
      split <;> omega
    · have : N = 0 := by rw [← hN, z c hc, Nat.zero_mul]
      rw [hc, Int.sign_zero, this]
      rfl
    · rw [Int.sign_eq_one_of_pos hc]
      split <;> omega
  · rw [Int.sign_eq_one_of_pos ha]
    rcases Int.lt_trichotomy c 0 with hc | hc | hc
    · rw [Int.sign_eq_neg_one_of_neg hc, if_neg (by decide)]
      omega
    · have : N = 0 := by rw [← hN, z c hc, Nat.zero_mul]
      rw [hc, Int.sign_zero, if_pos (by decide), this]
      split <;> omega
    · rw [Int.sign_eq_one_of_pos hc, if_pos (by decide)]
      split <;> omega
theorem gm_meet2 {F : Nat} (hF : 20000 ≤ F) {w : gw_St} {D E : Nat} (hr : gv_Rf w) (h4 : Zw w 4 D) (h6 : Zw w 6 E) (hE : 0 < E) :
    ∃ w2, gf_Model_meet_b194 F gv_z w 670 = some (if D = 0 then 0 else if 2 ^ 256 ≤ E / Nat.gcd E D ∨ 2 ^ 256 ≤ D / Nat.gcd E D then 0 else 1, w2) ∧ Mf w w2 ∧ (if D = 0 then w2.1 = w.1 else if 2 ^ 256 ≤ E / Nat.gcd E D ∨ 2 ^ 256 ≤ D / Nat.gcd E D then w2.1 670 0 = 2 ∧ (∀ p k, ¬ (p = 670 ∧ k = 0) → w2.1 p k = w.1 p k) else w2.1 670 0 = w.1 670 0 ∧ Iw w2 689 0 (E / Nat.gcd E D) ∧ Iw w2 690 0 (D / Nat.gcd E D)) := by
  obtain ⟨m, m1, m2, m3, m4, m5, m6, m7⟩ := gz_size (F := F) (by omega) hr (a := 4) (by omega) h4
  unfold gf_Model_meet_b194
  rw [show gf_Model_size F gv_z w 670 4 = some (Int32.ofNat m, w) from m2]
  simp only [gf_cl]
  by_cases cD : D = 0
  · have hm0 : m = 0 := by
      apply Nat.eq_zero_of_not_pos
      intro q
      have := m6 q
      have : 0 < 65536 ^ (m - 1) := Nat.pow_pos (by decide)
      omega
    rw [if_pos (by rw [hm0]; rfl), if_neg (by decide)]
    exact ⟨w, by rw [if_pos cD], ⟨rfl, fun _ _ _ => rfl, fun _ _ _ _ _ => rfl⟩, by rw [if_pos cD]⟩
  · have hm0 : m ≠ 0 := by
      intro q
      rw [q] at m5
      simp at m5
      exact cD m5
    rw [if_neg (fun q => hm0 ((gi_eq0 (by omega)).mp q))]
    have hg : 0 < Nat.gcd E D := Nat.gcd_pos_of_pos_left _ hE
    obtain ⟨w4, d1, d2, d3, d4⟩ := gz_lowest (F := F) hF (u := w) (a := 6) (b := 4) (by omega) (by omega) (by omega) hr h6 h4 hg
    have r4 := hr.zf d2
    rw [show gf_Model_lowest F gv_z w 670 6 4 = some w4 from d1]
    show ∃ w2, gf_cl (gf_Model_isLarge F gv_z w4 670 6) _ = some _ ∧ _
    rw [show gf_Model_isLarge F gv_z w4 670 6 = _ from gz_large (F := F) (by omega) (u := w4) (a := 6) r4 (by omega) d3]
    simp only [gf_cl]
    have fail : ∃ w2, gf_Model_meet_b228 F gv_z w4 670 = some (0, w2) ∧ Mf w w2 ∧ w2.1 670 0 = 2 ∧ (∀ p k, ¬ (p = 670 ∧ k = 0) → w2.1 p k = w.1 p k) := by
      refine ⟨gw_wi w4 670 0 2, rfl, ⟨d2.2.1, d2.2.2.1, fun p q h1 h2 h3 => ?_⟩, rfl, fun p q h => ?_⟩
      · simp only [gw_wi]
        rw [if_neg (by omega), d2.1]
      · simp only [gw_wi]
        rw [if_neg (by omega), d2.1]
    by_cases l0 : 2 ^ 256 ≤ E / Nat.gcd E D
    · rw [if_pos l0, if_neg (by decide)]
      obtain ⟨w5, e1, e2, e3⟩ := fail
      exact ⟨w5, by rw [e1, if_neg cD, if_pos (Or.inl l0)], e2, by rw [if_neg cD, if_pos (Or.inl l0)]; exact e3⟩
    · rw [if_neg l0, if_pos rfl, show gf_Model_isLarge F gv_z w4 670 4 = _ from gz_large (F := F) (by omega) (u := w4) (a := 4) r4 (by omega) d4]
      dsimp only
      by_cases l1 : 2 ^ 256 ≤ D / Nat.gcd E D
      · rw [if_pos l1, if_neg (by decide)]
        obtain ⟨w5, e1, e2, e3⟩ := fail
        exact ⟨w5, by rw [e1, if_neg cD, if_pos (Or.inr l1)], e2, by rw [if_neg cD, if_pos (Or.inr l1)]; exact e3⟩
      · rw [if_neg l1, if_pos rfl]
        obtain ⟨w5, t1, t2, t3, t4, t5⟩ := gz_tell (F := F) (by omega) (u := w4) (a := 6) (b := 4) r4 (by omega) (by omega) d3 d4 (by omega) (by omega)
        have hno : ¬ (2 ^ 256 ≤ E / Nat.gcd E D ∨ 2 ^ 256 ≤ D / Nat.gcd E D) := fun q => q.elim l0 l1
        refine ⟨w5, ?_, ⟨by rw [t2]; exact d2.2.1, fun p q h => by rw [t2]; exact d2.2.2.1 p q h, fun p q h1 h2 h3 => by rw [t3 p q h1 h2, d2.1]⟩, ?_⟩
        · rw [show gf_Model_tell F gv_z w4 670 6 4 = some w5 from t1, if_neg cD, if_neg hno]
          rfl
        · rw [if_neg cD, if_neg hno]
          refine ⟨?_, t4, t5⟩
          rw [t3 670 0 (by omega) (by omega), d2.1]
theorem gm_meet {F : Nat} (hF : 20000 ≤ F) {w : gw_St} {k l g h : Nat} {a b c d : Int} (hr : gv_Rf w) (hk : k < 12) (hl : l < 12) (hg : g < 60) (hh : h < 60) (hdk : w.1 679 k = Int32.ofNat g) (hdl : w.1 679 l = Int32.ofNat h) (hs1 : w.1 681 g ≠ 0) (hs2 : w.1 681 h ≠ 0) (hb0 : 0 < b) (hd0 : 0 < d) (hsa : (w.1 682 g).toInt = a.sign) (hsc : (w.1 682 h).toInt = c.sign) (ha : Iw w 683 g a.natAbs) (hb : Iw w 684 g b.natAbs) (hc : Iw w 683 h c.natAbs) (hd : Iw w 684 h d.natAbs) {D E : Nat} (hD : D = (a * d - c * b).natAbs) (hE : E = b.natAbs * d.natAbs) :
    ∃ w2, gf_Model_meet F gv_z w 670 (Int32.ofNat k) (Int32.ofNat l) = some (if D = 0 then 0 else if 2 ^ 256 ≤ E / Nat.gcd E D ∨ 2 ^ 256 ≤ D / Nat.gcd E D then 0 else 1, w2) ∧ Mf w w2 ∧ (if D = 0 then w2.1 670 0 = 0 ∧ (∀ p k, ¬ (p = 670 ∧ k = 0) → w2.1 p k = w.1 p k) else if 2 ^ 256 ≤ E / Nat.gcd E D ∨ 2 ^ 256 ≤ D / Nat.gcd E D then w2.1 670 0 = 2 ∧ (∀ p k, ¬ (p = 670 ∧ k = 0) → w2.1 p k = w.1 p k) else w2.1 670 0 = 0 ∧ Iw w2 689 0 (E / Nat.gcd E D) ∧ Iw w2 690 0 (D / Nat.gcd E D)) := by
  have e0 : (0 : Int32).toInt = 0 := rfl
  obtain ⟨v, hv⟩ : ∃ v, v = gw_wi w 670 0 0 := ⟨_, rfl⟩
  have rv : gv_Rf v := by rw [hv]; exact hr.eq rfl
  have vi : ∀ p q, ¬ (p = 670 ∧ q = 0) → v.1 p q = w.1 p q := fun p q h => by
    rw [hv]
    simp only [gw_wi]
    rw [if_neg h]
  have hav : Iw v 683 g a.natAbs := by rw [hv]; exact ha
  have hbv : Iw v 684 g b.natAbs := by rw [hv]; exact hb
  have hcv : Iw v 683 h c.natAbs := by rw [hv]; exact hc
  have hdv : Iw v 684 h d.natAbs := by rw [hv]; exact hd
  obtain ⟨w1, a1, a2, a3⟩ := gz_load (F := F) (by omega) (u := v) (t := 683) (a := 0) (j := g) rv (by omega) hg (by rw [gv_l683]; omega) hav
  have r1 := rv.zf a2
  obtain ⟨w2, b1, b2, b3⟩ := gz_load (F := F) (by omega) (u := w1) (t := 684) (a := 1) (j := g) r1 (by omega) hg (by rw [gv_l684]; omega) (hbv.zf a2)
  have r2 := r1.zf b2
  obtain ⟨w3, c1, c2, c3⟩ := gz_load (F := F) (by omega) (u := w2) (t := 683) (a := 2) (j := h) r2 (by omega) hh (by rw [gv_l683]; omega) ((hcv.zf a2).zf b2)
  have r3 := r2.zf c2
  obtain ⟨w4, d1, d2, d3⟩ := gz_load (F := F) (by omega) (u := w3) (t := 684) (a := 3) (j := h) r3 (by omega) hh (by rw [gv_l684]; omega) (((hdv.zf a2).zf b2).zf c2)
  have r4 := r3.zf d2
  have mb : ∀ x y : Nat, x < 2 ^ 256 → y < 2 ^ 256 → x * y < 65536 ^ 255 := fun x y hx hy => by
    have h1 : x * y ≤ 2 ^ 256 * 2 ^ 256 := Nat.mul_le_mul (Nat.le_of_lt hx) (Nat.le_of_lt hy)
    have h2 : (2 : Nat) ^ 256 * 2 ^ 256 = 65536 ^ 32 := by rw [pw16, ← Nat.pow_add]
    have h3 : (65536 : Nat) ^ 32 < 65536 ^ 255 := Nat.pow_lt_pow_right (by decide) (by omega)
    exact Nat.lt_of_le_of_lt h1 (by rw [h2]; exact h3)
  have up : (65536 : Nat) ^ 255 + 65536 ^ 255 ≤ 65536 ^ 256 := by
    rw [show (65536 : Nat) ^ 256 = 65536 ^ 255 * 65536 from Nat.pow_succ 65536 255]
    omega
  have z0 : Zw w4 0 a.natAbs := ((a3.zf b2 (by omega)).zf c2 (by omega)).zf d2 (by omega)
  have z1 : Zw w4 1 b.natAbs := (b3.zf c2 (by omega)).zf d2 (by omega)
  have z2 : Zw w4 2 c.natAbs := c3.zf d2 (by omega)
  have M1 := mb _ _ ha.lt hd.lt
  have M2 := mb _ _ hc.lt hb.lt
  have M3 := mb _ _ hb.lt hd.lt
  obtain ⟨w5, f1, f2, f3⟩ := gz_mul (F := F) (by omega) (u := w4) (t := 4) (a := 0) (b := 3) r4 (by omega) (by omega) (by omega) (by omega) (by omega) z0 d3 (by omega)
  have r5 := r4.zf f2
  obtain ⟨w6, g1, g2, g3⟩ := gz_mul (F := F) (by omega) (u := w5) (t := 5) (a := 2) (b := 1) r5 (by omega) (by omega) (by omega) (by omega) (by omega) (z2.zf f2 (by omega)) (z1.zf f2 (by omega)) (by omega)
  have r6 := r5.zf g2
  obtain ⟨w7, h1, h2, h3⟩ := gz_mul (F := F) (by omega) (u := w6) (t := 6) (a := 1) (b := 3) r6 (by omega) (by omega) (by omega) (by omega) (by omega) ((z1.zf f2 (by omega)).zf g2 (by omega)) ((d3.zf f2 (by omega)).zf g2 (by omega)) (by omega)
  have r7 := r6.zf h2
  have F7 : Zf (fun _ => True) v w7 := ((((((a2.mono (fun _ _ => trivial)).trans (b2.mono (fun _ _ => trivial))).trans (c2.mono (fun _ _ => trivial))).trans (d2.mono (fun _ _ => trivial))).trans (f2.mono (fun _ _ => trivial))).trans (g2.mono (fun _ _ => trivial))).trans (h2.mono (fun _ _ => trivial))
  have y4 : Zw w7 4 (a.natAbs * d.natAbs) := (f3.zf g2 (by omega)).zf h2 (by omega)
  have y5 : Zw w7 5 (c.natAbs * b.natAbs) := g3.zf h2 (by omega)
  have i7 : ∀ p q, ¬ (p = 670 ∧ q = 0) → w7.1 p q = w.1 p q := fun p q h => by rw [F7.1, vi p q h]
  rw [← hE] at h3
  have hE0 : 0 < E := by rw [hE]; exact Nat.mul_pos (by omega) (by omega)
  have hab := absdif (a := a) (b := b) (c := c) (d := d) hb0 hd0
  rw [← hD] at hab
  have fin : ∀ w8 : gw_St, Zf (fun _ => True) v w8 → Zw w8 4 D → Zw w8 6 E → ∃ w2, gf_Model_meet_b194 F gv_z w8 670 = some (if D = 0 then 0 else if 2 ^ 256 ≤ E / Nat.gcd E D ∨ 2 ^ 256 ≤ D / Nat.gcd E D then 0 else 1, w2) ∧ Mf w w2 ∧ (if D = 0 then w2.1 670 0 = 0 ∧ (∀ p k, ¬ (p = 670 ∧ k = 0) → w2.1 p k = w.1 p k) else if 2 ^ 256 ≤ E / Nat.gcd E D ∨ 2 ^ 256 ≤ D / Nat.gcd E D then w2.1 670 0 = 2 ∧ (∀ p k, ¬ (p = 670 ∧ k = 0) → w2.1 p k = w.1 p k) else w2.1 670 0 = 0 ∧ Iw w2 689 0 (E / Nat.gcd E D) ∧ Iw w2 690 0 (D / Nat.gcd E D)) := by
    intro w8 F8 q4 q6
    have i8 : ∀ p q, ¬ (p = 670 ∧ q = 0) → w8.1 p q = w.1 p q := fun p q h => by rw [F8.1, vi p q h]
    have t8 : w8.1 670 0 = 0 := by rw [F8.1, hv]; rfl
    obtain ⟨w9, s1, s2, s3⟩ := gm_meet2 (F := F) hF (w := w8) (D := D) (E := E) (rv.zf F8) q4 q6 hE0
    refine ⟨w9, s1, ⟨by rw [s2.1, F8.2.1, hv]; rfl, fun p q h => by rw [s2.2.1 p q h, F8.2.2.1 p q h, hv]; rfl, fun p q h1 h2 h3 => by rw [s2.2.2 p q h1 h2 h3, i8 p q h3]⟩, ?_⟩
    by_cases cD : D = 0
    · rw [if_pos cD] at s3 ⊢
      rw [s3]
      exact ⟨t8, i8⟩
    · rw [if_neg cD] at s3 ⊢
      by_cases cl : 2 ^ 256 ≤ E / Nat.gcd E D ∨ 2 ^ 256 ≤ D / Nat.gcd E D
      · rw [if_pos cl] at s3 ⊢
        exact ⟨s3.1, fun p q h => by rw [s3.2 p q h, i8 p q h]⟩
      · rw [if_neg cl] at s3 ⊢
        exact ⟨by rw [s3.1, t8], s3.2⟩
  have dial : ∀ j x, j < 12 → x < 60 → w.1 679 j = Int32.ofNat x → gf_Model_isDial F gv_z v 670 (Int32.ofNat j) = some (1, v) := by
    intro j x hj hx hjx
    rw [gs_isDial rv, if_pos ⟨by rw [i32_nat (by omega)]; omega, by rw [i32_nat (by omega)]; omega, by rw [i32_clamp (by omega), vi 679 j (by omega), hjx]; exact gi_n0 (by omega)⟩]
  have hpre : gf_Model_meet F gv_z w 670 (Int32.ofNat k) (Int32.ofNat l) = if 0 ≤ (w.1 682 g) * (w.1 682 h) then (gf_cl (gf_Model_compareWide F gv_z w7 670 (4 : Int32) (5 : Int32)) fun a89 u87 => if a89 < 0 then ((gf_Model_addWide F gv_z u87 670 (5 : Int32) (4 : Int32) (1 : Int32)).bind fun u91 => (gf_Model_copyWide F gv_z u91 670 (4 : Int32) (5 : Int32)).bind fun u93 => gf_Model_meet_b194 F gv_z u93 670) else ((gf_Model_addWide F gv_z u87 670 (4 : Int32) (5 : Int32) (1 : Int32)).bind fun u95 => gf_Model_meet_b194 F gv_z u95 670)) else ((gf_Model_addWide F gv_z w7 670 (4 : Int32) (5 : Int32) (0 : Int32)).bind fun u97 => gf_Model_meet_b194 F gv_z u97 670) := by
    show gf_Model_meet_b0 F gv_z w 670 (Int32.ofNat k) (Int32.ofNat l) = _
    unfold gf_Model_meet_b0
    simp only [gf_nm]
    rw [← hv, dial k g hk hg hdk]
    simp only [gf_cl]
    rw [if_neg (by decide), dial l h hl hh hdl]
    dsimp only
    rw [if_neg (by decide), rv.get rfl gv_r670_26, gnn, if_neg (gi_ix (by rw [gv_l679]; omega) (by omega)), gnn, if_neg (gi_ix (by rw [gv_l679]; omega) (by omega)), i32_clamp (by omega), i32_clamp (by omega), vi 679 k (by omega), vi 679 l (by omega), hdk, hdl, rv.get rfl gv_r670_28, gnn, if_neg (gi_ix (by rw [gv_l681]; omega) (by omega)), i32_clamp (by omega), if_neg (by rw [vi 681 g (by omega)]; exact hs1), gnn, if_neg (gi_ix (by rw [gv_l681]; omega) (by omega)), i32_clamp (by omega), if_neg (by rw [vi 681 h (by omega)]; exact hs2), rv.get rfl gv_r670_30, gnn, show gf_Model_load F gv_z v 670 0 683 (Int32.ofNat g) = some w1 from a1]
    show gf_nn (w1.2.2 670 31) _ = _
    rw [r1.get rfl gv_r670_31, gnn, show gf_Model_load F gv_z w1 670 1 684 (Int32.ofNat g) = some w2 from b1]
    show gf_nn (w2.2.2 670 30) _ = _
    rw [r2.get rfl gv_r670_30, gnn, show gf_Model_load F gv_z w2 670 2 683 (Int32.ofNat h) = some w3 from c1]
    show gf_nn (w3.2.2 670 31) _ = _
    rw [r3.get rfl gv_r670_31, gnn, show gf_Model_load F gv_z w3 670 3 684 (Int32.ofNat h) = some w4 from d1]
    show (gf_Model_multiply F gv_z w4 670 4 0 3).bind _ = _
    rw [show gf_Model_multiply F gv_z w4 670 4 0 3 = some w5 from f1]
    show (gf_Model_multiply F gv_z w5 670 5 2 1).bind _ = _
    rw [show gf_Model_multiply F gv_z w5 670 5 2 1 = some w6 from g1]
    show (gf_Model_multiply F gv_z w6 670 6 1 3).bind _ = _
    rw [show gf_Model_multiply F gv_z w6 670 6 1 3 = some w7 from h1]
    show gf_nn (w7.2.2 670 29) _ = _
    rw [r7.get rfl gv_r670_29, gnn, if_neg (gi_ic (by rw [gv_l682]; omega) (by omega)), gnn, if_neg (gi_ic (by rw [gv_l682]; omega) (by omega)), i7 682 g (by omega), i7 682 h (by omega)]
  rw [hpre]
  have hs : ∀ x : Int, x.sign = -1 ∨ x.sign = 0 ∨ x.sign = 1 := fun x => by
    rcases Int.lt_trichotomy x 0 with q | q | q
    · exact Or.inl (Int.sign_eq_neg_one_of_neg q)
    · rw [q]; exact Or.inr (Or.inl rfl)
    · exact Or.inr (Or.inr (Int.sign_eq_one_of_pos q))
  have hpr : (w.1 682 g * w.1 682 h).toInt = a.sign * c.sign := by
    have h3 : -1 ≤ a.sign * c.sign ∧ a.sign * c.sign ≤ 1 := by
      rcases hs a with q | q | q <;> rcases hs c with q' | q' | q' <;> rw [q, q'] <;> decide
    rw [n32_mul (by rw [hsa, hsc]; omega) (by rw [hsa, hsc]; omega), hsa, hsc]
  by_cases cs : 0 ≤ w.1 682 g * w.1 682 h
  · have cs' := i32_le.mp cs
    rw [hpr, e0] at cs'
    rw [if_pos cs'] at hab
    rw [if_pos cs, show gf_Model_compareWide F gv_z w7 670 4 5 = _ from gz_compare (F := F) (by omega) (u := w7) (a := 4) (b := 5) r7 (by omega) (by omega) y4 y5]
    simp only [gf_cl]
    by_cases cc : a.natAbs * d.natAbs < c.natAbs * b.natAbs
    · rw [if_pos cc] at hab
      rw [if_pos cc, if_pos (by decide)]
      obtain ⟨w8, s1, s2, s3⟩ := gz_add (F := F) (by omega) (u := w7) (a := 5) (b := 4) (v := D) (x := 1) r7 (by omega) (by omega) (by omega) y5 y4 (Or.inr ⟨rfl, by omega⟩) (by omega)
      obtain ⟨w9, t1, t2, t3⟩ := gz_copy (F := F) (by omega) (u := w8) (a := 4) (b := 5) (r7.zf s2) (by omega) (by omega) s3
      rw [show gf_Model_addWide F gv_z w7 670 5 4 1 = some w8 from s1]
      show ∃ w2, (gf_Model_copyWide F gv_z w8 670 4 5).bind _ = some _ ∧ _
      rw [show gf_Model_copyWide F gv_z w8 670 4 5 = some w9 from t1]
      exact fin w9 ((F7.trans (s2.mono (fun _ _ => trivial))).trans (t2.mono (fun _ _ => trivial))) t3 ((h3.zf s2 (by omega)).zf t2 (by omega))
    · rw [if_neg cc] at hab
      rw [if_neg cc, if_neg (by split <;> decide)]
      obtain ⟨w8, s1, s2, s3⟩ := gz_add (F := F) (by omega) (u := w7) (a := 4) (b := 5) (v := D) (x := 1) r7 (by omega) (by omega) (by omega) y4 y5 (Or.inr ⟨rfl, by omega⟩) (by omega)
      rw [show gf_Model_addWide F gv_z w7 670 4 5 1 = some w8 from s1]
      exact fin w8 (F7.trans (s2.mono (fun _ _ => trivial))) s3 (h3.zf s2 (by omega))
  · have cs' : ¬ 0 ≤ a.sign * c.sign := fun q => cs (i32_le.mpr (by rw [hpr, e0]; exact q))
    rw [if_neg cs'] at hab
    rw [if_neg cs]
    obtain ⟨w8, s1, s2, s3⟩ := gz_add (F := F) (by omega) (u := w7) (a := 4) (b := 5) (v := D) (x := 0) r7 (by omega) (by omega) (by omega) y4 y5 (Or.inl ⟨rfl, hab⟩) (by omega)
    rw [show gf_Model_addWide F gv_z w7 670 4 5 0 = some w8 from s1]
    exact fin w8 (F7.trans (s2.mono (fun _ _ => trivial))) s3 (h3.zf s2 (by omega))
