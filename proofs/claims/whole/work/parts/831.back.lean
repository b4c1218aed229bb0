/-- the turns and the divisor behind k dials -/
def bkT (d : Nat → Option (Int × Int)) : Nat → Nat × Nat
  | 0 => (1, 0)
  | k + 1 => match d k with
    | none => bkT d k
    | some (a, b) => if a = 0 then bkT d k else ((bkT d k).1 * (b.natAbs / Nat.gcd (bkT d k).1 b.natAbs), Nat.gcd (bkT d k).2 a.natAbs)
def bkK (d : Nat → Option (Int × Int)) : Nat → Bool
  | 0 => true
  | k + 1 => bkK d k && decide (d k ≠ some (0, 0))
/-- what the dials say, by the class's and the reference's state -/
def bkD (u : gw_St) (n B : Nat) (d : Nat → Option (Int × Int)) : Prop := ∀ k, k < 12 → (u.1 57 k = -1 ∧ d k = none) ∨ (∃ g, u.1 57 k = Int32.ofNat g ∧ g < n ∧ u.1 (B + 1) g = 1 ∧ ∃ a b, d k = some (a, b) ∧ gv_Sv u B g a b) ∨ (∃ g, u.1 57 k = Int32.ofNat g ∧ g < n ∧ u.1 (B + 1) g = 0 ∧ d k = some (0, 0))
theorem bkT_pos {u : gw_St} {n B : Nat} {d : Nat → Option (Int × Int)} (hd : bkD u n B d) : ∀ k, k ≤ 12 → bkK d k = true → 0 < (bkT d k).1 ∧ (bkT d k).1 ≤ 2 ^ (256 * k) ∧ (bkT d k).2 < 2 ^ 256 := by
  intro k
  induction k with
  | zero => intro _ _; exact ⟨show 0 < 1 by decide, show 1 ≤ 2 ^ (256 * 0) by decide, show 0 < 2 ^ 256 by decide⟩
  | succ k ih =>
    intro hk hK
    unfold bkK at hK
    rw [Bool.and_eq_true] at hK
    obtain ⟨i1, i2, i3⟩ := ih (by omega) hK.1
    have hne := of_decide_eq_true hK.2
    have mono : (2 : Nat) ^ (256 * k) ≤ 2 ^ (256 * (k + 1)) := Nat.pow_le_pow_right (by decide) (by omega)
    unfold bkT
    rcases hd k (by omega) with ⟨_, h⟩ | ⟨g, _, _, _, a, b, h, hv⟩ | ⟨g, _, _, _, h⟩
    · rw [h]
      exact ⟨i1, Nat.le_trans i2 mono, i3⟩
    · rw [h]
      dsimp only
      by_cases ca : a = 0
      · rw [if_pos ca]
        exact ⟨i1, Nat.le_trans i2 mono, i3⟩
      · rw [if_neg ca]
        have hb0 : 0 < b.natAbs := by have := hv.2.1; omega
        have hg : 0 < Nat.gcd (bkT d k).1 b.natAbs := Nat.gcd_pos_of_pos_left _ i1
        have hq : 0 < b.natAbs / Nat.gcd (bkT d k).1 b.natAbs := Nat.div_pos (Nat.le_of_dvd hb0 (Nat.gcd_dvd_right _ _)) hg
        refine ⟨Nat.mul_pos i1 hq, ?_, ?_⟩
        · have h1 : b.natAbs / Nat.gcd (bkT d k).1 b.natAbs ≤ 2 ^ 256 := Nat.le_trans (Nat.div_le_self _ _) (Nat.le_of_lt hv.2.2.2.1)
          have h2 := Nat.mul_le_mul i2 h1
          rw [← Nat.pow_add] at h2
          exact h2
        · exact Nat.lt_of_le_of_lt (Nat.gcd_le_right _ (by omega)) hv.2.2.1
    · exact absurd h hne
theorem bkT_mono {u : gw_St} {n B : Nat} {d : Nat → Option (Int × Int)} (hd : bkD u n B d) {k : Nat} (hk : k < 12) (hK : bkK d (k + 1) = true) : (bkT d k).1 ≤ (bkT d (k + 1)).1 := by
  have hK' := hK
  unfold bkK at hK'
  rw [Bool.and_eq_true] at hK'
  obtain ⟨i1, i2, i3⟩ := bkT_pos hd k (by omega) hK'.1
  have hne := of_decide_eq_true hK'.2
  show _ ≤ (bkT d (k + 1)).1
  rcases hd k (by omega) with ⟨_, h⟩ | ⟨g, _, _, _, a, b, h, hv⟩ | ⟨g, _, _, _, h⟩
  · unfold bkT
    rw [h]
    cases k <;> exact Nat.le_refl _
  · by_cases ca : a = 0
    · have e : bkT d (k + 1) = bkT d k := by
        show (match d k with | none => bkT d k | some (a, b) => if a = 0 then bkT d k else _) = _
        rw [h]
        dsimp only
        rw [if_pos ca]
      rw [e]
      exact Nat.le_refl _
    · have e : (bkT d (k + 1)).1 = (bkT d k).1 * (b.natAbs / Nat.gcd (bkT d k).1 b.natAbs) := by
        show (match d k with | none => bkT d k | some (a, b) => if a = 0 then bkT d k else ((bkT d k).1 * (b.natAbs / Nat.gcd (bkT d k).1 b.natAbs), Nat.gcd (bkT d k).2 a.natAbs)).1 = _
        rw [h]
        dsimp only
        rw [if_neg ca]
      have hb0 : 0 < b.natAbs := by have := hv.2.1; omega
      have hg : 0 < Nat.gcd (bkT d k).1 b.natAbs := Nat.gcd_pos_of_pos_left _ i1
      have hq : 0 < b.natAbs / Nat.gcd (bkT d k).1 b.natAbs := Nat.div_pos (Nat.le_of_dvd hb0 (Nat.gcd_dvd_right _ _)) hg
      rw [e]
      exact Nat.le_mul_of_pos_right _ hq
  · exact absurd h hne
/-- the reference's rounds over the dials -/
theorem gm_backL {F : Nat} (hF : 20000 ≤ F) {u w0 : gw_St} {n B : Nat} {d : Nat → Option (Int × Int)} (hd : bkD u n B d) (hn : n ≤ 60) (hr : gv_Rf w0) (i679 : ∀ k, k < 12 → w0.1 679 k = u.1 57 k) (i681 : ∀ g, g < n → w0.1 681 g = u.1 (B + 1) g) (i682 : ∀ g, w0.1 682 g = u.1 682 g) (i683 : ∀ k, w0.1 683 k = u.1 683 k) (i684 : ∀ k, w0.1 684 k = u.1 684 k) :
    ∀ (j k f : Nat) (w : gw_St) (x1 x2 : Int32), k + j = 12 → j < f → Zf (fun _ => True) w0 w → x2 = (if bkK d k then 1 else 0) → (bkK d k = true → Zw w 0 (bkT d k).1 ∧ Zw w 1 (bkT d k).2 ∧ x1 = (if (bkT d k).2 = 0 then 0 else 1)) →
    ∃ f' w' x1' x2', gf_Model_back_L23 F gv_z f w 670 x1 x2 (Int32.ofNat k) = gf_Model_back_L23 F gv_z (f' + 1) w' 670 x1' x2' (Int32.ofNat 12) ∧ Zf (fun _ => True) w0 w' ∧ x2' = (if bkK d 12 then 1 else 0) ∧ (bkK d 12 = true → Zw w' 0 (bkT d 12).1 ∧ Zw w' 1 (bkT d 12).2 ∧ x1' = (if (bkT d 12).2 = 0 then 0 else 1)) := by
  intro j
  induction j with
  | zero =>
    intro k f w x1 x2 hk hf hw hx2 hz
    have : k = 12 := by omega
    subst this
    exact ⟨f - 1, w, x1, x2, by rw [show f - 1 + 1 = f by omega], hw, hx2, hz⟩
  | succ j ih =>
    intro k f w x1 x2 hk hf hw hx2 hz
    obtain ⟨f, rfl⟩ : ∃ g, f = g + 1 := ⟨f - 1, by omega⟩
    have hk12 : k < 12 := by omega
    have rw' := hr.zf hw
    have iw : ∀ p q, w.1 p q = w0.1 p q := fun p q => by rw [hw.1]
    have st : gf_Model_back_L23 F gv_z (f + 1) w 670 x1 x2 (Int32.ofNat k) = if x2 = 0 then (gf_Model_back_b60 F gv_z (gf_Model_back_L23 F gv_z f) w 670 x1 (Int32.ofNat k) (u.1 57 k)) else (if u.1 57 k < 0 then (gf_Model_back_b56 F gv_z (gf_Model_back_L23 F gv_z f) w 670 x1 (Int32.ofNat k) (u.1 57 k)) else (if (u.1 57 k < 0 ∨ 60 ≤ (u.1 57 k).toNatClampNeg) then none else if (w.1 681 (u.1 57 k).toNatClampNeg) = 0 then (gf_Model_back_b60 F gv_z (gf_Model_back_L23 F gv_z f) w 670 x1 (Int32.ofNat k) (u.1 57 k)) else (gf_Model_back_b56 F gv_z (gf_Model_back_L23 F gv_z f) w 670 x1 (Int32.ofNat k) (u.1 57 k)))) := by
      show gf_Model_back_S23 F gv_z _ w 670 x1 x2 (Int32.ofNat k) = _
      unfold gf_Model_back_S23
      rw [if_neg (fun e : (12 : Int32) ≤ Int32.ofNat k => by have := (gi_le (a := 12) (by omega) (by omega)).mp e; omega), rw'.get rfl gv_r670_26, gnn, if_neg (gi_ix (by rw [gv_l679]; omega) (by omega)), i32_clamp (by omega), iw 679 k, i679 k hk12]
      simp only [gf_nm]
      rw [rw'.get rfl gv_r670_28, gnn, gv_l681]
    have b156 : ∀ w' (y1 y2 : Int32), gf_Model_back_b156 F gv_z (gf_Model_back_L23 F gv_z f) w' 670 y1 y2 (Int32.ofNat k) = gf_Model_back_L23 F gv_z f w' 670 y1 y2 (Int32.ofNat (k + 1)) := by
      intro w' y1 y2
      unfold gf_Model_back_b156
      simp only [gf_nm]
      rw [gw_iS]
    have b60 : ∀ y, gf_Model_back_b60 F gv_z (gf_Model_back_L23 F gv_z f) w 670 x1 (Int32.ofNat k) y = gf_Model_back_L23 F gv_z f w 670 x1 0 (Int32.ofNat (k + 1)) := by
      intro y
      unfold gf_Model_back_b60 gf_Model_back_b61
      rw [if_pos rfl, b156]
    have em : ¬ (-1 : Int32) = 0 := by decide
    by_cases cK : bkK d k = true
    · rw [if_pos cK] at hx2
      obtain ⟨z0, z1, zx⟩ := hz cK
      rw [st, hx2, if_neg (by decide)]
      rcases hd k hk12 with ⟨h57, hdk⟩ | ⟨g, h57, hg, hkn, a, b, hdk, hv⟩ | ⟨g, h57, hg, hkn, hdk⟩
      · have eT : bkT d (k + 1) = bkT d k := by
          show (match d k with | none => bkT d k | some (a, b) => _) = _
          rw [hdk]
        have eK : bkK d (k + 1) = true := by
          unfold bkK
          rw [cK, hdk]
          rfl
        rw [h57, if_pos (by decide)]
        unfold gf_Model_back_b56 gf_Model_back_b61
        rw [if_neg (by decide), if_pos (by decide), b156]
        exact ih (k + 1) f w x1 1 (by omega) (by omega) hw (by rw [if_pos eK]) (fun _ => by rw [eT]; exact ⟨z0, z1, zx⟩)
      · have hne : d k ≠ some (0, 0) := by
          rw [hdk]
          intro e
          have : b = 0 := by
            have := Option.some.inj e
            exact congrArg Prod.snd this
          have := hv.2.1
          omega
        have eK : bkK d (k + 1) = true := by
          unfold bkK
          rw [cK]
          simp [hne]
        have hs0 : ¬ w.1 681 g = 0 := by rw [iw, i681 g hg, hkn]; decide
        rw [h57, if_neg (gi_n0 (by omega)), if_neg (gi_ix (by omega) (by omega)), i32_clamp (by omega), if_neg hs0]
        unfold gf_Model_back_b56 gf_Model_back_b61
        rw [if_neg (by decide), if_neg (gi_n0 (by omega)), rw'.get rfl gv_r670_29, gnn, if_neg (gi_ix (by rw [gv_l682]; omega) (by omega)), i32_clamp (by omega), iw 682 g, i682 g]
        by_cases ca : a = 0
        · have eT : bkT d (k + 1) = bkT d k := by
            show (match d k with | none => bkT d k | some (a, b) => if a = 0 then bkT d k else _) = _
            rw [hdk]
            dsimp only
            rw [if_pos ca]
          have es : u.1 682 g = 0 := i32_ext (by rw [hv.2.2.2.2.1, ca]; rfl)
          rw [if_pos es, b156]
          exact ih (k + 1) f w x1 1 (by omega) (by omega) hw (by rw [if_pos eK]) (fun _ => by rw [eT]; exact ⟨z0, z1, zx⟩)
        · have eT : bkT d (k + 1) = ((bkT d k).1 * (b.natAbs / Nat.gcd (bkT d k).1 b.natAbs), Nat.gcd (bkT d k).2 a.natAbs) := by
            show (match d k with | none => bkT d k | some (a, b) => if a = 0 then bkT d k else ((bkT d k).1 * (b.natAbs / Nat.gcd (bkT d k).1 b.natAbs), Nat.gcd (bkT d k).2 a.natAbs)) = _
            rw [hdk]
            dsimp only
            rw [if_neg ca]
          have es : ¬ u.1 682 g = 0 := fun e => ca (by
            have := hv.2.2.2.2.1
            rw [e] at this
            exact Int.sign_eq_zero_iff_zero.mp this.symm)
          rw [if_neg es]
          obtain ⟨p1, p2, p3⟩ := bkT_pos hd k (by omega) cK
          have hb0 : 0 < b.natAbs := by have := hv.2.1; omega
          have ha' : Iw w0 683 g a.natAbs := hv.2.2.2.2.2.1.same i683
          have hb' : Iw w0 684 g b.natAbs := hv.2.2.2.2.2.2.same i684
          obtain ⟨w1, q1, q2, q3⟩ := gz_load (F := F) (by omega) (u := w) (t := 684) (a := 2) (j := g) rw' (by omega) (by omega) (by rw [gv_l684]; omega) (hb'.zf hw)
          have r1 := rw'.zf q2
          obtain ⟨w2, s1, s2, s3⟩ := gz_copy (F := F) (by omega) (u := w1) (a := 4) (b := 0) r1 (by omega) (by omega) (z0.zf q2 (by omega))
          have r2 := r1.zf s2
          obtain ⟨w3, t1, t2, t3⟩ := gz_copy (F := F) (by omega) (u := w2) (a := 5) (b := 2) r2 (by omega) (by omega) (q3.zf s2 (by omega))
          have r3 := r2.zf t2
          obtain ⟨w4, v1, v2, v3, v4⟩ := gz_gcd (F := F) hF (u := w3) (a := 4) (b := 5) (by omega) (by omega) (by omega) r3 (s3.zf t2 (by omega)) t3
          have r4 := r3.zf v2
          obtain ⟨w5, c1, c2, c3⟩ := gz_copy (F := F) (by omega) (u := w4) (a := 14) (b := 4) r4 (by omega) (by omega) v3
          have r5 := r4.zf c2
          have y2 : Zw w5 2 b.natAbs := (((q3.zf s2 (by omega)).zf t2 (by omega)).zf v2 (by omega)).zf c2 (by omega)
          obtain ⟨w6, e1, e2, e3⟩ := gz_quot (F := F) hF (u := w5) (a := 2) (by omega) r5 y2 c3 (Nat.gcd_pos_of_pos_left _ p1)
          have r6 := r5.zf e2
          have y0 : Zw w6 0 (bkT d k).1 := (((((z0.zf q2 (by omega)).zf s2 (by omega)).zf t2 (by omega)).zf v2 (by omega)).zf c2 (by omega)).zf e2 (by omega)
          have hml : (bkT d k).1 * (b.natAbs / Nat.gcd (bkT d k).1 b.natAbs) < 65536 ^ 256 := by
            have h1 : b.natAbs / Nat.gcd (bkT d k).1 b.natAbs ≤ 2 ^ 256 := Nat.le_trans (Nat.div_le_self _ _) (Nat.le_of_lt hv.2.2.2.1)
            have h2 := Nat.mul_le_mul p2 h1
            rw [← Nat.pow_add] at h2
            have h3 : (2 : Nat) ^ (256 * k + 256) < 65536 ^ 256 := by
              rw [pw16]
              exact Nat.pow_lt_pow_right (by decide) (by omega)
            exact Nat.lt_of_le_of_lt h2 h3
          obtain ⟨w7, o1, o2, o3⟩ := gz_mul (F := F) (by omega) (u := w6) (t := 3) (a := 0) (b := 2) r6 (by omega) (by omega) (by omega) (by omega) (by omega) y0 e3 hml
          have r7 := r6.zf o2
          obtain ⟨w8, l1, l2, l3⟩ := gz_copy (F := F) (by omega) (u := w7) (a := 0) (b := 3) r7 (by omega) (by omega) o3
          have r8 := r7.zf l2
          have F8 : Zf (fun _ => True) w0 w8 := (((((((hw.trans (q2.mono (fun _ _ => trivial))).trans (s2.mono (fun _ _ => trivial))).trans (t2.mono (fun _ _ => trivial))).trans (v2.mono (fun _ _ => trivial))).trans (c2.mono (fun _ _ => trivial))).trans (e2.mono (fun _ _ => trivial))).trans (o2.mono (fun _ _ => trivial))).trans (l2.mono (fun _ _ => trivial))
          obtain ⟨w9, m1, m2, m3⟩ := gz_load (F := F) (by omega) (u := w8) (t := 683) (a := 5) (j := g) r8 (by omega) (by omega) (by rw [gv_l683]; omega) (ha'.zf F8)
          have r9 := r8.zf m2
          have y1 : Zw w9 1 (bkT d k).2 := ((((((((z1.zf q2 (by omega)).zf s2 (by omega)).zf t2 (by omega)).zf v2 (by omega)).zf c2 (by omega)).zf e2 (by omega)).zf o2 (by omega)).zf l2 (by omega)).zf m2 (by omega)
          obtain ⟨w10, n1, n2, n3, n4⟩ := gz_gcd (F := F) hF (u := w9) (a := 1) (b := 5) (by omega) (by omega) (by omega) r9 y1 m3
          have hfin : gf_Model_back_L23 F gv_z f w10 670 1 1 (Int32.ofNat (k + 1)) = (gf_nn (w.2.2 670 31) fun q9 => (gf_Model_load F gv_z w 670 (2 : Int32) q9 (Int32.ofNat g)).bind fun u11 => (gf_Model_copyWide F gv_z u11 670 (4 : Int32) (0 : Int32)).bind fun u13 => (gf_Model_copyWide F gv_z u13 670 (5 : Int32) (2 : Int32)).bind fun u15 => (gf_Model_greatest F gv_z u15 670 (4 : Int32) (5 : Int32)).bind fun u17 => (gf_Model_copyWide F gv_z u17 670 (14 : Int32) (4 : Int32)).bind fun u19 => (gf_Model_quotientOf F gv_z u19 670 (2 : Int32) (14 : Int32)).bind fun u21 => (gf_Model_multiply F gv_z u21 670 (3 : Int32) (0 : Int32) (2 : Int32)).bind fun u23 => (gf_Model_copyWide F gv_z u23 670 (0 : Int32) (3 : Int32)).bind fun u25 => gf_nn (u25.2.2 670 30) fun q27 => (gf_Model_load F gv_z u25 670 (5 : Int32) q27 (Int32.ofNat g)).bind fun u29 => (gf_Model_greatest F gv_z u29 670 (1 : Int32) (5 : Int32)).bind fun u31 => gf_Model_back_b156 F gv_z (gf_Model_back_L23 F gv_z f) u31 670 1 1 (Int32.ofNat k)) := by
            rw [rw'.get rfl gv_r670_31, gnn, show gf_Model_load F gv_z w 670 2 684 (Int32.ofNat g) = some w1 from q1]
            show _ = (gf_Model_copyWide F gv_z w1 670 4 0).bind _
            rw [show gf_Model_copyWide F gv_z w1 670 4 0 = some w2 from s1]
            show _ = (gf_Model_copyWide F gv_z w2 670 5 2).bind _
            rw [show gf_Model_copyWide F gv_z w2 670 5 2 = some w3 from t1]
            show _ = (gf_Model_greatest F gv_z w3 670 4 5).bind _
            rw [show gf_Model_greatest F gv_z w3 670 4 5 = some w4 from v1]
            show _ = (gf_Model_copyWide F gv_z w4 670 14 4).bind _
            rw [show gf_Model_copyWide F gv_z w4 670 14 4 = some w5 from c1]
            show _ = (gf_Model_quotientOf F gv_z w5 670 2 14).bind _
            rw [show gf_Model_quotientOf F gv_z w5 670 2 14 = some w6 from e1]
            show _ = (gf_Model_multiply F gv_z w6 670 3 0 2).bind _
            rw [show gf_Model_multiply F gv_z w6 670 3 0 2 = some w7 from o1]
            show _ = (gf_Model_copyWide F gv_z w7 670 0 3).bind _
            rw [show gf_Model_copyWide F gv_z w7 670 0 3 = some w8 from l1]
            show _ = gf_nn (w8.2.2 670 30) _
            rw [r8.get rfl gv_r670_30, gnn, show gf_Model_load F gv_z w8 670 5 683 (Int32.ofNat g) = some w9 from m1]
            show _ = (gf_Model_greatest F gv_z w9 670 1 5).bind _
            rw [show gf_Model_greatest F gv_z w9 670 1 5 = some w10 from n1]
            exact (b156 w10 1 1).symm
          rw [← hfin]
          refine ih (k + 1) f w10 1 1 (by omega) (by omega) ((F8.trans (m2.mono (fun _ _ => trivial))).trans (n2.mono (fun _ _ => trivial))) (by rw [if_pos eK]) (fun _ => ?_)
          rw [eT]
          have hN : Nat.gcd (bkT d k).2 a.natAbs ≠ 0 := by
            have := Nat.gcd_pos_of_pos_right (bkT d k).2 (show 0 < a.natAbs by omega)
            omega
          refine ⟨(l3.zf m2 (by omega)).zf n2 (by omega), n3, ?_⟩
          dsimp only
          rw [if_neg hN]
      · have eK : bkK d (k + 1) = false := by
          unfold bkK
          rw [hdk]
          simp
        have hs0 : w.1 681 g = 0 := by rw [iw, i681 g hg, hkn]
        rw [h57, if_neg (gi_n0 (by omega)), if_neg (gi_ix (by omega) (by omega)), i32_clamp (by omega), if_pos hs0, b60]
        exact ih (k + 1) f w x1 0 (by omega) (by omega) hw (by rw [eK]; rfl) (fun q => by rw [eK] at q; exact absurd q (by decide))
    · have cK' : bkK d k = false := by
        cases h : bkK d k
        · rfl
        · exact absurd h cK
      have eK : bkK d (k + 1) = false := by
        unfold bkK
        rw [cK']
        rfl
      rw [cK'] at hx2
      have hx0 : x2 = 0 := hx2
      rw [st, hx0, if_pos rfl, b60]
      exact ih (k + 1) f w x1 0 (by omega) (by omega) hw (by rw [eK]; rfl) (fun q => by rw [eK] at q; exact absurd q (by decide))
