/-- what the first U primes have told -/
def Fq (w : gw_St) (n : Nat) (R : Nat → Nat → Int) (m full U : Nat) : Prop := (∀ T, T < U → (w.1 697 T = 1 ∨ w.1 697 T = 0) ∧ ∃ q, rkp (prP T) R m n q ∧ (w.1 697 T = 1 ↔ q = full)) ∧ ∀ g, g < n → (w.1 698 g = 1 ∧ ∃ T, T < U ∧ rkp (prP T) (apX R m (at1 g 1)) (m + 1) n (full + 1)) ∨ (w.1 698 g = 0 ∧ ∀ T, T < U → w.1 697 T = 1 → rkp (prP T) (apX R m (at1 g 1)) (m + 1) n full ∧ ∃ ρ, ρ < prP T ∧ w.2.1 699 (60 * T + g) = Int64.ofNat ρ ∧ ro (prP T) n R m full g ρ)
theorem cR_eq {u w : gw_St} {cr : Nat} (h7 : ∀ k, w.1 7 k = u.1 7 k) (h8 : ∀ k, w.1 8 k = u.1 8 k) : cR w cr = cR u cr := by
  funext m
  unfold cR
  rw [rv_eq h7 h8]
theorem gm_fs1 {F : Nat} (hF : 2000 ≤ F) {u : gw_St} {n r cr full : Nat} (hr : gv_Rf u) (hw : gv_Wk u n r) (hpr : gv_Pr u) (hc : u.1 670 20 = Int32.ofNat cr) (hcr : cr < n) (hfull : full < 1000) (h0 : ∀ g, g < n → u.1 698 g = 0) : ∃ w, gf_Model_findSpeeds_L48 F gv_z F u 670 (Int32.ofNat full) 0 = gf_Model_findSpeeds_L68 F gv_z F w 670 0 ∧ Gf Kv Kw u w ∧ Fq w n (cR u cr) (r + 1) full 70 := by
  have hn := hw.1
  have main := gl_up (σ := gw_St) (N := 70) (L := fun f w k => gf_Model_findSpeeds_L48 F gv_z f w 670 (Int32.ofNat full) (Int32.ofNat k)) (I := fun U w => Gf Kv Kw u w ∧ Fq w n (cR u cr) (r + 1) full U) (R := fun x => ∃ w, x = gf_Model_findSpeeds_L68 F gv_z F w 670 0 ∧ Gf Kv Kw u w ∧ Fq w n (cR u cr) (r + 1) full 70)
    (fun f w U hI hU => by
      obtain ⟨b1, b2, b3⟩ := hI
      have hrw := hr.gf b1
      have hww := hw.gf b1 Kw_wk
      have hR : cR w cr = cR u cr := cR_eq (fun k => b1.2.2 7 k (by unfold Kw Kt; omega)) (fun k => b1.2.2 8 k (by unfold Kw Kt; omega))
      obtain ⟨w1, q, e1, g1, i1, j1, k1, d⟩ := gm_speedsWith (F := F) hF (T := U) hrw hww (hpr.gf b1 (fun k => by unfold Kw Kt; omega)) (by rw [b1.2.2 670 20 (by unfold Kw Kt; omega)]; exact hc) hcr hU hfull
      rw [hR] at k1 d
      refine ⟨w1, ⟨b1.trans g1, fun T hT => ?_, fun g hg => ?_⟩, ?_⟩
      · by_cases e : T = U
        · subst e
          rcases d with ⟨d1, d2, -⟩ | ⟨d1, d2, -⟩
          · exact ⟨Or.inl d2, q, k1, fun _ => d1, fun _ => d2⟩
          · exact ⟨Or.inr d2, q, k1, fun h => (by rw [d2] at h; exact absurd h (by decide)), fun h => absurd h d1⟩
        · rw [i1 T e]
          exact b2 T (by omega)
      · rcases d with ⟨d1, d2, d3⟩ | ⟨d1, d2, d3⟩
        · subst d1
          rcases d3 g hg with ⟨s1, s2⟩ | ⟨s1, s2, s3⟩
          · exact Or.inl ⟨s1, U, by omega, s2⟩
          · rcases b3 g hg with ⟨t1, T, t2, t3⟩ | ⟨t1, t2⟩
            · exact Or.inl ⟨by rw [s1]; exact t1, T, by omega, t3⟩
            · refine Or.inr ⟨by rw [s1]; exact t1, fun T hT hg1 => ?_⟩
              by_cases e : T = U
              · subst e
                exact ⟨s2, s3⟩
              · rw [i1 T e] at hg1
                rw [j1 (60 * T + g) (by omega)]
                exact t2 T (by omega) hg1
        · rcases b3 g hg with ⟨t1, T, t2, t3⟩ | ⟨t1, t2⟩
          · exact Or.inl ⟨by rw [d3]; exact t1, T, by omega, t3⟩
          · refine Or.inr ⟨by rw [d3]; exact t1, fun T hT hg1 => ?_⟩
            by_cases e : T = U
            · subst e
              rw [d2] at hg1
              exact absurd hg1 (by decide)
            · rw [i1 T e] at hg1
              rw [j1 (60 * T + g) (by omega)]
              exact t2 T (by omega) hg1
      · show gf_Model_findSpeeds_S48 F gv_z _ w 670 (Int32.ofNat full) (Int32.ofNat U) = _
        unfold gf_Model_findSpeeds_S48
        rw [if_neg (show ¬ (70 : Int32) ≤ Int32.ofNat U from fun e => by have := (gi_le (a := 70) (by omega) (by omega)).mp e; omega), e1, Option.bind_some]
        simp only [gf_nm]
        rw [gw_iS])
    (fun f w hI => by
      obtain ⟨b1, b2⟩ := hI
      refine ⟨w, ?_, b1, b2⟩
      show gf_Model_findSpeeds_S48 F gv_z _ w 670 (Int32.ofNat full) (Int32.ofNat 70) = _
      unfold gf_Model_findSpeeds_S48
      rw [if_pos (show (70 : Int32) ≤ Int32.ofNat 70 by decide)])
  exact main 70 0 u F (by omega) ⟨Gf.refl, fun T hT => absurd hT (Nat.not_lt_zero T), fun g hg => Or.inr ⟨h0 g hg, fun T hT => absurd hT (Nat.not_lt_zero T)⟩⟩ (by omega)
theorem gm_fs0 {F : Nat} (hF : 2000 ≤ F) {u : gw_St} {n r : Nat} {x : Int32} (hr : gv_Rf u) (hw : gv_Wk u n r) : ∃ w, gf_Model_findSpeeds_L25 F gv_z F u 670 x 0 = gf_Model_findSpeeds_L48 F gv_z F w 670 x 0 ∧ Gf Kv Kw u w ∧ ∀ g, g < n → w.1 698 g = 0 := by
  have hn := hw.1
  have main := gl_up (σ := gw_St) (N := n) (L := fun f w k => gf_Model_findSpeeds_L25 F gv_z f w 670 x (Int32.ofNat k)) (I := fun j w => Gf Kv Kw u w ∧ ∀ g, g < j → w.1 698 g = 0) (R := fun y => ∃ w, y = gf_Model_findSpeeds_L48 F gv_z F w 670 x 0 ∧ Gf Kv Kw u w ∧ ∀ g, g < n → w.1 698 g = 0)
    (fun f w j hI hj => by
      obtain ⟨b1, b2⟩ := hI
      have hrw := hr.gf b1
      have hww := hw.gf b1 Kw_wk
      refine ⟨gw_wi w 698 j 0, ⟨b1.trans (Gf.wi (Or.inr (Or.inr rfl))), fun g hg => ?_⟩, ?_⟩
      · by_cases e : g = j
        · subst e; exact wi_same
        · rw [wi_ne (by omega)]; exact b2 g (by omega)
      · show gf_Model_findSpeeds_S25 F gv_z _ w 670 x (Int32.ofNat j) = _
        unfold gf_Model_findSpeeds_S25
        rw [hww.2.2.2.1, if_neg (fun e => by have := (gi_le (by omega) (by omega)).mp e; omega), hrw.get rfl gv_r670_46, gnn, if_neg (gi_ix (by rw [gv_l698]; omega) (by omega)), i32_clamp (by omega)]
        simp only [gf_nm]
        rw [gw_iS]
        rfl)
    (fun f w hI => by
      obtain ⟨b1, b2⟩ := hI
      have hww := hw.gf b1 Kw_wk
      refine ⟨w, ?_, b1, b2⟩
      show gf_Model_findSpeeds_S25 F gv_z _ w 670 x (Int32.ofNat n) = _
      unfold gf_Model_findSpeeds_S25
      rw [hww.2.2.2.1, if_pos ((gi_le (by omega) (by omega)).mpr (Nat.le_refl _))])
  exact main n 0 u F (by omega) ⟨Gf.refl, fun g hg => absurd hg (Nat.not_lt_zero g)⟩ (by omega)
