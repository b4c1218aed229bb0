theorem gv_r670_45 : gv_u.2.2 670 45 = 698 := by decide +kernel
theorem gv_r670_46 : gv_u.2.2 670 46 = 699 := by decide +kernel
theorem gv_r670_47 : gv_u.2.2 670 47 = 700 := by decide +kernel
theorem gv_l697 : gv_z.2.2 697 = 70 := by decide +kernel
theorem gv_l698 : gv_z.2.2 698 = 60 := by decide +kernel
theorem gv_l699 : gv_z.2.2 699 = 4200 := by decide +kernel
theorem gi60 {a k : Nat} : (60 : Int32) * Int32.ofNat a + Int32.ofNat k = Int32.ofNat (60 * a + k) := by
  rw [show (60 : Int32) = Int32.ofNat 60 from rfl, gi_mul, gi_add]
theorem wl_same {u : gw_St} {p k : Nat} {x : Int64} : (gw_wl u p k x).2.1 p k = x := if_pos ⟨rfl, rfl⟩
theorem wl_ne {u : gw_St} {p k a j : Nat} {x : Int64} (h : ¬ (a = p ∧ j = k)) : (gw_wl u p k x).2.1 a j = u.2.1 a j := if_neg h
/-- what one good prime tells of gear g -/
def Sg (w u : gw_St) (p n : Nat) (R : Nat → Nat → Int) (m q T g : Nat) : Prop := (w.1 698 g = 1 ∧ rkp p (apX R m (at1 g 1)) (m + 1) n (q + 1)) ∨ (w.1 698 g = u.1 698 g ∧ rkp p (apX R m (at1 g 1)) (m + 1) n q ∧ ∃ ρ, ρ < p ∧ w.2.1 699 (60 * T + g) = Int64.ofNat ρ ∧ ro p n R m q g ρ)
theorem gm_sw1 {F : Nat} (hF : 2000 ≤ F) {u : gw_St} {p n m q T : Nat} {R : Nat → Nat → Int} {W : Nat → Nat → Nat} {v : Nat → Nat} (hr : gv_Rf u) (hT : T < 70) (hp : Pm p) (hp2 : p < 2147483648) (hR : Rr u p n q W v) (hS : SI p n R m q W) : ∃ w, gf_Model_speedsWith_L102 F gv_z F u 670 (Int32.ofNat T) (Int64.ofNat p) 0 = some w ∧ Gf (fun a => a = 694 ∨ a = 699) (fun a _ => a = 698) u w ∧ (∀ i, i < 60 * T ∨ 60 * T + 60 ≤ i → w.2.1 699 i = u.2.1 699 i) ∧ ∀ g, g < n → Sg w u p n R m q T g := by
  have hn := hR.2.1
  have hp1 := hp.1
  have main := gl_up (σ := gw_St) (N := n) (L := fun f w k => gf_Model_speedsWith_L102 F gv_z f w 670 (Int32.ofNat T) (Int64.ofNat p) (Int32.ofNat k)) (I := fun j w => Gf (fun a => a = 694 ∨ a = 699) (fun a _ => a = 698) u w ∧ (∀ i, i < 60 * T ∨ 60 * T + 60 ≤ i → w.2.1 699 i = u.2.1 699 i) ∧ (∀ g, g < j → Sg w u p n R m q T g) ∧ (∀ g, j ≤ g → w.1 698 g = u.1 698 g)) (R := fun x => ∃ w, x = some w ∧ Gf (fun a => a = 694 ∨ a = 699) (fun a _ => a = 698) u w ∧ (∀ i, i < 60 * T ∨ 60 * T + 60 ≤ i → w.2.1 699 i = u.2.1 699 i) ∧ ∀ g, g < n → Sg w u p n R m q T g)
    (fun f w g hI hg => by
      obtain ⟨b1, b2, b3, b4⟩ := hI
      have hrw := hr.gf b1
      have hRw : Rr w p n q W v := by
        obtain ⟨a1, a2, a3, a4, a5, a6, a7⟩ := hR
        refine ⟨a1, a2, ?_, ?_, fun i hi => ?_, fun i hi c hc => ?_, a7⟩
        · rw [b1.2.2 670 41 (by omega)]; exact a3
        · rw [b1.2.2 670 18 (by omega)]; exact a4
        · rw [b1.2.2 693 i (by omega)]; exact a5 i hi
        · rw [b1.2.1 692 (by omega)]; exact a6 i hi c hc
      obtain ⟨w1, e1, f1, z1⟩ := gm_clear (F := F) hF hrw
      have hr1 := hrw.lf f1
      have f2 : Lf (fun a => a = 694) w (gw_wl w1 694 g 1) := f1.trans Lf.wl
      have hr2 := hrw.lf f2
      have l2 : Ln (gw_wl w1 694 g 1) p (fun c => if c = g then 1 else 0) := fun c hc => by
        dsimp only
        by_cases e : c = g
        · rw [if_pos e, e]; exact ⟨wl_same, hp1⟩
        · rw [if_neg e, wl_ne (by omega)]; exact ⟨z1 c hc, by omega⟩
      obtain ⟨w3, L', f3, l3, g3, z3, d⟩ := gm_reduce (F := F) hF hr2 hp1 hp2 (hRw.lf f2 (by omega)) l2
      have f03 := f2.trans f3
      have hr3 := hrw.lf f03
      have hl60 := l3 60 (by omega)
      have hLe : ∀ c, c < n → cg p ((if c = g then 1 else 0 : Nat) : Int) (at1 g 1 c) := fun c hc => by
        unfold at1
        by_cases e : c = g
        · rw [if_pos e, if_pos e]; exact cg.refl _
        · rw [if_neg e, if_neg e]; exact cg.refl _
      -- the rest written
      have hb143 : ∀ x : gw_St, gv_Rf x → x.2.1 694 60 = Int64.ofNat (L' 60) → gf_Model_speedsWith_b143 F gv_z (gf_Model_speedsWith_L102 F gv_z f) x 670 (Int32.ofNat T) (Int64.ofNat p) (Int32.ofNat g) = gf_Model_speedsWith_L102 F gv_z f (gw_wl x 699 (60 * T + g) (Int64.ofNat ((p - L' 60) % p))) 670 (Int32.ofNat T) (Int64.ofNat p) (Int32.ofNat (g + 1)) := by
        intro x hrx hx
        unfold gf_Model_speedsWith_b143
        rw [hrx.get rfl gv_r670_47, gnn, hrx.get rfl gv_r670_42, gnn, if_neg (show ¬ ((60 : Int32) < 0 ∨ gv_z.2.2 694 ≤ Int32.toNatClampNeg 60) by rw [gv_l694]; decide), if_neg (i64_ne0 (by omega) (by omega)), gi60, if_neg (gi_ix (by rw [gv_l699]; omega) (by omega)), i32_clamp (by omega), show ((60 : Int32)).toNatClampNeg = 60 from rfl, hx, i64_sub (by omega) (by omega), i64_rem (by omega) (by omega) (by omega)]
        simp only [gf_nm]
        rw [gw_iS]
      have hst : gf_Model_speedsWith_L102 F gv_z (f + 1) w 670 (Int32.ofNat T) (Int64.ofNat p) (Int32.ofNat g) = gf_cl (gf_Model_reduce F gv_z (gw_wl w1 694 g 1) 670 (Int64.ofNat p)) fun a24 u22 => if a24 < 0 then gf_Model_speedsWith_b143 F gv_z (gf_Model_speedsWith_L102 F gv_z f) u22 670 (Int32.ofNat T) (Int64.ofNat p) (Int32.ofNat g) else gf_nn (u22.2.2 670 46) fun q26 => if (Int32.ofNat g < 0 ∨ gv_z.2.2 q26 ≤ g) then none else gf_nm (gw_wi u22 q26 g (vp_nar .boolean (1 : Int32))) fun u29 => gf_Model_speedsWith_b143 F gv_z (gf_Model_speedsWith_L102 F gv_z f) u29 670 (Int32.ofNat T) (Int64.ofNat p) (Int32.ofNat g) := by
        show gf_Model_speedsWith_S102 F gv_z _ w 670 (Int32.ofNat T) (Int64.ofNat p) (Int32.ofNat g) = _
        unfold gf_Model_speedsWith_S102
        rw [hRw.2.2.2.1, if_neg (fun e => by have := (gi_le (by omega) (by omega)).mp e; omega), e1, Option.bind_some, hr1.get rfl gv_r670_42, gnn, if_neg (gi_ix (by rw [gv_l694]; omega) (by omega)), i32_clamp (by omega)]
        rfl
      show ∃ w', _ ∧ gf_Model_speedsWith_L102 F gv_z (f + 1) w 670 (Int32.ofNat T) (Int64.ofNat p) (Int32.ofNat g) = _
      rw [hst]
      rcases d with ⟨a, ha, hLa, ea⟩ | ⟨h0, ea⟩
      · -- not determined
        let w4 := gw_wi w3 698 g 1
        have f4 : Gf (fun a => a = 694 ∨ a = 699) (fun a _ => a = 698) w3 w4 := Gf.wi rfl
        have g5 : Gf (fun a => a = 694 ∨ a = 699) (fun a k => a = 698 ∧ k = g) w (gw_wl w4 699 (60 * T + g) (Int64.ofNat ((p - L' 60) % p))) := (f03.gf (fun _ h => Or.inl h)).trans ((Gf.wi ⟨rfl, rfl⟩).trans (Gf.wl (Or.inr rfl)))
        refine ⟨gw_wl w4 699 (60 * T + g) (Int64.ofNat ((p - L' 60) % p)), ⟨b1.trans (g5.mono (fun _ h => h) (fun _ _ h => h.1)), fun i hi => ?_, fun h hh => ?_, fun h hh => ?_⟩, ?_⟩
        · rw [wl_ne (by omega)]
          show w3.2.1 699 i = _
          rw [f03.2.2 699 (by omega)]
          exact b2 i hi
        · by_cases e : h = g
          · subst e
            exact Or.inl ⟨wi_same, rk_more hp hRw hS hLe g3 ha hLa (l3 a (by omega)).2 z3⟩
          · have hw4 : (gw_wl w4 699 (60 * T + g) (Int64.ofNat ((p - L' 60) % p))).1 698 h = w.1 698 h := g5.2.2 698 h (by omega)
            have hw5 : (gw_wl w4 699 (60 * T + g) (Int64.ofNat ((p - L' 60) % p))).2.1 699 (60 * T + h) = w.2.1 699 (60 * T + h) := by
              rw [wl_ne (by omega)]
              exact f03.2.2 699 (by omega) _
            unfold Sg
            rw [hw4, hw5]
            exact b3 h (by omega)
        · rw [g5.2.2 698 h (by omega)]; exact b4 h (by omega)
        · rw [ea]
          show (if Int32.ofNat a < 0 then gf_Model_speedsWith_b143 F gv_z (gf_Model_speedsWith_L102 F gv_z f) w3 670 (Int32.ofNat T) (Int64.ofNat p) (Int32.ofNat g) else gf_nn (w3.2.2 670 46) fun q26 => if (Int32.ofNat g < 0 ∨ gv_z.2.2 q26 ≤ g) then none else gf_nm (gw_wi w3 q26 g (vp_nar .boolean (1 : Int32))) fun u29 => gf_Model_speedsWith_b143 F gv_z (gf_Model_speedsWith_L102 F gv_z f) u29 670 (Int32.ofNat T) (Int64.ofNat p) (Int32.ofNat g)) = _
          rw [if_neg (fun e => by have := i32_lt.mp e; rw [i32_nat (by omega)] at this; have h0 : (0 : Int32).toInt = 0 := rfl; omega), hr3.get rfl gv_r670_46, gnn, if_neg (gi_ic (by rw [gv_l698]; omega) (by omega))]
          exact hb143 w4 (hr3.gf f4) hl60.1
      · have g5 : Gf (fun a => a = 694 ∨ a = 699) (fun a k => a = 698 ∧ k = g) w (gw_wl w3 699 (60 * T + g) (Int64.ofNat ((p - L' 60) % p))) := (f03.gf (fun _ h => Or.inl h)).trans (Gf.wl (Or.inr rfl))
        have h698 : ∀ h, (gw_wl w3 699 (60 * T + g) (Int64.ofNat ((p - L' 60) % p))).1 698 h = w.1 698 h := fun h => by
          show w3.1 698 h = _
          rw [f03.1]
        refine ⟨gw_wl w3 699 (60 * T + g) (Int64.ofNat ((p - L' 60) % p)), ⟨b1.trans (g5.mono (fun _ h => h) (fun _ _ h => h.1)), fun i hi => ?_, fun h hh => ?_, fun h hh => ?_⟩, ?_⟩
        · rw [wl_ne (by omega), f03.2.2 699 (by omega)]
          exact b2 i hi
        · by_cases e : h = g
          · subst e
            refine Or.inr ⟨by rw [h698]; exact b4 h (Nat.le_refl _), rk_none hp hRw hS hLe g3 h0, (p - L' 60) % p, Nat.mod_lt _ (by omega), wl_same, ?_⟩
            refine ro_of hp hRw hS (a := fun i => ((if v i = h then 1 else 0 : Nat) : Int)) (fun c hc => ?_) ?_
            · have d1 := g3 c (by omega)
              rw [h0 c hc] at d1
              have d2 := d1.symm.add (cg.refl (sm (fun i => ((if v i = h then 1 else 0 : Nat) : Int) * (W i c : Int)) q))
              rw [Int.sub_add_cancel, show ((0 : Nat) : Int) + sm (fun i => ((if v i = h then 1 else 0 : Nat) : Int) * (W i c : Int)) q = sm (fun i => ((if v i = h then 1 else 0 : Nat) : Int) * (W i c : Int)) q by simp] at d2
              exact (hLe c hc).symm.trans d2
            · have d1 := g3 60 (by omega)
              rw [if_neg (by omega)] at d1
              refine (cg.emod _).trans ?_
              rw [Int.natCast_sub (by omega)]
              have d2 := d1.neg
              rw [show -(((0 : Nat) : Int) - sm (fun i => ((if v i = h then 1 else 0 : Nat) : Int) * (W i 60 : Int)) q) = sm (fun i => ((if v i = h then 1 else 0 : Nat) : Int) * (W i 60 : Int)) q by simp] at d2
              exact cg.trans ⟨1, by omega⟩ d2
          · have hw5 : (gw_wl w3 699 (60 * T + g) (Int64.ofNat ((p - L' 60) % p))).2.1 699 (60 * T + h) = w.2.1 699 (60 * T + h) := by
              rw [wl_ne (by omega)]
              exact f03.2.2 699 (by omega) _
            unfold Sg
            rw [h698, hw5]
            exact b3 h (by omega)
        · rw [h698]; exact b4 h (by omega)
        · rw [ea]
          show (if (-1 : Int32) < 0 then gf_Model_speedsWith_b143 F gv_z (gf_Model_speedsWith_L102 F gv_z f) w3 670 (Int32.ofNat T) (Int64.ofNat p) (Int32.ofNat g) else gf_nn (w3.2.2 670 46) fun q26 => if (Int32.ofNat g < 0 ∨ gv_z.2.2 q26 ≤ g) then none else gf_nm (gw_wi w3 q26 g (vp_nar .boolean (1 : Int32))) fun u29 => gf_Model_speedsWith_b143 F gv_z (gf_Model_speedsWith_L102 F gv_z f) u29 670 (Int32.ofNat T) (Int64.ofNat p) (Int32.ofNat g)) = _
          rw [if_pos (by decide)]
          exact hb143 w3 hr3 hl60.1)
    (fun f w hI => by
      obtain ⟨b1, b2, b3, b4⟩ := hI
      refine ⟨w, ?_, b1, b2, b3⟩
      show gf_Model_speedsWith_S102 F gv_z _ w 670 (Int32.ofNat T) (Int64.ofNat p) (Int32.ofNat n) = _
      unfold gf_Model_speedsWith_S102
      rw [b1.2.2 670 18 (by omega), hR.2.2.2.1, if_pos ((gi_le (by omega) (by omega)).mpr (Nat.le_refl _))])
  exact main n 0 u F (by omega) ⟨Gf.refl, fun _ _ => rfl, fun g hg => absurd hg (Nat.not_lt_zero g), fun _ _ => rfl⟩ (by omega)
