/-- the crank's line, then the relations -/
def cR (u : gw_St) (cr m : Nat) : Nat → Int := if m = 0 then fun c => (cL cr c : Int) else rv u (m - 1)
theorem rr0 {u : gw_St} {p n : Nat} (hn : n ≤ 60) (h1 : u.1 670 41 = Int32.ofNat 0) (h2 : u.1 670 18 = Int32.ofNat n) : Rr u p n 0 (fun _ _ => 0) (fun _ => 0) := ⟨by omega, hn, h1, h2, fun i hi => absurd hi (Nat.not_lt_zero i), fun i hi => absurd hi (Nat.not_lt_zero i), fun i j hi => absurd hi (Nat.not_lt_zero i)⟩
/-- the crank's line kept as the first row -/
theorem gm_sw0 {F : Nat} (hF : 2000 ≤ F) {u : gw_St} {p n r cr : Nat} (hr : gv_Rf u) (hw : gv_Wk u n r) (hc : u.1 670 20 = Int32.ofNat cr) (hcr : cr < n) (hp : Pm p) (hp2 : p < 2147483648) : ∃ w1 w2 W v, gf_Model_crankLine F gv_z (gw_wi u 670 41 0) 670 = some w1 ∧ gf_Model_keep F gv_z w1 670 (w1.1 670 20) (Int64.ofNat p) = some w2 ∧ Gf Ks Kt u w2 ∧ Rr w2 p n 1 W v ∧ SI p n (cR u cr) 1 1 W := by
  have hn := hw.1
  have hp1 := hp.1
  have g0 : Gf Ks Kt u (gw_wi u 670 41 0) := Gf.wi (Or.inr ⟨rfl, rfl⟩)
  obtain ⟨w1, e1, f1, l1⟩ := gm_crank (F := F) (u := gw_wi u 670 41 0) (p := p) hF (hr.gf g0) (by rw [wi_ne (by omega)]; exact hc) (by omega) hp1
  have hc1 : w1.1 670 20 = Int32.ofNat cr := by rw [f1.1, wi_ne (by omega)]; exact hc
  have g1 : Gf Ks Kt u w1 := g0.trans (f1.gf (fun _ h => Or.inr h))
  have hR1 : Rr w1 p n 0 (fun _ _ => 0) (fun _ => 0) := rr0 hn (by rw [f1.1]; exact wi_same) (by rw [f1.1, wi_ne (by omega)]; exact hw.2.2.2.1)
  obtain ⟨w2, W, v, t, e2, g2, hR2, ht, hq, -⟩ := gm_keep (F := F) hF (hr.gf g1) hp hp2 hR1 l1 hcr (by unfold cL; rw [if_pos (Or.inl rfl)]; decide) (fun i hi => absurd hi (Nat.not_lt_zero i))
  refine ⟨w1, w2, W, v, e1, by rw [hc1]; exact e2, g1.trans g2, hR2, ?_⟩
  have h0 : SI p n (cR u cr) 0 0 (fun _ _ => 0) := ⟨fun i hi => absurd hi (Nat.not_lt_zero i), fun i hi => absurd hi (Nat.not_lt_zero i)⟩
  refine h0.kept (v := fun _ => 0) (L := cL cr) (L' := cL cr) hn hcr (fun c _ => ?_) (fun c _ => ?_) ht hp1 hq (fun j hj => absurd hj (Nat.not_lt_zero j))
  · unfold cR
    rw [if_pos rfl]
    exact cg.refl _
  · show cg p _ ((cL cr c : Int) - 0)
    rw [Int.sub_zero]
    exact cg.refl _
def Kw (a k : Nat) : Prop := Kt a k ∨ a = 697 ∨ a = 698
def Kv (a : Nat) : Prop := Ks a ∨ a = 699
theorem Kw_wk : ∀ a k, Kw a k → gv_T_wk a k = false := fun a k h => by
  unfold Kw Kt at h
  unfold gv_T_wk
  rcases h with (h | ⟨h, g⟩) | h | h
  · subst h; rfl
  · subst h; subst g; rfl
  · subst h; rfl
  · subst h; rfl
theorem Kt_wk : ∀ a k, Kt a k → gv_T_wk a k = false := fun a k h => Kw_wk a k (Or.inl h)
theorem gm_sw2 {F : Nat} (hF : 2000 ≤ F) {u0 u : gw_St} {p n r cr q : Nat} {full T : Int32} {W : Nat → Nat → Nat} {v : Nat → Nat} (hr : gv_Rf u) (hw : gv_Wk u n r) (h7 : ∀ k, u.1 7 k = u0.1 7 k) (h8 : ∀ k, u.1 8 k = u0.1 8 k) (hp : Pm p) (hp1 : 100000 < p) (hp2 : p < 2147483648) (hR : Rr u p n q W v) (hS : SI p n (cR u0 cr) 1 q W) : ∃ w q' W' v', gf_Model_speedsWith_L29 F gv_z F u 670 T full (Int64.ofNat p) 0 = (gf_nn (w.2.2 670 45) fun q39 => if (w.1 670 41) = full then (gf_Model_speedsWith_b88 F gv_z w 670 T (Int64.ofNat p) q39 T 1) else (gf_Model_speedsWith_b88 F gv_z w 670 T (Int64.ofNat p) q39 T 0)) ∧ Gf Ks Kt u w ∧ Rr w p n q' W' v' ∧ SI p n (cR u0 cr) (r + 1) q' W' := by
  have hn := hw.1
  have hr120 := hw.2.1
  have main := gl_up (σ := gw_St) (N := r) (L := fun f w k => gf_Model_speedsWith_L29 F gv_z f w 670 T full (Int64.ofNat p) (Int32.ofNat k)) (I := fun j w => Gf Ks Kt u w ∧ ∃ q' W' v', Rr w p n q' W' v' ∧ SI p n (cR u0 cr) (j + 1) q' W') (R := fun x => ∃ w q' W' v', x = (gf_nn (w.2.2 670 45) fun q39 => if (w.1 670 41) = full then (gf_Model_speedsWith_b88 F gv_z w 670 T (Int64.ofNat p) q39 T 1) else (gf_Model_speedsWith_b88 F gv_z w 670 T (Int64.ofNat p) q39 T 0)) ∧ Gf Ks Kt u w ∧ Rr w p n q' W' v' ∧ SI p n (cR u0 cr) (r + 1) q' W')
    (fun f w j hI hj => by
      obtain ⟨g, q', W', v', hR', hS'⟩ := hI
      have hrw := hr.gf g
      have hww := hw.gf g Kt_wk
      have hrv : rv w j = rv u0 j := rv_eq (fun k => by rw [g.2.2 7 k (by unfold Kt; omega)]; exact h7 k) (fun k => by rw [g.2.2 8 k (by unfold Kt; omega)]; exact h8 k)
      obtain ⟨w1, q1, W1, v1, e1, g1, hR1, hS1⟩ := gm_take (F := F) hF hrw hww hj hp hp1 hp2 hR' hS' (fun c _ => by unfold cR; rw [if_neg (by omega), hrv]; rfl) (fun x => gf_Model_speedsWith_b64 F gv_z (gf_Model_speedsWith_L29 F gv_z f) x 670 T full (Int64.ofNat p) (Int32.ofNat j))
      refine ⟨w1, ⟨g.trans g1, q1, W1, v1, hR1, hS1⟩, ?_⟩
      show gf_Model_speedsWith_S29 F gv_z _ w 670 T full (Int64.ofNat p) (Int32.ofNat j) = _
      unfold gf_Model_speedsWith_S29
      rw [hww.2.2.2.2.2.1, if_neg (fun e => by have := (gi_le (by omega) (by omega)).mp e; omega), e1]
      unfold gf_Model_speedsWith_b64
      simp only [gf_nm]
      rw [gw_iS])
    (fun f w hI => by
      obtain ⟨g, q', W', v', hR', hS'⟩ := hI
      have hww := hw.gf g Kt_wk
      refine ⟨w, q', W', v', ?_, g, hR', hS'⟩
      show gf_Model_speedsWith_S29 F gv_z _ w 670 T full (Int64.ofNat p) (Int32.ofNat r) = _
      unfold gf_Model_speedsWith_S29
      rw [hww.2.2.2.2.2.1, if_pos ((gi_le (by omega) (by omega)).mpr (Nat.le_refl _))])
  exact main r 0 u F (by omega) ⟨Gf.refl, q, W, v, hR, hS⟩ (by omega)
theorem gm_speedsWith {F : Nat} (hF : 2000 ≤ F) {u : gw_St} {n r cr T full : Nat} (hr : gv_Rf u) (hw : gv_Wk u n r) (hpr : gv_Pr u) (hc : u.1 670 20 = Int32.ofNat cr) (hcr : cr < n) (hT : T < 70) (hfull : full < 1000) : ∃ w q, gf_Model_speedsWith F gv_z u 670 (Int32.ofNat T) (Int32.ofNat full) = some w ∧ Gf Kv Kw u w ∧ (∀ i, i ≠ T → w.1 697 i = u.1 697 i) ∧ (∀ i, i < 60 * T ∨ 60 * T + 60 ≤ i → w.2.1 699 i = u.2.1 699 i) ∧ rkp (prP T) (cR u cr) (r + 1) n q ∧ ((q = full ∧ w.1 697 T = 1 ∧ ∀ g, g < n → Sg w u (prP T) n (cR u cr) (r + 1) q T g) ∨ (q ≠ full ∧ w.1 697 T = 0 ∧ ∀ g, w.1 698 g = u.1 698 g)) := by
  obtain ⟨d1, d2, -⟩ := prP_d T hT
  have hp := prP_pm hT
  obtain ⟨w1, w2, W, v, e1, e2, g2, hR2, hS2⟩ := gm_sw0 (F := F) hF hr hw hc hcr hp d2
  obtain ⟨w3, q, W3, v3, e3, g3, hR3, hS3⟩ := gm_sw2 (F := F) hF (u0 := u) (cr := cr) (full := Int32.ofNat full) (T := Int32.ofNat T) (hr.gf g2) (hw.gf g2 Kt_wk) (fun k => g2.2.2 7 k (by unfold Kt; omega)) (fun k => g2.2.2 8 k (by unfold Kt; omega)) hp (by omega) d2 hR2 hS2
  have g23 := g2.trans g3
  have hr3 := hr.gf g23
  have g23' : Gf Kv Kw u w3 := g23.mono (fun _ h => Or.inl h) (fun _ _ h => Or.inl h)
  have hq := hR3.1
  have hrk := rk_plain hp hR3 hS3
  have hst : gf_Model_speedsWith F gv_z u 670 (Int32.ofNat T) (Int32.ofNat full) = if q = full then gf_Model_speedsWith_L102 F gv_z F (gw_wi w3 697 T 1) 670 (Int32.ofNat T) (Int64.ofNat (prP T)) 0 else some (gw_wi w3 697 T 0) := by
    show gf_Model_speedsWith_b0 F gv_z u 670 (Int32.ofNat T) (Int32.ofNat full) = _
    unfold gf_Model_speedsWith_b0
    rw [hr.get rfl gv_r670_38, gnn, if_neg (gi_ix (by rw [gv_l691]; omega) (by omega)), i32_clamp (by omega), hpr T hT, i32_64 d2]
    simp only [gf_nm]
    rw [e1, Option.bind_some, e2, Option.bind_some, e3, hr3.get rfl gv_r670_45, gnn, hR3.2.2.1]
    have hb : ∀ x : Int32, (vp_nar .boolean x) = x → gf_Model_speedsWith_b88 F gv_z w3 670 (Int32.ofNat T) (Int64.ofNat (prP T)) 697 (Int32.ofNat T) x = if x = 0 then some (gw_wi w3 697 T x) else gf_Model_speedsWith_L102 F gv_z F (gw_wi w3 697 T x) 670 (Int32.ofNat T) (Int64.ofNat (prP T)) 0 := by
      intro x hx
      have hr4 : gv_Rf (gw_wi w3 697 T x) := hr3.gf (S := Kv) (T := Kw) (Gf.wi (Or.inr (Or.inl rfl)))
      unfold gf_Model_speedsWith_b88
      rw [if_neg (gi_ix (by rw [gv_l697]; omega) (by omega)), i32_clamp (by omega), hx]
      simp only [gf_nm]
      rw [hr4.get rfl gv_r670_45, gnn, if_neg (gi_ic (by rw [gv_l697]; omega) (by omega)), wi_same]
    by_cases c : q = full
    · rw [if_pos c, if_pos (by rw [c]), hb 1 rfl, if_neg (by decide)]
    · rw [if_neg c, if_neg (fun e => c (by have := congrArg Int32.toInt e; rw [i32_nat (by omega), i32_nat (by omega)] at this; omega)), hb 0 rfl, if_pos rfl]
  rw [hst]
  have h697 : ∀ x i, i ≠ T → (gw_wi w3 697 T x).1 697 i = u.1 697 i := fun x i hi => by
    rw [wi_ne (by omega)]
    exact g23.2.2 697 i (by unfold Kt; omega)
  have h698 : ∀ x g, (gw_wi w3 697 T x).1 698 g = u.1 698 g := fun x g => by
    rw [wi_ne (by omega)]
    exact g23.2.2 698 g (by unfold Kt; omega)
  have h699 : ∀ i, w3.2.1 699 i = u.2.1 699 i := fun i => g23.2.1 699 (by unfold Ks; omega) i
  by_cases c : q = full
  · rw [if_pos c]
    have hR4 : Rr (gw_wi w3 697 T 1) (prP T) n q W3 v3 := by
      obtain ⟨a1, a2, a3, a4, a5, a6, a7⟩ := hR3
      refine ⟨a1, a2, ?_, ?_, fun i hi => ?_, a6, a7⟩
      · rw [wi_ne (by omega)]; exact a3
      · rw [wi_ne (by omega)]; exact a4
      · rw [wi_ne (by omega)]; exact a5 i hi
    have g4 : Gf Kv Kw w3 (gw_wi w3 697 T 1) := Gf.wi (Or.inr (Or.inl rfl))
    obtain ⟨w5, e5, g5, i5, s5⟩ := gm_sw1 (F := F) hF (hr3.gf g4) hT hp d2 hR4 hS3
    refine ⟨w5, q, e5, g23'.trans (g4.trans (g5.mono (fun a h => by unfold Kv Ks; omega) (fun a k h => Or.inr (Or.inr h)))), fun i hi => ?_, fun i hi => ?_, hrk, Or.inl ⟨c, ?_, fun g hg => ?_⟩⟩
    · rw [g5.2.2 697 i (by omega)]; exact h697 1 i hi
    · rw [i5 i hi]; exact h699 i
    · rw [g5.2.2 697 T (by omega)]; exact wi_same
    · have := s5 g hg
      unfold Sg at this ⊢
      rw [h698] at this
      exact this
  · rw [if_neg c]
    exact ⟨_, q, rfl, g23'.trans (Gf.wi (Or.inr (Or.inl rfl))), h697 0, fun i _ => h699 i, hrk, Or.inr ⟨c, wi_same, h698 0⟩⟩
