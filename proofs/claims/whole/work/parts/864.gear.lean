theorem gv_r670_32 : gv_u.2.2 670 32 = 686 := by decide +kernel
theorem gv_r670_33 : gv_u.2.2 670 33 = 687 := by decide +kernel
theorem gv_r670_34 : gv_u.2.2 670 34 = 688 := by decide +kernel
theorem gv_r670_35 : gv_u.2.2 670 35 = 689 := by decide +kernel
theorem gv_l685 : gv_z.2.2 685 = 60 := by decide +kernel
theorem gv_l686 : gv_z.2.2 686 = 60 := by decide +kernel
theorem gv_l687 : gv_z.2.2 687 = 960 := by decide +kernel
theorem gv_l688 : gv_z.2.2 688 = 960 := by decide +kernel
theorem Iw.at {u w : gw_St} {t a v : Nat} (h : Iw u t a v) (e : ∀ k, k < 16 → w.1 t (16 * a + k) = u.1 t (16 * a + k)) : Iw w t a v := by
  refine ⟨fun k hk => by rw [e k hk]; exact h.1 k hk, ?_⟩
  rw [← h.2]
  exact bv_congr (fun k hk => by rw [e k hk])
theorem Zf.gf {S S' : Nat → Prop} {T : Nat → Nat → Prop} {u w : gw_St} (h : Zf S u w) (hs : S' 700) : Gf S' T u w := ⟨h.2.1, fun p hp k => h.2.2.1 p k (fun e => hp (by rw [e]; exact hs)), fun p k _ => by rw [h.1]⟩
def sgn (x : Int) : Int32 := if x = 0 then 0 else if 0 < x then 1 else -1
/-- the new speed of gear g stands in the reference -/
def Vl (w : gw_St) (hd : Nat → Bool) (X Y : Nat → Int) (g : Nat) : Prop := (hd g = true → w.1 685 g = 1 ∧ w.1 686 g = sgn (X g) ∧ Iw w 687 g (X g).natAbs ∧ Iw w 688 g (Y g).natAbs) ∧ (hd g = false → w.1 685 g = 0)
theorem Vl.same {u w : gw_St} {hd : Nat → Bool} {X Y : Nat → Int} {g : Nat} (h : Vl u hd X Y g) (e5 : w.1 685 g = u.1 685 g) (e6 : w.1 686 g = u.1 686 g) (e7 : ∀ k, k < 16 → w.1 687 (16 * g + k) = u.1 687 (16 * g + k)) (e8 : ∀ k, k < 16 → w.1 688 (16 * g + k) = u.1 688 (16 * g + k)) : Vl w hd X Y g := ⟨fun q => by
  obtain ⟨a1, a2, a3, a4⟩ := h.1 q
  exact ⟨e5.trans a1, e6.trans a2, a3.at e7, a4.at e8⟩, fun q => e5.trans (h.2 q)⟩
def bigS (hd : Nat → Bool) (X Y : Nat → Int) (g : Nat) : Prop := hd g = true ∧ (2 ^ 256 ≤ (X g).natAbs ∨ 2 ^ 256 ≤ (Y g).natAbs)
def Kn (a : Nat) : Prop := a = 700
def Km (a _k : Nat) : Prop := 685 ≤ a ∧ a ≤ 688
/-- one gear's speed made -/
theorem gm_fg {F : Nat} (hF : 20000 ≤ F) {u0 u : gw_St} {n r m full g : Nat} {R : Nat → Nat → Int} {hd : Nat → Bool} {X Y : Nat → Int} {rc : gw_St → Nat → Int32 → Option (Int32 × gw_St)} (hr0 : gv_Rf u0) (hw0 : gv_Wk u0 n r) (hpr : gv_Pr u0) (hFq : Fq u0 n R m full 70) (hS : Sd n R m full hd X Y) (hu : Gf Kn Km u0 u) (hg : g < n) : ∃ w, Gf Kn Km u w ∧ ((bigS hd X Y g ∧ gf_Model_findSpeeds_S68 F gv_z rc u 670 (Int32.ofNat g) = some (0, w)) ∨ (¬ bigS hd X Y g ∧ gf_Model_findSpeeds_S68 F gv_z rc u 670 (Int32.ofNat g) = rc w 670 (Int32.ofNat (g + 1)) ∧ Vl w hd X Y g ∧ ∀ h, h ≠ g → Vl u hd X Y h → Vl w hd X Y h)) := by
  have hn := hw0.1
  obtain ⟨q1, q2, q3⟩ := fq_use hFq hS
  have hr := hr0.gf hu
  have h18 : u.1 670 18 = Int32.ofNat n := by rw [hu.2.2 670 18 (by unfold Km; omega)]; exact hw0.2.2.2.1
  have h698 : u.1 698 g = u0.1 698 g := hu.2.2 698 g (by unfold Km; omega)
  cases hh : hd g with
  | false =>
    have hf := (q3 g hg).2 hh
    let w := gw_wi u 685 g 0
    have gw : Gf Kn Km u w := Gf.wi ⟨by omega, by omega⟩
    have hrw := hr.gf gw
    refine ⟨w, gw, Or.inr ⟨fun q => (by have := q.1; rw [hh] at this; exact absurd this (by decide)), ?_, ⟨fun q => (by rw [hh] at q; exact absurd q (by decide)), fun _ => wi_same⟩, fun h hne hv => hv.same (wi_ne (by omega)) (wi_ne (by omega)) (fun k _ => wi_ne (by omega)) (fun k _ => wi_ne (by omega))⟩⟩
    unfold gf_Model_findSpeeds_S68
    rw [h18, if_neg (fun e => by have := (gi_le (by omega) (by omega)).mp e; omega), hr.get rfl gv_r670_32, gnn, hr.get rfl gv_r670_46, gnn, if_neg (gi_ix (by rw [gv_l698]; omega) (by omega)), i32_clamp (by omega), h698, hf, if_neg (by decide)]
    unfold gf_Model_findSpeeds_b95 gf_Model_findSpeeds_b154
    rw [if_neg (gi_ix (by rw [gv_l685]; omega) (by omega)), i32_clamp (by omega), show vp_nar .boolean 0 = 0 from rfl]
    simp only [gf_nm]
    rw [hrw.get rfl gv_r670_32, gnn, if_neg (gi_ic (by rw [gv_l685]; omega) (by omega)), wi_same, if_pos rfl, gw_iS]
  | true =>
    obtain ⟨hf, ρ, p1, p2⟩ := (q3 g hg).1 hh
    obtain ⟨D, s, C, -, -, hSg⟩ := hS
    obtain ⟨-, s2, s3, s4, s5, s6, -⟩ := (hSg g hg).1 hh
    let w1 := gw_wi u 685 g 1
    have g1 : Gf Kn Km u w1 := Gf.wi ⟨by omega, by omega⟩
    have g01 := hu.trans g1
    have r1 := hr.gf g1
    obtain ⟨w2, e2, f2, y0, y1⟩ := gm_rebuild (F := F) hF (u := w1) (g := g) (G := gdB u0) (ρ := ρ) r1 (hpr.gf g01 (fun k => by unfold Km; omega)) (by omega) (fun T hT => by rw [g01.2.2 697 T (by unfold Km; omega)]; exact q1 T hT) (fun T hT hG => by rw [g01.2.1 699 (by unfold Kn; omega)]; exact p1 T hT hG) q2 s2 s3 s4 s5 s6 p2
    have g2 : Gf Kn Km w1 w2 := f2.gf rfl
    have r2 := r1.gf g2
    let w3 := gw_wi w2 686 g (sgn (X g))
    have g3 : Gf Kn Km w2 w3 := Gf.wi ⟨by omega, by omega⟩
    have r3 := r2.gf g3
    have z0 : Zw w3 0 (X g).natAbs := y0
    have z1 : Zw w3 1 (Y g).natAbs := y1
    have l0 := gz_large (F := F) (by omega) r3 (show 0 < 20 by omega) z0
    have l1 := gz_large (F := F) (by omega) r3 (show 1 < 20 by omega) z1
    have g13 := g1.trans (g2.trans g3)
    have hst : gf_Model_findSpeeds_S68 F gv_z rc u 670 (Int32.ofNat g) = if 2 ^ 256 ≤ (X g).natAbs then some (0, w3) else if 2 ^ 256 ≤ (Y g).natAbs then some (0, w3) else (gf_Model_store F gv_z w3 670 687 (Int32.ofNat g) 0).bind fun u29 => gf_nn (u29.2.2 670 35) fun q31 => (gf_Model_store F gv_z u29 670 q31 (Int32.ofNat g) 1).bind fun u33 => rc u33 670 (Int32.ofNat (g + 1)) := by
      unfold gf_Model_findSpeeds_S68
      rw [h18, if_neg (fun e => by have := (gi_le (by omega) (by omega)).mp e; omega), hr.get rfl gv_r670_32, gnn, hr.get rfl gv_r670_46, gnn, if_neg (gi_ix (by rw [gv_l698]; omega) (by omega)), i32_clamp (by omega), h698, hf, if_pos rfl]
      unfold gf_Model_findSpeeds_b95 gf_Model_findSpeeds_b154 gf_Model_findSpeeds_b132
      rw [if_neg (gi_ix (by rw [gv_l685]; omega) (by omega)), i32_clamp (by omega), show vp_nar .boolean 1 = 1 from rfl]
      simp only [gf_nm]
      rw [r1.get rfl gv_r670_32, gnn, if_neg (gi_ic (by rw [gv_l685]; omega) (by omega)), wi_same, if_neg (by decide), r1.get rfl gv_r670_33, gnn, e2]
      simp only [gf_cl]
      rw [if_neg (gi_ic (by rw [gv_l686]; omega) (by omega))]
      rw [show gf_Model_isLarge F gv_z (gw_wi w2 686 g (if X g = 0 then 0 else if 0 < X g then 1 else -1)) 670 0 = some (if 2 ^ 256 ≤ (X g).natAbs then 1 else 0, w3) from l0]
      simp only []
      by_cases c : 2 ^ 256 ≤ (X g).natAbs
      · rw [if_pos c, if_pos c, if_neg (by decide), if_neg (by decide)]
      · rw [if_neg c, if_neg c, if_pos rfl, show gf_Model_isLarge F gv_z w3 670 1 = some (if 2 ^ 256 ≤ (Y g).natAbs then 1 else 0, w3) from l1]
        simp only []
        by_cases d : 2 ^ 256 ≤ (Y g).natAbs
        · rw [if_pos d, if_pos d, if_neg (by decide), if_neg (by decide)]
        · rw [if_neg d, if_neg d, if_pos rfl, r3.get rfl gv_r670_34, gnn, gw_iS]
    rw [hst]
    by_cases c : 2 ^ 256 ≤ (X g).natAbs
    · exact ⟨w3, g13, Or.inl ⟨⟨hh, Or.inl c⟩, by rw [if_pos c]⟩⟩
    · by_cases d : 2 ^ 256 ≤ (Y g).natAbs
      · exact ⟨w3, g13, Or.inl ⟨⟨hh, Or.inr d⟩, by rw [if_neg c, if_pos d]⟩⟩
      · rw [if_neg c, if_neg d]
        obtain ⟨w4, a1, a2, a3, a4⟩ := gz_store (F := F) (by omega) (t := 687) (a := 0) (j := g) r3 (by omega) (by omega) (by rw [gv_l687]; omega) z0 (by omega)
        have g4 : Gf Kn Km w3 w4 := ⟨by rw [a2], fun p _ k => by rw [a2], fun p k hp => a3 p k (by unfold Km at hp; omega)⟩
        have r4 := r3.gf g4
        have z14 : Zw w4 1 (Y g).natAbs := by
          have hz : ∀ k, zi w4 1 k = zi w3 1 k := fun k => by unfold zi; rw [a2]
          exact ⟨fun k hk => by rw [hz]; exact z1.1 k hk, by rw [show zi w4 1 = zi w3 1 from funext hz]; exact z1.2⟩
        obtain ⟨w5, b1, b2, b3, b4⟩ := gz_store (F := F) (by omega) (t := 688) (a := 1) (j := g) r4 (by omega) (by omega) (by rw [gv_l688]; omega) z14 (by omega)
        have g5 : Gf Kn Km w4 w5 := ⟨by rw [b2], fun p _ k => by rw [b2], fun p k hp => b3 p k (by unfold Km at hp; omega)⟩
        have hu1 : ∀ p k, ¬ (p = 685 ∧ k = g) → ¬ (p = 686 ∧ k = g) → w3.1 p k = u.1 p k := fun p k h1 h2 => by
          rw [wi_ne h2, show w2.1 p k = w1.1 p k from by rw [f2.1], wi_ne h1]
        have h5 : ∀ p k, ¬ (p = 687 ∧ 16 * g ≤ k ∧ k < 16 * g + 16) → ¬ (p = 688 ∧ 16 * g ≤ k ∧ k < 16 * g + 16) → w5.1 p k = w3.1 p k := fun p k h1 h2 => by rw [b3 p k h2, a3 p k h1]
        refine ⟨w5, g13.trans (g4.trans g5), Or.inr ⟨fun q => by rcases q.2 with q | q; exact c q; exact d q, ?_, ⟨fun _ => ⟨?_, ?_, a4.at (fun k hk => b3 _ _ (by omega)), b4⟩, fun q => (by rw [hh] at q; exact absurd q (by decide))⟩, fun h hne hv => hv.same ?_ ?_ (fun k hk => ?_) (fun k hk => ?_)⟩⟩
        · rw [show gf_Model_store F gv_z w3 670 687 (Int32.ofNat g) 0 = some w4 from a1, Option.bind_some, r4.get rfl gv_r670_35, gnn, show gf_Model_store F gv_z w4 670 688 (Int32.ofNat g) 1 = some w5 from b1, Option.bind_some]
        · rw [h5 _ _ (by omega) (by omega), wi_ne (by omega), show w2.1 685 g = w1.1 685 g from by rw [f2.1]]
          exact wi_same
        · rw [h5 _ _ (by omega) (by omega)]; exact wi_same
        · rw [h5 _ _ (by omega) (by omega), hu1 _ _ (by omega) (by omega)]
        · rw [h5 _ _ (by omega) (by omega), hu1 _ _ (by omega) (by omega)]
        · rw [h5 _ _ (by omega) (by omega), hu1 _ _ (by omega) (by omega)]
        · rw [h5 _ _ (by omega) (by omega), hu1 _ _ (by omega) (by omega)]
