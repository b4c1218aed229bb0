theorem gm_fs2 {F : Nat} (hF : 20000 ≤ F) {u0 : gw_St} {n r m full : Nat} {R : Nat → Nat → Int} {hd : Nat → Bool} {X Y : Nat → Int} (hr0 : gv_Rf u0) (hw0 : gv_Wk u0 n r) (hpr : gv_Pr u0) (hFq : Fq u0 n R m full 70) (hS : Sd n R m full hd X Y) : ∃ w, Gf Kn Km u0 w ∧ (((∃ g, g < n ∧ bigS hd X Y g) ∧ gf_Model_findSpeeds_L68 F gv_z F u0 670 0 = some (0, w)) ∨ ((∀ g, g < n → ¬ bigS hd X Y g) ∧ gf_Model_findSpeeds_L68 F gv_z F u0 670 0 = some (1, w) ∧ ∀ g, g < n → Vl w hd X Y g)) := by
  have hn := hw0.1
  have run : ∀ (j i f : Nat) (u : gw_St), i + j = n → j < f → Gf Kn Km u0 u → (∀ g, g < i → ¬ bigS hd X Y g ∧ Vl u hd X Y g) → ∃ w, Gf Kn Km u0 w ∧ (((∃ g, g < n ∧ bigS hd X Y g) ∧ gf_Model_findSpeeds_L68 F gv_z f u 670 (Int32.ofNat i) = some (0, w)) ∨ ((∀ g, g < n → ¬ bigS hd X Y g) ∧ gf_Model_findSpeeds_L68 F gv_z f u 670 (Int32.ofNat i) = some (1, w) ∧ ∀ g, g < n → Vl w hd X Y g)) := by
    intro j
    induction j with
    | zero =>
      intro i f u hi hf hu hV
      obtain ⟨f, rfl⟩ : ∃ q, f = q + 1 := ⟨f - 1, by omega⟩
      have : i = n := by omega
      subst this
      refine ⟨u, hu, Or.inr ⟨fun g hg => (hV g hg).1, ?_, fun g hg => (hV g hg).2⟩⟩
      show gf_Model_findSpeeds_S68 F gv_z _ u 670 (Int32.ofNat i) = _
      unfold gf_Model_findSpeeds_S68
      rw [show u.1 670 18 = Int32.ofNat i from by rw [hu.2.2 670 18 (by unfold Km; omega)]; exact hw0.2.2.2.1, if_pos ((gi_le (by omega) (by omega)).mpr (Nat.le_refl _)), if_neg (by decide)]
    | succ j ih =>
      intro i f u hi hf hu hV
      obtain ⟨f, rfl⟩ : ∃ q, f = q + 1 := ⟨f - 1, by omega⟩
      obtain ⟨w, gw, d⟩ := gm_fg (F := F) hF (rc := gf_Model_findSpeeds_L68 F gv_z f) hr0 hw0 hpr hFq hS hu (show i < n by omega)
      rcases d with ⟨d1, d2⟩ | ⟨d1, d2, d3, d4⟩
      · exact ⟨w, hu.trans gw, Or.inl ⟨⟨i, by omega, d1⟩, d2⟩⟩
      · obtain ⟨w', g', h'⟩ := ih (i + 1) f w (by omega) (by omega) (hu.trans gw) (fun g hg => by
          by_cases e : g = i
          · subst e; exact ⟨d1, d3⟩
          · exact ⟨(hV g (by omega)).1, d4 g e (hV g (by omega)).2⟩)
        refine ⟨w', g', ?_⟩
        rw [show gf_Model_findSpeeds_L68 F gv_z (f + 1) u 670 (Int32.ofNat i) = gf_Model_findSpeeds_L68 F gv_z f w 670 (Int32.ofNat (i + 1)) from d2]
        exact h'
  exact run n 0 F u0 (by omega) (by omega) Gf.refl (fun g hg => absurd hg (Nat.not_lt_zero g))
def Kx (a : Nat) : Prop := Kv a ∨ a = 700
def Ky (a k : Nat) : Prop := Kw a k ∨ Km a k
theorem Km_wk : ∀ a k, Km a k → gv_T_wk a k = false := fun a k h => by
  unfold Km at h
  have : a = 685 ∨ a = 686 ∨ a = 687 ∨ a = 688 := by omega
  unfold gv_T_wk
  rcases this with h | h | h | h <;> subst h <;> rfl
theorem Ky_wk : ∀ a k, Ky a k → gv_T_wk a k = false := fun a k h => by
  rcases h with h | h
  · exact Kw_wk a k h
  · exact Km_wk a k h
theorem gm_findSpeeds {F : Nat} (hF : 20000 ≤ F) {u : gw_St} {n r cr full : Nat} {hd : Nat → Bool} {X Y : Nat → Int} (hr : gv_Rf u) (hw : gv_Wk u n r) (hpr : gv_Pr u) (hc : u.1 670 20 = Int32.ofNat cr) (hcr : cr < n) (hfull : full < 1000) (hf0 : r = 0 → full = 1) (hf1 : 0 < r → u.1 696 (r - 1) = Int32.ofNat full) (hS : Sd n (cR u cr) (r + 1) full hd X Y) : ∃ w, Gf Kx Ky u w ∧ (((∃ g, g < n ∧ bigS hd X Y g) ∧ gf_Model_findSpeeds F gv_z u 670 = some (0, w)) ∨ ((∀ g, g < n → ¬ bigS hd X Y g) ∧ gf_Model_findSpeeds F gv_z u 670 = some (1, w) ∧ ∀ g, g < n → Vl w hd X Y g)) := by
  have hr120 := hw.2.1
  have hst : gf_Model_findSpeeds F gv_z u 670 = gf_Model_findSpeeds_L25 F gv_z F u 670 (Int32.ofNat full) 0 := by
    show gf_Model_findSpeeds_b0 F gv_z u 670 = _
    unfold gf_Model_findSpeeds_b0 gf_Model_findSpeeds_b22
    rw [hw.2.2.2.2.2.1]
    by_cases c : r = 0
    · rw [if_pos (by rw [c]; rfl), hf0 c]
      rfl
    · have e1 : Int32.ofNat r - 1 = Int32.ofNat (r - 1) := by
        apply i32_ext
        have o1 : (1 : Int32).toInt = 1 := rfl
        have o2 : (Int32.ofNat r).toInt = (r : Int) := i32_nat (by omega)
        rw [n32_sub (by omega) (by omega), o1, o2, i32_nat (by omega)]
        omega
      rw [if_neg (fun e => c (by have := congrArg Int32.toInt e; rw [i32_nat (by omega)] at this; exact Int.ofNat.inj this)), hr.get rfl gv_r670_44, gnn, e1, if_neg (gi_ix (by rw [gv_l696]; omega) (by omega)), i32_clamp (by omega), hf1 (by omega)]
  obtain ⟨w1, e1, g1, z1⟩ := gm_fs0 (F := F) (by omega) (x := Int32.ofNat full) hr hw
  have hR1 : cR w1 cr = cR u cr := cR_eq (fun k => g1.2.2 7 k (by unfold Kw Kt; omega)) (fun k => g1.2.2 8 k (by unfold Kw Kt; omega))
  obtain ⟨w2, e2, g2, q2⟩ := gm_fs1 (F := F) (by omega) (hr.gf g1) (hw.gf g1 Kw_wk) (hpr.gf g1 (fun k => by unfold Kw Kt; omega)) (by rw [g1.2.2 670 20 (by unfold Kw Kt; omega)]; exact hc) hcr hfull z1
  rw [hR1] at q2
  have g12 := g1.trans g2
  obtain ⟨w3, g3, d⟩ := gm_fs2 (F := F) hF (hr.gf g12) (hw.gf g12 Kw_wk) (hpr.gf g12 (fun k => by unfold Kw Kt; omega)) q2 hS
  refine ⟨w3, (g12.mono (fun _ h => Or.inl h) (fun _ _ h => Or.inl h)).trans (g3.mono (fun _ h => Or.inr h) (fun _ _ h => Or.inr h)), ?_⟩
  rw [hst, e1, e2]
  exact d
