/-- the rows modulo p: W i c at 61 i + c, their places v i -/
def Rr (u : gw_St) (p n q : Nat) (W : Nat → Nat → Nat) (v : Nat → Nat) : Prop := q ≤ 60 ∧ n ≤ 60 ∧ u.1 670 41 = Int32.ofNat q ∧ u.1 670 18 = Int32.ofNat n ∧ (∀ i, i < q → u.1 693 i = Int32.ofNat (v i) ∧ v i < n) ∧ (∀ i, i < q → ∀ c, c < 61 → u.2.1 692 (61 * i + c) = Int64.ofNat (W i c) ∧ W i c < p) ∧ (∀ i j, i < q → j < q → W i (v j) = if i = j then 1 else 0)
theorem Rr.lf {S : Nat → Prop} {u w : gw_St} {p n q : Nat} {W : Nat → Nat → Nat} {v : Nat → Nat} (h : Rr u p n q W v) (f : Lf S u w) (hS : ¬ S 692) : Rr w p n q W v := by
  obtain ⟨a1, a2, a3, a4, a5, a6, a7⟩ := h
  refine ⟨a1, a2, by rw [f.1]; exact a3, by rw [f.1]; exact a4, fun i hi => by rw [f.1]; exact a5 i hi, fun i hi c hc => by rw [f.2.2 692 hS]; exact a6 i hi c hc, a7⟩
theorem gi61 {a k : Nat} : (61 : Int32) * Int32.ofNat a + Int32.ofNat k = Int32.ofNat (61 * a + k) := by
  rw [show (61 : Int32) = Int32.ofNat 61 from rfl, gi_mul, gi_add]
/-- a row taken from the line -/
theorem gm_red1 {F : Nat} (hF : 2000 ≤ F) {u : gw_St} {p n q i f : Nat} {W : Nat → Nat → Nat} {v : Nat → Nat} {L : Nat → Nat} {rc : gw_St → Nat → Int64 → Int32 → Option (Int32 × gw_St)} (hr : gv_Rf u) (hp : 1 < p) (hp2 : p < 2147483648) (hR : Rr u p n q W v) (hi : i < q) (hL : Ln u p L) (hf : f < p) : ∃ w, gf_Model_reduce_L33 F gv_z rc F u 670 (Int64.ofNat p) (Int32.ofNat i) (Int64.ofNat f) 0 = rc w 670 (Int64.ofNat p) (Int32.ofNat (i + 1)) ∧ Lf (fun a => a = 694) u w ∧ Ln w p (fun c => (L c + (p - f) * W i c) % p) := by
  have main := gl_up (σ := gw_St) (N := 61) (L := fun g w k => gf_Model_reduce_L33 F gv_z rc g w 670 (Int64.ofNat p) (Int32.ofNat i) (Int64.ofNat f) (Int32.ofNat k)) (I := fun k w => Lf (fun a => a = 694) u w ∧ (∀ c, c < k → w.2.1 694 c = Int64.ofNat ((L c + (p - f) * W i c) % p)) ∧ (∀ c, k ≤ c → c < 61 → w.2.1 694 c = Int64.ofNat (L c))) (R := fun r => ∃ w, r = rc w 670 (Int64.ofNat p) (Int32.ofNat (i + 1)) ∧ Lf (fun a => a = 694) u w ∧ Ln w p (fun c => (L c + (p - f) * W i c) % p))
    (fun g w k hI hk => by
      obtain ⟨b1, b2, b3⟩ := hI
      have hrw := hr.lf b1
      have hq := hR.1
      have hW := (hR.lf b1 (by omega)).2.2.2.2.2.1 i hi k hk
      have hLk := (hL k hk).2
      have hm : (p - f) * W i k ≤ 2147483647 * 2147483647 := Nat.mul_le_mul (by omega) (by omega)
      refine ⟨gw_wl w 694 k (Int64.ofNat ((L k + (p - f) * W i k) % p)), ⟨b1.trans Lf.wl, fun c hc => ?_, fun c h1 h2 => ?_⟩, ?_⟩
      · simp only [gw_wl, true_and]
        by_cases e : c = k
        · rw [if_pos e, e]
        · rw [if_neg e]; exact b2 c (by omega)
      · simp only [gw_wl, true_and]
        rw [if_neg (by omega)]
        exact b3 c (by omega) h2
      · show gf_Model_reduce_S33 F gv_z rc _ w 670 (Int64.ofNat p) (Int32.ofNat i) (Int64.ofNat f) (Int32.ofNat k) = _
        unfold gf_Model_reduce_S33
        rw [if_neg (fun e : (60 : Int32) < Int32.ofNat k => by have := (gi_lt (a := 60) (by omega) (by omega)).mp e; omega), hrw.get rfl gv_r670_42, gnn, gnn, if_neg (gi_ix (by rw [gv_l694]; omega) (by omega)), hrw.get rfl gv_r670_39, gnn, gi61, if_neg (gi_ix (by rw [gv_l692]; omega) (by omega)), if_neg (i64_ne0 (by omega) (by omega)), if_neg (gi_ix (by rw [gv_l694]; omega) (by omega)), i32_clamp (by omega), i32_clamp (by omega), b3 k (Nat.le_refl _) hk, hW.1, i64_sub (by omega) (by omega), i64_mul, i64_add, i64_rem (by omega) (by omega) (by omega)]
        simp only [gf_nm]
        rw [gw_iS])
    (fun g w hI => by
      obtain ⟨b1, b2, b3⟩ := hI
      refine ⟨w, ?_, b1, fun c hc => ⟨b2 c hc, Nat.mod_lt _ (by omega)⟩⟩
      show gf_Model_reduce_S33 F gv_z rc _ w 670 (Int64.ofNat p) (Int32.ofNat i) (Int64.ofNat f) (Int32.ofNat 61) = _
      unfold gf_Model_reduce_S33 gf_Model_reduce_b80
      rw [if_pos (by decide)]
      simp only [gf_nm]
      rw [gw_iS])
  exact main 61 0 u F (by omega) ⟨Lf.refl, fun c hc => absurd hc (Nat.not_lt_zero c), fun c _ hc => (hL c hc).1⟩ (by omega)
/-- the first place of the line that is not 0 -/
theorem gm_first {F : Nat} {u : gw_St} {p n : Nat} {L : Nat → Nat} (hr : gv_Rf u) (hn : n ≤ 60) (hn1 : u.1 670 18 = Int32.ofNat n) (hp2 : p < 2147483648) (hL : Ln u p L) : ∀ (j k f : Nat), k + j = n → j < f → (∀ c, c < k → L c = 0) → (∃ a, a < n ∧ L a ≠ 0 ∧ gf_Model_reduce_L88 F gv_z f u 670 (Int32.ofNat k) = some (Int32.ofNat a, u)) ∨ ((∀ c, c < n → L c = 0) ∧ gf_Model_reduce_L88 F gv_z f u 670 (Int32.ofNat k) = some (-1, u)) := by
  intro j
  induction j with
  | zero =>
    intro k f hk hf h0
    obtain ⟨f, rfl⟩ : ∃ g, f = g + 1 := ⟨f - 1, by omega⟩
    have : k = n := by omega
    subst this
    refine Or.inr ⟨h0, ?_⟩
    show gf_Model_reduce_S88 F gv_z _ u 670 (Int32.ofNat k) = _
    unfold gf_Model_reduce_S88 gf_Model_reduce_b113 gf_Model_reduce_b126
    rw [hn1, if_pos ((gi_le (by omega) (by omega)).mpr (Nat.le_refl _)), if_pos ((gi_le (by omega) (by omega)).mpr (Nat.le_refl _))]
  | succ j ih =>
    intro k f hk hf h0
    obtain ⟨f, rfl⟩ : ∃ g, f = g + 1 := ⟨f - 1, by omega⟩
    have hst : gf_Model_reduce_L88 F gv_z (f + 1) u 670 (Int32.ofNat k) = if L k = 0 then gf_Model_reduce_L88 F gv_z f u 670 (Int32.ofNat (k + 1)) else some (Int32.ofNat k, u) := by
      have hLk := hL k (by omega)
      show gf_Model_reduce_S88 F gv_z _ u 670 (Int32.ofNat k) = _
      unfold gf_Model_reduce_S88 gf_Model_reduce_b113 gf_Model_reduce_b126
      rw [hn1, if_neg (fun e => by have := (gi_le (by omega) (by omega)).mp e; omega), if_neg (fun e => by have := (gi_le (by omega) (by omega)).mp e; omega), hr.get rfl gv_r670_42, gnn, if_neg (gi_ix (by rw [gv_l694]; omega) (by omega)), i32_clamp (by omega), hLk.1]
      have e0 : (0 : Int64).toInt = 0 := rfl
      have eL : (Int64.ofNat (L k)).toInt = (L k : Int) := i64_nat (by omega)
      by_cases c : L k = 0
      · rw [if_pos c, if_pos (lgc_zero.mpr (by rw [eL, e0]; omega))]
        simp only [gf_nm]
        rw [gw_iS]
      · rw [if_neg c, if_neg (fun q => by have := lgc_zero.mp q; rw [eL, e0] at this; omega)]
    rw [hst]
    by_cases c : L k = 0
    · rw [if_pos c]
      exact ih (k + 1) f (by omega) (by omega) (fun d hd => by
        by_cases e : d = k
        · rw [e]; exact c
        · exact h0 d (by omega))
    · rw [if_neg c]
      exact Or.inl ⟨k, by omega, c, rfl⟩
/-- the line less what the rows know of it -/
theorem gm_reduce {F : Nat} (hF : 2000 ≤ F) {u : gw_St} {p n q : Nat} {W : Nat → Nat → Nat} {v : Nat → Nat} {L : Nat → Nat} (hr : gv_Rf u) (hp : 1 < p) (hp2 : p < 2147483648) (hR : Rr u p n q W v) (hL : Ln u p L) : ∃ w L', Lf (fun a => a = 694) u w ∧ Ln w p L' ∧ (∀ c, c < 61 → cg p (L' c) ((L c : Int) - sm (fun i => (L (v i) : Int) * (W i c : Int)) q)) ∧ (∀ i, i < q → L' (v i) = 0) ∧ ((∃ a, a < n ∧ L' a ≠ 0 ∧ gf_Model_reduce F gv_z u 670 (Int64.ofNat p) = some (Int32.ofNat a, w)) ∨ ((∀ c, c < n → L' c = 0) ∧ gf_Model_reduce F gv_z u 670 (Int64.ofNat p) = some (-1, w))) := by
  obtain ⟨r1, r2, r3, r4, r5, r6, r7⟩ := id hR
  have run : ∀ (j i f : Nat) (w : gw_St) (Lw : Nat → Nat), i + j = q → j < f → Lf (fun a => a = 694) u w → Ln w p Lw → (∀ c, c < 61 → cg p (Lw c) ((L c : Int) - sm (fun i => (L (v i) : Int) * (W i c : Int)) i)) → ∃ w' L', Lf (fun a => a = 694) u w' ∧ Ln w' p L' ∧ (∀ c, c < 61 → cg p (L' c) ((L c : Int) - sm (fun i => (L (v i) : Int) * (W i c : Int)) q)) ∧ gf_Model_reduce_L2 F gv_z f w 670 (Int64.ofNat p) (Int32.ofNat i) = gf_Model_reduce_L88 F gv_z F w' 670 (Int32.ofNat 0) := by
    intro j
    induction j with
    | zero =>
      intro i f w Lw hi hf hw hLw hc
      obtain ⟨f, rfl⟩ : ∃ g, f = g + 1 := ⟨f - 1, by omega⟩
      have : i = q := by omega
      subst this
      refine ⟨w, Lw, hw, hLw, hc, ?_⟩
      show gf_Model_reduce_S2 F gv_z _ w 670 (Int64.ofNat p) (Int32.ofNat i) = _
      unfold gf_Model_reduce_S2
      rw [show w.1 670 41 = Int32.ofNat i from by rw [hw.1]; exact r3, if_pos ((gi_le (by omega) (by omega)).mpr (Nat.le_refl _))]
      rfl
    | succ j ih =>
      intro i f w Lw hi hf hw hLw hc
      obtain ⟨f, rfl⟩ : ∃ g, f = g + 1 := ⟨f - 1, by omega⟩
      have hiq : i < q := by omega
      have hrw := hr.lf hw
      have hvi := r5 i hiq
      have hLv := hLw (v i) (by omega)
      have hst : gf_Model_reduce_L2 F gv_z (f + 1) w 670 (Int64.ofNat p) (Int32.ofNat i) = if Lw (v i) = 0 then gf_Model_reduce_L2 F gv_z f w 670 (Int64.ofNat p) (Int32.ofNat (i + 1)) else gf_Model_reduce_L33 F gv_z (gf_Model_reduce_L2 F gv_z f) F w 670 (Int64.ofNat p) (Int32.ofNat i) (Int64.ofNat (Lw (v i))) 0 := by
        show gf_Model_reduce_S2 F gv_z _ w 670 (Int64.ofNat p) (Int32.ofNat i) = _
        unfold gf_Model_reduce_S2 gf_Model_reduce_b80
        rw [show w.1 670 41 = Int32.ofNat q from by rw [hw.1]; exact r3, if_neg (fun e => by have := (gi_le (by omega) (by omega)).mp e; omega), hrw.get rfl gv_r670_42, gnn, hrw.get rfl gv_r670_40, gnn, if_neg (gi_ix (by rw [gv_l693]; omega) (by omega)), i32_clamp (by omega), show w.1 693 i = Int32.ofNat (v i) from by rw [hw.1]; exact hvi.1, if_neg (gi_ix (by rw [gv_l694]; omega) (by omega)), i32_clamp (by omega), hLv.1]
        simp only [gf_nm]
        have e0 : (0 : Int64).toInt = 0 := rfl
        have eL : (Int64.ofNat (Lw (v i))).toInt = (Lw (v i) : Int) := i64_nat (by omega)
        by_cases c : Lw (v i) = 0
        · rw [if_pos c, if_pos (lgc_zero.mpr (by rw [eL, e0]; omega)), gw_iS]
        · rw [if_neg c, if_neg (fun q => by have := lgc_zero.mp q; rw [eL, e0] at this; omega)]
      -- what stands at the row's place now stood there at the start
      have hsame : cg p (Lw (v i)) (L (v i)) := by
        have h1 := hc (v i) (by omega)
        have h2 : sm (fun j => (L (v j) : Int) * (W j (v i) : Int)) i = 0 := sm_zero (fun j hj => by
          rw [r7 j i (by omega) hiq, if_neg (by omega)]
          simp)
        rw [h2, Int.sub_zero] at h1
        exact h1
      rw [hst]
      by_cases c0 : Lw (v i) = 0
      · rw [if_pos c0]
        refine ih (i + 1) f w Lw (by omega) (by omega) hw hLw (fun c hc61 => ?_)
        rw [c0] at hsame
        have h1 := hc c hc61
        have h2 : cg p (sm (fun i => (L (v i) : Int) * (W i c : Int)) (i + 1)) (sm (fun i => (L (v i) : Int) * (W i c : Int)) i) := by
          show cg p (sm (fun i => (L (v i) : Int) * (W i c : Int)) i + (L (v i) : Int) * (W i c : Int)) _
          have h3 := (cg.refl (p := (p : Int)) (sm (fun i => (L (v i) : Int) * (W i c : Int)) i)).add (hsame.symm.mul' (W i c : Int))
          have e : ((0 : Nat) : Int) * (W i c : Int) = 0 := by simp
          rw [e, Int.add_zero] at h3
          exact h3
        exact h1.trans ((cg.refl _).sub h2.symm)
      · rw [if_neg c0]
        obtain ⟨w', d1, d2, d3⟩ := gm_red1 (F := F) hF (u := w) (rc := gf_Model_reduce_L2 F gv_z f) hrw hp hp2 (hR.lf hw (by omega)) hiq hLw hLv.2
        rw [d1]
        refine ih (i + 1) f w' _ (by omega) (by omega) (hw.trans d2) d3 (fun c hc61 => ?_)
        have h1 := hc c hc61
        have hfl : Lw (v i) ≤ p := by omega
        have e : (((Lw c + (p - Lw (v i)) * W i c) % p : Nat) : Int) = ((Lw c : Int) + ((p : Int) - (Lw (v i) : Int)) * (W i c : Int)) % (p : Int) := by
          rw [Int.natCast_emod, Int.natCast_add, Int.natCast_mul, Int.natCast_sub hfl]
        rw [e]
        refine cg.mod.trans ?_
        show cg p _ ((L c : Int) - (sm (fun i => (L (v i) : Int) * (W i c : Int)) i + (L (v i) : Int) * (W i c : Int)))
        have h2 : cg p (((p : Int) - (Lw (v i) : Int)) * (W i c : Int)) (-((L (v i) : Int) * (W i c : Int))) := by
          rw [← Int.neg_mul]
          refine cg.mul' _ ?_
          obtain ⟨t, ht⟩ := hsame
          exact ⟨1 - t, by rw [Int.mul_sub, Int.mul_one, ← ht]; omega⟩
        have h3 := h1.add h2
        rw [show (L c : Int) - sm (fun i => (L (v i) : Int) * (W i c : Int)) i + -((L (v i) : Int) * (W i c : Int)) = (L c : Int) - (sm (fun i => (L (v i) : Int) * (W i c : Int)) i + (L (v i) : Int) * (W i c : Int)) by omega] at h3
        exact h3
  obtain ⟨w, L', a1, a2, a3, a4⟩ := run q 0 F u L (by omega) (by omega) Lf.refl hL (fun c _ => by
    show cg p (L c) ((L c : Int) - 0)
    rw [Int.sub_zero]
    exact cg.refl _)
  have hz : ∀ i, i < q → L' (v i) = 0 := by
    intro i hi
    have hvi := r5 i hi
    have h1 := a3 (v i) (by omega)
    have h2 : sm (fun j => (L (v j) : Int) * (W j (v i) : Int)) q = L (v i) := by
      rw [sm_one hi (fun j hj hne => by rw [r7 j i hj hi, if_neg hne]; simp), r7 i i hi hi, if_pos rfl]
      simp
    rw [h2, Int.sub_self] at h1
    have h3 := h1.zero
    have h4 := (a2 (v i) (by omega)).2
    have h5 : p ∣ L' (v i) := Int.natAbs_dvd_natAbs.mpr h3
    exact Nat.eq_zero_of_dvd_of_lt h5 h4
  refine ⟨w, L', a1, a2, a3, hz, ?_⟩
  have hred : gf_Model_reduce F gv_z u 670 (Int64.ofNat p) = gf_Model_reduce_L88 F gv_z F w 670 (Int32.ofNat 0) := a4
  rw [hred]
  exact gm_first (hr.lf a1) r2 (by rw [a1.1]; exact r4) hp2 a2 n 0 F (by omega) (by omega) (fun c hc => absurd hc (Nat.not_lt_zero c))
