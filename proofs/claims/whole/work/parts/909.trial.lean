/-- isLessList -/
theorem gm_less {F : Nat} (hF : 2000 ≤ F) {u : gw_St} {S d e d' e' : Nat} (h4 : u.1 670 4 = Int32.ofNat S) (hS : S ≤ 4) (hd : d < 2147483648) (he : e < 2147483648) (hd' : d' < 2147483648) (he' : e' < 2147483648) (h16 : u.1 670 16 = Int32.ofNat d') (h17 : u.1 670 17 = Int32.ofNat e') : gf_Model_isLessList F gv_z u 670 (Int32.ofNat d) (Int32.ofNat e) = some (if il S d e S < il S d' e' S then 1 else 0, u) := by
  have run : ∀ (j s f : Nat), s + j = S → j < f → il S d e s = il S d' e' s → gf_Model_isLessList_L2 F gv_z f u 670 (Int32.ofNat d) (Int32.ofNat e) (Int32.ofNat s) = some (if il S d e S < il S d' e' S then 1 else 0, u) := by
    intro j
    induction j with
    | zero =>
      intro s f hs hf h
      obtain ⟨f, rfl⟩ : ∃ q, f = q + 1 := ⟨f - 1, by omega⟩
      have : s = S := by omega
      subst this
      show gf_Model_isLessList_S2 F gv_z _ u 670 _ _ (Int32.ofNat s) = _
      unfold gf_Model_isLessList_S2
      rw [h4, if_pos ((gi_le (by omega) (by omega)).mpr (Nat.le_refl _)), if_neg (by decide), if_neg (by omega)]
    | succ j ih =>
      intro s f hs hf h
      obtain ⟨f, rfl⟩ : ∃ q, f = q + 1 := ⟨f - 1, by omega⟩
      have hsS : s < S := by omega
      have b1 := wl_lt (n := S) (c := d) (s := s)
      have b2 := wl_lt (n := S) (c := e) (s := s)
      have b3 := wl_lt (n := S) (c := d') (s := s)
      have b4 := wl_lt (n := S) (c := e') (s := s)
      have i1 : il S d e (s + 1) = (il S d e s * 128 + wl S d s) * 128 + wl S e s := rfl
      have i2 : il S d' e' (s + 1) = (il S d' e' s * 128 + wl S d' s) * 128 + wl S e' s := rfl
      have up1 := il_lt (S := S) (d := d) (e := e) (d' := d') (e' := e') (S - (s + 1)) (s + 1)
      have up2 := il_lt (S := S) (d := d') (e := e') (d' := d) (e' := e) (S - (s + 1)) (s + 1)
      rw [show s + 1 + (S - (s + 1)) = S by omega] at up1 up2
      show gf_Model_isLessList_S2 F gv_z _ u 670 _ _ (Int32.ofNat s) = _
      unfold gf_Model_isLessList_S2 gf_Model_isLessList_b93 gf_Model_isLessList_b51
      rw [h4, if_neg (fun e => by have := (gi_le (by omega) (by omega)).mp e; omega), gm_wheel h4 hS hsS hd]
      simp only [gf_cl, gf_nm]
      rw [h16, gm_wheel h4 hS hsS hd']
      simp only []
      by_cases c : wl S d s = wl S d' s
      · rw [if_pos (by rw [c]), gm_wheel h4 hS hsS he]
        simp only []
        rw [h17, gm_wheel h4 hS hsS he']
        simp only []
        by_cases c2 : wl S e s = wl S e' s
        · rw [if_pos (by rw [c2]), gw_iS]
          exact ih (s + 1) f (by omega) (by omega) (by rw [i1, i2, h, c, c2])
        · rw [if_neg (fun q => c2 ((gi_eq (by omega) (by omega)).mp q)), gm_wheel h4 hS hsS he]
          simp only []
          rw [h17, gm_wheel h4 hS hsS he']
          simp only []
          by_cases q : wl S e' s ≤ wl S e s
          · have := up2 (by rw [i1, i2, h, c]; omega)
            rw [if_pos ((gi_le (by omega) (by omega)).mpr q), if_neg (by decide), if_neg (by omega)]
          · rw [if_neg (fun z => q ((gi_le (by omega) (by omega)).mp z)), if_neg (by decide), if_pos (up1 (by rw [i1, i2, h, c]; omega))]
      · rw [if_neg (fun q => c ((gi_eq (by omega) (by omega)).mp q)), gm_wheel h4 hS hsS hd]
        simp only []
        rw [h16, gm_wheel h4 hS hsS hd']
        simp only []
        by_cases q : wl S d' s ≤ wl S d s
        · have := up2 (by rw [i1, i2, h]; omega)
          rw [if_pos ((gi_le (by omega) (by omega)).mpr q), if_neg (by decide), if_neg (by omega)]
        · rw [if_neg (fun z => q ((gi_le (by omega) (by omega)).mp z)), if_neg (by decide), if_pos (up1 (by rw [i1, i2, h]; omega))]
  have il00 : ∀ a b : Nat, il S a b 0 = 0 := fun _ _ => rfl
  exact run S 0 F (by omega) (by omega) (by rw [il00, il00])
/-- the reference's best train so far -/
def Fnd (u : gw_St) (S lo hi nm dn : Nat) (X : Nat → Nat → Prop) : Prop := (u.2.1 670 14 = 0 ∧ ∀ d e, ¬ X d e) ∨ ∃ d e, u.2.1 670 13 = Int64.ofNat (gap S nm dn d e) ∧ u.2.1 670 14 = Int64.ofNat (pP S e * dn) ∧ u.1 670 15 = Int32.ofNat (tT S d + tT S e) ∧ u.1 670 16 = Int32.ofNat d ∧ u.1 670 17 = Int32.ofNat e ∧ isC S lo hi d ∧ isC S lo hi e ∧ Bst S nm dn X d e
theorem Fnd.mono {u : gw_St} {S lo hi nm dn : Nat} {X Y : Nat → Nat → Prop} (h : Fnd u S lo hi nm dn X) (e : ∀ d e, X d e ↔ Y d e) : Fnd u S lo hi nm dn Y := by
  have : X = Y := funext fun d => funext fun e' => propext (e d e')
  rw [← this]
  exact h
theorem Fnd.same {u w : gw_St} {S lo hi nm dn : Nat} {X : Nat → Nat → Prop} (h : Fnd u S lo hi nm dn X) (e1 : ∀ k, 13 ≤ k → k ≤ 14 → w.2.1 670 k = u.2.1 670 k) (e2 : ∀ k, 15 ≤ k → k ≤ 17 → w.1 670 k = u.1 670 k) : Fnd w S lo hi nm dn X := by
  unfold Fnd
  rw [e1 13 (by omega) (by omega), e1 14 (by omega) (by omega), e2 15 (by omega) (by omega), e2 16 (by omega) (by omega), e2 17 (by omega) (by omega)]
  exact h
theorem abs64' {A B : Nat} (hA : A < 2 ^ 60) (hB : B < 2 ^ 60) : (0 ≤ lg_cmp (Int64.ofNat A - Int64.ofNat B) 0 → Int64.ofNat A - Int64.ofNat B = Int64.ofNat ((A - B) + (B - A))) ∧ (¬ 0 ≤ lg_cmp (Int64.ofNat A - Int64.ofNat B) 0 → -(Int64.ofNat A - Int64.ofNat B) = Int64.ofNat ((A - B) + (B - A))) := by
  have hA' : A < 1152921504606846976 := hA
  have hB' : B < 1152921504606846976 := hB
  clear hA hB
  have eA : (Int64.ofNat A).toInt = (A : Int) := i64_nat (by omega)
  have eB : (Int64.ofNat B).toInt = (B : Int) := i64_nat (by omega)
  have hx : (Int64.ofNat A - Int64.ofNat B).toInt = (A : Int) - B := by
    rw [n64_sub (by rw [eA, eB]; omega) (by rw [eA, eB]; omega), eA, eB]
  have hs1 : B ≤ A → Int64.ofNat A - Int64.ofNat B = Int64.ofNat (A - B) := fun h => i64_sub h (by omega)
  have hs2 : A ≤ B → Int64.ofNat B - Int64.ofNat A = Int64.ofNat (B - A) := fun h => i64_sub h (by omega)
  have hng : -(Int64.ofNat A - Int64.ofNat B) = Int64.ofNat B - Int64.ofNat A := Int64.neg_sub
  have hc := lgc_neg (a := Int64.ofNat A - Int64.ofNat B) (b := 0)
  rw [hx, show (0 : Int64).toInt = 0 from rfl] at hc
  have h0 : (0 : Int32).toInt = 0 := rfl
  refine ⟨fun h => ?_, fun h => ?_⟩
  · have : B ≤ A := by
      apply Classical.byContradiction
      intro q
      have a1 := i32_lt.mp (hc.mpr (by omega))
      have a2 := i32_le.mp h
      omega
    rw [hs1 this, show A - B + (B - A) = A - B by omega]
  · have : A ≤ B := by
      have a1 : lg_cmp (Int64.ofNat A - Int64.ofNat B) 0 < 0 := i32_lt.mpr (by
        have : ¬ (0 : Int32).toInt ≤ (lg_cmp (Int64.ofNat A - Int64.ofNat B) 0).toInt := fun q => h (i32_le.mpr q)
        omega)
      have := hc.mp a1
      omega
    rw [hng, hs2 this, show A - B + (B - A) = B - A by omega]
theorem gm_tr0 {F : Nat} {u : gw_St} {i j : Nat} {p1 p2 x2 x3 : Int32} {g : Int64} (hr : gv_Rf u) (hi : i < 37820) (hj : j < 37820) (h1 : u.1 671 i = p1) (h2 : u.1 671 j = p2) (h3 : u.1 670 2 = x2) (h4 : u.1 670 3 = x3) (hg : (0 ≤ lg_cmp (p1.toInt64 * x3.toInt64 - p2.toInt64 * x2.toInt64) 0 → p1.toInt64 * x3.toInt64 - p2.toInt64 * x2.toInt64 = g) ∧ (¬ 0 ≤ lg_cmp (p1.toInt64 * x3.toInt64 - p2.toInt64 * x2.toInt64) 0 → -(p1.toInt64 * x3.toInt64 - p2.toInt64 * x2.toInt64) = g)) : gf_Model_trial F gv_z u 670 (Int32.ofNat i) (Int32.ofNat j) = gf_Model_trial_b40 F gv_z u 670 (Int32.ofNat i) (Int32.ofNat j) g := by
  show gf_Model_trial_b0 F gv_z u 670 (Int32.ofNat i) (Int32.ofNat j) = _
  unfold gf_Model_trial_b0
  rw [hr.get rfl gv_r670_10, gnn, if_neg (gi_ix (k := i) (by rw [gv_l671]; omega) (by omega)), gnn, if_neg (gi_ix (k := j) (by rw [gv_l671]; omega) (by omega)), i32_clamp (n := i) (by omega), i32_clamp (n := j) (by omega), h1, h2, h3, h4]
  simp only [gf_nm]
  by_cases c : 0 ≤ lg_cmp (p1.toInt64 * x3.toInt64 - p2.toInt64 * x2.toInt64) 0
  · rw [if_pos c, hg.1 c]
  · rw [if_neg c, hg.2 c]
/-- trial -/
theorem gm_trial {F : Nat} (hF : 2000 ≤ F) {u : gw_St} {S lo hi nm dn i j d e : Nat} {X : Nat → Nat → Prop} (hr : gv_Rf u) (hp : TaP S lo hi) (h4 : u.1 670 4 = Int32.ofNat S) (h2 : u.1 670 2 = Int32.ofNat nm) (h3 : u.1 670 3 = Int32.ofNat dn) (hn : nm < 2147483648) (hdn : dn < 2147483648) (hdn0 : 0 < dn) (hi' : i < 37820) (hj' : j < 37820) (hd : isC S lo hi d) (he : isC S lo hi e) (di : u.1 671 i = Int32.ofNat (pP S d) ∧ u.1 672 i = Int32.ofNat d ∧ u.1 673 i = Int32.ofNat (tT S d)) (ej : u.1 671 j = Int32.ofNat (pP S e) ∧ u.1 672 j = Int32.ofNat e ∧ u.1 673 j = Int32.ofNat (tT S e)) (hX : ∀ d e, X d e → isC S lo hi d ∧ isC S lo hi e) (hB : Fnd u S lo hi nm dn X) : ∃ w, gf_Model_trial F gv_z u 670 (Int32.ofNat i) (Int32.ofNat j) = some w ∧ w.2.2 = u.2.2 ∧ (∀ a k, ¬ (a = 670 ∧ 15 ≤ k ∧ k ≤ 17) → w.1 a k = u.1 a k) ∧ (∀ a k, ¬ (a = 670 ∧ 13 ≤ k ∧ k ≤ 14) → w.2.1 a k = u.2.1 a k) ∧ Fnd w S lo hi nm dn (fun d' e' => X d' e' ∨ d' = d ∧ e' = e) := by
  have hS : S ≤ 4 := hp.2.1
  obtain ⟨g1, g2, g3⟩ := gap_lt hp hd he hn hdn
  have pd := hd.prd hp
  have pe := he.prd hp
  have hd28 := (hd.wls hp).2.1
  have he28 := (he.wls hp).2.1
  have td := tT_le (S := S) (v := d) hS
  have te := tT_le (S := S) (v := e) hS
  have pos : ∀ x, isC S lo hi x → 0 < pP S x := fun x hx => (hx.prd hp).1
  have hund : pP S e * dn < 2 ^ 59 := by
    have : pP S e * dn ≤ 207360000 * 2147483648 := Nat.mul_le_mul pe.2 (by omega)
    omega
  have hund0 : 0 < pP S e * dn := Nat.mul_pos pe.1 hdn0
  have hpre := gm_tr0 (F := F) (g := Int64.ofNat (gap S nm dn d e)) hr hi' hj' di.1 ej.1 h2 h3 (by
    rw [i32_64 (by omega), i32_64 (by omega), i32_64 (by omega), i32_64 (by omega), i64_mul, i64_mul]
    exact abs64' (by omega) (by omega))
  rw [hpre]
  -- the new train is kept
  obtain ⟨w3, hw3⟩ : ∃ w3, w3 = gw_wi (gw_wi (gw_wi (gw_wl (gw_wl u 670 13 (Int64.ofNat (gap S nm dn d e))) 670 14 (Int64.ofNat (pP S e * dn))) 670 15 (Int32.ofNat (tT S d + tT S e))) 670 16 (Int32.ofNat d)) 670 17 (Int32.ofNat e) := ⟨_, rfl⟩
  have k1 : w3.2.2 = u.2.2 := by rw [hw3]; rfl
  have k2 : ∀ a k, ¬ (a = 670 ∧ 15 ≤ k ∧ k ≤ 17) → w3.1 a k = u.1 a k := fun a k q => by rw [hw3, wi_ne (by omega), wi_ne (by omega), wi_ne (by omega)]; rfl
  have k3 : ∀ a k, ¬ (a = 670 ∧ 13 ≤ k ∧ k ≤ 14) → w3.2.1 a k = u.2.1 a k := fun a k q => by
    rw [hw3]
    show (gw_wl (gw_wl u 670 13 _) 670 14 _).2.1 a k = _
    rw [wl_ne (by omega), wl_ne (by omega)]
  have k13 : w3.2.1 670 13 = Int64.ofNat (gap S nm dn d e) := by
    rw [hw3]
    show (gw_wl (gw_wl u 670 13 _) 670 14 _).2.1 670 13 = _
    rw [wl_ne (by omega), wl_same]
  have k14 : w3.2.1 670 14 = Int64.ofNat (pP S e * dn) := by
    rw [hw3]
    show (gw_wl (gw_wl u 670 13 _) 670 14 _).2.1 670 14 = _
    rw [wl_same]
  have k15 : w3.1 670 15 = Int32.ofNat (tT S d + tT S e) := by rw [hw3, wi_ne (by omega), wi_ne (by omega), wi_same]
  have k16 : w3.1 670 16 = Int32.ofNat d := by rw [hw3, wi_ne (by omega), wi_same]
  have k17 : w3.1 670 17 = Int32.ofNat e := by rw [hw3, wi_same]
  have b149 : gf_Model_trial_b149 F gv_z u 670 (Int32.ofNat i) (Int32.ofNat j) (Int64.ofNat (gap S nm dn d e)) (Int64.ofNat (pP S e * dn)) (Int32.ofNat (tT S d + tT S e)) = some w3 := by
    unfold gf_Model_trial_b149 gf_Model_trial_b154 gf_Model_trial_b199
    rw [if_neg (by decide)]
    simp only [gf_nm]
    rw [show (gw_wi (gw_wl (gw_wl u 670 13 (Int64.ofNat (gap S nm dn d e))) 670 14 (Int64.ofNat (pP S e * dn))) 670 15 (Int32.ofNat (tT S d + tT S e))).2.2 670 11 = 672 + 1 from hr.get rfl gv_r670_11, gnn, if_neg (gi_ix (k := i) (by rw [gv_l672]; omega) (by omega)), i32_clamp (n := i) (by omega), wi_ne (show ¬ (672 = 670 ∧ i = 15) by omega), show (gw_wl (gw_wl u 670 13 (Int64.ofNat (gap S nm dn d e))) 670 14 (Int64.ofNat (pP S e * dn))).1 672 i = Int32.ofNat d from di.2.1]
    rw [show (gw_wi (gw_wi (gw_wl (gw_wl u 670 13 (Int64.ofNat (gap S nm dn d e))) 670 14 (Int64.ofNat (pP S e * dn))) 670 15 (Int32.ofNat (tT S d + tT S e))) 670 16 (Int32.ofNat d)).2.2 670 11 = 672 + 1 from hr.get rfl gv_r670_11, gnn, if_neg (gi_ix (k := j) (by rw [gv_l672]; omega) (by omega)), i32_clamp (n := j) (by omega), wi_ne (show ¬ (672 = 670 ∧ j = 16) by omega), wi_ne (show ¬ (672 = 670 ∧ j = 15) by omega), show (gw_wl (gw_wl u 670 13 (Int64.ofNat (gap S nm dn d e))) 670 14 (Int64.ofNat (pP S e * dn))).1 672 j = Int32.ofNat e from ej.2.1, ← hw3]
  have b153 : gf_Model_trial_b153 F gv_z u 670 (Int32.ofNat i) (Int32.ofNat j) (Int64.ofNat (gap S nm dn d e)) (Int64.ofNat (pP S e * dn)) (Int32.ofNat (tT S d + tT S e)) = some u := by
    unfold gf_Model_trial_b153 gf_Model_trial_b154 gf_Model_trial_b199
    rw [if_pos rfl]
  have b85 : ∀ x : Int32, gf_Model_trial_b85 F gv_z u 670 (Int32.ofNat i) (Int32.ofNat j) (Int64.ofNat (gap S nm dn d e)) (Int64.ofNat (pP S e * dn)) x = if x < 0 then some w3 else (if x = 0 then (if Int32.ofNat (tT S d + tT S e) < u.1 670 15 then some w3 else (if Int32.ofNat (tT S d + tT S e) = u.1 670 15 then (gf_cl (gf_Model_isLessList F gv_z u 670 (Int32.ofNat d) (Int32.ofNat e)) fun a38 u36 => if a38 = 0 then (gf_Model_trial_b153 F gv_z u36 670 (Int32.ofNat i) (Int32.ofNat j) (Int64.ofNat (gap S nm dn d e)) (Int64.ofNat (pP S e * dn)) (Int32.ofNat (tT S d + tT S e))) else (gf_Model_trial_b149 F gv_z u36 670 (Int32.ofNat i) (Int32.ofNat j) (Int64.ofNat (gap S nm dn d e)) (Int64.ofNat (pP S e * dn)) (Int32.ofNat (tT S d + tT S e)))) else some u)) else some u) := fun x => by
    unfold gf_Model_trial_b85
    rw [hr.get rfl gv_r670_12, gnn, if_neg (gi_ix (k := i) (by rw [gv_l673]; omega) (by omega)), gnn, if_neg (gi_ix (k := j) (by rw [gv_l673]; omega) (by omega)), i32_clamp (n := i) (by omega), i32_clamp (n := j) (by omega), di.2.2, ej.2.2, gi_add]
    simp only [gf_nm]
    rw [b149, b153, hr.get rfl gv_r670_11, gnn, if_neg (gi_ic (by rw [gv_l672]; omega) (by omega)), gnn, if_neg (gi_ic (by rw [gv_l672]; omega) (by omega)), di.2.1, ej.2.1]
  have hst : gf_Model_trial_b40 F gv_z u 670 (Int32.ofNat i) (Int32.ofNat j) (Int64.ofNat (gap S nm dn d e)) = if (lg_cmp (u.2.1 670 14) (0 : Int64)) = 0 then (gf_Model_trial_b85 F gv_z u 670 (Int32.ofNat i) (Int32.ofNat j) (Int64.ofNat (gap S nm dn d e)) (Int64.ofNat (pP S e * dn)) (-1)) else (gf_cl (gf_Model_compare F gv_z u (Int64.ofNat (gap S nm dn d e)) (Int64.ofNat (pP S e * dn)) (u.2.1 670 13) (u.2.1 670 14)) fun a48 u46 => gf_Model_trial_b85 F gv_z u46 670 (Int32.ofNat i) (Int32.ofNat j) (Int64.ofNat (gap S nm dn d e)) (Int64.ofNat (pP S e * dn)) a48) := by
    unfold gf_Model_trial_b40
    rw [hr.get rfl gv_r670_10, gnn, if_neg (gi_ix (k := j) (by rw [gv_l671]; omega) (by omega)), i32_clamp (n := j) (by omega), ej.1, h3, i32_64 (by omega), i32_64 (by omega), i64_mul]
    simp only [gf_nm]
  rw [hst]
  rcases hB with ⟨b1, b2⟩ | ⟨bd, be, b1, b2, b3, b4, b5, b6, b7, b8, b9⟩
  · rw [if_pos (lgc_zero.mpr (by rw [b1])), b85, if_pos (by decide)]
    refine ⟨w3, rfl, k1, k2, k3, Or.inr ⟨d, e, k13, k14, k15, k16, k17, hd, he, Or.inr ⟨rfl, rfl⟩, fun d' e' h => ?_⟩⟩
    rcases h with h | ⟨h1, h2⟩
    · exact absurd h (b2 d' e')
    · rw [h1, h2]; exact bt_irr
  · have pbe := b7.prd hp
    have hu2 : pP S be * dn < 2 ^ 59 := by
      have : pP S be * dn ≤ 207360000 * 2147483648 := Nat.mul_le_mul pbe.2 (by omega)
      omega
    have hu20 : 0 < pP S be * dn := Nat.mul_pos pbe.1 hdn0
    have hg2 := (gap_lt hp b6 b7 hn hdn).1
    have tbd := tT_le (S := S) (v := bd) hS
    have tbe := tT_le (S := S) (v := be) hS
    rw [if_neg (fun q => by have := lgc_zero.mp q; rw [b2, i64_nat (by omega), show (0 : Int64).toInt = 0 from rfl] at this; omega), b1, b2, gm_compare (F := F) hF hund0 hu20 (by omega) (by omega) (by omega) (by omega)]
    simp only [gf_cl]
    rw [b85, b3]
    have hmulc : c3 (gap S nm dn d e * (pP S be * dn)) (gap S nm dn bd be * (pP S e * dn)) = c3 (gap S nm dn d e * pP S be) (gap S nm dn bd be * pP S e) := by
      rw [← Nat.mul_assoc, ← Nat.mul_assoc]
      generalize gap S nm dn d e * pP S be = A
      generalize gap S nm dn bd be * pP S e = B
      unfold c3
      by_cases q : A < B
      · rw [if_pos q, if_pos (Nat.mul_lt_mul_of_pos_right q hdn0)]
      · rw [if_neg q, if_neg (fun z => q (Nat.lt_of_mul_lt_mul_right z))]
        by_cases q2 : A = B
        · rw [if_pos q2, if_pos (by rw [q2])]
        · rw [if_neg q2, if_neg (fun z => q2 (Nat.eq_of_mul_eq_mul_right hdn0 z))]
    rw [hmulc]
    have hnew : bt S nm dn d e bd be → ∃ w, some w3 = some w ∧ w.2.2 = u.2.2 ∧ (∀ a k, ¬ (a = 670 ∧ 15 ≤ k ∧ k ≤ 17) → w.1 a k = u.1 a k) ∧ (∀ a k, ¬ (a = 670 ∧ 13 ≤ k ∧ k ≤ 14) → w.2.1 a k = u.2.1 a k) ∧ Fnd w S lo hi nm dn (fun d' e' => X d' e' ∨ d' = d ∧ e' = e) := fun x3 => by
      refine ⟨w3, rfl, k1, k2, k3, Or.inr ⟨d, e, k13, k14, k15, k16, k17, hd, he, Or.inr ⟨rfl, rfl⟩, fun d' e' h => ?_⟩⟩
      rcases h with h | ⟨h1, h2⟩
      · exact bt_tr (pos _ b7) (pos _ he) (pos _ (hX d' e' h).2) (bt_asym x3) (b9 d' e' h)
      · rw [h1, h2]; exact bt_irr
    have hold : ¬ bt S nm dn d e bd be → ∃ w, some u = some w ∧ w.2.2 = u.2.2 ∧ (∀ a k, ¬ (a = 670 ∧ 15 ≤ k ∧ k ≤ 17) → w.1 a k = u.1 a k) ∧ (∀ a k, ¬ (a = 670 ∧ 13 ≤ k ∧ k ≤ 14) → w.2.1 a k = u.2.1 a k) ∧ Fnd w S lo hi nm dn (fun d' e' => X d' e' ∨ d' = d ∧ e' = e) := fun x3 => by
      refine ⟨u, rfl, rfl, fun _ _ _ => rfl, fun _ _ _ => rfl, Or.inr ⟨bd, be, b1, b2, b3, b4, b5, b6, b7, Or.inl b8, fun d' e' h => ?_⟩⟩
      rcases h with h | ⟨h1, h2⟩
      · exact b9 d' e' h
      · rw [h1, h2]; exact x3
    rcases Nat.lt_trichotomy (gap S nm dn d e * pP S be) (gap S nm dn bd be * pP S e) with h | h | h
    · rw [show c3 (gap S nm dn d e * pP S be) (gap S nm dn bd be * pP S e) = -1 from if_pos h, if_pos (by decide)]
      exact hnew (Or.inl h)
    · rw [show c3 (gap S nm dn d e * pP S be) (gap S nm dn bd be * pP S e) = 0 from by unfold c3; rw [if_neg (by omega), if_pos h], if_neg (by decide), if_pos rfl]
      by_cases q : tT S d + tT S e < tT S bd + tT S be
      · rw [if_pos ((gi_lt (by omega) (by omega)).mpr q)]
        exact hnew (Or.inr ⟨h, Or.inl q⟩)
      · rw [if_neg (fun z => q ((gi_lt (by omega) (by omega)).mp z))]
        by_cases q2 : tT S d + tT S e = tT S bd + tT S be
        · have hb28 := (b6.wls hp).2.1
          have hb28' := (b7.wls hp).2.1
          rw [if_pos (by rw [q2]), gm_less (F := F) hF h4 hS (by omega) (by omega) (by omega) (by omega) b4 b5]
          simp only [gf_cl]
          by_cases r : il S d e S < il S bd be S
          · rw [if_pos r, if_neg (by decide), b149]
            exact hnew (Or.inr ⟨h, Or.inr ⟨q2, r⟩⟩)
          · rw [if_neg r, if_pos rfl, b153]
            exact hold (fun z => by unfold bt at z; omega)
        · rw [if_neg (fun z => q2 ((gi_eq (by omega) (by omega)).mp z))]
          exact hold (fun z => by unfold bt at z; omega)
    · rw [show c3 (gap S nm dn d e * pP S be) (gap S nm dn bd be * pP S e) = 1 from by unfold c3; rw [if_neg (by omega), if_neg (by omega)], if_neg (by decide), if_neg (by decide)]
      exact hold (fun z => by unfold bt at z; omega)
