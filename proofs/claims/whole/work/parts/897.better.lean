theorem gap_lt {S lo hi nm dn d e : Nat} (hp : TaP S lo hi) (hd : isC S lo hi d) (he : isC S lo hi e) (hn : nm < 2147483648) (hdn : dn < 2147483648) : gap S nm dn d e < 2 ^ 62 ∧ pP S d * dn < 2 ^ 59 ∧ pP S e * nm < 2 ^ 59 := by
  have h1 := (hd.prd hp).2
  have h2 := (he.prd hp).2
  have m1 : pP S d * dn ≤ 207360000 * 2147483648 := Nat.mul_le_mul h1 (by omega)
  have m2 : pP S e * nm ≤ 207360000 * 2147483648 := Nat.mul_le_mul h2 (by omega)
  unfold gap
  omega
theorem d32 {a b : Nat} (ha : a < 100000) (hb : b < 100000) : (Int32.ofNat a - Int32.ofNat b).toInt = (a : Int) - b := by
  rw [n32_sub (by rw [i32_nat (by omega), i32_nat (by omega)]; omega) (by rw [i32_nat (by omega), i32_nat (by omega)]; omega), i32_nat (by omega), i32_nat (by omega)]
theorem i32_z {x : Int32} : x = 0 ↔ x.toInt = 0 := ⟨fun e => by rw [e]; rfl, fun e => i32_ext (by rw [e]; rfl)⟩
/-- what isBetter tells of an order -/
theorem tr_b126 {F : Nat} {u : gw_St} {x : Int32} : gf_Trains_isBetter_b126 F gv_z u x = some (if x.toInt < 0 then 1 else 0, u) := by
  unfold gf_Trains_isBetter_b126 gf_Trains_isBetter_b136
  have h0 : (0 : Int32).toInt = 0 := rfl
  by_cases c : x.toInt < 0
  · rw [if_neg (fun e => by have := i32_le.mp e; omega), if_pos c, if_neg (by decide)]
  · rw [if_pos (i32_le.mpr (by omega)), if_neg c, if_neg (by decide)]
theorem tr_bl0 {F f : Nat} {u : gw_St} {y1 y3 : Int64} {x x8 : Int32} (hx : x ≠ 0) : gf_Trains_isBetter_L61 F gv_z (f + 1) u 1 y1 y3 x x8 = some (if x.toInt < 0 then 1 else 0, u) := by
  show gf_Trains_isBetter_S61 F gv_z _ u 1 y1 y3 x x8 = _
  unfold gf_Trains_isBetter_S61
  rw [tr_b126, if_neg hx]
  split <;> rfl
/-- the lists in turn -/
theorem tr_bl {F : Nat} {u : gw_St} {S d e d' e' : Nat} (h6 : u.1 1 6 = Int32.ofNat S) (hS : S ≤ 4) (hd : d < 2 ^ 56) (he : e < 2 ^ 56) (hd' : d' < 2 ^ 56) (he' : e' < 2 ^ 56) (h14 : u.2.1 1 14 = Int64.ofNat d') (h15 : u.2.1 1 15 = Int64.ofNat e') : ∀ (j s f : Nat), s + j = S → j + 1 < f → il S d e s = il S d' e' s → gf_Trains_isBetter_L61 F gv_z f u 1 (Int64.ofNat d) (Int64.ofNat e) 0 (Int32.ofNat s) = some (if il S d e S < il S d' e' S then 1 else 0, u) := by
  intro j
  induction j with
  | zero =>
    intro s f hs hf h
    obtain ⟨f, rfl⟩ : ∃ q, f = q + 1 := ⟨f - 1, by omega⟩
    have : s = S := by omega
    subst this
    show gf_Trains_isBetter_S61 F gv_z _ u 1 _ _ 0 (Int32.ofNat s) = _
    unfold gf_Trains_isBetter_S61
    rw [h6, if_pos ((gi_le (by omega) (by omega)).mpr (Nat.le_refl _)), tr_b126, if_neg (by decide), if_neg (by omega)]
  | succ j ih =>
    intro s f hs hf h
    obtain ⟨f, rfl⟩ : ∃ q, f = q + 1 := ⟨f - 1, by omega⟩
    obtain ⟨f, rfl⟩ : ∃ q, f = q + 1 := ⟨f - 1, by omega⟩
    have hsS : s < S := by omega
    have b1 := wl_lt (n := S) (c := d) (s := s)
    have b2 := wl_lt (n := S) (c := e) (s := s)
    have b3 := wl_lt (n := S) (c := d') (s := s)
    have b4 := wl_lt (n := S) (c := e') (s := s)
    have x1 := d32 (a := wl S d s) (b := wl S d' s) (by omega) (by omega)
    have x2 := d32 (a := wl S e s) (b := wl S e' s) (by omega) (by omega)
    have i1 : il S d e (s + 1) = (il S d e s * 128 + wl S d s) * 128 + wl S e s := rfl
    have i2 : il S d' e' (s + 1) = (il S d' e' s * 128 + wl S d' s) * 128 + wl S e' s := rfl
    have up1 := il_lt (S := S) (d := d) (e := e) (d' := d') (e' := e') (S - (s + 1)) (s + 1)
    have up2 := il_lt (S := S) (d := d') (e := e') (d' := d) (e' := e) (S - (s + 1)) (s + 1)
    rw [show s + 1 + (S - (s + 1)) = S by omega] at up1 up2
    show gf_Trains_isBetter_S61 F gv_z _ u 1 _ _ 0 (Int32.ofNat s) = _
    unfold gf_Trains_isBetter_S61 gf_Trains_isBetter_b120
    rw [h6, if_neg (fun e => by have := (gi_le (by omega) (by omega)).mp e; omega), if_pos rfl, tr_wheel h6 hS hsS hd]
    simp only [gf_cl, gf_nm]
    rw [h14, tr_wheel h6 hS hsS hd']
    simp only []
    by_cases c : wl S d s = wl S d' s
    · rw [if_pos (i32_z.mpr (by rw [x1]; omega)), tr_wheel h6 hS hsS he]
      simp only []
      rw [h15, tr_wheel h6 hS hsS he']
      simp only []
      rw [gw_iS]
      by_cases c2 : wl S e s = wl S e' s
      · rw [show Int32.ofNat (wl S e s) - Int32.ofNat (wl S e' s) = 0 from i32_z.mpr (by rw [x2]; omega)]
        exact ih (s + 1) (f + 1) (by omega) (by omega) (by rw [i1, i2, h, c, c2])
      · rw [tr_bl0 (fun q => c2 (by have := i32_z.mp q; omega)), x2]
        by_cases q : wl S e s < wl S e' s
        · rw [if_pos (by omega), if_pos (up1 (by rw [i1, i2, h, c]; omega))]
        · have := up2 (by rw [i1, i2, h, c]; omega)
          rw [if_neg (by omega), if_neg (by omega)]
    · rw [if_neg (fun q => c (by have := i32_z.mp q; omega)), gw_iS, tr_bl0 (fun q => c (by have := i32_z.mp q; omega)), x1]
      by_cases q : wl S d s < wl S d' s
      · rw [if_pos (by omega), if_pos (up1 (by rw [i1, i2, h]; omega))]
      · have := up2 (by rw [i1, i2, h]; omega)
        rw [if_neg (by omega), if_neg (by omega)]
theorem il_big {S d e d' e' : Nat} (hS : S ≤ 4) : ∀ n, n ≤ S → il S (vv S d) (vv S e) n = il S d e n := by
  intro n
  induction n with
  | zero => intro _; rfl
  | succ n ih =>
    intro hn
    show (il S (vv S d) (vv S e) n * 128 + wl S (vv S d) n) * 128 + wl S (vv S e) n = (il S d e n * 128 + wl S d n) * 128 + wl S e n
    rw [ih (by omega)]
    unfold vv
    rw [wl_big hS (by omega), wl_big hS (by omega)]
/-- isBetter -/
theorem tr_better {F : Nat} (hF : 2000 ≤ F) {u : gw_St} {S lo hi nm dn d e d' e' : Nat} (hp : TaP S lo hi) (h6 : u.1 1 6 = Int32.ofNat S) (hd : isC S lo hi d) (he : isC S lo hi e) (hd' : isC S lo hi d') (he' : isC S lo hi e') (hn : nm < 2147483648) (hdn : dn < 2147483648) (h14 : u.2.1 1 14 = Int64.ofNat (vv S d')) (h15 : u.2.1 1 15 = Int64.ofNat (vv S e')) (h16 : u.2.1 1 16 = Int64.ofNat (gap S nm dn d' e')) : ∃ x : Int32, gf_Trains_isBetter F gv_z u 1 (Int64.ofNat (vv S d)) (Int64.ofNat (vv S e)) (Int64.ofNat (gap S nm dn d e)) = some (x, u) ∧ (x = 1 ∧ bt S nm dn d e d' e' ∨ x = 0 ∧ ¬ bt S nm dn d e d' e') := by
  have hS : S ≤ 4 := hp.2.1
  obtain ⟨d1, d2, -⟩ := vv_lt hp hd
  obtain ⟨e1, e2, -⟩ := vv_lt hp he
  obtain ⟨d1', d2', -⟩ := vv_lt hp hd'
  obtain ⟨e1', e2', -⟩ := vv_lt hp he'
  have g1 := (gap_lt hp hd he hn hdn).1
  have g2 := (gap_lt hp hd' he' hn hdn).1
  have p1 := he.prd hp
  have p2 := he'.prd hp
  have tt : ∀ x, tT S (vv S x) = tT S x := fun x => tT_big hS
  have l1 := tT_le (S := S) (v := d) hS
  have l2 := tT_le (S := S) (v := e) hS
  have l3 := tT_le (S := S) (v := d') hS
  have l4 := tT_le (S := S) (v := e') hS
  have x1 := d32 (a := tT S d + tT S e) (b := tT S d' + tT S e') (by omega) (by omega)
  have il00 : ∀ a b : Nat, il S a b 0 = 0 := fun _ _ => rfl
  have hil := tr_bl (F := F) (u := u) h6 hS d1 e1 d1' e1' h14 h15 S 0 F (by omega) (by omega) (by rw [il00, il00])
  rw [il_big (d' := d) (e' := e) hS S (Nat.le_refl _), il_big (d' := d) (e' := e) hS S (Nat.le_refl _)] at hil
  have hpre : gf_Trains_isBetter F gv_z u 1 (Int64.ofNat (vv S d)) (Int64.ofNat (vv S e)) (Int64.ofNat (gap S nm dn d e)) = if c3 (gap S nm dn d e * pP S e') (gap S nm dn d' e' * pP S e) = 0 then gf_Trains_isBetter_L61 F gv_z F u 1 (Int64.ofNat (vv S d)) (Int64.ofNat (vv S e)) (Int32.ofNat (tT S d + tT S e) - Int32.ofNat (tT S d' + tT S e')) 0 else gf_Trains_isBetter_L61 F gv_z F u 1 (Int64.ofNat (vv S d)) (Int64.ofNat (vv S e)) (c3 (gap S nm dn d e * pP S e') (gap S nm dn d' e' * pP S e)) 0 := by
    show gf_Trains_isBetter_b0 F gv_z u 1 _ _ _ = _
    unfold gf_Trains_isBetter_b0 gf_Trains_isBetter_b58
    rw [tr_product e1, e2]
    simp only [gf_cl]
    rw [h15, tr_product e1', e2']
    simp only []
    rw [h16, tr_ratio g1 g2 p1.1 p2.1 (by omega) (by omega)]
    simp only []
    rw [tr_teeth (by omega) h6 hS d1]
    simp only []
    rw [tr_teeth (by omega) h6 hS e1]
    simp only []
    rw [h14, tr_teeth (by omega) h6 hS d1']
    simp only []
    rw [h15, tr_teeth (by omega) h6 hS e1']
    simp only [gf_nm]
    rw [tt, tt, tt, tt, gi_add, gi_add]
  rw [hpre]
  obtain ⟨f, hf⟩ : ∃ f, F = f + 1 := ⟨F - 1, by omega⟩
  have c3m : (-1 : Int32).toInt = -1 := rfl
  have c3p : (1 : Int32).toInt = 1 := rfl
  rcases Nat.lt_trichotomy (gap S nm dn d e * pP S e') (gap S nm dn d' e' * pP S e) with h | h | h
  · rw [show c3 (gap S nm dn d e * pP S e') (gap S nm dn d' e' * pP S e) = -1 from if_pos h, if_neg (by decide), hf, tr_bl0 (by decide), if_pos (by decide)]
    exact ⟨1, rfl, Or.inl ⟨rfl, Or.inl h⟩⟩
  · rw [show c3 (gap S nm dn d e * pP S e') (gap S nm dn d' e' * pP S e) = 0 from by unfold c3; rw [if_neg (by omega), if_pos h], if_pos rfl]
    by_cases q : tT S d + tT S e = tT S d' + tT S e'
    · rw [show Int32.ofNat (tT S d + tT S e) - Int32.ofNat (tT S d' + tT S e') = 0 from i32_z.mpr (by rw [x1]; omega), show (0 : Int32) = Int32.ofNat 0 from rfl]
      have hil2 : gf_Trains_isBetter_L61 F gv_z F u 1 (Int64.ofNat (vv S d)) (Int64.ofNat (vv S e)) (Int32.ofNat 0) (Int32.ofNat 0) = some (if il S d e S < il S d' e' S then 1 else 0, u) := hil
      rw [hil2]
      by_cases r : il S d e S < il S d' e' S
      · rw [if_pos r]
        exact ⟨1, rfl, Or.inl ⟨rfl, Or.inr ⟨h, Or.inr ⟨q, r⟩⟩⟩⟩
      · rw [if_neg r]
        exact ⟨0, rfl, Or.inr ⟨rfl, fun z => by unfold bt at z; omega⟩⟩
    · rw [hf, tr_bl0 (fun z => q (by have := i32_z.mp z; omega)), x1]
      by_cases r : tT S d + tT S e < tT S d' + tT S e'
      · rw [if_pos (by omega)]
        exact ⟨1, rfl, Or.inl ⟨rfl, Or.inr ⟨h, Or.inl r⟩⟩⟩
      · rw [if_neg (by omega)]
        exact ⟨0, rfl, Or.inr ⟨rfl, fun z => by unfold bt at z; omega⟩⟩
  · rw [show c3 (gap S nm dn d e * pP S e') (gap S nm dn d' e' * pP S e) = 1 from by unfold c3; rw [if_neg (by omega), if_neg (by omega)], if_neg (by decide), hf, tr_bl0 (by decide), if_neg (by decide)]
    exact ⟨0, rfl, Or.inr ⟨rfl, fun z => by unfold bt at z; omega⟩⟩
