/-- one choice is stored -/
theorem gm_store1 {F : Nat} (hF : 2000 ≤ F) {u : gw_St} {S lo N m c q : Nat} {x1 : Int32} {v : Nat} {rc : gw_St → Nat → Int32 → Int32 → Option gw_St} (hr : gv_Rf u) (hk : Mk u S lo N) (hS : S ≤ 4) (h9 : u.1 670 9 = Int32.ofNat m) (hm : m < 37820) (hc : c < 268435456) : ∃ w, gf_Model_listChoices_b141 F gv_z rc u 670 x1 (Int32.ofNat v) (Int32.ofNat c) (Int32.ofNat q) 1 = rc w 670 x1 (Int32.ofNat (v + 1)) ∧ w.2 = u.2 ∧ w.1 670 9 = Int32.ofNat (m + 1) ∧ w.1 671 m = Int32.ofNat q ∧ w.1 672 m = Int32.ofNat c ∧ w.1 673 m = Int32.ofNat (tT S c) ∧ ∀ p k, ¬ (671 ≤ p ∧ p ≤ 673 ∧ k = m) → ¬ (p = 670 ∧ k = 9) → w.1 p k = u.1 p k := by
  have e10 : u.2.2 670 10 = 671 + 1 := hr.get rfl gv_r670_10
  have e11 : u.2.2 670 11 = 672 + 1 := hr.get rfl gv_r670_11
  have e12 : u.2.2 670 12 = 673 + 1 := hr.get rfl gv_r670_12
  have em : (Int32.ofNat m).toNatClampNeg = m := i32_clamp (by omega)
  have gM : ∀ q, gv_z.2.2 q = 37820 → ¬ (Int32.ofNat m < 0 ∨ gv_z.2.2 q ≤ (Int32.ofNat m).toNatClampNeg) := fun q hq => gi_ix (by rw [hq]; omega) (by omega)
  generalize hw1 : gw_wi u 671 m (Int32.ofNat q) = w1
  have w1r : w1.2 = u.2 := by rw [← hw1]; rfl
  have w1i : ∀ p k, ¬ (p = 671 ∧ k = m) → w1.1 p k = u.1 p k := fun p k z => by rw [← hw1, wi_ne z]
  generalize hw2 : gw_wi w1 672 m (Int32.ofNat c) = w2
  have w2r : w2.2 = u.2 := by rw [← hw2]; exact w1r
  have w2i : ∀ p k, ¬ (p = 672 ∧ k = m) → w2.1 p k = w1.1 p k := fun p k z => by rw [← hw2, wi_ne z]
  generalize hw3 : gw_wi w2 673 m (Int32.ofNat (tT S c)) = w3
  have w3r : w3.2 = u.2 := by rw [← hw3]; exact w2r
  have w3i : ∀ p k, ¬ (p = 673 ∧ k = m) → w3.1 p k = w2.1 p k := fun p k z => by rw [← hw3, wi_ne z]
  have h92 : w1.1 670 9 = Int32.ofNat m := by rw [w1i 670 9 (by omega)]; exact h9
  have h93 : w2.1 670 9 = Int32.ofNat m := by rw [w2i 670 9 (by omega)]; exact h92
  have h94 : w3.1 670 9 = Int32.ofNat m := by rw [w3i 670 9 (by omega)]; exact h93
  have h4 : w2.1 670 4 = Int32.ofNat S := by rw [w2i 670 4 (by omega), w1i 670 4 (by omega)]; exact hk.1
  refine ⟨gw_wi w3 670 9 (Int32.ofNat (m + 1)), ?_, w3r, wi_same, ?_, ?_, ?_, fun p k z1 z2 => by rw [wi_ne z2, w3i p k (by omega), w2i p k (by omega), w1i p k (by omega)]⟩
  · unfold gf_Model_listChoices_b141 gf_Model_listChoices_b191
    rw [if_neg (by decide), e10, gnn, h9, if_neg (gM 671 gv_l671), em]
    simp only [gf_nm]
    rw [hw1, show w1.2.2 670 11 = 672 + 1 from by rw [w1r]; exact e11, gnn, h92, if_neg (gM 672 gv_l672), em, hw2, show w2.2.2 670 12 = 673 + 1 from by rw [w2r]; exact e12, gnn, gm_sumOf hF h4 hS (by omega)]
    simp only [gf_cl]
    rw [h93, if_neg (gM 673 gv_l673), em, hw3, h94, gw_iS, gw_iS]
  · rw [wi_ne (by omega), w3i 671 m (by omega), w2i 671 m (by omega), ← hw1, wi_same]
  · rw [wi_ne (by omega), w3i 672 m (by omega), ← hw2, wi_same]
  · rw [wi_ne (by omega), ← hw3, wi_same]
/-- the reference's choices, each product once -/
theorem gm_list {F : Nat} (hF : 300000 ≤ F) {u : gw_St} {S lo hi T : Nat} {c : Nat → Nat} (hr : gv_Rf u) (hp : TaP S lo hi) (hk : Mk u S lo (hi - lo + 1)) (hT : T ≤ 37820) (hcov : ∀ x, isC S lo hi x → ∃ j, j < T ∧ c j = x) : ∃ (w : gw_St) (y : Nat → Nat) (M : Nat), gf_Model_listChoices F gv_z u 670 = some w ∧ M ≤ 37820 ∧ w.1 670 9 = Int32.ofNat M ∧ w.2 = u.2 ∧ (∀ p k, ¬ (671 ≤ p ∧ p ≤ 673) → ¬ (p = 670 ∧ k = 9) → w.1 p k = u.1 p k) ∧ (∀ i, i < M → w.1 671 i = Int32.ofNat (pP S (y i)) ∧ w.1 672 i = Int32.ofNat (y i) ∧ w.1 673 i = Int32.ofNat (tT S (y i)) ∧ isRep S lo hi (y i)) ∧ (∀ i i', i < i' → i' < M → pP S (y i) < pP S (y i')) ∧ ∀ x, isC S lo hi x → ∃ i, i < M ∧ pP S (y i) = pP S x := by
  have hp' := hp
  unfold TaP at hp'
  have hS : S ≤ 4 := hp'.2.1
  have hmost : (hi - lo + 1) ^ S ≤ 216000 := np_small (hi - lo + 1) (by omega) S (by omega) hp'.2.2.2.2.2.1 hp'.2.2.2.2.2.2
  generalize hu0 : gw_wi u 670 9 0 = u0
  have u0r : u0.2 = u.2 := by rw [← hu0]; rfl
  have u0i : ∀ p k, ¬ (p = 670 ∧ k = 9) → u0.1 p k = u.1 p k := fun p k z => by rw [← hu0, wi_ne z]
  have r0 : gv_Rf u0 := hr.eq (by rw [u0r])
  -- how many numbers there are
  have one := gl_up (σ := Unit) (N := S) (L := fun f _ s => gf_Model_listChoices_L9 F gv_z f u0 670 (Int32.ofNat ((hi - lo + 1) ^ s)) (Int32.ofNat s)) (I := fun _ _ => True) (R := fun x => x = gf_Model_listChoices_L32 F gv_z F u0 670 (Int32.ofNat ((hi - lo + 1) ^ S)) 0)
    (fun f w s _ hs => ⟨(), trivial, by
      show gf_Model_listChoices_S9 F gv_z _ u0 670 _ (Int32.ofNat s) = _
      unfold gf_Model_listChoices_S9
      rw [u0i 670 4 (by omega), hk.1, if_neg (fun e => by have := (gi_le (by omega) (by omega)).mp e; omega), u0i 670 6 (by omega), hk.2.2]
      simp only [gf_nm]
      rw [gi_mul, gw_iS, ← Nat.pow_succ]⟩)
    (fun f w _ => by
      show gf_Model_listChoices_S9 F gv_z _ u0 670 _ (Int32.ofNat S) = _
      unfold gf_Model_listChoices_S9
      rw [u0i 670 4 (by omega), hk.1, if_pos ((gi_le (by omega) (by omega)).mpr (Nat.le_refl _))])
  have h1 := one S 0 () F (by omega) trivial (by omega)
  -- all of them
  have two := gl_up (σ := gw_St) (N := (hi - lo + 1) ^ S) (L := fun f w v => gf_Model_listChoices_L32 F gv_z f w 670 (Int32.ofNat ((hi - lo + 1) ^ S)) (Int32.ofNat v))
    (I := fun v w => w.2 = u.2 ∧ (∀ p k, ¬ (671 ≤ p ∧ p ≤ 673) → ¬ (p = 670 ∧ k = 9) → w.1 p k = u.1 p k) ∧ ∃ (m : Nat) (vs : Nat → Nat), w.1 670 9 = Int32.ofNat m ∧ m ≤ T ∧ (∀ j, j < m → vs j < v ∧ ris (hi - lo + 1) (vs j) S ∧ w.1 671 j = Int32.ofNat (lp lo (hi - lo + 1) (vs j) S) ∧ w.1 672 j = Int32.ofNat (lc lo (hi - lo + 1) (vs j) S) ∧ w.1 673 j = Int32.ofNat (tT S (lc lo (hi - lo + 1) (vs j) S))) ∧ (∀ i j, i < m → j < m → vs i = vs j → i = j) ∧ ∀ v', v' < v → ris (hi - lo + 1) v' S → ∃ j, j < m ∧ vs j = v')
    (R := fun x => ∃ (w : gw_St) (y : Nat → Nat) (M : Nat), x = some w ∧ M ≤ 37820 ∧ w.1 670 9 = Int32.ofNat M ∧ w.2 = u.2 ∧ (∀ p k, ¬ (671 ≤ p ∧ p ≤ 673) → ¬ (p = 670 ∧ k = 9) → w.1 p k = u.1 p k) ∧ (∀ i, i < M → w.1 671 i = Int32.ofNat (pP S (y i)) ∧ w.1 672 i = Int32.ofNat (y i) ∧ w.1 673 i = Int32.ofNat (tT S (y i)) ∧ isRep S lo hi (y i)) ∧ (∀ i i', i < i' → i' < M → pP S (y i) < pP S (y i')) ∧ ∀ x, isC S lo hi x → ∃ i, i < M ∧ pP S (y i) = pP S x)
    (fun f w v hI hv => by
      obtain ⟨i1, i2, m, vs, i3, i4, i5, i6, i7⟩ := hI
      have rw' : gv_Rf w := hr.eq (by rw [i1])
      have kw : Mk w S lo (hi - lo + 1) := ⟨by rw [i2 670 4 (by omega) (by omega)]; exact hk.1, by rw [i2 670 5 (by omega) (by omega)]; exact hk.2.1, by rw [i2 670 6 (by omega) (by omega)]; exact hk.2.2⟩
      obtain ⟨d1, d2⟩ := gm_digits (F := F) (by omega) (v := v) (x1 := Int32.ofNat ((hi - lo + 1) ^ S)) (rc := gf_Model_listChoices_L32 F gv_z f) hp kw (by omega)
      have hgo : gf_Model_listChoices_L32 F gv_z (f + 1) w 670 (Int32.ofNat ((hi - lo + 1) ^ S)) (Int32.ofNat v) = gf_Model_listChoices_L57 F gv_z (gf_Model_listChoices_L32 F gv_z f) F w 670 (Int32.ofNat ((hi - lo + 1) ^ S)) (Int32.ofNat v) 0 1 (Int32.ofNat v) (Int32.ofNat (hi - lo + 1)) 1 0 := by
        show gf_Model_listChoices_S32 F gv_z _ w 670 _ (Int32.ofNat v) = _
        unfold gf_Model_listChoices_S32
        rw [if_neg (fun e => by have := (gi_le (by omega) (by omega)).mp e; omega), kw.2.2]
        rfl
      by_cases z : ris (hi - lo + 1) v S
      · obtain ⟨c1, c2⟩ := lc_isC hp z
        have hc28 : lc lo (hi - lo + 1) v S < 268435456 := (c1.wls hp).2.1
        -- there is room
        have hroom : m + 1 ≤ T := by
          refine few (e := fun j => lc lo (hi - lo + 1) (exr vs m v j) S) hcov (fun j hj => ?_) (fun i j hi' hj' e => ?_)
          · by_cases q : j = m
            · show isC S lo hi (lc lo (hi - lo + 1) (exr vs m v j) S)
              rw [show exr vs m v j = v from if_pos q]; exact c1
            · show isC S lo hi (lc lo (hi - lo + 1) (exr vs m v j) S)
              rw [show exr vs m v j = vs j from if_neg q]
              exact (lc_isC hp (i5 j (by omega)).2.1).1
          · have hb : ∀ j, j < m + 1 → exr vs m v j < (hi - lo + 1) ^ S := fun j hj => by
              by_cases q : j = m
              · rw [show exr vs m v j = v from if_pos q]; exact hv
              · rw [show exr vs m v j = vs j from if_neg q]
                have := (i5 j (by omega)).1
                omega
            have e2 := lc_inj hp (hb i hi') (hb j hj') e
            by_cases q1 : i = m
            · by_cases q2 : j = m
              · omega
              · rw [show exr vs m v i = v from if_pos q1, show exr vs m v j = vs j from if_neg q2] at e2
                have := (i5 j (by omega)).1
                omega
            · by_cases q2 : j = m
              · rw [show exr vs m v i = vs i from if_neg q1, show exr vs m v j = v from if_pos q2] at e2
                have := (i5 i (by omega)).1
                omega
              · rw [show exr vs m v i = vs i from if_neg q1, show exr vs m v j = vs j from if_neg q2] at e2
                exact i6 i j (by omega) (by omega) e2
        obtain ⟨w1, s1, s2, s3, s4, s5, s6, s7⟩ := gm_store1 (F := F) (by omega) (v := v) (q := lp lo (hi - lo + 1) v S) (x1 := Int32.ofNat ((hi - lo + 1) ^ S)) (rc := gf_Model_listChoices_L32 F gv_z f) rw' kw hS i3 (by omega) hc28
        refine ⟨w1, ⟨s2.trans i1, fun p k q1 q2 => by rw [s7 p k (by omega) q2]; exact i2 p k q1 q2, m + 1, exr vs m v, s3, hroom, fun j hj => ?_, fun i j hi' hj' e => ?_, fun v' hv' hr' => ?_⟩, ?_⟩
        · by_cases q : j = m
          · rw [show exr vs m v j = v from if_pos q, q]
            exact ⟨by omega, z, s4, s5, s6⟩
          · rw [show exr vs m v j = vs j from if_neg q, s7 671 j (by omega) (by omega), s7 672 j (by omega) (by omega), s7 673 j (by omega) (by omega)]
            obtain ⟨t1, t2⟩ := i5 j (by omega)
            exact ⟨by omega, t2⟩
        · by_cases q1 : i = m
          · by_cases q2 : j = m
            · omega
            · rw [show exr vs m v i = v from if_pos q1, show exr vs m v j = vs j from if_neg q2] at e
              have := (i5 j (by omega)).1
              omega
          · by_cases q2 : j = m
            · rw [show exr vs m v i = vs i from if_neg q1, show exr vs m v j = v from if_pos q2] at e
              have := (i5 i (by omega)).1
              omega
            · rw [show exr vs m v i = vs i from if_neg q1, show exr vs m v j = vs j from if_neg q2] at e
              exact i6 i j (by omega) (by omega) e
        · by_cases q : v' = v
          · exact ⟨m, by omega, by rw [q]; exact if_pos rfl⟩
          · obtain ⟨j, hj, e⟩ := i7 v' (by omega) hr'
            exact ⟨j, by omega, by rw [← e]; exact if_neg (by omega)⟩
        · rw [hgo, d1 z, s1]
      · refine ⟨w, ⟨i1, i2, m, vs, i3, i4, fun j hj => ?_, i6, fun v' hv' hr' => ?_⟩, by rw [hgo, d2 z]⟩
        · obtain ⟨t1, t2⟩ := i5 j hj
          exact ⟨by omega, t2⟩
        · by_cases q : v' = v
          · rw [q] at hr'; exact absurd hr' z
          · exact i7 v' (by omega) hr')
    (fun f w hI => by
      obtain ⟨i1, i2, m, vs, i3, i4, i5, i6, i7⟩ := hI
      have rw' : gv_Rf w := hr.eq (by rw [i1])
      have hall : ∀ x, isC S lo hi x → ∃ j, j < m ∧ lc lo (hi - lo + 1) (vs j) S = x := fun x hx => by
        obtain ⟨v, v1, v2, v3⟩ := lc_all hp hx
        obtain ⟨j, hj, e⟩ := i7 v v1 v2
        exact ⟨j, hj, by rw [e]; exact v3⟩
      have hone : isC S lo hi (cd (fun _ => lo) S) := ⟨fun _ => lo, ⟨fun s _ => ⟨Nat.le_refl _, hp'.2.2.2.1⟩, fun s _ => Nat.le_refl _⟩, rfl⟩
      have hm0 : 0 < m := by
        obtain ⟨j, hj, -⟩ := hall _ hone
        omega
      have hCj : ∀ j, j < m → isC S lo hi (lc lo (hi - lo + 1) (vs j) S) ∧ pP S (lc lo (hi - lo + 1) (vs j) S) = lp lo (hi - lo + 1) (vs j) S := fun j hj => lc_isC hp (i5 j hj).2.1
      have hV : Hv w (fun j => kk S (lc lo (hi - lo + 1) (vs j) S)) m := fun j hj => by
        obtain ⟨c1, c2⟩ := hCj j hj
        obtain ⟨q1, q2, q3⟩ := kk_at hp c1
        have q4 := (c1.prd hp).2
        obtain ⟨-, -, t1, t2, t3⟩ := i5 j hj
        show w.1 671 j = Int32.ofNat (kp (kk S _)) ∧ w.1 672 j = Int32.ofNat (kc (kk S _)) ∧ w.1 673 j = Int32.ofNat (kt (kk S _)) ∧ kp (kk S _) < 268435456
        rw [q1, q2, q3, c2]
        exact ⟨t1, t2, t3, by omega⟩
      obtain ⟨w1, a1, b1, b2, b3, b4, b5⟩ := gm_build (F := F) (by omega) rw' hV (by omega) i3 hm0
      have r1 := rw'.mh b3
      obtain ⟨w2, a2, e1, e2, e3, e4, e5⟩ := gm_order (F := F) (by omega) r1 b2 (by omega) hm0 b4
      have r2 := r1.mh e3
      obtain ⟨w3, y, M, g1, g2, g3, g4, g5, g6, g7, g8, g9⟩ := gm_once (F := F) (by omega) r2 e2 (by omega) (by rw [e3.2 670 9 (by omega), b3.2 670 9 (by omega)]; exact i3) e4
      have hset := b5.trans e5
      -- each key is a choice's
      have hkey : ∀ j, j < m → ∃ x, isC S lo hi x ∧ a2 j = kk S x := fun j hj => by
        obtain ⟨i, hi', e⟩ := hset.1 j hj
        exact ⟨_, (hCj i hi').1, e⟩
      have hkey2 : ∀ x, isC S lo hi x → ∃ j, j < m ∧ a2 j = kk S x := fun x hx => by
        obtain ⟨i, hi', e⟩ := hall x hx
        obtain ⟨j, hj, e2⟩ := hset.2 i hi'
        exact ⟨j, hj, by rw [e2]; show kk S (lc lo (hi - lo + 1) (vs i) S) = _; rw [e]⟩
      have hy : ∀ i, i < M → ∃ x, isRep S lo hi x ∧ y i = kk S x := fun i hi' => by
        obtain ⟨j, hj, e, hmin⟩ := g7 i hi'
        obtain ⟨x, x1, x2⟩ := hkey j hj
        obtain ⟨q1, q2, q3⟩ := kk_at hp x1
        refine ⟨x, ⟨x1, fun z hz hpz => ?_⟩, by rw [e, x2]⟩
        obtain ⟨j', hj', e'⟩ := hkey2 z hz
        obtain ⟨q1', q2', q3'⟩ := kk_at hp hz
        have h5 := hmin j' hj' (by rw [e', x2, q1, q1', hpz])
        rw [x2, e'] at h5
        have h6 : ¬ kk S z < kk S x := by omega
        rw [key_lt, q1, q1', q2, q2', q3, q3', hpz] at h6
        omega
      have hcode : ∀ i, i < M → isRep S lo hi (kc (y i)) ∧ kp (y i) = pP S (kc (y i)) ∧ kt (y i) = tT S (kc (y i)) := fun i hi' => by
        obtain ⟨x, x1, x2⟩ := hy i hi'
        obtain ⟨q1, q2, q3⟩ := kk_at hp x1.1
        rw [x2, q1, q2, q3]
        exact ⟨x1, rfl, rfl⟩
      refine ⟨w3, fun i => kc (y i), M, ?_, by omega, g3, by rw [g5, e3.1, b3.1, i1], fun p k q1 q2 => by rw [g6 p k q1 q2, e3.2 p k q1, b3.2 p k q1]; exact i2 p k q1 q2, fun i hi' => ?_, fun i i' h1 h2 => ?_, fun x hx => ?_⟩
      · show gf_Model_listChoices_S32 F gv_z _ w 670 _ _ = _
        unfold gf_Model_listChoices_S32
        rw [if_pos ((gi_le (by omega) (by omega)).mpr (Nat.le_refl _)), if_neg (by decide), i3, show (2 : Int32) = Int32.ofNat 2 from rfl, gi_div (by omega) (by omega) (by omega)]
        simp only [gf_nm]
        rw [b1, e1, g1]
      · obtain ⟨t1, t2, t3, -⟩ := g4 i hi'
        obtain ⟨v1, v2, v3⟩ := hcode i hi'
        dsimp only
        rw [← v2, ← v3]
        exact ⟨t1, t2, t3, v1⟩
      · dsimp only
        rw [← (hcode i (by omega)).2.1, ← (hcode i' h2).2.1]
        exact g8 i i' h1 h2
      · obtain ⟨j, hj, e⟩ := hkey2 x hx
        obtain ⟨i, hi', e2⟩ := g9 j hj
        refine ⟨i, hi', ?_⟩
        dsimp only
        rw [← (hcode i hi').2.1, e2, e, (kk_at hp hx).1])
  have hfin := two ((hi - lo + 1) ^ S) 0 u0 F (by omega) ⟨u0r, fun p k _ q2 => u0i p k q2, 0, fun _ => 0, by rw [← hu0, wi_same]; rfl, Nat.zero_le _, fun j hj => absurd hj (Nat.not_lt_zero j), fun i j hi' => absurd hi' (Nat.not_lt_zero i), fun v' hv' => absurd hv' (Nat.not_lt_zero v')⟩ (by omega)
  have hst : gf_Model_listChoices F gv_z u 670 = gf_Model_listChoices_L32 F gv_z F u0 670 (Int32.ofNat ((hi - lo + 1) ^ S)) (Int32.ofNat 0) := by
    have h2 : gf_Model_listChoices_L9 F gv_z F u0 670 1 0 = gf_Model_listChoices_L32 F gv_z F u0 670 (Int32.ofNat ((hi - lo + 1) ^ S)) (Int32.ofNat 0) := h1
    rw [← h2]
    show gf_Model_listChoices_b0 F gv_z u 670 = _
    unfold gf_Model_listChoices_b0
    simp only [gf_nm]
    rw [hu0]
  rw [hst]
  exact hfin
