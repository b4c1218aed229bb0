theorem hp_root {a : Nat → Nat} {n : Nat} (h : Hp1 a 0 n) : ∀ i, i < n → a i ≤ a 0 := by
  intro i
  induction i using Nat.strongRecOn with
  | ind i ih =>
    intro hi
    by_cases e : i = 0
    · rw [e]; exact Nat.le_refl _
    · have h1 := h ((i - 1) / 2) (Nat.zero_le _) i (by omega) hi
      have h2 := ih ((i - 1) / 2) (by omega) (by omega)
      omega
/-- the first loop: a heap -/
theorem gm_build {F : Nat} (hF : 50000 ≤ F) {u : gw_St} {a : Nat → Nat} {N : Nat} (hr : gv_Rf u) (h : Hv u a N) (hN : N ≤ 37820) (h9 : u.1 670 9 = Int32.ofNat N) (hN0 : 0 < N) : ∃ (w : gw_St) (a' : Nat → Nat), gf_Model_listChoices_L206 F gv_z F u 670 (Int32.ofNat (N / 2) - 1) = gf_Model_listChoices_L232 F gv_z F w 670 (Int32.ofNat (N - 1)) ∧ Hv w a' N ∧ Mh u w ∧ Hp1 a' 0 N ∧ Sme a a' N := by
  have run : ∀ (k f : Nat) (w : gw_St) (a1 : Nat → Nat), k ≤ N / 2 → k < f → Hv w a1 N → Mh u w → Hp1 a1 k N → Sme a a1 N → ∃ (w' : gw_St) (a' : Nat → Nat), gf_Model_listChoices_L206 F gv_z f w 670 (Int32.ofNat k - 1) = gf_Model_listChoices_L232 F gv_z F w' 670 (Int32.ofNat (N - 1)) ∧ Hv w' a' N ∧ Mh u w' ∧ Hp1 a' 0 N ∧ Sme a a' N := by
    intro k
    induction k with
    | zero =>
      intro f w a1 hk hf e1 e2 e3 e4
      obtain ⟨f, rfl⟩ : ∃ q, f = q + 1 := ⟨f - 1, by omega⟩
      refine ⟨w, a1, ?_, e1, e2, e3, e4⟩
      show gf_Model_listChoices_S206 F gv_z _ w 670 (Int32.ofNat 0 - 1) = _
      unfold gf_Model_listChoices_S206
      rw [if_pos (by decide)]
      simp only [gf_nm]
      rw [e2.2 670 9 (by omega), h9, show (1 : Int32) = Int32.ofNat 1 from rfl, gi_sub (by omega) (by omega)]
    | succ k ih =>
      intro f w a1 hk hf e1 e2 e3 e4
      obtain ⟨f, rfl⟩ : ∃ q, f = q + 1 := ⟨f - 1, by omega⟩
      obtain ⟨w1, a2, b1, b2, b3, b4, b5, b6⟩ := gm_sink (F := F) hF (hr.mh e2) e1 hN (Nat.le_refl N) (show k < N by omega) e3
      have := ih f w1 a2 (by omega) (by omega) b2 (e2.trans b3) b4 (e4.trans b5)
      rw [gi_sub1 (by omega)]
      show ∃ (w' : gw_St) (a' : Nat → Nat), gf_Model_listChoices_S206 F gv_z _ w 670 (Int32.ofNat k) = _ ∧ _
      unfold gf_Model_listChoices_S206
      rw [if_neg (gi_n0 (by omega)), e2.2 670 9 (by omega), h9, b1, Option.bind_some]
      simp only [gf_nm]
      rw [← Int32.sub_eq_add_neg]
      exact this
  exact run (N / 2) F u a (Nat.le_refl _) (by omega) h Mh.refl (fun i hi c hc hcn => by omega) Sme.refl
/-- the second loop: in order -/
theorem gm_order {F : Nat} (hF : 50000 ≤ F) {u : gw_St} {a : Nat → Nat} {N : Nat} (hr : gv_Rf u) (h : Hv u a N) (hN : N ≤ 37820) (hN0 : 0 < N) (hp : Hp1 a 0 N) : ∃ (w : gw_St) (a' : Nat → Nat), gf_Model_listChoices_L232 F gv_z F u 670 (Int32.ofNat (N - 1)) = gf_Model_listChoices_L258 F gv_z F w 670 0 0 ∧ Hv w a' N ∧ Mh u w ∧ (∀ i j, i ≤ j → j < N → a' i ≤ a' j) ∧ Sme a a' N := by
  have run : ∀ (n f : Nat) (w : gw_St) (a1 : Nat → Nat), n < N → n < f → Hv w a1 N → Mh u w → Hp1 a1 0 (n + 1) → (∀ i j, n < i → i ≤ j → j < N → a1 i ≤ a1 j) → (∀ i j, i ≤ n → n < j → j < N → a1 i ≤ a1 j) → Sme a a1 N → ∃ (w' : gw_St) (a' : Nat → Nat), gf_Model_listChoices_L232 F gv_z f w 670 (Int32.ofNat n) = gf_Model_listChoices_L258 F gv_z F w' 670 0 0 ∧ Hv w' a' N ∧ Mh u w' ∧ (∀ i j, i ≤ j → j < N → a' i ≤ a' j) ∧ Sme a a' N := by
    intro n
    induction n with
    | zero =>
      intro f w a1 hn hf e1 e2 e3 e4 e5 e6
      obtain ⟨f, rfl⟩ : ∃ q, f = q + 1 := ⟨f - 1, by omega⟩
      refine ⟨w, a1, ?_, e1, e2, fun i j hij hj => ?_, e6⟩
      · show gf_Model_listChoices_S232 F gv_z _ w 670 (Int32.ofNat 0) = _
        unfold gf_Model_listChoices_S232
        rw [if_pos (by decide)]
      · by_cases q : i = 0
        · by_cases q2 : j = 0
          · rw [q, q2]; exact Nat.le_refl _
          · exact e5 i j (by omega) (by omega) hj
        · exact e4 i j (by omega) hij hj
    | succ n ih =>
      intro f w a1 hn hf e1 e2 e3 e4 e5 e6
      obtain ⟨f, rfl⟩ : ∃ q, f = q + 1 := ⟨f - 1, by omega⟩
      have rw' := hr.mh e2
      obtain ⟨w1, b1, b2, b3⟩ := gm_swap (F := F) rw' e1 hN (show 0 < N by omega) hn
      have hmax := hp_root e3
      have hp1 : Hp1 (swp a1 0 (n + 1)) (0 + 1) (n + 1) := fun i hi c hc hcn => by
        rw [swp_ne (by omega) (by omega), swp_ne (by omega) (by omega)]
        exact e3 i (by omega) c hc (by omega)
      obtain ⟨w2, a2, c1, c2, c3, c4, c5, c6⟩ := gm_sink (F := F) hF (rw'.mh b3) b2 hN (show n + 1 ≤ N by omega) (show 0 < N by omega) hp1
      have htop : a2 (n + 1) = a1 0 := by rw [c6 (n + 1) (Nat.le_refl _), swp_j]
      have hhi : ∀ j, n + 1 < j → a2 j = a1 j := fun j hj => by rw [c6 j (by omega), swp_ne (by omega) (by omega)]
      have hlow : ∀ i, i ≤ n → ∃ j, j ≤ n + 1 ∧ a2 i = a1 j := fun i hi => by
        obtain ⟨j, hj, e⟩ := c5.1 i (by omega)
        by_cases q : j = 0
        · exact ⟨n + 1, Nat.le_refl _, by rw [e, q, swp_i]⟩
        · exact ⟨j, by omega, by rw [e, swp_ne q (by omega)]⟩
      have hs2 : Sme a1 a2 N := (Sme.swp (show 0 < N by omega) hn).trans (c5.up (by omega) c6)
      have := ih f w2 a2 (by omega) (by omega) c2 (e2.trans (b3.trans c3)) c4 (fun i j h1 h2 h3 => by
          by_cases q : i = n + 1
          · by_cases q2 : j = n + 1
            · rw [q, q2]; exact Nat.le_refl _
            · rw [q, htop, hhi j (by omega)]
              exact e5 0 j (by omega) (by omega) h3
          · rw [hhi i (by omega), hhi j (by omega)]
            exact e4 i j (by omega) h2 h3) (fun i j h1 h2 h3 => by
          obtain ⟨k, hk, e⟩ := hlow i h1
          rw [e]
          by_cases q2 : j = n + 1
          · rw [q2, htop]
            exact hmax k (by omega)
          · rw [hhi j (by omega)]
            exact e5 k j hk (by omega) h3) (e6.trans hs2)
      show ∃ (w' : gw_St) (a' : Nat → Nat), gf_Model_listChoices_S232 F gv_z _ w 670 (Int32.ofNat (n + 1)) = _ ∧ _
      unfold gf_Model_listChoices_S232
      rw [if_neg (fun e => by have := (gi_le0 (by omega)).mp e; omega), show gf_Model_swap F gv_z w 670 0 (Int32.ofNat (n + 1)) = some w1 from b1, Option.bind_some, show gf_Model_sink F gv_z w1 670 0 (Int32.ofNat (n + 1)) = some w2 from c1, Option.bind_some]
      simp only [gf_nm]
      rw [← Int32.sub_eq_add_neg, gi_sub1 (by omega)]
      exact this
  exact run (N - 1) F u a (by omega) (by omega) h Mh.refl (by rw [show N - 1 + 1 = N by omega]; exact hp) (fun i j h1 h2 h3 => by omega) (fun i j h1 h2 h3 => by omega) Sme.refl
/-- the third loop: each product once -/
theorem gm_once {F : Nat} (hF : 50000 ≤ F) {u : gw_St} {a : Nat → Nat} {N : Nat} (hr : gv_Rf u) (h : Hv u a N) (hN : N ≤ 37820) (h9 : u.1 670 9 = Int32.ofNat N) (hs : ∀ i j, i ≤ j → j < N → a i ≤ a j) : ∃ (w : gw_St) (b : Nat → Nat) (M : Nat), gf_Model_listChoices_L258 F gv_z F u 670 0 0 = some w ∧ M ≤ N ∧ w.1 670 9 = Int32.ofNat M ∧ Hv w b M ∧ w.2 = u.2 ∧ (∀ p k, ¬ (671 ≤ p ∧ p ≤ 673) → ¬ (p = 670 ∧ k = 9) → w.1 p k = u.1 p k) ∧ (∀ i, i < M → ∃ j, j < N ∧ b i = a j ∧ ∀ j', j' < N → kp (a j') = kp (a j) → a j ≤ a j') ∧ (∀ i i', i < i' → i' < M → kp (b i) < kp (b i')) ∧ ∀ j, j < N → ∃ i, i < M ∧ kp (b i) = kp (a j) := by
  have kmono : ∀ i j, i ≤ j → j < N → kp (a i) ≤ kp (a j) := fun i j h1 h2 => by
    have := hs i j h1 h2
    unfold kp
    omega
  have run : ∀ (d k f m : Nat) (w : gw_St) (b : Nat → Nat), k + d = N → d < f → m ≤ k → (k = 0 ↔ m = 0) → Hv w b N → Mh u w → (∀ i, k ≤ i → b i = a i) → (∀ i, i < m → ∃ j, j < k ∧ b i = a j ∧ ∀ j', j' < k → kp (a j') = kp (a j) → a j ≤ a j') → (∀ i i', i < i' → i' < m → kp (b i) < kp (b i')) → (∀ j, j < k → ∃ i, i < m ∧ kp (b i) = kp (a j)) → (0 < k → kp (b (m - 1)) = kp (a (k - 1))) → ∃ (w' : gw_St) (b' : Nat → Nat) (M : Nat), gf_Model_listChoices_L258 F gv_z f w 670 (Int32.ofNat m) (Int32.ofNat k) = some w' ∧ M ≤ N ∧ w'.1 670 9 = Int32.ofNat M ∧ Hv w' b' M ∧ w'.2 = u.2 ∧ (∀ p k, ¬ (671 ≤ p ∧ p ≤ 673) → ¬ (p = 670 ∧ k = 9) → w'.1 p k = u.1 p k) ∧ (∀ i, i < M → ∃ j, j < N ∧ b' i = a j ∧ ∀ j', j' < N → kp (a j') = kp (a j) → a j ≤ a j') ∧ (∀ i i', i < i' → i' < M → kp (b' i) < kp (b' i')) ∧ ∀ j, j < N → ∃ i, i < M ∧ kp (b' i) = kp (a j) := by
    intro d
    induction d with
    | zero =>
      intro k f m w b hk hf hm hz e1 e2 e3 e4 e5 e6 e7
      obtain ⟨f, rfl⟩ : ∃ q, f = q + 1 := ⟨f - 1, by omega⟩
      have : k = N := by omega
      subst this
      refine ⟨gw_wi w 670 9 (Int32.ofNat m), b, m, ?_, hm, wi_same, fun i hi => ?_, e2.1, fun p j q1 q2 => by rw [wi_ne q2]; exact e2.2 p j q1, e4, e5, e6⟩
      · show gf_Model_listChoices_S258 F gv_z _ w 670 (Int32.ofNat m) (Int32.ofNat k) = _
        unfold gf_Model_listChoices_S258
        rw [e2.2 670 9 (by omega), h9, if_pos ((gi_le (by omega) (by omega)).mpr (Nat.le_refl _))]
        rfl
      · rw [wi_ne (by omega), wi_ne (by omega), wi_ne (by omega)]
        exact e1 i (by omega)
    | succ d ih =>
      intro k f m w b hk hf hm hz e1 e2 e3 e4 e5 e6 e7
      obtain ⟨f, rfl⟩ : ∃ q, f = q + 1 := ⟨f - 1, by omega⟩
      have hkN : k < N := by omega
      have rw' := hr.mh e2
      have bk : b k = a k := e3 k (Nat.le_refl _)
      obtain ⟨x1, x2, x3, x4⟩ := e1 k hkN
      -- the entry is kept
      have keep : (∀ i, i < m → kp (b i) < kp (a k)) → ∃ (w' : gw_St) (b' : Nat → Nat) (M : Nat), gf_Model_listChoices_b287 F gv_z (gf_Model_listChoices_L258 F gv_z f) w 670 (Int32.ofNat m) (Int32.ofNat k) = some w' ∧ M ≤ N ∧ w'.1 670 9 = Int32.ofNat M ∧ Hv w' b' M ∧ w'.2 = u.2 ∧ (∀ p k, ¬ (671 ≤ p ∧ p ≤ 673) → ¬ (p = 670 ∧ k = 9) → w'.1 p k = u.1 p k) ∧ (∀ i, i < M → ∃ j, j < N ∧ b' i = a j ∧ ∀ j', j' < N → kp (a j') = kp (a j) → a j ≤ a j') ∧ (∀ i i', i < i' → i' < M → kp (b' i) < kp (b' i')) ∧ ∀ j, j < N → ∃ i, i < M ∧ kp (b' i) = kp (a j) := by
        intro hlt
        obtain ⟨w3, hw3⟩ : ∃ w3, w3 = gw_wi (gw_wi (gw_wi w 671 m (w.1 671 k)) 672 m (w.1 672 k)) 673 m (w.1 673 k) := ⟨_, rfl⟩
        have hv : ∀ p j, w3.1 p j = if 671 ≤ p ∧ p ≤ 673 ∧ j = m then w.1 p k else w.1 p j := fun p j => by
          rw [hw3]
          by_cases q3 : p = 673 ∧ j = m
          · rw [q3.1, q3.2, wi_same, if_pos (by omega)]
          · rw [wi_ne q3]
            by_cases q2 : p = 672 ∧ j = m
            · rw [q2.1, q2.2, wi_same, if_pos (by omega)]
            · rw [wi_ne q2]
              by_cases q1 : p = 671 ∧ j = m
              · rw [q1.1, q1.2, wi_same, if_pos (by omega)]
              · rw [wi_ne q1, if_neg (by omega)]
        have hbm : ∀ i, exr b m (a k) i = if i = m then a k else b i := fun i => rfl
        have hvk : Hv w3 (exr b m (a k)) N := fun i hi => by
          rw [hv 671 i, hv 672 i, hv 673 i, hbm]
          by_cases q : i = m
          · rw [if_pos (show 671 ≤ 671 ∧ 671 ≤ 673 ∧ i = m by omega), if_pos (show 671 ≤ 672 ∧ 672 ≤ 673 ∧ i = m by omega), if_pos (show 671 ≤ 673 ∧ 673 ≤ 673 ∧ i = m by omega), if_pos q, ← bk]
            exact ⟨x1, x2, x3, x4⟩
          · rw [if_neg (show ¬ (671 ≤ 671 ∧ 671 ≤ 673 ∧ i = m) by omega), if_neg (show ¬ (671 ≤ 672 ∧ 672 ≤ 673 ∧ i = m) by omega), if_neg (show ¬ (671 ≤ 673 ∧ 673 ≤ 673 ∧ i = m) by omega), if_neg q]
            exact e1 i hi
        have hm3 : Mh w w3 := ⟨by rw [hw3]; rfl, fun p j q => by rw [hv, if_neg (by omega)]⟩
        have := ih (k + 1) f (m + 1) w3 (exr b m (a k)) (by omega) (by omega) (by omega) (by omega) hvk (e2.trans hm3) (fun i hi => by rw [hbm, if_neg (by omega)]; exact e3 i (by omega)) (fun i hi => by
            rw [hbm]
            by_cases q : i = m
            · rw [if_pos q]
              refine ⟨k, by omega, rfl, fun j' hj' he => ?_⟩
              by_cases q2 : j' = k
              · rw [q2]; exact Nat.le_refl _
              · obtain ⟨i2, hi2, e⟩ := e6 j' (by omega)
                have := hlt i2 hi2
                omega
            · rw [if_neg q]
              obtain ⟨j, hj, e, hmin⟩ := e4 i (by omega)
              refine ⟨j, by omega, e, fun j' hj' he => ?_⟩
              by_cases q2 : j' = k
              · have := hlt i (by omega)
                rw [e, ← he, q2] at this
                omega
              · exact hmin j' (by omega) he) (fun i i' h1 h2 => by
            rw [hbm, hbm, if_neg (by omega)]
            by_cases q : i' = m
            · rw [if_pos q]; exact hlt i (by omega)
            · rw [if_neg q]; exact e5 i i' h1 (by omega)) (fun j hj => by
            by_cases q : j = k
            · exact ⟨m, by omega, by rw [hbm, if_pos rfl, q]⟩
            · obtain ⟨i, hi, e⟩ := e6 j (by omega)
              exact ⟨i, by omega, by rw [hbm, if_neg (by omega)]; exact e⟩) (fun _ => by rw [hbm, if_pos (by omega), Nat.add_sub_cancel])
        unfold gf_Model_listChoices_b287 gf_Model_listChoices_b326
        have e10 : w.2.2 670 10 = 671 + 1 := rw'.get rfl gv_r670_10
        have e11 : w.2.2 670 11 = 672 + 1 := rw'.get rfl gv_r670_11
        have e12 : w.2.2 670 12 = 673 + 1 := rw'.get rfl gv_r670_12
        have ek : (Int32.ofNat k).toNatClampNeg = k := i32_clamp (by omega)
        have em : (Int32.ofNat m).toNatClampNeg = m := i32_clamp (by omega)
        have gK : ∀ q, gv_z.2.2 q = 37820 → ¬ (Int32.ofNat k < 0 ∨ gv_z.2.2 q ≤ (Int32.ofNat k).toNatClampNeg) := fun q hq => gi_ix (by rw [hq]; omega) (by omega)
        have gM : ∀ q, gv_z.2.2 q = 37820 → ¬ (Int32.ofNat m < 0 ∨ gv_z.2.2 q ≤ (Int32.ofNat m).toNatClampNeg) := fun q hq => gi_ix (by rw [hq]; omega) (by omega)
        rw [e10, gnn, gnn, if_neg (gK 671 gv_l671), if_neg (gM 671 gv_l671)]
        simp only [gf_nm]
        rw [show (gw_wi w 671 (Int32.ofNat m).toNatClampNeg (w.1 671 (Int32.ofNat k).toNatClampNeg)).2.2 670 11 = 672 + 1 from e11, gnn, gnn, if_neg (gK 672 gv_l672), if_neg (gM 672 gv_l672)]
        rw [show (gw_wi (gw_wi w 671 (Int32.ofNat m).toNatClampNeg (w.1 671 (Int32.ofNat k).toNatClampNeg)) 672 (Int32.ofNat m).toNatClampNeg ((gw_wi w 671 (Int32.ofNat m).toNatClampNeg (w.1 671 (Int32.ofNat k).toNatClampNeg)).1 672 (Int32.ofNat k).toNatClampNeg)).2.2 670 12 = 673 + 1 from e12, gnn, gnn, if_neg (gK 673 gv_l673), if_neg (gM 673 gv_l673), ek, em, wi_ne (show ¬ (672 = 671 ∧ k = m) by omega), wi_ne (show ¬ (673 = 672 ∧ k = m) by omega), wi_ne (show ¬ (673 = 671 ∧ k = m) by omega), ← hw3, gw_iS, gw_iS]
        exact this
      have hS : gf_Model_listChoices_L258 F gv_z (f + 1) w 670 (Int32.ofNat m) (Int32.ofNat k) = if m = 0 then gf_Model_listChoices_b287 F gv_z (gf_Model_listChoices_L258 F gv_z f) w 670 (Int32.ofNat m) (Int32.ofNat k) else if kp (b (m - 1)) = kp (a k) then gf_Model_listChoices_L258 F gv_z f w 670 (Int32.ofNat m) (Int32.ofNat (k + 1)) else gf_Model_listChoices_b287 F gv_z (gf_Model_listChoices_L258 F gv_z f) w 670 (Int32.ofNat m) (Int32.ofNat k) := by
        show gf_Model_listChoices_S258 F gv_z _ w 670 (Int32.ofNat m) (Int32.ofNat k) = _
        unfold gf_Model_listChoices_S258
        rw [e2.2 670 9 (by omega), h9, if_neg (fun e => by have := (gi_le (by omega) (by omega)).mp e; omega)]
        by_cases q : m = 0
        · rw [if_pos q, if_pos (by rw [q]; rfl)]
        · rw [if_neg q, if_neg (fun e => q ((gi_eq0 (by omega)).mp e)), rw'.get rfl gv_r670_10, gnn, show (1 : Int32) = Int32.ofNat 1 from rfl, gi_sub (by omega) (by omega), if_neg (gi_ix (by rw [gv_l671]; omega) (by omega)), gnn, if_neg (gi_ix (by rw [gv_l671]; omega) (by omega)), i32_clamp (n := m - 1) (by omega), i32_clamp (n := k) (by omega), (e1 (m - 1) (by omega)).1, x1, bk]
          have b1 := (e1 (m - 1) (by omega)).2.2.2
          rw [bk] at x4
          by_cases z : kp (b (m - 1)) = kp (a k)
          · rw [if_pos z, if_pos (by rw [z])]
            unfold gf_Model_listChoices_b326
            simp only [gf_nm]
            rw [gw_iS]
          · rw [if_neg z, if_neg (fun e => z ((gi_eq (by omega) (by omega)).mp e))]
      rw [hS]
      by_cases q : m = 0
      · rw [if_pos q]
        exact keep (fun i hi => by omega)
      · rw [if_neg q]
        have hk0 : 0 < k := by
          apply Classical.byContradiction
          intro z
          exact q (hz.mp (by omega))
        have hlast := e7 hk0
        by_cases z : kp (b (m - 1)) = kp (a k)
        · rw [if_pos z]
          refine ih (k + 1) f m w b (by omega) (by omega) (by omega) (by omega) e1 e2 (fun i hi => e3 i (by omega)) (fun i hi => ?_) e5 (fun j hj => ?_) (fun _ => by rw [Nat.add_sub_cancel]; exact z)
          · obtain ⟨j, hj, e, hmin⟩ := e4 i hi
            refine ⟨j, by omega, e, fun j' hj' he => ?_⟩
            by_cases q2 : j' = k
            · rw [q2]; exact hs j k (by omega) hkN
            · exact hmin j' (by omega) he
          · by_cases q2 : j = k
            · exact ⟨m - 1, by omega, by rw [q2]; exact z⟩
            · exact e6 j (by omega)
        · rw [if_neg z]
          refine keep (fun i hi => ?_)
          have h1 := kmono (k - 1) k (by omega) hkN
          by_cases q2 : i = m - 1
          · rw [q2]; omega
          · have := e5 i (m - 1) (by omega) (by omega)
            omega
  exact run N 0 F 0 u a (by omega) (by omega) (Nat.le_refl _) ⟨fun h => h, fun h => h⟩ h Mh.refl (fun _ _ => rfl) (fun i hi => absurd hi (Nat.not_lt_zero i)) (fun i i' _ hi => absurd hi (Nat.not_lt_zero i')) (fun j hj => absurd hj (Nat.not_lt_zero j)) (fun h => absurd h (Nat.lt_irrefl 0))
