/-! all calls together -/
def gv_Iv (u : gw_St) : Prop := gv_Rf u ∧ (∃ n r B, gv_Wk u n r ∧ gv_Dl u n ∧ gv_Sp u n B) ∧ gv_Rs u ∧ gv_Pr u ∧ gv_Pc u ∧ gv_Ta u
theorem gv_Pc.same {u w : gw_St} (h : gv_Pc u) (e1 : w.2.2 22 11 = u.2.2 22 11) (e2 : w.2.2 22 12 = u.2.2 22 12) : gv_Pc w := by
  obtain ⟨p, p1, p2, p3⟩ := h
  exact ⟨p, p1, e1.trans p2, e2.trans p3⟩
theorem gv_Pr.same {u w : gw_St} (h : gv_Pr u) (e : ∀ k, w.1 691 k = u.1 691 k) : gv_Pr w := fun k hk => by rw [e]; exact h k hk
theorem off_keep {S : Nat → Nat → Bool} {u w : gw_St} (h : gv_off S u w) (hS : ∀ p k, (p ≤ 5 ∨ (10 ≤ p ∧ p ≤ 56) ∨ (59 ≤ p ∧ p ≤ 669) ∨ (p = 670 ∧ 1 ≤ k ∧ k ≤ 17) ∨ (682 ≤ p ∧ p ≤ 700)) → S p k = false) (hr : gv_Rf u) (hs : gv_Rs u) (hp : gv_Pr u) (hc : gv_Pc u) (ht : gv_Ta u) : gv_Rf w ∧ gv_Rs w ∧ gv_Pr w ∧ gv_Pc w ∧ gv_Ta w := by
  refine ⟨hr.eq h.2, hs.same (fun p k q => (h.1 p k (hS p k (by omega))).1), hp.same (fun k => (h.1 691 k (hS 691 k (by omega))).1), hc.same (by rw [h.2]) (by rw [h.2]), ht.same (fun k => (h.1 1 k (hS 1 k (by omega))).1) (fun k q1 q2 => (h.1 670 k (hS 670 k (by omega))).1) (fun p k q => (h.1 p k (hS p k (by omega))).2) (fun k q1 q2 => (h.1 670 k (hS 670 k (by omega))).2) (by rw [h.2]) (by rw [h.2])⟩
theorem S_thr_k : ∀ p k, (p ≤ 5 ∨ (10 ≤ p ∧ p ≤ 56) ∨ (59 ≤ p ∧ p ≤ 669) ∨ (p = 670 ∧ 1 ≤ k ∧ k ≤ 17) ∨ (682 ≤ p ∧ p ≤ 700)) → gv_S_thr p k = false := fun p k h => by
  simp only [gv_S_thr, Bool.or_eq_false_iff, Bool.and_eq_false_iff, beq_eq_false_iff_ne, ne_eq]
  omega
theorem S_crank_k : ∀ p k, (p ≤ 5 ∨ (10 ≤ p ∧ p ≤ 56) ∨ (59 ≤ p ∧ p ≤ 669) ∨ (p = 670 ∧ 1 ≤ k ∧ k ≤ 17) ∨ (682 ≤ p ∧ p ≤ 700)) → gv_S_crank p k = false := fun p k h => by
  simp only [gv_S_crank, Bool.or_eq_false_iff, Bool.and_eq_false_iff, beq_eq_false_iff_ne, ne_eq]
  omega
theorem S_gear_k : ∀ p k, (p ≤ 5 ∨ (10 ≤ p ∧ p ≤ 56) ∨ (59 ≤ p ∧ p ≤ 669) ∨ (p = 670 ∧ 1 ≤ k ∧ k ≤ 17) ∨ (682 ≤ p ∧ p ≤ 700)) → gv_S_gear p k = false := fun p k h => by
  simp only [gv_S_gear, Bool.or_eq_false_iff, Bool.and_eq_false_iff, beq_eq_false_iff_ne, ne_eq]
  omega
theorem S_rel_k : ∀ p k, (p ≤ 5 ∨ (10 ≤ p ∧ p ≤ 56) ∨ (59 ≤ p ∧ p ≤ 669) ∨ (p = 670 ∧ 1 ≤ k ∧ k ≤ 17) ∨ (682 ≤ p ∧ p ≤ 700)) → gv_S_rel p k = false := fun p k h => by
  simp only [gv_S_rel, Bool.or_eq_false_iff, Bool.and_eq_false_iff, beq_eq_false_iff_ne, ne_eq]
  omega
theorem S_dial_k : ∀ p k, (p ≤ 5 ∨ (10 ≤ p ∧ p ≤ 56) ∨ (59 ≤ p ∧ p ≤ 669) ∨ (p = 670 ∧ 1 ≤ k ∧ k ≤ 17) ∨ (682 ≤ p ∧ p ≤ 700)) → gv_S_dial p k = false := fun p k h => by
  simp only [gv_S_dial, Bool.or_eq_false_iff, Bool.and_eq_false_iff, beq_eq_false_iff_ne, ne_eq]
  omega
theorem off_dl {S : Nat → Nat → Bool} {u w : gw_St} {n m : Nat} (h : gv_off S u w) (hS : ∀ p k, gv_T_dl p = true → S p k = false) (hl : gv_Dl u n) (hm : n ≤ m) : gv_Dl w m := hl.same hm (fun p k q => (h.1 p k (hS p k q)).1)
theorem off_sp {S : Nat → Nat → Bool} {u w : gw_St} {n B : Nat} (h : gv_off S u w) (hS : ∀ p k, (64 ≤ p ∧ p ≤ 669) ∨ (681 ≤ p ∧ p ≤ 684) → S p k = false) (hn : n ≤ 60) (hs : gv_Sp u n B) : gv_Sp w n B := by
  have hB := hs.1
  exact hs.same hn (by rw [h.2]) (by rw [h.2]) (fun p k q => (h.1 p k (hS p k (by omega))).1)
/-- a call of which only thrown and the answer are changed, or gears, relations, crank -/
theorem iv_op {S : Nat → Nat → Bool} {u : gw_St} {n r r' B : Nat} {β : Type} {lw : Option (Int32 × gw_St)} {md : gw_St → Option (β × gw_St)} {cmp : gw_St → β → Prop} (hI : gv_Rf u ∧ gv_Rs u ∧ gv_Pr u ∧ gv_Pc u ∧ gv_Ta u) (hl : gv_Dl u n) (hs : gv_Sp u n B) (hn : n ≤ 60) (hS1 : ∀ p k, (p ≤ 5 ∨ (10 ≤ p ∧ p ≤ 56) ∨ (59 ≤ p ∧ p ≤ 669) ∨ (p = 670 ∧ 1 ≤ k ∧ k ≤ 17) ∨ (682 ≤ p ∧ p ≤ 700)) → S p k = false) (hS2 : ∀ p k, gv_T_dl p = true → S p k = false) (hS3 : ∀ p k, (64 ≤ p ∧ p ≤ 669) ∨ (681 ≤ p ∧ p ≤ 684) → S p k = false) (h : gv_Op S u n r' lw md cmp) : ∃ k a u1 u2, lw = some (k, u1) ∧ md u1 = some (a, u2) ∧ u2.1 670 0 = k ∧ (k = 0 → cmp u2 a) ∧ gv_Iv u2 := by
  obtain ⟨k, a, u1, u2, h1, h2, h3, h4, h5, h6⟩ := h
  obtain ⟨i1, i2, i3, i4, i5⟩ := hI
  obtain ⟨j1, j2, j3, j4, j5⟩ := off_keep h6 hS1 i1 i2 i3 i4 i5
  exact ⟨k, a, u1, u2, h1, h2, h3, h4, j1, ⟨n, r', B, h5, off_dl h6 hS2 hl (Nat.le_refl _), off_sp h6 hS3 hn hs⟩, j2, j3, j4, j5⟩
theorem iv_thr {u w : gw_St} (h : gv_Iv u) (g : gv_off gv_S_thr u w) : gv_Iv w := by
  obtain ⟨i1, ⟨n, r, B, w1, w2, w3⟩, i2, i3, i4, i5⟩ := h
  obtain ⟨j1, j2, j3, j4, j5⟩ := off_keep g S_thr_k i1 i2 i3 i4 i5
  refine ⟨j1, ⟨n, r, B, w1.off g, off_dl g (fun p k q => ?_) w2 (Nat.le_refl _), off_sp g (fun p k q => ?_) w1.1 w3⟩, j2, j3, j4, j5⟩
  · simp only [gv_T_dl, Bool.or_eq_true, beq_iff_eq] at q
    simp only [gv_S_thr, Bool.or_eq_false_iff, Bool.and_eq_false_iff, beq_eq_false_iff_ne, ne_eq]
    omega
  · simp only [gv_S_thr, Bool.or_eq_false_iff, Bool.and_eq_false_iff, beq_eq_false_iff_ne, ne_eq]
    omega
theorem iv_hf {u w : gw_St} (h : gv_Iv u) (g : Hf u w) (hR : gv_Rs w) : gv_Iv w := by
  obtain ⟨i1, ⟨n, r, B, w1, w2, w3⟩, i2, i3, i4, i5⟩ := h
  obtain ⟨g1, g2, g3⟩ := g
  have hB := w3.1
  refine ⟨i1.eq g1, ⟨n, r, B, w1.same (fun p k q => ?_), w2.same (Nat.le_refl _) (fun p k q => ?_), w3.same w1.1 (by rw [g1]) (by rw [g1]) (fun p k q => g3 p k (by omega) (by omega) (by omega) (by omega) (by omega))⟩, hR, i3.same (fun k => g3 691 k (by omega) (by omega) (by omega) (by omega) (by omega)), i4.same (by rw [g1]) (by rw [g1]), i5.same (fun k => g3 1 k (by omega) (by omega) (by omega) (by omega) (by omega)) (fun k q1 q2 => g3 670 k (by omega) (by omega) (by omega) (by omega) (by omega)) (fun p k q => g2 p k (by omega) (by omega)) (fun k _ _ => g2 670 k (by omega) (by omega)) (by rw [g1]) (by rw [g1])⟩
  · simp only [gv_T_wk, Bool.or_eq_true, Bool.and_eq_true, beq_iff_eq] at q
    exact g3 p k (by omega) (by omega) (by omega) (by omega) (by omega)
  · simp only [gv_T_dl, Bool.or_eq_true, beq_iff_eq] at q
    exact g3 p k (by omega) (by omega) (by omega) (by omega) (by omega)
theorem iv_tf {u w : gw_St} (h : gv_Iv u) (g : Tf u w) (hT : gv_Ta w) : gv_Iv w := by
  obtain ⟨i1, ⟨n, r, B, w1, w2, w3⟩, i2, i3, i4, i5⟩ := h
  obtain ⟨g1, g2⟩ := g
  have hB := w3.1
  refine ⟨fun p k hf => ?_, ⟨n, r, B, w1.same (fun p k q => ?_), w2.same (Nat.le_refl _) (fun p k q => ?_), w3.same w1.1 (g1 0 7 (by omega)) (g1 0 8 (by omega)) (fun p k q => g2 p k (by omega) (by omega) (by omega) (by omega) (by omega))⟩, i2.same (fun p k q => g2 p k (by omega) (by omega) (by omega) (by omega) (by omega)), i3.same (fun k => g2 691 k (by omega) (by omega) (by omega) (by omega) (by omega)), i4.same (g1 22 11 (by omega)) (g1 22 12 (by omega)), hT⟩
  · rw [g1 p k (fun e => by
      obtain ⟨e1, e2⟩ := e
      subst e1
      rcases e2 with e2 | e2 <;> subst e2 <;> exact absurd hf (by decide))]
    exact i1 p k hf
  · simp only [gv_T_wk, Bool.or_eq_true, Bool.and_eq_true, beq_iff_eq] at q
    exact g2 p k (by omega) (by omega) (by omega) (by omega) (by omega)
  · simp only [gv_T_dl, Bool.or_eq_true, beq_iff_eq] at q
    exact g2 p k (by omega) (by omega) (by omega) (by omega) (by omega)
theorem iv_sf {u w : gw_St} (h : gv_Iv u) (g : Sf u w) (hc : gv_Pc w) (hs : ∀ n r, gv_Wk u n r → (∃ B, gv_Sp u n B) → ∃ B', gv_Sp w n B') : gv_Iv w := by
  obtain ⟨i1, ⟨n, r, B, w1, w2, w3⟩, i2, i3, i4, i5⟩ := h
  obtain ⟨B', hs'⟩ := hs n r w1 ⟨B, w3⟩
  refine ⟨i1.sf g, ⟨n, r, B', w1.sf g, w2.same (Nat.le_refl _) (fun p k q => ?_), hs'⟩, i2.same (fun p k q => g.2.2 p k (by omega) (by omega) (by omega) (by omega) (by omega)), i3.sf g, hc, i5.same (fun k => g.2.2 1 k (by omega) (by omega) (by omega) (by omega) (by omega)) (fun k q1 q2 => g.2.2 670 k (by omega) (by omega) (by omega) (by omega) (by omega)) (fun p k q => g.2.1 p k (by omega)) (fun k _ _ => g.2.1 670 k (by omega)) (g.1 1 0 (by omega) (by omega)) (g.1 1 1 (by omega) (by omega))⟩
  simp only [gv_T_dl, Bool.or_eq_true, beq_iff_eq] at q
  exact g.2.2 p k (by omega) (by omega) (by omega) (by omega) (by omega)
theorem T_dl_rel : ∀ p k, gv_T_dl p = true → gv_S_rel p k = false := fun p k q => by
  simp only [gv_T_dl, Bool.or_eq_true, beq_iff_eq] at q
  simp only [gv_S_rel, Bool.or_eq_false_iff, Bool.and_eq_false_iff, beq_eq_false_iff_ne, ne_eq]
  omega
theorem T_sp_rel : ∀ p k, (64 ≤ p ∧ p ≤ 669) ∨ (681 ≤ p ∧ p ≤ 684) → gv_S_rel p k = false := fun p k q => by
  simp only [gv_S_rel, Bool.or_eq_false_iff, Bool.and_eq_false_iff, beq_eq_false_iff_ne, ne_eq]
  omega
/-- one round keeps the invariant -/
theorem gv_round {xs : Nat → Int32} {L : Nat} (hL : L ≤ 3072) (u : gw_St) (i : Nat) (hI : gv_Iv u) (hi : i + 6 ≤ L) : gv_R gv_F xs L gv_z u gv_Iv i := by
  have hF := gv_F32
  obtain ⟨i1, ⟨n, r, B, w1, w2, w3⟩, i2, i3, i4, i5⟩ := id hI
  have hI5 : gv_Rf u ∧ gv_Rs u ∧ gv_Pr u ∧ gv_Pc u ∧ gv_Ta u := ⟨i1, i2, i3, i4, i5⟩
  have hn := w1.1
  have hB := w3.1
  rcases gv_32 (xs i) with h | h | h | h | h | h | h | h | h | h | h | h | h | h | h | h | h | h | h | h | h | h | h
  · obtain ⟨k, a, u1, u2, h1, h2, h3, h4, h5, h6⟩ := gs_want (F := gv_F) (by omega) i1 i5 (xs (i + 1)) (xs (i + 2)) (xs (i + 3)) (xs (i + 4)) (xs (i + 5))
    exact gv_op0 hL hi gv_zo h ⟨k, a, u1, u2, h1, h2, h3, h4, iv_tf hI h6 h5⟩
  · obtain ⟨k, a, u1, u2, h1, h2, h3, h4, h5, h6⟩ := gs_search (F := gv_F) (by omega) i1 i5 (xs (i + 1))
    exact gv_op1 hL hi gv_zo h ⟨k, a, u1, u2, h1, h2, h3, h4, iv_tf hI h6 h5⟩
  · obtain ⟨k, a, u1, u2, h1, h2, h3, h4, h5, h6⟩ := gs_tooth (F := gv_F) (by omega) i1 i5 (xs (i + 1)) (xs (i + 2))
    exact gv_op2 hL hi gv_zo h ⟨k, a, u1, u2, h1, h2, h3, h4, iv_tf hI h6 h5⟩
  · obtain ⟨k, a, u1, u2, h1, h2, h3, h4, h5, h6⟩ := gs_error (F := gv_F) (by omega) i1 i5 (xs (i + 1))
    exact gv_op3 hL hi gv_zo h ⟨k, a, u1, u2, h1, h2, h3, h4, iv_tf hI h6 h5⟩
  · obtain ⟨k, a, u1, u2, h1, h2, h3, h4, h5, h6⟩ := gs_quotient (F := gv_F) hF w1 (xs (i + 1)) (xs (i + 2)) (xs (i + 3))
    exact gv_op4 hL hi gv_zo h ⟨k, a, u1, u2, h1, h2, h3, h4, iv_thr hI h6⟩
  · obtain ⟨n', hn', k, a, u1, u2, h1, h2, h3, h4, h5, h6, h7, h8⟩ := gs_gear (F := gv_F) i1 w1 (xs (i + 1))
    obtain ⟨j1, j2, j3, j4, j5⟩ := off_keep h6 S_gear_k i1 i2 i3 i4 i5
    refine gv_op5 hL hi gv_zo h ⟨k, a, u1, u2, h1, h2, h3, h4, j1, ⟨n', r, B, h5, off_dl h6 (fun p k q => ?_) w2 hn', ?_⟩, j2, j3, j4, j5⟩
    · simp only [gv_T_dl, Bool.or_eq_true, beq_iff_eq] at q
      simp only [gv_S_gear, Bool.or_eq_false_iff, Bool.and_eq_false_iff, beq_eq_false_iff_ne, ne_eq]
      omega
    · have hSB : ∀ p k, (64 ≤ p ∧ p ≤ 669) ∨ (682 ≤ p ∧ p ≤ 684) → u2.1 p k = u.1 p k := fun p k q => (h6.1 p k (S_gear_k p k (by omega))).1
      have hn60 := h5.1
      obtain ⟨s1, s2, s3, s4, s5, s6, s7⟩ := w3
      refine ⟨s1, by rw [h6.2]; exact s2, by rw [h6.2]; exact s3, fun g hg => by rw [hSB _ _ (by omega)]; exact s4 g hg, fun g q1 q2 => by rw [hSB _ _ (by omega)]; exact s5 g (by omega) q2, fun g hg => ?_, fun g hg hk => ?_⟩
      · rw [hSB (B + 1) g (by omega)]
        by_cases q : g < n
        · rw [h7 g q]; exact s6 g q
        · rw [h8 g (by omega) hg, s5 g (by omega) (by omega)]
      · rw [hSB (B + 1) g (by omega)] at hk
        have q : g < n := by
          apply Classical.byContradiction
          intro q
          rw [s5 g (by omega) (by omega)] at hk
          exact absurd hk (by decide)
        obtain ⟨x, y, ⟨f1, f2⟩, b1, b2, b3, b4, b5, b6⟩ := s7 g q hk
        have far : ∀ q, B + 3 + 5 * g ≤ q → q ≤ B + 3 + 5 * g + 4 → ∀ i, u2.1 q i = u.1 q i := fun q z1 z2 i => hSB q i (by omega)
        refine ⟨x, y, ⟨f1.same (far _ (by omega) (by omega)) (far _ (by omega) (by omega)), f2.same (far _ (by omega) (by omega)) (far _ (by omega) (by omega))⟩, b1, b2, b3, by rw [hSB 682 g (by omega)]; exact b4, ?_, ?_⟩
        · unfold Iw
          rw [show u2.1 683 = u.1 683 from funext fun k => hSB 683 k (by omega)]
          exact b5
        · unfold Iw
          rw [show u2.1 684 = u.1 684 from funext fun k => hSB 684 k (by omega)]
          exact b6
  · obtain ⟨r', ho⟩ := gs_mesh (F := gv_F) i1 w1 (xs (i + 1)) (xs (i + 2))
    exact gv_op6 hL hi gv_zo h (iv_op (r := r) hI5 w2 w3 hn S_rel_k T_dl_rel T_sp_rel ho)
  · obtain ⟨r', ho⟩ := gs_inner (F := gv_F) i1 w1 (xs (i + 1)) (xs (i + 2))
    exact gv_op7 hL hi gv_zo h (iv_op (r := r) hI5 w2 w3 hn S_rel_k T_dl_rel T_sp_rel ho)
  · obtain ⟨r', ho⟩ := gs_arbor (F := gv_F) i1 w1 (xs (i + 1)) (xs (i + 2))
    exact gv_op8 hL hi gv_zo h (iv_op (r := r) hI5 w2 w3 hn S_rel_k T_dl_rel T_sp_rel ho)
  · obtain ⟨r', ho⟩ := gs_planet (F := gv_F) i1 w1 (xs (i + 1)) (xs (i + 2)) (xs (i + 3))
    exact gv_op9 hL hi gv_zo h (iv_op (r := r) hI5 w2 w3 hn S_rel_k T_dl_rel T_sp_rel ho)
  · obtain ⟨r', ho⟩ := gs_remove (F := gv_F) (by omega) i1 w1 (xs (i + 1))
    exact gv_op10 hL hi gv_zo h (iv_op (r := r) hI5 w2 w3 hn S_rel_k T_dl_rel T_sp_rel ho)
  · obtain ⟨k, a, u1, u2, h1, h2, h3, h4, h5, h6⟩ := gs_relation (F := gv_F) i1 w1 (xs (i + 1)) (xs (i + 2))
    exact gv_op11 hL hi gv_zo h ⟨k, a, u1, u2, h1, h2, h3, h4, iv_thr hI h6⟩
  · have ho := gs_crank (F := gv_F) i1 w1 (xs (i + 1))
    refine gv_op12 hL hi gv_zo h (iv_op (r := r) hI5 w2 w3 hn S_crank_k (fun p k q => ?_) (fun p k q => ?_) ho)
    · simp only [gv_T_dl, Bool.or_eq_true, beq_iff_eq] at q
      simp only [gv_S_crank, Bool.or_eq_false_iff, Bool.and_eq_false_iff, beq_eq_false_iff_ne, ne_eq]
      omega
    · simp only [gv_S_crank, Bool.or_eq_false_iff, Bool.and_eq_false_iff, beq_eq_false_iff_ne, ne_eq]
      omega
  · obtain ⟨k, a, u1, u2, h1, h2, h3, h4, h5, h6, B', h7⟩ := gs_solve (F := gv_F) (by omega) i1 w1 w3 i3 i4
    refine gv_op13 hL hi gv_zo h ⟨k, a, u1, u2, h1, h2, h3, h4, ?_⟩
    refine ⟨i1.sf h5, ⟨n, r, B', w1.sf h5, w2.same (Nat.le_refl _) (fun p k q => ?_), h7⟩, i2.same (fun p k q => h5.2.2 p k (by omega) (by omega) (by omega) (by omega) (by omega)), i3.sf h5, h6, i5.same (fun k => h5.2.2 1 k (by omega) (by omega) (by omega) (by omega) (by omega)) (fun k q1 q2 => h5.2.2 670 k (by omega) (by omega) (by omega) (by omega) (by omega)) (fun p k q => h5.2.1 p k (by omega)) (fun k _ _ => h5.2.1 670 k (by omega)) (h5.1 1 0 (by omega) (by omega)) (h5.1 1 1 (by omega) (by omega))⟩
    simp only [gv_T_dl, Bool.or_eq_true, beq_iff_eq] at q
    exact h5.2.2 p k (by omega) (by omega) (by omega) (by omega) (by omega)
  · obtain ⟨k, a, u1, u2, h1, h2, h3, h4, h5⟩ := gs_speed (F := gv_F) i1 w1 w3 (xs (i + 1)) (xs (i + 2)) (xs (i + 3))
    exact gv_op14 hL hi gv_zo h ⟨k, a, u1, u2, h1, h2, h3, h4, iv_thr hI h5⟩
  · obtain ⟨k, a, u1, u2, h1, h2, h3, h4, h5, h6⟩ := gs_dial (F := gv_F) i1 w1 w2 (xs (i + 1)) (xs (i + 2)) (xs (i + 3))
    obtain ⟨j1, j2, j3, j4, j5⟩ := off_keep h6 S_dial_k i1 i2 i3 i4 i5
    refine gv_op15 hL hi gv_zo h ⟨k, a, u1, u2, h1, h2, h3, h4, j1, ⟨n, r, B, w1.same (fun p k q => (h6.1 p k ?_).1), h5, off_sp h6 (fun p k q => ?_) hn w3⟩, j2, j3, j4, j5⟩
    · simp only [gv_T_wk, Bool.or_eq_true, Bool.and_eq_true, beq_iff_eq] at q
      simp only [gv_S_dial, Bool.or_eq_false_iff, Bool.and_eq_false_iff, beq_eq_false_iff_ne, ne_eq]
      omega
    · simp only [gv_S_dial, Bool.or_eq_false_iff, Bool.and_eq_false_iff, beq_eq_false_iff_ne, ne_eq]
      omega
  · obtain ⟨k, a, u1, u2, h1, h2, h3, h4, h5, h6⟩ := gs_position (F := gv_F) (by omega) i1 w1 w2 w3 i2 (xs (i + 1)) (xs (i + 2)) (xs (i + 3))
    exact gv_op16 hL hi gv_zo h ⟨k, a, u1, u2, h1, h2, h3, h4, iv_hf hI h5 h6⟩
  · obtain ⟨k, a, u1, u2, h1, h2, h3, h4, h5, h6⟩ := gs_meet (F := gv_F) (by omega) i1 w1 w2 w3 i2 (xs (i + 1)) (xs (i + 2))
    exact gv_op17 hL hi gv_zo h ⟨k, a, u1, u2, h1, h2, h3, h4, iv_hf hI h5 h6⟩
  · obtain ⟨k, a, u1, u2, h1, h2, h3, h4, h5, h6⟩ := gs_back (F := gv_F) (by omega) i1 w1 w2 w3 i2
    exact gv_op18 hL hi gv_zo h ⟨k, a, u1, u2, h1, h2, h3, h4, iv_hf hI h5 h6⟩
  · obtain ⟨k, a, u1, u2, h1, h2, h3, h4, h5⟩ := gs_result (F := gv_F) i1 i2 (xs (i + 1)) (xs (i + 2))
    exact gv_op19 hL hi gv_zo h ⟨k, a, u1, u2, h1, h2, h3, h4, iv_thr hI h5⟩
  · obtain ⟨a, u1, u2, h1, h2, h3, h4, h5, h6, h7⟩ := gs_clear (F := gv_F) (by omega) i1 w1 w2 w3
    refine gv_op20 hL hi gv_zo h ⟨a, u1, u2, h1, h2, i1.eq (by rw [h6]), ⟨0, 0, B, h3, h4, h5⟩, i2.same (fun p k q => h7 p k (by omega) (by omega) (by omega) (by omega) (by omega) (by omega)), i3.same (fun k => h7 691 k (by omega) (by omega) (by omega) (by omega) (by omega) (by omega)), i4.same (by rw [h6]) (by rw [h6]), i5.same (fun k => h7 1 k (by omega) (by omega) (by omega) (by omega) (by omega) (by omega)) (fun k q1 q2 => h7 670 k (by omega) (by omega) (by omega) (by omega) (by omega) (by omega)) (fun p k q => by rw [h6]) (fun k _ _ => by rw [h6]) (by rw [h6]) (by rw [h6])⟩
  · have hT : (if u.1 670 1 = 0 then 0 else u.1 670 7) = u.1 1 9 - u.1 1 10 := by
      obtain ⟨q0, q1, q2, q3, q4⟩ := i5
      rcases q4 with ⟨a1, a2, a3⟩ | ⟨S, lo, hi, T, nm, dn, j, t1⟩
      · rw [if_pos a1, a2, a3]; decide
      · obtain ⟨b1, b2, -, -, -, b6, b7, -, -, -, -, b12, -⟩ := t1
        have hnum := b2.num
        rw [b1, if_neg (by decide), b12, b2.2.2.2.2.2.1, b6, gi_sub b7 (by omega)]
    obtain ⟨a, u1, u2, h1, h2, h3⟩ := gs_count (F := gv_F) (by omega) i1 w1 w2 w3 hT (xs (i + 1))
    exact gv_op21 hL hi gv_zo h ⟨a, u1, u2, h1, h2, iv_thr hI h3⟩
  · exact gv_opd hL hi h.1 h.2.1 h.2.2.1 h.2.2.2.1 h.2.2.2.2.1 h.2.2.2.2.2.1 h.2.2.2.2.2.2.1 h.2.2.2.2.2.2.2.1 h.2.2.2.2.2.2.2.2.1 h.2.2.2.2.2.2.2.2.2.1 h.2.2.2.2.2.2.2.2.2.2.1 h.2.2.2.2.2.2.2.2.2.2.2.1 h.2.2.2.2.2.2.2.2.2.2.2.2.1 h.2.2.2.2.2.2.2.2.2.2.2.2.2.1 h.2.2.2.2.2.2.2.2.2.2.2.2.2.2.1 h.2.2.2.2.2.2.2.2.2.2.2.2.2.2.2.1 h.2.2.2.2.2.2.2.2.2.2.2.2.2.2.2.2.1 h.2.2.2.2.2.2.2.2.2.2.2.2.2.2.2.2.2.1 h.2.2.2.2.2.2.2.2.2.2.2.2.2.2.2.2.2.2.1 h.2.2.2.2.2.2.2.2.2.2.2.2.2.2.2.2.2.2.2.1 h.2.2.2.2.2.2.2.2.2.2.2.2.2.2.2.2.2.2.2.2.1 h.2.2.2.2.2.2.2.2.2.2.2.2.2.2.2.2.2.2.2.2.2 hI
/-- the invariant at the start -/
theorem gv_Sp0 : gv_Sp gv_u 0 64 := by
  have h0 : ∀ g, g < 60 → gv_u.1 (64 + 1) g = 0 := by decide +kernel
  refine ⟨Or.inl rfl, by decide +kernel, by decide +kernel, fun g hg => Or.inl (h0 g hg), fun g _ h => h0 g h, fun g hg => absurd hg (Nat.not_lt_zero g), fun g hg => absurd hg (Nat.not_lt_zero g)⟩
theorem gv_Rs0 : gv_Rs gv_u := by
  refine ⟨0, 1, ⟨⟨0, ?_⟩, ⟨1, ?_⟩⟩, by omega, by omega, by decide +kernel, by decide +kernel, ?_, ?_⟩
  · refine ⟨by omega, by decide +kernel, fun i hi => absurd hi (Nat.not_lt_zero i), fun h => absurd h (Nat.lt_irrefl 0), Or.inl ⟨rfl, by decide +kernel, rfl⟩⟩
  · refine ⟨by omega, by decide +kernel, by decide +kernel, fun _ => by decide +kernel, Or.inr (Or.inl ⟨by omega, by decide +kernel, by decide +kernel⟩)⟩
  · unfold Iw
    decide +kernel
  · unfold Iw
    decide +kernel
theorem gv_Pr0 : gv_Pr gv_u := fun k hk => (prP_d k hk).2.2.2.2
theorem gv_Pc0 : gv_Pc gv_u := ⟨41, Or.inl rfl, by decide +kernel, by decide +kernel⟩
theorem gv_Ta0 : gv_Ta gv_u := ⟨2, Or.inl rfl, by decide +kernel, by decide +kernel, Or.inl ⟨by decide +kernel, by decide +kernel, by decide +kernel⟩⟩
theorem gv_Iv0 : gv_Iv gv_u := ⟨gv_Rf0, ⟨0, 0, 64, gv_Wk0, gv_Dl0, gv_Sp0⟩, gv_Rs0, gv_Pr0, gv_Pc0, gv_Ta0⟩
/-- the law answers 1 on every script -/
theorem gv_all (xs : Nat → Int32) (L : Nat) (hL : L ≤ 3072) : gf_law gv_F xs L = some 1 := by
  rw [gv_law0]
  exact gv_loop hL (fun u i h1 h2 => gv_round hL u i h1 h2) 513 gv_u 0 gv_Iv0 (Or.inl rfl) (by omega)
