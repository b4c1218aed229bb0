/-- the reference's choices stand -/
def Ml (u : gw_St) (S lo hi M : Nat) (y : Nat → Nat) : Prop := M ≤ 37820 ∧ u.1 670 9 = Int32.ofNat M ∧ (∀ i, i < M → u.1 671 i = Int32.ofNat (pP S (y i)) ∧ u.1 672 i = Int32.ofNat (y i) ∧ u.1 673 i = Int32.ofNat (tT S (y i)) ∧ isRep S lo hi (y i)) ∧ (∀ i i', i < i' → i' < M → pP S (y i) < pP S (y i')) ∧ ∀ x, isC S lo hi x → ∃ i, i < M ∧ pP S (y i) = pP S x
theorem Ml.same {u w : gw_St} {S lo hi M : Nat} {y : Nat → Nat} (h : Ml u S lo hi M y) (e9 : w.1 670 9 = u.1 670 9) (e : ∀ p k, 671 ≤ p → p ≤ 673 → w.1 p k = u.1 p k) : Ml w S lo hi M y := by
  obtain ⟨h1, h2, h3, h4, h5⟩ := h
  refine ⟨h1, e9.trans h2, fun i hi' => ?_, h4, h5⟩
  rw [e 671 i (by omega) (by omega), e 672 i (by omega) (by omega), e 673 i (by omega) (by omega)]
  exact h3 i hi'
theorem Ml.mono {u : gw_St} {S lo hi M i j : Nat} {y : Nat → Nat} (h : Ml u S lo hi M y) (hij : i ≤ j) (hj : j < M) : pP S (y i) ≤ pP S (y j) := by
  by_cases e : i = j
  · rw [e]; exact Nat.le_refl _
  · exact Nat.le_of_lt (h.2.2.2.1 i j (by omega) hj)
theorem Ml.cand {u : gw_St} {S lo hi M nm dn p l : Nat} {y : Nat → Nat} (h : Ml u S lo hi M y) (hl : l ≤ M) (h1 : ∀ j, j < l → pP S (y j) * nm < p * dn) (h2 : ∀ j, l ≤ j → j < M → p * dn ≤ pP S (y j) * nm) (e : Nat) : Cand S lo hi nm dn p e ↔ (l < M ∧ e = y l) ∨ (0 < l ∧ e = y (l - 1)) := by
  obtain ⟨-, -, m3, m4, m5⟩ := id h
  constructor
  · rintro ⟨r, c⟩
    obtain ⟨j, hj, ej⟩ := m5 e r.1
    have eq : e = y j := r.uniq (m3 j hj).2.2.2 ej.symm
    rcases c with ⟨c1, c2⟩ | ⟨c1, c2⟩
    · have hjl : j < l := by
        apply Classical.byContradiction
        intro q
        have := h2 j (by omega) hj
        rw [ej] at this
        omega
      refine Or.inr ⟨by omega, ?_⟩
      have t := c2 (y (l - 1)) (m3 (l - 1) (by omega)).2.2.2.1 (h1 (l - 1) (by omega))
      by_cases q : j = l - 1
      · rw [← q]; exact eq
      · have := m4 j (l - 1) (by omega) (by omega)
        omega
    · have hjl : l ≤ j := by
        apply Classical.byContradiction
        intro q
        have := h1 j (by omega)
        rw [ej] at this
        omega
      refine Or.inl ⟨by omega, ?_⟩
      have t := c2 (y l) (m3 l (by omega)).2.2.2.1 (h2 l (Nat.le_refl _) (by omega))
      by_cases q : j = l
      · rw [← q]; exact eq
      · have := m4 l j (by omega) hj
        omega
  · rintro (⟨q1, q2⟩ | ⟨q1, q2⟩)
    · rw [q2]
      refine ⟨(m3 l q1).2.2.2, Or.inr ⟨h2 l (Nat.le_refl _) q1, fun x hx hxn => ?_⟩⟩
      obtain ⟨j, hj, ej⟩ := m5 x hx
      rw [← ej] at hxn ⊢
      have hjl : l ≤ j := by
        apply Classical.byContradiction
        intro q
        have := h1 j (by omega)
        omega
      exact h.mono hjl hj
    · rw [q2]
      refine ⟨(m3 (l - 1) (by omega)).2.2.2, Or.inl ⟨h1 (l - 1) (by omega), fun x hx hxn => ?_⟩⟩
      obtain ⟨j, hj, ej⟩ := m5 x hx
      rw [← ej] at hxn ⊢
      have hjl : j < l := by
        apply Classical.byContradiction
        intro q
        have := h2 j (by omega) hj
        omega
      exact h.mono (by omega) (by omega)
/-- the search by halves -/
theorem gm_bin {F : Nat} (hF : 50000 ≤ F) {u : gw_St} {S lo hi M nm W i : Nat} {y : Nat → Nat} {rc : gw_St → Nat → Int32 → Option gw_St} (hr : gv_Rf u) (hp : TaP S lo hi) (h : Ml u S lo hi M y) (h2 : u.1 670 2 = Int32.ofNat nm) (hn : nm < 2147483648) (hW : W < 2 ^ 60) : ∃ l, l ≤ M ∧ (∀ j, j < l → pP S (y j) * nm < W) ∧ (∀ j, l ≤ j → j < M → W ≤ pP S (y j) * nm) ∧ gf_Model_findTrain_L55 F gv_z rc F u 670 (Int32.ofNat i) (Int64.ofNat W) (Int32.ofNat 0) (Int32.ofNat M) = if Int32.ofNat M ≤ Int32.ofNat l then (gf_Model_findTrain_b122 F gv_z rc u 670 (Int32.ofNat i) (Int32.ofNat l)) else ((gf_Model_trial F gv_z u 670 (Int32.ofNat i) (Int32.ofNat l)).bind fun u8 => gf_Model_findTrain_b122 F gv_z rc u8 670 (Int32.ofNat i) (Int32.ofNat l)) := by
  obtain ⟨m1, m2, m3, m4, m5⟩ := id h
  have run : ∀ (n a b f : Nat), b - a ≤ n → n < f → a ≤ b → b ≤ M → (∀ j, j < a → pP S (y j) * nm < W) → (∀ j, b ≤ j → j < M → W ≤ pP S (y j) * nm) → ∃ l, l ≤ M ∧ (∀ j, j < l → pP S (y j) * nm < W) ∧ (∀ j, l ≤ j → j < M → W ≤ pP S (y j) * nm) ∧ gf_Model_findTrain_L55 F gv_z rc f u 670 (Int32.ofNat i) (Int64.ofNat W) (Int32.ofNat a) (Int32.ofNat b) = if Int32.ofNat M ≤ Int32.ofNat l then (gf_Model_findTrain_b122 F gv_z rc u 670 (Int32.ofNat i) (Int32.ofNat l)) else ((gf_Model_trial F gv_z u 670 (Int32.ofNat i) (Int32.ofNat l)).bind fun u8 => gf_Model_findTrain_b122 F gv_z rc u8 670 (Int32.ofNat i) (Int32.ofNat l)) := by
    intro n
    induction n with
    | zero =>
      intro a b f h1 hf hab hb l1 l2
      obtain ⟨f, rfl⟩ : ∃ q, f = q + 1 := ⟨f - 1, by omega⟩
      have : a = b := by omega
      subst this
      refine ⟨a, hb, l1, l2, ?_⟩
      show gf_Model_findTrain_S55 F gv_z rc _ u 670 _ _ _ _ = _
      unfold gf_Model_findTrain_S55
      rw [if_pos ((gi_le (by omega) (by omega)).mpr (Nat.le_refl _)), m2]
    | succ n ih =>
      intro a b f h1 hf hab hb l1 l2
      obtain ⟨f, rfl⟩ : ∃ q, f = q + 1 := ⟨f - 1, by omega⟩
      by_cases e : a = b
      · subst e
        refine ⟨a, hb, l1, l2, ?_⟩
        show gf_Model_findTrain_S55 F gv_z rc _ u 670 _ _ _ _ = _
        unfold gf_Model_findTrain_S55
        rw [if_pos ((gi_le (by omega) (by omega)).mpr (Nat.le_refl _)), m2]
      · have hm : (a + b) / 2 < M := by omega
        obtain ⟨t1, t2, t3, t4⟩ := m3 ((a + b) / 2) hm
        have pm := t4.1.prd hp
        have hmul : pP S (y ((a + b) / 2)) * nm ≤ 207360000 * 2147483648 := Nat.mul_le_mul pm.2 (by omega)
        obtain ⟨c1, -⟩ := lg_c3 (x := pP S (y ((a + b) / 2)) * nm) (y := W) (by omega) (by omega)
        have hgo : gf_Model_findTrain_L55 F gv_z rc (f + 1) u 670 (Int32.ofNat i) (Int64.ofNat W) (Int32.ofNat a) (Int32.ofNat b) = if W ≤ pP S (y ((a + b) / 2)) * nm then gf_Model_findTrain_L55 F gv_z rc f u 670 (Int32.ofNat i) (Int64.ofNat W) (Int32.ofNat a) (Int32.ofNat ((a + b) / 2)) else gf_Model_findTrain_L55 F gv_z rc f u 670 (Int32.ofNat i) (Int64.ofNat W) (Int32.ofNat ((a + b) / 2 + 1)) (Int32.ofNat b) := by
          show gf_Model_findTrain_S55 F gv_z rc _ u 670 _ _ _ _ = _
          unfold gf_Model_findTrain_S55 gf_Model_findTrain_b103
          rw [if_neg (fun z => by have := (gi_le (by omega) (by omega)).mp z; omega), if_neg (by decide), gi_add, show (2 : Int32) = Int32.ofNat 2 from rfl, gi_div (by omega) (by omega) (by omega)]
          simp only [gf_nm]
          rw [hr.get rfl gv_r670_10, gnn, if_neg (gi_ix (by rw [gv_l671]; omega) (by omega)), i32_clamp (by omega), t1, h2, i32_64 (by omega), i32_64 (by omega), i64_mul, gw_iS]
          by_cases z : W ≤ pP S (y ((a + b) / 2)) * nm
          · rw [if_pos (c1.mpr z), if_pos z]
          · rw [if_neg (fun q => z (c1.mp q)), if_neg z]
        rw [hgo]
        by_cases z : W ≤ pP S (y ((a + b) / 2)) * nm
        · rw [if_pos z]
          refine ih a ((a + b) / 2) f (by omega) (by omega) (by omega) (by omega) l1 (fun j q1 q2 => ?_)
          exact Nat.le_trans z (Nat.mul_le_mul_right _ (h.mono q1 q2))
        · rw [if_neg z]
          refine ih ((a + b) / 2 + 1) b f (by omega) (by omega) (by omega) hb (fun j q1 => ?_) l2
          exact Nat.lt_of_le_of_lt (Nat.mul_le_mul_right _ (h.mono (show j ≤ (a + b) / 2 by omega) hm)) (by omega)
  exact run M 0 M F (by omega) (by omega) (by omega) (Nat.le_refl _) (fun j hj => absurd hj (Nat.not_lt_zero j)) (fun j q1 q2 => by omega)
/-- what findTrain may change -/
def Mt (u w : gw_St) : Prop := w.2.2 = u.2.2 ∧ (∀ p k, ¬ (671 ≤ p ∧ p ≤ 673) → ¬ (p = 670 ∧ (k = 8 ∨ k = 9 ∨ k = 15 ∨ k = 16 ∨ k = 17)) → w.1 p k = u.1 p k) ∧ ∀ p k, ¬ (p = 670 ∧ (k = 13 ∨ k = 14)) → w.2.1 p k = u.2.1 p k
/-- findTrain -/
theorem gm_find {F : Nat} (hF : 300000 ≤ F) {u : gw_St} {S lo hi T nm dn : Nat} {c : Nat → Nat} (hr : gv_Rf u) (hp : TaP S lo hi) (hk : Mk u S lo (hi - lo + 1)) (h2 : u.1 670 2 = Int32.ofNat nm) (h3 : u.1 670 3 = Int32.ofNat dn) (hn : nm < 2147483648) (hdn : dn < 2147483648) (hdn0 : 0 < dn) (h8 : u.1 670 8 = 0) (hT : T ≤ 37820) (hcov : ∀ x, isC S lo hi x → ∃ j, j < T ∧ c j = x) : ∃ w, gf_Model_findTrain F gv_z u 670 = some w ∧ Mt u w ∧ w.1 670 8 = 1 ∧ Fnd w S lo hi nm dn (fun d e => isRep S lo hi d ∧ Cand S lo hi nm dn (pP S d) e) ∧ (∀ x, isC S lo hi x → ∃ z, isRep S lo hi z ∧ pP S z = pP S x) ∧ ∃ d e, isRep S lo hi d ∧ Cand S lo hi nm dn (pP S d) e := by
  have hS : S ≤ 4 := hp.2.1
  generalize hu1 : gw_wi u 670 8 1 = u1
  have u1r : u1.2 = u.2 := by rw [← hu1]; rfl
  have u1i : ∀ p k, ¬ (p = 670 ∧ k = 8) → u1.1 p k = u.1 p k := fun p k z => by rw [← hu1, wi_ne z]
  have u18 : u1.1 670 8 = 1 := by rw [← hu1, wi_same]
  have r1 : gv_Rf u1 := hr.eq (by rw [u1r])
  have k1 : Mk u1 S lo (hi - lo + 1) := ⟨by rw [u1i 670 4 (by omega)]; exact hk.1, by rw [u1i 670 5 (by omega)]; exact hk.2.1, by rw [u1i 670 6 (by omega)]; exact hk.2.2⟩
  obtain ⟨w1, y, M, a1, a2, a3, a4, a5, a6, a7, a8⟩ := gm_list (F := F) hF r1 hp k1 hT hcov
  generalize hw2 : gw_wl w1 670 14 0 = w2
  have w2r : w2.2.2 = w1.2.2 := by rw [← hw2]; rfl
  have w2i : w2.1 = w1.1 := by rw [← hw2]; rfl
  have w2l : ∀ p k, ¬ (p = 670 ∧ k = 14) → w2.2.1 p k = w1.2.1 p k := fun p k z => by rw [← hw2, wl_ne z]
  have w214 : w2.2.1 670 14 = 0 := by rw [← hw2, wl_same]
  have hml : Ml w2 S lo hi M y := ⟨a2, by rw [w2i]; exact a3, by rw [w2i]; exact a6, a7, a8⟩
  have hfr : Mt u w2 := ⟨by rw [w2r, a4, u1r], fun p k q1 q2 => by rw [w2i, a5 p k q1 (by omega), u1i p k (by omega)], fun p k q => by rw [w2l p k (by omega), a4, u1r]⟩
  have r2 : gv_Rf w2 := hr.eq hfr.1
  have hreps : ∀ d, isRep S lo hi d ↔ ∃ j, j < M ∧ d = y j := fun d => by
    refine ⟨fun h => ?_, fun ⟨j, hj, e⟩ => by rw [e]; exact (a6 j hj).2.2.2⟩
    obtain ⟨j, hj, e⟩ := a8 d h.1
    exact ⟨j, hj, h.uniq (a6 j hj).2.2.2 e.symm⟩
  have hrep : ∀ x, isC S lo hi x → ∃ z, isRep S lo hi z ∧ pP S z = pP S x := fun x hx => by
    obtain ⟨j, hj, e⟩ := a8 x hx
    exact ⟨y j, (a6 j hj).2.2.2, e⟩
  have hone : isC S lo hi (cd (fun _ => lo) S) := ⟨fun _ => lo, ⟨fun s _ => ⟨Nat.le_refl _, hp.2.2.2.1⟩, fun s _ => Nat.le_refl _⟩, rfl⟩
  have hM0 : 0 < M := by
    obtain ⟨j, hj, -⟩ := a8 _ hone
    omega
  have hsome : ∃ d e, isRep S lo hi d ∧ Cand S lo hi nm dn (pP S d) e := by
    have hd := (a6 0 hM0).2.2.2
    have hm1 : pP S (y 0) * dn ≤ 207360000 * 2147483648 := Nat.mul_le_mul (hd.1.prd hp).2 (by omega)
    obtain ⟨l, l1, l2, l3, -⟩ := gm_bin (F := F) (by omega) (i := 0) (W := pP S (y 0) * dn) (rc := fun _ _ _ => none) r2 hp hml (by rw [hfr.2.1 670 2 (by omega) (by omega)]; exact h2) hn (by omega)
    by_cases q : l < M
    · exact ⟨y 0, y l, hd, (hml.cand l1 l2 l3 (y l)).mpr (Or.inl ⟨q, rfl⟩)⟩
    · exact ⟨y 0, y (l - 1), hd, (hml.cand l1 l2 l3 (y (l - 1))).mpr (Or.inr ⟨by omega, rfl⟩)⟩
  have main := gl_up (σ := gw_St) (N := M) (L := fun f w i => gf_Model_findTrain_L24 F gv_z f w 670 (Int32.ofNat i)) (I := fun i w => Mt u w ∧ w.1 670 8 = 1 ∧ Ml w S lo hi M y ∧ Fnd w S lo hi nm dn (fun d e => (∃ j, j < i ∧ d = y j) ∧ Cand S lo hi nm dn (pP S d) e)) (R := fun x => ∃ w, x = some w ∧ Mt u w ∧ w.1 670 8 = 1 ∧ Fnd w S lo hi nm dn (fun d e => isRep S lo hi d ∧ Cand S lo hi nm dn (pP S d) e))
    (fun f w i hI hi' => by
      obtain ⟨i1, i2, i3, i4⟩ := hI
      have rw' : gv_Rf w := hr.eq i1.1
      have w2' : w.1 670 2 = Int32.ofNat nm := by rw [i1.2.1 670 2 (by omega) (by omega)]; exact h2
      have w3' : w.1 670 3 = Int32.ofNat dn := by rw [i1.2.1 670 3 (by omega) (by omega)]; exact h3
      have w4' : w.1 670 4 = Int32.ofNat S := by rw [i1.2.1 670 4 (by omega) (by omega)]; exact hk.1
      obtain ⟨m1, m2, m3, m4, m5⟩ := id i3
      obtain ⟨di1, di2, di3, hdi⟩ := m3 i hi'
      have pdi := hdi.1.prd hp
      have hm1 : pP S (y i) * dn ≤ 207360000 * 2147483648 := Nat.mul_le_mul pdi.2 (by omega)
      obtain ⟨l, l1, l2, l3, l4⟩ := gm_bin (F := F) (by omega) (i := i) (W := pP S (y i) * dn) (rc := gf_Model_findTrain_L24 F gv_z f) rw' hp i3 w2' hn (by omega)
      have hcand := i3.cand l1 l2 l3
      have hX0 : ∀ d e, ((∃ j, j < i ∧ d = y j) ∧ Cand S lo hi nm dn (pP S d) e) → isC S lo hi d ∧ isC S lo hi e := fun d e h => by
        obtain ⟨⟨j, hj, e1⟩, h2⟩ := h
        exact ⟨by rw [e1]; exact (m3 j (by omega)).2.2.2.1, h2.1.1⟩
      -- the upper one
      have upper : ∃ v, (if Int32.ofNat M ≤ Int32.ofNat l then (gf_Model_findTrain_b122 F gv_z (gf_Model_findTrain_L24 F gv_z f) w 670 (Int32.ofNat i) (Int32.ofNat l)) else ((gf_Model_trial F gv_z w 670 (Int32.ofNat i) (Int32.ofNat l)).bind fun u8 => gf_Model_findTrain_b122 F gv_z (gf_Model_findTrain_L24 F gv_z f) u8 670 (Int32.ofNat i) (Int32.ofNat l))) = gf_Model_findTrain_b122 F gv_z (gf_Model_findTrain_L24 F gv_z f) v 670 (Int32.ofNat i) (Int32.ofNat l) ∧ v.2.2 = w.2.2 ∧ (∀ a k, ¬ (a = 670 ∧ 15 ≤ k ∧ k ≤ 17) → v.1 a k = w.1 a k) ∧ (∀ a k, ¬ (a = 670 ∧ 13 ≤ k ∧ k ≤ 14) → v.2.1 a k = w.2.1 a k) ∧ Fnd v S lo hi nm dn (fun d e => ((∃ j, j < i ∧ d = y j) ∧ Cand S lo hi nm dn (pP S d) e) ∨ (d = y i ∧ l < M ∧ e = y l)) := by
        by_cases q : l < M
        · obtain ⟨t1, t2, t3, t4⟩ := m3 l q
          obtain ⟨v, b1, b2, b3, b4, b5⟩ := gm_trial (F := F) (by omega) rw' hp w4' w2' w3' hn hdn hdn0 (show i < 37820 by omega) (show l < 37820 by omega) hdi.1 t4.1 ⟨di1, di2, di3⟩ ⟨t1, t2, t3⟩ hX0 i4
          refine ⟨v, by rw [if_neg (fun z => by have := (gi_le (by omega) (by omega)).mp z; omega), b1, Option.bind_some], b2, b3, b4, b5.mono (fun d e => ⟨fun h => ?_, fun h => ?_⟩)⟩
          · rcases h with h | ⟨h1, h2⟩
            · exact Or.inl h
            · exact Or.inr ⟨h1, q, h2⟩
          · rcases h with h | ⟨h1, -, h2⟩
            · exact Or.inl h
            · exact Or.inr ⟨h1, h2⟩
        · refine ⟨w, by rw [if_pos ((gi_le (by omega) (by omega)).mpr (by omega))], rfl, fun _ _ _ => rfl, fun _ _ _ => rfl, i4.mono (fun d e => ⟨fun h => Or.inl h, fun h => ?_⟩)⟩
          rcases h with h | ⟨-, h, -⟩
          · exact h
          · exact absurd h q
      obtain ⟨v, v1, v2, v3, v4, v5⟩ := upper
      have rv' : gv_Rf v := rw'.eq v2
      have hX1 : ∀ d e, (((∃ j, j < i ∧ d = y j) ∧ Cand S lo hi nm dn (pP S d) e) ∨ (d = y i ∧ l < M ∧ e = y l)) → isC S lo hi d ∧ isC S lo hi e := fun d e h => by
        rcases h with h | ⟨h1, h2, h3⟩
        · exact hX0 d e h
        · exact ⟨by rw [h1]; exact hdi.1, by rw [h3]; exact (m3 l h2).2.2.2.1⟩
      have lower : ∃ x, gf_Model_findTrain_b122 F gv_z (gf_Model_findTrain_L24 F gv_z f) v 670 (Int32.ofNat i) (Int32.ofNat l) = gf_Model_findTrain_L24 F gv_z f x 670 (Int32.ofNat (i + 1)) ∧ x.2.2 = w.2.2 ∧ (∀ a k, ¬ (a = 670 ∧ 15 ≤ k ∧ k ≤ 17) → x.1 a k = w.1 a k) ∧ (∀ a k, ¬ (a = 670 ∧ 13 ≤ k ∧ k ≤ 14) → x.2.1 a k = w.2.1 a k) ∧ Fnd x S lo hi nm dn (fun d e => (((∃ j, j < i ∧ d = y j) ∧ Cand S lo hi nm dn (pP S d) e) ∨ (d = y i ∧ l < M ∧ e = y l)) ∨ (d = y i ∧ 0 < l ∧ e = y (l - 1))) := by
        unfold gf_Model_findTrain_b122 gf_Model_findTrain_b136
        by_cases q : 0 < l
        · obtain ⟨t1, t2, t3, t4⟩ := m3 (l - 1) (by omega)
          obtain ⟨x, b1, b2, b3, b4, b5⟩ := gm_trial (F := F) (by omega) rv' hp (by rw [v3 670 4 (by omega)]; exact w4') (by rw [v3 670 2 (by omega)]; exact w2') (by rw [v3 670 3 (by omega)]; exact w3') hn hdn hdn0 (show i < 37820 by omega) (show l - 1 < 37820 by omega) hdi.1 t4.1 (by rw [v3 671 i (by omega), v3 672 i (by omega), v3 673 i (by omega)]; exact ⟨di1, di2, di3⟩) (by rw [v3 671 (l - 1) (by omega), v3 672 (l - 1) (by omega), v3 673 (l - 1) (by omega)]; exact ⟨t1, t2, t3⟩) hX1 v5
          refine ⟨x, ?_, b2.trans v2, fun a k z => (b3 a k z).trans (v3 a k z), fun a k z => (b4 a k z).trans (v4 a k z), b5.mono (fun d e => ⟨fun h => ?_, fun h => ?_⟩)⟩
          · rw [if_neg (fun z => by have := (gi_le0 (by omega)).mp z; omega), show (1 : Int32) = Int32.ofNat 1 from rfl, gi_sub (by omega) (by omega), b1, Option.bind_some]
            simp only [gf_nm]
            rw [gi_add]
          · rcases h with h | ⟨h1, h2⟩
            · exact Or.inl h
            · exact Or.inr ⟨h1, q, h2⟩
          · rcases h with h | ⟨h1, -, h2⟩
            · exact Or.inl h
            · exact Or.inr ⟨h1, h2⟩
        · refine ⟨v, ?_, v2, v3, v4, v5.mono (fun d e => ⟨fun h => Or.inl h, fun h => ?_⟩)⟩
          · rw [if_pos ((gi_le0 (by omega)).mpr (by omega))]
            simp only [gf_nm]
            rw [gw_iS]
          · rcases h with h | ⟨-, h, -⟩
            · exact h
            · exact absurd h q
      obtain ⟨x, x1, x2, x3, x4, x5⟩ := lower
      refine ⟨x, ⟨⟨x2.trans i1.1, fun p k q1 q2 => (x3 p k (by omega)).trans (i1.2.1 p k q1 q2), fun p k q => (x4 p k (by omega)).trans (i1.2.2 p k q)⟩, by rw [x3 670 8 (by omega)]; exact i2, i3.same (x3 670 9 (by omega)) (fun p k q1 q2 => x3 p k (by omega)), x5.mono (fun d e => ?_)⟩, ?_⟩
      · constructor
        · rintro ((⟨⟨j, hj, e1⟩, h2⟩ | ⟨h1, h2⟩) | ⟨h1, h2⟩)
          · exact ⟨⟨j, by omega, e1⟩, h2⟩
          · exact ⟨⟨i, by omega, h1⟩, by rw [h1]; exact (hcand e).mpr (Or.inl h2)⟩
          · exact ⟨⟨i, by omega, h1⟩, by rw [h1]; exact (hcand e).mpr (Or.inr h2)⟩
        · rintro ⟨⟨j, hj, e1⟩, h2⟩
          by_cases q : j = i
          · rw [q] at e1
            rw [e1] at h2
            rcases (hcand e).mp h2 with h3 | h3
            · exact Or.inl (Or.inr ⟨e1, h3⟩)
            · exact Or.inr ⟨e1, h3⟩
          · exact Or.inl (Or.inl ⟨⟨j, by omega, e1⟩, h2⟩)
      · show gf_Model_findTrain_S24 F gv_z _ w 670 (Int32.ofNat i) = _
        unfold gf_Model_findTrain_S24
        rw [m2, if_neg (fun z => by have := (gi_le (by omega) (by omega)).mp z; omega), rw'.get rfl gv_r670_10, gnn, if_neg (gi_ix (by rw [gv_l671]; omega) (by omega)), i32_clamp (by omega), di1, w3', i32_64 (by omega), i32_64 (by omega), i64_mul]
        simp only [gf_nm]
        rw [show (0 : Int32) = Int32.ofNat 0 from rfl, l4, v1, x1])
    (fun f w hI => by
      obtain ⟨i1, i2, i3, i4⟩ := hI
      refine ⟨w, ?_, i1, i2, i4.mono (fun d e => by rw [hreps d])⟩
      show gf_Model_findTrain_S24 F gv_z _ w 670 (Int32.ofNat M) = _
      unfold gf_Model_findTrain_S24
      rw [i3.2.1, if_pos ((gi_le (by omega) (by omega)).mpr (Nat.le_refl _))])
  obtain ⟨w, c1, c2, c3, c4⟩ := main M 0 w2 F (by omega) ⟨hfr, by rw [w2i, a5 670 8 (by omega) (by omega)]; exact u18, hml, Or.inl ⟨w214, fun d e h => by
    obtain ⟨⟨j, hj, -⟩, -⟩ := h
    exact absurd hj (Nat.not_lt_zero j)⟩⟩ (by omega)
  refine ⟨w, ?_, c2, c3, c4, hrep, hsome⟩
  show gf_Model_findTrain_b0 F gv_z u 670 = _
  unfold gf_Model_findTrain_b0
  rw [h8, if_pos rfl]
  simp only [gf_nm]
  rw [hu1, a1, Option.bind_some, hw2]
  exact c1
