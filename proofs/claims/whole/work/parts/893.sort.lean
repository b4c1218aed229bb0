theorem nprod_mono {f g : Nat → Nat} {n : Nat} (h : ∀ s, s < n → f s ≤ g s) : nprod f n ≤ nprod g n := by
  induction n with
  | zero => exact Nat.le_refl _
  | succ n ih => exact Nat.mul_le_mul (ih (fun s hs => h s (by omega))) (h n (by omega))
theorem vv_lt {S lo hi x : Nat} (hp : TaP S lo hi) (h : isC S lo hi x) : vv S x < 2 ^ 56 ∧ vv S x / 268435456 = pP S x ∧ vv S x % 268435456 = x := by
  obtain ⟨-, h2, -⟩ := h.wls hp
  have h3 := h.prd hp
  unfold vv
  omega
theorem most_prd {S lo hi T : Nat} {c : Nat → Nat} (hp : TaP S lo hi) (hT : 0 < T) (hc : ∀ j, j < T → isC S lo hi (c j)) (hi' : ∀ j j', j < j' → j' < T → c j < c j') (hcov : ∀ x, isC S lo hi x → ∃ j, j < T ∧ c j = x) : ∀ x, isC S lo hi x → pP S x ≤ pP S (c (T - 1)) := by
  have hh : hi ≤ 120 := hp.2.2.2.2.1
  have hl : lo ≤ hi := hp.2.2.2.1
  have h1 : isC S lo hi (cd (fun _ => hi) S) := ⟨fun _ => hi, ⟨fun s _ => ⟨hl, Nat.le_refl _⟩, fun s _ => Nat.le_refl _⟩, rfl⟩
  obtain ⟨j, hj, e⟩ := hcov _ h1
  have h2 : c (T - 1) = cd (fun _ => hi) S := by
    obtain ⟨w, w1, w2⟩ := hc (T - 1) (by omega)
    have h3 : cd w S ≤ cd (fun _ => hi) S := cd_mono (fun s hs => (w1.1 s hs).2)
    by_cases q : j = T - 1
    · rw [← q]; exact e
    · have := hi' j (T - 1) (by omega) (by omega)
      omega
  intro x hx
  rw [h2]
  obtain ⟨x1, -, -⟩ := hx.wls hp
  exact nprod_mono (fun s hs => by
    rw [wl_cd (w := fun _ => hi) (fun _ _ => by omega) s hs]
    exact (x1.1 s hs).2)
theorem lg0 {Q : Nat} (hQ : Q < 2 ^ 28) : lg_cmp (Int64.ofNat Q) 0 ≤ 0 ↔ Q = 0 := by
  have hp' := lgc_pos (a := Int64.ofNat Q) (b := 0)
  rw [i64_nat (by omega), show (0 : Int64).toInt = 0 from rfl] at hp'
  have h0 : (0 : Int32).toInt = 0 := rfl
  refine ⟨fun h => ?_, fun h => ?_⟩
  · apply Classical.byContradiction
    intro q
    have h2 := hp'.mpr (by omega)
    have a1 := i32_le.mp h
    have a2 := i32_lt.mp h2
    omega
  · apply Classical.byContradiction
    intro q
    have h2 : 0 < lg_cmp (Int64.ofNat Q) 0 := i32_lt.mpr (by
      have h3 : ¬ (lg_cmp (Int64.ofNat Q) 0).toInt ≤ (0 : Int32).toInt := fun e => q (i32_le.mpr e)
      omega)
    have := hp'.mp h2
    omega
/-- sortByProduct -/
theorem tr_sort {F : Nat} (hF : 50000 ≤ F) {u : gw_St} {S lo hi T q0 : Nat} {c : Nat → Nat} (hr : gv_Rf u) (hk : Tk u S lo hi T q0) (ha : ∀ j, j < T → u.2.1 q0 j = Int64.ofNat (vv S (c j)) ∧ isC S lo hi (c j)) (hinc : ∀ j j', j < j' → j' < T → c j < c j') (hcov : ∀ x, isC S lo hi x → ∃ j, j < T ∧ c j = x) : ∃ (w : gw_St) (b : Nat → Nat) (q1 : Nat), gf_Trains_sortByProduct F gv_z u 1 = some w ∧ gv_Rf w ∧ Tk w S lo hi T q1 ∧ (∀ p j, ¬ (p = 1 ∧ (j = 0 ∨ j = 1)) → w.2.2 p j = u.2.2 p j) ∧ (∀ p j, p ≠ 4 → w.1 p j = u.1 p j) ∧ (∀ p j, p ≠ 2 → p ≠ 3 → w.2.1 p j = u.2.1 p j) ∧ (∀ j, j < T → w.2.1 q1 j = Int64.ofNat (b j)) ∧ (∀ i j, i < j → j < T → b i < b j) ∧ (∀ j, j < T → ∃ x, isC S lo hi x ∧ b j = vv S x) ∧ ∀ x, isC S lo hi x → ∃ j, j < T ∧ b j = vv S x := by
  obtain ⟨hp, -, h6, h7, h8, h9, hq, h10, h11⟩ := id hk
  obtain ⟨n1, n2, n3⟩ := hk.num
  obtain ⟨l1, l2⟩ := hk.len
  have hmost := most_prd hp n3 (fun j hj => (ha j hj).2) hinc hcov
  generalize hG : pP S (c (T - 1)) = G at hmost
  have hG2 : G < 2 ^ 28 := by
    have := ((ha (T - 1) (by omega)).2.prd hp).2
    rw [hG] at this
    omega
  have run : ∀ (m t f : Nat) (w : gw_St) (q1 : Nat) (b : Nat → Nat), t + m = 3 → m < f → gv_Rf w → Tk w S lo hi T q1 → (∀ p j, ¬ (p = 1 ∧ (j = 0 ∨ j = 1)) → w.2.2 p j = u.2.2 p j) → (∀ p j, p ≠ 4 → w.1 p j = u.1 p j) → (∀ p j, p ≠ 2 → p ≠ 3 → w.2.1 p j = u.2.1 p j) → (∀ j, j < T → w.2.1 q1 j = Int64.ofNat (b j)) → (∀ i j, i < j → j < T → b i % 2 ^ (28 + 11 * t) < b j % 2 ^ (28 + 11 * t)) → (∀ j, j < T → ∃ x, isC S lo hi x ∧ b j = vv S x) → (∀ x, isC S lo hi x → ∃ j, j < T ∧ b j = vv S x) → ∃ (w' : gw_St) (b' : Nat → Nat) (q' : Nat), gf_Trains_sortByProduct_L17 F gv_z f w 1 (Int64.ofNat G) (Int32.ofNat (11 * t)) = some w' ∧ gv_Rf w' ∧ Tk w' S lo hi T q' ∧ (∀ p j, ¬ (p = 1 ∧ (j = 0 ∨ j = 1)) → w'.2.2 p j = u.2.2 p j) ∧ (∀ p j, p ≠ 4 → w'.1 p j = u.1 p j) ∧ (∀ p j, p ≠ 2 → p ≠ 3 → w'.2.1 p j = u.2.1 p j) ∧ (∀ j, j < T → w'.2.1 q' j = Int64.ofNat (b' j)) ∧ (∀ i j, i < j → j < T → b' i < b' j) ∧ (∀ j, j < T → ∃ x, isC S lo hi x ∧ b' j = vv S x) ∧ ∀ x, isC S lo hi x → ∃ j, j < T ∧ b' j = vv S x := by
    intro m
    have exit : ∀ (k : Nat) (b : Nat → Nat), (∀ j, j < T → b j < 2 ^ k) → (∀ i j, i < j → j < T → b i % 2 ^ k < b j % 2 ^ k) → ∀ i j, i < j → j < T → b i < b j := fun k b hb h i j h1 h2 => by
      have := h i j h1 h2
      rw [Nat.mod_eq_of_lt (hb i (by omega)), Nat.mod_eq_of_lt (hb j h2)] at this
      exact this
    induction m with
    | zero =>
      intro t f w q1 b ht hf r1 k1 f1 f2 f3 e1 e2 e3 e4
      obtain ⟨f, rfl⟩ : ∃ q, f = q + 1 := ⟨f - 1, by omega⟩
      have ht3 : t = 3 := by omega
      subst ht3
      refine ⟨w, b, q1, ?_, r1, k1, f1, f2, f3, e1, exit _ b (fun j hj => ?_) e2, e3, e4⟩
      · show gf_Trains_sortByProduct_S17 F gv_z _ w 1 (Int64.ofNat G) (Int32.ofNat (11 * 3)) = _
        unfold gf_Trains_sortByProduct_S17 gf_Trains_sortByProduct_b45
        rw [if_pos (by decide)]
      · obtain ⟨x, x1, x2⟩ := e3 j hj
        rw [x2]
        exact Nat.lt_of_lt_of_le (vv_lt hp x1).1 (Nat.pow_le_pow_right (by decide) (by omega))
    | succ m ih =>
      intro t f w q1 b ht hf r1 k1 f1 f2 f3 e1 e2 e3 e4
      obtain ⟨f, rfl⟩ : ∃ q, f = q + 1 := ⟨f - 1, by omega⟩
      have ht2 : t ≤ 2 := by omega
      have hstep : gf_Trains_sortByProduct_L17 F gv_z (f + 1) w 1 (Int64.ofNat G) (Int32.ofNat (11 * t)) = if G / 2 ^ (11 * t) = 0 then some w else ((gf_Trains_sortByDigit F gv_z w 1 (Int32.ofNat (28 + 11 * t))).bind fun u3 => gf_Trains_sortByProduct_L17 F gv_z f u3 1 (Int64.ofNat G) (Int32.ofNat (11 * (t + 1)))) := by
        show gf_Trains_sortByProduct_S17 F gv_z _ w 1 (Int64.ofNat G) (Int32.ofNat (11 * t)) = _
        unfold gf_Trains_sortByProduct_S17 gf_Trains_sortByProduct_b45
        rw [if_neg (show ¬ (28 : Int32) ≤ Int32.ofNat (11 * t) from fun e => by have := (gi_le (a := 28) (by omega) (by omega)).mp e; omega), i64_shr (by omega) (by omega)]
        have hGq : G / 2 ^ (11 * t) < 2 ^ 28 := Nat.lt_of_le_of_lt (Nat.div_le_self _ _) hG2
        have hc := lg0 (Q := G / 2 ^ (11 * t)) hGq
        by_cases z : G / 2 ^ (11 * t) = 0
        · rw [if_pos (hc.mpr z), if_pos z]
        · rw [if_neg (fun e => z (hc.mp e)), if_neg z, show (28 : Int32) + Int32.ofNat (11 * t) = Int32.ofNat (28 + 11 * t) from gi_add (a := 28)]
          simp only [gf_nm]
          rw [show Int32.ofNat (11 * t) + 11 = Int32.ofNat (11 * (t + 1)) from gi_add (b := 11)]
      rw [hstep]
      by_cases z : G / 2 ^ (11 * t) = 0
      · rw [if_pos z]
        refine ⟨w, b, q1, rfl, r1, k1, f1, f2, f3, e1, exit _ b (fun j hj => ?_) e2, e3, e4⟩
        obtain ⟨x, x1, x2⟩ := e3 j hj
        have h1 := hmost x x1
        obtain ⟨y1, y2, y3⟩ := vv_lt hp x1
        have h2 : G < 2 ^ (11 * t) := by
          rcases Nat.div_eq_zero_iff.mp z with h | h
          · have := Nat.pow_pos (n := 11 * t) (show 0 < 2 by decide); omega
          · exact h
        rw [x2, Nat.pow_add, show 2 ^ 28 = 268435456 from rfl]
        generalize 2 ^ (11 * t) = Q at h2
        have h3 : (pP S x + 1) * 268435456 ≤ Q * 268435456 := Nat.mul_le_mul_right _ (by omega)
        rw [Nat.mul_comm 268435456 Q]
        omega
      · rw [if_neg z]
        obtain ⟨w2, b2, g1, g2, g3, g4, g5, g6, g7, g8⟩ := tr_pass (F := F) hF (k := 28 + 11 * t) (a := b) r1 k1 (by omega) (fun j hj => ⟨e1 j hj, by obtain ⟨x, x1, x2⟩ := e3 j hj; rw [x2]; exact (vv_lt hp x1).1⟩)
        rw [g1, Option.bind_some]
        have hon := ps2_on (d := fun i => b i / 2 ^ (28 + 11 * t) % 2048) (T := T)
        refine ih (t + 1) f w2 (5 - q1) b2 (by omega) (by omega) g2 g3 (fun p j q => (g4 p j q).trans (f1 p j q)) (fun p j q => (g5 p j q).trans (f2 p j q)) (fun p j q q' => (g6 p j q q').trans (f3 p j q q')) (fun j hj => (g7 j hj).1) ?_ (fun j hj => ?_) (fun x hx => ?_)
        · rw [show 28 + 11 * (t + 1) = 28 + 11 * t + 11 by omega]
          exact pass_sorted e2 g8
        · obtain ⟨i, hi, e⟩ := hon j hj
          have := g8 i hi
          rw [e] at this
          rw [this]
          exact e3 i hi
        · obtain ⟨i, hi, e⟩ := e4 x hx
          exact ⟨_, ps2_lt hi, by rw [g8 i hi]; exact e⟩
  have hst : gf_Trains_sortByProduct F gv_z u 1 = gf_Trains_sortByProduct_L17 F gv_z F u 1 (Int64.ofNat G) (Int32.ofNat (11 * 0)) := by
    show gf_Trains_sortByProduct_b0 F gv_z u 1 = _
    unfold gf_Trains_sortByProduct_b0
    obtain ⟨y1, y2, -⟩ := vv_lt hp (ha (T - 1) (by omega)).2
    rw [h10, gnn, h9, show (1 : Int32) = Int32.ofNat 1 from rfl, gi_sub (by omega) (by omega), if_neg (gi_ix (by rw [l1]; omega) (by omega)), i32_clamp (by omega), (ha (T - 1) (by omega)).1, tr_product y1, y2, hG]
    rfl
  rw [hst]
  refine run 3 0 F u q0 (fun j => vv S (c j)) (by omega) (by omega) hr hk (fun _ _ _ => rfl) (fun _ _ _ => rfl) (fun _ _ _ _ => rfl) (fun j hj => (ha j hj).1) (fun i j h1 h2 => ?_) (fun j hj => ⟨c j, (ha j hj).2, rfl⟩) (fun x hx => ?_)
  · show vv S (c i) % 268435456 < vv S (c j) % 268435456
    rw [(vv_lt hp (ha i (by omega)).2).2.2, (vv_lt hp (ha j h2).2).2.2]
    exact hinc i j h1 h2
  · obtain ⟨j, hj, e⟩ := hcov x hx
    exact ⟨j, hj, by rw [e]⟩
