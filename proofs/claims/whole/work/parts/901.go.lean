/-- what the search may change -/
def Fg (u w : gw_St) : Prop := (∀ p j, ¬ (p = 1 ∧ (j = 0 ∨ j = 1)) → w.2.2 p j = u.2.2 p j) ∧ (∀ p j, p ≠ 4 → p ≠ 5 → ¬ (p = 1 ∧ 10 ≤ j ∧ j ≤ 13) → w.1 p j = u.1 p j) ∧ ∀ p j, p ≠ 2 → p ≠ 3 → ¬ (p = 1 ∧ 14 ≤ j ∧ j ≤ 16) → w.2.1 p j = u.2.1 p j
theorem Fg.refl {u : gw_St} : Fg u u := ⟨fun _ _ _ => rfl, fun _ _ _ _ _ => rfl, fun _ _ _ _ _ => rfl⟩
theorem Fg.trans {u v w : gw_St} (h : Fg u v) (g : Fg v w) : Fg u w := ⟨fun p j q => (g.1 p j q).trans (h.1 p j q), fun p j q1 q2 q3 => (g.2.1 p j q1 q2 q3).trans (h.2.1 p j q1 q2 q3), fun p j q1 q2 q3 => (g.2.2 p j q1 q2 q3).trans (h.2.2 p j q1 q2 q3)⟩
theorem gv_Rf.fg {u w : gw_St} (h : gv_Rf u) (f : Fg u w) : gv_Rf w := fun p k hf => by
  rw [f.1 p k (fun e => by
    obtain ⟨e1, e2⟩ := e
    subst e1
    rcases e2 with e2 | e2 <;> subst e2 <;> exact absurd hf (by decide))]
  exact h p k hf
/-- the drivers before i are through -/
def Rng (u : gw_St) (S lo hi T q0 nm dn i : Nat) (b : Nat → Nat) : Prop := Sa u S lo hi T q0 b ∧ (∃ W g pl, Ptr u S lo hi T nm W g pl b ∧ ∀ j, i ≤ j → j < T → W ≤ pP S (cx b j) * dn) ∧ Bs u S lo hi nm dn (fun d e => (∃ j, j < i ∧ d = cx b j) ∧ Cand S lo hi nm dn (pP S d) e)
/-- prepare -/
theorem tr_prepare {F : Nat} (hF : 50000 ≤ F) {u : gw_St} {S lo hi T q0 nm dn : Nat} (hr : gv_Rf u) (hk : Tk u S lo hi T q0) : ∃ (w : gw_St) (b : Nat → Nat) (q1 : Nat), gf_Trains_prepare F gv_z u 1 = some w ∧ Tk w S lo hi T q1 ∧ Rng w S lo hi T q1 nm dn 0 b ∧ Fg u w ∧ w.1 1 10 = u.1 1 10 := by
  have hp := hk.1
  obtain ⟨n1, n2, n3⟩ := hk.num
  obtain ⟨w1, c, a1, a2, a3, a4, a5, a6, a7⟩ := tr_list (F := F) hF hr hk
  have r1 : gv_Rf w1 := hr.eq a2
  have k1 : Tk w1 S lo hi T q0 := hk.same (fun k _ _ => a3 1 k (by omega)) (by rw [a2]) (by rw [a2])
  obtain ⟨w2, b, q1, b1, b2, b3, b4, b5, b6, b7, b8, b9, b10⟩ := tr_sort (F := F) hF r1 k1 a5 a6 a7
  have hq1 : q1 = 2 ∨ q1 = 3 := b3.2.2.2.2.2.2.1
  have hq0 : q0 = 2 ∨ q0 = 3 := hk.2.2.2.2.2.2.1
  generalize hw3 : gw_wi (gw_wi (gw_wl w2 1 15 0) 1 11 (-1)) 1 13 0 = w3
  have i3 : ∀ p j, ¬ (p = 1 ∧ (j = 11 ∨ j = 13)) → w3.1 p j = w2.1 p j := fun p j q => by rw [← hw3, wi_ne (by omega), wi_ne (by omega)]; rfl
  have l3 : ∀ p j, ¬ (p = 1 ∧ j = 15) → w3.2.1 p j = w2.2.1 p j := fun p j q => by rw [← hw3]; exact wl_ne q
  have r3 : w3.2.2 = w2.2.2 := by rw [← hw3]; rfl
  have k3 : Tk w3 S lo hi T q1 := b3.same (fun k _ _ => i3 1 k (by omega)) (by rw [r3]) (by rw [r3])
  have s3 : Sa w3 S lo hi T q1 b := ⟨fun j hj => by rw [l3 q1 j (by omega)]; exact b7 j hj, b8, b9, b10⟩
  have h13 : w3.1 1 13 = Int32.ofNat 0 := by rw [← hw3, wi_same]; rfl
  have h11 : w3.1 1 11 = -1 := by rw [← hw3, wi_ne (by omega), wi_same]
  have h15 : w3.2.1 1 15 = 0 := by rw [← hw3]; exact wl_same
  obtain ⟨w4, d1, d2, d3, d4⟩ := tr_group (F := F) hF k3 s3 h13 (by omega) (fun j hj => absurd hj (Nat.not_lt_zero j))
  have s4 : Sa w4 S lo hi T q1 b := s3.same (fun j => by rw [d2])
  have hfr : Fg u w4 := by
    clear d4
    exact ⟨fun p j q => by rw [d2, r3, b4 p j q, a2], fun p j q1 q2 q3 => by rw [d3 p j (by omega), i3 p j (by omega), b5 p j q1, a3 p j q2], fun p j q1 q2 q3 => by rw [d2, l3 p j (by omega), b6 p j q1 q2, a4 p j (by omega)]⟩
  refine ⟨w4, b, q1, ?_, k3.same (fun k _ _ => d3 1 k (by omega)) (by rw [d2]) (by rw [d2]), ⟨s4, ?_, Or.inl ⟨by rw [d2]; exact h15, fun d e h => ?_⟩⟩, hfr, by rw [d3 1 10 (by omega), i3 1 10 (by omega), b5 1 10 (by omega), a3 1 10 (by omega)]⟩
  · show gf_Trains_prepare_b0 F gv_z u 1 = _
    unfold gf_Trains_prepare_b0
    rw [a1, Option.bind_some, b1, Option.bind_some]
    simp only [gf_nm]
    rw [hw3, d1, Option.bind_some]
  · rcases d4 with ⟨e1, -⟩ | ⟨-, m, e, e1, e2, e3, e4, e5, e6, e7, e8, e9⟩
    · omega
    · have pos : ∀ x, isC S lo hi x → 0 < pP S x := fun x hx => (hx.prd hp).1
      refine ⟨0, e, 0, ⟨e2, e5, Or.inl ⟨by rw [d3 1 11 (by omega)]; exact h11, rfl⟩, Or.inr ⟨m, e4, e1, e6, pos _ e6.1, fun j hj => Or.inr ?_, fun j hj => by rw [e7]; exact e8 j hj, fun j h1 h2 => by rw [e7]; exact e9 j h1 h2⟩⟩, fun j _ _ => Nat.zero_le _⟩
      rw [e7]
      exact (s4.ord hp (Nat.zero_le j) hj).1
  · obtain ⟨⟨j, hj, -⟩, -⟩ := h
    exact absurd hj (Nat.not_lt_zero j)
theorem Rng.same {u w : gw_St} {S lo hi T q0 nm dn i : Nat} {b : Nat → Nat} (hq : q0 = 2 ∨ q0 = 3) (h : Rng u S lo hi T q0 nm dn i b) (e1 : ∀ p j, p = 1 ∨ p = 2 ∨ p = 3 → w.2.1 p j = u.2.1 p j) (e2 : ∀ j, 11 ≤ j → j ≤ 13 → w.1 1 j = u.1 1 j) : Rng w S lo hi T q0 nm dn i b := by
  obtain ⟨h1, ⟨W, g, pl, h2, h3⟩, h4⟩ := h
  exact ⟨h1.same (fun j => e1 q0 j (by omega)), ⟨W, g, pl, h2.same e2, h3⟩, h4.same (fun k _ _ => e1 1 k (by omega))⟩
/-- goThrough -/
theorem tr_go {F : Nat} (hF : 50000 ≤ F) {u : gw_St} {S lo hi T q0 nm dn i0 fu : Nat} (hr : gv_Rf u) (hk : Tk u S lo hi T q0) (h4 : u.2.1 1 4 = Int64.ofNat nm) (h5 : u.2.1 1 5 = Int64.ofNat dn) (hn : nm < 2147483648) (hdn : dn < 2147483648) (h10 : u.1 1 10 = Int32.ofNat i0) (hi0 : i0 ≤ T) (hrun : i0 = 0 ∨ ∃ b, Rng u S lo hi T q0 nm dn i0 b) (hfu : fu ≤ 1000000) : ∃ (w : gw_St) (b : Nat → Nat) (q1 : Nat), gf_Trains_goThrough F gv_z u 1 (Int32.ofNat fu) = some w ∧ w.1 1 10 = Int32.ofNat (i0 + min fu (T - i0)) ∧ Tk w S lo hi T q1 ∧ Rng w S lo hi T q1 nm dn (i0 + min fu (T - i0)) b ∧ Fg u w := by
  have hp := hk.1
  obtain ⟨n1, n2, n3⟩ := hk.num
  have second : ∀ (v : gw_St) (b : Nat → Nat) (q1 : Nat), gv_Rf v → Tk v S lo hi T q1 → Rng v S lo hi T q1 nm dn i0 b → Fg u v → v.1 1 10 = Int32.ofNat i0 → ∃ (w : gw_St) (b : Nat → Nat) (q1 : Nat), gf_Trains_goThrough_b11 F gv_z v 1 (Int32.ofNat fu) = some w ∧ w.1 1 10 = Int32.ofNat (i0 + min fu (T - i0)) ∧ Tk w S lo hi T q1 ∧ Rng w S lo hi T q1 nm dn (i0 + min fu (T - i0)) b ∧ Fg u w := by
    intro v b q1 rv kv Rv fv v10
    obtain ⟨l1, -⟩ := kv.len
    have hq1 : q1 = 2 ∨ q1 = 3 := kv.2.2.2.2.2.2.1
    have main := gl_up (σ := gw_St) (N := i0 + min fu (T - i0)) (L := fun f w i => gf_Trains_goThrough_L35 F gv_z f w 1 (Int32.ofNat (i0 + min fu (T - i0))) (Int32.ofNat i)) (I := fun i w => Tk w S lo hi T q1 ∧ Rng w S lo hi T q1 nm dn i b ∧ Fg u w) (R := fun x => ∃ (w : gw_St) (b : Nat → Nat) (q1 : Nat), x = some w ∧ w.1 1 10 = Int32.ofNat (i0 + min fu (T - i0)) ∧ Tk w S lo hi T q1 ∧ Rng w S lo hi T q1 nm dn (i0 + min fu (T - i0)) b ∧ Fg u w)
      (fun f w i hI hi' => by
        obtain ⟨i1, ⟨i2, ⟨W, g, pl, i3, i4⟩, i5⟩, i6⟩ := hI
        have hiT : i < T := by omega
        obtain ⟨c1, c2, -⟩ := i2.at hp hiT
        have hX : ∀ d e, ((∃ j, j < i ∧ d = cx b j) ∧ Cand S lo hi nm dn (pP S d) e) → isC S lo hi d ∧ isC S lo hi e := fun d e h => by
          obtain ⟨⟨j, hj, e1⟩, h2⟩ := h
          exact ⟨by rw [e1]; exact (i2.at hp (by omega)).1, h2.1.1⟩
        obtain ⟨w', d1, d2, d3, d4, d5, d6⟩ := tr_drivers (F := F) hF (d := cx b i) i1 i2 (by rw [i6.2.2 1 4 (by omega) (by omega) (by omega)]; exact h4) (by rw [i6.2.2 1 5 (by omega) (by omega) (by omega)]; exact h5) hn hdn c1 hX i5 ⟨g, pl, i3⟩ (i4 i (Nat.le_refl _) hiT)
        obtain ⟨g', pl', d5⟩ := d5
        refine ⟨w', ⟨i1.same (fun k _ _ => d3 1 k (by omega)) (by rw [d2]) (by rw [d2]), ⟨i2.same (fun j => d4 q1 j (by omega)), ⟨_, g', pl', d5, fun j h1 h2 => Nat.mul_le_mul_right _ (i2.ord hp (by omega) h2).1⟩, d6.mono (fun d e => ?_)⟩, i6.trans ⟨fun p j _ => by rw [d2], fun p j _ _ q3 => d3 p j (by omega), fun p j _ _ q3 => d4 p j q3⟩⟩, ?_⟩
        · constructor
          · rintro (⟨⟨j, hj, e1⟩, h2⟩ | ⟨h1, h2⟩)
            · exact ⟨⟨j, by omega, e1⟩, h2⟩
            · exact ⟨⟨i, by omega, h1⟩, by rw [h1]; exact h2⟩
          · rintro ⟨⟨j, hj, e1⟩, h2⟩
            by_cases q : j = i
            · rw [q] at e1
              exact Or.inr ⟨e1, by rw [← e1]; exact h2⟩
            · exact Or.inl ⟨⟨j, by omega, e1⟩, h2⟩
        · show gf_Trains_goThrough_S35 F gv_z _ w 1 _ (Int32.ofNat i) = _
          unfold gf_Trains_goThrough_S35
          rw [if_neg (fun e => by have := (gi_le (by omega) (by omega)).mp e; omega), i1.2.2.2.2.2.2.2.1, gnn, if_neg (gi_ix (by rw [l1]; omega) (by omega)), i32_clamp (by omega), i2.1 i hiT, c2, d1, Option.bind_some]
          simp only [gf_nm]
          rw [gw_iS])
      (fun f w hI => by
        obtain ⟨i1, i2, i6⟩ := hI
        refine ⟨gw_wi w 1 10 (Int32.ofNat (i0 + min fu (T - i0))), b, q1, ?_, wi_same, i1.same (fun k _ _ => by rw [wi_ne (by omega)]) rfl rfl, i2.same hq1 (fun _ _ _ => rfl) (fun j _ _ => by rw [wi_ne (by omega)]), i6.trans ⟨fun _ _ _ => rfl, fun p j _ _ q3 => by rw [wi_ne (by omega)], fun _ _ _ _ _ => rfl⟩⟩
        show gf_Trains_goThrough_S35 F gv_z _ w 1 _ (Int32.ofNat (i0 + min fu (T - i0))) = _
        unfold gf_Trains_goThrough_S35
        rw [if_pos ((gi_le (by omega) (by omega)).mpr (Nat.le_refl _))]
        rfl)
    have hfin := main (min fu (T - i0)) i0 v F rfl ⟨kv, Rv, fv⟩ (by omega)
    unfold gf_Trains_goThrough_b11
    simp only [gf_nm]
    rw [v10, kv.2.2.2.2.2.1, gi_sub hi0 (by omega)]
    by_cases c : T - i0 < fu
    · rw [if_pos ((gi_lt (by omega) (by omega)).mpr c), gi_add, show i0 + (T - i0) = i0 + min fu (T - i0) by omega]
      exact hfin
    · rw [if_neg (fun e => c ((gi_lt (by omega) (by omega)).mp e)), gi_add, show Int32.ofNat (i0 + fu) = Int32.ofNat (i0 + min fu (T - i0)) by rw [show i0 + fu = i0 + min fu (T - i0) by omega]]
      exact hfin
  show ∃ (w : gw_St) (b : Nat → Nat) (q1 : Nat), gf_Trains_goThrough_b0 F gv_z u 1 (Int32.ofNat fu) = some w ∧ _
  unfold gf_Trains_goThrough_b0
  by_cases z : i0 = 0
  · obtain ⟨v, b, q1, a1, a2, a3, a4, a5⟩ := tr_prepare (F := F) (nm := nm) (dn := dn) hF hr hk
    rw [if_pos (by rw [h10, z]; rfl), a1, Option.bind_some]
    exact second v b q1 (hr.fg a4) a2 (by rw [z]; exact a3) a4 (by rw [a5]; exact h10)
  · rw [if_neg (fun e => z ((gi_eq0 (by omega)).mp (by rw [← h10]; exact e)))]
    rcases hrun with h | ⟨b, h⟩
    · exact absurd h z
    · exact second u b q0 hr hk h Fg.refl h10
