/-- the pointers move up to the wanted product -/
theorem tr_move {F : Nat} (hF : 50000 ≤ F) {u : gw_St} {S lo hi T q0 nm W : Nat} {b : Nat → Nat} {y1 : Int64} (hk : Tk u S lo hi T q0) (hs : Sa u S lo hi T q0 b) (h4 : u.2.1 1 4 = Int64.ofNat nm) (hn : nm < 2147483648) (hW : W < 2 ^ 60) (hP : ∃ g pl, Ptr u S lo hi T nm W g pl b) : ∃ w, gf_Trains_tryDrivers_L13 F gv_z F u 1 y1 (Int64.ofNat W) (Int32.ofNat 0) = gf_Trains_tryDrivers_b52 F gv_z w 1 y1 ∧ w.2 = u.2 ∧ (∀ a k, ¬ (a = 1 ∧ 11 ≤ k ∧ k ≤ 13) → w.1 a k = u.1 a k) ∧ (∃ g pl, Ptr w S lo hi T nm W g pl b) ∧ ∀ ma, ma < T → w.1 1 12 = Int32.ofNat ma → W ≤ pP S (cx b ma) * nm := by
  obtain ⟨hp, -, h6, h7, h8, h9, hq, h10, h11⟩ := id hk
  obtain ⟨n1, n2, n3⟩ := hk.num
  have run : ∀ (j st f : Nat) (w : gw_St) (g pl : Nat), st + j = T → j < f → w.2 = u.2 → (∀ a k, ¬ (a = 1 ∧ 11 ≤ k ∧ k ≤ 13) → w.1 a k = u.1 a k) → Ptr w S lo hi T nm W g pl b → (w.1 1 12 = -1 ∨ st + 1 ≤ g) → ∃ w', gf_Trains_tryDrivers_L13 F gv_z f w 1 y1 (Int64.ofNat W) (Int32.ofNat st) = gf_Trains_tryDrivers_b52 F gv_z w' 1 y1 ∧ w'.2 = u.2 ∧ (∀ a k, ¬ (a = 1 ∧ 11 ≤ k ∧ k ≤ 13) → w'.1 a k = u.1 a k) ∧ (∃ g pl, Ptr w' S lo hi T nm W g pl b) ∧ ∀ ma, ma < T → w'.1 1 12 = Int32.ofNat ma → W ≤ pP S (cx b ma) * nm := by
    intro j
    induction j with
    | zero =>
      intro st f w g pl hst hf e1 e2 e3 e4
      obtain ⟨f, rfl⟩ : ∃ q, f = q + 1 := ⟨f - 1, by omega⟩
      refine ⟨w, ?_, e1, e2, ⟨g, pl, e3⟩, fun ma m1 m2 => ?_⟩
      · show gf_Trains_tryDrivers_S13 F gv_z _ w 1 y1 (Int64.ofNat W) (Int32.ofNat st) = _
        unfold gf_Trains_tryDrivers_S13
        rw [e2 1 9 (by omega), h9, if_pos ((gi_le (by omega) (by omega)).mpr (by omega))]
      · have hg := e3.2.1
        rcases e4 with e4 | e4
        · rw [e4] at m2
          exact absurd m2.symm (n1ne (by omega))
        · omega
    | succ j ih =>
      intro st f w g pl hst hf e1 e2 e3 e4
      obtain ⟨f, rfl⟩ : ∃ q, f = q + 1 := ⟨f - 1, by omega⟩
      have kw : Tk w S lo hi T q0 := hk.same (fun k q1 q2 => e2 1 k (by omega)) (by rw [e1]) (by rw [e1])
      have sw : Sa w S lo hi T q0 b := hs.same (fun j => by rw [e1])
      have h4w : w.2.1 1 4 = Int64.ofNat nm := by rw [e1]; exact h4
      obtain ⟨p1, p2, p3, p4⟩ := id e3
      have hnot : (∀ ma, ma < T → w.1 1 12 = Int32.ofNat ma → W ≤ pP S (cx b ma) * nm) → gf_Trains_isBelow F gv_z w 1 (w.1 1 12) (Int64.ofNat W) = some (0, w) → ∃ w', gf_Trains_tryDrivers_L13 F gv_z (f + 1) w 1 y1 (Int64.ofNat W) (Int32.ofNat st) = gf_Trains_tryDrivers_b52 F gv_z w' 1 y1 ∧ w'.2 = u.2 ∧ (∀ a k, ¬ (a = 1 ∧ 11 ≤ k ∧ k ≤ 13) → w'.1 a k = u.1 a k) ∧ (∃ g pl, Ptr w' S lo hi T nm W g pl b) ∧ ∀ ma, ma < T → w'.1 1 12 = Int32.ofNat ma → W ≤ pP S (cx b ma) * nm := fun z1 z2 => by
        refine ⟨w, ?_, e1, e2, ⟨g, pl, e3⟩, z1⟩
        show gf_Trains_tryDrivers_S13 F gv_z _ w 1 y1 (Int64.ofNat W) (Int32.ofNat st) = _
        unfold gf_Trains_tryDrivers_S13
        rw [e2 1 9 (by omega), h9, if_neg (fun e => by have := (gi_le (by omega) (by omega)).mp e; omega), z2]
        simp only [gf_cl]
        rw [if_pos trivial]
      rcases p4 with ⟨a1, a2, a3⟩ | ⟨ma, a1, a2, a3, a4, a5, a6, a7⟩
      · refine hnot (fun ma m1 m2 => by rw [a1] at m2; exact absurd m2.symm (n1ne (by omega))) ?_
        rw [a1]
        show gf_Trains_isBelow_b0 F gv_z w 1 (-1) (Int64.ofNat W) = _
        unfold gf_Trains_isBelow_b0 gf_Trains_isBelow_b28 gf_Trains_isBelow_b29
        rw [if_pos rfl, if_neg (by decide)]
      · have hb := tr_below (F := F) (m := ma) kw sw h4w hn hW (by omega)
        by_cases c : pP S (cx b ma) * nm < W
        · rw [if_pos c] at hb
          -- the next group
          have hgs : ∀ j, j < g → g < T → pP S (cx b j) < pP S (cx b g) := fun j q1 q2 => Nat.lt_of_le_of_lt (a6 j q1) (a7 g (Nat.le_refl _) q2)
          generalize hw1 : gw_wi w 1 11 (Int32.ofNat ma) = w1
          have i1 : ∀ a k, ¬ (a = 1 ∧ k = 11) → w1.1 a k = w.1 a k := fun a k q => by rw [← hw1, wi_ne q]
          have u1 : w1.2 = w.2 := by rw [← hw1]; rfl
          have k1 : Tk w1 S lo hi T q0 := kw.same (fun k q1 q2 => i1 1 k (by omega)) (by rw [u1]) (by rw [u1])
          obtain ⟨w2, b1, b2, b3, b4⟩ := tr_group (F := F) hF (u := w1) k1 (sw.same (fun j => by rw [u1])) (by rw [i1 1 13 (by omega)]; exact p1) p2 hgs
          have hgo : gf_Trains_tryDrivers_L13 F gv_z (f + 1) w 1 y1 (Int64.ofNat W) (Int32.ofNat st) = gf_Trains_tryDrivers_L13 F gv_z f w2 1 y1 (Int64.ofNat W) (Int32.ofNat (st + 1)) := by
            show gf_Trains_tryDrivers_S13 F gv_z _ w 1 y1 (Int64.ofNat W) (Int32.ofNat st) = _
            unfold gf_Trains_tryDrivers_S13
            rw [e2 1 9 (by omega), h9, if_neg (fun e => by have := (gi_le (by omega) (by omega)).mp e; omega), a2, hb]
            simp only [gf_cl]
            rw [if_neg (by decide)]
            simp only [gf_nm]
            rw [a2, hw1, b1, Option.bind_some, gw_iS]
          rw [hgo]
          have h11w : w2.1 1 11 = Int32.ofNat ma := by rw [b3 1 11 (by omega), ← hw1, wi_same]
          have hu2 : w2.2 = u.2 := b2.trans (u1.trans e1)
          have hi2 : ∀ a k, ¬ (a = 1 ∧ 11 ≤ k ∧ k ≤ 13) → w2.1 a k = u.1 a k := fun a k q => by rw [b3 a k (by omega), i1 a k (by omega)]; exact e2 a k q
          have hbel : ∃ mb, mb < T ∧ w2.1 1 11 = Int32.ofNat mb ∧ isRep S lo hi (cx b mb) ∧ pP S (cx b mb) = pP S (cx b ma) ∧ pP S (cx b ma) * nm < W := ⟨ma, by omega, h11w, a3, rfl, c⟩
          rcases b4 with ⟨c1, c2, c3⟩ | ⟨c1, m, e, c2, c3, c4, c5, c6, c7, c8, c9, c10⟩
          · refine ih (st + 1) f w2 g (pP S (cx b ma)) (by omega) (by omega) hu2 hi2 ⟨c3, p2, Or.inr hbel, Or.inl ⟨c2, c1, fun j hj => a6 j (by omega)⟩⟩ (Or.inl c2)
          · have hg1 : st + 1 ≤ g := by
              rcases e4 with e4 | e4
              · rw [a2] at e4; exact absurd e4 (n1ne (by omega))
              · exact e4
            refine ih (st + 1) f w2 e (pP S (cx b ma)) (by omega) (by omega) hu2 hi2 ⟨c3, c6, Or.inr hbel, Or.inr ⟨m, c5, c2, c7, ?_, fun j hj => ?_, fun j hj => ?_, fun j h1 h2 => ?_⟩⟩ (Or.inr (by omega))
            · rw [c8]; exact a7 g (Nat.le_refl _) c1
            · by_cases q : j < g
              · exact Or.inl (a6 j q)
              · rw [c8]; exact Or.inr (hs.ord hp (by omega) hj).1
            · rw [c8]; exact c9 j hj
            · rw [c8]; exact c10 j h1 h2
        · rw [if_neg c] at hb
          refine hnot (fun m m1 m2 => ?_) (by rw [a2]; exact hb)
          have em : m = ma := (gi_eq (by omega) (by omega)).mp (by rw [← m2, a2])
          rw [em]; omega
  obtain ⟨g, pl, hP⟩ := hP
  refine run T 0 F u g pl (by omega) (by omega) rfl (fun _ _ _ => rfl) hP ?_
  rcases hP.2.2.2 with ⟨a1, -⟩ | ⟨ma, a1, -⟩
  · exact Or.inl a1
  · exact Or.inr (by omega)
/-- tryDrivers -/
theorem tr_drivers {F : Nat} (hF : 50000 ≤ F) {u : gw_St} {S lo hi T q0 nm dn d W0 : Nat} {b : Nat → Nat} {X : Nat → Nat → Prop} (hk : Tk u S lo hi T q0) (hs : Sa u S lo hi T q0 b) (h4 : u.2.1 1 4 = Int64.ofNat nm) (h5 : u.2.1 1 5 = Int64.ofNat dn) (hn : nm < 2147483648) (hdn : dn < 2147483648) (hd : isC S lo hi d) (hX : ∀ d e, X d e → isC S lo hi d ∧ isC S lo hi e) (hB : Bs u S lo hi nm dn X) (hP : ∃ g pl, Ptr u S lo hi T nm W0 g pl b) (hW0 : W0 ≤ pP S d * dn) : ∃ w, gf_Trains_tryDrivers F gv_z u 1 (Int64.ofNat (vv S d)) = some w ∧ w.2.2 = u.2.2 ∧ (∀ a k, ¬ (a = 1 ∧ 11 ≤ k ∧ k ≤ 13) → w.1 a k = u.1 a k) ∧ (∀ a k, ¬ (a = 1 ∧ 14 ≤ k ∧ k ≤ 16) → w.2.1 a k = u.2.1 a k) ∧ (∃ g pl, Ptr w S lo hi T nm (pP S d * dn) g pl b) ∧ Bs w S lo hi nm dn (fun d' e' => X d' e' ∨ d' = d ∧ Cand S lo hi nm dn (pP S d) e') := by
  obtain ⟨hp, -, h6, h7, h8, h9, hq, h10, h11⟩ := id hk
  obtain ⟨n1, n2, n3⟩ := hk.num
  obtain ⟨l1, l2⟩ := hk.len
  obtain ⟨d1, d2, -⟩ := vv_lt hp hd
  have hm1 : pP S d * dn ≤ 207360000 * 2147483648 := Nat.mul_le_mul (hd.prd hp).2 (by omega)
  obtain ⟨g0, pl0, hP0⟩ := hP
  obtain ⟨w, a1, a2, a3, a4, a5⟩ := tr_move (F := F) hF (y1 := Int64.ofNat (vv S d)) (W := pP S d * dn) hk hs h4 hn (by omega) ⟨g0, pl0, hP0.more hW0⟩
  have hst : gf_Trains_tryDrivers F gv_z u 1 (Int64.ofNat (vv S d)) = gf_Trains_tryDrivers_b52 F gv_z w 1 (Int64.ofNat (vv S d)) := by
    have hpr : gf_Trains_product F gv_z u (Int64.ofNat (vv S d)) = some (Int64.ofNat (pP S d), u) := by rw [tr_product d1, d2]
    rw [← a1]
    show gf_Trains_tryDrivers_b0 F gv_z u 1 (Int64.ofNat (vv S d)) = _
    unfold gf_Trains_tryDrivers_b0
    rw [hpr]
    simp only [gf_cl, gf_nm]
    rw [h5, i64_mul]
    rfl
  have kw : Tk w S lo hi T q0 := hk.same (fun k q1 q2 => a3 1 k (by omega)) (by rw [a2]) (by rw [a2])
  have sw : Sa w S lo hi T q0 b := hs.same (fun j => by rw [a2])
  have hBw : Bs w S lo hi nm dn X := hB.same (fun k _ _ => by rw [a2])
  obtain ⟨g, pl, hPw⟩ := a4
  have hcand := cand_two (dn := dn) (p := pP S d) hp sw hPw a5 n2
  obtain ⟨p1, p2, p3, p4⟩ := id hPw
  have h6w : w.1 1 6 = Int32.ofNat S := kw.2.2.1
  -- the lower one
  have lower : ∃ w1, gf_Trains_tryDrivers_b52 F gv_z w 1 (Int64.ofNat (vv S d)) = gf_Trains_tryDrivers_b74 F gv_z w1 1 (Int64.ofNat (vv S d)) ∧ w1.1 = w.1 ∧ w1.2.2 = w.2.2 ∧ (∀ a k, ¬ (a = 1 ∧ 14 ≤ k ∧ k ≤ 16) → w1.2.1 a k = w.2.1 a k) ∧ Bs w1 S lo hi nm dn (fun d' e' => X d' e' ∨ d' = d ∧ ∃ m, m < T ∧ w.1 1 11 = Int32.ofNat m ∧ e' = cx b m) := by
    unfold gf_Trains_tryDrivers_b52
    rcases p3 with ⟨z, -⟩ | ⟨mb, m1, m2, m3, m4, m5⟩
    · rw [if_pos z]
      refine ⟨w, rfl, rfl, rfl, fun _ _ _ => rfl, hBw.mono (fun d' e' => ⟨fun h => Or.inl h, fun h => ?_⟩)⟩
      rcases h with h | ⟨-, m, q1, q2, -⟩
      · exact h
      · rw [z] at q2; exact absurd q2.symm (n1ne (by omega))
    · obtain ⟨w1, b1, b2, b3, b4, b5⟩ := tr_try (F := F) (by omega) (u := w) hp h6w (by rw [a2]; exact h4) (by rw [a2]; exact h5) hn hdn hd m3.1 hX hBw
      have hval : w.2.1 q0 mb = Int64.ofNat (vv S (cx b mb)) := by rw [sw.1 mb m1, ← (sw.at hp m1).2.1]
      refine ⟨w1, ?_, b2, b3, b4, b5.mono (fun d' e' => ⟨fun h => ?_, fun h => ?_⟩)⟩
      · rw [m2, if_neg (n1ne (by omega)), kw.2.2.2.2.2.2.2.1, gnn, if_neg (gi_ix (by rw [l1]; omega) (by omega)), i32_clamp (by omega), hval, b1, Option.bind_some]
      · rcases h with h | ⟨h1, h2⟩
        · exact Or.inl h
        · exact Or.inr ⟨h1, mb, m1, m2, h2⟩
      · rcases h with h | ⟨h1, m, q1, q2, q3⟩
        · exact Or.inl h
        · have em : m = mb := (gi_eq (by omega) (by omega)).mp (by rw [← q2, m2])
          rw [em] at q3
          exact Or.inr ⟨h1, q3⟩
  obtain ⟨w1, c1, c2, c3, c4, c5⟩ := lower
  have hX1 : ∀ d' e', (X d' e' ∨ d' = d ∧ ∃ m, m < T ∧ w.1 1 11 = Int32.ofNat m ∧ e' = cx b m) → isC S lo hi d' ∧ isC S lo hi e' := fun d' e' h => by
    rcases h with h | ⟨h1, m, q1, q2, q3⟩
    · exact hX d' e' h
    · exact ⟨by rw [h1]; exact hd, by rw [q3]; exact (sw.at hp q1).1⟩
  have upper : ∃ w2, gf_Trains_tryDrivers_b74 F gv_z w1 1 (Int64.ofNat (vv S d)) = some w2 ∧ w2.1 = w.1 ∧ w2.2.2 = w.2.2 ∧ (∀ a k, ¬ (a = 1 ∧ 14 ≤ k ∧ k ≤ 16) → w2.2.1 a k = w.2.1 a k) ∧ Bs w2 S lo hi nm dn (fun d' e' => (X d' e' ∨ d' = d ∧ ∃ m, m < T ∧ w.1 1 11 = Int32.ofNat m ∧ e' = cx b m) ∨ d' = d ∧ ∃ m, m < T ∧ w.1 1 12 = Int32.ofNat m ∧ e' = cx b m) := by
    unfold gf_Trains_tryDrivers_b74 gf_Trains_tryDrivers_b96
    rcases p4 with ⟨z, -⟩ | ⟨ma, m1, m2, m3, -⟩
    · rw [c2, if_pos z]
      refine ⟨w1, rfl, c2, c3, c4, c5.mono (fun d' e' => ⟨fun h => Or.inl h, fun h => ?_⟩)⟩
      rcases h with h | ⟨-, m, q1, q2, -⟩
      · exact h
      · rw [z] at q2; exact absurd q2.symm (n1ne (by omega))
    · have m1T : ma < T := by omega
      obtain ⟨w2, b1, b2, b3, b4, b5⟩ := tr_try (F := F) (by omega) (u := w1) hp (by rw [c2]; exact h6w) (by rw [c4 1 4 (by omega), a2]; exact h4) (by rw [c4 1 5 (by omega), a2]; exact h5) hn hdn hd m3.1 hX1 c5
      have hval : w1.2.1 q0 ma = Int64.ofNat (vv S (cx b ma)) := by rw [c4 q0 ma (by omega), sw.1 ma m1T, ← (sw.at hp m1T).2.1]
      refine ⟨w2, ?_, b2.trans c2, b3.trans c3, fun a k q => (b4 a k q).trans (c4 a k q), b5.mono (fun d' e' => ⟨fun h => ?_, fun h => ?_⟩)⟩
      · rw [c2, m2, if_neg (n1ne (by omega)), c3, kw.2.2.2.2.2.2.2.1, gnn, if_neg (gi_ix (by rw [l1]; omega) (by omega)), i32_clamp (by omega), hval, b1, Option.bind_some]
      · rcases h with h | ⟨h1, h2⟩
        · exact Or.inl h
        · exact Or.inr ⟨h1, ma, m1T, m2, h2⟩
      · rcases h with h | ⟨h1, m, q1, q2, q3⟩
        · exact Or.inl h
        · have em : m = ma := (gi_eq (by omega) (by omega)).mp (by rw [← q2, m2])
          rw [em] at q3
          exact Or.inr ⟨h1, q3⟩
  obtain ⟨w2, e1, e2, e3, e4, e5⟩ := upper
  refine ⟨w2, by rw [hst, c1]; exact e1, by rw [e3, a2], fun a k q => by rw [e2]; exact a3 a k q, fun a k q => by rw [e4 a k q, a2], ⟨g, pl, hPw.same (fun k _ _ => by rw [e2])⟩, e5.mono (fun d' e' => ?_)⟩
  rw [hcand e', or_assoc]
  constructor
  · rintro (h | ⟨h1, h2⟩ | ⟨h1, h2⟩)
    · exact Or.inl h
    · exact Or.inr ⟨h1, Or.inl h2⟩
    · exact Or.inr ⟨h1, Or.inr h2⟩
  · rintro (h | ⟨h1, h2 | h2⟩)
    · exact Or.inl h
    · exact Or.inr (Or.inl ⟨h1, h2⟩)
    · exact Or.inr (Or.inr ⟨h1, h2⟩)
