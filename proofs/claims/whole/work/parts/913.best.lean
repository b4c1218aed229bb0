/-- the best train is asked for: both sides know the same one -/
theorem gs_found {F : Nat} (hF : 300000 ≤ F) {v : gw_St} {q0 S lo hi T nm dn : Nat} (hr : gv_Rf v) (h : gv_T1 v q0 S lo hi T nm dn T) : ∃ w d e, gf_Model_findTrain F gv_z v 670 = some w ∧ Mt v w ∧ gv_T1 w q0 S lo hi T nm dn T ∧ isC S lo hi d ∧ isC S lo hi e ∧ v.2.1 1 14 = Int64.ofNat (vv S d) ∧ v.2.1 1 15 = Int64.ofNat (vv S e) ∧ v.2.1 1 16 = Int64.ofNat (gap S nm dn d e) ∧ w.1 670 16 = Int32.ofNat d ∧ w.1 670 17 = Int32.ofNat e ∧ w.2.1 670 13 = Int64.ofNat (gap S nm dn d e) ∧ w.2.1 670 14 = Int64.ofNat (pP S e * dn) := by
  obtain ⟨b1, b2, b3, b4, b5, b6, b7, b8, b9, b10, b11, b12, b13⟩ := id h
  obtain ⟨n1, n2, n3⟩ := b2.num
  have hp := b2.1
  have hq : q0 = 2 ∨ q0 = 3 := b2.2.2.2.2.2.2.1
  rcases b8 with b8 | ⟨b, b8⟩
  · omega
  obtain ⟨s1, s2, s3⟩ := id b8
  have hcov : ∀ x, isC S lo hi x → ∃ j, j < T ∧ cx b j = x := fun x hx => by
    obtain ⟨j, hj, e⟩ := s1.2.2.2 x hx
    exact ⟨j, hj, by unfold cx; rw [e]; exact (vv_lt hp hx).2.2⟩
  -- the reference's side
  have hM : ∃ w, gf_Model_findTrain F gv_z v 670 = some w ∧ Mt v w ∧ w.1 670 8 = 1 ∧ Fnd w S lo hi nm dn (fun d e => isRep S lo hi d ∧ Cand S lo hi nm dn (pP S d) e) ∧ (∀ x, isC S lo hi x → ∃ z, isRep S lo hi z ∧ pP S z = pP S x) ∧ ∃ d e, isRep S lo hi d ∧ Cand S lo hi nm dn (pP S d) e := by
    rcases b13 with z | ⟨z1, z2, z3⟩
    · exact gm_find (F := F) hF hr hp b11 b9 b10 b5.2.1 b5.2.2.2 b5.2.2.1 z n2 hcov
    · refine ⟨v, ?_, ⟨rfl, fun _ _ _ _ => rfl, fun _ _ _ => rfl⟩, z1, z2, z3⟩
      show gf_Model_findTrain_b0 F gv_z v 670 = _
      unfold gf_Model_findTrain_b0
      rw [z1, if_neg (by decide)]
  obtain ⟨w, a1, a2, a3, a4, a5, a6⟩ := hM
  have hT1 : gv_T1 w q0 S lo hi T nm dn T := by
    have f1 : ∀ k, w.1 1 k = v.1 1 k := fun k => a2.2.1 1 k (by omega) (by omega)
    have f2 : ∀ k, k ≤ 7 → w.1 670 k = v.1 670 k := fun k hk => a2.2.1 670 k (by omega) (by omega)
    have f3 : ∀ p k, p ≤ 3 → w.2.1 p k = v.2.1 p k := fun p k hp => a2.2.2 p k (by omega)
    refine ⟨by rw [f2 1 (by omega)]; exact b1, b2.same (fun k _ _ => f1 k) (by rw [a2.1]) (by rw [a2.1]), by rw [f3 1 4 (by omega)]; exact b3, by rw [f3 1 5 (by omega)]; exact b4, b5, by rw [f1]; exact b6, b7, Or.inr ⟨b, b8.same hq (fun p j z => f3 p j (by omega)) (fun j _ _ => f1 j)⟩, by rw [f2 2 (by omega)]; exact b9, by rw [f2 3 (by omega)]; exact b10, ⟨by rw [f2 4 (by omega)]; exact b11.1, by rw [f2 5 (by omega)]; exact b11.2.1, by rw [f2 6 (by omega)]; exact b11.2.2⟩, by rw [f2 7 (by omega)]; exact b12, Or.inr ⟨a3, a4, a5, a6⟩⟩
  -- the class's side
  have hB := s3.mono (Y := fun d e => isC S lo hi d ∧ Cand S lo hi nm dn (pP S d) e) (fun d e => by
    constructor
    · rintro ⟨⟨j, hj, e1⟩, h2⟩
      exact ⟨by rw [e1]; exact (s1.at hp hj).1, h2⟩
    · rintro ⟨h1, h2⟩
      obtain ⟨j, hj, e1⟩ := hcov d h1
      exact ⟨⟨j, hj, e1.symm⟩, h2⟩)
  obtain ⟨d0, e0, r1, r2⟩ := a6
  rcases hB with ⟨-, z⟩ | ⟨d, e, c1, c2, c3, c4, c5, c6⟩
  · exact absurd ⟨r1.1, r2⟩ (z d0 e0)
  · rcases a4 with ⟨-, z⟩ | ⟨d2, e2, g1, g2, g3, g4, g5, g6, g7, g8⟩
    · exact absurd ⟨r1, r2⟩ (z d0 e0)
    · obtain ⟨x1, x2⟩ := bst_same hp a5 c6 g8
      rw [← x1] at g1 g4
      rw [← x2] at g1 g2 g5
      exact ⟨w, d, e, a1, a2, hT1, c4, c5, c1, c2, c3, g4, g5, g1, g2⟩
/-- whether the search is over -/
theorem gs_over {F : Nat} {u : gw_St} (hr : gv_Rf u) (hT : gv_Ta u) : (gf_Desk_needBestTrain F gv_z u 0 = some (.inr 2, u) ∧ ∀ v : gw_St, v.1 670 1 = u.1 670 1 → v.1 670 7 = u.1 670 7 → gf_Model_isOver F gv_z v 670 = some (0, v)) ∨ (gf_Desk_needBestTrain F gv_z u 0 = some (.inl (), u) ∧ (∀ v : gw_St, v.1 670 1 = u.1 670 1 → v.1 670 7 = u.1 670 7 → gf_Model_isOver F gv_z v 670 = some (1, v)) ∧ ∃ q0 S lo hi T nm dn, gv_T1 u q0 S lo hi T nm dn T) := by
  have hI : ∀ v : gw_St, gf_Model_isOver F gv_z v 670 = some (if v.1 670 1 = 0 then 0 else if v.1 670 7 = 0 then 1 else 0, v) := fun v => by
    show gf_Model_isOver_b0 F gv_z v 670 = _
    unfold gf_Model_isOver_b0 gf_Model_isOver_b18 gf_Model_isOver_b19
    by_cases c : v.1 670 1 = 0
    · rw [if_pos c, if_pos c, if_neg (by decide)]
    · rw [if_neg c, if_neg c]
      by_cases d : v.1 670 7 = 0
      · rw [if_pos d, if_pos d, if_neg (by decide)]
      · rw [if_neg d, if_neg d, if_neg (by decide)]
  obtain ⟨q0, q1, q2, q3, q4⟩ := id hT
  rcases q4 with ⟨a1, a2, a3⟩ | ⟨S, lo, hi, T, nm, dn, i, t1⟩
  · exact Or.inl ⟨gs_needBest0 hr a2, fun v e1 e2 => by rw [hI, e1, a1, if_pos rfl]⟩
  · obtain ⟨b1, b2, b3, b4, b5, b6, b7, b8, b9, b10, b11, b12, b13⟩ := id t1
    obtain ⟨n1, n2, n3⟩ := b2.num
    have h9 : u.1 1 9 = Int32.ofNat T := b2.2.2.2.2.2.1
    have hleft : gf_Trains_choicesLeft F gv_z u 1 = some (Int32.ofNat (T - i), u) := by
      show some (u.1 1 9 - u.1 1 10, u) = _
      rw [h9, b6, gi_sub b7 (by omega)]
    have hn : gf_Desk_needBestTrain F gv_z u 0 = if Int32.ofNat (T - i) ≤ 0 then some (.inl (), u) else some (.inr 2, u) := by
      show gf_Desk_needBestTrain_b0 F gv_z u 0 = _
      unfold gf_Desk_needBestTrain_b0 gf_Desk_needBestTrain_b20
      rw [hr.get rfl gv_r0_0, gnn, gs_hasTask]
      simp only [gf_cl]
      rw [h9, if_neg (show ¬ Int32.ofNat T ≤ 0 from fun e => by have := (gi_le0 (by omega)).mp e; omega), if_neg (by decide), hr.get rfl gv_r0_0, gnn, hleft]
    by_cases c : T - i = 0
    · have : i = T := by omega
      subst this
      exact Or.inr ⟨by rw [hn, if_pos ((gi_le0 (by omega)).mpr c)], fun v e1 e2 => by rw [hI, e1, b1, if_neg (by decide), e2, b12, if_pos ((gi_eq0 (by omega)).mpr c)], q0, S, lo, hi, i, nm, dn, t1⟩
    · exact Or.inl ⟨by rw [hn, if_neg (fun e => c ((gi_le0 (by omega)).mp e))], fun v e1 e2 => by rw [hI, e1, b1, if_neg (by decide), e2, b12, if_neg (fun e => c ((gi_eq0 (by omega)).mp e))]⟩
/-- a state with an answer and nothing thrown yet -/
theorem T1.out {u : gw_St} {q0 S lo hi T nm dn i : Nat} {y : Int64} {x : Int32} (h : gv_T1 u q0 S lo hi T nm dn i) : gv_T1 (gw_wi (gw_wl u 701 0 y) 670 0 x) q0 S lo hi T nm dn i := by
  obtain ⟨b1, b2, b3, b4, b5, b6, b7, b8, b9, b10, b11, b12, b13⟩ := h
  have hq : q0 = 2 ∨ q0 = 3 := b2.2.2.2.2.2.2.1
  have f1 : ∀ p k, ¬ (p = 670 ∧ k = 0) → (gw_wi (gw_wl u 701 0 y) 670 0 x).1 p k = u.1 p k := fun p k z => by rw [wi_ne z]; rfl
  have f2 : ∀ p k, p ≠ 701 → (gw_wi (gw_wl u 701 0 y) 670 0 x).2.1 p k = u.2.1 p k := fun p k z => by
    show (gw_wl u 701 0 y).2.1 p k = _
    rw [wl_ne (fun e => z e.1)]
  refine ⟨by rw [f1 670 1 (by omega)]; exact b1, b2.same (fun k _ _ => f1 1 k (by omega)) rfl rfl, by rw [f2 1 4 (by omega)]; exact b3, by rw [f2 1 5 (by omega)]; exact b4, b5, by rw [f1 1 10 (by omega)]; exact b6, b7, ?_, by rw [f1 670 2 (by omega)]; exact b9, by rw [f1 670 3 (by omega)]; exact b10, ⟨by rw [f1 670 4 (by omega)]; exact b11.1, by rw [f1 670 5 (by omega)]; exact b11.2.1, by rw [f1 670 6 (by omega)]; exact b11.2.2⟩, by rw [f1 670 7 (by omega)]; exact b12, ?_⟩
  · rcases b8 with b8 | ⟨b, b8⟩
    · exact Or.inl b8
    · exact Or.inr ⟨b, b8.same hq (fun p j z => f2 p j (by omega)) (fun j _ _ => f1 1 j (by omega))⟩
  · rw [f1 670 8 (by omega)]
    rcases b13 with b13 | ⟨c1, c2, c3⟩
    · exact Or.inl b13
    · exact Or.inr ⟨c1, c2.same (fun k _ _ => f2 670 k (by omega)) (fun k q1 q2 => f1 670 k (by omega)), c3⟩
theorem T1.ta {u : gw_St} {q0 S lo hi T nm dn i : Nat} (h : gv_T1 u q0 S lo hi T nm dn i) : gv_Ta u := ⟨q0, h.2.1.2.2.2.2.2.2.1, h.2.1.2.2.2.2.2.2.2.1, h.2.1.2.2.2.2.2.2.2.2, Or.inr ⟨S, lo, hi, T, nm, dn, i, h⟩⟩
theorem gs_tooth {F : Nat} (hF : 300000 ≤ F) {u : gw_St} (hr : gv_Rf u) (hT : gv_Ta u) (x1 x2 : Int32) : ∃ k a u1 u2, gf_Law_tooth F gv_z u 0 x1 x2 701 = some (k, u1) ∧ gf_Model_tooth F gv_z u1 670 x1 x2 = some (a, u2) ∧ u2.1 670 0 = k ∧ (k = 0 → lg_cmp (u2.2.1 701 0) a.toInt64 = 0) ∧ gv_Ta u2 ∧ Tf u u2 := by
  have o0 : (0 : Int32).toInt = 0 := rfl
  have o1 : (1 : Int32).toInt = 1 := rfl
  rcases gs_over (F := F) hr hT with ⟨h1, h2⟩ | ⟨h1, h2, q0, S, lo, hi, T, nm, dn, t1⟩
  · obtain ⟨t1, t2⟩ := thr_ta (v := 0) (k := 1) hT
    refine ⟨1, 0, u, _, lw_tooth_2 ?_, ?_, rfl, fun e => absurd e (by decide), t1, t2⟩
    · show gf_Desk_tooth_b0 F gv_z u 0 x1 x2 = _
      unfold gf_Desk_tooth_b0
      rw [h1]
      rfl
    · show gf_Model_tooth_b0 F gv_z u 670 x1 x2 = _
      unfold gf_Model_tooth_b0
      simp only [gf_nm]
      rw [h2 (gw_wi u 670 0 0) (by rw [wi_ne (by omega)]) (by rw [wi_ne (by omega)])]
      simp only [gf_cl]
      rw [if_pos trivial]
      rfl
  · have hk := t1.2.1
    have hp := hk.1
    have h6 : u.1 1 6 = Int32.ofNat S := hk.2.2.1
    have hS : S ≤ 4 := hp.2.1
    have hS1 : 1 ≤ S := hp.1
    have h4 : u.1 670 4 = Int32.ofNat S := t1.2.2.2.2.2.2.2.2.2.2.1.1
    have hd : gf_Desk_tooth F gv_z u 0 x1 x2 = if (0 ≤ x1.toInt ∧ x1.toInt < S) ∧ 0 ≤ x2.toInt ∧ x2.toInt ≤ 1 then (gf_cl (gf_Trains_bestWheel F gv_z u 1 x1 x2) fun a15 u13 => some (.inl a15, u13)) else some (.inr 3, u) := by
      show gf_Desk_tooth_b0 F gv_z u 0 x1 x2 = _
      unfold gf_Desk_tooth_b0 gf_Desk_tooth_b28
      rw [h1]
      simp only [gf_ct]
      by_cases c1 : x1 < 0
      · have := i32_lt.mp c1
        rw [if_pos c1, if_neg (by omega)]
      · have c1' : ¬ x1.toInt < (0 : Int32).toInt := fun q => c1 (i32_lt.mpr q)
        rw [if_neg c1, hr.get rfl gv_r0_0, gnn, h6]
        by_cases c2 : Int32.ofNat S ≤ x1
        · have := i32_le.mp c2
          rw [i32_nat (by omega)] at this
          rw [if_pos c2, if_neg (by omega)]
        · have c2' : ¬ (Int32.ofNat S).toInt ≤ x1.toInt := fun q => c2 (i32_le.mpr q)
          rw [i32_nat (by omega)] at c2'
          rw [if_neg c2]
          by_cases c3 : x2 < 0
          · have := i32_lt.mp c3
            rw [if_pos c3, if_neg (by omega)]
          · have c3' : ¬ x2.toInt < (0 : Int32).toInt := fun q => c3 (i32_lt.mpr q)
            rw [if_neg c3]
            by_cases c4 : x2 ≤ 1
            · have := i32_le.mp c4
              rw [if_pos c4, if_pos (by omega), gnn]
            · have c4' : ¬ x2.toInt ≤ (1 : Int32).toInt := fun q => c4 (i32_le.mpr q)
              rw [if_neg c4, if_neg (by omega)]
    have hm : ∀ v : gw_St, v.1 670 1 = u.1 670 1 → v.1 670 7 = u.1 670 7 → v.1 670 4 = u.1 670 4 → gf_Model_tooth F gv_z v 670 x1 x2 = if (0 ≤ x1.toInt ∧ x1.toInt < S) ∧ 0 ≤ x2.toInt ∧ x2.toInt ≤ 1 then ((gf_Model_findTrain F gv_z (gw_wi v 670 0 0) 670).bind fun u21 => if x2 = 0 then (gf_Model_tooth_b67 F gv_z u21 x1 670 (u21.1 670 16)) else (gf_Model_tooth_b67 F gv_z u21 x1 670 (u21.1 670 17))) else some (0, gw_wi (gw_wi v 670 0 0) 670 0 2) := fun v e1 e2 e3 => by
      show gf_Model_tooth_b0 F gv_z v 670 x1 x2 = _
      unfold gf_Model_tooth_b0 gf_Model_tooth_b41
      simp only [gf_nm]
      rw [h2 (gw_wi v 670 0 0) (by rw [wi_ne (by omega)]; exact e1) (by rw [wi_ne (by omega)]; exact e2)]
      simp only [gf_cl]
      have hSm : (Int32.ofNat S - 1).toInt = (S : Int) - 1 := by
        rw [show (1 : Int32) = Int32.ofNat 1 from rfl, gi_sub hS1 (by omega), i32_nat (by omega)]
        omega
      rw [if_neg (by decide), gs_within]
      simp only []
      rw [wi_ne (show ¬ (670 = 670 ∧ 4 = 0) by omega), e3, h4, hSm, gs_within, gs_fail]
      simp only []
      by_cases c1 : 0 ≤ x1.toInt ∧ x1.toInt < S
      · rw [if_pos (show (0 : Int32).toInt ≤ x1.toInt ∧ x1.toInt ≤ (S : Int) - 1 by omega), if_neg (by decide)]
        by_cases c2 : 0 ≤ x2.toInt ∧ x2.toInt ≤ 1
        · rw [if_pos (show (0 : Int32).toInt ≤ x2.toInt ∧ x2.toInt ≤ (1 : Int32).toInt by omega), if_neg (by decide), if_pos ⟨c1, c2⟩]
        · rw [if_neg (show ¬ ((0 : Int32).toInt ≤ x2.toInt ∧ x2.toInt ≤ (1 : Int32).toInt) by omega), if_pos rfl, if_neg (fun q => c2 q.2)]
          rfl
      · rw [if_neg (show ¬ ((0 : Int32).toInt ≤ x1.toInt ∧ x1.toInt ≤ (S : Int) - 1) by omega), if_pos rfl, if_neg (fun q => c1 q.1)]
    by_cases c : (0 ≤ x1.toInt ∧ x1.toInt < S) ∧ 0 ≤ x2.toInt ∧ x2.toInt ≤ 1
    · rw [if_pos c] at hd
      obtain ⟨ex, hx⟩ := i32_ofn (x := x1) c.1.1
      have hxS : x1.toInt.toNat < S := by omega
      -- what the class answers
      obtain ⟨w0, d, e, f1, f2, f3, f4, f5, f6, f7, f8, f9, f10, f11, f12⟩ := gs_found (F := F) hF hr t1
      obtain ⟨v1, -⟩ := vv_lt hp f4
      obtain ⟨v2, -⟩ := vv_lt hp f5
      obtain ⟨av, hav⟩ : ∃ av : Int32, av = Int32.ofNat (wl S (if x2 = 0 then d else e) x1.toInt.toNat) := ⟨_, rfl⟩
      have hbw : gf_Trains_bestWheel F gv_z u 1 x1 x2 = some (av, u) := by
        show gf_Trains_bestWheel_b0 F gv_z u 1 x1 x2 = _
        unfold gf_Trains_bestWheel_b0 gf_Trains_bestWheel_b16
        rw [f6, f7]
        have g1 : gf_Trains_wheel F gv_z u 1 (Int64.ofNat (vv S d)) x1 = some (Int32.ofNat (wl S d x1.toInt.toNat), u) := by
          conv => lhs; rw [ex]
          rw [tr_wheel h6 hS hxS v1]
          unfold vv
          rw [wl_big hS hxS]
        have g2 : gf_Trains_wheel F gv_z u 1 (Int64.ofNat (vv S e)) x1 = some (Int32.ofNat (wl S e x1.toInt.toNat), u) := by
          conv => lhs; rw [ex]
          rw [tr_wheel h6 hS hxS v2]
          unfold vv
          rw [wl_big hS hxS]
        rw [g1, g2, hav]
        by_cases z : x2 = 0
        · rw [if_pos z, if_pos z]; rfl
        · rw [if_neg z, if_neg z]; rfl
      rw [hbw] at hd
      simp only [gf_cl] at hd
      -- what the reference answers
      have hT2 := T1.out (y := av.toInt64) (x := 0) t1
      have hr2 : gv_Rf (gw_wi (gw_wl u 701 0 av.toInt64) 670 0 0) := hr.eq rfl
      obtain ⟨w, d', e', g1, g2, g3, g4, g5, g6, g7, g8, g9, g10, g11, g12⟩ := gs_found (F := F) hF hr2 hT2
      have hd28 := (g4.wls hp).2.1
      have he28 := (g5.wls hp).2.1
      -- the same train
      have same : d' = d ∧ e' = e := by
        have a1 : vv S d' = vv S d := by
          have q1 : (gw_wi (gw_wl u 701 0 av.toInt64) 670 0 0).2.1 1 14 = u.2.1 1 14 := by
            show (gw_wl u 701 0 av.toInt64).2.1 1 14 = _
            rw [wl_ne (by omega)]
          have q2 : Int64.ofNat (vv S d') = Int64.ofNat (vv S d) := by rw [← g6, q1, f6]
          have q3 := congrArg Int64.toInt q2
          have q4 := (vv_lt hp g4).1
          rw [i64_nat (by omega), i64_nat (by omega)] at q3
          omega
        have a2 : vv S e' = vv S e := by
          have q1 : (gw_wi (gw_wl u 701 0 av.toInt64) 670 0 0).2.1 1 15 = u.2.1 1 15 := by
            show (gw_wl u 701 0 av.toInt64).2.1 1 15 = _
            rw [wl_ne (by omega)]
          have q2 : Int64.ofNat (vv S e') = Int64.ofNat (vv S e) := by rw [← g7, q1, f7]
          have q3 := congrArg Int64.toInt q2
          have q4 := (vv_lt hp g5).1
          rw [i64_nat (by omega), i64_nat (by omega)] at q3
          omega
        exact ⟨by rw [← (vv_lt hp g4).2.2, ← (vv_lt hp f4).2.2, a1], by rw [← (vv_lt hp g5).2.2, ← (vv_lt hp f5).2.2, a2]⟩
      rw [same.1] at g9 hd28
      rw [same.2] at g10 he28
      have h4w : w.1 670 4 = Int32.ofNat S := g3.2.2.2.2.2.2.2.2.2.2.1.1
      have hmw : gf_Model_tooth F gv_z (gw_wl u 701 0 av.toInt64) 670 x1 x2 = some (av, w) := by
        rw [hm (gw_wl u 701 0 av.toInt64) rfl rfl rfl, if_pos c, g1, Option.bind_some]
        unfold gf_Model_tooth_b67
        rw [g9, g10]
        have k1 : gf_Model_wheel F gv_z w 670 (Int32.ofNat d) x1 = some (Int32.ofNat (wl S d x1.toInt.toNat), w) := by
          conv => lhs; rw [ex]
          exact gm_wheel h4w hS hxS (by omega)
        have k2 : gf_Model_wheel F gv_z w 670 (Int32.ofNat e) x1 = some (Int32.ofNat (wl S e x1.toInt.toNat), w) := by
          conv => lhs; rw [ex]
          exact gm_wheel h4w hS hxS (by omega)
        rw [k1, k2, hav]
        by_cases z : x2 = 0
        · rw [if_pos z, if_pos z]; rfl
        · rw [if_neg z, if_neg z]; rfl
      refine ⟨0, av, _, w, lw_tooth_v hd gv_zo, hmw, ?_, fun _ => ?_, T1.ta g3, fun p k z => by rw [g2.1]; rfl, fun p k z1 z2 z3 z4 z5 => by rw [g2.2.1 p k z4 (by omega), wi_ne (by omega)]; rfl⟩
      · rw [g2.2.1 670 0 (by omega) (by omega), wi_same]
      · rw [g2.2.2 701 0 (by omega)]
        show lg_cmp ((gw_wl u 701 0 av.toInt64).2.1 701 0) _ = 0
        rw [wl_same]
        exact lgc_zero.mpr rfl
    · rw [if_neg c] at hd
      have hm1 := hm u rfl rfl rfl
      rw [if_neg c] at hm1
      obtain ⟨t1', t2⟩ := thr_ta (v := 0) (k := 2) hT
      exact ⟨2, 0, u, _, lw_tooth_3 hd, hm1, rfl, fun e => absurd e (by decide), t1', t2⟩
theorem gs_error {F : Nat} (hF : 300000 ≤ F) {u : gw_St} (hr : gv_Rf u) (hT : gv_Ta u) (x : Int32) : ∃ k a u1 u2, gf_Law_error F gv_z u 0 x 701 = some (k, u1) ∧ gf_Model_error F gv_z u1 670 x = some (a, u2) ∧ u2.1 670 0 = k ∧ (k = 0 → lg_cmp (u2.2.1 701 0) a = 0) ∧ gv_Ta u2 ∧ Tf u u2 := by
  have o0 : (0 : Int32).toInt = 0 := rfl
  have o1 : (1 : Int32).toInt = 1 := rfl
  rcases gs_over (F := F) hr hT with ⟨h1, h2⟩ | ⟨h1, h2, q0, S, lo, hi, T, nm, dn, t1⟩
  · obtain ⟨t1, t2⟩ := thr_ta (v := 0) (k := 1) hT
    refine ⟨1, (0 : Int32).toInt64, u, _, lw_error_2 ?_, ?_, rfl, fun e => absurd e (by decide), t1, t2⟩
    · show gf_Desk_error_b0 F gv_z u 0 x = _
      unfold gf_Desk_error_b0
      rw [h1]
      rfl
    · show gf_Model_error_b0 F gv_z u 670 x = _
      unfold gf_Model_error_b0
      simp only [gf_nm]
      rw [h2 (gw_wi u 670 0 0) (by rw [wi_ne (by omega)]) (by rw [wi_ne (by omega)])]
      simp only [gf_cl]
      rw [if_pos trivial]
      rfl
  · have hk := t1.2.1
    have hp := hk.1
    have hd : gf_Desk_error F gv_z u 0 x = if 0 ≤ x.toInt ∧ x.toInt ≤ 1 then (gf_cl (gf_Trains_bestError F gv_z u 1 x) fun a15 u13 => some (.inl a15, u13)) else some (.inr 3, u) := by
      show gf_Desk_error_b0 F gv_z u 0 x = _
      unfold gf_Desk_error_b0 gf_Desk_error_b13
      rw [h1]
      simp only [gf_ct]
      by_cases c3 : x < 0
      · have := i32_lt.mp c3
        rw [if_pos c3, if_neg (by omega)]
      · have c3' : ¬ x.toInt < (0 : Int32).toInt := fun q => c3 (i32_lt.mpr q)
        rw [if_neg c3]
        by_cases c4 : x ≤ 1
        · have := i32_le.mp c4
          rw [if_pos c4, if_pos (by omega), hr.get rfl gv_r0_0, gnn]
        · have c4' : ¬ x.toInt ≤ (1 : Int32).toInt := fun q => c4 (i32_le.mpr q)
          rw [if_neg c4, if_neg (by omega)]
    have hm : ∀ v : gw_St, v.1 670 1 = u.1 670 1 → v.1 670 7 = u.1 670 7 → gf_Model_error F gv_z v 670 x = if 0 ≤ x.toInt ∧ x.toInt ≤ 1 then ((gf_Model_findTrain F gv_z (gw_wi v 670 0 0) 670).bind fun u11 => gf_cl (gf_Model_gcd F gv_z u11 (u11.2.1 670 14) (u11.2.1 670 13)) fun a15 u13 => if x = 0 then (if a15 = 0 then none else gf_Model_error_b70 F gv_z u13 ((u13.2.1 670 13) / a15)) else (if a15 = 0 then none else gf_Model_error_b70 F gv_z u13 ((u13.2.1 670 14) / a15))) else some ((0 : Int32).toInt64, gw_wi (gw_wi v 670 0 0) 670 0 2) := fun v e1 e2 => by
      show gf_Model_error_b0 F gv_z v 670 x = _
      unfold gf_Model_error_b0
      simp only [gf_nm]
      rw [h2 (gw_wi v 670 0 0) (by rw [wi_ne (by omega)]; exact e1) (by rw [wi_ne (by omega)]; exact e2)]
      simp only [gf_cl]
      rw [if_neg (by decide), gs_within]
      simp only []
      by_cases c2 : 0 ≤ x.toInt ∧ x.toInt ≤ 1
      · rw [if_pos (show (0 : Int32).toInt ≤ x.toInt ∧ x.toInt ≤ (1 : Int32).toInt by omega), if_neg (by decide), if_pos c2]
      · rw [if_neg (show ¬ ((0 : Int32).toInt ≤ x.toInt ∧ x.toInt ≤ (1 : Int32).toInt) by omega), if_pos rfl, if_neg c2]
        rfl
    by_cases c : 0 ≤ x.toInt ∧ x.toInt ≤ 1
    · rw [if_pos c] at hd
      have hn : nm < 2147483648 := t1.2.2.2.2.1.2.1
      have hdn0 : 0 < dn := t1.2.2.2.2.1.2.2.1
      have hdn : dn < 2147483648 := t1.2.2.2.2.1.2.2.2
      have h5 : u.2.1 1 5 = Int64.ofNat dn := t1.2.2.2.1
      obtain ⟨w0, d, e, f1, f2, f3, f4, f5, f6, f7, f8, f9, f10, f11, f12⟩ := gs_found (F := F) hF hr t1
      obtain ⟨v1, v2, -⟩ := vv_lt hp f5
      have hg := (gap_lt hp f4 f5 hn hdn).1
      have pe := f5.prd hp
      have hbt : pP S e * dn < 2 ^ 59 := by
        have : pP S e * dn ≤ 207360000 * 2147483648 := Nat.mul_le_mul pe.2 (by omega)
        omega
      have hbt0 : 0 < pP S e * dn := Nat.mul_pos pe.1 hdn0
      generalize hG : gap S nm dn d e = G at *
      generalize hBt : pP S e * dn = Bt at *
      have hgp : 0 < Nat.gcd G Bt := Nat.gcd_pos_of_pos_right _ hbt0
      have hgl : Nat.gcd G Bt < 2 ^ 62 := Nat.lt_of_le_of_lt (Nat.gcd_le_right _ hbt0) (by omega)
      obtain ⟨av, hav⟩ : ∃ av : Int64, av = Int64.ofNat ((if x = 0 then G else Bt) / Nat.gcd G Bt) := ⟨_, rfl⟩
      have hbe : gf_Trains_bestError F gv_z u 1 x = some (av, u) := by
        show gf_Trains_bestError_b0 F gv_z u 1 x = _
        unfold gf_Trains_bestError_b0 gf_Trains_bestError_b35
        rw [f7, tr_product v1, v2]
        simp only [gf_cl, gf_nm]
        rw [h5, i64_mul, hBt, f8, tr_gcd (F := F) (by omega) hg (by omega)]
        simp only []
        rw [if_neg (i64_ne0 hgp (by omega)), if_neg (i64_ne0 hgp (by omega)), f8, i64_div (by omega) hgp (by omega), i64_div (by omega) hgp (by omega), hav]
        by_cases z : x = 0
        · rw [if_pos z, if_pos z]
        · rw [if_neg z, if_neg z]
      rw [hbe] at hd
      simp only [gf_cl] at hd
      have hT2 := T1.out (y := av) (x := 0) t1
      have hr2 : gv_Rf (gw_wi (gw_wl u 701 0 av) 670 0 0) := hr.eq rfl
      obtain ⟨w, d', e', g1, g2, g3, g4, g5, g6, g7, g8, g9, g10, g11, g12⟩ := gs_found (F := F) hF hr2 hT2
      have same : d' = d ∧ e' = e := by
        have a1 : vv S d' = vv S d := by
          have q1 : (gw_wi (gw_wl u 701 0 av) 670 0 0).2.1 1 14 = u.2.1 1 14 := by
            show (gw_wl u 701 0 av).2.1 1 14 = _
            rw [wl_ne (by omega)]
          have q2 : Int64.ofNat (vv S d') = Int64.ofNat (vv S d) := by rw [← g6, q1, f6]
          have q3 := congrArg Int64.toInt q2
          have q4 := (vv_lt hp g4).1
          have q5 := (vv_lt hp f4).1
          rw [i64_nat (by omega), i64_nat (by omega)] at q3
          omega
        have a2 : vv S e' = vv S e := by
          have q1 : (gw_wi (gw_wl u 701 0 av) 670 0 0).2.1 1 15 = u.2.1 1 15 := by
            show (gw_wl u 701 0 av).2.1 1 15 = _
            rw [wl_ne (by omega)]
          have q2 : Int64.ofNat (vv S e') = Int64.ofNat (vv S e) := by rw [← g7, q1, f7]
          have q3 := congrArg Int64.toInt q2
          have q4 := (vv_lt hp g5).1
          rw [i64_nat (by omega), i64_nat (by omega)] at q3
          omega
        exact ⟨by rw [← (vv_lt hp g4).2.2, ← (vv_lt hp f4).2.2, a1], by rw [← (vv_lt hp g5).2.2, ← (vv_lt hp f5).2.2, a2]⟩
      rw [same.1, same.2, hG] at g11
      rw [same.2, hBt] at g12
      have hmw : gf_Model_error F gv_z (gw_wl u 701 0 av) 670 x = some (av, w) := by
        rw [hm (gw_wl u 701 0 av) rfl rfl, if_pos c, g1, Option.bind_some, g11, g12, gm_gcd (F := F) (by omega) (show Bt < 2 ^ 62 by omega) hg]
        simp only [gf_cl]
        unfold gf_Model_error_b70
        rw [Nat.gcd_comm Bt G, g11, g12, if_neg (i64_ne0 hgp (by omega)), if_neg (i64_ne0 hgp (by omega)), i64_div (by omega) hgp (by omega), i64_div (by omega) hgp (by omega), hav]
        by_cases z : x = 0
        · rw [if_pos z, if_pos z]
        · rw [if_neg z, if_neg z]
      refine ⟨0, av, _, w, lw_error_v hd gv_zo, hmw, ?_, fun _ => ?_, T1.ta g3, fun p k z => by rw [g2.1]; rfl, fun p k z1 z2 z3 z4 z5 => by rw [g2.2.1 p k z4 (by omega), wi_ne (by omega)]; rfl⟩
      · rw [g2.2.1 670 0 (by omega) (by omega), wi_same]
      · rw [g2.2.2 701 0 (by omega)]
        show lg_cmp ((gw_wl u 701 0 av).2.1 701 0) _ = 0
        rw [wl_same]
        exact lgc_zero.mpr rfl
    · rw [if_neg c] at hd
      have hm1 := hm u rfl rfl
      rw [if_neg c] at hm1
      obtain ⟨t1', t2⟩ := thr_ta (v := 0) (k := 2) hT
      exact ⟨2, _, u, _, lw_error_3 hd, hm1, rfl, fun e => absurd e (by decide), t1', t2⟩
