theorem i32_ofn {x : Int32} (h : 0 ≤ x.toInt) : x = Int32.ofNat x.toInt.toNat ∧ x.toInt.toNat < 2147483648 := by
  have h1 : x.toInt < 2147483648 := Int32.toInt_lt x
  exact ⟨i32_ext (by rw [i32_nat (by omega)]; omega), by omega⟩
theorem gs_want {F : Nat} (hF : 2000 ≤ F) {u : gw_St} (hr : gv_Rf u) (hT : gv_Ta u) (x1 x2 s lo hi : Int32) : ∃ k a u1 u2, gf_Law_want F gv_z u 0 x1 x2 s lo hi 701 = some (k, u1) ∧ gf_Model_want F gv_z u1 670 x1 x2 s lo hi = some (a, u2) ∧ u2.1 670 0 = k ∧ (k = 0 → lg_cmp (u2.2.1 701 0) a.toInt64 = 0) ∧ gv_Ta u2 ∧ Tf u u2 := by
  by_cases c : 1 ≤ x1.toInt ∧ 1 ≤ x2.toInt ∧ gv_al s lo hi
  · obtain ⟨c1, c2, c3⟩ := c
    obtain ⟨a1, a2, a3, a4, a5, a6, a7⟩ := id c3
    obtain ⟨es, hs⟩ := i32_ofn (x := s) (by omega)
    obtain ⟨el, hl⟩ := i32_ofn (x := lo) (by omega)
    obtain ⟨eh, hh⟩ := i32_ofn (x := hi) (by omega)
    obtain ⟨e1, h1⟩ := i32_ofn (x := x1) (by omega)
    obtain ⟨e2, h2⟩ := i32_ofn (x := x2) (by omega)
    have c3' : gv_al (Int32.ofNat s.toInt.toNat) lo hi := by rw [← es]; exact c3
    have hn : ((hi.toInt.toNat - lo.toInt.toNat + 1 : Nat) : Int) = hi.toInt - lo.toInt + 1 := by omega
    obtain ⟨w, b1, b2, b3, b4, b5, b6, b7, b8, b9, b10, b11⟩ := gs_begin (F := F) (by omega) (z := gv_z) (u := u) (x1 := x1) (x2 := x2) c3' (by omega) hn
    rw [← es] at b1 b2
    have hd := gs_Dwant1 (F := F) (z := gv_z) hr c1 c2 c3 b1
    have hm := gs_Mwant1 (F := F) (z := gv_z) (w := gw_wl w 701 0 (Int32.ofNat (gv_wy (hi.toInt.toNat - lo.toInt.toNat + 1) s.toInt.toNat)).toInt64) c1 c2 c3' (by omega) hn
    rw [← es] at hm
    obtain ⟨q0, q1, q2, q3, -⟩ := hT
    obtain ⟨v, hv⟩ : ∃ v, v = gv_wtW (gw_wl w 701 0 (Int32.ofNat (gv_wy (hi.toInt.toNat - lo.toInt.toNat + 1) s.toInt.toNat)).toInt64) x1 x2 s lo (hi.toInt.toNat - lo.toInt.toNat + 1) (gv_wy (hi.toInt.toNat - lo.toInt.toNat + 1) s.toInt.toNat) := ⟨_, rfl⟩
    rw [← hv] at hm
    have vi : ∀ p k, ¬ (p = 670 ∧ k ≤ 8) → v.1 p k = w.1 p k := fun p k z => by
      rw [hv]
      unfold gv_wtW
      rw [wi_ne (by omega), wi_ne (by omega), wi_ne (by omega), wi_ne (by omega), wi_ne (by omega), wi_ne (by omega), wi_ne (by omega), wi_ne (by omega), wi_ne (by omega)]
      rfl
    have vr : v.2.2 = w.2.2 := by rw [hv]; rfl
    have vl : ∀ p k, p ≠ 701 → v.2.1 p k = w.2.1 p k := fun p k z => by
      rw [hv]
      show (gw_wl w 701 0 _).2.1 p k = _
      rw [wl_ne (fun e => z e.1)]
    have v0 : v.1 670 0 = 0 ∧ v.1 670 1 = 1 ∧ v.1 670 2 = x1 ∧ v.1 670 3 = x2 ∧ v.1 670 4 = s ∧ v.1 670 5 = lo ∧ v.1 670 6 = Int32.ofNat (hi.toInt.toNat - lo.toInt.toNat + 1) ∧ v.1 670 7 = Int32.ofNat (gv_wy (hi.toInt.toNat - lo.toInt.toNat + 1) s.toInt.toNat) ∧ v.1 670 8 = 0 := by
      rw [hv]
      exact ⟨rfl, rfl, rfl, rfl, rfl, rfl, rfl, rfl, rfl⟩
    obtain ⟨v0, v1, v2, v3, v4, v5, v6, v7, v8⟩ := v0
    have hp : TaP s.toInt.toNat lo.toInt.toNat hi.toInt.toNat := by
      unfold TaP
      refine ⟨by omega, by omega, by omega, by omega, by omega, fun e => ?_, fun e => ?_⟩
      · apply Classical.byContradiction
        intro z
        exact a6 ⟨by omega, by omega⟩
      · apply Classical.byContradiction
        intro z
        exact a7 ⟨by omega, by omega⟩
    refine ⟨0, _, _, v, lw_want_v hd gv_zo, hm, v0, fun _ => ?_, ⟨q0, q1, by rw [vr, b11]; exact q2, by rw [vr, b11]; exact q3, Or.inr ⟨s.toInt.toNat, lo.toInt.toNat, hi.toInt.toNat, _, x1.toInt.toNat, x2.toInt.toNat, 0, v1, ⟨hp, rfl, by rw [vi 1 6 (by omega), b2]; exact es, by rw [vi 1 7 (by omega), b3]; exact el, by rw [vi 1 8 (by omega), b4]; exact eh, by rw [vi 1 9 (by omega), b5], q1, by rw [vr, b11]; exact q2, by rw [vr, b11]; exact q3⟩, ?_, ?_, ⟨by omega, h1, by omega, h2⟩, by rw [vi 1 10 (by omega), b6]; rfl, Nat.zero_le _, Or.inl rfl, by rw [v2]; exact e1, by rw [v3]; exact e2, ⟨by rw [v4]; exact es, by rw [v5]; exact el, v6⟩, by rw [v7, Nat.sub_zero], Or.inl v8⟩⟩, fun p k z => by rw [vr, b11], fun p k z1 _ _ _ z2 => by rw [vi p k (by omega), b9 p k (by omega)]⟩
    · rw [hv]
      exact lgc_zero.mpr rfl
    · rw [vl 1 4 (by omega), b7]
      conv => lhs; rw [e1]
      exact i32_64 h1
    · rw [vl 1 5 (by omega), b8]
      conv => lhs; rw [e2]
      exact i32_64 h2
  · have hd := gs_Dwant0 (F := F) (z := gv_z) (u := u) c
    have hm := gs_Mwant0 (F := F) (z := gv_z) (w := u) c
    obtain ⟨t1, t2⟩ := thr_ta (v := 0) (k := 1) hT
    exact ⟨1, 0, u, _, lw_want_1 hd, hm, rfl, fun e => absurd e (by decide), t1, t2⟩
theorem gs_hasTask {F : Nat} {u : gw_St} : gf_Trains_hasTask F gv_z u 1 = some (if u.1 1 9 ≤ 0 then 0 else 1, u) := by
  show gf_Trains_hasTask_b0 F gv_z u 1 = _
  unfold gf_Trains_hasTask_b0 gf_Trains_hasTask_b12
  by_cases c : u.1 1 9 ≤ 0
  · rw [if_pos c, if_pos c, if_neg (by decide)]
  · rw [if_neg c, if_neg c, if_neg (by decide)]
theorem gs_search {F : Nat} (hF : 50000 ≤ F) {u : gw_St} (hr : gv_Rf u) (hT : gv_Ta u) (x : Int32) : ∃ k a u1 u2, gf_Law_search F gv_z u 0 x 701 = some (k, u1) ∧ gf_Model_search F gv_z u1 670 x = some (a, u2) ∧ u2.1 670 0 = k ∧ (k = 0 → u2.2.1 701 0 = if a = 0 then 0 else 1) ∧ gv_Ta u2 ∧ Tf u u2 := by
  have hm0 : ∀ v : gw_St, gf_Model_search F gv_z v 670 x = if 1 ≤ x.toInt ∧ x.toInt ≤ 1000000 then (if v.1 670 1 = 0 then some (0, gw_wi (gw_wi v 670 0 0) 670 0 2) else (if v.1 670 7 ≤ x then (gf_Model_search_b69 F gv_z (gw_wi v 670 0 0) 670 670 0) else (gf_Model_search_b69 F gv_z (gw_wi v 670 0 0) 670 670 (v.1 670 7 - x)))) else some (0, gw_wi (gw_wi v 670 0 0) 670 0 1) := fun v => by
    show gf_Model_search_b0 F gv_z v 670 x = _
    unfold gf_Model_search_b0
    simp only [gf_nm]
    rw [gs_within]
    simp only [gf_cl]
    rw [show (1 : Int32).toInt = 1 from rfl, show (1000000 : Int32).toInt = 1000000 from rfl]
    by_cases c : 1 ≤ x.toInt ∧ x.toInt ≤ 1000000
    · rw [if_pos c, if_pos c, if_neg (by decide), wi_ne (show ¬ (670 = 670 ∧ 1 = 0) by omega), wi_ne (show ¬ (670 = 670 ∧ 7 = 0) by omega)]
      by_cases d : v.1 670 1 = 0
      · rw [if_pos d, if_pos d]
        rfl
      · rw [if_neg d, if_neg d]
    · rw [if_neg c, if_neg c, if_pos rfl]
      rfl
  have hd0 : gf_Desk_search F gv_z u 0 x = if 1 ≤ x.toInt ∧ x.toInt ≤ 1000000 then (gf_cl (gf_Trains_hasTask F gv_z u 1) fun a8 u6 => if a8 = 0 then (some (.inr 2, u6)) else (gf_nn (u6.2.2 0 0) fun q10 => (gf_Trains_goThrough F gv_z u6 q10 x).bind fun u12 => gf_nn (u12.2.2 0 0) fun q14 => gf_cl (gf_Trains_choicesLeft F gv_z u12 q14) fun a18 u16 => if a18 = 0 then (gf_Desk_search_b60 F gv_z u16 1) else (gf_Desk_search_b60 F gv_z u16 0))) else some (.inr 1, u) := by
    show gf_Desk_search_b0 F gv_z u 0 x = _
    unfold gf_Desk_search_b0 gf_Desk_search_b11
    have e1 : (1 : Int32).toInt = 1 := rfl
    have e2 : (1000000 : Int32).toInt = 1000000 := rfl
    by_cases c : x < 1
    · have := i32_lt.mp c
      rw [if_pos c, if_neg (by omega)]
    · have h1 : ¬ x.toInt < (1 : Int32).toInt := fun q => c (i32_lt.mpr q)
      rw [if_neg c]
      by_cases d : x ≤ 1000000
      · have := i32_le.mp d
        rw [if_pos d, if_pos (by omega), hr.get rfl gv_r0_0, gnn]
      · have h2 : ¬ x.toInt ≤ (1000000 : Int32).toInt := fun q => d (i32_le.mpr q)
        rw [if_neg d, if_neg (by omega)]
  by_cases c : 1 ≤ x.toInt ∧ x.toInt ≤ 1000000
  · rw [if_pos c, gs_hasTask] at hd0
    simp only [gf_cl] at hd0
    obtain ⟨q0, q1, q2, q3, q4⟩ := id hT
    rcases q4 with ⟨a1, a2, a3⟩ | ⟨S, lo, hi, T, nm, dn, i, t1⟩
    · rw [a2, if_pos (by decide)] at hd0
      have hm := hm0 u
      rw [if_pos c, if_pos a1] at hm
      obtain ⟨t1, t2⟩ := thr_ta (v := 0) (k := 2) hT
      exact ⟨2, 0, u, _, lw_search_2 hd0, hm, rfl, fun e => absurd e (by decide), t1, t2⟩
    · obtain ⟨b1, b2, b3, b4, b5, b6, b7, b8, b9, b10, b11, b12, b13⟩ := t1
      obtain ⟨n1, n2, n3⟩ := b2.num
      obtain ⟨ex, hx⟩ := i32_ofn (x := x) (by omega)
      obtain ⟨w, b, q', g1, g2, g3, g4, g5⟩ := tr_go (F := F) hF (fu := x.toInt.toNat) hr b2 b3 b4 b5.2.1 b5.2.2.2 b6 b7 b8 (by omega)
      rw [← ex] at g1
      have h9 : u.1 1 9 = Int32.ofNat T := b2.2.2.2.2.2.1
      have h9w : w.1 1 9 = Int32.ofNat T := g3.2.2.2.2.2.1
      have hleft : gf_Trains_choicesLeft F gv_z w 1 = some (Int32.ofNat (T - (i + min x.toInt.toNat (T - i))), w) := by
        show some (w.1 1 9 - w.1 1 10, w) = _
        rw [h9w, g2, gi_sub (by omega) (by omega)]
      have rw' := hr.fg g5
      rw [h9, if_neg (show ¬ Int32.ofNat T ≤ 0 from fun e => by have := (gi_le0 (by omega)).mp e; omega), if_neg (by decide), hr.get rfl gv_r0_0, gnn, g1, Option.bind_some, rw'.get rfl gv_r0_0, gnn, hleft] at hd0
      simp only [] at hd0
      have hq' : q' = 2 ∨ q' = 3 := g3.2.2.2.2.2.2.1
      obtain ⟨av, hav⟩ : ∃ av : Int32, av = if T - (i + min x.toInt.toNat (T - i)) = 0 then 1 else 0 := ⟨_, rfl⟩
      have hd1 : gf_Desk_search F gv_z u 0 x = some (.inl av, w) := by
        rw [hd0]
        unfold gf_Desk_search_b60
        by_cases z : T - (i + min x.toInt.toNat (T - i)) = 0
        · rw [if_pos ((gi_eq0 (by omega)).mpr z), if_neg (by decide), hav, if_pos z]
        · rw [if_neg (fun q => z ((gi_eq0 (by omega)).mp q)), if_neg (by decide), hav, if_neg z]
      -- the reference
      generalize hw1 : gw_wl w 701 0 (if av = 0 then 0 else 1) = w1
      have w1i : w1.1 = w.1 := by rw [← hw1]; rfl
      have w1r : w1.2.2 = w.2.2 := by rw [← hw1]; rfl
      have w1l : ∀ p k, p ≠ 701 → w1.2.1 p k = w.2.1 p k := fun p k z => by rw [← hw1, wl_ne (fun e => z e.1)]
      have m1 : w1.1 670 1 = 1 := by rw [w1i, g5.2.1 670 1 (by omega) (by omega) (by omega)]; exact b1
      have m7 : w1.1 670 7 = Int32.ofNat (T - i) := by rw [w1i, g5.2.1 670 7 (by omega) (by omega) (by omega)]; exact b12
      generalize hw2 : gw_wi (gw_wi w1 670 0 0) 670 7 (Int32.ofNat (T - (i + min x.toInt.toNat (T - i)))) = w2
      have hm : gf_Model_search F gv_z w1 670 x = some (av, w2) := by
        rw [hm0, if_pos c, m1, if_neg (by decide), m7]
        have hb69 : gf_Model_search_b69 F gv_z (gw_wi w1 670 0 0) 670 670 (Int32.ofNat (T - (i + min x.toInt.toNat (T - i)))) = some (av, w2) := by
          unfold gf_Model_search_b69 gf_Model_search_b84
          simp only [gf_nm]
          rw [hw2, show w2.1 670 7 = Int32.ofNat (T - (i + min x.toInt.toNat (T - i))) from by rw [← hw2, wi_same]]
          by_cases z : T - (i + min x.toInt.toNat (T - i)) = 0
          · rw [if_pos ((gi_eq0 (by omega)).mpr z), if_neg (by decide), hav, if_pos z]
          · rw [if_neg (fun q => z ((gi_eq0 (by omega)).mp q)), if_neg (by decide), hav, if_neg z]
        have hle : Int32.ofNat (T - i) ≤ x ↔ T - i ≤ x.toInt.toNat := by
          conv => lhs; rw [ex]
          exact gi_le (by omega) (by omega)
        by_cases z : T - i ≤ x.toInt.toNat
        · rw [if_pos (hle.mpr z)]
          have hz : T - (i + min x.toInt.toNat (T - i)) = 0 := by omega
          rw [hz] at hb69
          exact hb69
        · have hsub : Int32.ofNat (T - i) - x = Int32.ofNat (T - (i + min x.toInt.toNat (T - i))) := by
            conv => lhs; rw [ex]
            rw [gi_sub (by omega) (by omega), show T - i - x.toInt.toNat = T - (i + min x.toInt.toNat (T - i)) by omega]
          rw [if_neg (fun q => z (hle.mp q)), hsub]
          exact hb69
      have w2i : ∀ p k, ¬ (p = 670 ∧ (k = 0 ∨ k = 7)) → w2.1 p k = w.1 p k := fun p k z => by rw [← hw2, wi_ne (by omega), wi_ne (by omega), w1i]
      have w2r : w2.2.2 = w.2.2 := by rw [← hw2]; exact w1r
      have w2l : ∀ p k, p ≠ 701 → w2.2.1 p k = w.2.1 p k := fun p k z => by rw [← hw2]; exact w1l p k z
      have same670 : ∀ k, k ≠ 0 → k ≠ 7 → w2.1 670 k = u.1 670 k := fun k z1 z2 => by rw [w2i 670 k (by omega), g5.2.1 670 k (by omega) (by omega) (by omega)]
      refine ⟨0, av, w1, w2, by rw [← hw1]; exact lw_search_v hd1 gv_zo, hm, ?_, fun _ => ?_, ⟨q', hq', by rw [w2r]; exact g3.2.2.2.2.2.2.2.1, by rw [w2r]; exact g3.2.2.2.2.2.2.2.2, Or.inr ⟨S, lo, hi, T, nm, dn, i + min x.toInt.toNat (T - i), ?_⟩⟩, fun p k z => by rw [w2r]; exact g5.1 p k z, fun p k z1 z2 z3 z4 z5 => by rw [w2i p k (by omega)]; exact g5.2.1 p k z2 z3 (by omega)⟩
      · rw [← hw2, wi_ne (by omega), wi_same]
      · rw [← hw2]
        show w1.2.1 701 0 = _
        rw [← hw1, wl_same]
      · refine ⟨by rw [same670 1 (by omega) (by omega)]; exact b1, g3.same (fun k _ _ => w2i 1 k (by omega)) (by rw [w2r]) (by rw [w2r]), by rw [w2l 1 4 (by omega), g5.2.2 1 4 (by omega) (by omega) (by omega)]; exact b3, by rw [w2l 1 5 (by omega), g5.2.2 1 5 (by omega) (by omega) (by omega)]; exact b4, b5, by rw [w2i 1 10 (by omega)]; exact g2, by omega, Or.inr ⟨b, g4.same hq' (fun p j z => w2l p j (by omega)) (fun j _ _ => w2i 1 j (by omega))⟩, by rw [same670 2 (by omega) (by omega)]; exact b9, by rw [same670 3 (by omega) (by omega)]; exact b10, ⟨by rw [same670 4 (by omega) (by omega)]; exact b11.1, by rw [same670 5 (by omega) (by omega)]; exact b11.2.1, by rw [same670 6 (by omega) (by omega)]; exact b11.2.2⟩, by rw [← hw2, wi_same], ?_⟩
        rw [same670 8 (by omega) (by omega)]
        rcases b13 with z | ⟨z1, z2, z3⟩
        · exact Or.inl z
        · exact Or.inr ⟨z1, z2.same (fun k _ _ => by rw [w2l 670 k (by omega), g5.2.2 670 k (by omega) (by omega) (by omega)]) (fun k r1 r2 => same670 k (by omega) (by omega)), z3⟩
  · rw [if_neg c] at hd0
    have hm := hm0 u
    rw [if_neg c] at hm
    obtain ⟨t1, t2⟩ := thr_ta (v := 0) (k := 1) hT
    exact ⟨1, 0, u, _, lw_search_1 hd0, hm, rfl, fun e => absurd e (by decide), t1, t2⟩
