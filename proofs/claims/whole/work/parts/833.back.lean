theorem gs_back {F : Nat} (hF : 20000 ≤ F) {u : gw_St} {n r B : Nat} (hr : gv_Rf u) (hw : gv_Wk u n r) (hl : gv_Dl u n) (hs : gv_Sp u n B) (hR : gv_Rs u) : ∃ k a u1 u2, gf_Law_back F gv_z u 0 701 = some (k, u1) ∧ gf_Model_back F gv_z u1 670 = some (a, u2) ∧ u2.1 670 0 = k ∧ (k = 0 → u2.2.1 701 0 = if a = 0 then 0 else 1) ∧ Hf u u2 ∧ gv_Rs u2 := by
  have hn := hw.1
  obtain ⟨d, hd⟩ := bk_ex hn hl hs
  obtain ⟨hB, s1, s2, s3, s4, s5, s6⟩ := id hs
  -- the reference on a state whose relevant ints are u's
  have model : ∀ w : gw_St, gv_Rf w → (∀ p q, ¬ (10 ≤ p ∧ p ≤ 56) → ¬ (59 ≤ p ∧ p ≤ 63) → w.1 p q = u.1 p q) → ∃ w2 : gw_St, Mf w w2 ∧ ((bkK d 12 = false ∨ (bkT d 12).2 = 0) ∧ gf_Model_back F gv_z w 670 = some (0, w2) ∧ w2.1 670 0 = 0 ∧ (∀ p k, ¬ (p = 670 ∧ k = 0) → w2.1 p k = w.1 p k) ∨ bkK d 12 = true ∧ (bkT d 12).2 ≠ 0 ∧ 2 ^ 256 ≤ (bkT d 12).1 ∧ gf_Model_back F gv_z w 670 = some (0, w2) ∧ w2.1 670 0 = 1 ∧ (∀ p k, ¬ (p = 670 ∧ k = 0) → w2.1 p k = w.1 p k) ∨ bkK d 12 = true ∧ (bkT d 12).2 ≠ 0 ∧ (bkT d 12).1 < 2 ^ 256 ∧ gf_Model_back F gv_z w 670 = some (1, w2) ∧ w2.1 670 0 = 0 ∧ Iw w2 689 0 (bkT d 12).1 ∧ Iw w2 690 0 (bkT d 12).2) := by
    intro w hrw iw
    obtain ⟨v, hv⟩ : ∃ v, v = gw_wi w 670 0 0 := ⟨_, rfl⟩
    have rv : gv_Rf v := by rw [hv]; exact hrw.eq rfl
    have vi : ∀ p q, ¬ (p = 670 ∧ q = 0) → v.1 p q = w.1 p q := fun p q h => by
      rw [hv]
      simp only [gw_wi]
      rw [if_neg h]
    obtain ⟨w1, a1, a2, a3⟩ := gz_set (F := F) (by omega) (u := v) (a := 0) (v := 1) (y := 1) rv (by omega) rfl
    have r1 := rv.zf a2
    obtain ⟨w2, b1, b2, b3⟩ := gz_set (F := F) (by omega) (u := w1) (a := 1) (v := 0) (y := 0) r1 (by omega) rfl
    have r2 := r1.zf b2
    have F2 : Zf (fun _ => True) v w2 := (a2.mono (fun _ _ => trivial)).trans (b2.mono (fun _ _ => trivial))
    have i2 : ∀ p q, ¬ (p = 670 ∧ q = 0) → w2.1 p q = w.1 p q := fun p q h => by rw [F2.1, vi p q h]
    obtain ⟨f', w3, x1, x2, c1, c2, c3, c4⟩ := gm_backL (F := F) hF (u := u) (w0 := w2) (n := n) (B := B) (d := d) hd hn r2 (fun k hk => by rw [i2 679 k (by omega), iw 679 k (by omega) (by omega)]; exact (hl k hk).1) (fun g hg => by rw [i2 681 g (by omega), iw 681 g (by omega) (by omega)]; exact s5 g hg) (fun g => by rw [i2 682 g (by omega), iw 682 g (by omega) (by omega)]) (fun g => by rw [i2 683 g (by omega), iw 683 g (by omega) (by omega)]) (fun g => by rw [i2 684 g (by omega), iw 684 g (by omega) (by omega)]) 12 0 F w2 0 1 (by omega) (by omega) Zf.refl rfl (fun _ => ⟨a3.zf b2 (by omega), b3, rfl⟩)
    have r3 := r2.zf c2
    have F3 : Zf (fun _ => True) v w3 := F2.trans c2
    have i3 : ∀ p q, ¬ (p = 670 ∧ q = 0) → w3.1 p q = w.1 p q := fun p q h => by rw [F3.1, vi p q h]
    have t3 : w3.1 670 0 = 0 := by rw [F3.1, hv]; rfl
    have mf3 : Mf w w3 := ⟨by rw [F3.2.1, hv]; rfl, fun p q h => by rw [F3.2.2.1 p q h, hv]; rfl, fun p q _ _ h => i3 p q h⟩
    have hpre : gf_Model_back F gv_z w 670 = if x2 = 0 then some (0, w3) else (if x1 = 0 then some (0, w3) else (gf_cl (gf_Model_isLarge F gv_z w3 670 (0 : Int32)) fun a44 u42 => if a44 = 0 then (gf_cl (gf_Model_isLarge F gv_z u42 670 (1 : Int32)) fun a48 u46 => if a48 = 0 then ((gf_Model_tell F gv_z u46 670 (0 : Int32) (1 : Int32)).bind fun u50 => some ((1 : Int32), u50)) else (gf_Model_back_b188 F gv_z u46 670)) else (gf_Model_back_b188 F gv_z u42 670))) := by
      show gf_Model_back_b0 F gv_z w 670 = _
      unfold gf_Model_back_b0
      simp only [gf_nm]
      rw [← hv, show gf_Model_setWide F gv_z v 670 0 1 = some w1 from a1]
      show (gf_Model_setWide F gv_z w1 670 1 0).bind _ = _
      rw [show gf_Model_setWide F gv_z w1 670 1 0 = some w2 from b1]
      show gf_Model_back_L23 F gv_z F w2 670 0 1 (Int32.ofNat 0) = _
      rw [c1]
      show gf_Model_back_S23 F gv_z _ w3 670 x1 x2 (Int32.ofNat 12) = _
      unfold gf_Model_back_S23 gf_Model_back_b170
      rw [if_pos (by decide), if_neg (show ¬ ¬ ((0 : Int32) &&& 1 = 0) by decide)]
      rfl
    by_cases cK : bkK d 12 = true
    · obtain ⟨z0, z1, zx⟩ := c4 cK
      rw [if_pos cK] at c3
      by_cases cN : (bkT d 12).2 = 0
      · rw [if_pos cN] at zx
        refine ⟨w3, mf3, Or.inl ⟨Or.inr cN, ?_, t3, i3⟩⟩
        rw [hpre, c3, if_neg (by decide), zx, if_pos rfl]
      · rw [if_neg cN] at zx
        have hlg : (bkT d 12).2 < 2 ^ 256 := (bkT_pos hd 12 (by omega) cK).2.2
        rw [hpre, c3, if_neg (by decide), zx, if_neg (by decide), show gf_Model_isLarge F gv_z w3 670 0 = _ from gz_large (F := F) (by omega) (u := w3) (a := 0) r3 (by omega) z0]
        simp only [gf_cl]
        by_cases cl : 2 ^ 256 ≤ (bkT d 12).1
        · rw [if_pos cl, if_neg (by decide)]
          refine ⟨gw_wi w3 670 0 1, ⟨mf3.1, mf3.2.1, fun p q h1 h2 h3 => ?_⟩, Or.inr (Or.inl ⟨cK, cN, cl, rfl, rfl, fun p q h => ?_⟩)⟩
          · simp only [gw_wi]
            rw [if_neg h3]
            exact i3 p q h3
          · simp only [gw_wi]
            rw [if_neg h]
            exact i3 p q h
        · rw [if_neg cl, if_pos rfl, show gf_Model_isLarge F gv_z w3 670 1 = _ from gz_large (F := F) (by omega) (u := w3) (a := 1) r3 (by omega) z1]
          dsimp only
          rw [if_neg (Nat.not_le.mpr hlg), if_pos rfl]
          obtain ⟨w4, t1, t2, t3', t4, t5⟩ := gz_tell (F := F) (by omega) (u := w3) (a := 0) (b := 1) r3 (by omega) (by omega) z0 z1 (Nat.not_le.mp cl) hlg
          rw [show gf_Model_tell F gv_z w3 670 0 1 = some w4 from t1]
          refine ⟨w4, ⟨by rw [t2]; exact mf3.1, fun p q h => by rw [t2]; exact mf3.2.1 p q h, fun p q h1 h2 h3 => by rw [t3' p q h1 h2, i3 p q h3]⟩, Or.inr (Or.inr ⟨cK, cN, Nat.not_le.mp cl, rfl, ?_, t4, t5⟩)⟩
          rw [t3' 670 0 (by omega) (by omega), t3]
    · have cK' : bkK d 12 = false := by
        cases h : bkK d 12
        · rfl
        · exact absurd h cK
      rw [cK'] at c3
      have hx0 : x2 = 0 := c3
      refine ⟨w3, mf3, Or.inl ⟨Or.inl cK', ?_, t3, i3⟩⟩
      rw [hpre, hx0, if_pos rfl]
  obtain ⟨f1, k1⟩ := gd_backK (F := F) hF hr hn hs hd 12 0 F (by omega) (by omega) rfl
  have D0 : gf_Desk_back F gv_z u 0 = if bkK d 12 then gf_Desk_back_L2 F gv_z (f1 + 1) u 0 (Int32.ofNat 12) else some (.inl 0, u) := k1
  by_cases cK : bkK d 12 = true
  · have hKall : ∀ k, k ≤ 12 → bkK d k = true := by
      have : ∀ m, m ≤ 12 → bkK d (12 - m) = true := by
        intro m
        induction m with
        | zero => intro _; exact cK
        | succ m ih =>
          intro hm
          have h := ih (by omega)
          rw [show 12 - m = (12 - (m + 1)) + 1 by omega] at h
          unfold bkK at h
          rw [Bool.and_eq_true] at h
          exact h.1
      intro k hk
      have := this (12 - k) (by omega)
      rw [show 12 - (12 - k) = k by omega] at this
      exact this
    rw [if_pos cK] at D0
    obtain ⟨w1, a1, a2, a3⟩ := gh_begin (F := F) hF hr
    obtain ⟨f2, w2, T, N, b1, b2, b3, b4, b5, b6⟩ := gd_backT (F := F) hF hr hn hs hd hKall 12 0 F w1 1 0 (by omega) (by omega) a2 a3 (by decide) (by decide) (Or.inl ⟨show 1 < 2 ^ 256 by decide, rfl, rfl⟩)
    have r2 := hr.wr b2
    obtain ⟨nN, dN⟩ := b3.2
    have D1 : gf_Desk_back F gv_z u 0 = if w2.1 49 2 = 0 then some (.inl 0, w2) else (gf_ct (gf_Desk_keepFound F gv_z w2 0) fun a14 u12 => some (.inl (1 : Int32), u12)) := by
      rw [D0]
      show gf_Desk_back_S2 F gv_z _ u 0 (Int32.ofNat 12) = _
      unfold gf_Desk_back_S2
      rw [if_pos (by decide), hr.get rfl gv_r0_3, gnn, a1]
      show gf_Desk_back_L52 F gv_z F w1 0 (Int32.ofNat 0) = _
      rw [b1]
      show gf_Desk_back_S52 F gv_z _ w2 0 (Int32.ofNat 12) = _
      unfold gf_Desk_back_S52
      rw [if_pos (by decide), r2.get rfl gv_r0_3, gnn]
      have hany : gf_Hands_anyReturns F gv_z w2 45 = some (if w2.1 49 2 = 0 then 0 else 1, w2) := by
        show gf_Hands_anyReturns_b0 F gv_z w2 45 = _
        unfold gf_Hands_anyReturns_b0 gf_Hands_anyReturns_b18
        rw [r2.get rfl gv_r45_1, gnn, r2.get rfl gv_r46_1, gnn]
        by_cases q : w2.1 49 2 = 0
        · rw [if_pos q, if_pos q, if_neg (by decide)]
        · rw [if_neg q, if_neg q, if_neg (by decide)]
      rw [hany]
      simp only [gf_cl]
      by_cases q : w2.1 49 2 = 0
      · rw [if_pos q, if_pos q, if_pos rfl, if_neg (by decide)]
      · rw [if_neg q, if_neg q, if_neg (by decide)]
        rfl
    have hsN : w2.1 49 2 = 0 ↔ N = 0 := by
      have := dN.sg
      constructor
      · intro q
        rw [show w2.1 (46 + 3) 2 = w2.1 49 2 from rfl, q] at this
        have h0 := Int.sign_eq_zero_iff_zero.mp this.symm
        omega
      · intro q
        rw [show w2.1 (46 + 3) 2 = w2.1 49 2 from rfl, q] at this
        exact i32_ext this
    have iu2 : ∀ p q, ¬ (10 ≤ p ∧ p ≤ 56) → ¬ (59 ≤ p ∧ p ≤ 63) → w2.1 p q = u.1 p q := fun p q h _ => b2.2 p q h
    have hN2 : N = 0 ↔ (bkT d 12).2 = 0 := by
      rcases b6 with ⟨_, _, e⟩ | ⟨_, _, e1, e2⟩
      · rw [e]
      · exact ⟨fun q => absurd q e1, fun q => absurd q e2⟩
    by_cases cN : N = 0
    · rw [if_pos (hsN.mpr cN)] at D1
      obtain ⟨w3, hw3⟩ : ∃ w3, w3 = gw_wl w2 701 0 (if (0 : Int32) = 0 then 0 else 1) := ⟨_, rfl⟩
      have hr3 : gv_Rf w3 := by rw [hw3]; exact hr.eq (by show w2.2.2 = u.2.2; rw [b2.1])
      obtain ⟨w4, m0, m⟩ := model w3 hr3 (fun p q h1 h2 => by rw [hw3]; exact iu2 p q h1 h2)
      have hlaw := lw_back_v D1 gv_zo
      rw [← hw3] at hlaw
      rcases m with ⟨_, m1, m2, m3⟩ | ⟨_, m1, _⟩ | ⟨_, m1, _⟩
      · refine ⟨_, _, _, _, hlaw, m1, m2, fun _ => ?_, ⟨?_, fun p q h1 h2 => ?_, fun p q h1 h2 h3 h4 h5 => ?_⟩, ?_⟩
        · rw [m0.2.1 701 0 (by omega), hw3]; rfl
        · rw [m0.1, hw3]
          show w2.2.2 = u.2.2
          rw [b2.1]
        · rw [m0.2.1 p q h1, hw3]
          simp only [gw_wl]
          rw [if_neg (by omega), b2.1]
        · rw [m3 p q h5, hw3]
          exact iu2 p q h1 h2
        · exact hR.same (fun p q hp => by rw [m3 p q (by omega), hw3]; exact b2.2 p q (by omega))
      · exact absurd (hN2.mp cN) m1
      · exact absurd (hN2.mp cN) m1
    · rw [if_neg (fun q => cN (hsN.mp q))] at D1
      obtain ⟨w3, o1, o2, o3⟩ := gd_keep (F := F) (u := w2) (k := 20) r2 b3 (by omega) b4 b5
      have eTa : ((T : Nat) : Int).natAbs = T := rfl
      have eNa : ((N : Nat) : Int).natAbs = N := rfl
      rw [eTa, eNa] at o1 o3
      have hNl : ¬ (2 ^ 256 ≤ T ∨ 2 ^ 256 ≤ N) ↔ (bkT d 12).1 < 2 ^ 256 := by
        have hlg : (bkT d 12).2 < 2 ^ 256 := (bkT_pos hd 12 (by omega) cK).2.2
        rcases b6 with ⟨e1, e2, e3⟩ | ⟨e1, e2, e3, e4⟩
        · rw [e2, e3]
          exact ⟨fun _ => e1, fun _ q => q.elim (fun q => absurd e1 (Nat.not_lt.mpr q)) (fun q => absurd hlg (Nat.not_lt.mpr q))⟩
        · exact ⟨fun q => absurd (Or.inl e2) q, fun q => absurd q (Nat.not_lt.mpr e1)⟩
      rw [o1] at D1
      have iu : ∀ p q, ¬ (10 ≤ p ∧ p ≤ 56) → ¬ (59 ≤ p ∧ p ≤ 63) → w3.1 p q = u.1 p q := fun p q h1 h2 => (o2.2 p q h2).trans (b2.2 p q h1)
      have w32 : w3.2 = u.2 := by rw [o2.1, b2.1]
      by_cases cl : 2 ^ 256 ≤ T ∨ 2 ^ 256 ≤ N
      · rw [if_pos cl] at D1
        simp only [gf_ct] at D1
        obtain ⟨w4, m0, m⟩ := model w3 (hr.eq (by rw [w32])) iu
        rcases m with ⟨m1, _⟩ | ⟨_, _, _, m1, m2, m3⟩ | ⟨_, _, m1, _⟩
        · rcases m1 with q | q
          · rw [cK] at q; exact absurd q (by decide)
          · exact absurd (hN2.mpr q) cN
        · refine ⟨_, _, _, _, lw_back_4 D1, m1, m2, fun q => absurd q (by decide), ⟨by rw [m0.1, w32], fun p q h1 h2 => by rw [m0.2.1 p q h1, w32], fun p q h1 h2 h3 h4 h5 => by rw [m3 p q h5, iu p q h1 h2]⟩, ?_⟩
          rw [if_pos cl] at o3
          exact hR.same (fun p q hp => by rw [m3 p q (by omega), o3, b2.2 p q (by omega)])
        · exact absurd cl (hNl.mpr m1)
      · rw [if_neg cl] at D1
        simp only [gf_ct] at D1
        obtain ⟨w4, hw4⟩ : ∃ w4, w4 = gw_wl w3 701 0 (if (1 : Int32) = 0 then 0 else 1) := ⟨_, rfl⟩
        have hr4 : gv_Rf w4 := by rw [hw4]; exact hr.eq (by show w3.2.2 = u.2.2; rw [w32])
        obtain ⟨w5, m0, m⟩ := model w4 hr4 (fun p q h1 h2 => by rw [hw4]; exact iu p q h1 h2)
        have hlaw := lw_back_v D1 gv_zo
        rw [← hw4] at hlaw
        have hlt := hNl.mp cl
        rcases m with ⟨m1, _⟩ | ⟨_, _, m1, _⟩ | ⟨_, _, _, m1, m2, m3, m4⟩
        · rcases m1 with q | q
          · rw [cK] at q; exact absurd q (by decide)
          · exact absurd (hN2.mpr q) cN
        · exact absurd hlt (Nat.not_lt.mpr m1)
        · refine ⟨_, _, _, _, hlaw, m1, m2, fun _ => ?_, ⟨?_, fun p q h1 h2 => ?_, fun p q h1 h2 h3 h4 h5 => ?_⟩, ?_⟩
          · rw [m0.2.1 701 0 (by omega), hw4]; rfl
          · rw [m0.1, hw4]
            show w3.2.2 = u.2.2
            rw [w32]
          · rw [m0.2.1 p q h1, hw4]
            simp only [gw_wl]
            rw [if_neg (by omega), w32]
          · rw [m0.2.2 p q h3 h4 h5, hw4]
            exact iu p q h1 h2
          · rw [if_neg cl] at o3
            rcases b6 with ⟨e1, e2, e3⟩ | ⟨e1, _⟩
            · refine ⟨T, N, o3.same (fun p q h1 h2 => ?_), Int.natCast_nonneg _, Int.natCast_nonneg _, ?_, ?_, ?_, ?_⟩
              · rw [m0.2.2 p q (by omega) (by omega) (by omega), hw4]
                rfl
              · rw [eTa, e2]; exact e1
              · rw [eNa, e3]; exact (bkT_pos hd 12 (by omega) cK).2.2
              · rw [eTa, e2]; exact m3
              · rw [eNa, e3]; exact m4
            · exact absurd hlt (Nat.not_lt.mpr e1)
  · rw [if_neg cK] at D0
    have cK' : bkK d 12 = false := by
      cases h : bkK d 12
      · rfl
      · exact absurd h cK
    obtain ⟨w3, hw3⟩ : ∃ w3, w3 = gw_wl u 701 0 (if (0 : Int32) = 0 then 0 else 1) := ⟨_, rfl⟩
    have hr3 : gv_Rf w3 := by rw [hw3]; exact hr.eq rfl
    obtain ⟨w4, m0, m⟩ := model w3 hr3 (fun p q h1 h2 => by rw [hw3]; rfl)
    have hlaw := lw_back_v D0 gv_zo
    rw [← hw3] at hlaw
    rcases m with ⟨_, m1, m2, m3⟩ | ⟨q, _⟩ | ⟨q, _⟩
    · refine ⟨_, _, _, _, hlaw, m1, m2, fun _ => ?_, ⟨?_, fun p q h1 h2 => ?_, fun p q h1 h2 h3 h4 h5 => ?_⟩, ?_⟩
      · rw [m0.2.1 701 0 (by omega), hw3]; rfl
      · rw [m0.1, hw3]
        rfl
      · rw [m0.2.1 p q h1, hw3]
        simp only [gw_wl]
        rw [if_neg (by omega)]
      · rw [m3 p q h5, hw3]
        rfl
      · exact hR.same (fun p q hp => by rw [m3 p q (by omega), hw3]; rfl)
    · exact absurd q cK
    · exact absurd q cK
