theorem bk_ex {u : gw_St} {n B : Nat} (hn : n ≤ 60) (hl : gv_Dl u n) (hs : gv_Sp u n B) : ∃ d, bkD u n B d := by
  have h : ∀ k, ∃ o : Option (Int × Int), k < 12 → (u.1 57 k = -1 ∧ o = none) ∨ (∃ g, u.1 57 k = Int32.ofNat g ∧ g < n ∧ u.1 (B + 1) g = 1 ∧ ∃ a b, o = some (a, b) ∧ gv_Sv u B g a b) ∨ (∃ g, u.1 57 k = Int32.ofNat g ∧ g < n ∧ u.1 (B + 1) g = 0 ∧ o = some (0, 0)) := by
    intro k
    by_cases hk : k < 12
    · have hlk := hl k hk
      by_cases c : u.1 57 k = -1
      · exact ⟨none, fun _ => Or.inl ⟨c, rfl⟩⟩
      · have em : (-1 : Int32).toInt = -1 := rfl
        have hg0 : 0 ≤ (u.1 57 k).toInt := by
          rcases Int.lt_or_le (u.1 57 k).toInt 0 with q | q
          · exact absurd (i32_ext (by rw [em]; omega)) c
          · exact q
        obtain ⟨g, hgk, hgn⟩ : ∃ g, u.1 57 k = Int32.ofNat g ∧ g < n := ⟨(u.1 57 k).toInt.toNat, i32_ext (by rw [i32_nat (by omega)]; omega), by omega⟩
        rcases hs.2.2.2.1 g (by omega) with q | q
        · exact ⟨some (0, 0), fun _ => Or.inr (Or.inr ⟨g, hgk, hgn, q, rfl⟩)⟩
        · obtain ⟨a, b, hv⟩ := hs.2.2.2.2.2.2 g hgn q
          exact ⟨some (a, b), fun _ => Or.inr (Or.inl ⟨g, hgk, hgn, q, a, b, rfl, hv⟩)⟩
    · exact ⟨none, fun q => absurd q hk⟩
  exact ⟨fun k => Classical.choose (h k), fun k hk => Classical.choose_spec (h k) hk⟩
/-- the class's first rounds: is each hand's speed known -/
theorem gd_backK {F : Nat} (hF : 20000 ≤ F) {u : gw_St} {n B : Nat} {d : Nat → Option (Int × Int)} (hr : gv_Rf u) (hn : n ≤ 60) (hs : gv_Sp u n B) (hd : bkD u n B d) : ∀ (j k f : Nat), k + j = 12 → j < f → bkK d k = true → ∃ f', gf_Desk_back_L2 F gv_z f u 0 (Int32.ofNat k) = if bkK d 12 then gf_Desk_back_L2 F gv_z (f' + 1) u 0 (Int32.ofNat 12) else some (.inl 0, u) := by
  obtain ⟨hB, s1, s2, s3, s4, s5, s6⟩ := hs
  obtain ⟨k1, k2, k3, k4⟩ := gv_spK hr hB
  intro j
  induction j with
  | zero =>
    intro k f hk hf hK
    have : k = 12 := by omega
    subst this
    exact ⟨f - 1, by rw [if_pos hK, show f - 1 + 1 = f by omega]⟩
  | succ j ih =>
    intro k f hk hf hK
    obtain ⟨f, rfl⟩ : ∃ g, f = g + 1 := ⟨f - 1, by omega⟩
    have hk12 : k < 12 := by omega
    have st : ∀ x, u.1 57 k = x → gf_Desk_back_L2 F gv_z (f + 1) u 0 (Int32.ofNat k) = if x = -1 then gf_Desk_back_L2 F gv_z f u 0 (Int32.ofNat (k + 1)) else (if (x < 0 ∨ 60 ≤ x.toNatClampNeg) then none else if (u.1 (B + 1) x.toNatClampNeg) = 0 then some (.inl 0, u) else gf_Desk_back_L2 F gv_z f u 0 (Int32.ofNat (k + 1))) := by
      intro x hx
      show gf_Desk_back_S2 F gv_z _ u 0 (Int32.ofNat k) = _
      unfold gf_Desk_back_S2 gf_Desk_back_b37
      rw [if_neg (fun e : (12 : Int32) ≤ Int32.ofNat k => by have := (gi_le (a := 12) (by omega) (by omega)).mp e; omega), hr.get rfl gv_r0_4, gnn, if_neg (gi_ix (by rw [gv_l57]; omega) (by omega)), i32_clamp (by omega), hx]
      simp only [gf_nm]
      rw [gw_iS, s1, gnn, k1, gnn, gnn, if_neg (gi_ic (by rw [gv_l57]; omega) (by omega)), hx, k3, if_neg (show ¬ ¬ ((0 : Int32) &&& 1 = 0) by decide)]
    have stop : bkK d 12 = true → bkK d (k + 1) = true := by
      intro h
      have : ∀ m, k + 1 + m ≤ 12 → bkK d (k + 1 + m) = true → bkK d (k + 1) = true := by
        intro m
        induction m with
        | zero => intro _ h; exact h
        | succ m ihm =>
          intro hm h
          apply ihm (by omega)
          have h' : bkK d (k + 1 + m + 1) = true := h
          unfold bkK at h'
          rw [Bool.and_eq_true] at h'
          exact h'.1
      exact this (12 - (k + 1)) (by omega) (by rw [show k + 1 + (12 - (k + 1)) = 12 by omega]; exact h)
    rcases hd k hk12 with ⟨h57, hdk⟩ | ⟨g, h57, hg, hkn, a, b, hdk, hv⟩ | ⟨g, h57, hg, hkn, hdk⟩
    · have eK : bkK d (k + 1) = true := by
        unfold bkK
        rw [hK, hdk]
        rfl
      rw [st _ h57, if_pos rfl]
      exact ih (k + 1) f (by omega) (by omega) eK
    · have hne : d k ≠ some (0, 0) := by
        rw [hdk]
        intro e
        have : b = 0 := by
          have := Option.some.inj e
          exact congrArg Prod.snd this
        have := hv.2.1
        omega
      have eK : bkK d (k + 1) = true := by
        unfold bkK
        rw [hK]
        simp [hne]
      have hm1 : ¬ Int32.ofNat g = -1 := fun e => by
        have := congrArg Int32.toInt e
        rw [i32_nat (by omega)] at this
        have em : (-1 : Int32).toInt = -1 := rfl
        omega
      rw [st _ h57, if_neg hm1, if_neg (gi_ix (by omega) (by omega)), i32_clamp (by omega), if_neg (by rw [hkn]; decide)]
      exact ih (k + 1) f (by omega) (by omega) eK
    · have eK : bkK d (k + 1) = false := by
        unfold bkK
        rw [hdk]
        simp
      have hm1 : ¬ Int32.ofNat g = -1 := fun e => by
        have := congrArg Int32.toInt e
        rw [i32_nat (by omega)] at this
        have em : (-1 : Int32).toInt = -1 := rfl
        omega
      refine ⟨0, ?_⟩
      rw [st _ h57, if_neg hm1, if_neg (gi_ix (by omega) (by omega)), i32_clamp (by omega), if_pos hkn, if_neg (fun q => by have := stop q; rw [eK] at this; exact absurd this (by decide))]
/-- the class's second rounds: the turns -/
theorem gd_backT {F : Nat} (hF : 20000 ≤ F) {u : gw_St} {n B : Nat} {d : Nat → Option (Int × Int)} (hr : gv_Rf u) (hn : n ≤ 60) (hs : gv_Sp u n B) (hd : bkD u n B d) (hK : ∀ k, k ≤ 12 → bkK d k = true) : ∀ (j k f : Nat) (w : gw_St) (T N : Nat), k + j = 12 → j < f → Wr 10 56 u w → Fr w 46 T N → T < 2147483648 ^ 20 → N < 2147483648 ^ 20 → ((bkT d k).1 < 2 ^ 256 ∧ T = (bkT d k).1 ∧ N = (bkT d k).2 ∨ 2 ^ 256 ≤ (bkT d k).1 ∧ 2 ^ 256 ≤ T ∧ N ≠ 0 ∧ (bkT d k).2 ≠ 0) →
    ∃ f' w' T' N', gf_Desk_back_L52 F gv_z f w 0 (Int32.ofNat k) = gf_Desk_back_L52 F gv_z (f' + 1) w' 0 (Int32.ofNat 12) ∧ Wr 10 56 u w' ∧ Fr w' 46 (T' : Nat) (N' : Nat) ∧ T' < 2147483648 ^ 20 ∧ N' < 2147483648 ^ 20 ∧ ((bkT d 12).1 < 2 ^ 256 ∧ T' = (bkT d 12).1 ∧ N' = (bkT d 12).2 ∨ 2 ^ 256 ≤ (bkT d 12).1 ∧ 2 ^ 256 ≤ T' ∧ N' ≠ 0 ∧ (bkT d 12).2 ≠ 0) := by
  obtain ⟨hB, s1, s2, s3, s4, s5, s6⟩ := id hs
  obtain ⟨k1, k2, k3, k4⟩ := gv_spK hr hB
  intro j
  induction j with
  | zero =>
    intro k f w T N hk hf hw hfr hT hN hinv
    have : k = 12 := by omega
    subst this
    exact ⟨f - 1, w, T, N, by rw [show f - 1 + 1 = f by omega], hw, hfr, hT, hN, hinv⟩
  | succ j ih =>
    intro k f w T N hk hf hw hfr hT hN hinv
    obtain ⟨f, rfl⟩ : ∃ g, f = g + 1 := ⟨f - 1, by omega⟩
    have hk12 : k < 12 := by omega
    have rw' := hr.wr hw
    have e57 : w.1 57 k = u.1 57 k := hw.2 57 k (by omega)
    have w07 : w.2.2 0 7 = B + 1 := by rw [hw.1]; exact s1
    have wB1 : w.2.2 B 1 = B + 3 := by rw [hw.1]; exact k2
    rcases hd k hk12 with ⟨h57, hdk⟩ | ⟨g, h57, hg, hkn, a, b, hdk, hv⟩ | ⟨g, h57, hg, hkn, hdk⟩
    · have eT : bkT d (k + 1) = bkT d k := by
        show (match d k with | none => bkT d k | some (a, b) => _) = _
        rw [hdk]
      have hst : gf_Desk_back_L52 F gv_z (f + 1) w 0 (Int32.ofNat k) = gf_Desk_back_L52 F gv_z f w 0 (Int32.ofNat (k + 1)) := by
        show gf_Desk_back_S52 F gv_z _ w 0 (Int32.ofNat k) = _
        unfold gf_Desk_back_S52 gf_Desk_back_b89
        rw [if_neg (fun e : (12 : Int32) ≤ Int32.ofNat k => by have := (gi_le (a := 12) (by omega) (by omega)).mp e; omega), rw'.get rfl gv_r0_4, gnn, if_neg (gi_ix (by rw [gv_l57]; omega) (by omega)), i32_clamp (by omega), e57, h57, if_pos rfl]
        simp only [gf_nm]
        rw [gw_iS]
      rw [hst]
      exact ih (k + 1) f w T N (by omega) (by omega) hw hfr hT hN (by rw [eT]; exact hinv)
    · obtain ⟨f1, f2, f3, f4⟩ := gv_spF hr hB (show g < 60 by omega)
      have hfs : Fs u (B + 3 + 5 * g) a b := ⟨by omega, f2, hv.1, p256' hv.2.2.1, p256' hv.2.2.2.1, f3, f4⟩
      obtain ⟨w2, c1, c2, c3⟩ := gh_also (F := F) hF (u := w) (p := B + 3 + 5 * g) (a := a) (b := b) (T := T) (N := N) rw' (hfs.wr hw) hfr hT hN
      have eTa : ((T : Nat) : Int).natAbs = T := rfl
      have eNa : ((N : Nat) : Int).natAbs = N := rfl
      rw [eTa, eNa] at c3
      have hm1 : ¬ Int32.ofNat g = -1 := fun e => by
        have := congrArg Int32.toInt e
        rw [i32_nat (by omega)] at this
        have em : (-1 : Int32).toInt = -1 := rfl
        omega
      have hst : gf_Desk_back_L52 F gv_z (f + 1) w 0 (Int32.ofNat k) = gf_Desk_back_L52 F gv_z f w2 0 (Int32.ofNat (k + 1)) := by
        show gf_Desk_back_S52 F gv_z _ w 0 (Int32.ofNat k) = _
        unfold gf_Desk_back_S52 gf_Desk_back_b89
        rw [if_neg (fun e : (12 : Int32) ≤ Int32.ofNat k => by have := (gi_le (a := 12) (by omega) (by omega)).mp e; omega), rw'.get rfl gv_r0_4, gnn, if_neg (gi_ix (by rw [gv_l57]; omega) (by omega)), i32_clamp (by omega), e57, h57, if_neg hm1, rw'.get rfl gv_r0_3, gnn, w07, gnn, wB1, gnn, gnn, if_neg (gi_ic (by rw [gv_l57]; omega) (by omega)), e57, h57, if_neg (gi_ix (by rw [k4]; omega) (by omega)), i32_clamp (by omega), show w.2.2 (B + 2) g = (B + 3 + 5 * g) + 1 from by rw [hw.1]; rw [f1]; omega, gnn, c1]
        show gf_Desk_back_L52 F gv_z f w2 0 (Int32.ofNat k + 1) = _
        rw [gw_iS]
      rw [hst]
      have hw2 := hw.trans c2
      by_cases ca : a = 0
      · have eT : bkT d (k + 1) = bkT d k := by
          show (match d k with | none => bkT d k | some (a, b) => if a = 0 then bkT d k else _) = _
          rw [hdk]
          dsimp only
          rw [if_pos ca]
        rw [if_pos (Or.inl ca)] at c3
        exact ih (k + 1) f w2 T N (by omega) (by omega) hw2 (by rw [c3]; exact hfr) hT hN (by rw [eT]; exact hinv)
      · have eT : bkT d (k + 1) = ((bkT d k).1 * (b.natAbs / Nat.gcd (bkT d k).1 b.natAbs), Nat.gcd (bkT d k).2 a.natAbs) := by
          show (match d k with | none => bkT d k | some (a, b) => if a = 0 then bkT d k else ((bkT d k).1 * (b.natAbs / Nat.gcd (bkT d k).1 b.natAbs), Nat.gcd (bkT d k).2 a.natAbs)) = _
          rw [hdk]
          dsimp only
          rw [if_neg ca]
        have hNn : (bkT d (k + 1)).2 ≠ 0 := by
          rw [eT]
          have := Nat.gcd_pos_of_pos_right (bkT d k).2 (show 0 < a.natAbs by omega)
          dsimp only
          omega
        have hmono := bkT_mono hd hk12 (hK (k + 1) (by omega))
        rcases hinv with ⟨i1, i2, i3⟩ | ⟨i1, i2, i3, i4⟩
        · have hpos := bkT_pos hd k (by omega) (hK k (by omega))
          have hno : ¬ (a = 0 ∨ 2 ^ 256 ≤ T ∨ 2 ^ 256 ≤ N) := by
            rintro (q | q | q)
            · exact ca q
            · rw [i2] at q; exact absurd i1 (Nat.not_lt.mpr q)
            · rw [i3] at q; exact absurd hpos.2.2 (Nat.not_lt.mpr q)
          rw [if_neg hno] at c3
          have hb0 : 0 < b := hv.2.1
          have eb : b = (b.natAbs : Int) := by omega
          have eg : Int.gcd (T : Int) b = Nat.gcd T b.natAbs := rfl
          have eg2 : Int.gcd (N : Int) a = Nat.gcd N a.natAbs := rfl
          have hg : 0 < Nat.gcd T b.natAbs := by rw [i2]; exact Nat.gcd_pos_of_pos_left _ hpos.1
          have et : ((T : Nat) : Int).tdiv ((Nat.gcd T b.natAbs : Nat) : Int) * b = ((T * (b.natAbs / Nat.gcd T b.natAbs) : Nat) : Int) := by
            have h1 : ((T : Nat) : Int).tdiv ((Nat.gcd T b.natAbs : Nat) : Int) = ((T / Nat.gcd T b.natAbs : Nat) : Int) := rfl
            have h2 : T / Nat.gcd T b.natAbs * b.natAbs = T * (b.natAbs / Nat.gcd T b.natAbs) := by
              obtain ⟨t, ht⟩ := Nat.gcd_dvd_left T b.natAbs
              obtain ⟨s, hs'⟩ := Nat.gcd_dvd_right T b.natAbs
              have e1 : T / Nat.gcd T b.natAbs = t := Nat.div_eq_of_eq_mul_right hg ht
              have e2 : b.natAbs / Nat.gcd T b.natAbs = s := Nat.div_eq_of_eq_mul_right hg hs'
              rw [e1, e2]
              generalize Nat.gcd T b.natAbs = G at *
              rw [hs', ht, Nat.mul_left_comm, Nat.mul_assoc]
            rw [h1, ← h2, Int.natCast_mul, ← eb]
          rw [eg, eg2, et] at c3
          rw [i2, i3] at c3
          have e1 : (bkT d k).1 * (b.natAbs / Nat.gcd (bkT d k).1 b.natAbs) = (bkT d (k + 1)).1 := by rw [eT]
          have e2 : Nat.gcd (bkT d k).2 a.natAbs = (bkT d (k + 1)).2 := by rw [eT]
          rw [e1, e2] at c3
          have hTl : (bkT d (k + 1)).1 < 2147483648 ^ 20 := by
            rw [← e1]
            have h1 : (bkT d k).1 * (b.natAbs / Nat.gcd (bkT d k).1 b.natAbs) ≤ 2 ^ 256 * 2 ^ 256 := Nat.mul_le_mul (Nat.le_of_lt i1) (Nat.le_trans (Nat.div_le_self _ _) (Nat.le_of_lt hv.2.2.2.1))
            have h2 : (2 : Nat) ^ 256 * 2 ^ 256 < 2147483648 ^ 20 := by
              rw [pw31, ← Nat.pow_add]
              exact Nat.pow_lt_pow_right (by decide) (by omega)
            exact Nat.lt_of_le_of_lt h1 h2
          have hNl : (bkT d (k + 1)).2 < 2147483648 ^ 20 := by
            have h1 := (bkT_pos hd (k + 1) (by omega) (hK (k + 1) (by omega))).2.2
            have h2 : (2 : Nat) ^ 256 < 2147483648 ^ 20 := by
              rw [pw31]
              exact Nat.pow_lt_pow_right (by decide) (by omega)
            exact Nat.lt_trans h1 h2
          refine ih (k + 1) f w2 _ _ (by omega) (by omega) hw2 c3 hTl hNl ?_
          by_cases cl : (bkT d (k + 1)).1 < 2 ^ 256
          · exact Or.inl ⟨cl, rfl, rfl⟩
          · exact Or.inr ⟨Nat.not_lt.mp cl, Nat.not_lt.mp cl, hNn, hNn⟩
        · rw [if_pos (Or.inr (Or.inl i2))] at c3
          exact ih (k + 1) f w2 T N (by omega) (by omega) hw2 (by rw [c3]; exact hfr) hT hN (Or.inr ⟨Nat.le_trans i1 hmono, i2, i3, hNn⟩)
    · exfalso
      have := hK (k + 1) (by omega)
      unfold bkK at this
      rw [hdk] at this
      simp at this
