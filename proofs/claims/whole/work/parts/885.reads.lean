theorem Eq1.fr {S : Nat → Prop} {u w : gw_St} {n cr k : Nat} {A : Nat → Nat → Int} {s : Nat → Nat} {pc : Nat} (h : Eq1 u n cr k A s pc) (f : Wp S u w) (hS : ∀ a, 22 ≤ a → a ≤ 25 → ¬ S a) (hS2 : ∀ a, 41 ≤ a → a ≤ 44 → ¬ S a) : Eq1 w n cr k A s pc := by
  obtain ⟨h1, h2, h3, h4, h5, h6, h7, h8, h9, h10, h11⟩ := h
  refine ⟨h1, by rw [f.1]; exact h2, by rw [f.1]; exact h3, by rw [f.2 22 (hS 22 (by omega) (by omega))]; exact h4, by rw [f.2 22 (hS 22 (by omega) (by omega))]; exact h5, by rw [f.2 22 (hS 22 (by omega) (by omega))]; exact h6, h7, h8.wp f (hS2 _ (by omega) (by omega)) (hS2 _ (by omega) (by omega)), fun l hl => by rw [f.2 25 (hS 25 (by omega) (by omega))]; exact h9 l hl, fun c hc hs => by rw [f.2 25 (hS 25 (by omega) (by omega))]; exact h10 c hc hs, fun l hl c hc hs => (h11 l hl c hc hs).same (f.2 24 (hS 24 (by omega) (by omega)) _) (fun i _ => f.2 23 (hS 23 (by omega) (by omega)) _)⟩
theorem om_bd {R : Nat → Nat → Int} {m n k cr g : Nat} {A : Nat → Nat → Int} {s : Nat → Nat} (hEl : El R m n A s k) (hs : ∀ l, l < k → s l ≠ cr) (hb : ∀ r, r < m → Bd n (R r)) (hn : n ≤ 60) (hcr : cr < n) (hd : dtm A s k n cr g) : (Om A s k cr g).natAbs < 2 ^ 660 := by
  rcases hd with e | ⟨l, hl, e, -⟩
  · rw [e, Om_cr hs]; exact hEl.bd hb hn
  · rw [← e, Om_s hs hEl.2.2.1 hl, Int.natAbs_neg]; exact hEl.bdC hb hn hcr hs
/-- what readSpeeds may change -/
def Ks2 (B a : Nat) : Prop := 10 ≤ a ∧ a ≤ 21 ∨ 36 ≤ a ∧ a ≤ 40 ∨ B + 1 ≤ a ∧ a ≤ B + 302
theorem bsg1 : vp_nar .boolean (1 : Int32) = 1 := rfl
theorem bsg0 : vp_nar .boolean (0 : Int32) = 0 := rfl
theorem eq_reads {F : Nat} (hF : 20000 ≤ F) {u : gw_St} {n m cr k pc B : Nat} {R A : Nat → Nat → Int} {s : Nat → Nat} {hd : Nat → Bool} (hr : gv_Rf u) (hn : n ≤ 60) (hcr : cr < n) (hE : Eq1 u n cr k A s pc) (hEl : El R m n A s k) (hs : ∀ l, l < k → s l ≠ cr) (hb : ∀ r, r < m → Bd n (R r)) (hB : B = 64 ∨ B = 367) (hhd : ∀ g, g < n → (hd g = true ↔ dtm A s k n cr g)) : ∃ w, Wp (Ks2 B) u w ∧ (((∃ g, g < n ∧ bigS hd (Xg A s k cr) (Yg A s k cr) g) ∧ gf_Equations_readSpeeds F gv_z u 22 B = some (0, w)) ∨ ((∀ g, g < n → ¬ bigS hd (Xg A s k cr) (Yg A s k cr) g) ∧ gf_Equations_readSpeeds F gv_z u 22 B = some (1, w) ∧ (∀ g, g < n → (hd g = true → w.1 (B + 1) g = 1 ∧ Fr w (B + 3 + 5 * g) (Xg A s k cr g) (Yg A s k cr g)) ∧ (hd g = false → w.1 (B + 1) g = 0)) ∧ ∀ g, n ≤ g → g < 60 → w.1 (B + 1) g = 0)) := by
  obtain ⟨u1, a1, a2⟩ := gs_forget (F := F) (by omega) hr hB
  have f1 : Wp (Ks2 B) u u1 := ⟨a2.1, fun a q k => a2.2.1 a k (fun e => q (Or.inr (Or.inr ⟨by omega, by omega⟩)))⟩
  obtain ⟨k1, k2, k3, k4⟩ := gv_spK hr hB
  have hD0 : eD A s k ≠ 0 := hEl.1.1
  have run : ∀ (j g f : Nat) (w : gw_St), g + j = n → j < f → Wp (Ks2 B) u w → (∀ d, d < g → ¬ bigS hd (Xg A s k cr) (Yg A s k cr) d) → (∀ d, d < g → (hd d = true → w.1 (B + 1) d = 1 ∧ Fr w (B + 3 + 5 * d) (Xg A s k cr d) (Yg A s k cr d)) ∧ (hd d = false → w.1 (B + 1) d = 0)) → (∀ d, g ≤ d → d < 60 → w.1 (B + 1) d = 0) → ∃ w', Wp (Ks2 B) u w' ∧ (((∃ g, g < n ∧ bigS hd (Xg A s k cr) (Yg A s k cr) g) ∧ gf_Equations_readSpeeds_L6 F gv_z f w 22 B (Int32.ofNat g) = some (0, w')) ∨ ((∀ g, g < n → ¬ bigS hd (Xg A s k cr) (Yg A s k cr) g) ∧ gf_Equations_readSpeeds_L6 F gv_z f w 22 B (Int32.ofNat g) = some (1, w') ∧ (∀ g, g < n → (hd g = true → w'.1 (B + 1) g = 1 ∧ Fr w' (B + 3 + 5 * g) (Xg A s k cr g) (Yg A s k cr g)) ∧ (hd g = false → w'.1 (B + 1) g = 0)) ∧ ∀ g, n ≤ g → g < 60 → w'.1 (B + 1) g = 0)) := by
    intro j
    induction j with
    | zero =>
      intro g f w hg hf hw hbig hval hrest
      obtain ⟨f, rfl⟩ : ∃ q, f = q + 1 := ⟨f - 1, by omega⟩
      have : g = n := by omega
      subst this
      refine ⟨w, hw, Or.inr ⟨hbig, ?_, hval, hrest⟩⟩
      show gf_Equations_readSpeeds_S6 F gv_z _ w 22 B (Int32.ofNat g) = _
      unfold gf_Equations_readSpeeds_S6
      rw [hw.2 22 (by unfold Ks2; omega), hE.2.2.2.1, if_pos ((gi_le (by omega) (by omega)).mpr (Nat.le_refl _)), if_neg (by decide)]
    | succ j ih =>
      intro g f w hg hf hw hbig hval hrest
      obtain ⟨f, rfl⟩ : ∃ q, f = q + 1 := ⟨f - 1, by omega⟩
      have hgn : g < n := by omega
      have hrw := hr.wp hw
      have hEw := hE.fr hw (fun a q1 q2 => by unfold Ks2; omega) (fun a q1 q2 => by unfold Ks2; omega)
      obtain ⟨x, b1, b2⟩ := eq_det (F := F) (by omega) hrw hn hcr hEw hEl.2.2.1 hgn
      have hbx : vp_nar .boolean x = x := by rcases b2 with ⟨e, -⟩ | ⟨e, -⟩ <;> rw [e] <;> rfl
      generalize hw1 : gw_wi w (B + 1) g x = w1
      have s1 : Wp (Ks2 B) w w1 := by rw [← hw1]; exact Wp.wi (Or.inr (Or.inr ⟨by omega, by omega⟩))
      have i1 : ∀ a i, ¬ (a = B + 1 ∧ i = g) → w1.1 a i = w.1 a i := fun a i q => by rw [← hw1, wi_ne q]
      have e1 : w1.1 (B + 1) g = x := by rw [← hw1, wi_same]
      have u1e : w1.2 = w.2 := s1.1
      have r1 := hrw.wp s1
      have hE1 := hEw.fr s1 (fun a q1 q2 => by unfold Ks2; omega) (fun a q1 q2 => by unfold Ks2; omega)
      obtain ⟨p1, p2, p3, p4⟩ := gv_spK hrw hB
      obtain ⟨p1', p2', -, -⟩ := gv_spK r1 hB
      have hstart : gf_Equations_readSpeeds_L6 F gv_z (f + 1) w 22 B (Int32.ofNat g) = if x = 0 then (gf_Equations_readSpeeds_L6 F gv_z f w1 22 B (Int32.ofNat (g + 1))) else ((gf_Equations_readSpeed F gv_z w1 22 (Int32.ofNat g)).bind fun u17 => gf_nn (u17.2.2 22 10) fun q19 => gf_cl (gf_Fraction_isTooLarge F gv_z u17 q19) fun a23 u21 => if a23 = 0 then (gf_nn (u21.2.2 B 1) fun q25 => if (Int32.ofNat g < 0 ∨ gv_z.2.2 q25 ≤ (Int32.ofNat g).toNatClampNeg) then none else gf_nn (u21.2.2 q25 (Int32.ofNat g).toNatClampNeg) fun q28 => gf_nn (u21.2.2 22 10) fun q30 => (gf_Fraction_copyFrom F gv_z u21 q28 q30).bind fun u32 => gf_Equations_readSpeeds_L6 F gv_z f u32 22 B (Int32.ofNat (g + 1))) else (if ¬ ((0 : Int32) &&& 1 = (0 : Int32)) then none else some ((0 : Int32), u21))) := by
        show gf_Equations_readSpeeds_S6 F gv_z _ w 22 B (Int32.ofNat g) = _
        unfold gf_Equations_readSpeeds_S6 gf_Equations_readSpeeds_b64
        rw [hEw.2.2.2.1, if_neg (fun e => by have := (gi_le (by omega) (by omega)).mp e; omega), p1, gnn, b1]
        simp only [gf_cl, gf_nm]
        rw [if_neg (gi_ix (by rw [p3]; omega) (by omega)), i32_clamp (by omega), hbx, hw1, p1', gnn, if_neg (gi_ic (by rw [p3]; omega) (by omega)), e1, gw_iS]
      rw [hstart]
      rcases b2 with ⟨bx, bd⟩ | ⟨bx, bd⟩
      · -- determined
        have hdg : hd g = true := (hhd g hgn).mpr bd
        obtain ⟨w2, c1, c2, c3⟩ := eq_read (F := F) hF r1 hn hcr hE1 hEl hs hb hgn bd
        have s2 : Wp (Ks2 B) w1 w2 := c2.mono (fun a q => by unfold Ks2; omega)
        have r2 := r1.wp s2
        have x2 := gv_x36 r2
        obtain ⟨xr1, xr2, xr3, -⟩ := xy_red (O := Om A s k cr g) hD0
        have bX : (Xg A s k cr g).natAbs < 2 ^ 660 := Nat.lt_of_le_of_lt xr3 (om_bd hEl hs hb hn hcr bd)
        have bY : (Yg A s k cr g).natAbs < 2 ^ 660 := Nat.lt_of_le_of_lt xr2 (hEl.bd hb hn)
        have hlarge := gw_large (F := F) (z := gv_z) (k := 22) x2 c3 (b660 bX) (b660 bY) (by rw [gv_l38]; omega) (by rw [gv_l40]; omega)
        rw [if_neg (by rw [bx]; decide), c1, Option.bind_some, r2.get rfl gv_r22_10, gnn, hlarge]
        simp only [gf_cl]
        by_cases big : 2 ^ 256 ≤ (Xg A s k cr g).natAbs ∨ 2 ^ 256 ≤ (Yg A s k cr g).natAbs
        · rw [if_pos big, if_neg (by decide), if_neg (by decide)]
          exact ⟨w2, hw.trans (s1.trans s2), Or.inl ⟨⟨g, hgn, hdg, big⟩, rfl⟩⟩
        · rw [if_neg big, if_pos rfl]
          have nbX : (Xg A s k cr g).natAbs < 2 ^ 256 := Nat.lt_of_not_le (fun q => big (Or.inl q))
          have nbY : (Yg A s k cr g).natAbs < 2 ^ 256 := Nat.lt_of_not_le (fun q => big (Or.inr q))
          obtain ⟨q1, q2, q3, q4⟩ := gv_spF r2 hB (show g < 60 by omega)
          obtain ⟨-, o2, -, o4⟩ := gv_spK r2 hB
          obtain ⟨w3, d1, d2, d3⟩ := gw_fcopy (F := F) (z := gv_z) (u := w2) (p := B + 3 + 5 * g) (p' := 36) (k := 9) q2 x2 (by omega) c3 (p256' nbX) (p256' nbY) (by rw [gv_l38]; omega) (by rw [gv_l40]; omega) (by rw [q3]; omega) (by rw [q4]; omega)
          have s3 : Wp (Ks2 B) w2 w3 := d2.wp (fun a q1 q2 => Or.inr (Or.inr ⟨by omega, by omega⟩))
          rw [o2, gnn, if_neg (gi_ix (by rw [o4]; omega) (by omega)), i32_clamp (by omega), q1, show B + 4 + 5 * g = B + 3 + 5 * g + 1 by omega, gnn, r2.get rfl gv_r22_10, gnn, d1, Option.bind_some]
          have hnb : ¬ bigS hd (Xg A s k cr) (Yg A s k cr) g := fun z => big z.2
          clear big nbX nbY bX bY xr1 xr2 xr3 hlarge hstart
          have k3' : ∀ i, w3.1 (B + 1) i = w1.1 (B + 1) i := fun i => by
            rw [d2.2 (B + 1) i (by omega), c2.2 (B + 1) (by omega)]
          refine ih (g + 1) f w3 (by omega) (by omega) (hw.trans (s1.trans (s2.trans s3))) (fun d hd' => ?_) (fun d hd' => ?_) (fun d h1 h2 => ?_)
          · by_cases q : d = g
            · rw [q]; exact hnb
            · exact hbig d (by omega)
          · by_cases q : d = g
            · subst q
              refine ⟨fun _ => ⟨by rw [k3', e1, bx], d3⟩, fun z => ?_⟩
              rw [hdg] at z
              exact Bool.noConfusion z
            · obtain ⟨v1, v2⟩ := hval d (by omega)
              have hk : w3.1 (B + 1) d = w.1 (B + 1) d := by rw [k3', i1 _ _ (by omega)]
              have far : ∀ a i, B + 3 + 5 * d ≤ a → a ≤ B + 3 + 5 * d + 4 → w3.1 a i = w.1 a i := fun a i h1 h2 => by
                rw [d2.2 a i (by omega), c2.2 a (by omega), i1 a i (by omega)]
              refine ⟨fun z => ?_, fun z => by rw [hk]; exact v2 z⟩
              obtain ⟨y1, y2, y3⟩ := v1 z
              exact ⟨by rw [hk]; exact y1, y2.same (fun i => far _ i (by omega) (by omega)) (fun i => far _ i (by omega) (by omega)), y3.same (fun i => far _ i (by omega) (by omega)) (fun i => far _ i (by omega) (by omega))⟩
          · rw [k3', i1 _ _ (by omega)]
            exact hrest d (by omega) h2
      · have hdg : hd g = false := by
          cases h : hd g with
          | false => rfl
          | true => exact absurd ((hhd g hgn).mp h) bd
        rw [if_pos bx]
        refine ih (g + 1) f w1 (by omega) (by omega) (hw.trans s1) (fun d hd' => ?_) (fun d hd' => ?_) (fun d h1 h2 => ?_)
        · by_cases q : d = g
          · rw [q]
            intro z
            have z1 := z.1
            rw [hdg] at z1
            exact Bool.noConfusion z1
          · exact hbig d (by omega)
        · by_cases q : d = g
          · subst q
            refine ⟨fun z => ?_, fun _ => by rw [e1, bx]⟩
            rw [hdg] at z
            exact Bool.noConfusion z
          · obtain ⟨v1, v2⟩ := hval d (by omega)
            have far : ∀ a i, B + 3 + 5 * d ≤ a → a ≤ B + 3 + 5 * d + 4 → w1.1 a i = w.1 a i := fun a i h1 h2 => i1 a i (by omega)
            refine ⟨fun z => ?_, fun z => by rw [i1 _ _ (by omega)]; exact v2 z⟩
            obtain ⟨y1, y2, y3⟩ := v1 z
            exact ⟨by rw [i1 _ _ (by omega)]; exact y1, y2.same (fun i => far _ i (by omega) (by omega)) (fun i => far _ i (by omega) (by omega)), y3.same (fun i => far _ i (by omega) (by omega)) (fun i => far _ i (by omega) (by omega))⟩
        · rw [i1 _ _ (by omega)]
          exact hrest d (by omega) h2
  have hst : gf_Equations_readSpeeds F gv_z u 22 B = gf_Equations_readSpeeds_L6 F gv_z F u1 22 B (Int32.ofNat 0) := by
    show gf_Equations_readSpeeds_b0 F gv_z u 22 B = _
    unfold gf_Equations_readSpeeds_b0
    rw [a1, Option.bind_some]
    rfl
  rw [hst]
  exact run n 0 F u1 (by omega) (by omega) f1 (fun d hd' => absurd hd' (Nat.not_lt_zero d)) (fun d hd' => absurd hd' (Nat.not_lt_zero d)) (fun d _ h2 => a2.2.2 d h2)
