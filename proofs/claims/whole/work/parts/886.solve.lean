theorem gv_r0_2 : gv_u.2.2 0 2 = 23 := by decide +kernel
/-- the numbers that the equations swap -/
def gv_Pc (u : gw_St) : Prop := ∃ pc, (pc = 41 ∨ pc = 43) ∧ u.2.2 22 11 = pc + 1 ∧ u.2.2 22 12 = 84 - pc + 1
theorem gv_Sp.same {u w : gw_St} {n B : Nat} (hn : n ≤ 60) (h : gv_Sp u n B) (h7 : w.2.2 0 7 = u.2.2 0 7) (h8 : w.2.2 0 8 = u.2.2 0 8) (e : ∀ p k, B ≤ p ∧ p ≤ B + 302 ∨ 681 ≤ p ∧ p ≤ 684 → w.1 p k = u.1 p k) : gv_Sp w n B := by
  obtain ⟨a1, a2, a3, a4, a5, a6, a7⟩ := h
  refine ⟨a1, h7.trans a2, h8.trans a3, fun g hg => by rw [e _ _ (Or.inl ⟨by omega, by omega⟩)]; exact a4 g hg, fun g h1 h2 => by rw [e _ _ (Or.inl ⟨by omega, by omega⟩)]; exact a5 g h1 h2, fun g hg => by rw [e (B + 1) g (Or.inl ⟨by omega, by omega⟩), e 681 g (Or.inr ⟨by omega, by omega⟩)]; exact a6 g hg, fun g hg hk => ?_⟩
  rw [e _ _ (Or.inl ⟨by omega, by omega⟩)] at hk
  obtain ⟨a, b, ⟨f1, f2⟩, b1, b2, b3, b4, b5, b6⟩ := a7 g hg hk
  have far : ∀ q, B + 3 + 5 * g ≤ q → q ≤ B + 3 + 5 * g + 4 → ∀ i, w.1 q i = u.1 q i := fun q h1 h2 i => e q i (Or.inl ⟨by omega, by omega⟩)
  refine ⟨a, b, ⟨f1.same (far _ (by omega) (by omega)) (far _ (by omega) (by omega)), f2.same (far _ (by omega) (by omega)) (far _ (by omega) (by omega))⟩, b1, b2, b3, by rw [e 682 g (Or.inr ⟨by omega, by omega⟩)]; exact b4, ?_, ?_⟩
  · unfold Iw
    rw [show w.1 683 = u.1 683 from funext fun k => e 683 k (Or.inr ⟨by omega, by omega⟩)]
    exact b5
  · unfold Iw
    rw [show w.1 684 = u.1 684 from funext fun k => e 684 k (Or.inr ⟨by omega, by omega⟩)]
    exact b6
/-- lowestGear -/
theorem eq_low {F : Nat} {u : gw_St} {n r l : Nat} (hr : gv_Rf u) (hw : gv_Wk u n r) (hl : l < r) : gf_Works_lowestGear F gv_z u 6 (Int32.ofNat l) = some (Int32.ofNat (lowR u l), u) := by
  have hn := hw.1
  obtain ⟨⟨k1, k2, k3⟩, ⟨a1, a2, a3⟩, ⟨b1, b2, b3⟩, hab, h3⟩ := wk_rel hw hl
  have hno : gk u l ≠ 3 → u.1 8 (4 * l + 3) = -1 := fun q => by
    obtain ⟨-, -, -, -, -, -, -, c8, -⟩ := hw
    exact (c8 l hl).2.2.2.2.2.2.2.2.2.2.2.2.1 (fun e => q (by rw [k2] at e; exact (gi_eq (b := 3) (by omega) (by omega)).mp e))
  show gf_Works_lowestGear_b0 F gv_z u 6 (Int32.ofNat l) = _
  unfold gf_Works_lowestGear_b0 gf_Works_lowestGear_b37
  rw [show gf_Works_part F gv_z u 6 (Int32.ofNat l) 1 = some (u.1 8 (4 * l + 1), u) from eq_part (k := 1) hr hw hl (by omega)]
  simp only [gf_cl, gf_nm]
  rw [show gf_Works_part F gv_z u 6 (Int32.ofNat l) 2 = some (u.1 8 (4 * l + 2), u) from eq_part (k := 2) hr hw hl (by omega)]
  simp only []
  rw [show gf_Works_part F gv_z u 6 (Int32.ofNat l) 3 = some (u.1 8 (4 * l + 3), u) from eq_part (k := 3) hr hw hl (by omega), a2, b2]
  simp only []
  have hmin : (if Int32.ofNat (gB u l) < Int32.ofNat (gA u l) then Int32.ofNat (gB u l) else Int32.ofNat (gA u l)) = Int32.ofNat (min (gA u l) (gB u l)) := by
    by_cases c : gB u l < gA u l
    · rw [if_pos ((gi_lt (by omega) (by omega)).mpr c), show min (gA u l) (gB u l) = gB u l by omega]
    · rw [if_neg (fun e => c ((gi_lt (by omega) (by omega)).mp e)), show min (gA u l) (gB u l) = gA u l by omega]
  rw [hmin]
  unfold lowR
  by_cases c3 : gk u l = 3
  · obtain ⟨d1, d2, d3, -, -⟩ := h3 c3
    rw [d2, if_neg (fun e => by have := congrArg Int32.toInt e; rw [i32_nat (by omega)] at this; have o : (-1 : Int32).toInt = -1 := rfl; omega)]
    by_cases c : gC u l < min (gA u l) (gB u l)
    · rw [if_pos ((gi_lt (by omega) (by omega)).mpr c), if_pos ⟨c3, c⟩]
    · rw [if_neg (fun e => c ((gi_lt (by omega) (by omega)).mp e)), if_neg (fun e => c e.2)]
  · rw [hno c3, if_pos rfl, if_neg (fun e => c3 e.1)]
/-- what solve may change -/
def Sf (u w : gw_St) : Prop := (∀ p k, ¬ (p = 22 ∧ (k = 11 ∨ k = 12)) → ¬ (p = 0 ∧ (k = 7 ∨ k = 8)) → w.2.2 p k = u.2.2 p k) ∧ (∀ p k, ¬ (692 ≤ p) → w.2.1 p k = u.2.1 p k) ∧ ∀ p k, ¬ (10 ≤ p ∧ p ≤ 44) → ¬ (64 ≤ p ∧ p ≤ 669) → ¬ (p = 670 ∧ (k = 0 ∨ k = 41)) → ¬ (681 ≤ p ∧ p ≤ 688) → ¬ (692 ≤ p) → w.1 p k = u.1 p k
theorem Sf.refl {u : gw_St} : Sf u u := ⟨fun _ _ _ _ => rfl, fun _ _ _ => rfl, fun _ _ _ _ _ _ _ => rfl⟩
theorem Sf.trans {u v w : gw_St} (h : Sf u v) (g : Sf v w) : Sf u w := ⟨fun p k q1 q2 => (g.1 p k q1 q2).trans (h.1 p k q1 q2), fun p k q => (g.2.1 p k q).trans (h.2.1 p k q), fun p k q1 q2 q3 q4 q5 => (g.2.2 p k q1 q2 q3 q4 q5).trans (h.2.2 p k q1 q2 q3 q4 q5)⟩
theorem Eg.sf {u w : gw_St} (h : Eg u w) : Sf u w := ⟨fun p k q _ => h.2.1 p k q, fun p k _ => by rw [h.1], fun p k q _ _ _ _ => h.2.2 p k q⟩
theorem Gf.sf {u w : gw_St} (h : Gf Kx Kz u w) : Sf u w := ⟨fun p k _ _ => by rw [h.1], fun p k q => h.2.1 p (by unfold Kx Kv Ks; omega) k, fun p k q1 q2 q3 q4 q5 => h.2.2 p k (by unfold Kz Ky Kw Kt Km Kr Ko Kt; omega)⟩
theorem wl_sf {u : gw_St} {x : Int64} : Sf u (gw_wl u 701 0 x) := ⟨fun _ _ _ _ => rfl, fun p k q => wl_ne (by omega), fun _ _ _ _ _ _ _ => rfl⟩
theorem Wp.sf {B : Nat} (hB : B = 64 ∨ B = 367) {u w : gw_St} (h : Wp (Ks2 B) u w) : Sf u w := ⟨fun p k _ _ => by rw [h.1], fun p k _ => by rw [h.1], fun p k q1 q2 q3 q4 q5 => h.2 p (by unfold Ks2; omega) k⟩
theorem gv_Rf.sf {u w : gw_St} (h : gv_Rf u) (f : Sf u w) : gv_Rf w := fun p k hf => by
  rw [f.1 p k (fun e => by
    obtain ⟨e1, e2⟩ := e
    subst e1
    rcases e2 with e2 | e2 <;> subst e2 <;> exact absurd hf (by decide)) (fun e => by
    obtain ⟨e1, e2⟩ := e
    subst e1
    rcases e2 with e2 | e2 <;> subst e2 <;> exact absurd hf (by decide))]
  exact h p k hf
theorem gv_Wk.sf {u w : gw_St} {n r : Nat} (h : gv_Wk u n r) (f : Sf u w) : gv_Wk w n r := h.same (fun p k ht => by
  simp only [gv_T_wk, Bool.or_eq_true, Bool.and_eq_true, beq_iff_eq] at ht
  exact f.2.2 p k (by omega) (by omega) (by omega) (by omega) (by omega))
theorem rv_sf {u w : gw_St} (f : Sf u w) : rv w = rv u := funext fun j => rv_eq (fun k => f.2.2 7 k (by omega) (by omega) (by omega) (by omega) (by omega)) (fun k => f.2.2 8 k (by omega) (by omega) (by omega) (by omega) (by omega))
theorem gv_Pr.sf {u w : gw_St} (h : gv_Pr u) (f : Sf u w) : gv_Pr w := fun k hk => by rw [f.2.2 691 k (by omega) (by omega) (by omega) (by omega) (by omega)]; exact h k hk
theorem Cl.ofrv {u w : gw_St} {n cr i : Nat} (h : Cl u n cr i) (e : rv w = rv u) : Cl w n cr i := by unfold Cl; rw [e]; exact h
theorem Ch.ofrv {u w : gw_St} {n cr i : Nat} (h : Ch u n cr i) (e : rv w = rv u) : Ch w n cr i := by unfold Ch; rw [e]; exact h
theorem lowR_sf {u w : gw_St} {l : Nat} (f : Sf u w) : lowR w l = lowR u l := by
  unfold lowR gk gA gB gC
  rw [show w.1 8 = u.1 8 from funext fun k => f.2.2 8 k (by omega) (by omega) (by omega) (by omega) (by omega)]
theorem sgn_sign {x : Int} : (sgn x).toInt = x.sign := by
  unfold sgn
  by_cases c : x = 0
  · rw [if_pos c, c]; rfl
  · rw [if_neg c]
    by_cases d : 0 < x
    · rw [if_pos d, Int.sign_eq_one_of_pos d]; rfl
    · rw [if_neg d, Int.sign_eq_neg_one_of_neg (by omega)]; rfl
theorem gs_solve {F : Nat} (hF : 20000 ≤ F) {u : gw_St} {n r B : Nat} (hr : gv_Rf u) (hw : gv_Wk u n r) (hs : gv_Sp u n B) (hpr : gv_Pr u) (hpc : gv_Pc u) : ∃ k a u1 u2, gf_Law_solve F gv_z u 0 701 = some (k, u1) ∧ gf_Model_solve F gv_z u1 670 = some (a, u2) ∧ u2.1 670 0 = k ∧ (k = 0 → lg_cmp (u2.2.1 701 0) a.toInt64 = 0) ∧ Sf u u2 ∧ gv_Pc u2 ∧ ∃ B', gv_Sp u2 n B' := by
  have hn := hw.1
  have hr120 := hw.2.1
  obtain ⟨pc, hpc, hp11, hp12⟩ := hpc
  have hB := hs.1
  have hcr : u.1 670 20 = u.1 6 4 ∧ -1 ≤ (u.1 6 4).toInt ∧ (u.1 6 4).toInt < n := hw.2.2.2.2.2.2.2.2
  have hbeg : gf_Desk_solve F gv_z u 0 = if u.1 6 4 = (-1 : Int32) then (some (.inr 2, u)) else gf_cl (gf_Equations_takeAll F gv_z u 22 6) fun a10 u8 => if a10 = (-1 : Int32) then (gf_nn (u8.2.2 0 2) fun q12 => gf_nn (u8.2.2 0 8) fun q14 => gf_cl (gf_Equations_readSpeeds F gv_z u8 q12 q14) fun a18 u16 => if a18 = 0 then (some (.inr 4, u16)) else (gf_nn (u16.2.2 0 8) fun q20 => gf_nn (u16.2.2 0 7) fun q22 => gf_nm (gw_wr u16 0 8 (q22 + 1)) fun u24 => gf_nm (gw_wr u24 0 7 (q20 + 1)) fun u26 => some (.inl (-1 : Int32), u26))) else (gf_nn (u8.2.2 0 1) fun q28 => gf_cl (gf_Works_lowestGear F gv_z u8 q28 a10) fun a32 u30 => some (.inl a32, u30)) := by
    show gf_Desk_solve_b0 F gv_z u 0 = _
    unfold gf_Desk_solve_b0
    rw [hr.get rfl gv_r0_1, gnn, hr.get rfl gv_r0_2, gnn, gnn]
  by_cases c0 : u.1 6 4 = -1
  · refine ⟨1, 0, u, _, lw_solve_2 (by rw [hbeg, if_pos c0]), gm_solve0 (by rw [hcr.1, c0]; decide), rfl, fun e => absurd e (by decide), ⟨fun _ _ _ _ => rfl, fun _ _ _ => rfl, fun p k q1 q2 q3 q4 q5 => by rw [wi_ne (by omega), wi_ne (by omega)]⟩, ⟨pc, hpc, hp11, hp12⟩, B, hs.same hn rfl rfl (fun p k q => by rw [wi_ne (by omega), wi_ne (by omega)])⟩
  · have hc0 : 0 ≤ (u.1 6 4).toInt := by
      have : (u.1 6 4).toInt ≠ -1 := fun e => c0 (Int32.toInt_inj.mp e)
      omega
    obtain ⟨cr, hcre⟩ : ∃ cr : Nat, (u.1 6 4).toInt = (cr : Int) := ⟨(u.1 6 4).toInt.toNat, by omega⟩
    have hcrn : cr < n := by omega
    have hc6 : u.1 6 4 = Int32.ofNat cr := Int32.toInt_inj.mp (by rw [hcre, i32_nat (by omega)])
    obtain ⟨w, A, s, k, pc', hg, hE, hd⟩ := eq_takeAll (F := F) (by omega) hr hw hcrn hc6 hpc hp11 hp12
    have rw' := hr.eg hg
    have fw := hg.sf
    have hpcw : gv_Pc w := ⟨pc', hE.1, hE.2.1, hE.2.2.1⟩
    have h78 : w.2.2 0 7 = u.2.2 0 7 ∧ w.2.2 0 8 = u.2.2 0 8 := ⟨hg.2.1 0 7 (by omega), hg.2.1 0 8 (by omega)⟩
    have hsw : gv_Sp w n B := hs.same hn h78.1 h78.2 (fun p k q => hg.2.2 p k (by omega))
    rw [if_neg c0] at hbeg
    rcases hd with ⟨l, hl, t1, t2, t3⟩ | ⟨t1, t2, t3, t4⟩
    · -- a clash
      rw [t1] at hbeg
      simp only [gf_cl] at hbeg
      rw [if_neg (fun e => by have := congrArg Int32.toInt e; rw [i32_nat (by omega)] at this; have o : (-1 : Int32).toInt = -1 := rfl; omega), rw'.get rfl gv_r0_1, gnn, eq_low (F := F) rw' (hw.eg hg) hl] at hbeg
      have g1 : Sf u (gw_wl w 701 0 (Int32.ofNat (lowR w l)).toInt64) := fw.trans wl_sf
      have e1 := rv_sf g1
      obtain ⟨w2, m1, m2, m3, m4⟩ := gm_solve (F := F) hF (u := gw_wl w 701 0 (Int32.ofNat (lowR w l)).toInt64) (hr.sf g1) (hw.sf g1) (hpr.sf g1) (by rw [g1.2.2 670 20 (by omega) (by omega) (by omega) (by omega) (by omega), hcr.1]; exact hc6) hcrn l hl (fun i hi => (t2 i hi).ofrv e1) (t3.ofrv e1)
      refine ⟨0, _, _, w2, lw_solve_v hbeg gv_zo, m1, m3, fun _ => ?_, g1.trans m2.sf, ?_, B, ?_⟩
      · rw [m2.2.1 701 (by unfold Kx Kv Ks; omega), wl_same, lowR_sf g1, lowR_sf fw]
        exact lgc_zero.mpr rfl
      · obtain ⟨p, p1, p2, p3⟩ := hpcw
        exact ⟨p, p1, by rw [m2.1]; exact p2, by rw [m2.1]; exact p3⟩
      · refine hsw.same hn (by rw [m2.1]; rfl) (by rw [m2.1]; rfl) (fun p k q => ?_)
        by_cases c : p ≤ 670
        · rw [m2.2.2 p k (by unfold Kz Ky Kw Kt Km Kr Ko Kt; omega)]; rfl
        · rw [m4 p k (by omega) (by omega)]; rfl
    · -- the speeds
      rw [t1] at hbeg
      simp only [gf_cl] at hbeg
      have hb : ∀ j, j < r → Bd n (rv u j) := fun j hj => bd_rv hw hj
      have hB2 : 431 - B = 64 ∨ 431 - B = 367 := by omega
      rw [if_pos trivial, rw'.get rfl gv_r0_2, gnn, h78.2, hs.2.2.1, show 432 - B = 431 - B + 1 by omega, gnn] at hbeg
      obtain ⟨hd, hhd⟩ : ∃ hd : Nat → Bool, ∀ g, g < n → (hd g = true ↔ dtm A s k n cr g) := by
        classical
        exact ⟨fun g => decide (dtm A s k n cr g), fun g _ => by simp⟩
      obtain ⟨w1, a1, a2⟩ := eq_reads (F := F) hF rw' hn hcrn hE t3 t4 hb hB2 hhd
      have r1 := rw'.wp a1
      have f1 : Sf u w1 := fw.trans (a1.sf hB2)
      have hD0 : eD A s k ≠ 0 := t3.1.1
      have hXY : ∀ g, g < n → hd g = true → 0 < Yg A s k cr g ∧ Yg A s k cr g < (2 ^ 660 : Nat) ∧ -((2 ^ 660 : Nat) : Int) < Xg A s k cr g ∧ Xg A s k cr g < (2 ^ 660 : Nat) ∧ Int.gcd (Xg A s k cr g) (Yg A s k cr g) = 1 ∧ ∃ h : Int, h ≠ 0 ∧ Om A s k cr g = Xg A s k cr g * h ∧ eD A s k = Yg A s k cr g * h := fun g hg hdg => by
        obtain ⟨x1, x2, x3, x4, x5⟩ := xy_red (O := Om A s k cr g) hD0
        have bX : (Xg A s k cr g).natAbs < 2 ^ 660 := Nat.lt_of_le_of_lt x3 (om_bd t3 t4 hb hn hcrn ((hhd g hg).mp hdg))
        have bY : (Yg A s k cr g).natAbs < 2 ^ 660 := Nat.lt_of_le_of_lt x2 (t3.bd hb hn)
        generalize 2 ^ 660 = P at bX bY
        exact ⟨x1, by omega, by omega, by omega, x4, x5⟩
      obtain ⟨hSd, E, hE1, hE2⟩ := el_Sd hw hcrn t3 t4 hhd hXY
      have hk : k + 1 ≤ n := el_lt t3 hcrn t4
      have mk : ∀ v, Sf u v → ∃ w, Gf Kx Kz v w ∧ (((∃ g, g < n ∧ bigS hd (Xg A s k cr) (Yg A s k cr) g) ∧ gf_Model_solve F gv_z v 670 = some (0, w) ∧ w.1 670 0 = 2 ∧ ∀ p k, 681 ≤ p → p ≤ 684 → w.1 p k = v.1 p k) ∨ ((∀ g, g < n → ¬ bigS hd (Xg A s k cr) (Yg A s k cr) g) ∧ gf_Model_solve F gv_z v 670 = some (-1, w) ∧ w.1 670 0 = 0 ∧ ∀ g, g < n → Vt w hd (Xg A s k cr) (Yg A s k cr) g)) := fun v fv => by
        have e1 := rv_sf fv
        have hcR : cR v cr = cR u cr := by unfold cR; rw [e1]
        refine gm_solve1 (F := F) hF (u := v) (full := k + 1) (hr.sf fv) (hw.sf fv) (hpr.sf fv) (by rw [fv.2.2 670 20 (by omega) (by omega) (by omega) (by omega) (by omega), hcr.1]; exact hc6) hcrn (fun i hi => (t2 i hi).ofrv e1) (by omega) (fun h0 => ?_) (fun _ => ⟨E, by rw [e1]; exact hE1, hE2⟩) (by rw [hcR]; exact hSd)
        -- no relation: no row
        have : k = 0 := by
          apply Classical.byContradiction
          intro q
          obtain ⟨i, hi, -⟩ := t3.2.2.2.1 0 (by omega)
          omega
        omega
      rcases a2 with ⟨hbig, b1⟩ | ⟨hnb, b1, b2, b3⟩
      · -- too large
        rw [b1] at hbeg
        simp only [] at hbeg
        rw [if_pos trivial] at hbeg
        obtain ⟨w2, m1, m2⟩ := mk w1 f1
        rcases m2 with ⟨-, m3, m4, m5⟩ | ⟨m3, -⟩
        · refine ⟨2, 0, w1, w2, lw_solve_4 hbeg, m3, m4, fun e => absurd e (by decide), f1.trans m1.sf, ?_, B, ?_⟩
          · obtain ⟨p, p1, p2, p3⟩ := hpcw
            exact ⟨p, p1, by rw [m1.1, a1.1]; exact p2, by rw [m1.1, a1.1]; exact p3⟩
          · refine hsw.same hn (by rw [m1.1, a1.1]) (by rw [m1.1, a1.1]) (fun p k q => ?_)
            by_cases c : p ≤ 670
            · rw [m1.2.2 p k (by unfold Kz Ky Kw Kt Km Kr Ko Kt; omega), a1.2 p (by unfold Ks2; omega)]
            · rw [m5 p k (by omega) (by omega), a1.2 p (by unfold Ks2; omega)]
        · obtain ⟨g, hg, hgb⟩ := hbig
          exact absurd hgb (m3 g hg)
      · rw [b1] at hbeg
        simp only [] at hbeg
        have e78 : w1.2.2 0 8 = 431 - B + 1 ∧ w1.2.2 0 7 = B + 1 := ⟨by rw [a1.1, h78.2, hs.2.2.1]; omega, by rw [a1.1, h78.1]; exact hs.2.1⟩
        rw [if_neg (by decide), e78.1, gnn, e78.2, gnn] at hbeg
        simp only [gf_nm] at hbeg
        generalize hw2 : gw_wr (gw_wr w1 0 8 (B + 1)) 0 7 (431 - B + 1) = w2 at hbeg
        have gr : ∀ p i, w2.2.2 p i = if p = 0 ∧ i = 7 then 431 - B + 1 else if p = 0 ∧ i = 8 then B + 1 else w1.2.2 p i := fun p i => by rw [← hw2]; rfl
        have gi : w2.1 = w1.1 := by rw [← hw2]; rfl
        have f2 : Sf w1 w2 := ⟨fun p i q1 q2 => by rw [gr, if_neg (by omega), if_neg (by omega)], fun p i _ => by rw [← hw2]; rfl, fun p i _ _ _ _ _ => by rw [gi]⟩
        have f3 : Sf u (gw_wl w2 701 0 (-1 : Int32).toInt64) := f1.trans (f2.trans wl_sf)
        obtain ⟨w3, m1, m2⟩ := mk _ f3
        rcases m2 with ⟨⟨g, hg, hgb⟩, -⟩ | ⟨-, m3, m4, m5⟩
        · exact absurd hgb (hnb g hg)
        · refine ⟨0, _, _, w3, lw_solve_v hbeg gv_zo, m3, m4, fun _ => ?_, f3.trans m1.sf, ?_, 431 - B, hB2, ?_, ?_, fun g hg => ?_, fun g h1 h2 => ?_, fun g hg => ?_, fun g hg hk1 => ?_⟩
          · rw [m1.2.1 701 (by unfold Kx Kv Ks; omega), wl_same]
            exact lgc_zero.mpr rfl
          · obtain ⟨p, p1, p2, p3⟩ := hpcw
            refine ⟨p, p1, ?_, ?_⟩
            · rw [m1.1]; show w2.2.2 22 11 = _; rw [gr, if_neg (by omega), if_neg (by omega), a1.1]; exact p2
            · rw [m1.1]; show w2.2.2 22 12 = _; rw [gr, if_neg (by omega), if_neg (by omega), a1.1]; exact p3
          · rw [m1.1]; show w2.2.2 0 7 = _; rw [gr, if_pos ⟨rfl, rfl⟩]
          · rw [m1.1]; show w2.2.2 0 8 = _; rw [gr, if_neg (by omega), if_pos ⟨rfl, rfl⟩]; omega
          · have e1 : w3.1 (431 - B + 1) g = w1.1 (431 - B + 1) g := by rw [m1.2.2 _ _ (by unfold Kz Ky Kw Kt Km Kr Ko Kt; omega)]; show w2.1 _ _ = _; rw [gi]
            rw [e1]
            by_cases c : g < n
            · cases h : hd g with
              | true => exact Or.inr ((b2 g c).1 h).1
              | false => exact Or.inl ((b2 g c).2 h)
            · exact Or.inl (b3 g (by omega) hg)
          · have e1 : w3.1 (431 - B + 1) g = w1.1 (431 - B + 1) g := by rw [m1.2.2 _ _ (by unfold Kz Ky Kw Kt Km Kr Ko Kt; omega)]; show w2.1 _ _ = _; rw [gi]
            rw [e1]
            exact b3 g h1 h2
          · have e1 : w3.1 (431 - B + 1) g = w1.1 (431 - B + 1) g := by rw [m1.2.2 _ _ (by unfold Kz Ky Kw Kt Km Kr Ko Kt; omega)]; show w2.1 _ _ = _; rw [gi]
            rw [e1]
            cases h : hd g with
            | true => rw [((b2 g hg).1 h).1, ((m5 g hg).1 h).1]
            | false => rw [(b2 g hg).2 h, (m5 g hg).2 h]
          · have e1 : ∀ p i, 431 - B ≤ p → p ≤ 431 - B + 302 → w3.1 p i = w1.1 p i := fun p i h1 h2 => by rw [m1.2.2 _ _ (by unfold Kz Ky Kw Kt Km Kr Ko Kt; omega)]; show w2.1 _ _ = _; rw [gi]
            rw [e1 _ _ (by omega) (by omega)] at hk1
            have hdg : hd g = true := by
              cases h : hd g with
              | true => rfl
              | false => rw [(b2 g hg).2 h] at hk1; exact absurd hk1 (by decide)
            obtain ⟨y1, y2, y3⟩ := (b2 g hg).1 hdg
            obtain ⟨v1, v2, v3, v4⟩ := (m5 g hg).1 hdg
            have nb := hnb g hg
            refine ⟨Xg A s k cr g, Yg A s k cr g, ⟨y2.same (fun i => e1 _ i (by omega) (by omega)) (fun i => e1 _ i (by omega) (by omega)), y3.same (fun i => e1 _ i (by omega) (by omega)) (fun i => e1 _ i (by omega) (by omega))⟩, (hXY g hg hdg).1, Nat.lt_of_not_le (fun q => nb ⟨hdg, Or.inl q⟩), Nat.lt_of_not_le (fun q => nb ⟨hdg, Or.inr q⟩), ?_, v3, v4⟩
            rw [v2, sgn_sign]
