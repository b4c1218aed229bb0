theorem cE_le (d : Nat → Nat) (x : Nat) : ∀ n, cE d x n ≤ n := by
  intro n
  induction n with
  | zero => exact Nat.le_refl _
  | succ n ih =>
    show cE d x n + (if d n = x then 1 else 0) ≤ n + 1
    split <;> omega
/-- sortByDigit -/
theorem tr_pass {F : Nat} (hF : 50000 ≤ F) {u : gw_St} {S lo hi T q0 k : Nat} {a : Nat → Nat} (hr : gv_Rf u) (hk : Tk u S lo hi T q0) (hk64 : k < 64) (ha : ∀ j, j < T → u.2.1 q0 j = Int64.ofNat (a j) ∧ a j < 2 ^ 56) : ∃ (w : gw_St) (b : Nat → Nat), gf_Trains_sortByDigit F gv_z u 1 (Int32.ofNat k) = some w ∧ gv_Rf w ∧ Tk w S lo hi T (5 - q0) ∧ (∀ p j, ¬ (p = 1 ∧ (j = 0 ∨ j = 1)) → w.2.2 p j = u.2.2 p j) ∧ (∀ p j, p ≠ 4 → w.1 p j = u.1 p j) ∧ (∀ p j, p ≠ 2 → p ≠ 3 → w.2.1 p j = u.2.1 p j) ∧ (∀ j, j < T → w.2.1 (5 - q0) j = Int64.ofNat (b j) ∧ b j < 2 ^ 56) ∧ ∀ i, i < T → b (ps2 (fun i => a i / 2 ^ k % 2048) T i) = a i := by
  obtain ⟨hp, -, h6, h7, h8, h9, hq, h10, h11⟩ := id hk
  obtain ⟨n1, n2, n3⟩ := hk.num
  obtain ⟨l1, l2⟩ := hk.len
  generalize hd : (fun i => a i / 2 ^ k % 2048) = d
  have hdi : ∀ i, a i / 2 ^ k % 2048 = d i := fun i => by rw [← hd]
  have hd2 : ∀ i, d i < 2048 := fun i => by rw [← hd]; exact Nat.mod_lt _ (by decide)
  have hdig : ∀ (w : gw_St) j, j < T → w.2.1 q0 j = u.2.1 q0 j → gf_Trains_digit F gv_z w (w.2.1 q0 j) (Int32.ofNat k) = some (Int32.ofNat (d j), w) := fun w j hj e => by
    rw [e, (ha j hj).1, tr_digit hk64 (ha j hj).2, hdi]
  -- a state of the loops: tally changed, and the spare array
  have mkR : ∀ w : gw_St, w.2.2 = u.2.2 → gv_Rf w := fun w e => hr.eq e
  -- third loop
  have three : ∀ w0 : gw_St, w0.2 = u.2 → (∀ p j, p ≠ 4 → w0.1 p j = u.1 p j) → (∀ x, x < 2048 → w0.1 4 x = Int32.ofNat (cLs d x T)) → ∃ w, gf_Trains_sortByDigit_L84 F gv_z F w0 1 (Int32.ofNat k) (Int32.ofNat 0) = some w ∧ (∀ p j, w.2.2 p j = if p = 1 ∧ j = 0 then 5 - q0 + 1 else if p = 1 ∧ j = 1 then q0 + 1 else u.2.2 p j) ∧ (∀ p j, p ≠ 4 → w.1 p j = u.1 p j) ∧ (∀ p j, p ≠ 5 - q0 → w.2.1 p j = u.2.1 p j) ∧ ∀ i, i < T → w.2.1 (5 - q0) (ps2 d T i) = Int64.ofNat (a i) := by
    intro w0 e0 e1 e2
    have main := gl_up (σ := gw_St) (N := T) (L := fun f w i => gf_Trains_sortByDigit_L84 F gv_z f w 1 (Int32.ofNat k) (Int32.ofNat i)) (I := fun i w => w.2.2 = u.2.2 ∧ (∀ p j, p ≠ 4 → w.1 p j = u.1 p j) ∧ (∀ p j, p ≠ 5 - q0 → w.2.1 p j = u.2.1 p j) ∧ (∀ x, x < 2048 → w.1 4 x = Int32.ofNat (cLs d x T + cE d x i)) ∧ ∀ j, j < i → w.2.1 (5 - q0) (ps2 d T j) = Int64.ofNat (a j)) (R := fun x => ∃ w, x = some w ∧ (∀ p j, w.2.2 p j = if p = 1 ∧ j = 0 then 5 - q0 + 1 else if p = 1 ∧ j = 1 then q0 + 1 else u.2.2 p j) ∧ (∀ p j, p ≠ 4 → w.1 p j = u.1 p j) ∧ (∀ p j, p ≠ 5 - q0 → w.2.1 p j = u.2.1 p j) ∧ ∀ i, i < T → w.2.1 (5 - q0) (ps2 d T i) = Int64.ofNat (a i))
      (fun f w i hI hi' => by
        obtain ⟨i1, i2, i3, i4, i5⟩ := hI
        have rw' := mkR w i1
        have hpos : cLs d (d i) T + cE d (d i) i = ps2 d T i := rfl
        have hplt := ps2_lt (d := d) hi'
        have hxi := i3 q0 i (by omega)
        generalize hw1 : gw_wl w (5 - q0) (ps2 d T i) (Int64.ofNat (a i)) = w1
        have r1 : gv_Rf w1 := by rw [← hw1]; exact rw'.eq rfl
        have w1i : w1.1 = w.1 := by rw [← hw1]; rfl
        have t1 := i4 (d i) (hd2 i)
        rw [hpos] at t1
        have hdd := hd2 i
        refine ⟨gw_wi w1 4 (d i) (Int32.ofNat (ps2 d T i + 1)), ⟨by rw [← hw1]; exact i1, fun p j q => by rw [wi_ne (fun e => q e.1), w1i]; exact i2 p j q, fun p j q => by rw [← hw1]; show (gw_wl w (5 - q0) _ _).2.1 p j = _; rw [wl_ne (fun e => q e.1)]; exact i3 p j q, fun x hx => ?_, fun j hj => ?_⟩, ?_⟩
        · by_cases e : x = d i
          · rw [e, wi_same]
            show _ = Int32.ofNat (cLs d (d i) T + (cE d (d i) i + (if d i = d i then 1 else 0)))
            rw [if_pos rfl]
            rfl
          · rw [wi_ne (fun q => e q.2), w1i, i4 x hx]
            show _ = Int32.ofNat (cLs d x T + (cE d x i + (if d i = x then 1 else 0)))
            rw [if_neg (fun q => e q.symm)]
            rfl
        · show w1.2.1 (5 - q0) (ps2 d T j) = _
          rw [← hw1]
          by_cases e : j = i
          · rw [e, wl_same]
          · rw [wl_ne (fun q => e (ps2_inj (by omega) hi' q.2))]
            exact i5 j (by omega)
        · show gf_Trains_sortByDigit_S84 F gv_z _ w 1 (Int32.ofNat k) (Int32.ofNat i) = _
          unfold gf_Trains_sortByDigit_S84
          rw [i2 1 9 (by omega), h9, if_neg (fun e => by have := (gi_le (by omega) (by omega)).mp e; omega), i1, h10, gnn, if_neg (gi_ix (by rw [l1]; omega) (by omega)), i32_clamp (by omega), hdig w i hi' hxi]
          simp only [gf_cl]
          rw [i1, h11, gnn, rw'.get rfl gv_r1_2 |> fun h => (by rw [i1] at h; exact h : u.2.2 1 2 = 5), gnn, if_neg (gi_ix (by rw [gv_l4]; omega) (by omega)), h10, gnn, if_neg (gi_ic (by rw [l1]; omega) (by omega)), i32_clamp (n := d i) (by omega), t1, if_neg (gi_ix (by rw [l2]; omega) (by omega)), i32_clamp (n := ps2 d T i) (by omega), hxi, (ha i hi').1]
          simp only [gf_nm]
          rw [hw1, r1.get rfl gv_r1_2, gnn, if_neg (gi_ic (by rw [gv_l4]; omega) (by omega)), if_neg (gi_ic (by rw [gv_l4]; omega) (by omega)), w1i, t1, gw_iS, gw_iS])
      (fun f w hI => by
        obtain ⟨i1, i2, i3, i4, i5⟩ := hI
        refine ⟨gw_wr (gw_wr w 1 1 (q0 + 1)) 1 0 (5 - q0 + 1), ?_, fun p j => ?_, fun p j q => i2 p j q, fun p j q => i3 p j q, i5⟩
        · show gf_Trains_sortByDigit_S84 F gv_z _ w 1 (Int32.ofNat k) (Int32.ofNat T) = _
          unfold gf_Trains_sortByDigit_S84
          rw [i2 1 9 (by omega), h9, if_pos ((gi_le (by omega) (by omega)).mpr (Nat.le_refl _)), i1, h11, gnn, h10, gnn]
          rfl
        · show (if p = 1 ∧ j = 0 then 5 - q0 + 1 else if p = 1 ∧ j = 1 then q0 + 1 else w.2.2 p j) = _
          rw [i1])
    exact main T 0 w0 F (by omega) ⟨by rw [e0], e1, fun p j _ => by rw [e0], fun x hx => by rw [e2 x hx]; rfl, fun j hj => absurd hj (Nat.not_lt_zero j)⟩ (by omega)
  -- second loop
  have two : ∀ w0 : gw_St, w0.2 = u.2 → (∀ p j, p ≠ 4 → w0.1 p j = u.1 p j) → (∀ x, x < 2048 → w0.1 4 x = Int32.ofNat (cE d x T)) → ∃ w, gf_Trains_sortByDigit_L47 F gv_z F w0 1 (Int32.ofNat k) (Int32.ofNat 0) (Int32.ofNat 0) = some w ∧ (∀ p j, w.2.2 p j = if p = 1 ∧ j = 0 then 5 - q0 + 1 else if p = 1 ∧ j = 1 then q0 + 1 else u.2.2 p j) ∧ (∀ p j, p ≠ 4 → w.1 p j = u.1 p j) ∧ (∀ p j, p ≠ 5 - q0 → w.2.1 p j = u.2.1 p j) ∧ ∀ i, i < T → w.2.1 (5 - q0) (ps2 d T i) = Int64.ofNat (a i) := by
    intro w0 e0 e1 e2
    have main := gl_up (σ := gw_St) (N := 2048) (L := fun f w x => gf_Trains_sortByDigit_L47 F gv_z f w 1 (Int32.ofNat k) (Int32.ofNat (cLs d x T)) (Int32.ofNat x)) (I := fun x w => w.2 = u.2 ∧ (∀ p j, p ≠ 4 → w.1 p j = u.1 p j) ∧ (∀ y, y < x → w.1 4 y = Int32.ofNat (cLs d y T)) ∧ ∀ y, x ≤ y → y < 2048 → w.1 4 y = Int32.ofNat (cE d y T)) (R := fun x => ∃ w, x = some w ∧ (∀ p j, w.2.2 p j = if p = 1 ∧ j = 0 then 5 - q0 + 1 else if p = 1 ∧ j = 1 then q0 + 1 else u.2.2 p j) ∧ (∀ p j, p ≠ 4 → w.1 p j = u.1 p j) ∧ (∀ p j, p ≠ 5 - q0 → w.2.1 p j = u.2.1 p j) ∧ ∀ i, i < T → w.2.1 (5 - q0) (ps2 d T i) = Int64.ofNat (a i))
      (fun f w x hI hx => by
        obtain ⟨i1, i2, i3, i4⟩ := hI
        have rw' := mkR w (by rw [i1])
        refine ⟨gw_wi w 4 x (Int32.ofNat (cLs d x T)), ⟨i1, fun p j q => by rw [wi_ne (fun e => q e.1)]; exact i2 p j q, fun y hy => ?_, fun y h1 h2 => by rw [wi_ne (by omega)]; exact i4 y (by omega) h2⟩, ?_⟩
        · by_cases e : y = x
          · rw [e, wi_same]
          · rw [wi_ne (fun q => e q.2)]; exact i3 y (by omega)
        · show gf_Trains_sortByDigit_S47 F gv_z _ w 1 (Int32.ofNat k) (Int32.ofNat (cLs d x T)) (Int32.ofNat x) = _
          unfold gf_Trains_sortByDigit_S47
          rw [rw'.get rfl gv_r1_2, gnn, gv_l4, if_neg (fun e => by have := (gi_le (by omega) (by omega)).mp e; omega), gnn, if_neg (gi_ix (by rw [gv_l4]; omega) (by omega)), i32_clamp (by omega), i4 x (Nat.le_refl _) hx]
          simp only [gf_nm]
          rw [gnn, if_neg (gi_ic (by rw [gv_l4]; omega) (by omega)), gi_add, gw_iS, cLs_S])
      (fun f w hI => by
        obtain ⟨i1, i2, i3, i4⟩ := hI
        have rw' := mkR w (by rw [i1])
        have hfin := three w i1 i2 i3
        show ∃ v, gf_Trains_sortByDigit_S47 F gv_z _ w 1 (Int32.ofNat k) (Int32.ofNat (cLs d 2048 T)) (Int32.ofNat 2048) = some v ∧ _
        unfold gf_Trains_sortByDigit_S47
        rw [rw'.get rfl gv_r1_2, gnn, gv_l4, if_pos ((gi_le (by omega) (by omega)).mpr (Nat.le_refl _))]
        exact hfin)
    have := main 2048 0 w0 F (by omega) ⟨e0, e1, fun y hy => absurd hy (Nat.not_lt_zero y), fun y _ h => e2 y h⟩ (by omega)
    rw [cLs_0] at this
    exact this
  -- first loop
  obtain ⟨u0, f1, f2⟩ := tr_fill (F := F) (by omega) (u := u) (x := 0) gv_l4 (by omega)
  have one := gl_up (σ := gw_St) (N := T) (L := fun f w i => gf_Trains_sortByDigit_L10 F gv_z f w 1 (Int32.ofNat k) (Int32.ofNat i)) (I := fun i w => w.2 = u.2 ∧ (∀ p j, p ≠ 4 → w.1 p j = u.1 p j) ∧ ∀ x, x < 2048 → w.1 4 x = Int32.ofNat (cE d x i)) (R := fun x => ∃ w, x = some w ∧ (∀ p j, w.2.2 p j = if p = 1 ∧ j = 0 then 5 - q0 + 1 else if p = 1 ∧ j = 1 then q0 + 1 else u.2.2 p j) ∧ (∀ p j, p ≠ 4 → w.1 p j = u.1 p j) ∧ (∀ p j, p ≠ 5 - q0 → w.2.1 p j = u.2.1 p j) ∧ ∀ i, i < T → w.2.1 (5 - q0) (ps2 d T i) = Int64.ofNat (a i))
    (fun f w i hI hi' => by
      obtain ⟨i1, i2, i3⟩ := hI
      have rw' := mkR w (by rw [i1])
      have hdd := hd2 i
      refine ⟨gw_wi w 4 (d i) (Int32.ofNat (cE d (d i) i + 1)), ⟨i1, fun p j q => by rw [wi_ne (fun e => q e.1)]; exact i2 p j q, fun x hx => ?_⟩, ?_⟩
      · by_cases e : x = d i
        · rw [e, wi_same]
          show _ = Int32.ofNat (cE d (d i) i + (if d i = d i then 1 else 0))
          rw [if_pos rfl]
        · rw [wi_ne (fun q => e q.2), i3 x hx]
          show _ = Int32.ofNat (cE d x i + (if d i = x then 1 else 0))
          rw [if_neg (fun q => e q.symm)]
          rfl
      · show gf_Trains_sortByDigit_S10 F gv_z _ w 1 (Int32.ofNat k) (Int32.ofNat i) = _
        unfold gf_Trains_sortByDigit_S10
        rw [i2 1 9 (by omega), h9, if_neg (fun e => by have := (gi_le (by omega) (by omega)).mp e; omega), rw'.get rfl gv_r1_2, gnn, show w.2.2 1 0 = q0 + 1 from by rw [i1]; exact h10, gnn, if_neg (gi_ix (by rw [l1]; omega) (by omega)), i32_clamp (by omega), hdig w i hi' (by rw [i1])]
        simp only [gf_cl]
        rw [if_neg (gi_ix (by rw [gv_l4]; omega) (by omega)), if_neg (gi_ix (by rw [gv_l4]; omega) (by omega)), i32_clamp (n := d i) (by omega), i3 (d i) hdd]
        simp only [gf_nm]
        rw [gw_iS, gw_iS])
    (fun f w hI => by
      obtain ⟨i1, i2, i3⟩ := hI
      have hfin := two w i1 i2 i3
      show ∃ v, gf_Trains_sortByDigit_S10 F gv_z _ w 1 (Int32.ofNat k) (Int32.ofNat T) = some v ∧ _
      unfold gf_Trains_sortByDigit_S10
      rw [i2 1 9 (by omega), h9, if_pos ((gi_le (by omega) (by omega)).mpr (Nat.le_refl _))]
      exact hfin)
  obtain ⟨w, c1, c2, c3, c4, c5⟩ := one T 0 u0 F (by omega) ⟨f2.1, fun p j q => f2.2.1 p j (fun e => q e.1), fun x hx => by rw [f2.2.2 x hx]; rfl⟩ (by omega)
  have hval : ∀ p, p < T → ∃ i, i < T ∧ ps2 d T i = p ∧ w.2.1 (5 - q0) p = Int64.ofNat (a i) := fun p hp => by
    obtain ⟨i, hi, e⟩ := ps2_on (d := d) p hp
    exact ⟨i, hi, e, by rw [← e]; exact c5 i hi⟩
  have hb : ∀ i, i < T → (w.2.1 (5 - q0) (ps2 d T i)).toInt.toNat = a i := fun i hi => by
    rw [c5 i hi, i64_nat (by have := (ha i hi).2; omega)]
    rfl
  refine ⟨w, fun p => (w.2.1 (5 - q0) p).toInt.toNat, ?_, ?_, ?_, fun p j q => by rw [c2, if_neg (by omega), if_neg (by omega)], c3, fun p j q1 q2 => c4 p j (by omega), fun p hp => ?_, hb⟩
  · show gf_Trains_sortByDigit_b0 F gv_z u 1 (Int32.ofNat k) = _
    unfold gf_Trains_sortByDigit_b0
    rw [hr.get rfl gv_r1_2, gnn, f1, Option.bind_some]
    exact c1
  · intro p j hf
    rw [c2, if_neg (fun e => by obtain ⟨e1, e2⟩ := e; subst e1; subst e2; exact absurd hf (by decide)), if_neg (fun e => by obtain ⟨e1, e2⟩ := e; subst e1; subst e2; exact absurd hf (by decide))]
    exact hr p j hf
  · refine ⟨hp, hk.2.1, by rw [c3 1 6 (by omega)]; exact h6, by rw [c3 1 7 (by omega)]; exact h7, by rw [c3 1 8 (by omega)]; exact h8, by rw [c3 1 9 (by omega)]; exact h9, by omega, by rw [c2, if_pos ⟨rfl, rfl⟩], by rw [c2, if_neg (by omega), if_pos ⟨rfl, rfl⟩]; omega⟩
  · obtain ⟨i, hi, e1, e2⟩ := hval p hp
    have hai := (ha i hi).2
    dsimp only
    rw [e2, i64_nat (by omega)]
    exact ⟨rfl, hai⟩
