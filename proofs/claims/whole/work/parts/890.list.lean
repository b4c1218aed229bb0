/-- listChoices -/
theorem tr_list {F : Nat} (hF : 50000 ≤ F) {u : gw_St} {S lo hi T q0 : Nat} (hr : gv_Rf u) (hk : Tk u S lo hi T q0) : ∃ (w : gw_St) (c : Nat → Nat), gf_Trains_listChoices F gv_z u 1 = some w ∧ w.2.2 = u.2.2 ∧ (∀ a k, a ≠ 5 → w.1 a k = u.1 a k) ∧ (∀ a k, a ≠ q0 → w.2.1 a k = u.2.1 a k) ∧ (∀ j, j < T → w.2.1 q0 j = Int64.ofNat (vv S (c j)) ∧ isC S lo hi (c j)) ∧ (∀ j j', j < j' → j' < T → c j < c j') ∧ ∀ x, isC S lo hi x → ∃ j, j < T ∧ c j = x := by
  obtain ⟨hp, -, h6, h7, h8, h9, hq, h10, h11⟩ := id hk
  obtain ⟨n1, n2, n3⟩ := hk.num
  have hS : S ≤ 4 := hp.2.1
  have hlh : lo ≤ hi := hp.2.2.2.1
  have hhi : hi ≤ 120 := hp.2.2.2.2.1
  obtain ⟨u0, a1, a2⟩ := tr_fill (F := F) (by omega) (u := u) (x := u.1 1 7) gv_l5 (by omega)
  have r0 : gv_Rf u0 := hr.eq (by rw [a2.1])
  have k0 : Tk u0 S lo hi T q0 := hk.same (fun k _ _ => a2.2.1 1 k (by omega)) (by rw [a2.1]) (by rw [a2.1])
  have hc0 : Cc S lo hi (fun _ => lo) := ⟨fun s _ => ⟨Nat.le_refl _, hlh⟩, fun s _ => Nat.le_refl _⟩
  have hrem0 : rem hi S (fun _ => lo) S + 1 = T := by rw [rem_all hlh S (Nat.le_refl _) (fun _ _ _ => rfl)]; exact n1
  have main := gl_up (σ := gw_St) (N := T) (L := fun f w i => gf_Trains_listChoices_L13 F gv_z f w 1 (Int32.ofNat i))
    (I := fun i w => w.2.2 = u.2.2 ∧ (∀ a k, a ≠ 5 → w.1 a k = u.1 a k) ∧ (∀ a k, a ≠ q0 → w.2.1 a k = u.2.1 a k) ∧ ∃ c : Nat → Nat, (∀ j, j < i → w.2.1 q0 j = Int64.ofNat (vv S (c j)) ∧ isC S lo hi (c j)) ∧ (∀ j j', j < j' → j' < i → c j < c j') ∧ ((i < T ∧ ∃ v, Cc S lo hi v ∧ (∀ s, s < S → w.1 5 s = Int32.ofNat (v s)) ∧ rem hi S v S + i + 1 = T ∧ (∀ j, j < i → c j < cd v S) ∧ ∀ x, isC S lo hi x → (∃ j, j < i ∧ c j = x) ∨ cd v S ≤ x) ∨ (i = T ∧ ∀ x, isC S lo hi x → ∃ j, j < T ∧ c j = x)))
    (R := fun x => ∃ (w : gw_St) (c : Nat → Nat), x = some w ∧ w.2.2 = u.2.2 ∧ (∀ a k, a ≠ 5 → w.1 a k = u.1 a k) ∧ (∀ a k, a ≠ q0 → w.2.1 a k = u.2.1 a k) ∧ (∀ j, j < T → w.2.1 q0 j = Int64.ofNat (vv S (c j)) ∧ isC S lo hi (c j)) ∧ (∀ j j', j < j' → j' < T → c j < c j') ∧ ∀ x, isC S lo hi x → ∃ j, j < T ∧ c j = x)
    (fun f w i hI hi' => by
      obtain ⟨i1, i2, i3, c, i4, i5, i6⟩ := hI
      rcases i6 with ⟨-, v, v1, v2, v3, v4, v5⟩ | ⟨e, -⟩
      · have rw' : gv_Rf w := hr.eq i1
        have kw : Tk w S lo hi T q0 := hk.same (fun k _ _ => i2 1 k (by omega)) (by rw [i1]) (by rw [i1])
        have hst := tr_list1 (F := F) (by omega) (rc := gf_Trains_listChoices_L13 F gv_z f) rw' kw v2 v1 hi'
        have bv : ∀ s, s < S → v s < 128 := fun s hs => by have := (v1.1 s hs).2; omega
        obtain ⟨y, g, b1, b2, b3, b4, b5, b6, b7⟩ := tr_step (F := F) (by omega) (u := gw_wl w q0 i (Int64.ofNat (vv S (cd v S)))) (w := v) (rw'.eq rfl) (kw.same (fun _ _ _ => rfl) rfl rfl) v2 bv
        refine ⟨y, ⟨by rw [b2]; exact i1, fun a k q => by rw [b3 a k q]; exact i2 a k q, fun a k q => by rw [b2]; show (gw_wl w q0 i _).2.1 a k = _; rw [wl_ne (fun e => q e.1)]; exact i3 a k q, fun j => if j = i then cd v S else c j, fun j hj => ?_, fun j j' h1 h2 => ?_, ?_⟩, ?_⟩
        · rw [b2]
          dsimp only
          by_cases e : j = i
          · rw [e, if_pos rfl]
            exact ⟨wl_same, v, v1, rfl⟩
          · rw [if_neg e]
            show (gw_wl w q0 i _).2.1 q0 j = _ ∧ _
            rw [wl_ne (fun q => e q.2)]
            exact i4 j (by omega)
        · dsimp only
          by_cases e : j' = i
          · rw [if_pos e, if_neg (by omega)]
            exact v4 j (by omega)
          · rw [if_neg e, if_neg (by omega)]
            exact i5 j j' h1 (by omega)
        · by_cases hz : rem hi S v S = 0
          · refine Or.inr ⟨by omega, fun x hx => ?_⟩
            rcases v5 x hx with ⟨j, hj, e⟩ | h
            · exact ⟨j, by omega, by dsimp only; rw [if_neg (by omega)]; exact e⟩
            · obtain ⟨wx, x1, x2⟩ := hx
              have := rem_last hz x1
              exact ⟨i, hi', by dsimp only; rw [if_pos rfl]; omega⟩
          · have hlt : v g < hi := by
              have h1 := (v1.1 g b4).2
              apply Classical.byContradiction
              intro q
              have e : v g = hi := by omega
              rcases b6 with b6 | b6
              · refine hz (rem_hi S (Nat.le_refl _) (fun s _ hs => ?_))
                by_cases q2 : s = g
                · rw [q2]; exact e
                · exact b5 s (by omega) hs
              · exact b6 e
            have hrm := nxw_rem b4 b5 hlt S (by omega) (Nat.le_refl _)
            refine Or.inl ⟨by omega, nxw S g v, nxw_Cc v1 b4 hlt, b7, by omega, fun j hj => ?_, fun x hx => ?_⟩
            · have := nxw_lt v1 (by omega) b4
              dsimp only
              by_cases e : j = i
              · rw [if_pos e]; exact this
              · rw [if_neg e]; exact Nat.lt_trans (v4 j (by omega)) this
            · rcases v5 x hx with ⟨j, hj, e⟩ | h
              · exact Or.inl ⟨j, by omega, by dsimp only; rw [if_neg (by omega)]; exact e⟩
              · by_cases e : x = cd v S
                · exact Or.inl ⟨i, by omega, by dsimp only; rw [if_pos rfl]; exact e.symm⟩
                · obtain ⟨wx, x1, x2⟩ := hx
                  refine Or.inr ?_
                  rw [← x2]
                  exact nxw_next v1 (by omega) b4 b5 hlt x1 (by omega)
        · show gf_Trains_listChoices_S13 F gv_z _ w 1 (Int32.ofNat i) = _
          unfold gf_Trains_listChoices_S13
          rw [kw.2.2.2.2.2.1, if_neg (fun e => by have := (gi_le (by omega) (by omega)).mp e; omega), hst, b1, Option.bind_some]
      · omega)
    (fun f w hI => by
      obtain ⟨i1, i2, i3, c, i4, i5, i6⟩ := hI
      rcases i6 with ⟨e, -⟩ | ⟨-, i7⟩
      · omega
      · refine ⟨w, c, ?_, i1, i2, i3, i4, i5, i7⟩
        show gf_Trains_listChoices_S13 F gv_z _ w 1 (Int32.ofNat T) = _
        unfold gf_Trains_listChoices_S13
        rw [i2 1 9 (by omega), h9, if_pos ((gi_le (by omega) (by omega)).mpr (Nat.le_refl _))])
  have hfin := main T 0 u0 F (by omega) ⟨by rw [a2.1], fun a k q => a2.2.1 a k (fun e => q e.1), fun a k _ => by rw [a2.1], fun _ => 0, fun j hj => absurd hj (Nat.not_lt_zero j), fun j j' _ h => absurd h (Nat.not_lt_zero j'), Or.inl ⟨n3, fun _ => lo, hc0, fun s hs => by rw [a2.2.2 s (by omega), h7], by omega, fun j hj => absurd hj (Nat.not_lt_zero j), fun x hx => Or.inr (by
      obtain ⟨wx, x1, x2⟩ := hx
      rw [← x2]
      exact cd_mono (fun s hs => (x1.1 s hs).1))⟩⟩ (by omega)
  have hst : gf_Trains_listChoices F gv_z u 1 = gf_Trains_listChoices_L13 F gv_z F u0 1 (Int32.ofNat 0) := by
    show gf_Trains_listChoices_b0 F gv_z u 1 = _
    unfold gf_Trains_listChoices_b0
    rw [hr.get rfl gv_r1_3, gnn, a1, Option.bind_some]
    rfl
  rw [hst]
  exact hfin
