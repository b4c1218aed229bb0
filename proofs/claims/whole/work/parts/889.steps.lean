theorem gv_r1_2 : gv_u.2.2 1 2 = 5 := by decide +kernel
theorem gv_r1_3 : gv_u.2.2 1 3 = 6 := by decide +kernel
theorem gv_l2 : gv_z.2.2 2 = 37820 := by decide +kernel
theorem gv_l3 : gv_z.2.2 3 = 37820 := by decide +kernel
theorem gv_l4 : gv_z.2.2 4 = 2048 := by decide +kernel
theorem gv_l5 : gv_z.2.2 5 = 4 := by decide +kernel
/-- the task as the class holds it: q0 has the choices -/
def Tk (u : gw_St) (S lo hi T q0 : Nat) : Prop := TaP S lo hi ∧ T = gv_wy (hi - lo + 1) S ∧ u.1 1 6 = Int32.ofNat S ∧ u.1 1 7 = Int32.ofNat lo ∧ u.1 1 8 = Int32.ofNat hi ∧ u.1 1 9 = Int32.ofNat T ∧ (q0 = 2 ∨ q0 = 3) ∧ u.2.2 1 0 = q0 + 1 ∧ u.2.2 1 1 = 5 - q0 + 1
theorem Tk.num {u : gw_St} {S lo hi T q0 : Nat} (h : Tk u S lo hi T q0) : mc S (hi - lo + 1) = T ∧ T ≤ 37820 ∧ 0 < T := by
  obtain ⟨hp, h1, -⟩ := h
  rw [h1]
  unfold TaP at hp
  exact mc_wy (hi - lo + 1) (by omega) S (by omega) ⟨by omega, by omega, hp.2.2.2.2.2.1, hp.2.2.2.2.2.2⟩
theorem Tk.len {u : gw_St} {S lo hi T q0 : Nat} (h : Tk u S lo hi T q0) : gv_z.2.2 q0 = 37820 ∧ gv_z.2.2 (5 - q0) = 37820 := by
  rcases h.2.2.2.2.2.2.1 with e | e <;> subst e
  · exact ⟨gv_l2, gv_l3⟩
  · exact ⟨gv_l3, gv_l2⟩
theorem Tk.same {u w : gw_St} {S lo hi T q0 : Nat} (h : Tk u S lo hi T q0) (h1 : ∀ k, 6 ≤ k → k ≤ 9 → w.1 1 k = u.1 1 k) (h2 : w.2.2 1 0 = u.2.2 1 0) (h3 : w.2.2 1 1 = u.2.2 1 1) : Tk w S lo hi T q0 := by
  obtain ⟨a1, a2, a3, a4, a5, a6, a7, a8, a9⟩ := h
  exact ⟨a1, a2, by rw [h1 6 (by omega) (by omega)]; exact a3, by rw [h1 7 (by omega) (by omega)]; exact a4, by rw [h1 8 (by omega) (by omega)]; exact a5, by rw [h1 9 (by omega) (by omega)]; exact a6, a7, by rw [h2]; exact a8, by rw [h3]; exact a9⟩
theorem tr_fill {F : Nat} (hF : 20000 ≤ F) {u : gw_St} {q N : Nat} {x : Int32} (hq : gv_z.2.2 q = N) (hN : N < 10000) : ∃ w, gf_Arrays_fill1 F gv_z u q x = some w ∧ Rw q N x u w := by
  have main := gl_up (σ := gw_St) (N := N) (L := fun f w k => gf_Arrays_fill1_L5 F gv_z f w q x (Int32.ofNat k) (Int32.ofNat N)) (I := fun k w => Rw q k x u w) (R := fun r => ∃ w, r = some w ∧ Rw q N x u w)
    (fun f w k hI hk => by
      refine ⟨gw_wi w q k x, hI.step (N := N) hk, ?_⟩
      show gf_Arrays_fill1_S5 F gv_z _ w q x (Int32.ofNat k) (Int32.ofNat N) = _
      unfold gf_Arrays_fill1_S5
      rw [if_neg (fun e => by have := (gi_le (by omega) (by omega)).mp e; omega), if_neg (gi_ix (by rw [hq]; omega) (by omega)), i32_clamp (by omega)]
      simp only [gf_nm]
      rw [gw_iS])
    (fun f w hI => ⟨w, by
      show gf_Arrays_fill1_S5 F gv_z _ w q x (Int32.ofNat N) (Int32.ofNat N) = _
      unfold gf_Arrays_fill1_S5
      rw [if_pos ((gi_le (by omega) (by omega)).mpr (Nat.le_refl _))], hI⟩)
  obtain ⟨w, a1, a2⟩ := main N 0 u F (by omega) ⟨rfl, fun _ _ _ => rfl, fun k hk => absurd hk (Nat.not_lt_zero k)⟩ (by omega)
  refine ⟨w, ?_, a2⟩
  rw [← a1]
  show gf_Arrays_fill1_b0 F gv_z u q x = _
  unfold gf_Arrays_fill1_b0
  rw [hq]
  rfl
/-- stepWheels -/
theorem tr_step {F : Nat} (hF : 20000 ≤ F) {u : gw_St} {S lo hi T q0 : Nat} {w : Nat → Nat} (hr : gv_Rf u) (hk : Tk u S lo hi T q0) (hw : ∀ s, s < S → u.1 5 s = Int32.ofNat (w s)) (hb : ∀ s, s < S → w s < 128) : ∃ v f, gf_Trains_stepWheels F gv_z u 1 = some v ∧ v.2 = u.2 ∧ (∀ a k, a ≠ 5 → v.1 a k = u.1 a k) ∧ f < S ∧ (∀ s, f < s → s < S → w s = hi) ∧ (f = 0 ∨ w f ≠ hi) ∧ ∀ s, s < S → v.1 5 s = Int32.ofNat (nxw S f w s) := by
  obtain ⟨hp, -, h6, h7, h8, h9, -⟩ := id hk
  have hS : S ≤ 4 := hp.2.1
  have hS1 : 1 ≤ S := hp.1
  have hhi : hi ≤ 120 := hp.2.2.2.2.1
  have fin : ∀ f, f < S → (∀ s, f < s → s < S → w s = hi) → (f = 0 ∨ w f ≠ hi) → ∃ v f', gf_Trains_stepWheels_b30 F gv_z u 1 (Int32.ofNat f) = some v ∧ v.2 = u.2 ∧ (∀ a k, a ≠ 5 → v.1 a k = u.1 a k) ∧ f' < S ∧ (∀ s, f' < s → s < S → w s = hi) ∧ (f' = 0 ∨ w f' ≠ hi) ∧ ∀ s, s < S → v.1 5 s = Int32.ofNat (nxw S f' w s) := by
    intro f hf h1 h2
    obtain ⟨v, a1, a2, a3, a4⟩ := gw_fill2 (F := F) (z := gv_z) (q := 5) (i := f) (n := S) (x := Int32.ofNat (w f + 1)) (u := u) (by omega) (by rw [gv_l5]; omega) (by rw [gv_l5]; omega) (by omega)
    refine ⟨v, f, ?_, a2, fun a k q => a3 a k (fun e => q e.1), hf, h1, h2, fun s hs => ?_⟩
    · unfold gf_Trains_stepWheels_b30
      rw [hr.get rfl gv_r1_3, gnn, gnn, if_neg (gi_ix (by rw [gv_l5]; omega) (by omega)), i32_clamp (by omega), hw f hf, h6, gw_iS, a1, Option.bind_some]
    · unfold nxw
      by_cases e : f ≤ s ∧ s < S
      · rw [if_pos e]; exact a4 s e.1 hs
      · rw [if_neg e, a3 5 s (by omega)]; exact hw s hs
  have run : ∀ (f g : Nat), f < S → f < g → (∀ s, f < s → s < S → w s = hi) → ∃ v f', gf_Trains_stepWheels_L7 F gv_z g u 1 (Int32.ofNat f) = some v ∧ v.2 = u.2 ∧ (∀ a k, a ≠ 5 → v.1 a k = u.1 a k) ∧ f' < S ∧ (∀ s, f' < s → s < S → w s = hi) ∧ (f' = 0 ∨ w f' ≠ hi) ∧ ∀ s, s < S → v.1 5 s = Int32.ofNat (nxw S f' w s) := by
    intro f
    induction f with
    | zero =>
      intro g hf hg h1
      obtain ⟨g, rfl⟩ : ∃ q, g = q + 1 := ⟨g - 1, by omega⟩
      have := fin 0 hf h1 (Or.inl rfl)
      show ∃ v f', gf_Trains_stepWheels_S7 F gv_z _ u 1 (Int32.ofNat 0) = some v ∧ _
      unfold gf_Trains_stepWheels_S7
      rw [if_pos (by decide)]
      exact this
    | succ f ih =>
      intro g hf hg h1
      obtain ⟨g, rfl⟩ : ∃ q, g = q + 1 := ⟨g - 1, by omega⟩
      show ∃ v f', gf_Trains_stepWheels_S7 F gv_z _ u 1 (Int32.ofNat (f + 1)) = some v ∧ _
      unfold gf_Trains_stepWheels_S7
      rw [if_neg (fun e => by have := (gi_le0 (by omega)).mp e; omega), hr.get rfl gv_r1_3, gnn, if_neg (gi_ix (by rw [gv_l5]; omega) (by omega)), i32_clamp (by omega), hw (f + 1) hf, h8]
      have hbf := hb (f + 1) hf
      by_cases e : w (f + 1) = hi
      · rw [if_pos (by rw [e])]
        simp only [gf_nm]
        rw [show Int32.ofNat (f + 1) + -1 = Int32.ofNat f from by rw [← Int32.sub_eq_add_neg, gi_sub1 (by omega)]]
        exact ih g (by omega) (by omega) (fun s q1 q2 => by
          by_cases q : s = f + 1
          · rw [q]; exact e
          · exact h1 s (by omega) q2)
      · rw [if_neg (fun q => e ((gi_eq (by omega) (by omega)).mp q))]
        exact fin (f + 1) hf h1 (Or.inr e)
  have := run (S - 1) F (by omega) (by omega) (fun s q1 q2 => by omega)
  show ∃ v f, gf_Trains_stepWheels_b0 F gv_z u 1 = some v ∧ _
  unfold gf_Trains_stepWheels_b0
  simp only [gf_nm]
  rw [h6, show (1 : Int32) = Int32.ofNat 1 from rfl, gi_sub (by omega) (by omega)]
  exact this
/-- a choice as the class keeps it -/
def vv (S c : Nat) : Nat := pP S c * 268435456 + c
theorem tr_list1 {F : Nat} (hF : 20000 ≤ F) {u : gw_St} {S lo hi T q0 i : Nat} {w : Nat → Nat} {rc : gw_St → Nat → Int32 → Option gw_St} (hr : gv_Rf u) (hk : Tk u S lo hi T q0) (hw : ∀ s, s < S → u.1 5 s = Int32.ofNat (w s)) (hc : Cc S lo hi w) (hi' : i < T) : gf_Trains_listChoices_L29 F gv_z rc F u 1 (Int32.ofNat i) 1 0 0 = (gf_Trains_stepWheels F gv_z (gw_wl u q0 i (Int64.ofNat (vv S (cd w S)))) 1).bind fun u7 => rc u7 1 (Int32.ofNat (i + 1)) := by
  obtain ⟨hp, -, h6, h7, h8, h9, hq, h10, h11⟩ := id hk
  obtain ⟨n1, n2, n3⟩ := hk.num
  obtain ⟨l1, -⟩ := hk.len
  have hS : S ≤ 4 := hp.2.1
  have hhi : hi ≤ 120 := hp.2.2.2.2.1
  have b : ∀ s, s < S → w s < 128 := fun s hs => by have := (hc.1 s hs).2; omega
  have e : ∀ s, s < S → wl S (cd w S) s = w s := fun s hs => wl_cd b s hs
  have hvv : vv S (cd w S) = nprod w S * 268435456 + cd w S := by unfold vv pP; rw [nprod_congr e]
  have bP : ∀ s, s ≤ S → nprod w s ≤ 207360000 := fun s hs => by
    have h1 := nprod_le (f := w) (n := s) (b := 120) (fun t ht => by have := (hc.1 t (by omega)).2; omega)
    have h4 : 120 ^ s ≤ 120 ^ 4 := Nat.pow_le_pow_right (by decide) (by omega)
    have e4 : 120 ^ 4 = 207360000 := by decide
    omega
  have bC : ∀ s, s ≤ S → cd w s < 268435456 := fun s hs => by
    have h1 := cd_le_pow (w := w) (n := s) (fun t ht => b t (by omega))
    have h4 : 128 ^ s ≤ 128 ^ 4 := Nat.pow_le_pow_right (by decide) (by omega)
    have e4 : 128 ^ 4 = 268435456 := by decide
    omega
  have main := gl_up (σ := Unit) (N := S) (L := fun f _ s => gf_Trains_listChoices_L29 F gv_z rc f u 1 (Int32.ofNat i) (Int64.ofNat (nprod w s)) (Int64.ofNat (cd w s)) (Int32.ofNat s)) (I := fun _ _ => True) (R := fun x => x = (gf_Trains_stepWheels F gv_z (gw_wl u q0 i (Int64.ofNat (vv S (cd w S)))) 1).bind fun u7 => rc u7 1 (Int32.ofNat (i + 1)))
    (fun f _ s _ hs => ⟨(), trivial, by
      show gf_Trains_listChoices_S29 F gv_z rc _ u 1 (Int32.ofNat i) (Int64.ofNat (nprod w s)) (Int64.ofNat (cd w s)) (Int32.ofNat s) = _
      unfold gf_Trains_listChoices_S29
      have bs := b s hs
      have b1 := bC s (by omega)
      rw [h6, if_neg (fun e => by have := (gi_le (by omega) (by omega)).mp e; omega), hr.get rfl gv_r1_3, gnn, if_neg (gi_ix (by rw [gv_l5]; omega) (by omega)), i32_clamp (by omega), hw s hs]
      simp only [gf_nm]
      rw [gnn, if_neg (gi_ic (by rw [gv_l5]; omega) (by omega)), hw s hs, i32_64 (by omega), i64_mul, show (7 : Int32) = Int32.ofNat 7 from rfl, i64_shl (by omega) (by omega), i64_or (by omega) (by omega), gw_iS]
      rfl⟩)
    (fun f _ _ => by
      show gf_Trains_listChoices_S29 F gv_z rc _ u 1 (Int32.ofNat i) (Int64.ofNat (nprod w S)) (Int64.ofNat (cd w S)) (Int32.ofNat S) = _
      unfold gf_Trains_listChoices_S29
      have b1 := bC S (by omega)
      have b2 := bP S (by omega)
      rw [h6, if_pos ((gi_le (by omega) (by omega)).mpr (Nat.le_refl _)), h10, gnn, if_neg (gi_ix (by rw [l1]; omega) (by omega)), i32_clamp (by omega)]
      simp only [gf_nm]
      rw [show (28 : Int32) = Int32.ofNat 28 from rfl, i64_shl (by omega) (by omega), i64_or (by omega) (by omega), gw_iS, hvv])
  exact main S 0 () F (by omega) trivial (by omega)
