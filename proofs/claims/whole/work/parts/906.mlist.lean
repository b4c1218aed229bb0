/-- the task as the reference holds it -/
def Mk (u : gw_St) (S lo N : Nat) : Prop := u.1 670 4 = Int32.ofNat S ∧ u.1 670 5 = Int32.ofNat lo ∧ u.1 670 6 = Int32.ofNat N
theorem gm_wheel {F : Nat} {u : gw_St} {S c s : Nat} (h4 : u.1 670 4 = Int32.ofNat S) (hS : S ≤ 4) (hs : s < S) (hc : c < 2147483648) : gf_Model_wheel F gv_z u 670 (Int32.ofNat c) (Int32.ofNat s) = some (Int32.ofNat (wl S c s), u) := by
  show some (((Int32.ofNat c >>> (((7 : Int32) * (((u.1 670 4) - (1 : Int32)) - Int32.ofNat s)) &&& 31)) &&& (127 : Int32)), u) = _
  rw [h4, gi_m7 hs hS, gi_shr (by omega) hc, show (127 : Int32) = Int32.ofNat (2 ^ 7 - 1) from rfl, i32_and]
  unfold wl
  rw [p128]
theorem gm_sumOf {F : Nat} (hF : 2000 ≤ F) {u : gw_St} {S c : Nat} (h4 : u.1 670 4 = Int32.ofNat S) (hS : S ≤ 4) (hc : c < 2147483648) : gf_Model_sumOf F gv_z u 670 (Int32.ofNat c) = some (Int32.ofNat (tT S c), u) := by
  have main := gl_up (σ := Unit) (N := S) (L := fun f _ s => gf_Model_sumOf_L4 F gv_z f u 670 (Int32.ofNat c) (Int32.ofNat (nsum (wl S c) s)) (Int32.ofNat s)) (I := fun _ _ => True) (R := fun x => x = some (Int32.ofNat (tT S c), u))
    (fun f w s _ hs => ⟨(), trivial, by
      show gf_Model_sumOf_S4 F gv_z _ u 670 (Int32.ofNat c) (Int32.ofNat (nsum (wl S c) s)) (Int32.ofNat s) = _
      unfold gf_Model_sumOf_S4
      rw [h4, if_neg (fun e => by have := (gi_le (by omega) (by omega)).mp e; omega), gm_wheel h4 hS hs hc]
      simp only [gf_cl, gf_nm]
      rw [gw_iS, gi_add]
      rfl⟩)
    (fun f w _ => by
      show gf_Model_sumOf_S4 F gv_z _ u 670 (Int32.ofNat c) (Int32.ofNat (nsum (wl S c) S)) (Int32.ofNat S) = _
      unfold gf_Model_sumOf_S4
      rw [h4, if_pos ((gi_le (by omega) (by omega)).mpr (Nat.le_refl _))]
      rfl)
  exact main S 0 () F (by omega) trivial (by omega)
theorem np_small : ∀ n, n < 114 → ∀ s, s < 5 → (s = 3 → n ≤ 60) → (s = 4 → n ≤ 20) → n ^ s ≤ 216000 := by decide +kernel
/-- the digits of one number -/
theorem gm_digits {F : Nat} (hF : 2000 ≤ F) {u : gw_St} {S lo hi v : Nat} {x1 : Int32} {rc : gw_St → Nat → Int32 → Int32 → Option gw_St} (hp : TaP S lo hi) (hk : Mk u S lo (hi - lo + 1)) (hv : v < 2147483648) : (ris (hi - lo + 1) v S → gf_Model_listChoices_L57 F gv_z rc F u 670 x1 (Int32.ofNat v) 0 1 (Int32.ofNat v) (Int32.ofNat (hi - lo + 1)) 1 0 = gf_Model_listChoices_b141 F gv_z rc u 670 x1 (Int32.ofNat v) (Int32.ofNat (lc lo (hi - lo + 1) v S)) (Int32.ofNat (lp lo (hi - lo + 1) v S)) 1) ∧ (¬ ris (hi - lo + 1) v S → gf_Model_listChoices_L57 F gv_z rc F u 670 x1 (Int32.ofNat v) 0 1 (Int32.ofNat v) (Int32.ofNat (hi - lo + 1)) 1 0 = rc u 670 x1 (Int32.ofNat (v + 1))) := by
  obtain ⟨k4, k5, k6⟩ := hk
  have hp' := hp
  unfold TaP at hp'
  generalize hNe : hi - lo + 1 = N at *
  have hN0 : 0 < N := by omega
  have hN1 : N < 114 := by omega
  have hdl : ∀ k, dg N v k < N := fun k => dg_lt hN0
  have run : ∀ (j k f : Nat), k + j = S → j + 1 < f → ris N v k → (ris N v S → gf_Model_listChoices_L57 F gv_z rc f u 670 x1 (Int32.ofNat v) (Int32.ofNat (lc lo N v k)) (Int32.ofNat (lp lo N v k)) (Int32.ofNat (v / N ^ k)) (Int32.ofNat (if k = 0 then N else dg N v (k - 1))) 1 (Int32.ofNat k) = gf_Model_listChoices_b141 F gv_z rc u 670 x1 (Int32.ofNat v) (Int32.ofNat (lc lo N v S)) (Int32.ofNat (lp lo N v S)) 1) ∧ (¬ ris N v S → gf_Model_listChoices_L57 F gv_z rc f u 670 x1 (Int32.ofNat v) (Int32.ofNat (lc lo N v k)) (Int32.ofNat (lp lo N v k)) (Int32.ofNat (v / N ^ k)) (Int32.ofNat (if k = 0 then N else dg N v (k - 1))) 1 (Int32.ofNat k) = rc u 670 x1 (Int32.ofNat (v + 1))) := by
    intro j
    induction j with
    | zero =>
      intro k f hk hf hr
      obtain ⟨f, rfl⟩ : ∃ q, f = q + 1 := ⟨f - 1, by omega⟩
      have : k = S := by omega
      subst this
      refine ⟨fun _ => ?_, fun h => absurd hr h⟩
      show gf_Model_listChoices_S57 F gv_z rc _ u 670 _ _ _ _ _ _ _ _ = _
      unfold gf_Model_listChoices_S57
      rw [k4, if_pos ((gi_le (by omega) (by omega)).mpr (Nat.le_refl _))]
    | succ j ih =>
      intro k f hk hf hr
      obtain ⟨f, rfl⟩ : ∃ q, f = q + 1 := ⟨f - 1, by omega⟩
      have hd := hdl k
      have hq : v / N ^ k ≤ v := Nat.div_le_self _ _
      have hbf : (if k = 0 then N else dg N v (k - 1)) < 114 := by
        by_cases z : k = 0
        · rw [if_pos z]; exact hN1
        · rw [if_neg z]; have := hdl (k - 1); omega
      have hgo : gf_Model_listChoices_L57 F gv_z rc (f + 1) u 670 x1 (Int32.ofNat v) (Int32.ofNat (lc lo N v k)) (Int32.ofNat (lp lo N v k)) (Int32.ofNat (v / N ^ k)) (Int32.ofNat (if k = 0 then N else dg N v (k - 1))) 1 (Int32.ofNat k) = gf_Model_listChoices_L57 F gv_z rc f u 670 x1 (Int32.ofNat v) (Int32.ofNat (lc lo N v (k + 1))) (Int32.ofNat (lp lo N v (k + 1))) (Int32.ofNat (v / N ^ (k + 1))) (Int32.ofNat (dg N v k)) (if (if k = 0 then N else dg N v (k - 1)) < dg N v k then 0 else 1) (Int32.ofNat (k + 1)) := by
        show gf_Model_listChoices_S57 F gv_z rc _ u 670 _ _ _ _ _ _ _ _ = _
        unfold gf_Model_listChoices_S57
        have e92 : ∀ sx : Int32, gf_Model_listChoices_b92 F gv_z rc (gf_Model_listChoices_L57 F gv_z rc f) u 670 x1 (Int32.ofNat v) (Int32.ofNat (lc lo N v k)) (Int32.ofNat (lp lo N v k)) (Int32.ofNat (v / N ^ k)) (Int32.ofNat k) (Int32.ofNat (dg N v k)) sx = gf_Model_listChoices_L57 F gv_z rc f u 670 x1 (Int32.ofNat v) (Int32.ofNat (lc lo N v (k + 1))) (Int32.ofNat (lp lo N v (k + 1))) (Int32.ofNat (v / N ^ (k + 1))) (Int32.ofNat (dg N v k)) sx (Int32.ofNat (k + 1)) := fun sx => by
          unfold gf_Model_listChoices_b92
          rw [k6, if_neg (fun e => by have := (gi_eq0 (by omega)).mp e; omega)]
          simp only [gf_nm]
          rw [gi_div (by omega) hN0 (by omega), k5, gi_add, show (7 : Int32) * Int32.ofNat k = Int32.ofNat (7 * k) from gi_mul (a := 7), gi_shl (by omega), gi_add, gi_mul, gw_iS, Nat.div_div_eq_div_mul, ← Nat.pow_succ, ← p128]
          rfl
        rw [k4, if_neg (fun e => by have := (gi_le (by omega) (by omega)).mp e; omega), if_neg (by decide), k6, if_neg (fun e => by have := (gi_eq0 (by omega)).mp e; omega)]
        simp only [gf_nm]
        rw [gi_rem (by omega) hN0 (by omega), show v / N ^ k % N = dg N v k from rfl, e92, e92]
        by_cases z : (if k = 0 then N else dg N v (k - 1)) < dg N v k
        · rw [if_pos ((gi_lt (by omega) (by omega)).mpr z), if_pos z]
        · rw [if_neg (fun e => z ((gi_lt (by omega) (by omega)).mp e)), if_neg z]
      rw [hgo]
      by_cases z : (if k = 0 then N else dg N v (k - 1)) < dg N v k
      · -- it rises
        have hk0 : k ≠ 0 := fun q => by rw [if_pos q] at z; omega
        rw [if_neg hk0] at z
        have hno : ¬ ris N v S := fun h => by
          have := h (k - 1) (by omega)
          rw [show k - 1 + 1 = k by omega] at this
          omega
        obtain ⟨f, rfl⟩ : ∃ q, f = q + 1 := ⟨f - 1, by omega⟩
        refine ⟨fun h => absurd h hno, fun _ => ?_⟩
        rw [if_pos (by rw [if_neg hk0]; exact z)]
        show gf_Model_listChoices_S57 F gv_z rc _ u 670 _ _ _ _ _ _ _ _ = _
        unfold gf_Model_listChoices_S57 gf_Model_listChoices_b141 gf_Model_listChoices_b191
        simp only [gf_nm]
        rw [gw_iS]
        by_cases y : (u.1 670 4) ≤ Int32.ofNat (k + 1)
        · rw [if_pos y, if_pos trivial]
        · rw [if_neg y, if_pos trivial, if_pos trivial]
      · rw [if_neg z]
        have := ih (k + 1) f (by omega) (by omega) (fun i hi => by
          by_cases q : i + 1 = k
          · have hk0 : k ≠ 0 := by omega
            rw [if_neg hk0] at z
            rw [q, show i = k - 1 by omega]
            omega
          · exact hr i (by omega))
        rw [if_neg (by omega), Nat.add_sub_cancel] at this
        exact this
  have := run S 0 F (by omega) (by omega) (fun k hk => by omega)
  rw [if_pos rfl, Nat.pow_zero, Nat.div_one] at this
  exact this
