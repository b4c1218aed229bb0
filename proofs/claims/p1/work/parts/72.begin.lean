/-- the class's count of choices -/
def gv_it (d : Int32) : Nat → Int32 → Nat → Int32
  | 0, t, _ => t
  | j + 1, t, k => gv_it d j ((t * (d + Int32.ofNat k)) / Int32.ofNat k) (k + 1)
theorem gv_it_d : ∀ n, n < 114 → ∀ s, s < 5 → (1 ≤ n ∧ 1 ≤ s ∧ (s = 3 → n ≤ 60) ∧ (s = 4 → n ≤ 20)) → gv_it (Int32.ofNat (n - 1)) s 1 1 = Int32.ofNat (gv_wy n s) := by decide +kernel
theorem gs_bg {F : Nat} {z : gw_Sh} {s : Nat} (hs : s < 5) : ∀ (j f k : Nat) (u : gw_St), u.1 1 6 = Int32.ofNat s → k + j = s + 1 → 1 ≤ k → j < f →
    ∃ w, gf_Trains_begin_L37 F z f u 1 (Int32.ofNat k) = some (gv_it (u.1 1 8 - u.1 1 7) j (u.1 1 9) k, w) ∧ w.1 1 9 = gv_it (u.1 1 8 - u.1 1 7) j (u.1 1 9) k ∧ w.1 1 10 = 0 ∧ (∀ p q, ¬ (p = 1 ∧ (q = 9 ∨ q = 10)) → w.1 p q = u.1 p q) ∧ w.2 = u.2 := by
  intro j
  induction j with
  | zero =>
    intro f k u h6 hk h1 hf
    obtain ⟨f, rfl⟩ : ∃ g, f = g + 1 := ⟨f - 1, by omega⟩
    show ∃ w, gf_Trains_begin_S37 F z (gf_Trains_begin_L37 F z f) u 1 (Int32.ofNat k) = _ ∧ _
    unfold gf_Trains_begin_S37
    rw [h6, if_pos (i32_lt.mpr (by rw [i32_nat (by omega), i32_nat (by omega)]; omega))]
    refine ⟨gw_wi u 1 10 0, rfl, rfl, rfl, fun p q h => ?_, rfl⟩
    simp only [gw_wi]
    rw [if_neg (by omega)]
  | succ j ih =>
    intro f k u h6 hk h1 hf
    obtain ⟨f, rfl⟩ : ∃ g, f = g + 1 := ⟨f - 1, by omega⟩
    show ∃ w, gf_Trains_begin_S37 F z (gf_Trains_begin_L37 F z f) u 1 (Int32.ofNat k) = _ ∧ _
    unfold gf_Trains_begin_S37
    have e0 : (0 : Int32).toInt = 0 := rfl
    rw [h6, if_neg (fun q => by have := i32_lt.mp q; rw [i32_nat (by omega), i32_nat (by omega)] at this; omega), if_neg (fun q => by have := congrArg Int32.toInt q; rw [i32_nat (by omega)] at this; omega)]
    simp only [gf_nm]
    rw [gv_inc]
    obtain ⟨w, a1, a2, a3, a4, a5⟩ := ih f (k + 1) (gw_wi u 1 9 (((u.1 1 9) * (((u.1 1 8) - (u.1 1 7)) + Int32.ofNat k)) / Int32.ofNat k)) h6 (by omega) (by omega) (by omega)
    refine ⟨w, a1, a2, a3, fun p q h => ?_, a5⟩
    rw [a4 p q h]
    simp only [gw_wi]
    rw [if_neg (by omega)]
theorem gs_begin {F : Nat} (hF : 10 ≤ F) {z : gw_Sh} {u : gw_St} {x1 x2 lo hi : Int32} {s n : Nat} (hal : gv_al (Int32.ofNat s) lo hi) (hs : s < 5) (hn : (n : Int) = hi.toInt - lo.toInt + 1) : ∃ w, gf_Trains_begin F z u 1 x1 x2 (Int32.ofNat s) lo hi = some (Int32.ofNat (gv_wy n s), w) ∧ w.1 1 6 = Int32.ofNat s ∧ w.1 1 7 = lo ∧ w.1 1 8 = hi ∧ w.1 1 9 = Int32.ofNat (gv_wy n s) ∧ w.1 1 10 = 0 ∧ w.2.1 1 4 = x1.toInt64 ∧ w.2.1 1 5 = x2.toInt64 ∧
    (∀ p q, ¬ (p = 1 ∧ 6 ≤ q ∧ q ≤ 10) → w.1 p q = u.1 p q) ∧ (∀ p q, ¬ (p = 1 ∧ (q = 4 ∨ q = 5)) → w.2.1 p q = u.2.1 p q) ∧ w.2.2 = u.2.2 := by
  have es : (Int32.ofNat s).toInt = s := i32_nat (by omega)
  have hal2 := hal
  unfold gv_al at hal2
  rw [es] at hal2
  obtain ⟨b1, b2, b3, b4, b5, b6, b7⟩ := hal2
  have ed : hi - lo = Int32.ofNat (n - 1) := by
    apply i32_ext
    rw [n32_sub (by omega) (by omega), i32_nat (by omega)]
    omega
  obtain ⟨w, a1, a2, a3, a4, a5⟩ := gs_bg (F := F) (z := z) hs s F 1 (gw_wi (gw_wi (gw_wi (gw_wi (gw_wl (gw_wl u 1 4 x1.toInt64) 1 5 x2.toInt64) 1 6 (Int32.ofNat s)) 1 7 lo) 1 8 hi) 1 9 1) rfl (by omega) (by omega) (by omega)
  have et : gv_it (hi - lo) s 1 1 = Int32.ofNat (gv_wy n s) := by
    rw [ed]
    exact gv_it_d n (by omega) s hs ⟨by omega, by omega, fun q => by omega, fun q => by omega⟩
  have a1' : gf_Trains_begin F z u 1 x1 x2 (Int32.ofNat s) lo hi = some (gv_it (hi - lo) s 1 1, w) := a1
  have a2' : w.1 1 9 = gv_it (hi - lo) s 1 1 := a2
  rw [et] at a1' a2'
  refine ⟨w, a1', (a4 1 6 (by omega)).trans rfl, (a4 1 7 (by omega)).trans rfl, (a4 1 8 (by omega)).trans rfl, a2', a3, by rw [a5]; rfl, by rw [a5]; rfl, fun p q h => ?_, fun p q h => ?_, by rw [a5]; rfl⟩
  · rw [a4 p q (by omega)]
    simp only [gw_wi, gw_wl]
    rw [if_neg (by omega), if_neg (by omega), if_neg (by omega), if_neg (by omega)]
  · rw [a5]
    simp only [gw_wi, gw_wl]
    rw [if_neg (by omega), if_neg (by omega)]
