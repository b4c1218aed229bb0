/-- the same values at the places before n -/
def Sme (a a' : Nat → Nat) (n : Nat) : Prop := (∀ i, i < n → ∃ j, j < n ∧ a' i = a j) ∧ ∀ j, j < n → ∃ i, i < n ∧ a' i = a j
theorem Sme.refl {a : Nat → Nat} {n : Nat} : Sme a a n := ⟨fun i hi => ⟨i, hi, rfl⟩, fun i hi => ⟨i, hi, rfl⟩⟩
theorem Sme.trans {a b c : Nat → Nat} {n : Nat} (h : Sme a b n) (g : Sme b c n) : Sme a c n := by
  refine ⟨fun i hi => ?_, fun j hj => ?_⟩
  · obtain ⟨j, hj, e⟩ := g.1 i hi
    obtain ⟨k, hk, e2⟩ := h.1 j hj
    exact ⟨k, hk, by rw [e, e2]⟩
  · obtain ⟨i, hi, e⟩ := h.2 j hj
    obtain ⟨k, hk, e2⟩ := g.2 i hi
    exact ⟨k, hk, by rw [e2, e]⟩
theorem Sme.up {a b : Nat → Nat} {n m : Nat} (h : Sme a b n) (hm : n ≤ m) (e : ∀ i, n ≤ i → b i = a i) : Sme a b m := by
  refine ⟨fun i hi => ?_, fun j hj => ?_⟩
  · by_cases q : i < n
    · obtain ⟨j, hj, e1⟩ := h.1 i q
      exact ⟨j, by omega, e1⟩
    · exact ⟨i, hi, e i (by omega)⟩
  · by_cases q : j < n
    · obtain ⟨i, hi, e1⟩ := h.2 j q
      exact ⟨i, by omega, e1⟩
    · exact ⟨j, hj, e j (by omega)⟩
theorem swp_j {a : Nat → Nat} {i j : Nat} : swp a i j j = a i := if_pos rfl
theorem swp_i {a : Nat → Nat} {i j : Nat} : swp a i j i = a j := by
  unfold swp
  by_cases e : i = j
  · rw [if_pos e, e]
  · rw [if_neg e, if_pos rfl]
theorem swp_ne {a : Nat → Nat} {i j k : Nat} (h1 : k ≠ i) (h2 : k ≠ j) : swp a i j k = a k := by
  unfold swp
  rw [if_neg h2, if_neg h1]
theorem Sme.swp {a : Nat → Nat} {i j n : Nat} (hi : i < n) (hj : j < n) : Sme a (swp a i j) n := by
  refine ⟨fun k hk => ?_, fun k hk => ?_⟩
  · by_cases q1 : k = j
    · exact ⟨i, hi, by rw [q1, swp_j]⟩
    · by_cases q2 : k = i
      · exact ⟨j, hj, by rw [q2, swp_i]⟩
      · exact ⟨k, hk, swp_ne q2 q1⟩
  · by_cases q1 : k = j
    · exact ⟨i, hi, by rw [q1, swp_i]⟩
    · by_cases q2 : k = i
      · exact ⟨j, hj, by rw [q2, swp_j]⟩
      · exact ⟨k, hk, swp_ne q2 q1⟩
/-- children are not greater, from lo on, but for those of k -/
def Hpx (a : Nat → Nat) (lo n k : Nat) : Prop := ∀ i, lo ≤ i → i ≠ k → ∀ c, c = 2 * i + 1 ∨ c = 2 * i + 2 → c < n → a c ≤ a i
def Hp1 (a : Nat → Nat) (lo n : Nat) : Prop := ∀ i, lo ≤ i → ∀ c, c = 2 * i + 1 ∨ c = 2 * i + 2 → c < n → a c ≤ a i
/-- one step down -/
theorem hp_step {a : Nat → Nat} {lo n k c : Nat} (hlo : lo ≤ k) (h1 : Hpx a lo n k) (h2 : ∀ i, lo ≤ i → k = 2 * i + 1 ∨ k = 2 * i + 2 → ∀ g, g = 2 * k + 1 ∨ g = 2 * k + 2 → g < n → a g ≤ a i) (hc : c = 2 * k + 1 ∨ c = 2 * k + 2) (hcn : c < n) (hmax : ∀ g, g = 2 * k + 1 ∨ g = 2 * k + 2 → g < n → a g ≤ a c) (hlt : a k < a c) : Hpx (swp a c k) lo n c ∧ ∀ i, lo ≤ i → c = 2 * i + 1 ∨ c = 2 * i + 2 → ∀ g, g = 2 * c + 1 ∨ g = 2 * c + 2 → g < n → swp a c k g ≤ swp a c k i := by
  refine ⟨fun i hi hne g hg hgn => ?_, fun i hi hci g hg hgn => ?_⟩
  · by_cases q : i = k
    · subst q
      rw [swp_j]
      by_cases q2 : g = c
      · rw [q2, swp_i]; omega
      · rw [swp_ne q2 (by omega)]
        exact hmax g hg hgn
    · rw [swp_ne (k := i) hne q]
      by_cases q3 : g = k
      · rw [q3, swp_j]
        exact h2 i hi (by omega) c hc hcn
      · have q4 : g ≠ c := by omega
        rw [swp_ne q4 q3]
        exact h1 i hi q g hg hgn
  · have e : i = k := by omega
    subst e
    rw [swp_j, swp_ne (by omega) (by omega)]
    exact h1 c (by omega) (by omega) g hg hgn
/-- sink -/
theorem gm_sink {F : Nat} (hF : 50000 ≤ F) {u : gw_St} {a : Nat → Nat} {N n lo : Nat} (hr : gv_Rf u) (h : Hv u a N) (hN : N ≤ 37820) (hn : n ≤ N) (hlo : lo < N) (hp : Hp1 a (lo + 1) n) : ∃ (w : gw_St) (a' : Nat → Nat), gf_Model_sink F gv_z u 670 (Int32.ofNat lo) (Int32.ofNat n) = some w ∧ Hv w a' N ∧ Mh u w ∧ Hp1 a' lo n ∧ Sme a a' n ∧ ∀ i, n ≤ i → a' i = a i := by
  have run : ∀ (j k f : Nat) (w : gw_St) (a1 : Nat → Nat), n ≤ k + j → k < N → lo ≤ k → j < f → Hv w a1 N → Mh u w → Hpx a1 lo n k → (∀ i, lo ≤ i → k = 2 * i + 1 ∨ k = 2 * i + 2 → ∀ g, g = 2 * k + 1 ∨ g = 2 * k + 2 → g < n → a1 g ≤ a1 i) → Sme a a1 n → (∀ i, n ≤ i → a1 i = a i) → ∃ (w' : gw_St) (a' : Nat → Nat), gf_Model_sink_L5 F gv_z (f + 1) w 670 (Int32.ofNat n) (Int32.ofNat k) 1 = some w' ∧ Hv w' a' N ∧ Mh u w' ∧ Hp1 a' lo n ∧ Sme a a' n ∧ ∀ i, n ≤ i → a' i = a i := by
    intro j
    induction j with
    | zero =>
      intro k f w a1 h1 h2 hl h3 e1 e2 e3 e4 e5 e6
      refine ⟨w, a1, ?_, e1, e2, fun i hi c hc hcn => e3 i hi (by omega) c hc hcn, e5, e6⟩
      show gf_Model_sink_S5 F gv_z _ w 670 (Int32.ofNat n) (Int32.ofNat k) 1 = _
      unfold gf_Model_sink_S5 gf_Model_sink_b77
      rw [if_neg (by decide), show (2 : Int32) * Int32.ofNat k = Int32.ofNat (2 * k) from gi_mul (a := 2), gw_iS, if_pos ((gi_le (by omega) (by omega)).mpr (by omega))]
    | succ j ih =>
      intro k f w a1 h1 h2 hl h3 e1 e2 e3 e4 e5 e6
      obtain ⟨f, rfl⟩ : ∃ q, f = q + 1 := ⟨f - 1, by omega⟩
      have rw' := hr.mh e2
      by_cases c0 : n ≤ 2 * k + 1
      · refine ⟨w, a1, ?_, e1, e2, fun i hi c hc hcn => e3 i hi (by omega) c hc hcn, e5, e6⟩
        show gf_Model_sink_S5 F gv_z _ w 670 (Int32.ofNat n) (Int32.ofNat k) 1 = _
        unfold gf_Model_sink_S5 gf_Model_sink_b77
        rw [if_neg (by decide), show (2 : Int32) * Int32.ofNat k = Int32.ofNat (2 * k) from gi_mul (a := 2), gw_iS, if_pos ((gi_le (by omega) (by omega)).mpr c0)]
      · -- the greater child
        have fin : ∀ c, c = 2 * k + 1 ∨ c = 2 * k + 2 → c < n → (∀ g, g = 2 * k + 1 ∨ g = 2 * k + 2 → g < n → a1 g ≤ a1 c) → ∃ (w' : gw_St) (a' : Nat → Nat), gf_Model_sink_b50 F gv_z (gf_Model_sink_L5 F gv_z (f + 1)) w 670 (Int32.ofNat n) (Int32.ofNat k) (Int32.ofNat c) = some w' ∧ Hv w' a' N ∧ Mh u w' ∧ Hp1 a' lo n ∧ Sme a a' n ∧ ∀ i, n ≤ i → a' i = a i := by
          intro c hc hcn hmax
          unfold gf_Model_sink_b50 gf_Model_sink_b71
          rw [gm_later rw' e1 hN (show c < N by omega) h2]
          simp only [gf_cl]
          by_cases q : a1 k < a1 c
          · rw [if_pos q, if_neg (by decide)]
            obtain ⟨w1, b1, b2, b3⟩ := gm_swap (F := F) rw' e1 hN (show c < N by omega) h2
            obtain ⟨s1, s2⟩ := hp_step hl e3 e4 hc hcn hmax q
            rw [b1, Option.bind_some]
            refine ih c f w1 (swp a1 c k) (by omega) (by omega) (by omega) (by omega) b2 (e2.trans b3) s1 s2 (e5.trans (Sme.swp hcn (by omega))) (fun i hi => ?_)
            rw [swp_ne (by omega) (by omega)]
            exact e6 i hi
          · rw [if_neg q, if_pos rfl]
            refine ⟨w, a1, ?_, e1, e2, fun i hi g hg hgn => ?_, e5, e6⟩
            · show gf_Model_sink_S5 F gv_z _ w 670 (Int32.ofNat n) (Int32.ofNat c) 0 = _
              unfold gf_Model_sink_S5 gf_Model_sink_b77
              rw [if_pos rfl]
            · by_cases z : i = k
              · subst z
                have := hmax g hg hgn
                omega
              · exact e3 i hi z g hg hgn
        show ∃ (w' : gw_St) (a' : Nat → Nat), gf_Model_sink_S5 F gv_z _ w 670 (Int32.ofNat n) (Int32.ofNat k) 1 = some w' ∧ _
        unfold gf_Model_sink_S5
        rw [if_neg (by decide), show (2 : Int32) * Int32.ofNat k = Int32.ofNat (2 * k) from gi_mul (a := 2), gw_iS, if_neg (fun e => c0 ((gi_le (by omega) (by omega)).mp e))]
        simp only [gf_nm]
        rw [gw_iS]
        by_cases c1 : n ≤ 2 * k + 1 + 1
        · rw [if_pos ((gi_le (by omega) (by omega)).mpr c1)]
          exact fin (2 * k + 1) (Or.inl rfl) (by omega) (fun g hg hgn => by rw [show g = 2 * k + 1 by omega]; exact Nat.le_refl _)
        · rw [if_neg (fun e => c1 ((gi_le (by omega) (by omega)).mp e)), gm_later rw' e1 hN (show 2 * k + 1 + 1 < N by omega) (show 2 * k + 1 < N by omega)]
          simp only [gf_cl]
          by_cases q : a1 (2 * k + 1) < a1 (2 * k + 1 + 1)
          · rw [if_pos q, if_neg (by decide)]
            exact fin (2 * k + 1 + 1) (Or.inr rfl) (by omega) (fun g hg hgn => by
              rcases hg with e | e
              · rw [e]; omega
              · rw [e]; exact Nat.le_refl _)
          · rw [if_neg q, if_pos rfl]
            exact fin (2 * k + 1) (Or.inl rfl) (by omega) (fun g hg hgn => by
              rcases hg with e | e
              · rw [e]; exact Nat.le_refl _
              · rw [e]
                exact Nat.le_of_not_lt q)
  obtain ⟨f, hf⟩ : ∃ f, F = f + 1 := ⟨F - 1, by omega⟩
  show ∃ (w : gw_St) (a' : Nat → Nat), gf_Model_sink_b0 F gv_z u 670 (Int32.ofNat lo) (Int32.ofNat n) = some w ∧ _
  unfold gf_Model_sink_b0
  have := run n lo f u a (by omega) hlo (Nat.le_refl _) (by omega) h Mh.refl (fun i hi hne c hc hcn => hp i (by omega) c hc hcn) (fun i hi hk => by omega) Sme.refl (fun _ _ => rfl)
  rw [show gf_Model_sink_L5 F gv_z F = gf_Model_sink_L5 F gv_z (f + 1) from by rw [← hf]]
  exact this
