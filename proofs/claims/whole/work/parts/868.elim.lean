/-! the elimination over the whole numbers tells the ranks -/
def exr {α : Type} (f : Nat → α) (k : Nat) (v : α) (i : Nat) : α := if i = k then v else f i
theorem eD_congr {A A' : Nat → Nat → Int} {s s' : Nat → Nat} {k : Nat} (hA : ∀ i, i < k → A' i = A i) (hs : ∀ l, l < k → s' l = s l) : eD A' s' k = eD A s k := dt_congr (fun i c hi hc => by unfold eB; rw [hA i hi, hs c hc])
theorem eC_congr {A A' : Nat → Nat → Int} {s s' : Nat → Nat} {k l c : Nat} (hA : ∀ i, i < k → A' i = A i) (hs : ∀ l, l < k → s' l = s l) : eC A' s' k l c = eC A s k l c := dt_congr (fun i m hi hm => by unfold rp eB; dsimp only; rw [hA i hi, hs m hm])
theorem eN_congr {A A' : Nat → Nat → Int} {s s' : Nat → Nat} {k c : Nat} {a : Nat → Int} (hA : ∀ i, i < k → A' i = A i) (hs : ∀ l, l < k → s' l = s l) : eN A' s' k a c = eN A s k a c := by
  unfold eN
  rw [eD_congr hA hs, sm_congr (g := fun l => a (s l) * eC A s k l c) (fun l hl => by rw [hs l hl, eC_congr hA hs])]
/-- the kept rows A at the columns s of the first m of R, on n places -/
def El (R : Nat → Nat → Int) (m n : Nat) (A : Nat → Nat → Int) (s : Nat → Nat) (k : Nat) : Prop := eI A s k ∧ (∀ l, l < k → s l < n) ∧ (∀ l j, l < k → j < k → s l = s j → l = j) ∧ (∀ i, i < k → ∃ r, r < m ∧ A i = R r) ∧ (∀ r, r < m → ∀ c, c < n → eN A s k (R r) c = 0)
theorem El.zero {R : Nat → Nat → Int} {n : Nat} {A : Nat → Nat → Int} {s : Nat → Nat} : El R 0 n A s 0 := ⟨eI_zero A s, fun l hl => absurd hl (Nat.not_lt_zero l), fun l j hl => absurd hl (Nat.not_lt_zero l), fun l hl => absurd hl (Nat.not_lt_zero l), fun l hl => absurd hl (Nat.not_lt_zero l)⟩
theorem El.qb {R : Nat → Nat → Int} {m n k : Nat} {A : Nat → Nat → Int} {s : Nat → Nat} (h : El R m n A s k) : QB R m n k (eD A s k) s (eC A s k) := by
  obtain ⟨h1, h2, h3, h4, h5⟩ := h
  refine ⟨h1.1, fun r hr c hc => ?_, fun l hl => ?_, fun l j hl hj => eC_piv hl hj, h2⟩
  · have := h5 r hr c hc
    unfold eN at this
    omega
  · obtain ⟨y, hy⟩ := eC_comb A s hl
    apply sp0.mp
    have e1 : Sp 0 A k n (eC A s k l) := sp0.mpr ⟨y, fun c _ => hy c⟩
    refine e1.trans (fun i hi => ?_)
    obtain ⟨r, hr, e⟩ := h4 i hi
    rw [e]
    exact Sp.mem hr
theorem El.rk {R : Nat → Nat → Int} {m n k : Nat} {A : Nat → Nat → Int} {s : Nat → Nat} (h : El R m n A s k) : Rk R m n k (eD A s k) := ⟨s, eC A s k, h.qb⟩
/-- a vector that the rows know -/
theorem El.skip {R : Nat → Nat → Int} {m n k : Nat} {A : Nat → Nat → Int} {s : Nat → Nat} (h : El R m n A s k) (h0 : ∀ c, c < n → eN A s k (R m) c = 0) : El R (m + 1) n A s k := by
  obtain ⟨h1, h2, h3, h4, h5⟩ := h
  refine ⟨h1, h2, h3, fun i hi => ?_, fun r hr c hc => ?_⟩
  · obtain ⟨r, hr, e⟩ := h4 i hi
    exact ⟨r, by omega, e⟩
  · by_cases e : r = m
    · rw [e]; exact h0 c hc
    · exact h5 r (by omega) c hc
/-- a vector that they do not know: it is kept at the place a -/
theorem El.step {R : Nat → Nat → Int} {m n k a : Nat} {A : Nat → Nat → Int} {s : Nat → Nat} (h : El R m n A s k) (ha : a < n) (hN : eN A s k (R m) a ≠ 0) : El R (m + 1) n (exr A k (R m)) (exr s k a) (k + 1) ∧ eD (exr A k (R m)) (exr s k a) (k + 1) = eN A s k (R m) a ∧ (∀ c, eC (exr A k (R m)) (exr s k a) (k + 1) k c = eN A s k (R m) c) ∧ ∀ i, i < k → ∀ c, eD A s k * eC (exr A k (R m)) (exr s k a) (k + 1) i c = eN A s k (R m) a * eC A s k i c - eC A s k i a * eN A s k (R m) c := by
  obtain ⟨h1, h2, h3, h4, h5⟩ := h
  have hA : ∀ i, i < k → exr A k (R m) i = A i := fun i hi => if_neg (by omega)
  have hs : ∀ l, l < k → exr s k a l = s l := fun l hl => if_neg (by omega)
  have hAk : exr A k (R m) k = R m := if_pos rfl
  have hsk : exr s k a k = a := if_pos rfl
  have hI : eI (exr A k (R m)) (exr s k a) k := by
    refine ⟨by rw [eD_congr hA hs]; exact h1.1, fun r hr c => ?_⟩
    rw [eD_congr hA hs, hA r hr, sm_congr (g := fun l => A r (s l) * eC A s k l c) (fun l hl => by rw [hs l hl, eC_congr hA hs])]
    exact h1.2 r hr c
  have hNk : eN (exr A k (R m)) (exr s k a) k (exr A k (R m) k) (exr s k a k) = eN A s k (R m) a := by rw [hAk, hsk, eN_congr hA hs]
  obtain ⟨s1, s2⟩ := e_step hI (by rw [hNk]; exact hN)
  have hD' : eD (exr A k (R m)) (exr s k a) (k + 1) = eN A s k (R m) a := by rw [eD_S, hNk]
  have hC' : ∀ c, eC (exr A k (R m)) (exr s k a) (k + 1) k c = eN A s k (R m) c := fun c => by rw [eC_new, hAk, eN_congr hA hs]
  have hCi : ∀ i, i < k → ∀ c, eD A s k * eC (exr A k (R m)) (exr s k a) (k + 1) i c = eN A s k (R m) a * eC A s k i c - eC A s k i a * eN A s k (R m) c := fun i hi c => by
    have := s2 i hi c
    rw [hNk, hAk, hsk, eD_congr hA hs, eC_congr hA hs, eC_congr hA hs, eN_congr hA hs] at this
    exact this
  have hnot : ∀ l, l < k → s l ≠ a := fun l hl e => hN (by rw [← e]; exact eN_piv hl)
  refine ⟨⟨s1, fun l hl => ?_, fun l j hl hj e => ?_, fun i hi => ?_, fun r hr c hc => ?_⟩, hD', hC', hCi⟩
  · by_cases q : l = k
    · rw [q, hsk]; exact ha
    · rw [hs l (by omega)]; exact h2 l (by omega)
  · by_cases q : l = k
    · by_cases q' : j = k
      · omega
      · rw [q, hsk, hs j (by omega)] at e
        exact absurd e.symm (hnot j (by omega))
    · by_cases q' : j = k
      · rw [q', hsk, hs l (by omega)] at e
        exact absurd e (hnot l (by omega))
      · rw [hs l (by omega), hs j (by omega)] at e
        exact h3 l j (by omega) (by omega) e
  · by_cases q : i = k
    · exact ⟨m, by omega, by rw [q, hAk]⟩
    · obtain ⟨r, hr, e⟩ := h4 i (by omega)
      exact ⟨r, by omega, by rw [hA i (by omega), e]⟩
  · by_cases q : r = m
    · subst q
      have := s1.2 k (by omega) c
      rw [hAk] at this
      unfold eN
      rw [this]
      omega
    · have hr2 := h5 r (by omega)
      have w1 := hr2 c hc
      have w2 := hr2 a ha
      unfold eN at w1 w2
      have hDne := h1.1
      have key : eD A s k * eN (exr A k (R m)) (exr s k a) (k + 1) (R r) c = 0 := by
        unfold eN
        rw [Int.mul_sub, hD']
        have e1 : sm (fun l => R r (exr s k a l) * eC (exr A k (R m)) (exr s k a) (k + 1) l c) (k + 1) = sm (fun l => R r (s l) * eC (exr A k (R m)) (exr s k a) (k + 1) l c) k + R r a * eN A s k (R m) c := by
          show sm (fun l => R r (exr s k a l) * eC (exr A k (R m)) (exr s k a) (k + 1) l c) k + R r (exr s k a k) * eC (exr A k (R m)) (exr s k a) (k + 1) k c = _
          rw [hsk, hC' c, sm_congr (g := fun l => R r (s l) * eC (exr A k (R m)) (exr s k a) (k + 1) l c) (fun l hl => by rw [hs l hl])]
        rw [e1, Int.mul_add, ← sm_mul]
        have e2 : sm (fun l => eD A s k * (R r (s l) * eC (exr A k (R m)) (exr s k a) (k + 1) l c)) k = eN A s k (R m) a * sm (fun l => R r (s l) * eC A s k l c) k - eN A s k (R m) c * sm (fun l => R r (s l) * eC A s k l a) k := by
          have e3 : sm (fun l => eD A s k * (R r (s l) * eC (exr A k (R m)) (exr s k a) (k + 1) l c)) k = sm (fun l => eN A s k (R m) a * (R r (s l) * eC A s k l c) + (-(eN A s k (R m) c)) * (R r (s l) * eC A s k l a)) k := sm_congr (fun l hl => by
            rw [Int.mul_left_comm, hCi l hl c, Int.mul_sub, Int.mul_left_comm (R r (s l)) (eN A s k (R m) a), Int.neg_mul, show R r (s l) * (eC A s k l a * eN A s k (R m) c) = eN A s k (R m) c * (R r (s l) * eC A s k l a) by rw [← Int.mul_assoc, Int.mul_comm]]
            omega)
          rw [e3, sm_add, sm_mul, sm_mul, Int.neg_mul]
          omega
        rw [e2, show sm (fun l => R r (s l) * eC A s k l c) k = eD A s k * R r c by omega, show sm (fun l => R r (s l) * eC A s k l a) k = eD A s k * R r a by omega]
        rw [Int.mul_left_comm (eN A s k (R m) a) (eD A s k) (R r c), show eN A s k (R m) c * (eD A s k * R r a) = eD A s k * (R r a * eN A s k (R m) c) by rw [Int.mul_left_comm, Int.mul_comm (eN A s k (R m) c)]]
        omega
      exact (Int.mul_eq_zero.mp key).resolve_left hDne
