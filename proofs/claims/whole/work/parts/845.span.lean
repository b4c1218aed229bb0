/-! vectors over the whole numbers and modulo p -/
def cg (p a b : Int) : Prop := p ∣ a - b
theorem cg.refl {p : Int} (a : Int) : cg p a a := ⟨0, by omega⟩
theorem cg.symm {p a b : Int} (h : cg p a b) : cg p b a := by
  obtain ⟨k, hk⟩ := h
  exact ⟨-k, by rw [Int.mul_neg]; omega⟩
theorem cg.trans {p a b c : Int} (h : cg p a b) (g : cg p b c) : cg p a c := by
  obtain ⟨k, hk⟩ := h
  obtain ⟨l, hl⟩ := g
  exact ⟨k + l, by rw [Int.mul_add]; omega⟩
theorem cg.add {p a b c d : Int} (h : cg p a b) (g : cg p c d) : cg p (a + c) (b + d) := by
  obtain ⟨k, hk⟩ := h
  obtain ⟨l, hl⟩ := g
  exact ⟨k + l, by rw [Int.mul_add]; omega⟩
theorem cg.mul {p a b : Int} (c : Int) (h : cg p a b) : cg p (c * a) (c * b) := by
  obtain ⟨k, hk⟩ := h
  exact ⟨c * k, by rw [← Int.mul_sub, hk, Int.mul_left_comm]⟩
theorem cg.mul' {p a b : Int} (c : Int) (h : cg p a b) : cg p (a * c) (b * c) := by
  rw [Int.mul_comm a, Int.mul_comm b]
  exact h.mul c
theorem cg.neg {p a b : Int} (h : cg p a b) : cg p (-a) (-b) := by
  have := h.mul (-1)
  rw [show -1 * a = -a by omega, show -1 * b = -b by omega] at this
  exact this
theorem cg.sub {p a b c d : Int} (h : cg p a b) (g : cg p c d) : cg p (a - c) (b - d) := h.add g.neg
theorem cg.mod {p a : Int} : cg p (a % p) a := by
  have := Int.emod_add_mul_ediv a p
  exact ⟨-(a / p), by rw [Int.mul_neg]; omega⟩
theorem cg.sm {p : Int} {f g : Nat → Int} : ∀ {n : Nat}, (∀ i, i < n → cg p (f i) (g i)) → cg p (sm f n) (sm g n)
  | 0, _ => cg.refl 0
  | n + 1, h => (cg.sm (fun i hi => h i (by omega))).add (h n (by omega))
theorem cg.zero {p a : Int} (h : cg p a 0) : p ∣ a := by
  obtain ⟨k, hk⟩ := h
  exact ⟨k, by omega⟩
/-- a basis over the fractions of the first m vectors of R, on n places -/
def QB (R : Nat → Nat → Int) (m n k : Nat) (D : Int) (s : Nat → Nat) (C : Nat → Nat → Int) : Prop := D ≠ 0 ∧ (∀ r, r < m → ∀ c, c < n → D * R r c = sm (fun l => R r (s l) * C l c) k) ∧ (∀ l, l < k → ∃ y : Nat → Int, ∀ c, c < n → C l c = sm (fun r => y r * R r c) m) ∧ (∀ l j, l < k → j < k → C l (s j) = if l = j then D else 0) ∧ (∀ l, l < k → s l < n)
/-- v is a sum of the first m of R modulo p, on n places -/
def Sp (p : Int) (R : Nat → Nat → Int) (m n : Nat) (v : Nat → Int) : Prop := ∃ y : Nat → Int, ∀ c, c < n → cg p (v c) (sm (fun r => y r * R r c) m)
/-- independent vectors of the span are no more than the rank -/
theorem ind_le {R : Nat → Nat → Int} {m n k : Nat} {D : Int} {s : Nat → Nat} {C : Nat → Nat → Int} {p : Int} (hp : 1 < p) (hQ : QB R m n k D s C) {X : Nat → Nat → Int} {q : Nat} (hX : ∀ i, i < q → Sp p R m n (X i)) (hI : ∀ z : Nat → Int, (∀ c, c < n → cg p (sm (fun i => z i * X i c) q) 0) → ∀ i, i < q → p ∣ z i) : q ≤ k := by
  apply Classical.byContradiction
  intro hq
  obtain ⟨hD, h1, h2, h3, h4⟩ := hQ
  have hch : ∀ i, ∃ y : Nat → Int, i < q → ∀ c, c < n → cg p (X i c) (sm (fun r => y r * R r c) m) := fun i => by
    by_cases hi : i < q
    · obtain ⟨y, hy⟩ := hX i hi
      exact ⟨y, fun _ => hy⟩
    · exact ⟨fun _ => 0, fun h => absurd h hi⟩
  let y : Nat → Nat → Int := fun i => Classical.choose (hch i)
  have hy : ∀ i, i < q → ∀ c, c < n → cg p (X i c) (sm (fun r => y i r * R r c) m) := fun i hi => Classical.choose_spec (hch i) hi
  obtain ⟨z, ⟨i, hi, hz⟩, hs⟩ := dep_p hp (k := k) (q := q) (fun i l => sm (fun r => y i r * R r (s l)) m) (by omega)
  apply hz
  refine hI z (fun c hc => ?_) i hi
  have e1 : cg p (sm (fun i => z i * X i c) q) (sm (fun i => z i * sm (fun r => y i r * R r c) m) q) := cg.sm (fun i hi => (hy i hi c hc).mul _)
  have e2 : sm (fun i => z i * sm (fun r => y i r * R r c) m) q = 0 := by
    have e3 : D * sm (fun i => z i * sm (fun r => y i r * R r c) m) q = 0 := by
      rw [← sm_mul]
      have e4 : ∀ i, i < q → D * (z i * sm (fun r => y i r * R r c) m) = sm (fun l => C l c * (z i * sm (fun r => y i r * R r (s l)) m)) k := fun i _ => by
        rw [Int.mul_left_comm, ← sm_mul]
        have e5 : sm (fun r => D * (y i r * R r c)) m = sm (fun r => sm (fun l => C l c * (y i r * R r (s l))) k) m := sm_congr (fun r hr => by
          rw [Int.mul_left_comm, h1 r hr c hc, ← sm_mul]
          exact sm_congr (fun l _ => by rw [← Int.mul_assoc, Int.mul_comm])
          )
        rw [e5, sm_comm, ← sm_mul]
        refine sm_congr (fun l _ => ?_)
        rw [sm_mul, Int.mul_left_comm]
      rw [sm_congr e4, sm_comm]
      refine sm_zero (fun l hl => ?_)
      rw [sm_mul, hs l hl, Int.mul_zero]
    exact (Int.mul_eq_zero.mp e3).resolve_left hD
  rw [e2] at e1
  exact e1
/-- rows that span all are no fewer, if p does not divide D -/
theorem ind_ge {R : Nat → Nat → Int} {m n k : Nat} {D : Int} {s : Nat → Nat} {C : Nat → Nat → Int} {p : Int} (hp : 1 < p) (hpm : ∀ a b : Int, p ∣ a * b → p ∣ a ∨ p ∣ b) (hQ : QB R m n k D s C) (hpD : ¬ p ∣ D) {X : Nat → Nat → Int} {q : Nat} (hX : ∀ r, r < m → Sp p X q n (R r)) : k ≤ q := by
  apply Classical.byContradiction
  intro hq
  obtain ⟨hD, h1, h2, h3, h4⟩ := hQ
  have hC : ∀ l, l < k → Sp p X q n (C l) := fun l hl => by
    obtain ⟨y, hy⟩ := h2 l hl
    have hch : ∀ r, ∃ x : Nat → Int, r < m → ∀ c, c < n → cg p (R r c) (sm (fun i => x i * X i c) q) := fun r => by
      by_cases hr : r < m
      · obtain ⟨x, hx⟩ := hX r hr
        exact ⟨x, fun _ => hx⟩
      · exact ⟨fun _ => 0, fun h => absurd h hr⟩
    let x : Nat → Nat → Int := fun r => Classical.choose (hch r)
    have hx : ∀ r, r < m → ∀ c, c < n → cg p (R r c) (sm (fun i => x r i * X i c) q) := fun r hr => Classical.choose_spec (hch r) hr
    refine ⟨fun i => sm (fun r => y r * x r i) m, fun c hc => ?_⟩
    rw [hy c hc]
    have e1 : cg p (sm (fun r => y r * R r c) m) (sm (fun r => y r * sm (fun i => x r i * X i c) q) m) := cg.sm (fun r hr => (hx r hr c hc).mul _)
    have e2 : sm (fun r => y r * sm (fun i => x r i * X i c) q) m = sm (fun i => sm (fun r => y r * x r i) m * X i c) q := by
      have e3 : sm (fun r => y r * sm (fun i => x r i * X i c) q) m = sm (fun r => sm (fun i => X i c * (y r * x r i)) q) m := sm_congr (fun r _ => by
        rw [← sm_mul]
        exact sm_congr (fun i _ => by rw [← Int.mul_assoc, Int.mul_comm]))
      rw [e3, sm_comm]
      exact sm_congr (fun i _ => by rw [sm_mul, Int.mul_comm])
    rw [e2] at e1
    exact e1
  have hch : ∀ l, ∃ x : Nat → Int, l < k → ∀ c, c < n → cg p (C l c) (sm (fun i => x i * X i c) q) := fun l => by
    by_cases hl : l < k
    · obtain ⟨x, hx⟩ := hC l hl
      exact ⟨x, fun _ => hx⟩
    · exact ⟨fun _ => 0, fun h => absurd h hl⟩
  let x : Nat → Nat → Int := fun l => Classical.choose (hch l)
  have hx : ∀ l, l < k → ∀ c, c < n → cg p (C l c) (sm (fun i => x l i * X i c) q) := fun l hl => Classical.choose_spec (hch l) hl
  obtain ⟨z, ⟨j, hj, hz⟩, hs⟩ := dep_p hp (k := q) (q := k) x (by omega)
  apply hz
  have e1 : cg p (sm (fun l => z l * C l (s j)) k) (sm (fun l => z l * sm (fun i => x l i * X i (s j)) q) k) := cg.sm (fun l hl => (hx l hl (s j) (h4 j hj)).mul _)
  have e2 : sm (fun l => z l * sm (fun i => x l i * X i (s j)) q) k = 0 := by
    have e3 : sm (fun l => z l * sm (fun i => x l i * X i (s j)) q) k = sm (fun l => sm (fun i => X i (s j) * (z l * x l i)) q) k := sm_congr (fun l _ => by
      rw [← sm_mul]
      exact sm_congr (fun i _ => by rw [← Int.mul_assoc, Int.mul_comm]))
    rw [e3, sm_comm]
    exact sm_zero (fun i hi => by rw [sm_mul, hs i hi, Int.mul_zero])
  have e4 : sm (fun l => z l * C l (s j)) k = z j * D := by
    rw [sm_one hj (fun l hl hne => by rw [h3 l j hl hj, if_neg hne, Int.mul_zero]), h3 j j hj hj, if_pos rfl]
  rw [e2, e4] at e1
  exact (hpm _ _ e1.zero).resolve_right hpD
theorem Pm.int {p : Nat} (h : Pm p) (a b : Int) (hab : (p : Int) ∣ a * b) : (p : Int) ∣ a ∨ (p : Int) ∣ b := by
  have h1 : p ∣ (a * b).natAbs := Int.natAbs_dvd_natAbs.mpr hab
  rw [Int.natAbs_mul] at h1
  rcases h.2 _ _ h1 with q | q
  · exact Or.inl (Int.natAbs_dvd_natAbs.mp q)
  · exact Or.inr (Int.natAbs_dvd_natAbs.mp q)
