/-- what a rest tells of a gear that is determined -/
def ro (p n : Nat) (R : Nat → Nat → Int) (m q g ρ : Nat) : Prop := ∀ D s C, QB R m n q D s C → (∀ c, c < n → D * at1 g 1 c = sm (fun l => at1 g 1 (s l) * C l c) q) → ∃ z : Int, ∃ y : Nat → Int, ¬ (p : Int) ∣ z ∧ (∀ c, c < n → z * at1 g 1 c = sm (fun r => y r * R r c) m) ∧ cg p (sm (fun r => y r * R r 60) m) (z * (ρ : Int))
theorem sm_neg {f : Nat → Int} {n : Nat} : sm (fun i => - f i) n = - sm f n := by
  rw [show - sm f n = -1 * sm f n by omega, ← sm_mul]
  exact sm_congr (fun i _ => by omega)
theorem sm_mul' {f : Nat → Int} {n : Nat} {c : Int} : sm f n * c = sm (fun i => f i * c) n := by
  rw [Int.mul_comm, ← sm_mul]
  exact sm_congr (fun i _ => Int.mul_comm _ _)
/-- a sum of sums the other way round -/
theorem sm_swap {z : Nat → Int} {y : Nat → Nat → Int} {R : Nat → Nat → Int} {q m c : Nat} : sm (fun i => z i * sm (fun r => y i r * R r c) m) q = sm (fun r => sm (fun i => z i * y i r) q * R r c) m := by
  have e1 : sm (fun i => z i * sm (fun r => y i r * R r c) m) q = sm (fun i => sm (fun r => z i * y i r * R r c) m) q := sm_congr (fun i _ => by
    rw [← sm_mul]
    exact sm_congr (fun r _ => (Int.mul_assoc _ _ _).symm))
  rw [e1, sm_comm]
  exact sm_congr (fun r _ => sm_mul'.symm)
theorem ro_of {u : gw_St} {p n m q g ρ : Nat} {R : Nat → Nat → Int} {W : Nat → Nat → Nat} {v : Nat → Nat} (hp : Pm p) (hR : Rr u p n q W v) (hS : SI p n R m q W) {a : Nat → Int} (ha : ∀ c, c < n → cg p (at1 g 1 c) (sm (fun i => a i * (W i c : Int)) q)) (hρ : cg p ρ (sm (fun i => a i * (W i 60 : Int)) q)) : ro p n R m q g ρ := by
  intro D s C hQ hg
  obtain ⟨hD, h1, h2, h3, h4⟩ := hQ
  obtain ⟨r1, r2, r3, r4, r5, r6, r7⟩ := id hR
  have hp1 : (1 : Int) < p := by have := hp.1; omega
  have hch : ∀ i, ∃ y : Nat → Int, i < q → ∀ c, c < 61 → cg p (W i c) (sm (fun r => y r * R r c) m) := fun i => by
    by_cases hi : i < q
    · obtain ⟨y, hy⟩ := hS.1 i hi
      exact ⟨y, fun _ => hy⟩
    · exact ⟨fun _ => 0, fun h => absurd h hi⟩
  let y : Nat → Nat → Int := fun i => Classical.choose (hch i)
  have hy : ∀ i, i < q → ∀ c, c < 61 → cg p (W i c) (sm (fun r => y i r * R r c) m) := fun i hi => Classical.choose_spec (hch i) hi
  let V : Nat → Nat → Int := fun i c => if i = q then at1 g 1 c else sm (fun r => y i r * R r c) m
  have hVq : ∀ c, V q c = at1 g 1 c := fun c => if_pos rfl
  have hVi : ∀ i, i < q → ∀ c, V i c = sm (fun r => y i r * R r c) m := fun i hi c => if_neg (by omega)
  have hVD : ∀ i, i < q + 1 → ∀ c, c < n → D * V i c = sm (fun l => V i (s l) * C l c) q := fun i hi c hc => by
    by_cases e : i = q
    · rw [e, hVq, sm_congr (f := fun l => V q (s l) * C l c) (g := fun l => at1 g 1 (s l) * C l c) (fun l _ => by rw [hVq])]
      exact hg c hc
    · rw [hVi i (by omega), sm_congr (f := fun l => V i (s l) * C l c) (g := fun l => sm (fun r => y i r * R r (s l)) m * C l c) (fun l _ => by rw [hVi i (by omega)]), ← sm_mul]
      have e1 : sm (fun r => D * (y i r * R r c)) m = sm (fun r => y i r * sm (fun l => R r (s l) * C l c) q) m := sm_congr (fun r hr => by rw [Int.mul_left_comm, h1 r hr c hc])
      rw [e1]
      exact sm_swap (z := y i) (y := fun r l => R r (s l)) (R := C) (q := m) (m := q) (c := c)
  obtain ⟨z, ⟨i0, hi0, hz0⟩, hs⟩ := dep_p hp1 (k := q) (q := q + 1) (fun i l => V i (s l)) (by omega)
  have hsum : ∀ c, c < n → sm (fun i => z i * V i c) (q + 1) = 0 := fun c hc => by
    have e1 : D * sm (fun i => z i * V i c) (q + 1) = 0 := by
      rw [← sm_mul]
      have e2 : sm (fun i => D * (z i * V i c)) (q + 1) = sm (fun i => z i * sm (fun l => V i (s l) * C l c) q) (q + 1) := sm_congr (fun i hi => by rw [Int.mul_left_comm, hVD i hi c hc])
      rw [e2, sm_swap (z := z) (y := fun i l => V i (s l)) (R := C) (q := q + 1) (m := q) (c := c)]
      exact sm_zero (fun l hl => by rw [hs l hl, Int.zero_mul])
    exact (Int.mul_eq_zero.mp e1).resolve_left hD
  have hsplit : ∀ c, sm (fun i => z i * V i c) (q + 1) = sm (fun i => z i * sm (fun r => y i r * R r c) m) q + z q * at1 g 1 c := fun c => by
    show sm (fun i => z i * V i c) q + z q * V q c = _
    rw [hVq, sm_congr (g := fun i => z i * sm (fun r => y i r * R r c) m) (fun i hi => by rw [hVi i hi])]
  have hWV : ∀ c, c < 61 → cg p (sm (fun i => z i * (W i c : Int)) q) (sm (fun i => z i * sm (fun r => y i r * R r c) m) q) := fun c hc => cg.sm (fun i hi => (hy i hi c hc).mul _)
  have hzq : ¬ (p : Int) ∣ z q := fun hd => by
    apply hz0
    by_cases e : i0 = q
    · rw [e]; exact hd
    · refine hR.ind z (fun c hc => ?_) i0 (by omega)
      refine (hWV c (by omega)).trans ?_
      have e1 := hsum c hc
      rw [hsplit] at e1
      obtain ⟨k, hk⟩ := hd
      refine ⟨-(k * at1 g 1 c), ?_⟩
      rw [hk] at e1
      rw [Int.mul_neg, ← Int.mul_assoc]
      omega
  refine ⟨z q, fun r => - sm (fun i => z i * y i r) q, hzq, fun c hc => ?_, ?_⟩
  · have e1 := hsum c hc
    rw [hsplit, sm_swap] at e1
    have e2 : sm (fun r => - sm (fun i => z i * y i r) q * R r c) m = - sm (fun r => sm (fun i => z i * y i r) q * R r c) m := by
      rw [← sm_neg]
      exact sm_congr (fun r _ => Int.neg_mul _ _)
    rw [e2]
    omega
  · have e2 : sm (fun r => - sm (fun i => z i * y i r) q * R r 60) m = - sm (fun i => z i * sm (fun r => y i r * R r 60) m) q := by
      rw [sm_swap, ← sm_neg]
      exact sm_congr (fun r _ => Int.neg_mul _ _)
    rw [e2]
    -- the factors agree
    have e3 : ∀ j, j < q → cg p (z q * a j) (-(z j)) := fun j hj => by
      have hv := (r5 j hj).2
      have d1 := (ha (v j) hv).mul (z q)
      rw [sm_one hj (fun i hi hne => by rw [r7 i j hi hj, if_neg hne]; simp), r7 j j hj hj, if_pos rfl, show a j * ((1 : Nat) : Int) = a j by simp] at d1
      have d2 := hsum (v j) hv
      rw [hsplit] at d2
      have d3 := hWV (v j) (by omega)
      rw [sm_one hj (fun i hi hne => by rw [r7 i j hi hj, if_neg hne]; simp), r7 j j hj hj, if_pos rfl, show z j * ((1 : Nat) : Int) = z j by simp] at d3
      rw [show z q * at1 g 1 (v j) = - sm (fun i => z i * sm (fun r => y i r * R r (v j)) m) q by omega] at d1
      exact d1.symm.trans d3.neg.symm
    refine cg.trans (hWV 60 (by omega)).neg.symm ?_
    refine cg.trans ?_ (hρ.mul (z q)).symm
    rw [← sm_mul, ← sm_neg]
    refine cg.sm (fun i hi => ?_)
    have := (e3 i hi).mul' (W i 60 : Int)
    rw [Int.neg_mul, Int.mul_assoc] at this
    exact this.symm
