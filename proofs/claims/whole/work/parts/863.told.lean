theorem cg0 {a b : Int} : cg 0 a b ↔ a = b := by
  constructor
  · intro h
    have := Int.zero_dvd.mp h
    omega
  · intro h
    rw [h]
    exact cg.refl _
/-- whole sums, as sums modulo 0 -/
theorem sp0 {R : Nat → Nat → Int} {m n : Nat} {v : Nat → Int} : Sp 0 R m n v ↔ ∃ y : Nat → Int, ∀ c, c < n → v c = sm (fun r => y r * R r c) m := by
  constructor
  · rintro ⟨y, hy⟩
    exact ⟨y, fun c hc => cg0.mp (hy c hc)⟩
  · rintro ⟨y, hy⟩
    exact ⟨y, fun c hc => cg0.mpr (hy c hc)⟩
theorem QB.dep {R : Nat → Nat → Int} {m n k : Nat} {D : Int} {s : Nat → Nat} {C : Nat → Nat → Int} (h : QB R m n k D s C) {e : Nat → Int} (he : ∀ c, c < n → D * e c = sm (fun l => e (s l) * C l c) k) : QB (apX R m e) (m + 1) n k D s C := by
  obtain ⟨h0, h1, h2, h3, h4⟩ := h
  refine ⟨h0, fun r hr c hc => ?_, fun l hl => ?_, h3, h4⟩
  · by_cases q : r = m
    · rw [show apX R m e r = e from if_pos q]; exact he c hc
    · rw [show apX R m e r = R r from if_neg q]; exact h1 r (by omega) c hc
  · exact sp0.mp (Sp.apx (sp0.mpr (h2 l hl)))
/-- the speeds as the relations give them: gear g has the speed X g / Y g if hd g, and none if not -/
def Sd (n : Nat) (R : Nat → Nat → Int) (m full : Nat) (hd : Nat → Bool) (X Y : Nat → Int) : Prop := ∃ D s C, QB R m n full D s C ∧ D.natAbs < 2 ^ 660 ∧ ∀ g, g < n → (hd g = true → (∀ c, c < n → D * at1 g 1 c = sm (fun l => at1 g 1 (s l) * C l c) full) ∧ 0 < Y g ∧ Y g < (2 ^ 660 : Nat) ∧ -((2 ^ 660 : Nat) : Int) < X g ∧ X g < (2 ^ 660 : Nat) ∧ Int.gcd (X g) (Y g) = 1 ∧ ∃ Ω : Nat → Int, ∃ h : Int, h ≠ 0 ∧ Ω g = X g * h ∧ ∀ r, r < m → sm (fun c => R r c * Ω c) n = R r 60 * (Y g * h)) ∧ (hd g = false → ∃ E, Rk (apX R m (at1 g 1)) (m + 1) n (full + 1) E ∧ E.natAbs < 2 ^ 660)
theorem rest_speed {p n m : Nat} {R : Nat → Nat → Int} {g : Nat} {x y z : Int} {ρ : Nat} {yy Ω : Nat → Int} {h : Int} (hp : Pm p) (hg : g < n) (hz : ¬ (p : Int) ∣ z) (h1 : ∀ c, c < n → z * at1 g 1 c = sm (fun r => yy r * R r c) m) (h2 : cg p (sm (fun r => yy r * R r 60) m) (z * (ρ : Int))) (hh : h ≠ 0) (hΩ : Ω g = x * h) (hR : ∀ r, r < m → sm (fun c => R r c * Ω c) n = R r 60 * (y * h)) (hy : 0 < y) (hgcd : Int.gcd x y = 1) : (p : Int) ∣ y * (ρ : Int) - x := by
  -- z x = t y
  have e1 : sm (fun c => z * at1 g 1 c * Ω c) n = z * (x * h) := by
    rw [sm_one hg (fun c hc hne => by unfold at1; rw [if_neg hne, Int.mul_zero, Int.zero_mul])]
    unfold at1
    rw [if_pos rfl, Int.mul_one, hΩ]
  have e2 : sm (fun c => z * at1 g 1 c * Ω c) n = sm (fun r => yy r * R r 60) m * (y * h) := by
    have a1 : sm (fun c => z * at1 g 1 c * Ω c) n = sm (fun c => Ω c * sm (fun r => yy r * R r c) m) n := sm_congr (fun c hc => by rw [h1 c hc, Int.mul_comm])
    have a2 : sm (fun c => Ω c * sm (fun r => yy r * R r c) m) n = sm (fun c => sm (fun r => yy r * (R r c * Ω c)) m) n := sm_congr (fun c _ => by
      rw [← sm_mul]
      exact sm_congr (fun r _ => by rw [Int.mul_comm, Int.mul_assoc]))
    rw [a1, a2, sm_comm, sm_mul']
    exact sm_congr (fun r hr => by rw [sm_mul, hR r hr, Int.mul_assoc])
  have e3 : z * x = sm (fun r => yy r * R r 60) m * y := by
    rw [e1, ← Int.mul_assoc, ← Int.mul_assoc] at e2
    exact Int.eq_of_mul_eq_mul_right hh e2
  generalize sm (fun r => yy r * R r 60) m = t at e3 h2
  have hyz : y ∣ z := by
    have d1 : y ∣ z * x := ⟨t, by rw [e3, Int.mul_comm]⟩
    have d2 := Int.natAbs_dvd_natAbs.mpr d1
    rw [Int.natAbs_mul] at d2
    exact Int.natAbs_dvd_natAbs.mp (Nat.Coprime.dvd_of_dvd_mul_right (show Nat.gcd y.natAbs x.natAbs = 1 by rw [Nat.gcd_comm]; exact hgcd) d2)
  obtain ⟨k, hk⟩ := hyz
  have ht : t = k * x := by
    rw [hk, Int.mul_assoc, Int.mul_comm t y] at e3
    exact (Int.eq_of_mul_eq_mul_left (by omega) e3).symm
  have hd : (p : Int) ∣ k * (y * (ρ : Int) - x) := by
    have := h2.symm
    rw [ht, hk] at this
    obtain ⟨l, hl⟩ := this
    exact ⟨l, by rw [← hl, Int.mul_sub, ← Int.mul_assoc, Int.mul_comm k y]⟩
  rcases hp.int _ _ hd with q | q
  · obtain ⟨l, hl⟩ := q
    exact absurd ⟨y * l, by rw [hk, hl, Int.mul_left_comm]⟩ hz
  · exact q
def gdB (w : gw_St) (T : Nat) : Bool := decide (w.1 697 T = 1)
theorem fq_use {w : gw_St} {n m full : Nat} {R : Nat → Nat → Int} {hd : Nat → Bool} {X Y : Nat → Int} (hF : Fq w n R m full 70) (hS : Sd n R m full hd X Y) : (∀ T, T < 70 → w.1 697 T = if gdB w T then 1 else 0) ∧ 46 ≤ cn (gdB w) 70 ∧ ∀ g, g < n → (hd g = true → w.1 698 g = 0 ∧ ∃ ρ : Nat → Nat, (∀ T, T < 70 → gdB w T = true → w.2.1 699 (60 * T + g) = Int64.ofNat (ρ T) ∧ ρ T < prP T) ∧ Rs (gdB w) ρ 70 (X g) (Y g)) ∧ (hd g = false → w.1 698 g = 1) := by
  obtain ⟨f1, f2⟩ := hF
  obtain ⟨D, s, C, hQ, hD, hS⟩ := hS
  have hgood : ∀ T, T < 70 → ¬ (prP T : Int) ∣ D → w.1 697 T = 1 := fun T hT hnd => by
    obtain ⟨-, q, h1, h2⟩ := f1 T hT
    exact h2.mpr ((h1 full D ⟨s, C, hQ⟩).2 hnd)
  refine ⟨fun T hT => ?_, ?_, fun g hg => ⟨fun h => ?_, fun h => ?_⟩⟩
  · unfold gdB
    rcases (f1 T hT).1 with e | e
    · rw [e]; rfl
    · rw [e]; rfl
  · refine Nat.le_trans (dvs_no hQ.1 hD) (cn_imp (fun t ht h => ?_))
    unfold gdB
    refine decide_eq_true (hgood t ht (fun q => ?_))
    unfold dvs at h
    rw [decide_eq_true q] at h
    exact absurd h (by decide)
  · obtain ⟨s1, s2, s3, s4, s5, s6, Ω, hh, o1, o2, o3⟩ := (hS g hg).1 h
    rcases f2 g hg with ⟨a1, T, hT, a2⟩ | ⟨a1, a2⟩
    · have := (a2 full D ⟨s, C, hQ.dep s1⟩).1
      omega
    · refine ⟨a1, ?_⟩
      have hch : ∀ T, ∃ ρ, T < 70 → w.1 697 T = 1 → ρ < prP T ∧ w.2.1 699 (60 * T + g) = Int64.ofNat ρ ∧ ro (prP T) n R m full g ρ := fun T => by
        by_cases hT : T < 70 ∧ w.1 697 T = 1
        · obtain ⟨-, ρ, h1⟩ := a2 T hT.1 hT.2
          exact ⟨ρ, fun _ _ => h1⟩
        · exact ⟨0, fun h1 h2 => absurd ⟨h1, h2⟩ hT⟩
      refine ⟨fun T => Classical.choose (hch T), fun T hT hG => ?_, fun T hT hG => ?_⟩
      · obtain ⟨c1, c2, -⟩ := Classical.choose_spec (hch T) hT (of_decide_eq_true hG)
        exact ⟨c2, c1⟩
      · obtain ⟨c1, c2, c3⟩ := Classical.choose_spec (hch T) hT (of_decide_eq_true hG)
        obtain ⟨z, yy, z1, z2, z3⟩ := c3 D s C hQ s1
        exact rest_speed (prP_pm hT) hg z1 z2 z3 o1 o2 o3 s2 s6
  · obtain ⟨E, hE, hEb⟩ := (hS g hg).2 h
    rcases f2 g hg with ⟨a1, -⟩ | ⟨a1, a2⟩
    · exact a1
    · obtain ⟨sE, CE, hQE⟩ := id hE
      obtain ⟨t, ht, n1, n2⟩ := dvs_two hQ.1 hD hQE.1 hEb
      have := ((a2 t ht (hgood t ht n1)).1 (full + 1) E hE).2 n2
      omega
