/-! sorting by a digit -/
def cE (d : Nat → Nat) (x : Nat) : Nat → Nat
  | 0 => 0
  | n + 1 => cE d x n + (if d n = x then 1 else 0)
def cLs (d : Nat → Nat) (x : Nat) : Nat → Nat
  | 0 => 0
  | n + 1 => cLs d x n + (if d n < x then 1 else 0)
theorem cLs_S (d : Nat → Nat) (x : Nat) : ∀ n, cLs d (x + 1) n = cLs d x n + cE d x n := by
  intro n
  induction n with
  | zero => rfl
  | succ n ih =>
    show cLs d (x + 1) n + (if d n < x + 1 then 1 else 0) = cLs d x n + (if d n < x then 1 else 0) + (cE d x n + (if d n = x then 1 else 0))
    rw [ih]
    by_cases h1 : d n < x
    · rw [if_pos h1, if_pos (by omega), if_neg (by omega)]; omega
    · by_cases h2 : d n = x
      · rw [if_neg h1, if_pos (by omega), if_pos h2]; omega
      · rw [if_neg h1, if_neg (by omega), if_neg h2]; omega
theorem cLs_0 (d : Nat → Nat) : ∀ n, cLs d 0 n = 0 := by
  intro n
  induction n with
  | zero => rfl
  | succ n ih =>
    show cLs d 0 n + (if d n < 0 then 1 else 0) = 0
    rw [ih, if_neg (Nat.not_lt_zero _)]
theorem cLs_le (d : Nat → Nat) (x : Nat) : ∀ n, cLs d x n ≤ n := by
  intro n
  induction n with
  | zero => exact Nat.le_refl _
  | succ n ih =>
    show cLs d x n + (if d n < x then 1 else 0) ≤ n + 1
    split <;> omega
theorem cLs_mono {d : Nat → Nat} {n : Nat} : ∀ k x, cLs d x n ≤ cLs d (x + k) n := by
  intro k
  induction k with
  | zero => intro x; exact Nat.le_refl _
  | succ k ih =>
    intro x
    have := ih x
    have h2 := cLs_S d (x + k) n
    show _ ≤ cLs d (x + k + 1) n
    omega
theorem cE_mono {d : Nat → Nat} {x : Nat} : ∀ k n, cE d x n ≤ cE d x (n + k) := by
  intro k
  induction k with
  | zero => intro n; exact Nat.le_refl _
  | succ k ih =>
    intro n
    have := ih n
    show _ ≤ cE d x (n + k) + (if d (n + k) = x then 1 else 0)
    omega
/-- where the thing i comes to stand -/
def ps2 (d : Nat → Nat) (T i : Nat) : Nat := cLs d (d i) T + cE d (d i) i
theorem ps2_up {d : Nat → Nat} {T i : Nat} (hi : i < T) : ps2 d T i < cLs d (d i + 1) T := by
  have h1 := cLs_S d (d i) T
  have h2 := cE_mono (d := d) (x := d i) (T - (i + 1)) (i + 1)
  rw [show i + 1 + (T - (i + 1)) = T by omega] at h2
  have h3 : cE d (d i) (i + 1) = cE d (d i) i + 1 := by
    show cE d (d i) i + (if d i = d i then 1 else 0) = _
    rw [if_pos rfl]
  unfold ps2
  omega
theorem ps2_lt {d : Nat → Nat} {T i : Nat} (hi : i < T) : ps2 d T i < T := Nat.lt_of_lt_of_le (ps2_up hi) (cLs_le _ _ _)
theorem ps2_dig {d : Nat → Nat} {T i j : Nat} (hi : i < T) (h : d i < d j) : ps2 d T i < ps2 d T j := by
  have h1 := ps2_up (d := d) hi
  have h2 := cLs_mono (d := d) (n := T) (d j - (d i + 1)) (d i + 1)
  rw [show d i + 1 + (d j - (d i + 1)) = d j by omega] at h2
  unfold ps2 at *
  omega
theorem ps2_same {d : Nat → Nat} {T i j : Nat} (h : d i = d j) (hij : i < j) : ps2 d T i < ps2 d T j := by
  have h2 := cE_mono (d := d) (x := d i) (j - (i + 1)) (i + 1)
  rw [show i + 1 + (j - (i + 1)) = j by omega] at h2
  have h3 : cE d (d i) (i + 1) = cE d (d i) i + 1 := by
    show cE d (d i) i + (if d i = d i then 1 else 0) = _
    rw [if_pos rfl]
  unfold ps2
  rw [← h]
  omega
theorem ps2_inj {d : Nat → Nat} {T i j : Nat} (hi : i < T) (hj : j < T) (h : ps2 d T i = ps2 d T j) : i = j := by
  rcases Nat.lt_trichotomy (d i) (d j) with q | q | q
  · have := ps2_dig (d := d) hi q; omega
  · rcases Nat.lt_trichotomy i j with p | p | p
    · have := ps2_same (T := T) q p; omega
    · exact p
    · have := ps2_same (T := T) q.symm p; omega
  · have := ps2_dig (d := d) hj q; omega
theorem inj_on {T : Nat} {f : Nat → Nat} (h1 : ∀ i, i < T → f i < T) (h2 : ∀ i j, i < T → j < T → f i = f j → i = j) : ∀ p, p < T → ∃ i, i < T ∧ f i = p := by
  intro p hp
  apply Classical.byContradiction
  intro q
  have := inj_le (k := T + 1) (n := T) (t := exr f T p) (fun l hl => by
    unfold exr
    by_cases e : l = T
    · rw [if_pos e]; exact hp
    · rw [if_neg e]; exact h1 l (by omega)) (fun l m hl hm e => by
    unfold exr at e
    by_cases a : l = T
    · by_cases b : m = T
      · omega
      · rw [if_pos a, if_neg b] at e
        exact absurd ⟨m, by omega, e.symm⟩ q
    · by_cases b : m = T
      · rw [if_neg a, if_pos b] at e
        exact absurd ⟨l, by omega, e⟩ q
      · rw [if_neg a, if_neg b] at e
        exact h2 l m (by omega) (by omega) e)
  omega
theorem ps2_on {d : Nat → Nat} {T : Nat} : ∀ p, p < T → ∃ i, i < T ∧ ps2 d T i = p := inj_on (fun i hi => ps2_lt hi) (fun i j hi hj e => ps2_inj hi hj e)
/-- the order after a pass -/
theorem pass_sorted {T k : Nat} {a b : Nat → Nat} (hs : ∀ i j, i < j → j < T → a i % 2 ^ k < a j % 2 ^ k) (hb : ∀ i, i < T → b (ps2 (fun i => a i / 2 ^ k % 2048) T i) = a i) : ∀ p q, p < q → q < T → b p % 2 ^ (k + 11) < b q % 2 ^ (k + 11) := by
  intro p q hpq hq
  obtain ⟨i, hi, ei⟩ := ps2_on (d := fun i => a i / 2 ^ k % 2048) (T := T) p (by omega)
  obtain ⟨j, hj, ej⟩ := ps2_on (d := fun i => a i / 2 ^ k % 2048) (T := T) q hq
  have e1 := hb i hi
  have e2 := hb j hj
  rw [ei] at e1
  rw [ej] at e2
  rw [e1, e2]
  have hm : ∀ v, v % 2 ^ (k + 11) = v % 2 ^ k + 2 ^ k * (v / 2 ^ k % 2048) := fun v => by rw [Nat.pow_add, show 2 ^ 11 = 2048 from rfl, Nat.mod_mul]
  rw [hm, hm]
  have hlt : ∀ v, v % 2 ^ k < 2 ^ k := fun v => Nat.mod_lt _ (Nat.pow_pos (by decide))
  have l1 := hlt (a i)
  rcases Nat.lt_trichotomy (a i / 2 ^ k % 2048) (a j / 2 ^ k % 2048) with c | c | c
  · have h1 : 2 ^ k * (a i / 2 ^ k % 2048 + 1) ≤ 2 ^ k * (a j / 2 ^ k % 2048) := Nat.mul_le_mul_left _ c
    rw [Nat.mul_add, Nat.mul_one] at h1
    omega
  · have hij : i < j := by
      rcases Nat.lt_trichotomy i j with h | h | h
      · exact h
      · rw [h] at ei; omega
      · have h3 := ps2_same (d := fun i => a i / 2 ^ k % 2048) (T := T) (i := j) (j := i) c.symm h
        omega
    have := hs i j hij hj
    rw [c]
    omega
  · have h3 := ps2_dig (d := fun i => a i / 2 ^ k % 2048) (T := T) (i := j) (j := i) hj c
    omega
