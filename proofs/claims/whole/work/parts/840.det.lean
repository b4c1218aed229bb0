/-! determinants -/
def sm (f : Nat → Int) : Nat → Int
  | 0 => 0
  | n + 1 => sm f n + f n
theorem sm_congr {f g : Nat → Int} : ∀ {n : Nat}, (∀ i, i < n → f i = g i) → sm f n = sm g n
  | 0, _ => rfl
  | n + 1, h => by
    unfold sm
    rw [sm_congr (fun i hi => h i (by omega)), h n (by omega)]
theorem sm_add (f g : Nat → Int) : ∀ n, sm (fun i => f i + g i) n = sm f n + sm g n
  | 0 => rfl
  | n + 1 => by
    unfold sm
    rw [sm_add f g n]
    omega
theorem sm_mul (c : Int) (f : Nat → Int) : ∀ n, sm (fun i => c * f i) n = c * sm f n
  | 0 => by simp [sm]
  | n + 1 => by
    unfold sm
    rw [sm_mul c f n, Int.mul_add]
theorem sm_zero {f : Nat → Int} : ∀ {n : Nat}, (∀ i, i < n → f i = 0) → sm f n = 0
  | 0, _ => rfl
  | n + 1, h => by
    unfold sm
    rw [sm_zero (fun i hi => h i (by omega)), h n (by omega)]
    rfl
theorem sm_one {f : Nat → Int} {j : Nat} : ∀ {n : Nat}, j < n → (∀ i, i < n → i ≠ j → f i = 0) → sm f n = f j
  | 0, h, _ => absurd h (Nat.not_lt_zero j)
  | n + 1, h, h0 => by
    unfold sm
    by_cases e : j = n
    · subst e
      rw [sm_zero (fun i hi => h0 i (by omega) (by omega))]
      omega
    · rw [sm_one (show j < n by omega) (fun i hi hne => h0 i (by omega) hne), h0 n (by omega) (by omega)]
      omega
theorem sm_two {f : Nat → Int} {j k : Nat} : ∀ {n : Nat}, j < k → k < n → (∀ i, i < n → i ≠ j → i ≠ k → f i = 0) → sm f n = f j + f k
  | 0, _, h, _ => absurd h (Nat.not_lt_zero k)
  | n + 1, hjk, h, h0 => by
    unfold sm
    by_cases e : k = n
    · subst e
      rw [sm_one hjk (fun i hi hne => h0 i (by omega) hne (by omega))]
    · rw [sm_two hjk (show k < n by omega) (fun i hi h1 h2 => h0 i (by omega) h1 h2), h0 n (by omega) (by omega) (by omega)]
      omega
theorem sm_comm (f : Nat → Nat → Int) (m : Nat) : ∀ n, sm (fun i => sm (fun j => f i j) m) n = sm (fun j => sm (fun i => f i j) n) m
  | 0 => by
    show 0 = _
    exact (sm_zero (f := fun j => sm (fun i => f i j) 0) (fun i _ => rfl)).symm
  | n + 1 => by
    show sm (fun i => sm (fun j => f i j) m) n + sm (fun j => f n j) m = sm (fun j => sm (fun i => f i j) n + f n j) m
    rw [sm_comm f m n, sm_add]
def sk (j c : Nat) : Nat := if c < j then c else c + 1
def sg1 (n : Nat) : Int := if n % 2 = 0 then 1 else -1
theorem sg1_S (n : Nat) : sg1 (n + 1) = - sg1 n := by
  unfold sg1
  by_cases h : n % 2 = 0
  · rw [if_pos h, if_neg (by omega)]
  · rw [if_neg h, if_pos (by omega)]; rfl
theorem sg1_add (m n : Nat) : sg1 (m + n) = sg1 m * sg1 n := by
  unfold sg1
  by_cases h : m % 2 = 0
  · by_cases k : n % 2 = 0
    · rw [if_pos h, if_pos k, if_pos (by omega)]; rfl
    · rw [if_pos h, if_neg k, if_neg (by omega)]; rfl
  · by_cases k : n % 2 = 0
    · rw [if_neg h, if_pos k, if_neg (by omega)]; rfl
    · rw [if_neg h, if_neg k, if_pos (by omega)]; rfl
theorem sg1_sq (n : Nat) : sg1 n * sg1 n = 1 := by
  unfold sg1
  split <;> rfl
/-- by the last row -/
def dt : Nat → (Nat → Nat → Int) → Int
  | 0, _ => 1
  | n + 1, M => sm (fun j => sg1 (n + j) * M n j * dt n (fun i c => M i (sk j c))) (n + 1)
theorem dt_congr : ∀ {n : Nat} {M N : Nat → Nat → Int}, (∀ i c, i < n → c < n → M i c = N i c) → dt n M = dt n N
  | 0, _, _, _ => rfl
  | n + 1, M, N, h => by
    unfold dt
    refine sm_congr (fun j hj => ?_)
    rw [h n j (by omega) hj, dt_congr (n := n) (fun i c hi hc => h i (sk j c) (by omega) (by unfold sk; split <;> omega))]
def rp (M : Nat → Nat → Int) (j : Nat) (P : Nat → Int) : Nat → Nat → Int := fun i c => if c = j then P i else M i c
theorem rp_sk_lt {M : Nat → Nat → Int} {j k : Nat} {P : Nat → Int} (h : j < k) : (fun i c => rp M j P i (sk k c)) = rp (fun i c => M i (sk k c)) j P := by
  funext i c
  unfold rp sk
  by_cases e : c < k
  · dsimp only
    rw [if_pos e]
  · dsimp only
    rw [if_neg e, if_neg (by omega), if_neg (by omega)]
theorem rp_sk_gt {M : Nat → Nat → Int} {j k : Nat} {P : Nat → Int} (h : k < j) : (fun i c => rp M j P i (sk k c)) = rp (fun i c => M i (sk k c)) (j - 1) P := by
  funext i c
  unfold rp sk
  by_cases e : c < k
  · dsimp only
    rw [if_pos e, if_neg (by omega), if_neg (by omega)]
  · dsimp only
    rw [if_neg e]
    by_cases q : c + 1 = j
    · rw [if_pos q, if_pos (by omega)]
    · rw [if_neg q, if_neg (by omega)]
theorem rp_sk_eq {M : Nat → Nat → Int} {j : Nat} {P : Nat → Int} : (fun i c => rp M j P i (sk j c)) = fun i c => M i (sk j c) := by
  funext i c
  unfold rp sk
  by_cases e : c < j
  · rw [if_pos e, if_neg (by omega)]
  · rw [if_neg e, if_neg (by omega)]
theorem dt_lin : ∀ {n : Nat} {M : Nat → Nat → Int} {j : Nat} {P Q : Nat → Int} {x y : Int}, j < n → dt n (rp M j (fun i => x * P i + y * Q i)) = x * dt n (rp M j P) + y * dt n (rp M j Q)
  | 0, _, _, _, _, _, _, h => absurd h (Nat.not_lt_zero _)
  | n + 1, M, j, P, Q, x, y, h => by
    unfold dt
    rw [← sm_mul, ← sm_mul, ← sm_add]
    refine sm_congr (fun c hc => ?_)
    rcases Nat.lt_trichotomy c j with e | e | e
    · rw [rp_sk_gt e, rp_sk_gt e, rp_sk_gt e, dt_lin (n := n) (by omega)]
      unfold rp
      rw [if_neg (by omega), if_neg (by omega), if_neg (by omega), Int.mul_add]
      congr 1
      · rw [← Int.mul_assoc, Int.mul_comm _ x, Int.mul_assoc]
      · rw [← Int.mul_assoc, Int.mul_comm _ y, Int.mul_assoc]
    · subst e
      rw [rp_sk_eq, rp_sk_eq, rp_sk_eq]
      unfold rp
      rw [if_pos rfl, if_pos rfl, if_pos rfl, Int.mul_add, Int.add_mul]
      congr 1
      · rw [← Int.mul_assoc, Int.mul_comm _ x, Int.mul_assoc, Int.mul_assoc, Int.mul_assoc]
      · rw [← Int.mul_assoc, Int.mul_comm _ y, Int.mul_assoc, Int.mul_assoc, Int.mul_assoc]
    · rw [rp_sk_lt e, rp_sk_lt e, rp_sk_lt e, dt_lin (n := n) (by omega)]
      unfold rp
      rw [if_neg (by omega), if_neg (by omega), if_neg (by omega), Int.mul_add]
      congr 1
      · rw [← Int.mul_assoc, Int.mul_comm _ x, Int.mul_assoc]
      · rw [← Int.mul_assoc, Int.mul_comm _ y, Int.mul_assoc]
theorem dt_zero {n : Nat} {M : Nat → Nat → Int} {j : Nat} (h : j < n) : dt n (rp M j (fun _ => 0)) = 0 := by
  have := dt_lin (n := n) (M := M) (j := j) (P := fun _ => 0) (Q := fun _ => 0) (x := 0) (y := 0) h
  rw [Int.zero_mul, Int.zero_mul] at this
  exact this
theorem dt_sum {n : Nat} {M : Nat → Nat → Int} {j : Nat} (h : j < n) (P : Nat → Nat → Int) (y : Nat → Int) : ∀ m, dt n (rp M j (fun i => sm (fun l => y l * P l i) m)) = sm (fun l => y l * dt n (rp M j (P l))) m
  | 0 => dt_zero h
  | m + 1 => by
    have := dt_lin (n := n) (M := M) (j := j) (P := fun i => sm (fun l => y l * P l i) m) (Q := P m) (x := 1) (y := y m) h
    rw [dt_sum h P y m] at this
    show dt n (rp M j (fun i => sm (fun l => y l * P l i) m + y m * P m i)) = sm (fun l => y l * dt n (rp M j (P l))) m + y m * dt n (rp M j (P m))
    have e : rp M j (fun i => sm (fun l => y l * P l i) m + y m * P m i) = rp M j (fun i => 1 * sm (fun l => y l * P l i) m + y m * P m i) := by
      funext i c
      unfold rp
      dsimp only
      rw [Int.one_mul]
    rw [e, this, Int.one_mul]
theorem dt_adj : ∀ {n : Nat} {M : Nat → Nat → Int} {j : Nat}, j + 1 < n → (∀ i, i < n → M i j = M i (j + 1)) → dt n M = 0
  | 0, _, _, h, _ => absurd h (Nat.not_lt_zero _)
  | n + 1, M, j, h, he => by
    unfold dt
    rw [sm_two (j := j) (k := j + 1) (by omega) h (fun c hc h1 h2 => ?_)]
    · have e1 : dt n (fun i c => M i (sk j c)) = dt n (fun i c => M i (sk (j + 1) c)) := dt_congr (fun i c hi hc => by
        unfold sk
        rcases Nat.lt_trichotomy c j with q | q | q
        · rw [if_pos q, if_pos (by omega)]
        · subst q
          rw [if_neg (by omega), if_pos (by omega)]
          exact (he i (by omega)).symm
        · rw [if_neg (by omega), if_neg (by omega)])
      rw [e1, he n (by omega), show n + (j + 1) = (n + j) + 1 by omega, sg1_S, Int.neg_mul, Int.neg_mul]
      omega
    · have hz : dt n (fun i d => M i (sk c d)) = 0 := by
        rcases Nat.lt_trichotomy c j with q | q | q
        · refine dt_adj (n := n) (j := j - 1) (by omega) (fun i hi => ?_)
          unfold sk
          rw [if_neg (by omega), if_neg (by omega), show j - 1 + 1 = j by omega]
          exact he i (by omega)
        · omega
        · refine dt_adj (n := n) (j := j) (by omega) (fun i hi => ?_)
          unfold sk
          rw [if_pos (by omega), if_pos (by omega)]
          exact he i (by omega)
      rw [hz, Int.mul_zero]
def sw (j c : Nat) : Nat := if c = j then j + 1 else if c = j + 1 then j else c
theorem dt_swap {n : Nat} {M : Nat → Nat → Int} {j : Nat} (h : j + 1 < n) : dt n (fun i c => M i (sw j c)) = - dt n M := by
  have h0 : dt n (rp (rp M j (fun i => 1 * M i j + 1 * M i (j + 1))) (j + 1) (fun i => 1 * M i j + 1 * M i (j + 1))) = 0 := dt_adj h (fun i _ => by
    unfold rp
    rw [if_neg (by omega), if_pos rfl, if_pos rfl])
  have cm : ∀ P Q : Nat → Int, rp (rp M j P) (j + 1) Q = rp (rp M (j + 1) Q) j P := fun P Q => by
    funext i c
    unfold rp
    by_cases e : c = j
    · rw [if_pos e, if_neg (by omega), if_pos e]
    · rw [if_neg e, if_neg e]
  rw [dt_lin h, cm, dt_lin (by omega), cm, dt_lin (by omega), ← cm, ← cm, ← cm, ← cm] at h0
  have z1 : dt n (rp (rp M j (fun i => M i j)) (j + 1) (fun i => M i j)) = 0 := dt_adj h (fun i _ => by
    unfold rp
    rw [if_neg (by omega), if_pos rfl, if_pos rfl])
  have z2 : dt n (rp (rp M j (fun i => M i (j + 1))) (j + 1) (fun i => M i (j + 1))) = 0 := dt_adj h (fun i _ => by
    unfold rp
    rw [if_neg (by omega), if_pos rfl, if_pos rfl])
  have z3 : rp (rp M j (fun i => M i j)) (j + 1) (fun i => M i (j + 1)) = M := by
    funext i c
    unfold rp
    by_cases e : c = j + 1
    · rw [if_pos e, e]
    · rw [if_neg e]
      by_cases q : c = j
      · rw [if_pos q, q]
      · rw [if_neg q]
  have z4 : rp (rp M j (fun i => M i (j + 1))) (j + 1) (fun i => M i j) = fun i c => M i (sw j c) := by
    funext i c
    unfold rp sw
    by_cases q : c = j
    · rw [if_neg (by omega), if_pos q, if_pos q]
    · by_cases e : c = j + 1
      · rw [if_pos e, if_neg q, if_pos e]
      · rw [if_neg e, if_neg q, if_neg q, if_neg e]
  rw [z1, z2, z3, z4] at h0
  omega
/-- a column is taken from p and put in at q -/
def mv (p q c : Nat) : Nat := if c < p then c else if c < q then c + 1 else if c = q then p else c
theorem dt_move {n : Nat} {M : Nat → Nat → Int} {p : Nat} : ∀ d, p + d < n → dt n (fun i c => M i (mv p (p + d) c)) = sg1 d * dt n M
  | 0, _ => by
    rw [show sg1 0 = 1 from rfl, Int.one_mul]
    refine dt_congr (fun i c _ _ => ?_)
    unfold mv
    by_cases e : c < p
    · rw [if_pos e]
    · rw [if_neg e, if_neg (by omega)]
      by_cases q : c = p + 0
      · rw [if_pos q, q]; rfl
      · rw [if_neg q]
  | d + 1, h => by
    have e : (fun i c => M i (mv p (p + (d + 1)) c)) = fun i c => (fun i c => M i (mv p (p + d) c)) i (sw (p + d) c) := by
      funext i c
      show M i _ = M i _
      congr 1
      unfold mv sw
      by_cases q1 : c = p + d
      · rw [if_pos q1, if_neg (by omega), if_pos (by omega), if_neg (by omega), if_neg (by omega), if_neg (by omega)]
        omega
      · rw [if_neg q1]
        by_cases q2 : c = p + d + 1
        · rw [if_pos q2, if_neg (by omega), if_neg (by omega), if_pos (by omega), if_neg (by omega), if_neg (by omega), if_pos rfl]
        · rw [if_neg q2]
          by_cases q3 : c < p
          · rw [if_pos q3, if_pos q3]
          · rw [if_neg q3, if_neg q3]
            by_cases q4 : c < p + d
            · rw [if_pos (by omega), if_pos q4]
            · rw [if_neg (by omega), if_neg (by omega), if_neg q4, if_neg q1]
    rw [e, dt_swap (M := fun i c => M i (mv p (p + d) c)) (by omega), dt_move d (by omega), sg1_S, Int.neg_mul]
theorem dt_same {n : Nat} {M : Nat → Nat → Int} {p q : Nat} (hpq : p < q) (hq : q < n) (h : ∀ i, i < n → M i p = M i q) : dt n M = 0 := by
  have h1 := dt_move (n := n) (M := M) (p := p) (q - 1 - p) (by omega)
  have h2 : dt n (fun i c => M i (mv p (p + (q - 1 - p)) c)) = 0 := by
    refine dt_adj (j := q - 1) (by omega) (fun i hi => ?_)
    unfold mv
    rw [if_neg (by omega), if_neg (by omega), if_pos (by omega), if_neg (by omega), if_neg (by omega), if_neg (by omega), show q - 1 + 1 = q by omega]
    exact h i hi
  rw [h2] at h1
  have h3 := sg1_sq (q - 1 - p)
  have h4 := congrArg (sg1 (q - 1 - p) * ·) h1
  simp only [Int.mul_zero] at h4
  rw [← Int.mul_assoc, h3, Int.one_mul] at h4
  exact h4.symm
/-- Cramer -/
theorem dt_cramer {n : Nat} {M : Nat → Nat → Int} {y : Nat → Int} {v : Nat → Int} {m : Int} {i : Nat} (hi : i < n) (h : ∀ r, r < n → sm (fun l => y l * M r l) n = m * v r) : dt n M * y i = m * dt n (rp M i v) := by
  have h1 := dt_sum (n := n) (M := M) (j := i) hi (fun l r => M r l) y n
  have h2 : dt n (rp M i (fun r => sm (fun l => y l * M r l) n)) = dt n (rp M i (fun r => m * v r + 0 * v r)) := dt_congr (fun r c hr _ => by
    unfold rp
    split
    · dsimp only
      rw [h r hr, Int.zero_mul, Int.add_zero]
    · rfl)
  rw [h2, dt_lin hi, Int.zero_mul, Int.add_zero] at h1
  rw [h1, sm_one hi (fun l hl hne => ?_)]
  · have e : rp M i (fun r => M r i) = M := by
      funext r c
      unfold rp
      split
      · next q => rw [q]
      · rfl
    rw [e, Int.mul_comm]
  · have z : dt n (rp M i (fun r => M r l)) = 0 := by
      rcases Nat.lt_or_gt_of_ne hne with q | q
      · refine dt_same q hi (fun r _ => ?_)
        unfold rp
        rw [if_neg hne, if_pos rfl]
      · refine dt_same q hl (fun r _ => ?_)
        unfold rp
        rw [if_pos rfl, if_neg hne]
    rw [z, Int.mul_zero]
/-- a border -/
theorem dt_border {k : Nat} {M : Nat → Nat → Int} : dt (k + 1) M = dt k M * M k k - sm (fun l => M k l * dt k (rp M l (fun i => M i k))) k := by
  show sm (fun j => sg1 (k + j) * M k j * dt k (fun i c => M i (sk j c))) k + sg1 (k + k) * M k k * dt k (fun i c => M i (sk k c)) = _
  have e1 : dt k (fun i c => M i (sk k c)) = dt k M := dt_congr (fun i c _ hc => by unfold sk; rw [if_pos hc])
  have e2 : sg1 (k + k) = 1 := by rw [sg1_add, sg1_sq]
  have e3 : sm (fun j => sg1 (k + j) * M k j * dt k (fun i c => M i (sk j c))) k = sm (fun l => -1 * (M k l * dt k (rp M l (fun i => M i k)))) k := by
    refine sm_congr (fun l hl => ?_)
    have m1 := dt_move (n := k) (M := rp M l (fun i => M i k)) (p := l) (k - 1 - l) (by omega)
    have m2 : dt k (fun i c => rp M l (fun i => M i k) i (mv l (l + (k - 1 - l)) c)) = dt k (fun i c => M i (sk l c)) := dt_congr (fun i c _ hc => by
      unfold rp mv sk
      by_cases q : c < l
      · rw [if_pos q, if_pos q, if_neg (by omega)]
      · rw [if_neg q, if_neg q]
        by_cases q2 : c < l + (k - 1 - l)
        · rw [if_pos q2, if_neg (by omega)]
        · rw [if_neg q2, if_pos (show c = l + (k - 1 - l) by omega), if_pos rfl]
          rw [show c + 1 = k by omega])
    rw [← m2, m1]
    have s : sg1 (k + l) * sg1 (k - 1 - l) = -1 := by
      rw [← sg1_add]
      unfold sg1
      rw [if_neg (by omega)]
    have e : sg1 (k + l) * M k l * (sg1 (k - 1 - l) * dt k (rp M l fun i => M i k)) = (sg1 (k + l) * sg1 (k - 1 - l)) * (M k l * dt k (rp M l fun i => M i k)) := by
      rw [Int.mul_assoc, Int.mul_assoc, Int.mul_left_comm (M k l)]
    rw [e, s]
  rw [e1, e2, e3, sm_mul, Int.one_mul, Int.mul_comm (M k k)]
  omega
