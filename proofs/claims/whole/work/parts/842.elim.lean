/-! elimination by determinants: A's rows are kept, s their columns -/
def eB (A : Nat → Nat → Int) (s : Nat → Nat) : Nat → Nat → Int := fun i l => A i (s l)
def eD (A : Nat → Nat → Int) (s : Nat → Nat) (k : Nat) : Int := dt k (eB A s)
def eC (A : Nat → Nat → Int) (s : Nat → Nat) (k l c : Nat) : Int := dt k (rp (eB A s) l (fun i => A i c))
def eN (A : Nat → Nat → Int) (s : Nat → Nat) (k : Nat) (a : Nat → Int) (c : Nat) : Int := eD A s k * a c - sm (fun l => a (s l) * eC A s k l c) k
def eI (A : Nat → Nat → Int) (s : Nat → Nat) (k : Nat) : Prop := eD A s k ≠ 0 ∧ ∀ r, r < k → ∀ c, sm (fun l => A r (s l) * eC A s k l c) k = eD A s k * A r c
theorem eI_zero (A : Nat → Nat → Int) (s : Nat → Nat) : eI A s 0 := ⟨by show (1 : Int) ≠ 0; omega, fun r hr => absurd hr (Nat.not_lt_zero r)⟩
theorem eD_S (A : Nat → Nat → Int) (s : Nat → Nat) (k : Nat) : eD A s (k + 1) = eN A s k (A k) (s k) := dt_border
theorem eC_new (A : Nat → Nat → Int) (s : Nat → Nat) (k c : Nat) : eC A s (k + 1) k c = eN A s k (A k) c := by
  unfold eC
  rw [dt_border]
  have e1 : dt k (rp (eB A s) k (fun i => A i c)) = dt k (eB A s) := dt_congr (fun i d _ hd => by unfold rp; rw [if_neg (by omega)])
  have e2 : rp (eB A s) k (fun i => A i c) k k = A k c := by unfold rp; rw [if_pos rfl]
  rw [e1, e2]
  show _ = eD A s k * A k c - sm (fun l => A k (s l) * eC A s k l c) k
  unfold eD
  congr 1
  refine sm_congr (fun l hl => ?_)
  have e3 : rp (eB A s) k (fun i => A i c) k l = A k (s l) := by unfold rp eB; rw [if_neg (by omega)]
  rw [e3]
  congr 1
  unfold eC
  refine dt_congr (fun i d _ hd => ?_)
  unfold rp
  by_cases q : d = l
  · rw [if_pos q, if_pos q]
    dsimp only
    rw [if_pos rfl]
  · rw [if_neg q, if_neg q, if_neg (by omega)]
/-- one more row is kept -/
theorem e_step {A : Nat → Nat → Int} {s : Nat → Nat} {k : Nat} (h : eI A s k) (hp : eN A s k (A k) (s k) ≠ 0) : eI A s (k + 1) ∧ ∀ i, i < k → ∀ c, eD A s k * eC A s (k + 1) i c = eN A s k (A k) (s k) * eC A s k i c - eC A s k i (s k) * eN A s k (A k) c := by
  obtain ⟨hD, h1⟩ := h
  have hsum : ∀ c, sm (fun l => A k (s l) * eC A s k l c) k = eD A s k * A k c - eN A s k (A k) c := fun c => by unfold eN; omega
  -- the solution of the larger system
  have hy : ∀ c r, r < k + 1 → sm (fun l => (if l = k then eD A s k * eN A s k (A k) c else eN A s k (A k) (s k) * eC A s k l c - eC A s k l (s k) * eN A s k (A k) c) * eB A s r l) (k + 1) = (eN A s k (A k) (s k) * eD A s k) * A r c := by
    intro c r hr
    show sm (fun l => (if l = k then eD A s k * eN A s k (A k) c else eN A s k (A k) (s k) * eC A s k l c - eC A s k l (s k) * eN A s k (A k) c) * eB A s r l) k + (if k = k then eD A s k * eN A s k (A k) c else _) * eB A s r k = _
    rw [if_pos rfl]
    have e1 : sm (fun l => (if l = k then eD A s k * eN A s k (A k) c else eN A s k (A k) (s k) * eC A s k l c - eC A s k l (s k) * eN A s k (A k) c) * eB A s r l) k = sm (fun l => eN A s k (A k) (s k) * (A r (s l) * eC A s k l c) + (- eN A s k (A k) c) * (A r (s l) * eC A s k l (s k))) k := sm_congr (fun l hl => by
      rw [if_neg (by omega)]
      unfold eB
      rw [Int.sub_mul, Int.neg_mul, Int.mul_assoc, Int.mul_comm (eC A s k l c), Int.mul_comm (eC A s k l (s k)), Int.mul_assoc, Int.mul_comm (eC A s k l (s k))]
      rfl)
    rw [e1, sm_add, sm_mul, sm_mul]
    show eN A s k (A k) (s k) * sm (fun l => A r (s l) * eC A s k l c) k + (- eN A s k (A k) c) * sm (fun l => A r (s l) * eC A s k l (s k)) k + eD A s k * eN A s k (A k) c * A r (s k) = _
    by_cases e : r = k
    · subst e
      rw [hsum c, hsum (s r)]
      generalize eN A s r (A r) (s r) = Nj
      generalize eN A s r (A r) c = Nc
      generalize eD A s r = D
      rw [Int.mul_sub, Int.mul_sub, Int.neg_mul, Int.neg_mul, Int.mul_comm Nc Nj, Int.mul_assoc Nj D, Int.mul_comm D Nc, Int.mul_assoc Nc D]
      omega
    · rw [h1 r (by omega) c, h1 r (by omega) (s k)]
      generalize eN A s k (A k) (s k) = Nj
      generalize eN A s k (A k) c = Nc
      generalize eD A s k = D
      rw [Int.neg_mul, Int.mul_assoc Nj D, Int.mul_comm D Nc, Int.mul_assoc Nc D]
      omega
  have hsyl : ∀ i, i < k → ∀ c, eD A s k * eC A s (k + 1) i c = eN A s k (A k) (s k) * eC A s k i c - eC A s k i (s k) * eN A s k (A k) c := by
    intro i hi c
    have cr := dt_cramer (n := k + 1) (M := eB A s) (v := fun r => A r c) (m := eN A s k (A k) (s k) * eD A s k) (i := i) (by omega) (hy c)
    rw [if_neg (by omega)] at cr
    have eDk : dt (k + 1) (eB A s) = eN A s k (A k) (s k) := eD_S A s k
    rw [eDk, Int.mul_assoc] at cr
    have := Int.eq_of_mul_eq_mul_left hp cr
    exact this.symm
  refine ⟨⟨by rw [eD_S]; exact hp, fun r hr c => ?_⟩, hsyl⟩
  have e := hy c r hr
  have e2 : sm (fun l => (if l = k then eD A s k * eN A s k (A k) c else eN A s k (A k) (s k) * eC A s k l c - eC A s k l (s k) * eN A s k (A k) c) * eB A s r l) (k + 1) = eD A s k * sm (fun l => A r (s l) * eC A s (k + 1) l c) (k + 1) := by
    rw [← sm_mul]
    refine sm_congr (fun l hl => ?_)
    unfold eB
    by_cases q : l = k
    · rw [if_pos q, q, eC_new, Int.mul_assoc, Int.mul_comm (eN A s k (A k) c)]
    · rw [if_neg q, ← hsyl l (by omega) c, Int.mul_assoc, Int.mul_comm (eC A s (k + 1) l c)]
  rw [e2, Int.mul_comm (eN A s k (A k) (s k)), Int.mul_assoc] at e
  rw [eD_S]
  exact Int.eq_of_mul_eq_mul_left hD e
theorem eC_piv {A : Nat → Nat → Int} {s : Nat → Nat} {k l m : Nat} (hl : l < k) (hm : m < k) : eC A s k l (s m) = if l = m then eD A s k else 0 := by
  unfold eC eD
  by_cases e : l = m
  · rw [if_pos e]
    congr 1
    funext i c
    unfold rp eB
    split
    · next q => rw [q, e]
    · rfl
  · rw [if_neg e]
    rcases Nat.lt_or_gt_of_ne e with q | q
    · refine dt_same q hm (fun i _ => ?_)
      unfold rp eB
      rw [if_pos rfl, if_neg (by omega)]
    · refine dt_same q hl (fun i _ => ?_)
      unfold rp eB
      rw [if_neg (by omega), if_pos rfl]
theorem eN_piv {A : Nat → Nat → Int} {s : Nat → Nat} {k m : Nat} {a : Nat → Int} (hm : m < k) : eN A s k a (s m) = 0 := by
  unfold eN
  rw [sm_one hm (fun l hl hne => by rw [eC_piv hl hm, if_neg hne, Int.mul_zero]), eC_piv hm hm, if_pos rfl, Int.mul_comm]
  omega
/-- the cells are sums of the kept rows -/
theorem eC_comb (A : Nat → Nat → Int) (s : Nat → Nat) {k l : Nat} (hl : l < k) : ∃ y : Nat → Int, ∀ c, eC A s k l c = sm (fun r => y r * A r c) k := by
  refine ⟨fun r => dt k (rp (eB A s) l (fun i => if i = r then 1 else 0)), fun c => ?_⟩
  unfold eC
  have e : dt k (rp (eB A s) l (fun i => A i c)) = dt k (rp (eB A s) l (fun i => sm (fun r => A r c * (fun (r i : Nat) => if i = r then (1 : Int) else 0) r i) k)) := dt_congr (fun i d hi _ => by
    unfold rp
    split
    · dsimp only
      rw [sm_one (f := fun r => A r c * if i = r then 1 else 0) hi (fun r _ hne => by rw [if_neg (fun q => hne q.symm), Int.mul_zero]), if_pos rfl, Int.mul_one]
    · rfl)
  rw [e, dt_sum hl (fun r i => if i = r then 1 else 0) (fun r => A r c) k]
  exact sm_congr (fun r _ => Int.mul_comm _ _)
theorem sm_inj {f : Nat → Int} (hf : ∀ c, 0 ≤ f c) : ∀ {k n : Nat} {t : Nat → Nat}, (∀ l, l < k → t l < n) → (∀ l m, l < k → m < k → t l = t m → l = m) → sm (fun l => f (t l)) k ≤ sm f n
  | 0, n, t, _, _ => sm_nn (fun i _ => hf i)
  | k + 1, n, t, h1, h2 => by
    have hn := h1 k (by omega)
    obtain ⟨n, rfl⟩ : ∃ m, n = m + 1 := ⟨n - 1, by omega⟩
    rw [sm_skip (f := f) (j := t k) (by omega)]
    show sm (fun l => f (t l)) k + f (t k) ≤ _
    have ih := sm_inj (f := fun c => f (sk (t k) c)) (fun c => hf _) (k := k) (n := n) (t := fun l => if t l < t k then t l else t l - 1) (fun l hl => by
      have a1 := h1 l (by omega)
      have a2 : t l ≠ t k := fun e => by have := h2 l k (by omega) (by omega) e; omega
      split <;> omega) (fun l m hl hm e => by
      have a2 : t l ≠ t k := fun e => by have := h2 l k (by omega) (by omega) e; omega
      have a3 : t m ≠ t k := fun e => by have := h2 m k (by omega) (by omega) e; omega
      apply h2 l m (by omega) (by omega)
      split at e <;> split at e <;> omega)
    have e : sm (fun l => (fun c => f (sk (t k) c)) (if t l < t k then t l else t l - 1)) k = sm (fun l => f (t l)) k := sm_congr (fun l hl => by
      have a2 : t l ≠ t k := fun e => by have := h2 l k (by omega) (by omega) e; omega
      dsimp only
      congr 1
      unfold sk
      by_cases q : t l < t k
      · rw [if_pos q, if_pos q]
      · rw [if_neg q, if_neg (by omega)]
        omega)
    rw [e] at ih
    omega
theorem e_bound {A : Nat → Nat → Int} {s : Nat → Nat} {K : Int} {k n : Nat} (hK : 0 ≤ K) (hA : ∀ i, i < k → ps (A i) n ≤ K ∧ ps (fun c => - A i c) n ≤ K) {t : Nat → Nat} (h1 : ∀ l, l < k → t l < n) (h2 : ∀ l m, l < k → m < k → t l = t m → l = m) : dt k (fun i l => A i (t l)) ≤ K ^ k ∧ -(K ^ k) ≤ dt k (fun i l => A i (t l)) :=
  dt_bound hK (fun i hi => ⟨Int.le_trans (sm_inj (f := fun c => pz (A i c)) (fun c => pz_nn _) h1 h2) (hA i hi).1, Int.le_trans (sm_inj (f := fun c => pz (- A i c)) (fun c => pz_nn _) h1 h2) (hA i hi).2⟩)
/-- the size of a cell -/
theorem eC_bound {A : Nat → Nat → Int} {s : Nat → Nat} {K : Int} {k n l c : Nat} (hK : 0 ≤ K) (hA : ∀ i, i < k → ps (A i) n ≤ K ∧ ps (fun c => - A i c) n ≤ K) (h1 : ∀ l, l < k → s l < n) (h2 : ∀ l m, l < k → m < k → s l = s m → l = m) (hc : c < n) (hcs : ∀ m, m < k → s m ≠ c) : eC A s k l c ≤ K ^ k ∧ -(K ^ k) ≤ eC A s k l c := by
  have e : rp (eB A s) l (fun i => A i c) = fun i m => A i (if m = l then c else s m) := by
    funext i m
    unfold rp eB
    split <;> rfl
  unfold eC
  rw [e]
  exact e_bound (s := s) (t := fun m => if m = l then c else s m) hK hA (fun m hm => by split; exact hc; exact h1 m hm) (fun m m' hm hm' q => by
    by_cases a : m = l
    · by_cases b : m' = l
      · omega
      · rw [if_pos a, if_neg b] at q
        exact absurd q.symm (hcs m' hm')
    · by_cases b : m' = l
      · rw [if_neg a, if_pos b] at q
        exact absurd q (hcs m hm)
      · rw [if_neg a, if_neg b] at q
        exact h2 m m' hm hm' q)
