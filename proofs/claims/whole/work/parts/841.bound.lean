def pz (x : Int) : Int := if 0 ≤ x then x else 0
def ps (v : Nat → Int) (n : Nat) : Int := sm (fun c => pz (v c)) n
theorem pz_nn (x : Int) : 0 ≤ pz x := by unfold pz; split <;> omega
theorem pz_add (x y : Int) : pz (x + y) ≤ pz x + pz y := by unfold pz; split <;> split <;> split <;> omega
theorem pz_id (x : Int) : x = pz x - pz (-x) := by unfold pz; split <;> split <;> omega
theorem sm_skip {f : Nat → Int} {j : Nat} : ∀ {n : Nat}, j ≤ n → sm f (n + 1) = sm (fun c => f (sk j c)) n + f j
  | 0, h => by
    have : j = 0 := by omega
    subst this
    rfl
  | n + 1, h => by
    by_cases e : j = n + 1
    · subst e
      show sm f (n + 1) + f (n + 1) = _
      congr 1
      refine sm_congr (fun i hi => ?_)
      unfold sk
      rw [if_pos hi]
    · show sm f (n + 1) + f (n + 1) = sm (fun c => f (sk j c)) n + f (sk j n) + f j
      rw [sm_skip (n := n) (j := j) (by omega)]
      have : sk j n = n + 1 := by unfold sk; rw [if_neg (by omega)]
      rw [this]
      omega
theorem sm_set {g : Nat → Int} {x : Nat} {t : Int} : ∀ {n : Nat}, x < n → sm (fun c => if c = x then t else g c) n = sm g n - g x + t
  | 0, h => absurd h (Nat.not_lt_zero x)
  | n + 1, h => by
    unfold sm
    by_cases e : x = n
    · subst e
      rw [if_pos rfl, sm_congr (g := g) (fun i hi => if_neg (by omega))]
      omega
    · rw [sm_set (n := n) (by omega), if_neg (by omega)]
      omega
theorem sm_nn {f : Nat → Int} : ∀ {n : Nat}, (∀ i, i < n → 0 ≤ f i) → 0 ≤ sm f n
  | 0, _ => Int.le_refl 0
  | n + 1, h => by
    have := sm_nn (fun i (hi : i < n) => h i (by omega))
    have := h n (by omega)
    unfold sm
    omega
theorem sm_le {f g : Nat → Int} : ∀ {n : Nat}, (∀ i, i < n → f i ≤ g i) → sm f n ≤ sm g n
  | 0, _ => Int.le_refl 0
  | n + 1, h => by
    have := sm_le (fun i (hi : i < n) => h i (by omega))
    have := h n (by omega)
    unfold sm
    omega
theorem ps_skip {v : Nat → Int} {n j : Nat} (hj : j ≤ n) : ps (fun c => v (sk j c)) n ≤ ps v (n + 1) := by
  unfold ps
  rw [sm_skip (f := fun c => pz (v c)) hj]
  have := pz_nn (v j)
  dsimp only
  omega
theorem ps_merge {v : Nat → Int} {n x y : Nat} (hxy : x < y) (hy : y ≤ n) : ps (fun c => if c = x then v x + v y else v (sk y c)) n ≤ ps v (n + 1) := by
  unfold ps
  rw [sm_skip (f := fun c => pz (v c)) hy]
  have e : sm (fun c => pz (if c = x then v x + v y else v (sk y c))) n = sm (fun c => if c = x then pz (v x + v y) else pz (v (sk y c))) n := sm_congr (fun i _ => by split <;> rfl)
  rw [e, sm_set (g := fun c => pz (v (sk y c))) (by omega)]
  have e2 : sk y x = x := by unfold sk; rw [if_pos hxy]
  rw [e2]
  have := pz_add (v x) (v y)
  omega
theorem dt_merge {n : Nat} {M : Nat → Nat → Int} {x y : Nat} (hxy : x < y) (hy : y ≤ n) : sg1 (n + y) * dt n (fun i c => if c = x then M i x + M i y else M i (sk y c)) = sg1 (n + y) * dt n (fun i c => M i (sk y c)) - sg1 (n + x) * dt n (fun i c => M i (sk x c)) := by
  have e0 : (fun i c => if c = x then M i x + M i y else M i (sk y c)) = rp (fun i c => M i (sk y c)) x (fun i => 1 * M i x + 1 * M i y) := by
    funext i c
    unfold rp
    dsimp only
    rw [Int.one_mul, Int.one_mul]
  rw [e0, dt_lin (by omega), Int.one_mul, Int.one_mul]
  have e1 : rp (fun i c => M i (sk y c)) x (fun i => M i x) = fun i c => M i (sk y c) := by
    funext i c
    unfold rp sk
    by_cases q : c = x
    · rw [if_pos q, q]
      dsimp only
      rw [if_pos hxy]
    · rw [if_neg q]
  have m1 := dt_move (n := n) (M := rp (fun i c => M i (sk y c)) x (fun i => M i y)) (p := x) (y - 1 - x) (by omega)
  have m2 : dt n (fun i c => rp (fun i c => M i (sk y c)) x (fun i => M i y) i (mv x (x + (y - 1 - x)) c)) = dt n (fun i c => M i (sk x c)) := dt_congr (fun i c _ hc => by
    unfold rp mv sk
    dsimp only
    by_cases q : c < x
    · rw [if_pos q, if_pos q, if_neg (by omega), if_pos (by omega)]
    · rw [if_neg q, if_neg q]
      by_cases q2 : c < x + (y - 1 - x)
      · rw [if_pos q2, if_neg (by omega), if_pos (by omega)]
      · rw [if_neg q2]
        by_cases q3 : c = x + (y - 1 - x)
        · rw [if_pos q3, if_pos rfl, show c + 1 = y by omega]
        · rw [if_neg q3, if_neg (by omega), if_neg (by omega)])
  rw [m2] at m1
  have e2 : dt n (rp (fun i c => M i (sk y c)) x (fun i => M i y)) = sg1 (y - 1 - x) * dt n (fun i c => M i (sk x c)) := by
    rw [m1, ← Int.mul_assoc, sg1_sq, Int.one_mul]
  rw [e1, e2, Int.mul_add, ← Int.mul_assoc, ← sg1_add]
  have s : sg1 (n + y + (y - 1 - x)) = - sg1 (n + x) := by
    unfold sg1
    by_cases q : (n + x) % 2 = 0
    · rw [if_pos q, if_neg (by omega)]
    · rw [if_neg q, if_pos (by omega)]; rfl
  rw [s, Int.neg_mul]
  omega
theorem interval {f : Nat → Int} {L : Int} (hL : 0 ≤ L) : ∀ {n : Nat}, (∀ i, i < n → f i ≤ L ∧ -L ≤ f i) → (∀ i j, i < n → j < n → f i - f j ≤ L) → ∃ lo hi, lo ≤ 0 ∧ 0 ≤ hi ∧ hi - lo ≤ L ∧ (∀ i, i < n → lo ≤ f i ∧ f i ≤ hi) ∧ (lo = 0 ∨ ∃ i, i < n ∧ lo = f i) ∧ (hi = 0 ∨ ∃ i, i < n ∧ hi = f i)
  | 0, _, _ => ⟨0, 0, Int.le_refl 0, Int.le_refl 0, by omega, fun i hi => absurd hi (Nat.not_lt_zero i), Or.inl rfl, Or.inl rfl⟩
  | n + 1, h1, h2 => by
    obtain ⟨lo, hi, a1, a2, a3, a4, a5, a6⟩ := interval hL (n := n) (fun i q => h1 i (by omega)) (fun i j q1 q2 => h2 i j (by omega) (by omega))
    have hn := h1 n (by omega)
    by_cases c1 : f n < lo
    · refine ⟨f n, hi, by omega, a2, ?_, fun i q => ?_, Or.inr ⟨n, by omega, rfl⟩, ?_⟩
      · rcases a6 with e | ⟨i, q, e⟩
        · rw [e]; omega
        · rw [e]; exact h2 i n (by omega) (by omega)
      · by_cases e : i = n
        · rw [e]; omega
        · have := a4 i (by omega); omega
      · rcases a6 with e | ⟨i, q, e⟩
        · exact Or.inl e
        · exact Or.inr ⟨i, by omega, e⟩
    · by_cases c2 : hi < f n
      · refine ⟨lo, f n, a1, by omega, ?_, fun i q => ?_, ?_, Or.inr ⟨n, by omega, rfl⟩⟩
        · rcases a5 with e | ⟨i, q, e⟩
          · rw [e]; omega
          · rw [e]; exact h2 n i (by omega) (by omega)
        · by_cases e : i = n
          · rw [e]; omega
          · have := a4 i (by omega); omega
        · rcases a5 with e | ⟨i, q, e⟩
          · exact Or.inl e
          · exact Or.inr ⟨i, by omega, e⟩
      · refine ⟨lo, hi, a1, a2, a3, fun i q => ?_, ?_, ?_⟩
        · by_cases e : i = n
          · rw [e]; omega
          · exact a4 i (by omega)
        · rcases a5 with e | ⟨i, q, e⟩
          · exact Or.inl e
          · exact Or.inr ⟨i, by omega, e⟩
        · rcases a6 with e | ⟨i, q, e⟩
          · exact Or.inl e
          · exact Or.inr ⟨i, by omega, e⟩
theorem sum_iv {v f : Nat → Int} {K L lo hi : Int} {n : Nat} (h1 : lo ≤ 0) (h2 : 0 ≤ hi) (h3 : hi - lo ≤ L) (h4 : ∀ i, i < n → lo ≤ f i ∧ f i ≤ hi) (hp : ps v n ≤ K) (hn : ps (fun c => - v c) n ≤ K) : sm (fun c => v c * f c) n ≤ K * L := by
  have hp0 : 0 ≤ ps v n := sm_nn (fun i _ => pz_nn _)
  have hn0 : 0 ≤ ps (fun c => - v c) n := sm_nn (fun i _ => pz_nn _)
  have e1 : sm (fun c => v c * f c) n ≤ sm (fun c => hi * pz (v c) + (-lo) * pz (- v c)) n := by
    refine sm_le (fun i q => ?_)
    have q4 := h4 i q
    unfold pz
    by_cases c : 0 ≤ v i
    · rw [if_pos c]
      by_cases c0 : 0 ≤ - v i
      · have : v i = 0 := by omega
        rw [this]
        simp
      · rw [if_neg c0, Int.mul_zero, Int.add_zero, Int.mul_comm]
        exact Int.mul_le_mul_of_nonneg_right q4.2 c
    · rw [if_neg c, if_pos (by omega), Int.mul_zero, Int.zero_add, Int.neg_mul_neg, Int.mul_comm]
      have : 0 ≤ (f i - lo) * (- v i) := Int.mul_nonneg (by omega) (by omega)
      rw [Int.sub_mul, Int.mul_neg, Int.mul_neg] at this
      omega
  rw [sm_add, sm_mul, sm_mul] at e1
  have e2 : hi * sm (fun i => pz (v i)) n ≤ hi * K := Int.mul_le_mul_of_nonneg_left hp h2
  have e3 : (-lo) * sm (fun i => pz (- v i)) n ≤ (-lo) * K := Int.mul_le_mul_of_nonneg_left hn (by omega)
  have e4 : hi * K + (-lo) * K = K * (hi - lo) := by rw [← Int.add_mul, Int.mul_comm]; rfl
  have e5 : K * (hi - lo) ≤ K * L := Int.mul_le_mul_of_nonneg_left h3 (by omega)
  omega
/-- the size of a determinant whose rows' positive and negative parts are bounded -/
theorem dt_bound {K : Int} (hK : 0 ≤ K) : ∀ {n : Nat} {M : Nat → Nat → Int}, (∀ i, i < n → ps (M i) n ≤ K ∧ ps (fun c => - M i c) n ≤ K) → dt n M ≤ K ^ n ∧ -(K ^ n) ≤ dt n M
  | 0, M, _ => by
    show (1 : Int) ≤ K ^ 0 ∧ -(K ^ 0) ≤ 1
    rw [Int.pow_zero]
    omega
  | n + 1, M, h => by
    have hKn : 0 ≤ K ^ n := Int.pow_nonneg hK
    have b1 : ∀ j, j < n + 1 → dt n (fun i c => M i (sk j c)) ≤ K ^ n ∧ -(K ^ n) ≤ dt n (fun i c => M i (sk j c)) := fun j hj => dt_bound hK (fun i hi => ⟨Int.le_trans (ps_skip (v := M i) (by omega)) (h i (by omega)).1, Int.le_trans (ps_skip (v := fun c => - M i c) (by omega)) (h i (by omega)).2⟩)
    have b2 : ∀ x y, x < y → y ≤ n → dt n (fun i c => if c = x then M i x + M i y else M i (sk y c)) ≤ K ^ n ∧ -(K ^ n) ≤ dt n (fun i c => if c = x then M i x + M i y else M i (sk y c)) := fun x y hxy hy => dt_bound hK (fun i hi => ⟨Int.le_trans (ps_merge (v := M i) hxy hy) (h i (by omega)).1, by
      have e : ps (fun c => - (if c = x then M i x + M i y else M i (sk y c))) n = ps (fun c => if c = x then (- M i x) + (- M i y) else - M i (sk y c)) n := by
        unfold ps
        refine sm_congr (fun c _ => ?_)
        dsimp only
        split
        · congr 1; omega
        · rfl
      rw [e]
      exact Int.le_trans (ps_merge (v := fun c => - M i c) hxy hy) (h i (by omega)).2⟩)
    have sgc : ∀ m (x : Int), x ≤ K ^ n ∧ -(K ^ n) ≤ x → sg1 m * x ≤ K ^ n ∧ -(K ^ n) ≤ sg1 m * x := fun m x hx => by
      unfold sg1
      split <;> omega
    have f1 : ∀ i, i < n + 1 → sg1 (n + i) * dt n (fun r c => M r (sk i c)) ≤ K ^ n ∧ -(K ^ n) ≤ sg1 (n + i) * dt n (fun r c => M r (sk i c)) := fun i hi => sgc _ _ (b1 i hi)
    have f2 : ∀ i j, i < n + 1 → j < n + 1 → sg1 (n + i) * dt n (fun r c => M r (sk i c)) - sg1 (n + j) * dt n (fun r c => M r (sk j c)) ≤ K ^ n := fun i j hi hj => by
      rcases Nat.lt_trichotomy i j with q | q | q
      · have e := dt_merge (M := M) q (show j ≤ n by omega)
        have := sgc (n + j) _ (b2 i j q (by omega))
        omega
      · subst q
        omega
      · have e := dt_merge (M := M) q (show i ≤ n by omega)
        have := sgc (n + i) _ (b2 j i q (by omega))
        omega
    obtain ⟨lo, hi, a1, a2, a3, a4, _, _⟩ := interval hKn f1 f2
    have hn := h n (by omega)
    have e : dt (n + 1) M = sm (fun c => M n c * (sg1 (n + c) * dt n (fun r d => M r (sk c d)))) (n + 1) := by
      show sm (fun j => sg1 (n + j) * M n j * dt n (fun i c => M i (sk j c))) (n + 1) = _
      refine sm_congr (fun c _ => ?_)
      rw [Int.mul_comm (sg1 (n + c)), Int.mul_assoc]
    have u1 := sum_iv a1 a2 a3 a4 hn.1 hn.2
    have e2 : sm (fun c => (- M n c) * (sg1 (n + c) * dt n (fun r d => M r (sk c d)))) (n + 1) = - dt (n + 1) M := by
      rw [e, show -sm (fun c => M n c * (sg1 (n + c) * dt n (fun r d => M r (sk c d)))) (n + 1) = (-1) * sm (fun c => M n c * (sg1 (n + c) * dt n (fun r d => M r (sk c d)))) (n + 1) by omega, ← sm_mul]
      refine sm_congr (fun c _ => ?_)
      rw [Int.neg_mul]
      omega
    have u2 := sum_iv (v := fun c => - M n c) a1 a2 a3 a4 hn.2 (by
      have : (fun c => - - M n c) = M n := by funext c; omega
      rw [this]; exact hn.1)
    rw [e2] at u2
    rw [← e] at u1
    rw [Int.pow_succ, Int.mul_comm (K ^ n)]
    omega
