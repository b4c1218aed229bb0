theorem Wd.most {u : gw_St} {p q n m : Nat} {v : Int} (h : Wd u p q n v) (hv : v.natAbs < 2147483648 ^ m) : n ≤ m := by
  obtain ⟨a1, a2, a3, a4, a5⟩ := h
  apply Classical.byContradiction
  intro hn
  have h0 : 0 < n := by omega
  have h1 := bv_le (B := 2147483648) (f := lm u q) h0
  have h2 : 1 * 2147483648 ^ (n - 1) ≤ lm u q (n - 1) * 2147483648 ^ (n - 1) := Nat.mul_le_mul_right _ (by have := a4 h0; omega)
  have h3 : 2147483648 ^ m ≤ 2147483648 ^ (n - 1) := Nat.pow_le_pow_right (by decide) (by omega)
  have h5 : v.natAbs = wv u q n := by
    rcases a5 with ⟨b1, -, -⟩ | ⟨-, -, b3⟩ | ⟨-, -, b3⟩ <;> omega
  have h6 : wv u q n = bv 2147483648 (lm u q) n := rfl
  omega
theorem eN_sm {A : Nat → Nat → Int} {s : Nat → Nat} {k c : Nat} {v : Nat → Nat → Int} {m : Nat} : eN A s k (fun c => sm (fun t => v t c) m) c = sm (fun t => eN A s k (v t) c) m := by
  unfold eN
  have e1 : sm (fun l => sm (fun t => v t (s l)) m * eC A s k l c) k = sm (fun t => sm (fun l => v t (s l) * eC A s k l c) k) m := by
    rw [sm_comm]
    exact sm_congr (fun l _ => sm_mul')
  have e2 : sm (fun t => eD A s k * v t c - sm (fun l => v t (s l) * eC A s k l c) k) m = sm (fun t => eD A s k * v t c + - sm (fun l => v t (s l) * eC A s k l c) k) m := sm_congr (fun t _ => by omega)
  dsimp only
  rw [e1, e2, sm_add, sm_mul, sm_neg]
  omega
/-- what one term adds to the new row -/
theorem eN_own {A : Nat → Nat → Int} {s : Nat → Nat} {k c : Nat} {x : Int} (h : ∀ l, l < k → s l ≠ c) : eN A s k (at1 c x) c = eD A s k * x := by
  unfold eN
  rw [sm_zero (fun l hl => by unfold at1; rw [if_neg (h l hl), Int.zero_mul]), show at1 c x c = x from if_pos rfl]
  omega
theorem eN_row {A : Nat → Nat → Int} {s : Nat → Nat} {k c l : Nat} {x : Int} (hi : ∀ l j, l < k → j < k → s l = s j → l = j) (hl : l < k) (hc : s l ≠ c) : eN A s k (at1 (s l) x) c = -(eC A s k l c * x) := by
  unfold eN
  rw [sm_one hl (fun j hj hne => by unfold at1; rw [if_neg (fun e => hne (hi j l hj hl e)), Int.zero_mul]), show at1 (s l) x (s l) = x from if_pos rfl, show at1 (s l) x c = 0 from if_neg (fun e => hc e.symm), Int.mul_comm x]
  omega
theorem eN_none {A : Nat → Nat → Int} {s : Nat → Nat} {k c g : Nat} {x : Int} (h : ∀ l, l < k → s l ≠ g) (hc : g ≠ c) : eN A s k (at1 g x) c = 0 := by
  unfold eN
  rw [sm_zero (fun l hl => by unfold at1; rw [if_neg (h l hl), Int.zero_mul]), show at1 g x c = 0 from if_neg (fun e => hc e.symm)]
  omega
