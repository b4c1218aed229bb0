/-! the order of trains -/
/-- the wheels of drivers and driven in turn, as one number -/
def il (S d e : Nat) : Nat → Nat
  | 0 => 0
  | n + 1 => (il S d e n * 128 + wl S d n) * 128 + wl S e n
/-- how far a train is off, times both products' denominators -/
def gap (S nm dn d e : Nat) : Nat := (pP S d * dn - pP S e * nm) + (pP S e * nm - pP S d * dn)
/-- the train d, e is better than d', e' -/
def bt (S nm dn d e d' e' : Nat) : Prop := gap S nm dn d e * pP S e' < gap S nm dn d' e' * pP S e ∨ (gap S nm dn d e * pP S e' = gap S nm dn d' e' * pP S e ∧ (tT S d + tT S e < tT S d' + tT S e' ∨ (tT S d + tT S e = tT S d' + tT S e' ∧ il S d e S < il S d' e' S)))
theorem rat_tr {a b c p q r : Nat} (hq : 0 < q) (h1 : a * q ≤ b * p) (h2 : b * r ≤ c * q) : a * r ≤ c * p := by
  have e1 : a * q * r ≤ b * p * r := Nat.mul_le_mul_right _ h1
  have e2 : b * r * p ≤ c * q * p := Nat.mul_le_mul_right _ h2
  have e3 : a * r * q ≤ c * p * q := by
    rw [show a * r * q = a * q * r from by rw [Nat.mul_assoc, Nat.mul_comm r q, ← Nat.mul_assoc], show c * p * q = c * q * p from by rw [Nat.mul_assoc, Nat.mul_comm p q, ← Nat.mul_assoc]]
    rw [show b * p * r = b * r * p from by rw [Nat.mul_assoc, Nat.mul_comm p r, ← Nat.mul_assoc]] at e1
    exact Nat.le_trans e1 e2
  exact Nat.le_of_mul_le_mul_right e3 hq
/-- what is not better: at least as great -/
theorem bt_le {S nm dn d e d' e' : Nat} (h : ¬ bt S nm dn d e d' e') : gap S nm dn d' e' * pP S e ≤ gap S nm dn d e * pP S e' := by
  apply Classical.byContradiction
  intro q
  exact h (Or.inl (by omega))
theorem bt_irr {S nm dn d e : Nat} : ¬ bt S nm dn d e d e := by
  unfold bt
  omega
theorem bt_tr {S nm dn d e d' e' d2 e2 : Nat} (hp' : 0 < pP S e') (hp : 0 < pP S e) (hp2 : 0 < pP S e2) (h1 : ¬ bt S nm dn d' e' d e) (h2 : ¬ bt S nm dn d2 e2 d' e') : ¬ bt S nm dn d2 e2 d e := by
  have a1 := bt_le h1
  have a2 := bt_le h2
  have a3 : gap S nm dn d e * pP S e2 ≤ gap S nm dn d2 e2 * pP S e := rat_tr hp' a1 a2
  intro h3
  rcases h3 with h3 | ⟨h3, h4⟩
  · omega
  · -- all alike
    have b1 : gap S nm dn d' e' * pP S e ≤ gap S nm dn d e * pP S e' := by
      refine rat_tr hp2 a2 ?_
      omega
    have b2 : gap S nm dn d2 e2 * pP S e' ≤ gap S nm dn d' e' * pP S e2 := by
      refine rat_tr hp (Nat.le_of_eq h3) ?_
      exact a1
    unfold bt at h1 h2
    omega
theorem il_congr {S d e d' e' : Nat} : ∀ n, (∀ s, s < n → wl S d s = wl S d' s ∧ wl S e s = wl S e' s) → il S d e n = il S d' e' n := by
  intro n
  induction n with
  | zero => intro _; rfl
  | succ n ih =>
    intro h
    show (il S d e n * 128 + wl S d n) * 128 + wl S e n = (il S d' e' n * 128 + wl S d' n) * 128 + wl S e' n
    rw [ih (fun s hs => h s (by omega)), (h n (by omega)).1, (h n (by omega)).2]
theorem il_inj {S d e d' e' : Nat} : ∀ n, il S d e n = il S d' e' n → ∀ s, s < n → wl S d s = wl S d' s ∧ wl S e s = wl S e' s := by
  intro n
  induction n with
  | zero => intro _ s hs; exact absurd hs (Nat.not_lt_zero s)
  | succ n ih =>
    intro h s hs
    have h0 : (il S d e n * 128 + wl S d n) * 128 + wl S e n = (il S d' e' n * 128 + wl S d' n) * 128 + wl S e' n := h
    have b1 := wl_lt (n := S) (c := d) (s := n)
    have b2 := wl_lt (n := S) (c := e) (s := n)
    have b3 := wl_lt (n := S) (c := d') (s := n)
    have b4 := wl_lt (n := S) (c := e') (s := n)
    have h1 : il S d e n = il S d' e' n := by omega
    by_cases q : s = n
    · rw [q]; omega
    · exact ih h1 s (by omega)
/-- less at some point: less at the end -/
theorem il_lt {S d e d' e' : Nat} : ∀ k n, il S d e n < il S d' e' n → il S d e (n + k) < il S d' e' (n + k) := by
  intro k
  induction k with
  | zero => intro n h; exact h
  | succ k ih =>
    intro n h
    have h1 := ih n h
    have b1 := wl_lt (n := S) (c := d) (s := n + k)
    have b2 := wl_lt (n := S) (c := e) (s := n + k)
    show (il S d e (n + k) * 128 + wl S d (n + k)) * 128 + wl S e (n + k) < (il S d' e' (n + k) * 128 + wl S d' (n + k)) * 128 + wl S e' (n + k)
    omega
theorem bt_eq {S lo hi nm dn d e d' e' : Nat} (hp : TaP S lo hi) (h1 : isC S lo hi d) (h2 : isC S lo hi e) (h3 : isC S lo hi d') (h4 : isC S lo hi e') (a : ¬ bt S nm dn d e d' e') (b : ¬ bt S nm dn d' e' d e) : d = d' ∧ e = e' := by
  have c1 := bt_le a
  have c2 := bt_le b
  have hil : il S d e S = il S d' e' S := by
    unfold bt at a b
    omega
  have hw := il_inj S hil
  obtain ⟨-, -, w1⟩ := h1.wls hp
  obtain ⟨-, -, w2⟩ := h2.wls hp
  obtain ⟨-, -, w3⟩ := h3.wls hp
  obtain ⟨-, -, w4⟩ := h4.wls hp
  exact ⟨by rw [← w1, ← w3]; exact cd_congr (fun s hs => (hw s hs).1), by rw [← w2, ← w4]; exact cd_congr (fun s hs => (hw s hs).2)⟩
/-- of its product the one with the fewest teeth, and of these the first -/
def isRep (S lo hi x : Nat) : Prop := isC S lo hi x ∧ ∀ y, isC S lo hi y → pP S y = pP S x → tT S x < tT S y ∨ (tT S x = tT S y ∧ x ≤ y)
/-- the driven wheels worth a trial with a product p of the drivers -/
def Cand (S lo hi nm dn p e : Nat) : Prop := isRep S lo hi e ∧ ((pP S e * nm < p * dn ∧ ∀ y, isC S lo hi y → pP S y * nm < p * dn → pP S y ≤ pP S e) ∨ (p * dn ≤ pP S e * nm ∧ ∀ y, isC S lo hi y → p * dn ≤ pP S y * nm → pP S e ≤ pP S y))
theorem isRep.uniq {S lo hi x y : Nat} (h : isRep S lo hi x) (g : isRep S lo hi y) (e : pP S x = pP S y) : x = y := by
  have h1 := h.2 y g.1 e.symm
  have h2 := g.2 x h.1 e
  omega
/-- the best of a set of trains -/
def Bst (S nm dn : Nat) (X : Nat → Nat → Prop) (d e : Nat) : Prop := X d e ∧ ∀ d' e', X d' e' → ¬ bt S nm dn d' e' d e
/-- for the same driven wheels the product's first drivers are not worse -/
theorem rep_first {S lo hi nm dn d d' e : Nat} (hp : TaP S lo hi) (h : isRep S lo hi d) (hd : isC S lo hi d') (hpd : pP S d' = pP S d) : ¬ bt S nm dn d' e d e := by
  have hg : gap S nm dn d' e = gap S nm dn d e := by unfold gap; rw [hpd]
  have h1 := h.2 d' hd hpd
  intro q
  unfold bt at q
  rw [hg] at q
  have hil : tT S d = tT S d' → il S d e S ≤ il S d' e S := fun ht => by
    have hle : d ≤ d' := by omega
    obtain ⟨c1, -, w1⟩ := h.1.wls hp
    obtain ⟨c2, -, w2⟩ := hd.wls hp
    rcases first_diff (wl S d) (wl S d') S with q | ⟨j, j1, j2, j3⟩
    · rw [il_congr S (fun s hs => ⟨q s hs, rfl⟩)]
      exact Nat.le_refl _
    · have hlt : wl S d j < wl S d' j := by
        apply Classical.byContradiction
        intro g
        have := cd_lex (w := wl S d') (x := wl S d) (j := j) (fun s hs => (j2 s hs).symm) (by omega) j1 (fun s _ => wl_lt)
        omega
      have h5 : il S d e j = il S d' e j := il_congr j (fun s hs => ⟨j2 s hs, rfl⟩)
      have h6 : il S d e (j + 1) < il S d' e (j + 1) := by
        show (il S d e j * 128 + wl S d j) * 128 + wl S e j < (il S d' e j * 128 + wl S d' j) * 128 + wl S e j
        rw [h5]
        omega
      have h7 := il_lt (S - (j + 1)) (j + 1) h6
      rw [show j + 1 + (S - (j + 1)) = S by omega] at h7
      exact Nat.le_of_lt h7
  have := hil
  omega
/-- both searches find the same train -/
theorem bst_same {S lo hi nm dn d e d2 e2 : Nat} (hp : TaP S lo hi) (hrep : ∀ x, isC S lo hi x → ∃ y, isRep S lo hi y ∧ pP S y = pP S x) (h1 : Bst S nm dn (fun d e => isC S lo hi d ∧ Cand S lo hi nm dn (pP S d) e) d e) (h2 : Bst S nm dn (fun d e => isRep S lo hi d ∧ Cand S lo hi nm dn (pP S d) e) d2 e2) : d = d2 ∧ e = e2 := by
  obtain ⟨⟨a1, a2⟩, a3⟩ := h1
  obtain ⟨⟨b1, b2⟩, b3⟩ := h2
  have pos : ∀ x, isC S lo hi x → 0 < pP S x := fun x hx => (hx.prd hp).1
  refine bt_eq hp a1 a2.1.1 b1.1 b2.1.1 ?_ (a3 d2 e2 ⟨b1.1, b2⟩)
  obtain ⟨y, y1, y2⟩ := hrep d a1
  have c1 : ¬ bt S nm dn d e y e := rep_first hp y1 a1 y2.symm
  have c2 := b3 y e ⟨y1, by rw [y2]; exact a2⟩
  exact bt_tr (pos _ a2.1.1) (pos _ b2.1.1) (pos _ a2.1.1) c2 c1
