/-! trains: the choices of wheels -/
def nsum (f : Nat → Nat) : Nat → Nat
  | 0 => 0
  | n + 1 => nsum f n + f n
def nprod (f : Nat → Nat) : Nat → Nat
  | 0 => 1
  | n + 1 => nprod f n * f n
/-- the code of the wheels w 0 .. w (n - 1) -/
def cd (w : Nat → Nat) : Nat → Nat
  | 0 => 0
  | n + 1 => cd w n * 128 + w n
/-- wheel s of a code -/
def wl (n c s : Nat) : Nat := c / 128 ^ (n - 1 - s) % 128
theorem nsum_congr {f g : Nat → Nat} {n : Nat} (h : ∀ s, s < n → f s = g s) : nsum f n = nsum g n := by
  induction n with
  | zero => rfl
  | succ n ih =>
    show nsum f n + f n = nsum g n + g n
    rw [ih (fun s hs => h s (by omega)), h n (by omega)]
theorem nprod_congr {f g : Nat → Nat} {n : Nat} (h : ∀ s, s < n → f s = g s) : nprod f n = nprod g n := by
  induction n with
  | zero => rfl
  | succ n ih =>
    show nprod f n * f n = nprod g n * g n
    rw [ih (fun s hs => h s (by omega)), h n (by omega)]
theorem cd_congr {f g : Nat → Nat} {n : Nat} (h : ∀ s, s < n → f s = g s) : cd f n = cd g n := by
  induction n with
  | zero => rfl
  | succ n ih =>
    show cd f n * 128 + f n = cd g n * 128 + g n
    rw [ih (fun s hs => h s (by omega)), h n (by omega)]
theorem cd_le_pow {w : Nat → Nat} {n : Nat} (h : ∀ s, s < n → w s < 128) : cd w n < 128 ^ n := by
  induction n with
  | zero => exact Nat.one_pos
  | succ n ih =>
    have h1 := ih (fun s hs => h s (by omega))
    have h2 := h n (by omega)
    show cd w n * 128 + w n < 128 ^ (n + 1)
    rw [Nat.pow_succ]
    omega
theorem wl_last {n c : Nat} : wl (n + 1) c n = c % 128 := by
  unfold wl
  rw [show n + 1 - 1 - n = 0 by omega, Nat.pow_zero, Nat.div_one]
theorem wl_up {n c s : Nat} (h : s < n) : wl (n + 1) c s = wl n (c / 128) s := by
  unfold wl
  rw [show n + 1 - 1 - s = (n - 1 - s) + 1 by omega, Nat.pow_succ, Nat.mul_comm, ← Nat.div_div_eq_div_mul]
theorem wl_cd {w : Nat → Nat} : ∀ {n : Nat}, (∀ s, s < n → w s < 128) → ∀ s, s < n → wl n (cd w n) s = w s := by
  intro n
  induction n with
  | zero => intro _ s hs; exact absurd hs (Nat.not_lt_zero s)
  | succ n ih =>
    intro h s hs
    have h2 := h n (by omega)
    by_cases e : s = n
    · rw [e, wl_last]
      show (cd w n * 128 + w n) % 128 = w n
      omega
    · rw [wl_up (by omega), show cd w (n + 1) / 128 = cd w n from by show (cd w n * 128 + w n) / 128 = _; omega]
      exact ih (fun s hs => h s (by omega)) s (by omega)
theorem cd_wl : ∀ {n c : Nat}, c < 128 ^ n → cd (wl n c) n = c := by
  intro n
  induction n with
  | zero => intro c h; rw [Nat.pow_zero] at h; show 0 = c; omega
  | succ n ih =>
    intro c h
    show cd (wl (n + 1) c) n * 128 + wl (n + 1) c n = c
    rw [wl_last, cd_congr (g := wl n (c / 128)) (fun s hs => wl_up hs), ih (by rw [Nat.pow_succ] at h; omega)]
    omega
theorem wl_lt {n c s : Nat} : wl n c s < 128 := Nat.mod_lt _ (by decide)
/-- by the first wheel that differs -/
theorem cd_lex {w x : Nat → Nat} {j : Nat} (h0 : ∀ s, s < j → w s = x s) (hj : w j < x j) : ∀ {n : Nat}, j < n → (∀ s, s < n → w s < 128) → cd w n < cd x n := by
  intro n
  induction n with
  | zero => intro h; exact absurd h (Nat.not_lt_zero j)
  | succ n ih =>
    intro h hw
    show cd w n * 128 + w n < cd x n * 128 + x n
    by_cases e : j = n
    · rw [cd_congr (g := x) (fun s hs => h0 s (by omega)), ← e]
      omega
    · have h1 := ih (by omega) (fun s hs => hw s (by omega))
      have h2 := hw n (by omega)
      omega
theorem cd_mono {w x : Nat → Nat} {n : Nat} (h : ∀ s, s < n → w s ≤ x s) : cd w n ≤ cd x n := by
  induction n with
  | zero => exact Nat.le_refl _
  | succ n ih =>
    have h1 := ih (fun s hs => h s (by omega))
    have h2 := h n (by omega)
    show cd w n * 128 + w n ≤ cd x n * 128 + x n
    omega
theorem first_diff (w x : Nat → Nat) : ∀ n, (∀ s, s < n → w s = x s) ∨ ∃ j, j < n ∧ (∀ s, s < j → w s = x s) ∧ w j ≠ x j := by
  intro n
  induction n with
  | zero => exact Or.inl (fun s hs => absurd hs (Nat.not_lt_zero s))
  | succ n ih =>
    rcases ih with h | ⟨j, h1, h2, h3⟩
    · by_cases e : w n = x n
      · exact Or.inl (fun s hs => by
          by_cases q : s = n
          · rw [q]; exact e
          · exact h s (by omega))
      · exact Or.inr ⟨n, by omega, h, e⟩
    · exact Or.inr ⟨j, by omega, h2, h3⟩
theorem cd_inj {w x : Nat → Nat} {n : Nat} (hw : ∀ s, s < n → w s < 128) (hx : ∀ s, s < n → x s < 128) (h : cd w n = cd x n) : ∀ s, s < n → w s = x s := fun s hs => by
  rw [← wl_cd hw s hs, h, wl_cd hx s hs]
/-- the wheels of a choice -/
def Cc (S lo hi : Nat) (w : Nat → Nat) : Prop := (∀ s, s < S → lo ≤ w s ∧ w s ≤ hi) ∧ ∀ s, s + 1 < S → w s ≤ w (s + 1)
theorem Cc.mono {S lo hi : Nat} {w : Nat → Nat} (h : Cc S lo hi w) : ∀ t s, s ≤ t → t < S → w s ≤ w t := by
  intro t
  induction t with
  | zero => intro s h1 _; rw [show s = 0 by omega]; exact Nat.le_refl _
  | succ t ih =>
    intro s h1 h2
    by_cases e : s = t + 1
    · rw [e]; exact Nat.le_refl _
    · exact Nat.le_trans (ih s (by omega) (by omega)) (h.2 t h2)
/-- in how many ways k wheels are chosen out of n numbers -/
def mc : Nat → Nat → Nat
  | 0, _ => 1
  | k + 1, n => nsum (fun i => mc k (i + 1)) n
theorem mc_S (k n : Nat) : mc (k + 1) (n + 1) = mc (k + 1) n + mc k (n + 1) := rfl
theorem mc_0 (k : Nat) : mc (k + 1) 0 = 0 := rfl
theorem mc_pos : ∀ k n, 0 < n → 0 < mc k n := by
  intro k
  induction k with
  | zero => intro n _; exact Nat.one_pos
  | succ k ih =>
    intro n hn
    obtain ⟨n, rfl⟩ : ∃ q, n = q + 1 := ⟨n - 1, by omega⟩
    rw [mc_S]
    have := ih (n + 1) (by omega)
    omega
/-- how many choices come behind w: told by its last k wheels -/
def rem (hi S : Nat) (w : Nat → Nat) : Nat → Nat
  | 0 => 0
  | k + 1 => mc (k + 1) (hi - w (S - (k + 1))) + rem hi S w k
theorem rem_all {hi S y : Nat} {w : Nat → Nat} (hy : y ≤ hi) : ∀ k, k ≤ S → (∀ s, S - k ≤ s → s < S → w s = y) → rem hi S w k + 1 = mc k (hi - y + 1) := by
  intro k
  induction k with
  | zero => intro _ _; rfl
  | succ k ih =>
    intro hk h
    have h1 := ih (by omega) (fun s h1 h2 => h s (by omega) h2)
    rw [mc_S, ← h1]
    show mc (k + 1) (hi - w (S - (k + 1))) + rem hi S w k + 1 = _
    rw [h (S - (k + 1)) (by omega) (by omega)]
    omega
theorem rem_hi {hi S : Nat} {w : Nat → Nat} : ∀ k, k ≤ S → (∀ s, S - k ≤ s → s < S → w s = hi) → rem hi S w k = 0 := by
  intro k hk h
  have := rem_all (y := hi) (Nat.le_refl _) k hk h
  rw [Nat.sub_self] at this
  have e : mc k 1 = 1 := by
    clear this h hk
    induction k with
    | zero => rfl
    | succ k ih => rw [mc_S, mc_0, ih]
  rw [Nat.zero_add, e] at this
  omega
theorem rem_0 {hi S : Nat} {w : Nat → Nat} : ∀ k, k ≤ S → rem hi S w k = 0 → ∀ s, S - k ≤ s → s < S → hi ≤ w s := by
  intro k
  induction k with
  | zero => intro _ _ s h1 h2; omega
  | succ k ih =>
    intro hk h s h1 h2
    have e : mc (k + 1) (hi - w (S - (k + 1))) + rem hi S w k = 0 := h
    by_cases q : s = S - (k + 1)
    · rw [q]
      have h3 : mc (k + 1) (hi - w (S - (k + 1))) = 0 := by omega
      apply Classical.byContradiction
      intro h4
      have := mc_pos (k + 1) (hi - w (S - (k + 1))) (by omega)
      omega
    · exact ih (by omega) (by omega) s (by omega) h2
/-- the next choice -/
def nxw (S f : Nat) (w : Nat → Nat) (s : Nat) : Nat := if f ≤ s ∧ s < S then w f + 1 else w s
theorem nxw_rem {S hi f : Nat} {w : Nat → Nat} (hf : f < S) (hhi : ∀ s, f < s → s < S → w s = hi) (hlt : w f < hi) : ∀ k, S - f ≤ k → k ≤ S → rem hi S (nxw S f w) k + 1 = rem hi S w k := by
  intro k
  induction k with
  | zero => intro h1; omega
  | succ k ih =>
    intro h1 h2
    show mc (k + 1) (hi - nxw S f w (S - (k + 1))) + rem hi S (nxw S f w) k + 1 = mc (k + 1) (hi - w (S - (k + 1))) + rem hi S w k
    by_cases e : k + 1 = S - f
    · have e1 : rem hi S (nxw S f w) k + 1 = mc k (hi - (w f + 1) + 1) := rem_all (by omega) k (by omega) (fun s q1 q2 => if_pos ⟨by omega, q2⟩)
      have e2 : rem hi S w k = 0 := rem_hi k (by omega) (fun s q1 q2 => hhi s (by omega) q2)
      have e3 : S - (k + 1) = f := by omega
      rw [e2, e3, show nxw S f w f = w f + 1 from if_pos ⟨Nat.le_refl _, hf⟩]
      have e4 := mc_S k (hi - (w f + 1))
      rw [show hi - (w f + 1) + 1 = hi - w f by omega] at e4 e1
      omega
    · have := ih (by omega) (by omega)
      rw [show nxw S f w (S - (k + 1)) = w (S - (k + 1)) from if_neg (by omega)]
      omega
theorem nxw_Cc {S lo hi f : Nat} {w : Nat → Nat} (h : Cc S lo hi w) (hf : f < S) (hlt : w f < hi) : Cc S lo hi (nxw S f w) := by
  refine ⟨fun s hs => ?_, fun s hs => ?_⟩
  · unfold nxw
    by_cases e : f ≤ s ∧ s < S
    · rw [if_pos e]
      have := h.1 f hf
      omega
    · rw [if_neg e]; exact h.1 s hs
  · unfold nxw
    by_cases e : f ≤ s ∧ s < S
    · rw [if_pos e, if_pos ⟨by omega, hs⟩]
      exact Nat.le_refl _
    · rw [if_neg e]
      by_cases q : f ≤ s + 1 ∧ s + 1 < S
      · rw [if_pos q]
        have := h.2 s hs
        have e2 : s + 1 = f := by omega
        rw [e2] at this
        omega
      · rw [if_neg q]; exact h.2 s hs
theorem nxw_lt {S lo hi f : Nat} {w : Nat → Nat} (h : Cc S lo hi w) (hh : hi < 128) (hf : f < S) : cd w S < cd (nxw S f w) S := by
  refine cd_lex (j := f) (fun s hs => ?_) ?_ hf (fun s hs => by have := (h.1 s hs).2; omega)
  · unfold nxw; rw [if_neg (by omega)]
  · rw [show nxw S f w f = w f + 1 from if_pos ⟨Nat.le_refl _, hf⟩]; omega
theorem nxw_next {S lo hi f : Nat} {w x : Nat → Nat} (h : Cc S lo hi w) (hh : hi < 128) (hf : f < S) (hhi : ∀ s, f < s → s < S → w s = hi) (hlt : w f < hi) (hx : Cc S lo hi x) (hwx : cd w S < cd x S) : cd (nxw S f w) S ≤ cd x S := by
  have bw : ∀ s, s < S → w s < 128 := fun s hs => by have := (h.1 s hs).2; omega
  have bx : ∀ s, s < S → x s < 128 := fun s hs => by have := (hx.1 s hs).2; omega
  have bn : ∀ s, s < S → nxw S f w s < 128 := fun s hs => by have := ((nxw_Cc h hf hlt).1 s hs).2; omega
  rcases first_diff w x S with e | ⟨j, h1, h2, h3⟩
  · rw [cd_congr e] at hwx; omega
  · by_cases c : w j < x j
    · have hjf : j ≤ f := by
        apply Classical.byContradiction
        intro q
        have := hhi j (by omega) h1
        have := (hx.1 j h1).2
        omega
      by_cases q : j = f
      · refine cd_mono (fun s hs => ?_)
        unfold nxw
        by_cases e : f ≤ s ∧ s < S
        · rw [if_pos e]
          have := hx.mono s f e.1 hs
          rw [q] at c
          omega
        · rw [if_neg e, h2 s (by omega)]
          exact Nat.le_refl _
      · refine Nat.le_of_lt (cd_lex (j := j) (fun s hs => ?_) ?_ h1 bn)
        · unfold nxw; rw [if_neg (by omega)]; exact h2 s hs
        · unfold nxw; rw [if_neg (by omega)]; exact c
    · have := cd_lex (j := j) (w := x) (x := w) (fun s hs => (h2 s hs).symm) (by omega) h1 bx
      omega
theorem rem_last {S lo hi : Nat} {w x : Nat → Nat} (h0 : rem hi S w S = 0) (hx : Cc S lo hi x) : cd x S ≤ cd w S := cd_mono (fun s hs => by
  have h1 := rem_0 S (Nat.le_refl _) h0 s (by omega) hs
  have h2 := (hx.1 s hs).2
  omega)
theorem mc_wy : ∀ n, n < 114 → ∀ s, s < 5 → (1 ≤ n ∧ 1 ≤ s ∧ (s = 3 → n ≤ 60) ∧ (s = 4 → n ≤ 20)) → mc s n = gv_wy n s ∧ gv_wy n s ≤ 37820 ∧ 0 < gv_wy n s := by decide +kernel
