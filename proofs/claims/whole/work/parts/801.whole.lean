/-! the class's whole numbers: limbs of 31 bits -/
theorem gi_le {a b : Nat} (ha : a < 2147483648) (hb : b < 2147483648) : Int32.ofNat a ≤ Int32.ofNat b ↔ a ≤ b := by
  rw [i32_le, i32_nat ha, i32_nat hb]; omega
theorem gi_lt {a b : Nat} (ha : a < 2147483648) (hb : b < 2147483648) : Int32.ofNat a < Int32.ofNat b ↔ a < b := by
  rw [i32_lt, i32_nat ha, i32_nat hb]; omega
theorem gi_eq {a b : Nat} (ha : a < 2147483648) (hb : b < 2147483648) : Int32.ofNat a = Int32.ofNat b ↔ a = b := by
  constructor
  · intro h
    have := congrArg Int32.toInt h
    rw [i32_nat ha, i32_nat hb] at this
    omega
  · intro h; rw [h]
theorem gi_ix {k N : Nat} (h : k < N) (hk : k < 2147483648) : ¬ (Int32.ofNat k < 0 ∨ N ≤ (Int32.ofNat k).toNatClampNeg) := by
  rw [i32_clamp hk]
  rintro (c | c)
  · have := i32_lt.mp c
    rw [i32_nat hk] at this
    have e : (0 : Int32).toInt = 0 := rfl
    omega
  · omega
theorem gi_n0 {k : Nat} (hk : k < 2147483648) : ¬ Int32.ofNat k < 0 := by
  intro c
  have := i32_lt.mp c
  rw [i32_nat hk] at this
  have e : (0 : Int32).toInt = 0 := rfl
  omega
theorem gi_add {a b : Nat} : Int32.ofNat a + Int32.ofNat b = Int32.ofNat (a + b) := (Int32.ofNat_add a b).symm
theorem gi_sub {a b : Nat} (h : b ≤ a) (ha : a < 2147483648) : Int32.ofNat a - Int32.ofNat b = Int32.ofNat (a - b) := by
  apply i32_ext
  rw [n32_sub (by rw [i32_nat ha, i32_nat (by omega)]; omega) (by rw [i32_nat ha, i32_nat (by omega)]; omega), i32_nat ha, i32_nat (by omega), i32_nat (by omega)]
  omega
theorem gi_sub1 {n : Nat} (h : n + 1 < 2147483648) : Int32.ofNat (n + 1) - (1 : Int32) = Int32.ofNat n := gi_sub (b := 1) (by omega) h
theorem gi_le0 {n : Nat} (h : n < 2147483648) : Int32.ofNat n ≤ 0 ↔ n = 0 := by
  have := gi_le (b := 0) h (by omega)
  exact this.trans (by omega)
theorem gi_eq0 {n : Nat} (h : n < 2147483648) : Int32.ofNat n = 0 ↔ n = 0 := gi_eq (b := 0) h (by omega)
def lm (u : gw_St) (q i : Nat) : Nat := (u.1 q i).toInt.toNat
def wv (u : gw_St) (q n : Nat) : Nat := bv 2147483648 (lm u q) n
theorem lm_lt (u : gw_St) (q i : Nat) : lm u q i < 2147483648 := by
  have := n32_hi (u.1 q i)
  unfold lm
  omega
theorem lm_eq {u : gw_St} {q i : Nat} (h : 0 ≤ (u.1 q i).toInt) : (u.1 q i).toInt = (lm u q i : Int) := by
  unfold lm
  omega
theorem lm_set {u : gw_St} {q k i : Nat} {x : Int32} : lm (gw_wi u q k x) q i = if i = k then x.toInt.toNat else lm u q i := by
  unfold lm
  simp only [gw_wi, true_and]
  split <;> rfl
theorem wv_lt (u : gw_St) (q n : Nat) : wv u q n < 2147483648 ^ n := bv_lt (fun i _ => lm_lt u q i)
theorem wv_set {u : gw_St} {q k n : Nat} {x : Int32} (hk : k < n) : wv (gw_wi u q k x) q n + lm u q k * 2147483648 ^ k = wv u q n + x.toInt.toNat * 2147483648 ^ k := by
  unfold wv
  rw [bv_congr (g := fun i => if i = k then x.toInt.toNat else lm u q i) (fun i _ => lm_set)]
  exact bv_set hk
theorem wv_congr {u w : gw_St} {q n : Nat} (h : ∀ i, i < n → w.1 q i = u.1 q i) : wv w q n = wv u q n := bv_congr (fun i hi => by unfold lm; rw [h i hi])
/-- a whole number: size, limbs, sign -/
def Wd (u : gw_St) (p q n : Nat) (v : Int) : Prop := n < 1000 ∧ u.1 p 1 = Int32.ofNat n ∧ (∀ i, i < n → 0 ≤ (u.1 q i).toInt) ∧ (0 < n → lm u q (n - 1) ≠ 0) ∧
  ((n = 0 ∧ u.1 p 2 = 0 ∧ v = 0) ∨ (0 < n ∧ u.1 p 2 = 1 ∧ v = (wv u q n : Int)) ∨ (0 < n ∧ u.1 p 2 = -1 ∧ v = -(wv u q n : Int)))
def Wh (u : gw_St) (p q : Nat) (v : Int) : Prop := ∃ n, Wd u p q n v
/-- nothing but a number's own is changed -/
def Wf (p q : Nat) (u w : gw_St) : Prop := w.2 = u.2 ∧ ∀ a k, a ≠ q → ¬ (a = p ∧ (k = 1 ∨ k = 2)) → w.1 a k = u.1 a k
theorem Wf.refl {p q : Nat} {u : gw_St} : Wf p q u u := ⟨rfl, fun _ _ _ _ => rfl⟩
theorem Wf.trans {p q : Nat} {u v w : gw_St} (h : Wf p q u v) (g : Wf p q v w) : Wf p q u w := ⟨g.1.trans h.1, fun a k h1 h2 => (g.2 a k h1 h2).trans (h.2 a k h1 h2)⟩
theorem Wf.wi {p q k : Nat} {u : gw_St} {x : Int32} : Wf p q u (gw_wi u q k x) := ⟨rfl, fun a j h1 _ => by simp only [gw_wi]; rw [if_neg (by omega)]⟩
theorem Wf.wf {p q k : Nat} {u : gw_St} {x : Int32} (hk : k = 1 ∨ k = 2) : Wf p q u (gw_wi u p k x) := ⟨rfl, fun a j _ h2 => by simp only [gw_wi]; rw [if_neg (by omega)]⟩
theorem Wd.fr {p q p' q' n : Nat} {u w : gw_St} {v : Int} (h : Wd u p' q' n v) (f : Wf p q u w) (h1 : p' ≠ p) (h2 : p' ≠ q) (h3 : q' ≠ p) (h4 : q' ≠ q) : Wd w p' q' n v := by
  obtain ⟨a1, a2, a3, a4, a5⟩ := h
  have e : ∀ i, w.1 q' i = u.1 q' i := fun i => f.2 q' i h4 (by omega)
  have el : ∀ i, lm w q' i = lm u q' i := fun i => by unfold lm; rw [e]
  have e1 : w.1 p' 1 = u.1 p' 1 := f.2 p' 1 h2 (by omega)
  have e2 : w.1 p' 2 = u.1 p' 2 := f.2 p' 2 h2 (by omega)
  have ev : wv w q' n = wv u q' n := wv_congr (fun i _ => e i)
  refine ⟨a1, e1.trans a2, fun i hi => by rw [e]; exact a3 i hi, fun h => by rw [el]; exact a4 h, ?_⟩
  rw [e2, ev]
  exact a5
theorem Wh.fr {p q p' q' : Nat} {u w : gw_St} {v : Int} (h : Wh u p' q' v) (f : Wf p q u w) (h1 : p' ≠ p) (h2 : p' ≠ q) (h3 : q' ≠ p) (h4 : q' ≠ q) : Wh w p' q' v := h.elim fun n hn => ⟨n, hn.fr f h1 h2 h3 h4⟩
theorem Wd.abs {u : gw_St} {p q n : Nat} {v : Int} (h : Wd u p q n v) : v.natAbs = wv u q n := by
  obtain ⟨_, _, _, _, h⟩ := h
  rcases h with ⟨h1, _, h3⟩ | ⟨_, _, h3⟩ | ⟨_, _, h3⟩
  · subst h1; subst h3; rfl
  · rw [h3]; rfl
  · rw [h3, Int.natAbs_neg]; rfl
theorem Wd.sg {u : gw_St} {p q n : Nat} {v : Int} (h : Wd u p q n v) : (u.1 p 2).toInt = v.sign := by
  obtain ⟨_, _, _, h4, h⟩ := h
  have hp : 0 < n → 0 < wv u q n := fun hn => by
    have h5 := bv_le (B := 2147483648) (f := lm u q) hn
    have h6 := h4 hn
    have h7 : 0 < 2147483648 ^ (n - 1) := Nat.pow_pos (by decide)
    have h8 : 0 < lm u q (n - 1) * 2147483648 ^ (n - 1) := Nat.mul_pos (by omega) h7
    exact Nat.lt_of_lt_of_le h8 h5
  rcases h with ⟨_, h2, h3⟩ | ⟨h1, h2, h3⟩ | ⟨h1, h2, h3⟩
  · rw [h2, h3]; rfl
  · have := hp h1
    rw [h2, h3, Int.sign_eq_one_of_pos (by omega)]; rfl
  · have := hp h1
    rw [h2, h3, Int.sign_eq_neg_one_of_neg (by omega)]; rfl
theorem Wd.pos {u : gw_St} {p q n : Nat} {v : Int} (h : Wd u p q n v) (hn : 0 < n) : 2147483648 ^ (n - 1) ≤ v.natAbs := by
  rw [h.abs]
  have h5 := bv_le (B := 2147483648) (f := lm u q) hn
  have h6 := h.2.2.2.1 hn
  have h8 : 1 * 2147483648 ^ (n - 1) ≤ lm u q (n - 1) * 2147483648 ^ (n - 1) := Nat.mul_le_mul_right _ (by omega)
  rw [Nat.one_mul] at h8
  exact Nat.le_trans h8 h5
theorem Wd.lt {u : gw_St} {p q n : Nat} {v : Int} (h : Wd u p q n v) : v.natAbs < 2147483648 ^ n := by
  rw [h.abs]; exact wv_lt u q n
theorem Wd.le {u : gw_St} {p q n k : Nat} {v : Int} (h : Wd u p q n v) (hk : v.natAbs < 2147483648 ^ k) : n ≤ k := by
  by_cases c : n ≤ k
  · exact c
  · have h1 := h.pos (by omega)
    have h2 : 2147483648 ^ k ≤ 2147483648 ^ (n - 1) := Nat.pow_le_pow_right (by decide) (by omega)
    omega
theorem Wd.n0 {u : gw_St} {p q n : Nat} {v : Int} (h : Wd u p q n v) : n = 0 ↔ v = 0 := by
  constructor
  · intro e
    have := h.abs
    subst e
    have e0 : wv u q 0 = 0 := rfl
    omega
  · intro e
    by_cases c : n = 0
    · exact c
    · have h1 := h.pos (by omega)
      have h7 : 0 < 2147483648 ^ (n - 1) := Nat.pow_pos (by decide)
      subst e
      have : (0 : Int).natAbs = 0 := rfl
      omega
theorem Wd.uniq {u : gw_St} {p q n p' q' n' : Nat} {v : Int} {w : gw_St} (h : Wd u p q n v) (g : Wd w p' q' n' v) : n = n' := by
  by_cases c : n = 0
  · rw [c]; exact (g.n0.mpr (h.n0.mp c)).symm
  · have a := g.le (k := n) h.lt
    have b := h.le (k := n') g.lt
    omega
theorem Wd.mk {u : gw_St} {p q n : Nat} {v : Int} (h1 : n < 1000) (h2 : u.1 p 1 = Int32.ofNat n) (h3 : ∀ i, i < n → 0 ≤ (u.1 q i).toInt) (h4 : 0 < n → lm u q (n - 1) ≠ 0) {s : Int32} (h5 : u.1 p 2 = if n = 0 then 0 else s) (hs : s = 1 ∨ s = -1 ∨ n = 0) (hv : v = s.toInt * wv u q n) : Wd u p q n v := by
  refine ⟨h1, h2, h3, h4, ?_⟩
  have e1 : (1 : Int32).toInt = 1 := rfl
  have e2 : (-1 : Int32).toInt = -1 := rfl
  by_cases c : n = 0
  · left
    rw [if_pos c] at h5
    subst c
    have e0 : wv u q 0 = 0 := rfl
    exact ⟨rfl, h5, by rw [hv, e0]; simp⟩
  · rw [if_neg c] at h5
    right
    rcases hs with rfl | rfl | hs
    · left
      exact ⟨by omega, h5, by rw [hv, e1, Int.one_mul]⟩
    · right
      exact ⟨by omega, h5, by rw [hv, e2]; omega⟩
    · exact absurd hs c
theorem gw_settleL {F : Nat} {z : gw_Sh} {p q : Nat} {s : Int32} (hpq : p ≠ q) : ∀ (n f : Nat) (u : gw_St), u.2.2 p 0 = q + 1 → u.1 p 1 = Int32.ofNat n → n ≤ z.2.2 q → n < 1000 → n < f → (∀ i, i < n → 0 ≤ (u.1 q i).toInt) → (s = 1 ∨ s = -1 ∨ wv u q n = 0) →
    ∃ w, gf_Whole_settle_L5 F z f u p s = some w ∧ Wf p q u w ∧ (∀ i, w.1 q i = u.1 q i) ∧ Wh w p q (s.toInt * wv u q n) := by
  intro n
  induction n with
  | zero =>
    intro f u hr h1 h2 h3 hf h4 hs
    obtain ⟨f, rfl⟩ : ∃ g, f = g + 1 := ⟨f - 1, by omega⟩
    refine ⟨gw_wi u p 2 0, ?_, Wf.wf (Or.inr rfl), fun i => by simp only [gw_wi]; rw [if_neg (by omega)], 0, by omega, ?_, fun i hi => absurd hi (Nat.not_lt_zero i), fun h => absurd h (by omega), Or.inl ⟨rfl, by simp only [gw_wi, and_self, ite_true], ?_⟩⟩
    · show gf_Whole_settle_S5 F z _ u p s = _
      unfold gf_Whole_settle_S5 gf_Whole_settle_b39 gf_Whole_settle_b52
      rw [h1, if_pos (show Int32.ofNat 0 ≤ 0 by decide), if_pos (show Int32.ofNat 0 = 0 by decide)]
      rfl
    · simp only [gw_wi]
      rw [if_neg (by omega)]
      exact h1
    · show s.toInt * ((0 : Nat) : Int) = 0
      simp
  | succ n ih =>
    intro f u hr h1 h2 h3 hf h4 hs
    obtain ⟨f, rfl⟩ : ∃ g, f = g + 1 := ⟨f - 1, by omega⟩
    have hst : gf_Whole_settle_L5 F z (f + 1) u p s = if u.1 q n = 0 then gf_Whole_settle_L5 F z f (gw_wi u p 1 (Int32.ofNat n)) p s else some (gw_wi u p 2 s) := by
      show gf_Whole_settle_S5 F z _ u p s = _
      unfold gf_Whole_settle_S5 gf_Whole_settle_b39 gf_Whole_settle_b52
      rw [h1, if_neg (fun c => by have := (gi_le0 (by omega)).mp c; omega), hr]
      simp only [gf_nn]
      rw [gi_sub1 (by omega), if_neg (gi_ix (by omega) (by omega)), i32_clamp (by omega)]
      rw [if_neg (fun c : Int32.ofNat (n + 1) = 0 => by have := (gi_eq0 (by omega)).mp c; omega)]
      rfl
    rw [hst]
    by_cases c : u.1 q n = 0
    · rw [if_pos c]
      have ez : lm u q n = 0 := by unfold lm; rw [c]; rfl
      have ew : wv u q (n + 1) = wv u q n := by
        show wv u q n + lm u q n * _ = _
        rw [ez]; simp
      have ec : wv (gw_wi u p 1 (Int32.ofNat n)) q n = wv u q n := wv_congr (fun i _ => by simp only [gw_wi]; rw [if_neg (by omega)])
      obtain ⟨w, a1, a2, a3, a4⟩ := ih f (gw_wi u p 1 (Int32.ofNat n)) hr (by simp only [gw_wi, and_self, ite_true]) (by omega) (by omega) (by omega) (fun i hi => by simp only [gw_wi]; rw [if_neg (by omega)]; exact h4 i (by omega)) (by rw [ec, ← ew]; exact hs)
      refine ⟨w, a1, (Wf.wf (Or.inl rfl)).trans a2, fun i => by rw [a3]; simp only [gw_wi]; rw [if_neg (by omega)], ?_⟩
      rw [ew, ← ec]
      exact a4
    · rw [if_neg c]
      have hne : lm u q n ≠ 0 := by
        intro e
        have := h4 n (by omega)
        have e2 := lm_eq this
        rw [e] at e2
        exact c (i32_ext e2)
      refine ⟨gw_wi u p 2 s, rfl, Wf.wf (Or.inr rfl), fun i => by simp only [gw_wi]; rw [if_neg (by omega)], n + 1, Wd.mk (s := s) h3 ?_ ?_ ?_ ?_ ?_ ?_⟩
      · simp only [gw_wi]
        rw [if_neg (by omega)]
        exact h1
      · intro i hi
        simp only [gw_wi]
        rw [if_neg (by omega)]
        exact h4 i hi
      · intro _
        unfold lm
        simp only [gw_wi]
        rw [if_neg (by omega)]
        exact hne
      · simp only [gw_wi, and_self, ite_true]
        rw [if_neg (by omega)]
      · rcases hs with h | h | h
        · exact Or.inl h
        · exact Or.inr (Or.inl h)
        · exfalso
          have h7 : 0 < 2147483648 ^ n := Nat.pow_pos (by decide)
          have h8 : 0 < lm u q n * 2147483648 ^ n := Nat.mul_pos (by omega) h7
          have : wv u q (n + 1) = wv u q n + lm u q n * 2147483648 ^ n := rfl
          omega
      · congr 2
        exact (wv_congr (fun i _ => by simp only [gw_wi]; rw [if_neg (by omega)])).symm
theorem gw_settle {F : Nat} (hF : 2000 ≤ F) {z : gw_Sh} {p q n : Nat} {s : Int32} {u : gw_St} (hpq : p ≠ q) (hr : u.2.2 p 0 = q + 1) (h2 : n ≤ z.2.2 q) (h3 : n < 1000) (h4 : ∀ i, i < n → 0 ≤ (u.1 q i).toInt) (hs : s = 1 ∨ s = -1 ∨ wv u q n = 0) :
    ∃ w, gf_Whole_settle F z u p (Int32.ofNat n) s = some w ∧ Wf p q u w ∧ (∀ i, w.1 q i = u.1 q i) ∧ Wh w p q (s.toInt * wv u q n) := by
  have ec : wv (gw_wi u p 1 (Int32.ofNat n)) q n = wv u q n := wv_congr (fun i _ => by simp only [gw_wi]; rw [if_neg (by omega)])
  obtain ⟨w, a1, a2, a3, a4⟩ := gw_settleL (F := F) (z := z) (s := s) hpq n F (gw_wi u p 1 (Int32.ofNat n)) hr (by simp only [gw_wi, and_self, ite_true]) h2 h3 (by omega) (fun i hi => by simp only [gw_wi]; rw [if_neg (by omega)]; exact h4 i (by omega)) (by rw [ec]; exact hs)
  refine ⟨w, a1, (Wf.wf (Or.inl rfl)).trans a2, fun i => by rw [a3]; simp only [gw_wi]; rw [if_neg (by omega)], ?_⟩
  rw [← ec]
  exact a4
