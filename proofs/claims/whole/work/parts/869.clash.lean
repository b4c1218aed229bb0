theorem ps_add {f g : Nat → Int} {n : Nat} : ps (fun c => f c + g c) n ≤ ps f n + ps g n := by
  unfold ps
  rw [← sm_add]
  exact sm_le (fun c _ => pz_add _ _)
theorem ps_at1 {a n : Nat} {x : Int} : ps (at1 a x) n ≤ pz x := by
  unfold ps
  by_cases h : a < n
  · rw [sm_one h (fun c _ hne => by unfold at1; rw [if_neg hne]; rfl)]
    unfold at1
    rw [if_pos rfl]
    exact Int.le_refl _
  · rw [sm_zero (fun c hc => by unfold at1; rw [if_neg (by omega)]; rfl)]
    exact pz_nn _
theorem at1_neg {a c : Nat} {x : Int} : -(at1 a x c) = at1 a (-x) c := by
  unfold at1
  split <;> omega
/-- both sums of a vector are at most 2000 -/
def Bd (n : Nat) (v : Nat → Int) : Prop := ps v n ≤ 2000 ∧ ps (fun c => - v c) n ≤ 2000
theorem bd_at1 {n a : Nat} : Bd n (at1 a 1) := by
  refine ⟨Int.le_trans ps_at1 (by decide), ?_⟩
  rw [show (fun c => - at1 a 1 c) = at1 a (-1) from funext fun c => at1_neg]
  exact Int.le_trans ps_at1 (by decide)
theorem bd_two {n a b : Nat} {x y : Int} (h1 : pz x + pz y ≤ 2000) (h2 : pz (-x) + pz (-y) ≤ 2000) : Bd n (fun c => at1 a x c + at1 b y c) := by
  refine ⟨?_, ?_⟩
  · have := ps_add (f := at1 a x) (g := at1 b y) (n := n)
    have := ps_at1 (a := a) (n := n) (x := x)
    have := ps_at1 (a := b) (n := n) (x := y)
    omega
  · rw [show (fun c => -(at1 a x c + at1 b y c)) = fun c => at1 a (-x) c + at1 b (-y) c from funext fun c => by rw [← at1_neg, ← at1_neg]; omega]
    have := ps_add (f := at1 a (-x)) (g := at1 b (-y)) (n := n)
    have := ps_at1 (a := a) (n := n) (x := -x)
    have := ps_at1 (a := b) (n := n) (x := -y)
    omega
theorem bd_three {n a b d : Nat} {x y z : Int} (h1 : pz x + pz y + pz z ≤ 2000) (h2 : pz (-x) + pz (-y) + pz (-z) ≤ 2000) : Bd n (fun c => at1 a x c + at1 b y c + at1 d z c) := by
  refine ⟨?_, ?_⟩
  · have := ps_add (f := fun c => at1 a x c + at1 b y c) (g := at1 d z) (n := n)
    have := ps_add (f := at1 a x) (g := at1 b y) (n := n)
    have := ps_at1 (a := a) (n := n) (x := x)
    have := ps_at1 (a := b) (n := n) (x := y)
    have := ps_at1 (a := d) (n := n) (x := z)
    omega
  · rw [show (fun c => -(at1 a x c + at1 b y c + at1 d z c)) = fun c => at1 a (-x) c + at1 b (-y) c + at1 d (-z) c from funext fun c => by rw [← at1_neg, ← at1_neg, ← at1_neg]; omega]
    have := ps_add (f := fun c => at1 a (-x) c + at1 b (-y) c) (g := at1 d (-z)) (n := n)
    have := ps_add (f := at1 a (-x)) (g := at1 b (-y)) (n := n)
    have := ps_at1 (a := a) (n := n) (x := -x)
    have := ps_at1 (a := b) (n := n) (x := -y)
    have := ps_at1 (a := d) (n := n) (x := -z)
    omega
theorem bd_rv {u : gw_St} {n r j N : Nat} (hw : gv_Wk u n r) (hj : j < r) : Bd N (rv u j) := by
  obtain ⟨⟨k1, -, k3⟩, ⟨a1, -, a3⟩, ⟨b1, -, b3⟩, hab, h3⟩ := wk_rel hw hj
  obtain ⟨-, tA1, tA2⟩ := wk_gt hw a3
  obtain ⟨-, tB1, tB2⟩ := wk_gt hw b3
  have p1 : ∀ x : Int, 0 ≤ x → pz x = x := fun x hx => by unfold pz; split <;> omega
  have p2 : ∀ x : Int, x ≤ 0 → pz x = 0 := fun x hx => by unfold pz; split <;> omega
  by_cases c2 : gk u j = 2
  · rw [show rv u j = fun c => at1 (gA u j) 1 c + at1 (gB u j) (-1) c from funext fun c => if_pos c2]
    exact bd_two (by decide) (by decide)
  · by_cases c3 : gk u j = 3
    · rw [show rv u j = fun c => at1 (gA u j) (gt u (gA u j)) c + at1 (gB u j) (gt u (gB u j)) c + at1 (gC u j) (- gt u (gA u j) - gt u (gB u j)) c from funext fun c => by unfold rv; rw [if_neg c2, if_pos c3]]
      refine bd_three ?_ ?_
      · rw [p1 _ (by omega), p1 _ (by omega), p2 _ (by omega)]; omega
      · rw [p2 _ (by omega), p2 _ (by omega), p1 _ (by omega)]; omega
    · rw [show rv u j = fun c => at1 (gA u j) (gt u (gA u j)) c + at1 (gB u j) (if gk u j = 0 then gt u (gB u j) else - gt u (gB u j)) c from funext fun c => by unfold rv; rw [if_neg c2, if_neg c3]]
      by_cases c0 : gk u j = 0
      · rw [if_pos c0]
        refine bd_two ?_ ?_
        · rw [p1 _ (by omega), p1 _ (by omega)]; omega
        · rw [p2 _ (by omega), p2 _ (by omega)]; omega
      · rw [if_neg c0]
        refine bd_two ?_ ?_
        · rw [p1 _ (by omega), p2 _ (by omega)]; omega
        · rw [p2 _ (by omega), p1 _ (by omega)]; omega
theorem El.bd {R : Nat → Nat → Int} {m n k : Nat} {A : Nat → Nat → Int} {s : Nat → Nat} (h : El R m n A s k) (hb : ∀ r, r < m → Bd n (R r)) (hn : n ≤ 60) : (eD A s k).natAbs < 2 ^ 660 := by
  obtain ⟨h1, h2, h3, h4, h5⟩ := h
  have hk := inj_le h2 h3
  have hA : ∀ i, i < k → ps (A i) n ≤ 2000 ∧ ps (fun c => - A i c) n ≤ 2000 := fun i hi => by
    obtain ⟨r, hr, e⟩ := h4 i hi
    rw [e]
    exact hb r hr
  have hd := e_bound (s := s) (K := 2000) (by omega) hA (t := s) h2 h3
  have e1 : ((2000 : Int)) ^ k = ((2000 ^ k : Nat) : Int) := by
    rw [Int.natCast_pow]
    rfl
  rw [e1] at hd
  have h6 : 2000 ^ k ≤ 2000 ^ 60 := Nat.pow_le_pow_right (by decide) (by omega)
  have h7 : 2000 ^ 60 < 2 ^ 660 := by decide +kernel
  have h8 : (eD A s k).natAbs ≤ 2000 ^ k := by
    have : eD A s k = dt k (fun i l => A i (s l)) := rfl
    omega
  exact Nat.lt_of_le_of_lt (Nat.le_trans h8 h6) h7
theorem El.apx {R : Nat → Nat → Int} {m n k : Nat} {A : Nat → Nat → Int} {s : Nat → Nat} (h : El R m n A s k) (e : Nat → Int) : El (apX R m e) m n A s k := by
  obtain ⟨h1, h2, h3, h4, h5⟩ := h
  have ha : ∀ r, r < m → apX R m e r = R r := fun r hr => if_neg (by omega)
  refine ⟨h1, h2, h3, fun i hi => ?_, fun r hr => by rw [ha r hr]; exact h5 r hr⟩
  obtain ⟨r, hr, e'⟩ := h4 i hi
  exact ⟨r, hr, by rw [ha r hr]; exact e'⟩
theorem eN_at1 {A : Nat → Nat → Int} {s : Nat → Nat} {k a c : Nat} (h : ∀ l, l < k → s l ≠ a) : eN A s k (at1 a 1) c = eD A s k * at1 a 1 c := by
  unfold eN
  rw [sm_zero (fun l hl => by unfold at1; rw [if_neg (h l hl), Int.zero_mul])]
  omega
theorem el_Cl {u : gw_St} {n r cr i k : Nat} {A : Nat → Nat → Int} {s : Nat → Nat} (hw : gv_Wk u n r) (hi : i < r) (hcr : cr < n) (h : El (rv u) (i + 1) n A s k) (hs : ∀ l, l < k → s l ≠ cr) : Cl u n cr i := by
  have hb : ∀ j, j < i + 1 → Bd n (rv u j) := fun j hj => bd_rv hw (by omega)
  have hm : apX (rv u) (i + 1) (at1 cr 1) (i + 1) = at1 cr 1 := if_pos rfl
  have hN : eN A s k (apX (rv u) (i + 1) (at1 cr 1) (i + 1)) cr ≠ 0 := by
    rw [hm, eN_at1 hs]
    unfold at1
    rw [if_pos rfl, Int.mul_one]
    exact h.1.1
  obtain ⟨h2, -⟩ := (h.apx (at1 cr 1)).step hcr hN
  refine ⟨k, _, _, h.rk, h.bd hb hw.1, h2.rk, h2.bd (fun j hj => ?_) hw.1⟩
  by_cases e : j = i + 1
  · rw [e, hm]; exact bd_at1
  · rw [show apX (rv u) (i + 1) (at1 cr 1) j = rv u j from if_neg e]; exact hb j (by omega)
theorem el_Ch {u : gw_St} {n r cr i k : Nat} {A : Nat → Nat → Int} {s : Nat → Nat} (hw : gv_Wk u n r) (hi : i < r) (hcr : cr < n) (h : El (rv u) i n A s k) (hs : ∀ l, l < k → s l ≠ cr) (h0 : ∀ c, c < n → c ≠ cr → eN A s k (rv u i) c = 0) (hN : eN A s k (rv u i) cr ≠ 0) : Ch u n cr i := by
  have hb : ∀ j, j < i + 1 → Bd n (rv u j) := fun j hj => bd_rv hw (by omega)
  obtain ⟨h2, hD, hC, -⟩ := h.step hcr hN
  have hm : apX (rv u) (i + 1) (at1 cr 1) (i + 1) = at1 cr 1 := if_pos rfl
  have hz : ∀ c, c < n → eN (exr A k (rv u i)) (exr s k cr) (k + 1) (apX (rv u) (i + 1) (at1 cr 1) (i + 1)) c = 0 := fun c hc => by
    rw [hm]
    unfold eN
    rw [hD]
    have e1 : sm (fun l => at1 cr 1 (exr s k cr l) * eC (exr A k (rv u i)) (exr s k cr) (k + 1) l c) (k + 1) = eN A s k (rv u i) c := by
      rw [sm_one (j := k) (by omega) (fun l hl hne => by unfold at1 exr; rw [if_neg hne, if_neg (hs l (by omega)), Int.zero_mul]), hC]
      unfold at1 exr
      rw [if_pos rfl, if_pos rfl, Int.one_mul]
    rw [e1]
    by_cases e : c = cr
    · rw [e]; unfold at1; rw [if_pos rfl]; omega
    · rw [h0 c hc e]; unfold at1; rw [if_neg e]; omega
  have h3 := (h2.apx (at1 cr 1)).skip hz
  exact ⟨k + 1, _, _, h2.rk, h2.bd hb hw.1, h3.rk, h2.bd hb hw.1⟩
