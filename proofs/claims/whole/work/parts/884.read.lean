theorem gv_r22_10 : gv_u.2.2 22 10 = 37 := by decide +kernel
theorem gv_l38 : gv_z.2.2 38 = 48 := by decide +kernel
theorem gv_l40 : gv_z.2.2 40 = 48 := by decide +kernel
theorem gv_r36_0 : gv_u.2.2 36 0 = 38 := by decide +kernel
theorem gv_r36_1 : gv_u.2.2 36 1 = 40 := by decide +kernel
theorem gv_r37_0 : gv_u.2.2 37 0 = 39 := by decide +kernel
theorem gv_r39_0 : gv_u.2.2 39 0 = 41 := by decide +kernel
theorem gv_x36 {u : gw_St} (hr : gv_Rf u) : Fx u 36 := by
  have h1 : u.2.2 36 0 = 38 := hr.get rfl gv_r36_0
  have h2 : u.2.2 36 1 = 40 := hr.get rfl gv_r36_1
  have h3 : u.2.2 37 0 = 39 := hr.get rfl gv_r37_0
  have h4 : u.2.2 39 0 = 41 := hr.get rfl gv_r39_0
  exact ⟨h1, h2, h3, h4⟩
/-- isDetermined -/
theorem eq_det {F : Nat} (hF : 2000 ≤ F) {w : gw_St} {n cr k g pc : Nat} {A : Nat → Nat → Int} {s : Nat → Nat} (hr : gv_Rf w) (hn : n ≤ 60) (hcr : cr < n) (hE : Eq1 w n cr k A s pc) (hinj : ∀ l j, l < k → j < k → s l = s j → l = j) (hg : g < n) : ∃ x : Int32, gf_Equations_isDetermined F gv_z w 22 (Int32.ofNat g) = some (x, w) ∧ (x = 1 ∧ dtm A s k n cr g ∨ x = 0 ∧ ¬ dtm A s k n cr g) := by
  obtain ⟨h1, h2, h3, h4, h5, h6, h7, h8, h9, h10, h11⟩ := id hE
  show ∃ x, gf_Equations_isDetermined_b0 F gv_z w 22 (Int32.ofNat g) = _ ∧ _
  unfold gf_Equations_isDetermined_b0
  rw [h5]
  by_cases c0 : g = cr
  · rw [if_pos (by rw [c0]), if_neg (by decide)]
    exact ⟨1, rfl, Or.inl ⟨rfl, Or.inl c0⟩⟩
  · rw [if_neg (fun e => c0 ((gi_eq (by omega) (by omega)).mp e)), hr.get rfl gv_r22_3, gnn, if_neg (gi_ix (by rw [gv_l25]; omega) (by omega)), i32_clamp (by omega)]
    by_cases q : ∃ l, l < k ∧ s l = g
    · obtain ⟨l, hl, e⟩ := q
      have e25 : w.1 25 g = Int32.ofNat l := by rw [← e]; exact h9 l hl
      rw [e25, if_neg (fun q => by have := congrArg Int32.toInt q; rw [i32_nat (by omega)] at this; have o : (-1 : Int32).toInt = -1 := rfl; omega)]
      have run : ∀ (j c f : Nat), c + j = n → j < f → (∀ d, d < c → d ≠ cr → (∀ j, j < k → s j ≠ d) → eC A s k l d = 0) → ∃ x : Int32, gf_Equations_isDetermined_L24 F gv_z f w 22 (Int32.ofNat g) (Int32.ofNat c) = some (x, w) ∧ (x = 1 ∧ dtm A s k n cr g ∨ x = 0 ∧ ¬ dtm A s k n cr g) := by
        intro j
        induction j with
        | zero =>
          intro c f hc hf hz
          obtain ⟨f, rfl⟩ : ∃ q, f = q + 1 := ⟨f - 1, by omega⟩
          have : c = n := by omega
          subst this
          refine ⟨1, ?_, Or.inl ⟨rfl, Or.inr ⟨l, hl, e, hz⟩⟩⟩
          show gf_Equations_isDetermined_S24 F gv_z _ w 22 (Int32.ofNat g) (Int32.ofNat c) = _
          unfold gf_Equations_isDetermined_S24
          rw [h4, if_pos ((gi_le (by omega) (by omega)).mpr (Nat.le_refl _)), if_neg (by decide)]
        | succ j ih =>
          intro c f hc hf hz
          obtain ⟨f, rfl⟩ : ∃ q, f = q + 1 := ⟨f - 1, by omega⟩
          have hcn : c < n := by omega
          have e70 : gf_Equations_isDetermined_b70 F gv_z (gf_Equations_isDetermined_L24 F gv_z f) w 22 (Int32.ofNat g) (Int32.ofNat c) = gf_Equations_isDetermined_L24 F gv_z f w 22 (Int32.ofNat g) (Int32.ofNat (c + 1)) := by
            unfold gf_Equations_isDetermined_b70
            simp only [gf_nm]
            rw [gw_iS]
          show ∃ x, gf_Equations_isDetermined_S24 F gv_z _ w 22 (Int32.ofNat g) (Int32.ofNat c) = _ ∧ _
          unfold gf_Equations_isDetermined_S24
          rw [h4, if_neg (fun e => by have := (gi_le (by omega) (by omega)).mp e; omega), hr.get rfl gv_r22_3, gnn, if_neg (gi_ix (by rw [gv_l25]; omega) (by omega)), i32_clamp (by omega), e70, h5]
          by_cases p : ∃ m, m < k ∧ s m = c
          · obtain ⟨m, hm, em⟩ := p
            have f25 : w.1 25 c = Int32.ofNat m := by rw [← em]; exact h9 m hm
            rw [f25, if_neg (fun q => by have := congrArg Int32.toInt q; rw [i32_nat (by omega)] at this; have o : (-1 : Int32).toInt = -1 := rfl; omega)]
            refine ih (c + 1) f (by omega) (by omega) (fun d hd hd1 hd2 => ?_)
            by_cases q : d = c
            · exact absurd (by rw [em, q]) (hd2 m hm)
            · exact hz d (by omega) hd1 hd2
          · have hs : ∀ m, m < k → s m ≠ c := fun m hm q => p ⟨m, hm, q⟩
            rw [h10 c hcn hs, if_pos rfl]
            by_cases cc : c = cr
            · rw [if_pos (by rw [cc])]
              exact ih (c + 1) f (by omega) (by omega) (fun d hd hd1 hd2 => hz d (by omega) hd1 hd2)
            · rw [if_neg (fun e => cc ((gi_eq (by omega) (by omega)).mp e)), hr.get rfl gv_r22_2, gnn, gnn, if_neg (gi_ix (by rw [gv_l25]; omega) (by omega)), i32_clamp (by omega), e25, show gf_Equations_at F gv_z w (Int32.ofNat l) (Int32.ofNat c) = some (Int32.ofNat (60 * l + c), w) from by show some (Int32.ofNat l * 60 + Int32.ofNat c, w) = _; rw [gi_cell]]
              simp only [gf_cl]
              rw [if_neg (gi_ix (by rw [gv_l24]; omega) (by omega)), i32_clamp (by omega), e70]
              have hcw := h11 l hl c hcn hs
              by_cases z : eC A s k l c = 0
              · rw [if_pos (hcw.zero.mpr z)]
                refine ih (c + 1) f (by omega) (by omega) (fun d hd hd1 hd2 => ?_)
                by_cases q : d = c
                · rw [q]; exact z
                · exact hz d (by omega) hd1 hd2
              · rw [if_neg (fun q => z (hcw.zero.mp q)), if_neg (by decide)]
                refine ⟨0, rfl, Or.inr ⟨rfl, fun q => ?_⟩⟩
                rcases q with q | ⟨l', hl', e', hz'⟩
                · exact c0 q
                · have : l' = l := hinj l' l hl' hl (by rw [e', e])
                  subst this
                  exact z (hz' c hcn cc hs)
      exact run n 0 F (by omega) (by omega) (fun d hd => absurd hd (Nat.not_lt_zero d))
    · have hs : ∀ l, l < k → s l ≠ g := fun l hl e => q ⟨l, hl, e⟩
      rw [h10 g hg hs, if_pos rfl, if_neg (by decide)]
      refine ⟨0, rfl, Or.inr ⟨rfl, fun p => ?_⟩⟩
      rcases p with p | ⟨l, hl, e, -⟩
      · exact c0 p
      · exact hs l hl e
theorem Wd.setsg {u : gw_St} {p q n : Nat} {v v' : Int} {x : Int32} (h : Wd u p q n v) (hpq : p ≠ q) (ha : v'.natAbs = v.natAbs) (hx : x.toInt = v'.sign) : Wd (gw_wi u p 2 x) p q n v' := by
  have habs := h.abs
  have h0 := h.n0
  obtain ⟨a1, a2, a3, a4, a5⟩ := h
  have same : ∀ i, (gw_wi u p 2 x).1 q i = u.1 q i := fun i => wi_ne (by omega)
  have hlm : ∀ i, lm (gw_wi u p 2 x) q i = lm u q i := fun i => by unfold lm; rw [same]
  have hwv : wv (gw_wi u p 2 x) q n = wv u q n := wv_congr (fun i _ => same i)
  refine ⟨a1, by rw [wi_ne (by omega)]; exact a2, fun i hi => by rw [same]; exact a3 i hi, fun hn => by rw [hlm]; exact a4 hn, ?_⟩
  rw [hwv, wi_same, ← habs]
  by_cases c : v' = 0
  · have hv0 : v = 0 := by omega
    refine Or.inl ⟨h0.mpr hv0, Int32.toInt_inj.mp ?_, c⟩
    rw [hx, c]; rfl
  · have hn : 0 < n := by
      have : ¬ n = 0 := fun e => by have := h0.mp e; omega
      omega
    by_cases d : 0 < v'
    · refine Or.inr (Or.inl ⟨hn, Int32.toInt_inj.mp ?_, by omega⟩)
      rw [hx, Int.sign_eq_one_of_pos d]; rfl
    · refine Or.inr (Or.inr ⟨hn, Int32.toInt_inj.mp ?_, by omega⟩)
      rw [hx, Int.sign_eq_neg_one_of_neg (by omega)]; rfl
theorem sg_mul {x y : Int32} {a b : Int} (hx : x.toInt = a.sign) (hy : y.toInt = b.sign) : ((-x) * y).toInt = (-(a * b.sign)).sign := by
  have e : (-(a * b.sign)).sign = -(a.sign * b.sign) := by
    rw [Int.sign_neg, Int.sign_mul, Int.sign_sign]
  rw [e, ← hx, ← hy]
  have three : ∀ (z : Int32) (d : Int), z.toInt = d.sign → z = 0 ∨ z = 1 ∨ z = -1 := fun z d h => by
    rcases Int.lt_trichotomy d 0 with q | q | q
    · exact Or.inr (Or.inr (Int32.toInt_inj.mp (by rw [h, Int.sign_eq_neg_one_of_neg q]; rfl)))
    · exact Or.inl (Int32.toInt_inj.mp (by rw [h, q]; rfl))
    · exact Or.inr (Or.inl (Int32.toInt_inj.mp (by rw [h, Int.sign_eq_one_of_pos q]; rfl)))
  rcases three x a hx with q | q | q <;> rcases three y b hy with p | p | p <;> subst q <;> subst p <;> decide
/-- a gear's speed, as the class reads it -/
def Xg (A : Nat → Nat → Int) (s : Nat → Nat) (k cr g : Nat) : Int := ((eD A s k).sign * Om A s k cr g).tdiv (Int.gcd ((eD A s k).sign * Om A s k cr g) ((eD A s k).natAbs : Int) : Nat)
def Yg (A : Nat → Nat → Int) (s : Nat → Nat) (k cr g : Nat) : Int := ((eD A s k).natAbs : Int).tdiv (Int.gcd ((eD A s k).sign * Om A s k cr g) ((eD A s k).natAbs : Int) : Nat)
theorem xy_red {D O : Int} (hD : D ≠ 0) : 0 < (D.natAbs : Int).tdiv (Int.gcd (D.sign * O) (D.natAbs : Int) : Nat) ∧ ((D.natAbs : Int).tdiv (Int.gcd (D.sign * O) (D.natAbs : Int) : Nat)).natAbs ≤ D.natAbs ∧ ((D.sign * O).tdiv (Int.gcd (D.sign * O) (D.natAbs : Int) : Nat)).natAbs ≤ O.natAbs ∧ Int.gcd ((D.sign * O).tdiv (Int.gcd (D.sign * O) (D.natAbs : Int) : Nat)) ((D.natAbs : Int).tdiv (Int.gcd (D.sign * O) (D.natAbs : Int) : Nat)) = 1 ∧ ∃ h : Int, h ≠ 0 ∧ O = (D.sign * O).tdiv (Int.gcd (D.sign * O) (D.natAbs : Int) : Nat) * h ∧ D = (D.natAbs : Int).tdiv (Int.gcd (D.sign * O) (D.natAbs : Int) : Nat) * h := by
  have hss : D.sign * D.sign = 1 := by
    rcases Int.lt_trichotomy D 0 with q | q | q
    · rw [Int.sign_eq_neg_one_of_neg q]; rfl
    · exact absurd q hD
    · rw [Int.sign_eq_one_of_pos q]; rfl
  have hsa : (D.sign * O).natAbs = O.natAbs := by
    rw [Int.natAbs_mul]
    rcases Int.lt_trichotomy D 0 with q | q | q
    · rw [Int.sign_eq_neg_one_of_neg q]; exact Nat.one_mul _
    · exact absurd q hD
    · rw [Int.sign_eq_one_of_pos q]; exact Nat.one_mul _
  have hX0 := td_gcd (D.sign * O) (D.natAbs : Int)
  have hdvd1 : ((Int.gcd (D.sign * O) (D.natAbs : Int) : Nat) : Int) ∣ D.sign * O := Int.gcd_dvd_left _ _
  have hdvd2 : ((Int.gcd (D.sign * O) (D.natAbs : Int) : Nat) : Int) ∣ (D.natAbs : Int) := Int.gcd_dvd_right _ _
  have hG0 : 0 < Int.gcd (D.sign * O) (D.natAbs : Int) := Int.gcd_pos_of_ne_zero_right _ (by omega)
  have hGr : Int.gcd (D.sign * O) (D.natAbs : Int) = Int.gcd (D.sign * O) (D.natAbs : Int) := rfl
  generalize hGG : Int.gcd (D.sign * O) (D.natAbs : Int) = G at *
  have e1 : (D.sign * O).tdiv (G : Int) * G = D.sign * O := Int.tdiv_mul_cancel hdvd1
  have e2 : (D.natAbs : Int).tdiv (G : Int) * G = D.natAbs := Int.tdiv_mul_cancel hdvd2
  generalize (D.sign * O).tdiv (G : Int) = X at *
  generalize (D.natAbs : Int).tdiv (G : Int) = Y at *
  have hGi : (0 : Int) < G := by omega
  have hY0 : 0 < Y := by
    have h1 : 0 < Y * G := by rw [e2]; omega
    exact Int.pos_of_mul_pos_left h1 (by omega) |> fun h => h
  refine ⟨hY0, ?_, by rw [hsa] at hX0; exact hX0, ?_, D.sign * G, ?_, ?_, ?_⟩
  · have h1 : Y.natAbs * G = D.natAbs := by
      have := congrArg Int.natAbs e2
      rw [Int.natAbs_mul] at this
      exact this
    rw [← h1]
    exact Nat.le_mul_of_pos_right _ hG0
  · have h1 : Int.gcd (X * G) (Y * G) = Int.gcd X Y * (G : Int).natAbs := Int.gcd_mul_right _ _ _
    rw [e1, e2, hGG] at h1
    have h2 : 1 * G = Int.gcd X Y * G := by rw [Nat.one_mul]; exact h1
    exact (Nat.eq_of_mul_eq_mul_right hG0 h2).symm
  · intro q
    rcases Int.mul_eq_zero.mp q with q | q
    · rw [q] at hss; exact absurd hss (by decide)
    · omega
  · rw [Int.mul_left_comm, e1, ← Int.mul_assoc, hss, Int.one_mul]
  · rw [Int.mul_left_comm, e2, Int.sign_mul_natAbs]
/-- readSpeed -/
theorem eq_read {F : Nat} (hF : 20000 ≤ F) {w : gw_St} {n m cr k g pc : Nat} {R A : Nat → Nat → Int} {s : Nat → Nat} (hr : gv_Rf w) (hn : n ≤ 60) (hcr : cr < n) (hE : Eq1 w n cr k A s pc) (hEl : El R m n A s k) (hs : ∀ l, l < k → s l ≠ cr) (hb : ∀ r, r < m → Bd n (R r)) (hg : g < n) (hd : dtm A s k n cr g) : ∃ w', gf_Equations_readSpeed F gv_z w 22 (Int32.ofNat g) = some w' ∧ Wp (fun a => 10 ≤ a ∧ a ≤ 21 ∨ 36 ≤ a ∧ a ≤ 40) w w' ∧ Fr w' 36 (Xg A s k cr g) (Yg A s k cr g) := by
  obtain ⟨h1, h2, h3, h4, h5, h6, h7, h8, h9, h10, h11⟩ := id hE
  have hD0 : eD A s k ≠ 0 := hEl.1.1
  show ∃ w', gf_Equations_readSpeed_b0 F gv_z w 22 (Int32.ofNat g) = _ ∧ _
  unfold gf_Equations_readSpeed_b0
  rw [h5, hr.get rfl gv_r22_10]
  by_cases c0 : g = cr
  · subst c0
    obtain ⟨w1, a1, a2, a3⟩ := gw_setLong (F := F) (by omega) (z := gv_z) (p := 37) (q := 38) (u := w) (y := 1) (by omega) (hr.get rfl gv_r37_0) (by rw [gv_l38]; omega) (by decide) (by decide)
    have s1 : Wp (fun a => 10 ≤ a ∧ a ≤ 21 ∨ 36 ≤ a ∧ a ≤ 40) w w1 := a2.wp (by omega) (by omega)
    have t1 : Wp (fun a => 37 ≤ a ∧ a ≤ 38) w w1 := a2.wp (by omega) (by omega)
    have r1 := hr.wp s1
    obtain ⟨w2, b1, b2, b3⟩ := gw_setLong (F := F) (by omega) (z := gv_z) (p := 39) (q := 40) (u := w1) (y := 1) (by omega) (r1.get rfl gv_r39_0) (by rw [gv_l40]; omega) (by decide) (by decide)
    have s2 : Wp (fun a => 10 ≤ a ∧ a ≤ 21 ∨ 36 ≤ a ∧ a ≤ 40) w1 w2 := b2.wp (by omega) (by omega)
    have t2 : Wp (fun a => 39 ≤ a ∧ a ≤ 40) w1 w2 := b2.wp (by omega) (by omega)
    have hO : (eD A s k).sign * Om A s k g g = ((eD A s k).natAbs : Int) := by
      rw [Om_cr hs, Int.mul_comm, Int.mul_sign_self]
    have hg' : Int.gcd ((eD A s k).natAbs : Int) ((eD A s k).natAbs : Int) = (eD A s k).natAbs := by
      rw [Int.gcd_self]; rfl
    have e1 : Xg A s k g g = 1 := by
      unfold Xg
      rw [hO, hg']
      exact Int.tdiv_self (by omega)
    have e2 : Yg A s k g g = 1 := by
      unfold Yg
      rw [hO, hg']
      exact Int.tdiv_self (by omega)
    refine ⟨w2, ?_, s1.trans s2, ?_⟩
    · rw [if_pos rfl, gnn, hr.get rfl gv_r36_0, gnn, a1, Option.bind_some, r1.get rfl gv_r22_10, gnn, r1.get rfl gv_r36_1, gnn, b1, Option.bind_some]
    · rw [e1, e2]
      exact ⟨(show Wh w1 37 38 1 from a3).wp t2 (by omega) (by omega), b3⟩
  · rcases hd with hd | ⟨l, hl, e, -⟩
    · exact absurd hd c0
    have e25 : w.1 25 g = Int32.ofNat l := by rw [← e]; exact h9 l hl
    have bD := hEl.bd hb hn
    have bC := hEl.bdC (l := l) hb hn hcr hs
    obtain ⟨w1, n1, a1, a2, a3, a4⟩ := eq_load (F := F) (p := 37) (q := 38) (row := l) (col := cr) hr (by omega) (by omega) (by omega) (hr.get rfl gv_r37_0) (by rw [gv_l38]; omega) (by omega) (by omega) (h11 l hl cr hcr hs)
    have s1 : Wp (fun a => 10 ≤ a ∧ a ≤ 21 ∨ 36 ≤ a ∧ a ≤ 40) w w1 := a2.wp (by omega) (by omega)
    have r1 := hr.wp s1
    obtain ⟨nD, hD1⟩ := h8.wp s1 (by omega) (by omega)
    have mD := hD1.most (b660 bD)
    have hrp : w1.2.2 pc 0 = pc + 1 + 1 ∧ gv_z.2.2 (pc + 1) = 48 := by
      rcases h1 with e | e <;> subst e
      · exact ⟨r1.get rfl gv_r41_0, gv_l42⟩
      · exact ⟨r1.get rfl gv_r43_0, gv_l44⟩
    obtain ⟨w2, b1, b2, b3⟩ := gw_copyW (F := F) (z := gv_z) (p := 39) (q := 40) (p' := pc) (q' := pc + 1) (u := w1) (by omega) (by omega) (by omega) (r1.get rfl gv_r39_0) hrp.1 hD1 (by omega) (by rw [gv_l40]; omega)
    have s2 : Wp (fun a => 10 ≤ a ∧ a ≤ 21 ∨ 36 ≤ a ∧ a ≤ 40) w1 w2 := b2.wp (by omega) (by omega)
    have t2 : Wp (fun a => 39 ≤ a ∧ a ≤ 40) w1 w2 := b2.wp (by omega) (by omega)
    have r2 := r1.wp s2
    have hC2 : Wd w2 37 38 n1 (eC A s k l cr) := a4.wp t2 (by omega) (by omega)
    have hD2 : Wd w2 pc (pc + 1) nD (eD A s k) := hD1.wp t2 (by omega) (by omega)
    generalize hw3 : gw_wi w2 37 2 ((-(w2.1 37 2)) * (w2.1 pc 2)) = w3
    generalize hw4 : gw_wi w3 39 2 1 = w4
    have habs : (-(eC A s k l cr * (eD A s k).sign)).natAbs = (eC A s k l cr).natAbs := by
      rw [Int.natAbs_neg, Int.natAbs_mul]
      rcases Int.lt_trichotomy (eD A s k) 0 with q | q | q
      · rw [Int.sign_eq_neg_one_of_neg q]; exact Nat.mul_one _
      · exact absurd q hD0
      · rw [Int.sign_eq_one_of_pos q]; exact Nat.mul_one _
    have hC3 : Wd w3 37 38 n1 (-(eC A s k l cr * (eD A s k).sign)) := by
      rw [← hw3]
      exact hC2.setsg (by omega) habs (sg_mul hC2.sg hD2.sg)
    have s3 : Wp (fun a => 37 ≤ a ∧ a ≤ 37) w2 w3 := by rw [← hw3]; exact Wp.wi (by omega)
    have s4 : Wp (fun a => 39 ≤ a ∧ a ≤ 39) w3 w4 := by rw [← hw4]; exact Wp.wi (by omega)
    have hB4 : Wd w4 39 40 nD ((eD A s k).natAbs : Int) := by
      rw [← hw4]
      exact (b3.wp s3 (by omega) (by omega)).setsg (by omega) (by rw [Int.natAbs_natCast]) (by
        rw [Int.sign_eq_one_of_pos (by omega)]; rfl)
    have r3 := r2.wp s3
    have r4 := r3.wp s4
    have hFr : Fr w4 36 (-(eC A s k l cr * (eD A s k).sign)) ((eD A s k).natAbs : Int) := ⟨⟨n1, hC3.wp s4 (by omega) (by omega)⟩, ⟨nD, hB4⟩⟩
    obtain ⟨w5, c1, c2, c3⟩ := gw_reduce (F := F) hF (u := w4) (p := 36) (k := 22) r4 (by omega) (gv_x36 r4) hFr (by rw [habs]; exact b660 bC) (by rw [Int.natAbs_natCast]; exact b660 bD) (by omega) (by rw [gv_l38]; omega) (by rw [gv_l40]; omega)
    have hOm : (eD A s k).sign * Om A s k cr g = -(eC A s k l cr * (eD A s k).sign) := by
      rw [← e, Om_s hs hEl.2.2.1 hl, Int.mul_neg, Int.mul_comm]
    refine ⟨w5, ?_, ?_, ?_⟩
    · rw [if_neg (fun e => c0 ((gi_eq (by omega) (by omega)).mp e)), gnn, hr.get rfl gv_r36_0, gnn, hr.get rfl gv_r22_3, gnn, if_neg (gi_ix (by rw [gv_l25]; omega) (by omega)), i32_clamp (by omega), e25, a1, Option.bind_some, r1.get rfl gv_r22_10, gnn, r1.get rfl gv_r36_1, gnn, show w1.2.2 22 11 = pc + 1 from by rw [a2.1]; exact h2, gnn, b1, Option.bind_some, r2.get rfl gv_r22_10, gnn, r2.get rfl gv_r36_0, gnn, gnn, r2.get rfl gv_r36_0, gnn, show w2.2.2 22 11 = pc + 1 from by rw [b2.1, a2.1]; exact h2, gnn]
      simp only [gf_nm]
      rw [hw3, r3.get rfl gv_r22_10, gnn, r3.get rfl gv_r36_1, gnn, hw4, r4.get rfl gv_r22_0, gnn, r4.get rfl gv_r22_10, gnn, c1, Option.bind_some]
    · exact s1.trans (s2.trans ((s3.mono (fun a q => by omega)).trans ((s4.mono (fun a q => by omega)).trans (c2.mono (fun a q => by unfold Sr at q; omega)))))
    · unfold Xg Yg
      rw [hOm]
      exact c3
