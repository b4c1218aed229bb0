theorem td_of {a b : Int} {Q R : Nat} (h : a.natAbs = Q * b.natAbs + R) (hR : R < b.natAbs) : a.tdiv b = a.sign * b.sign * Q ∧ a.tmod b = a.sign * R := by
  have hq : a.natAbs / b.natAbs = Q := by
    rw [h, Nat.mul_comm, Nat.mul_add_div (by omega), Nat.div_eq_of_lt hR, Nat.add_zero]
  have hr : a.natAbs % b.natAbs = R := by
    rw [h, Nat.mul_comm, Nat.mul_add_mod, Nat.mod_eq_of_lt hR]
  have key : ∀ x y : Nat, ((x : Int)).tdiv (y : Int) = ((x / y : Nat) : Int) ∧ ((x : Int)).tmod (y : Int) = ((x % y : Nat) : Int) := fun x y => ⟨rfl, rfl⟩
  have k := key a.natAbs b.natAbs
  rw [hq, hr] at k
  rcases Int.lt_trichotomy a 0 with ha | ha | ha
  · have ea : a = -((a.natAbs : Nat) : Int) := by omega
    rw [Int.sign_eq_neg_one_of_neg ha]
    rcases Int.lt_trichotomy b 0 with hb | hb | hb
    · have eb : b = -((b.natAbs : Nat) : Int) := by omega
      rw [Int.sign_eq_neg_one_of_neg hb]
      constructor
      · rw [ea, eb, Int.neg_tdiv, Int.tdiv_neg, k.1]; omega
      · rw [ea, eb, Int.neg_tmod, Int.tmod_neg, k.2]; omega
    · omega
    · have eb : b = ((b.natAbs : Nat) : Int) := by omega
      rw [Int.sign_eq_one_of_pos hb]
      constructor
      · rw [ea, eb, Int.neg_tdiv, k.1]; omega
      · rw [ea, eb, Int.neg_tmod, k.2]; omega
  · subst ha
    have : Q * b.natAbs + R = 0 := h.symm
    have hR0 : R = 0 := by omega
    have hQ0 : Q * b.natAbs = 0 := by omega
    rw [Int.sign_zero, hR0]
    constructor
    · simp
    · simp
  · have ea : a = ((a.natAbs : Nat) : Int) := by omega
    rw [Int.sign_eq_one_of_pos ha]
    rcases Int.lt_trichotomy b 0 with hb | hb | hb
    · have eb : b = -((b.natAbs : Nat) : Int) := by omega
      rw [Int.sign_eq_neg_one_of_neg hb]
      constructor
      · rw [ea, eb, Int.tdiv_neg, k.1]; omega
      · rw [ea, eb, Int.tmod_neg, k.2]; omega
    · omega
    · have eb : b = ((b.natAbs : Nat) : Int) := by omega
      rw [Int.sign_eq_one_of_pos hb]
      constructor
      · rw [ea, eb, k.1]; omega
      · rw [ea, eb, k.2]; omega
theorem gv_r9_0 : gv_u.2.2 9 0 = 11 := by decide +kernel
theorem gv_r9_1 : gv_u.2.2 9 1 = 13 := by decide +kernel
theorem gv_r9_2 : gv_u.2.2 9 2 = 15 := by decide +kernel
theorem gv_r9_3 : gv_u.2.2 9 3 = 17 := by decide +kernel
theorem gv_r9_4 : gv_u.2.2 9 4 = 19 := by decide +kernel
theorem gv_r9_5 : gv_u.2.2 9 5 = 21 := by decide +kernel
theorem gv_r10_0 : gv_u.2.2 10 0 = 12 := by decide +kernel
theorem gv_r12_0 : gv_u.2.2 12 0 = 14 := by decide +kernel
theorem gv_r14_0 : gv_u.2.2 14 0 = 16 := by decide +kernel
theorem gv_r16_0 : gv_u.2.2 16 0 = 18 := by decide +kernel
theorem gv_r18_0 : gv_u.2.2 18 0 = 20 := by decide +kernel
theorem gv_r20_0 : gv_u.2.2 20 0 = 22 := by decide +kernel
theorem gv_l11 : gv_z.2.2 11 = 48 := by decide +kernel
theorem gv_l13 : gv_z.2.2 13 = 48 := by decide +kernel
theorem gv_l15 : gv_z.2.2 15 = 48 := by decide +kernel
theorem gv_l17 : gv_z.2.2 17 = 48 := by decide +kernel
theorem gv_l19 : gv_z.2.2 19 = 48 := by decide +kernel
theorem gv_l21 : gv_z.2.2 21 = 48 := by decide +kernel
/-- nothing is changed but at the places of a range -/
def Wr (lo hi : Nat) (u w : gw_St) : Prop := w.2 = u.2 ∧ ∀ a k, ¬ (lo ≤ a ∧ a ≤ hi) → w.1 a k = u.1 a k
theorem Wr.trans {lo hi : Nat} {u v w : gw_St} (h : Wr lo hi u v) (g : Wr lo hi v w) : Wr lo hi u w := ⟨g.1.trans h.1, fun a k h1 => (g.2 a k h1).trans (h.2 a k h1)⟩
theorem Wr.mono {lo hi lo' hi' : Nat} {u w : gw_St} (h : Wr lo hi u w) (h1 : lo' ≤ lo) (h2 : hi ≤ hi') : Wr lo' hi' u w := ⟨h.1, fun a k h3 => h.2 a k (by omega)⟩
theorem Wf.wr {lo hi p q : Nat} {u w : gw_St} (h : Wf p q u w) (h1 : lo ≤ p) (h2 : p ≤ hi) (h3 : lo ≤ q) (h4 : q ≤ hi) : Wr lo hi u w := ⟨h.1, fun a k h5 => h.2 a k (by omega) (by omega)⟩
theorem Wd.wr {lo hi p q n : Nat} {u w : gw_St} {v : Int} (h : Wd u p q n v) (f : Wr lo hi u w) (hp : p < lo ∨ hi < p) (hq : q < lo ∨ hi < q) : Wd w p q n v := by
  obtain ⟨a1, a2, a3, a4, a5⟩ := h
  have e : ∀ i, w.1 q i = u.1 q i := fun i => f.2 q i (by omega)
  have el : ∀ i, lm w q i = lm u q i := fun i => by unfold lm; rw [e]
  have ev : wv w q n = wv u q n := wv_congr (fun i _ => e i)
  refine ⟨a1, (f.2 p 1 (by omega)).trans a2, fun i hi => by rw [e]; exact a3 i hi, fun h => by rw [el]; exact a4 h, ?_⟩
  rw [f.2 p 2 (by omega), ev]
  exact a5
theorem Wh.wr {lo hi p q : Nat} {u w : gw_St} {v : Int} (h : Wh u p q v) (f : Wr lo hi u w) (hp : p < lo ∨ hi < p) (hq : q < lo ∨ hi < q) : Wh w p q v := h.elim fun n hn => ⟨n, hn.wr f hp hq⟩
theorem gv_Rf.wr {lo hi : Nat} {u w : gw_St} (h : gv_Rf u) (f : Wr lo hi u w) : gv_Rf w := h.eq (by rw [f.1])
theorem gw_divide0 {F : Nat} (hF : 2000 ≤ F) {u : gw_St} {p1 q1 na : Nat} {va : Int} (hr : gv_Rf u) (hp1 : p1 < 10 ∨ 15 < p1) (hq1 : q1 < 10 ∨ 15 < q1) (hr1 : u.2.2 p1 0 = q1 + 1) (ha : Wd u p1 q1 na va) (hca : na ≤ gv_z.2.2 q1) (hna : na ≤ 47) : ∃ w, gf_Calculator_divide_b18 F gv_z u 9 p1 = some w ∧ Wr 10 15 u w ∧ Wh w 10 11 0 ∧ Wh w 12 13 va := by
  unfold gf_Calculator_divide_b18
  rw [hr.get rfl gv_r9_0]
  simp only [gf_nn]
  obtain ⟨w, a1, a2, a3⟩ := gw_setLong (F := F) hF (z := gv_z) (p := 10) (q := 11) (u := u) (y := 0) (by omega) (hr.get rfl gv_r10_0) (by rw [gv_l11]; omega) (by decide) (by decide)
  rw [a1]
  have w1 := a2.wr (lo := 10) (hi := 15) (by omega) (by omega) (by omega) (by omega)
  have hrw := hr.wr w1
  show ∃ w', gf_nn (w.2.2 9 1) _ = some w' ∧ _
  rw [hrw.get rfl gv_r9_1]
  simp only [gf_nn]
  obtain ⟨w', b1, b2, b3⟩ := gw_copyW (F := F) (z := gv_z) (p := 12) (q := 13) (p' := p1) (q' := q1) (u := w) (by omega) (by omega) (by omega) (hrw.get rfl gv_r12_0) (by rw [a2.1]; exact hr1) (ha.wr w1 hp1 hq1) hca (by rw [gv_l13]; omega)
  rw [b1]
  refine ⟨w', rfl, w1.trans (b2.wr (by omega) (by omega) (by omega) (by omega)), a3.fr b2 (by omega) (by omega) (by omega) (by omega), ⟨na, b3⟩⟩
