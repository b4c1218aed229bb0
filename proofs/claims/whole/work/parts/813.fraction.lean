/-- nothing is changed but at the places of S -/
def Wp (S : Nat → Prop) (u w : gw_St) : Prop := w.2 = u.2 ∧ ∀ a, ¬ S a → ∀ k, w.1 a k = u.1 a k
theorem Wp.refl {S : Nat → Prop} {u : gw_St} : Wp S u u := ⟨rfl, fun _ _ _ => rfl⟩
theorem Wp.trans {S : Nat → Prop} {u v w : gw_St} (h : Wp S u v) (g : Wp S v w) : Wp S u w := ⟨g.1.trans h.1, fun a h1 k => (g.2 a h1 k).trans (h.2 a h1 k)⟩
theorem Wp.mono {S T : Nat → Prop} {u w : gw_St} (h : Wp S u w) (hs : ∀ a, S a → T a) : Wp T u w := ⟨h.1, fun a h1 k => h.2 a (fun q => h1 (hs a q)) k⟩
theorem Wr.wp {S : Nat → Prop} {lo hi : Nat} {u w : gw_St} (h : Wr lo hi u w) (hs : ∀ a, lo ≤ a → a ≤ hi → S a) : Wp S u w := ⟨h.1, fun a h1 k => h.2 a k (fun q => h1 (hs a q.1 q.2))⟩
theorem Wf.wp {S : Nat → Prop} {p q : Nat} {u w : gw_St} (h : Wf p q u w) (hp : S p) (hq : S q) : Wp S u w := ⟨h.1, fun a h1 k => h.2 a k (fun e => h1 (e ▸ hq)) (fun e => h1 (e.1 ▸ hp))⟩
theorem Wp.wi {S : Nat → Prop} {p k : Nat} {x : Int32} {u : gw_St} (hp : S p) : Wp S u (gw_wi u p k x) := ⟨rfl, fun a h1 j => by simp only [gw_wi]; rw [if_neg (fun e : a = p ∧ j = k => h1 (e.1 ▸ hp))]⟩
theorem Wd.wp {S : Nat → Prop} {p q n : Nat} {u w : gw_St} {v : Int} (h : Wd u p q n v) (f : Wp S u w) (hp : ¬ S p) (hq : ¬ S q) : Wd w p q n v := by
  obtain ⟨a1, a2, a3, a4, a5⟩ := h
  have e : ∀ i, w.1 q i = u.1 q i := fun i => f.2 q hq i
  have el : ∀ i, lm w q i = lm u q i := fun i => by unfold lm; rw [e]
  have ev : wv w q n = wv u q n := wv_congr (fun i _ => e i)
  refine ⟨a1, (f.2 p hp 1).trans a2, fun i hi => by rw [e]; exact a3 i hi, fun h => by rw [el]; exact a4 h, ?_⟩
  rw [f.2 p hp 2, ev]
  exact a5
theorem Wh.wp {S : Nat → Prop} {p q : Nat} {u w : gw_St} {v : Int} (h : Wh u p q v) (f : Wp S u w) (hp : ¬ S p) (hq : ¬ S q) : Wh w p q v := h.elim fun n hn => ⟨n, hn.wp f hp hq⟩
theorem gv_Rf.wp {S : Nat → Prop} {u w : gw_St} (h : gv_Rf u) (f : Wp S u w) : gv_Rf w := h.eq (by rw [f.1])
theorem pw31 (n : Nat) : 2147483648 ^ n = 2 ^ (31 * n) := by
  rw [Nat.pow_mul]
theorem gw_bits {F : Nat} {z : gw_Sh} {u : gw_St} {p q n : Nat} {v : Int} (hr : u.2.2 p 0 = q + 1) (h : Wd u p q n v) (hc : n ≤ z.2.2 q) : ∃ k : Nat, gf_Whole_bits F z u p = some (Int32.ofNat k, u) ∧ k < 100000 ∧ v.natAbs < 2 ^ k ∧ (0 < k → 2 ^ (k - 1) ≤ v.natAbs) := by
  have hn := h.1
  show ∃ k : Nat, gf_Whole_bits_b0 F z u p = some (Int32.ofNat k, u) ∧ _
  unfold gf_Whole_bits_b0 gf_Whole_bits_b35
  rw [h.2.1]
  by_cases c0 : n = 0
  · subst c0
    have v0 := h.n0.mp rfl
    subst v0
    exact ⟨0, by rw [if_pos (show Int32.ofNat 0 = 0 from rfl)]; rfl, by omega, by decide, by omega⟩
  · rw [if_neg (fun e => c0 ((gi_eq0 (by omega)).mp e)), hr]
    simp only [gf_nn]
    have s1 : Int32.ofNat n - (1 : Int32) = Int32.ofNat (n - 1) := gi_sub (b := 1) (by omega) (by omega)
    rw [s1, if_neg (gi_ix (by omega) (by omega)), i32_clamp (by omega)]
    obtain ⟨X, hX⟩ : ∃ X, X = lm u q (n - 1) := ⟨_, rfl⟩
    have hXp := h.2.2.2.1 (by omega)
    rw [← hX] at hXp
    have hXl := lm_lt u q (n - 1)
    rw [← hX] at hXl
    have eX : u.1 q (n - 1) = Int32.ofNat X := i32_ext (by rw [lm_eq (h.2.2.1 _ (by omega)), i32_nat (by omega), hX])
    obtain ⟨j, k1, k2⟩ : ∃ k, 2 ^ k ≤ X ∧ X < 2 ^ (k + 1) := ⟨X.log2, Nat.log2_self_le hXp, Nat.lt_log2_self⟩
    have hk := p2_lt (m := 31) k1 hXl
    rw [eX, gs_nlz k1 k2 hXl]
    simp only [gf_cl]
    have eV : v.natAbs = wv u q (n - 1) + X * 2147483648 ^ (n - 1) := by
      rw [h.abs, hX]
      have := wv_S u q (n - 1)
      rw [show n - 1 + 1 = n by omega] at this
      exact this
    have hVl := wv_lt u q (n - 1)
    refine ⟨31 * (n - 1) + j + 1, ?_, by omega, ?_, fun _ => ?_⟩
    · congr 2
      apply i32_ext
      have e1 : (Int32.ofNat n * 31).toInt = 31 * n := by
        have e31 : (31 : Int32).toInt = 31 := rfl
        rw [n32_mul (by rw [i32_nat (by omega), e31]; omega) (by rw [i32_nat (by omega), e31]; omega), i32_nat (by omega), e31]; omega
      have e2 : (1 : Int32).toInt = 1 := rfl
      have e3 : (Int32.ofNat n * 31 + 1).toInt = 31 * n + 1 := by
        rw [n32_add (by rw [e1, e2]; omega) (by rw [e1, e2]; omega), e1, e2]
      rw [n32_sub (by rw [e3, i32_nat (by omega)]; omega) (by rw [e3, i32_nat (by omega)]; omega), e3, i32_nat (by omega), i32_nat (by omega)]
      omega
    · have h1 : (X + 1) * 2147483648 ^ (n - 1) ≤ 2 ^ (j + 1) * 2147483648 ^ (n - 1) := Nat.mul_le_mul_right _ k2
      have h2 : 2 ^ (j + 1) * 2147483648 ^ (n - 1) = 2 ^ (31 * (n - 1) + j + 1) := by rw [pw31, ← Nat.pow_add]; congr 1; omega
      rw [Nat.add_mul] at h1
      omega
    · have h1 : 2 ^ j * 2147483648 ^ (n - 1) ≤ X * 2147483648 ^ (n - 1) := Nat.mul_le_mul_right _ k1
      have h2 : 2 ^ j * 2147483648 ^ (n - 1) = 2 ^ (31 * (n - 1) + j + 1 - 1) := by rw [pw31, ← Nat.pow_add]; congr 1; omega
      omega
theorem gw_bits256 {F : Nat} {z : gw_Sh} {u : gw_St} {p q n : Nat} {v : Int} (hr : u.2.2 p 0 = q + 1) (h : Wd u p q n v) (hc : n ≤ z.2.2 q) : ∃ x : Int32, gf_Whole_bits F z u p = some (x, u) ∧ ((256 : Int32) < x ↔ 2 ^ 256 ≤ v.natAbs) := by
  obtain ⟨k, a1, a2, a3, a4⟩ := gw_bits (F := F) (z := z) hr h hc
  refine ⟨_, a1, ?_⟩
  have e := gi_lt (a := 256) (b := k) (by omega) (by omega)
  refine e.trans ⟨fun hk => ?_, fun hv => ?_⟩
  · exact Nat.le_trans (Nat.pow_le_pow_right (by decide) (by omega)) (a4 (by omega))
  · exact p2_lt hv a3
/-- a fraction at p: its top at p + 1, its bottom at p + 3 -/
def Fx (u : gw_St) (p : Nat) : Prop := u.2.2 p 0 = p + 2 ∧ u.2.2 p 1 = p + 4 ∧ u.2.2 (p + 1) 0 = p + 3 ∧ u.2.2 (p + 3) 0 = p + 5
def Fr (u : gw_St) (p : Nat) (a b : Int) : Prop := Wh u (p + 1) (p + 2) a ∧ Wh u (p + 3) (p + 4) b
theorem Fx.eq {u w : gw_St} {p : Nat} (h : Fx u p) (e : w.2 = u.2) : Fx w p := by unfold Fx; rw [e]; exact h
theorem Fr.wp {S : Nat → Prop} {p : Nat} {u w : gw_St} {a b : Int} (h : Fr u p a b) (f : Wp S u w) (h1 : ¬ S (p + 1)) (h2 : ¬ S (p + 2)) (h3 : ¬ S (p + 3)) (h4 : ¬ S (p + 4)) : Fr w p a b := ⟨h.1.wp f h1 h2, h.2.wp f h3 h4⟩
theorem gw_large {F : Nat} {z : gw_Sh} {u : gw_St} {p k : Nat} {a b : Int} (hx : Fx u p) (h : Fr u p a b) (ha : a.natAbs < 2147483648 ^ k) (hb : b.natAbs < 2147483648 ^ k) (h1 : k ≤ z.2.2 (p + 2)) (h2 : k ≤ z.2.2 (p + 4)) : gf_Fraction_isTooLarge F z u p = some (if 2 ^ 256 ≤ a.natAbs ∨ 2 ^ 256 ≤ b.natAbs then 1 else 0, u) := by
  obtain ⟨na, hna, da⟩ := h.1.cap ha
  obtain ⟨nb, hnb, db⟩ := h.2.cap hb
  obtain ⟨x, x1, x2⟩ := gw_bits256 (F := F) (z := z) hx.2.2.1 da (by omega)
  obtain ⟨y, y1, y2⟩ := gw_bits256 (F := F) (z := z) hx.2.2.2 db (by omega)
  show gf_Fraction_isTooLarge_b0 F z u p = _
  unfold gf_Fraction_isTooLarge_b0 gf_Fraction_isTooLarge_b26 gf_Fraction_isTooLarge_b31
  rw [hx.1]
  simp only [gf_nn]
  rw [x1]
  simp only [gf_cl]
  by_cases c : (256 : Int32) < x
  · rw [if_pos c, if_neg (by decide), if_pos (Or.inl (x2.mp c))]
  · rw [if_neg c, hx.2.1]
    dsimp only
    rw [y1]
    dsimp only
    by_cases d : y ≤ (256 : Int32)
    · have d' : ¬ (256 : Int32) < y := fun e => by
        have := i32_le.mp d
        have := i32_lt.mp e
        omega
      rw [if_pos d, if_neg (by decide), if_neg]
      rintro (e | e)
      · exact c (x2.mpr e)
      · exact d' (y2.mpr e)
    · have d' : (256 : Int32) < y := i32_lt.mpr (Int.lt_of_not_ge (fun e => d (i32_le.mpr e)))
      rw [if_neg d, if_neg (by decide), if_pos (Or.inr (y2.mp d'))]
theorem n64_tr {T : Int64} {n : Nat} (h : T.toInt = (n : Int)) : T.toInt32 = Int32.ofNat n := by
  have hh := n64_hi T
  rw [i64_of h (by omega), n64_nat32]
theorem gw_word {F : Nat} {z : gw_Sh} {u : gw_St} {p q n i : Nat} {v : Int} (hr : u.2.2 p 0 = q + 1) (h : Wd u p q n v) (hc : n ≤ z.2.2 q) (hi : i < 8) : gf_Whole_word F z u p (Int32.ofNat i) = some (Int32.ofNat (v.natAbs / 2 ^ (32 * i)), u) := by
  have hn := h.1
  have ei : Int32.ofNat i * (32 : Int32) / (31 : Int32) = Int32.ofNat i := by
    revert i; decide +kernel
  have ej : Int32.ofNat i * (32 : Int32) - Int32.ofNat i * (32 : Int32) / (31 : Int32) * (31 : Int32) = Int32.ofNat i := by
    revert i; decide +kernel
  obtain ⟨A, hA⟩ : ∃ A : Int64, A = if i < n then (u.1 q i).toInt64 else 0 := ⟨_, rfl⟩
  obtain ⟨B, hB⟩ : ∃ B : Int64, B = if i + 1 < n then (u.1 q (i + 1)).toInt64 else 0 := ⟨_, rfl⟩
  have hAv : A.toInt = (lx u q n i : Int) := by
    rw [hA]
    unfold lx
    by_cases c : i < n
    · rw [if_pos c, if_pos c, n32_to64, lm_eq (h.2.2.1 i c)]
    · rw [if_neg c, if_neg c]; rfl
  have hBv : B.toInt = (lx u q n (i + 1) : Int) := by
    rw [hB]
    unfold lx
    by_cases c : i + 1 < n
    · rw [if_pos c, if_pos c, n32_to64, lm_eq (h.2.2.1 _ c)]
    · rw [if_neg c, if_neg c]; rfl
  have lxl : ∀ j, lx u q n j < 2147483648 := fun j => by unfold lx; split; exact lm_lt _ _ _; omega
  have lA := lxl i
  have lB := lxl (i + 1)
  have hrun : gf_Whole_word F z u p (Int32.ofNat i) = some (((B <<< (((31 : Int32)).toInt64 &&& 63)) ||| A) >>> ((Int32.ofNat i).toInt64 &&& 63) |>.toInt32, u) := by
    show gf_Whole_word_b0 F z u p (Int32.ofNat i) = _
    unfold gf_Whole_word_b0
    rw [if_neg (by decide), ei, h.2.1]
    simp only [gf_nm]
    have hst : ∀ y, gf_Whole_word_b27 F z u p (Int32.ofNat i) (Int32.ofNat i) y = gf_Whole_word_b51 F z u (Int32.ofNat i) y B := by
      intro y
      unfold gf_Whole_word_b27
      rw [h.2.1, show Int32.ofNat i + (1 : Int32) = Int32.ofNat (i + 1) from gw_iS]
      by_cases c : i + 1 < n
      · rw [if_neg (fun e => by have := (gi_le (by omega) (by omega)).mp e; omega), hr]
        simp only [gf_nn]
        rw [if_neg (gi_ix (by omega) (by omega)), i32_clamp (by omega), hB, if_pos c]
      · rw [if_pos ((gi_le (by omega) (by omega)).mpr (by omega)), hB, if_neg c]
    have hst2 : ∀ y, gf_Whole_word_b51 F z u (Int32.ofNat i) y B = some (((B <<< (((31 : Int32)).toInt64 &&& 63)) ||| y) >>> ((Int32.ofNat i).toInt64 &&& 63) |>.toInt32, u) := by
      intro y
      unfold gf_Whole_word_b51
      rw [if_neg (by decide), ej]
    by_cases c : i < n
    · rw [if_neg (fun e => by have := (gi_le (by omega) (by omega)).mp e; omega), hr]
      simp only [gf_nn]
      rw [if_neg (gi_ix (by omega) (by omega)), i32_clamp (by omega), hst, hst2, hA, if_pos c]
    · rw [if_pos ((gi_le (by omega) (by omega)).mpr (by omega)), hst, hst2, hA, if_neg c]
  rw [hrun]
  congr 2
  have e31 : (2 : Int) ^ 31 = 2147483648 := by decide
  have hsl : (B <<< (((31 : Int32)).toInt64 &&& 63)).toInt = B.toInt * 2147483648 := by
    have := n64_shl (a := B) (s := 31) (by omega) (by omega) (by rw [e31]; omega)
    rw [e31] at this
    exact this
  have hor : ((B <<< (((31 : Int32)).toInt64 &&& 63)) ||| A).toInt = ((lx u q n i + 2147483648 * lx u q n (i + 1) : Nat) : Int) := by
    rw [n64_or (k := 31) (c := B.toInt) (by omega) (by rw [e31]; omega) (by omega) (by rw [hsl, e31]), hsl, hAv, hBv]
    omega
  have hsh : (((B <<< (((31 : Int32)).toInt64 &&& 63)) ||| A) >>> ((Int32.ofNat i).toInt64 &&& 63)).toInt = (((lx u q n i + 2147483648 * lx u q n (i + 1)) / 2 ^ i : Nat) : Int) := by
    rw [n64_shrv (by omega), hor, p2_cast]
    exact (Int.natCast_ediv _ _).symm
  rw [n64_tr hsh]
  obtain ⟨m, hm⟩ : ∃ m, m = n + i + 2 := ⟨_, rfl⟩
  have ev : v.natAbs = bv 2147483648 (lx u q n) m := by rw [lx_v (by omega), h.abs]
  have e1 : 2 ^ (32 * i) = 2147483648 ^ i * 2 ^ i := by rw [show 32 * i = 31 * i + i by omega, Nat.pow_add, ← pw31]
  rw [ev, e1, ← Nat.div_div_eq_div_mul, bv_div (by decide) (fun j _ => lxl j) (by omega)]
  obtain ⟨m', hm'⟩ : ∃ m', m - i = m' + 1 + 1 := ⟨m - i - 2, by omega⟩
  rw [hm', bv_succ', bv_succ']
  generalize bv 2147483648 (fun k => lx u q n (i + (k + 1 + 1))) m' = R
  show _ = Int32.ofNat ((lx u q n (i + 0) + 2147483648 * (lx u q n (i + (0 + 1)) + 2147483648 * R)) / 2 ^ i)
  show _ = Int32.ofNat ((lx u q n i + 2147483648 * (lx u q n (i + 1) + 2147483648 * R)) / 2 ^ i)
  rw [Nat.mul_add, ← Nat.add_assoc]
  have e : 2147483648 * (2147483648 * R) = 2 ^ i * (2 ^ (30 - i) * R * 4294967296) := by
    have : (2 : Nat) ^ i * 2 ^ (30 - i) = 1073741824 := by rw [← Nat.pow_add, show i + (30 - i) = 30 by omega]
    rw [← Nat.mul_assoc, ← Nat.mul_assoc, ← Nat.mul_assoc, this]
    omega
  rw [e, Nat.add_mul_div_left _ _ (Nat.two_pow_pos i)]
  rw [← gi_add]
  have e0 : ∀ Y, Int32.ofNat (Y * 4294967296) = 0 := fun Y => by
    rw [Int32.ofNat_mul]
    show Int32.ofNat Y * 0 = 0
    exact Int32.mul_zero
  rw [e0]
  exact (Int32.add_zero _).symm
theorem gw_fcopy {F : Nat} {z : gw_Sh} {u : gw_St} {p p' k : Nat} {a b : Int} (hx : Fx u p) (hx' : Fx u p') (hd : p + 4 < p' ∨ p' + 4 < p) (h : Fr u p' a b) (ha : a.natAbs < 2147483648 ^ k) (hb : b.natAbs < 2147483648 ^ k) (h1 : k ≤ z.2.2 (p' + 2)) (h2 : k ≤ z.2.2 (p' + 4)) (h3 : k ≤ z.2.2 (p + 2)) (h4 : k ≤ z.2.2 (p + 4)) : ∃ w, gf_Fraction_copyFrom F z u p p' = some w ∧ Wr p (p + 4) u w ∧ Fr w p a b := by
  obtain ⟨na, hna, da⟩ := h.1.cap ha
  obtain ⟨nb, hnb, db⟩ := h.2.cap hb
  obtain ⟨w1, a1, a2, a3⟩ := gw_copyW (F := F) (z := z) (p := p + 1) (q := p + 2) (p' := p' + 1) (q' := p' + 2) (u := u) (by omega) (by omega) (by omega) hx.2.2.1 hx'.2.2.1 da (by omega) (by omega)
  have x1 := hx.eq a2.1
  have x1' := hx'.eq a2.1
  obtain ⟨w2, b1, b2, b3⟩ := gw_copyW (F := F) (z := z) (p := p + 3) (q := p + 4) (p' := p' + 3) (q' := p' + 4) (u := w1) (by omega) (by omega) (by omega) x1.2.2.2 x1'.2.2.2 (db.fr a2 (by omega) (by omega) (by omega) (by omega)) (by omega) (by omega)
  refine ⟨w2, ?_, (a2.wr (by omega) (by omega) (by omega) (by omega)).trans (b2.wr (by omega) (by omega) (by omega) (by omega)), ⟨na, a3.fr b2 (by omega) (by omega) (by omega) (by omega)⟩, ⟨nb, b3⟩⟩
  show gf_Fraction_copyFrom_b0 F z u p p' = _
  unfold gf_Fraction_copyFrom_b0
  rw [hx.1, hx'.1]
  simp only [gf_nn]
  rw [a1]
  show gf_nn (w1.2.2 p 1) _ = _
  rw [x1.2.1]
  show gf_nn (w1.2.2 p' 1) _ = _
  rw [x1'.2.1]
  simp only [gf_nn]
  rw [b1]
  rfl
