theorem wv_S (u : gw_St) (q n : Nat) : wv u q (n + 1) = wv u q n + lm u q n * 2147483648 ^ n := rfl
theorem gi_m1 {n : Nat} (h : n + 1 < 2147483648) : Int32.ofNat (n + 1) + (-1) = Int32.ofNat n := by
  rw [← gi_sub1 h]
  exact (Int32.sub_eq_add_neg ..).symm
theorem gw_shorterL {F : Nat} {z : gw_Sh} {p1 q1 p2 q2 : Nat} {u : gw_St} (hr1 : u.2.2 p1 0 = q1 + 1) (hr2 : u.2.2 p2 0 = q2 + 1) : ∀ (i f : Nat), i < 1000 → i < z.2.2 q1 → i < z.2.2 q2 → i < f → (∀ k, k ≤ i → 0 ≤ (u.1 q1 k).toInt ∧ 0 ≤ (u.1 q2 k).toInt) → gf_Whole_isShorter_L35 F z f u p1 p2 (Int32.ofNat i) = some (if wv u q1 (i + 1) < wv u q2 (i + 1) then 1 else 0, u) := by
  intro i
  induction i with
  | zero =>
    intro f h1 h2 h3 hf hk
    obtain ⟨f, rfl⟩ : ∃ g, f = g + 1 := ⟨f - 1, by omega⟩
    have e1 := lm_eq (hk 0 (by omega)).1
    have e2 := lm_eq (hk 0 (by omega)).2
    show gf_Whole_isShorter_S35 F z _ u p1 p2 (Int32.ofNat 0) = _
    unfold gf_Whole_isShorter_S35 gf_Whole_isShorter_b60 gf_Whole_isShorter_b83 gf_Whole_isShorter_b84
    rw [if_pos (by decide), if_neg (by decide), hr1, hr2]
    simp only [gf_nn]
    rw [if_neg (gi_ix h2 (by omega)), if_neg (gi_ix h3 (by omega)), i32_clamp (by omega)]
    rw [wv_S, wv_S, show wv u q1 0 = 0 from rfl, show wv u q2 0 = 0 from rfl, Nat.pow_zero]
    by_cases c : u.1 q2 0 ≤ u.1 q1 0
    · have := i32_le.mp c
      rw [if_pos c, if_neg (by decide), if_neg (by omega)]
    · have : ¬ (u.1 q2 0).toInt ≤ (u.1 q1 0).toInt := fun e => c (i32_le.mpr e)
      rw [if_neg c, if_neg (by decide), if_pos (by omega)]
  | succ i ih =>
    intro f h1 h2 h3 hf hk
    obtain ⟨f, rfl⟩ : ∃ g, f = g + 1 := ⟨f - 1, by omega⟩
    have e1 := lm_eq (hk (i + 1) (by omega)).1
    have e2 := lm_eq (hk (i + 1) (by omega)).2
    show gf_Whole_isShorter_S35 F z _ u p1 p2 (Int32.ofNat (i + 1)) = _
    unfold gf_Whole_isShorter_S35
    rw [if_neg (fun c => by have := (gi_le0 (by omega)).mp c; omega), hr1, hr2]
    simp only [gf_nn, gf_nm]
    rw [if_neg (gi_ix h2 (by omega)), if_neg (gi_ix h3 (by omega)), i32_clamp (by omega), gi_m1 (by omega)]
    have l1 := wv_lt u q1 (i + 1)
    have l2 := wv_lt u q2 (i + 1)
    by_cases c : u.1 q1 (i + 1) = u.1 q2 (i + 1)
    · rw [if_pos c, ih f (by omega) (by omega) (by omega) (by omega) (fun k h => hk k (by omega))]
      have : lm u q1 (i + 1) = lm u q2 (i + 1) := by unfold lm; rw [c]
      rw [wv_S u q1 (i + 1), wv_S u q2 (i + 1), this]
      congr 2
      exact ite_congr (propext (by omega)) (fun _ => rfl) (fun _ => rfl)
    · rw [if_neg c]
      unfold gf_Whole_isShorter_b60 gf_Whole_isShorter_b83 gf_Whole_isShorter_b84
      rw [if_neg (gi_n0 (by omega)), hr1, hr2]
      simp only [gf_nn]
      rw [if_neg (gi_ix h2 (by omega)), if_neg (gi_ix h3 (by omega)), i32_clamp (by omega)]
      rw [wv_S u q1 (i + 1), wv_S u q2 (i + 1)]
      generalize 2147483648 ^ (i + 1) = P at l1 l2
      by_cases d : u.1 q2 (i + 1) ≤ u.1 q1 (i + 1)
      · have d1 := i32_le.mp d
        have d2 : (u.1 q1 (i + 1)).toInt ≠ (u.1 q2 (i + 1)).toInt := fun e => c (i32_ext e)
        have hm : (lm u q2 (i + 1) + 1) * P ≤ lm u q1 (i + 1) * P := Nat.mul_le_mul_right _ (by omega)
        rw [Nat.add_mul] at hm
        rw [if_pos d, if_neg (by decide), if_neg (by omega)]
      · have d1 : ¬ (u.1 q2 (i + 1)).toInt ≤ (u.1 q1 (i + 1)).toInt := fun e => d (i32_le.mpr e)
        have hm : (lm u q1 (i + 1) + 1) * P ≤ lm u q2 (i + 1) * P := Nat.mul_le_mul_right _ (by omega)
        rw [Nat.add_mul] at hm
        rw [if_neg d, if_neg (by decide), if_pos (by omega)]
theorem gw_shorter {F : Nat} (hF : 2000 ≤ F) {z : gw_Sh} {p1 q1 p2 q2 na nb : Nat} {u : gw_St} {va vb : Int} (hr1 : u.2.2 p1 0 = q1 + 1) (hr2 : u.2.2 p2 0 = q2 + 1) (ha : Wd u p1 q1 na va) (hb : Wd u p2 q2 nb vb) (hca : na ≤ z.2.2 q1) (hcb : nb ≤ z.2.2 q2) : gf_Whole_isShorter F z u p1 p2 = some (if va.natAbs < vb.natAbs then 1 else 0, u) := by
  have hna := ha.1
  have hnb := hb.1
  show gf_Whole_isShorter_b0 F z u p1 p2 = _
  unfold gf_Whole_isShorter_b0 gf_Whole_isShorter_b27
  rw [ha.2.1, hb.2.1]
  by_cases c : Int32.ofNat na = Int32.ofNat nb
  · have c' := (gi_eq (by omega) (by omega)).mp c
    subst c'
    rw [if_pos rfl]
    simp only [gf_nm]
    by_cases c0 : na = 0
    · subst c0
      have a0 := ha.n0.mp rfl
      have b0 := hb.n0.mp rfl
      subst a0; subst b0
      obtain ⟨f, rfl⟩ : ∃ f, F = f + 1 := ⟨F - 1, by omega⟩
      show gf_Whole_isShorter_S35 (f + 1) z _ u p1 p2 (-1) = _
      unfold gf_Whole_isShorter_S35 gf_Whole_isShorter_b60 gf_Whole_isShorter_b83 gf_Whole_isShorter_b84
      rw [if_pos (by decide), if_pos (by decide), if_neg (by decide)]
      rfl
    · obtain ⟨n, rfl⟩ : ∃ n, na = n + 1 := ⟨na - 1, by omega⟩
      rw [gi_sub1 (by omega), gw_shorterL hr1 hr2 n F (by omega) (by omega) (by omega) (by omega) (fun k hk => ⟨ha.2.2.1 k (by omega), hb.2.2.1 k (by omega)⟩), ha.abs, hb.abs]
  · have c' : na ≠ nb := fun e => c (by rw [e])
    rw [if_neg c]
    by_cases d : Int32.ofNat nb ≤ Int32.ofNat na
    · have d' := (gi_le (by omega) (by omega)).mp d
      rw [if_pos d, if_neg (by decide), if_neg]
      have h1 := ha.pos (by omega)
      have h2 := hb.lt
      have h3 : 2147483648 ^ nb ≤ 2147483648 ^ (na - 1) := Nat.pow_le_pow_right (by decide) (by omega)
      omega
    · have d' : ¬ nb ≤ na := fun e => d ((gi_le (by omega) (by omega)).mpr e)
      rw [if_neg d, if_neg (by decide), if_pos]
      have h1 := hb.pos (by omega)
      have h2 := ha.lt
      have h3 : 2147483648 ^ na ≤ 2147483648 ^ (nb - 1) := Nat.pow_le_pow_right (by decide) (by omega)
      omega
def lx (u : gw_St) (q n i : Nat) : Nat := if i < n then lm u q i else 0
theorem lx_v {u : gw_St} {q n m : Nat} (h : n ≤ m) : bv 2147483648 (lx u q n) m = wv u q n := by
  rw [bv_cut (f := lx u q n) h (fun i h1 _ => if_neg (by omega))]
  exact bv_congr (fun i hi => if_pos hi)
theorem gw_combine {F : Nat} (hF : 2000 ≤ F) {z : gw_Sh} {p q p1 q1 p2 q2 na nb : Nat} {u : gw_St} {va vb W : Int} {x3 s : Int32} (hpq : p ≠ q) (h1q : p1 ≠ q) (h2q : p2 ≠ q) (hr : u.2.2 p 0 = q + 1) (hr1 : u.2.2 p1 0 = q1 + 1) (hr2 : u.2.2 p2 0 = q2 + 1) (ha : Wd u p1 q1 na va) (hb : Wd u p2 q2 nb vb) (hca : na ≤ z.2.2 q1) (hcb : nb ≤ z.2.2 q2) (hc1 : na + 1 ≤ z.2.2 q) (hc2 : nb + 1 ≤ z.2.2 q) (hcq : z.2.2 q < 1000) (hW : x3.toInt = W) (hW2 : W = 1 ∨ (W = -1 ∧ vb.natAbs ≤ va.natAbs)) (hs : s = 1 ∨ s = -1 ∨ (va.natAbs : Int) + W * vb.natAbs = 0) :
    ∃ w, gf_Whole_combine F z u p p1 p2 x3 s = some w ∧ Wf p q u w ∧ Wh w p q (s.toInt * ((va.natAbs : Int) + W * vb.natAbs)) := by
  have hna := ha.1
  have hnb := hb.1
  obtain ⟨N, hN⟩ : ∃ N, N = if na < nb then nb else na := ⟨_, rfl⟩
  have hN1 : na ≤ N := by rw [hN]; split <;> omega
  have hN2 : nb ≤ N := by rw [hN]; split <;> omega
  have hN3 : N + 1 ≤ z.2.2 q := by rw [hN]; split <;> omega
  have hN4 : N < 1000 := by rw [hN]; split <;> omega
  have hva : bv 2147483648 (lx u q1 na) N = va.natAbs := by rw [lx_v hN1, ha.abs]
  have hvb : bv 2147483648 (lx u q2 nb) N = vb.natAbs := by rw [lx_v hN2, hb.abs]
  have main := gl_up (σ := gw_St × Int64) (N := N) (L := fun f t i => gf_Whole_combine_L19 F z f t.1 p p1 p2 x3 s (Int32.ofNat N) t.2 (Int32.ofNat i))
    (I := fun i t => t.1.2 = u.2 ∧ (∀ a k, ¬ (a = q ∧ k < i) → t.1.1 a k = u.1 a k) ∧ (∀ k, k < i → 0 ≤ (t.1.1 q k).toInt) ∧ -1 ≤ t.2.toInt ∧ t.2.toInt ≤ 1 ∧ (wv t.1 q i : Int) + t.2.toInt * ((2147483648 ^ i : Nat) : Int) = (bv 2147483648 (lx u q1 na) i : Int) + W * bv 2147483648 (lx u q2 nb) i)
    (R := fun r => ∃ w, r = some w ∧ Wf p q u w ∧ Wh w p q (s.toInt * ((va.natAbs : Int) + W * vb.natAbs)))
    (fun f t i hI hi => by
      obtain ⟨w, c⟩ := t
      obtain ⟨b1, b2, b3, b4, b5, b6⟩ := hI
      dsimp only at b1 b2 b3 b4 b5 b6 ⊢
      have hw1 : w.1 p1 1 = Int32.ofNat na := (b2 p1 1 (by omega)).trans ha.2.1
      have hw2 : w.1 p2 1 = Int32.ofNat nb := (b2 p2 1 (by omega)).trans hb.2.1
      have hrw : w.2.2 p 0 = q + 1 := by rw [b1]; exact hr
      have hrw1 : w.2.2 p1 0 = q1 + 1 := by rw [b1]; exact hr1
      have hrw2 : w.2.2 p2 0 = q2 + 1 := by rw [b1]; exact hr2
      obtain ⟨A, hA⟩ : ∃ A : Int64, A = if i < na then (u.1 q1 i).toInt64 else 0 := ⟨_, rfl⟩
      obtain ⟨B, hB⟩ : ∃ B : Int64, B = if i < nb then (x3 * u.1 q2 i).toInt64 else 0 := ⟨_, rfl⟩
      have hAv : A.toInt = (lx u q1 na i : Int) := by
        rw [hA]
        unfold lx
        by_cases c : i < na
        · rw [if_pos c, if_pos c, n32_to64, lm_eq (ha.2.2.1 i c)]
        · rw [if_neg c, if_neg c]; rfl
      have hBv : B.toInt = W * (lx u q2 nb i : Int) := by
        rw [hB]
        unfold lx
        by_cases c : i < nb
        · have e := lm_eq (hb.2.2.1 i c)
          have l := lm_lt u q2 i
          rw [if_pos c, if_pos c, n32_to64]
          have e2 : x3.toInt * (u.1 q2 i).toInt = W * (lm u q2 i : Int) := by rw [hW, e]
          rw [n32_mul (by rw [e2]; rcases hW2 with h | h <;> (first | rw [h] | rw [h.1]) <;> omega) (by rw [e2]; rcases hW2 with h | h <;> (first | rw [h] | rw [h.1]) <;> omega), e2]
        · rw [if_neg c, if_neg c]; simp
      have lA : lx u q1 na i < 2147483648 := by unfold lx; split; exact lm_lt _ _ _; omega
      have lB : lx u q2 nb i < 2147483648 := by unfold lx; split; exact lm_lt _ _ _; omega
      have hBr : -2147483648 < B.toInt ∧ B.toInt < 2147483648 := by
        rw [hBv]
        rcases hW2 with h | h
        · rw [h]; omega
        · rw [h.1]; omega
      have hcA : (c + A).toInt = c.toInt + A.toInt := n64_add (by omega) (by omega)
      have hT : (c + A + B).toInt = c.toInt + A.toInt + B.toInt := by rw [n64_add (by omega) (by omega), hcA]
      have hd := n64_dig (t := c + A + B)
      have hsh := n64_shr (t := c + A + B)
      refine ⟨(gw_wi w q i (((c + A + B) &&& (2147483647 : Int64)).toInt32), (c + A + B) >>> (((31 : Int32)).toInt64 &&& 63)), ⟨b1, fun a k h => ?_, fun k hk => ?_, ?_, ?_, ?_⟩, ?_⟩
      · simp only [gw_wi]
        rw [if_neg (by omega)]
        exact b2 a k (by omega)
      · simp only [gw_wi, true_and]
        split
        · rw [hd]; omega
        · exact b3 k (by omega)
      · dsimp only; rw [hsh]; omega
      · dsimp only; rw [hsh]; omega
      · dsimp only
        have e0 : wv (gw_wi w q i (((c + A + B) &&& (2147483647 : Int64)).toInt32)) q i = wv w q i := wv_congr (fun k hk => by simp only [gw_wi]; rw [if_neg (by omega)])
        have e1 : lm (gw_wi w q i (((c + A + B) &&& (2147483647 : Int64)).toInt32)) q i = (((c + A + B) &&& (2147483647 : Int64)).toInt32).toInt.toNat := by rw [lm_set, if_pos rfl]
        rw [wv_S, e0, e1]
        show _ = ((bv 2147483648 (lx u q1 na) i + lx u q1 na i * 2147483648 ^ i : Nat) : Int) + W * ((bv 2147483648 (lx u q2 nb) i + lx u q2 nb i * 2147483648 ^ i : Nat) : Int)
        have e2 : (((((c + A + B) &&& (2147483647 : Int64)).toInt32).toInt.toNat : Nat) : Int) + ((c + A + B) >>> (((31 : Int32)).toInt64 &&& 63)).toInt * 2147483648 = c.toInt + (lx u q1 na i : Int) + W * (lx u q2 nb i : Int) := by
          rw [← hAv, ← hBv, ← hT, hsh, hd]; omega
        generalize ((((c + A + B) &&& (2147483647 : Int64)).toInt32).toInt.toNat) = d at e2
        generalize ((c + A + B) >>> (((31 : Int32)).toInt64 &&& 63)).toInt = c' at e2
        have e3 := congrArg (· * ((2147483648 ^ i : Nat) : Int)) e2
        simp only [Int.add_mul] at e3
        rw [Nat.pow_succ, Nat.mul_comm (2147483648 ^ i)]
        simp only [Int.natCast_add, Int.natCast_mul]
        rw [Int.mul_add, ← Int.mul_assoc c', ← Int.mul_assoc W]
        have e5 : c' * ((2147483648 : Nat) : Int) = c' * 2147483648 := rfl
        rw [e5]
        omega
      · show gf_Whole_combine_S19 F z _ w p p1 p2 x3 s (Int32.ofNat N) c (Int32.ofNat i) = _
        have hst : gf_Whole_combine_S19 F z (gf_Whole_combine_L19 F z f) w p p1 p2 x3 s (Int32.ofNat N) c (Int32.ofNat i) = gf_Whole_combine_b53 F z (gf_Whole_combine_L19 F z f) w p p1 p2 x3 s (Int32.ofNat N) (Int32.ofNat i) c A := by
          unfold gf_Whole_combine_S19
          rw [if_neg (fun e => by have := (gi_le (by omega) (by omega)).mp e; omega), hw1]
          by_cases ci : i < na
          · rw [if_neg (fun e => by have := (gi_le (by omega) (by omega)).mp e; omega), hrw1]
            simp only [gf_nn]
            rw [if_neg (gi_ix (by omega) (by omega)), i32_clamp (by omega), b2 q1 i (by omega), hA, if_pos ci]
          · rw [if_pos ((gi_le (by omega) (by omega)).mpr (by omega)), hA, if_neg ci]
        rw [hst]
        have hst2 : gf_Whole_combine_b53 F z (gf_Whole_combine_L19 F z f) w p p1 p2 x3 s (Int32.ofNat N) (Int32.ofNat i) c A = gf_Whole_combine_b81 F z (gf_Whole_combine_L19 F z f) w p p1 p2 x3 s (Int32.ofNat N) (Int32.ofNat i) (c + A) B := by
          unfold gf_Whole_combine_b53
          simp only [gf_nm]
          rw [hw2]
          by_cases ci : i < nb
          · rw [if_neg (fun e => by have := (gi_le (by omega) (by omega)).mp e; omega), hrw2]
            simp only [gf_nn]
            rw [if_neg (gi_ix (by omega) (by omega)), i32_clamp (by omega), b2 q2 i (by omega), hB, if_pos ci]
          · rw [if_pos ((gi_le (by omega) (by omega)).mpr (by omega)), hB, if_neg ci]
        rw [hst2]
        unfold gf_Whole_combine_b81
        simp only [gf_nm]
        rw [hrw]
        simp only [gf_nn]
        rw [if_neg (gi_ix (by omega) (by omega)), i32_clamp (by omega), gw_iS])
    (fun f t hI => by
      obtain ⟨w, c⟩ := t
      obtain ⟨b1, b2, b3, b4, b5, b6⟩ := hI
      dsimp only at b1 b2 b3 b4 b5 b6 ⊢
      have hrw : w.2.2 p 0 = q + 1 := by rw [b1]; exact hr
      have hwf : Wf p q u w := ⟨b1, fun a k h1 _ => b2 a k (by omega)⟩
      rw [hva, hvb] at b6
      have hl := wv_lt w q N
      have hl2 : (wv w q N : Int) < ((2147483648 ^ N : Nat) : Int) := by omega
      have hc0 : 0 ≤ c.toInt := by
        by_cases hn : 0 ≤ c.toInt
        · exact hn
        · exfalso
          have : c.toInt = -1 := by omega
          rw [this] at b6
          rcases hW2 with h | h
          · rw [h] at b6; omega
          · rw [h.1] at b6; omega
      have hbody : gf_Whole_combine_L19 F z (f + 1) w p p1 p2 x3 s (Int32.ofNat N) c (Int32.ofNat N) = if c.toInt = 0 then gf_Whole_settle F z w p (Int32.ofNat N) s else gf_Whole_settle F z (gw_wi w q N c.toInt32) p (Int32.ofNat (N + 1)) s := by
        show gf_Whole_combine_S19 F z _ w p p1 p2 x3 s (Int32.ofNat N) c (Int32.ofNat N) = _
        unfold gf_Whole_combine_S19 gf_Whole_combine_b131
        rw [if_pos ((gi_le (by omega) (by omega)).mpr (Nat.le_refl _))]
        by_cases cc : c.toInt = 0
        · have ec : c = 0 := i64_ext cc
          rw [if_pos cc, ec, if_pos (by decide)]
          exact gb_id _
        · have ec : c = 1 := i64_ext (by have : (1 : Int64).toInt = 1 := rfl; omega)
          rw [if_neg cc, ec, if_neg (by decide), hrw]
          simp only [gf_nn, gf_nm]
          rw [if_neg (gi_ix (by omega) (by omega)), i32_clamp (by omega), gw_iS]
          exact gb_id _
      rw [hbody]
      by_cases cc : c.toInt = 0
      · rw [if_pos cc]
        have hv : (wv w q N : Int) = (va.natAbs : Int) + W * vb.natAbs := by rw [← b6, cc]; simp
        obtain ⟨w', d1, d2, d3, d4⟩ := gw_settle (F := F) hF (z := z) (u := w) (n := N) (s := s) hpq hrw (by omega) hN4 b3 (by
          rcases hs with h | h | h
          · exact Or.inl h
          · exact Or.inr (Or.inl h)
          · right; right; omega)
        rw [hv] at d4
        exact ⟨w', d1, hwf.trans d2, d4⟩
      · rw [if_neg cc]
        have ec : c.toInt = 1 := by omega
        have ec32 : c.toInt32.toInt = 1 := by rw [n64_to32 (by omega) (by omega), ec]
        have hv : (wv (gw_wi w q N c.toInt32) q (N + 1) : Int) = (va.natAbs : Int) + W * vb.natAbs := by
          rw [← b6, wv_S, lm_set, if_pos rfl, ec32, ec]
          have e0 : wv (gw_wi w q N c.toInt32) q N = wv w q N := wv_congr (fun k hk => by simp only [gw_wi]; rw [if_neg (by omega)])
          rw [e0]
          have e9 : (1 : Int).toNat = 1 := rfl
          rw [e9, Nat.one_mul, Int.one_mul]
          omega
        obtain ⟨w', d1, d2, d3, d4⟩ := gw_settle (F := F) hF (z := z) (u := gw_wi w q N c.toInt32) (n := N + 1) (s := s) hpq hrw hN3 (by omega) (fun k hk => by
            simp only [gw_wi, true_and]
            split
            · omega
            · exact b3 k (by omega)) (by
          rcases hs with h | h | h
          · exact Or.inl h
          · exact Or.inr (Or.inl h)
          · right; right; omega)
        rw [hv] at d4
        exact ⟨w', d1, (hwf.trans Wf.wi).trans d2, d4⟩)
  have hb0 : gf_Whole_combine F z u p p1 p2 x3 s = gf_Whole_combine_L19 F z F u p p1 p2 x3 s (Int32.ofNat N) 0 (Int32.ofNat 0) := by
    show gf_Whole_combine_b0 F z u p p1 p2 x3 s = _
    unfold gf_Whole_combine_b0
    rw [ha.2.1, hb.2.1]
    have e : (if Int32.ofNat na < Int32.ofNat nb then Int32.ofNat nb else Int32.ofNat na) = Int32.ofNat N := by
      rw [hN]
      by_cases c : na < nb
      · rw [if_pos ((gi_lt (by omega) (by omega)).mpr c), if_pos c]
      · rw [if_neg (fun e => c ((gi_lt (by omega) (by omega)).mp e)), if_neg c]
    rw [e]
    rfl
  rw [hb0]
  exact main N 0 (u, 0) F (by omega) ⟨rfl, fun _ _ _ => rfl, fun k hk => absurd hk (Nat.not_lt_zero k), show -1 ≤ (0 : Int64).toInt by decide, show (0 : Int64).toInt ≤ 1 by decide, by
    have e0 : (0 : Int64).toInt = 0 := rfl
    have e1 : wv u q 0 = 0 := rfl
    dsimp only
    rw [e0, e1]
    simp [bv]⟩ (by omega)
