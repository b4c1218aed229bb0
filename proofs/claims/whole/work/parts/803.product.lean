theorem gw_prodI {F : Nat} (hF : 2000 ≤ F) {z : gw_Sh} {p q p1 q1 p2 q2 na nb i : Nat} {u : gw_St} {va vb : Int} {x3 : Int32} {rc : gw_St → Nat → Nat → Nat → Int32 → Int32 → Option gw_St} (h1q : p1 ≠ q) (h2q : p2 ≠ q) (hq1 : q1 ≠ q) (hq2 : q2 ≠ q) (hq1p : q1 ≠ p) (hq2p : q2 ≠ p) (h1p : p1 ≠ p) (h2p : p2 ≠ p) (hr : u.2.2 p 0 = q + 1) (hr1 : u.2.2 p1 0 = q1 + 1) (hr2 : u.2.2 p2 0 = q2 + 1) (ha : Wd u p1 q1 na va) (hb : Wd u p2 q2 nb vb) (hcb : nb ≤ z.2.2 q2) (hc : na + nb ≤ z.2.2 q) (hi : i < na) {w0 : gw_St} {S : Nat} (hw0 : Wf p q u w0) (hpos : ∀ k, k < na + nb → 0 ≤ (w0.1 q k).toInt) (hz : ∀ k, i + nb ≤ k → k < na + nb → lm w0 q k = 0) (hS : wv w0 q (na + nb) = S) :
    ∃ w, gf_Whole_setProduct_L48 F z rc F w0 p p1 p2 x3 (Int32.ofNat i) ((u.1 q1 i).toInt64) 0 0 = rc w p p1 p2 x3 (Int32.ofNat (i + 1)) ∧ Wf p q u w ∧ (∀ k, k < na + nb → 0 ≤ (w.1 q k).toInt) ∧ (∀ k, i + 1 + nb ≤ k → k < na + nb → lm w q k = 0) ∧ wv w q (na + nb) = S + lm u q1 i * wv u q2 nb * 2147483648 ^ i := by
  have hna := ha.1
  have hnb := hb.1
  have hai : (u.1 q1 i).toInt = (lm u q1 i : Int) := lm_eq (ha.2.2.1 i hi)
  have hAl := lm_lt u q1 i
  have main := gl_up (σ := gw_St × Int64) (N := nb) (L := fun f s j => gf_Whole_setProduct_L48 F z rc f s.1 p p1 p2 x3 (Int32.ofNat i) ((u.1 q1 i).toInt64) s.2 (Int32.ofNat j))
    (I := fun j s => Wf p q u s.1 ∧ (∀ k, k < na + nb → 0 ≤ (s.1.1 q k).toInt) ∧ (∀ k, i + nb ≤ k → k < na + nb → lm s.1 q k = 0) ∧ 0 ≤ s.2.toInt ∧ s.2.toInt < 2147483648 ∧ wv s.1 q (na + nb) + s.2.toInt.toNat * 2147483648 ^ (i + j) = S + lm u q1 i * wv u q2 j * 2147483648 ^ i)
    (R := fun r => ∃ w, r = rc w p p1 p2 x3 (Int32.ofNat (i + 1)) ∧ Wf p q u w ∧ (∀ k, k < na + nb → 0 ≤ (w.1 q k).toInt) ∧ (∀ k, i + 1 + nb ≤ k → k < na + nb → lm w q k = 0) ∧ wv w q (na + nb) = S + lm u q1 i * wv u q2 nb * 2147483648 ^ i)
    (fun f s j hI hj => by
      obtain ⟨w, c⟩ := s
      obtain ⟨b1, b2, b3, b4, b5, b6⟩ := hI
      dsimp only at b1 b2 b3 b4 b5 b6 ⊢
      have hw2 : w.1 p2 1 = Int32.ofNat nb := (b1.2 p2 1 h2q (by omega)).trans hb.2.1
      have hrw : w.2.2 p 0 = q + 1 := by rw [b1.1]; exact hr
      have hrw2 : w.2.2 p2 0 = q2 + 1 := by rw [b1.1]; exact hr2
      have hbj : w.1 q2 j = u.1 q2 j := b1.2 q2 j hq2 (by omega)
      have hbl : (u.1 q2 j).toInt = (lm u q2 j : Int) := lm_eq (hb.2.2.1 j hj)
      have hBl := lm_lt u q2 j
      have hwl : (w.1 q (i + j)).toInt = (lm w q (i + j) : Int) := lm_eq (b2 (i + j) (by omega))
      have hWl := lm_lt w q (i + j)
      have hm : lm u q1 i * lm u q2 j ≤ 2147483647 * 2147483647 := Nat.mul_le_mul (by omega) (by omega)
      have hm2 : ((u.1 q1 i).toInt64 * (u.1 q2 j).toInt64).toInt = ((lm u q1 i * lm u q2 j : Nat) : Int) := by
        have e : (u.1 q1 i).toInt64.toInt * (u.1 q2 j).toInt64.toInt = ((lm u q1 i * lm u q2 j : Nat) : Int) := by
          rw [n32_to64, n32_to64, hai, hbl]; exact (Int.natCast_mul _ _).symm
        rw [n64_mul (by rw [e]; omega) (by rw [e]; omega), e]
      have hm3 : ((u.1 q1 i).toInt64 * (u.1 q2 j).toInt64 + (w.1 q (i + j)).toInt64).toInt = ((lm u q1 i * lm u q2 j + lm w q (i + j) : Nat) : Int) := by
        have e : ((u.1 q1 i).toInt64 * (u.1 q2 j).toInt64).toInt + (w.1 q (i + j)).toInt64.toInt = ((lm u q1 i * lm u q2 j + lm w q (i + j) : Nat) : Int) := by
          rw [hm2, n32_to64, hwl]; omega
        rw [n64_add (by rw [e]; omega) (by rw [e]; omega), e]
      obtain ⟨T, hT⟩ : ∃ T, T = (u.1 q1 i).toInt64 * (u.1 q2 j).toInt64 + (w.1 q (i + j)).toInt64 + c := ⟨_, rfl⟩
      have hTv : T.toInt = ((lm u q1 i * lm u q2 j + lm w q (i + j) + c.toInt.toNat : Nat) : Int) := by
        have e : ((u.1 q1 i).toInt64 * (u.1 q2 j).toInt64 + (w.1 q (i + j)).toInt64).toInt + c.toInt = ((lm u q1 i * lm u q2 j + lm w q (i + j) + c.toInt.toNat : Nat) : Int) := by
          rw [hm3]; omega
        rw [hT, n64_add (by rw [e]; omega) (by rw [e]; omega), e]
      have hd := n64_dig (t := T)
      have hs := n64_shr (t := T)
      refine ⟨(gw_wi w q (i + j) ((T &&& (2147483647 : Int64)).toInt32), T >>> (((31 : Int32)).toInt64 &&& 63)), ⟨b1.trans Wf.wi, fun k hk => ?_, fun k hk1 hk2 => ?_, ?_, ?_, ?_⟩, ?_⟩
      · simp only [gw_wi]
        split
        · rw [hd]; omega
        · exact b2 k hk
      · rw [lm_set, if_neg (by omega)]
        exact b3 k hk1 hk2
      · dsimp only; rw [hs]; omega
      · dsimp only; rw [hs]; omega
      · dsimp only
        have e1 := wv_set (u := w) (q := q) (k := i + j) (n := na + nb) (x := ((T &&& (2147483647 : Int64)).toInt32)) (by omega)
        have e2 : ((T &&& (2147483647 : Int64)).toInt32).toInt.toNat + (T >>> (((31 : Int32)).toInt64 &&& 63)).toInt.toNat * 2147483648 = lm u q1 i * lm u q2 j + lm w q (i + j) + c.toInt.toNat := by
          rw [hd, hs]; omega
        have e3 : wv u q2 (j + 1) = wv u q2 j + lm u q2 j * 2147483648 ^ j := rfl
        have e4 : 2147483648 ^ (i + (j + 1)) = 2147483648 * 2147483648 ^ (i + j) := by rw [← Nat.add_assoc, Nat.pow_succ, Nat.mul_comm]
        rw [e3, e4, Nat.mul_add, Nat.add_mul, ← Nat.add_assoc, ← b6]
        generalize ((T &&& (2147483647 : Int64)).toInt32).toInt.toNat = d at e1 e2
        generalize (T >>> (((31 : Int32)).toInt64 &&& 63)).toInt.toNat = c' at e2
        have e5 := congrArg (· * 2147483648 ^ (i + j)) e2
        simp only [Nat.add_mul] at e5
        have e6 : lm u q1 i * (lm u q2 j * 2147483648 ^ j) * 2147483648 ^ i = lm u q1 i * lm u q2 j * 2147483648 ^ (i + j) := by
          rw [Nat.pow_add, ← Nat.mul_assoc, Nat.mul_assoc _ (2147483648 ^ j), Nat.mul_comm (2147483648 ^ j)]
        rw [e6, ← Nat.mul_assoc c']
        omega
      · show gf_Whole_setProduct_S48 F z rc _ w p p1 p2 x3 (Int32.ofNat i) ((u.1 q1 i).toInt64) c (Int32.ofNat j) = _
        unfold gf_Whole_setProduct_S48
        rw [hw2, if_neg (fun e => by have := (gi_le (by omega) (by omega)).mp e; omega), hrw2, hrw]
        simp only [gf_nn, gf_nm]
        rw [if_neg (gi_ix (by omega) (by omega)), gi_add, if_neg (gi_ix (by omega) (by omega)), if_neg (gi_ix (by omega) (by omega)), i32_clamp (by omega), i32_clamp (by omega), hbj, ← hT, gw_iS])
    (fun f s hI => by
      obtain ⟨w, c⟩ := s
      obtain ⟨b1, b2, b3, b4, b5, b6⟩ := hI
      dsimp only at b1 b2 b3 b4 b5 b6 ⊢
      have hw2 : w.1 p2 1 = Int32.ofNat nb := (b1.2 p2 1 h2q (by omega)).trans hb.2.1
      have hrw : w.2.2 p 0 = q + 1 := by rw [b1.1]; exact hr
      have hc32 := n64_to32 (x := c) (by omega) (by omega)
      refine ⟨gw_wi w q (i + nb) c.toInt32, ?_, b1.trans Wf.wi, fun k hk => ?_, fun k hk1 hk2 => ?_, ?_⟩
      · show gf_Whole_setProduct_S48 F z rc _ w p p1 p2 x3 (Int32.ofNat i) ((u.1 q1 i).toInt64) c (Int32.ofNat nb) = _
        unfold gf_Whole_setProduct_S48
        rw [hw2, if_pos ((gi_le (by omega) (by omega)).mpr (Nat.le_refl _)), hrw]
        simp only [gf_nn, gf_nm]
        rw [gi_add, if_neg (gi_ix (by omega) (by omega)), i32_clamp (by omega), gw_iS]
      · simp only [gw_wi]
        split
        · rw [hc32]; exact b4
        · exact b2 k hk
      · rw [lm_set, if_neg (by omega)]
        exact b3 k (by omega) hk2
      · have e1 := wv_set (u := w) (q := q) (k := i + nb) (n := na + nb) (x := c.toInt32) (by omega)
        rw [b3 (i + nb) (by omega) (by omega), hc32] at e1
        omega)
  exact main nb 0 (w0, 0) F (by omega) ⟨hw0, hpos, hz, show 0 ≤ (0 : Int64).toInt by decide, show (0 : Int64).toInt < 2147483648 by decide, by
    have e0 : (0 : Int64).toInt.toNat = 0 := rfl
    have e1 : wv u q2 0 = 0 := rfl
    dsimp only
    rw [e0, e1, hS]; simp⟩ (by omega)
theorem gw_product {F : Nat} (hF : 2000 ≤ F) {z : gw_Sh} {p q p1 q1 p2 q2 na nb : Nat} {u : gw_St} {va vb : Int} (hpq : p ≠ q) (h1q : p1 ≠ q) (h2q : p2 ≠ q) (hq1 : q1 ≠ q) (hq2 : q2 ≠ q) (hq1p : q1 ≠ p) (hq2p : q2 ≠ p) (h1p : p1 ≠ p) (h2p : p2 ≠ p) (hr : u.2.2 p 0 = q + 1) (hr1 : u.2.2 p1 0 = q1 + 1) (hr2 : u.2.2 p2 0 = q2 + 1) (ha : Wd u p1 q1 na va) (hb : Wd u p2 q2 nb vb) (hca : na ≤ z.2.2 q1) (hcb : nb ≤ z.2.2 q2) (hc : na + nb ≤ z.2.2 q) (hc2 : z.2.2 q < 1000) :
    ∃ w, gf_Whole_setProduct F z u p p1 p2 = some w ∧ Wf p q u w ∧ Wh w p q (va * vb) := by
  have hna := ha.1
  have hnb := hb.1
  obtain ⟨w0, c1, c2, c3, c4⟩ := gw_fill2 (F := F) (z := z) (q := q) (i := 0) (n := na + nb) (x := 0) (u := u) (by omega) hc (by omega) (by omega)
  have hwf0 : Wf p q u w0 := ⟨c2, fun a k h1 _ => c3 a k (by omega)⟩
  have main := gl_up (σ := gw_St) (N := na) (L := fun f w i => gf_Whole_setProduct_L23 F z f w p p1 p2 (Int32.ofNat (na + nb)) (Int32.ofNat i))
    (I := fun i w => Wf p q u w ∧ (∀ k, k < na + nb → 0 ≤ (w.1 q k).toInt) ∧ (∀ k, i + nb ≤ k → k < na + nb → lm w q k = 0) ∧ wv w q (na + nb) = wv u q1 i * wv u q2 nb)
    (R := fun r => ∃ w, r = some w ∧ Wf p q u w ∧ Wh w p q (va * vb))
    (fun f w i hI hi => by
      obtain ⟨b1, b2, b3, b4⟩ := hI
      obtain ⟨w', d1, d2, d3, d4, d5⟩ := gw_prodI (F := F) hF (z := z) (x3 := Int32.ofNat (na + nb)) (rc := gf_Whole_setProduct_L23 F z f) h1q h2q hq1 hq2 hq1p hq2p h1p h2p hr hr1 hr2 ha hb hcb hc hi b1 b2 b3 b4
      refine ⟨w', ⟨d2, d3, d4, ?_⟩, ?_⟩
      · rw [d5]
        show _ = (wv u q1 i + lm u q1 i * 2147483648 ^ i) * wv u q2 nb
        rw [Nat.add_mul, Nat.mul_right_comm]
      · rw [← d1]
        have hw1 : w.1 p1 1 = Int32.ofNat na := (b1.2 p1 1 h1q (by omega)).trans ha.2.1
        have hrw1 : w.2.2 p1 0 = q1 + 1 := by rw [b1.1]; exact hr1
        have hai : w.1 q1 i = u.1 q1 i := b1.2 q1 i hq1 (by omega)
        show gf_Whole_setProduct_S23 F z _ w p p1 p2 (Int32.ofNat (na + nb)) (Int32.ofNat i) = _
        unfold gf_Whole_setProduct_S23
        rw [hw1, if_neg (fun e => by have := (gi_le (by omega) (by omega)).mp e; omega), hrw1]
        simp only [gf_nn, gf_nm]
        rw [if_neg (gi_ix (by omega) (by omega)), i32_clamp (by omega), hai])
    (fun f w hI => by
      obtain ⟨b1, b2, b3, b4⟩ := hI
      have hw1 : w.1 p1 1 = Int32.ofNat na := (b1.2 p1 1 h1q (by omega)).trans ha.2.1
      have hs1 : w.1 p1 2 = u.1 p1 2 := b1.2 p1 2 h1q (by omega)
      have hs2 : w.1 p2 2 = u.1 p2 2 := b1.2 p2 2 h2q (by omega)
      have hrw : w.2.2 p 0 = q + 1 := by rw [b1.1]; exact hr
      have i1 : (-1 : Int32) * (-1 : Int32) = 1 := by decide
      have i2 : (-1 : Int32) * (1 : Int32) = -1 := by decide
      have i3 : (1 : Int32) * (-1 : Int32) = -1 := by decide
      have i4 : (1 : Int32) * (1 : Int32) = 1 := by decide
      have j1 : (1 : Int32).toInt = 1 := rfl
      have j2 : (-1 : Int32).toInt = -1 := rfl
      have hsg : (u.1 p1 2 * u.1 p2 2 = 1 ∨ u.1 p1 2 * u.1 p2 2 = -1 ∨ wv w q (na + nb) = 0) ∧ (u.1 p1 2 * u.1 p2 2).toInt * (wv w q (na + nb) : Int) = va * vb := by
        rw [b4]
        have hz0 : ∀ q', wv u q' 0 = 0 := fun _ => rfl
        push_cast
        rcases ha.2.2.2.2 with ⟨x1, x2, x3⟩ | ⟨x1, x2, x3⟩ | ⟨x1, x2, x3⟩
        · rw [x1, hz0, x3]
          exact ⟨Or.inr (Or.inr (by simp)), by simp⟩
        · rcases hb.2.2.2.2 with ⟨y1, y2, y3⟩ | ⟨y1, y2, y3⟩ | ⟨y1, y2, y3⟩
          · rw [y1, hz0, y3]
            exact ⟨Or.inr (Or.inr (by simp)), by simp⟩
          · rw [x2, y2, i4, j1, x3, y3]
            exact ⟨Or.inl rfl, by simp⟩
          · rw [x2, y2, i3, j2, x3, y3]
            exact ⟨Or.inr (Or.inl rfl), by simp [Int.mul_neg, Int.neg_mul]⟩
        · rcases hb.2.2.2.2 with ⟨y1, y2, y3⟩ | ⟨y1, y2, y3⟩ | ⟨y1, y2, y3⟩
          · rw [y1, hz0, y3]
            exact ⟨Or.inr (Or.inr (by simp)), by simp⟩
          · rw [x2, y2, i2, j2, x3, y3]
            exact ⟨Or.inr (Or.inl rfl), by simp [Int.neg_mul]⟩
          · rw [x2, y2, i1, j1, x3, y3]
            exact ⟨Or.inl rfl, by rw [Int.one_mul, Int.neg_mul_neg]⟩
      obtain ⟨w', d1, d2, d3, d4⟩ := gw_settle (F := F) hF (z := z) (u := w) (n := na + nb) (s := u.1 p1 2 * u.1 p2 2) hpq hrw hc (by omega) b2 hsg.1
      refine ⟨w', ?_, b1.trans d2, ?_⟩
      · rw [← d1]
        show gf_Whole_setProduct_S23 F z _ w p p1 p2 (Int32.ofNat (na + nb)) (Int32.ofNat na) = _
        unfold gf_Whole_setProduct_S23
        rw [hw1, if_pos ((gi_le (by omega) (by omega)).mpr (Nat.le_refl _)), hs1, hs2]
        exact gb_id _
      · rw [hsg.2] at d4
        exact d4)
  have hb0 : gf_Whole_setProduct F z u p p1 p2 = gf_Whole_setProduct_L23 F z F w0 p p1 p2 (Int32.ofNat (na + nb)) (Int32.ofNat 0) := by
    show gf_Whole_setProduct_b0 F z u p p1 p2 = _
    unfold gf_Whole_setProduct_b0
    rw [ha.2.1, hb.2.1, hr]
    simp only [gf_nn, gf_nm]
    rw [gi_add, show (0 : Int32) = Int32.ofNat 0 from rfl, show gf_Arrays_fill2 F z u q (Int32.ofNat 0) (Int32.ofNat (na + nb)) (Int32.ofNat 0) = some w0 from c1]
    rfl
  rw [hb0]
  refine main na 0 w0 F (by omega) ⟨hwf0, fun k hk => by rw [c4 k (by omega) hk]; decide, fun k _ hk => by unfold lm; rw [c4 k (by omega) hk]; rfl, ?_⟩ (by omega)
  rw [show wv u q1 0 = 0 from rfl, Nat.zero_mul]
  exact bv_zero (fun k hk => by unfold lm; rw [c4 k (by omega) hk]; rfl)
