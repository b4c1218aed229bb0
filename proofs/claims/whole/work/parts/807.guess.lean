/-! Knuth's guess of a digit -/
def kn_step (B d1 d2 u3 : Nat) (s : Nat × Nat) : Nat × Nat := if s.2 < B ∧ (B ≤ s.1 ∨ s.2 * B + u3 < s.1 * d2) then (s.1 - 1, s.2 + d1) else s
theorem kn_step_ok {B d1 d2 u3 hd q : Nat} (hd1 : 0 < d1) (hq : q < B) (h1 : q * (d1 * B + d2) ≤ hd * B + u3) (h2 : hd * B + u3 < (q + 2) * (d1 * B + d2)) (h4 : hd < d1 * B + B) (hd2 : d2 < B) {t o : Nat} (e : t * d1 + o = hd) (ht : q ≤ t) :
    (kn_step B d1 d2 u3 (t, o)).1 * d1 + (kn_step B d1 d2 u3 (t, o)).2 = hd ∧ q ≤ (kn_step B d1 d2 u3 (t, o)).1 ∧ (kn_step B d1 d2 u3 (t, o) = (t - 1, o + d1) ∧ q < t ∨ kn_step B d1 d2 u3 (t, o) = (t, o) ∧ t ≤ q + 1) := by
  have eB : t * (d1 * B + d2) + o * B + u3 = hd * B + u3 + t * d2 := by
    rw [← e, Nat.mul_add, Nat.add_mul, Nat.mul_assoc]; omega
  unfold kn_step
  by_cases c : o < B ∧ (B ≤ t ∨ o * B + u3 < t * d2)
  · rw [if_pos c]
    have hlt : q < t := by
      rcases c.2 with c2 | c2
      · omega
      · apply Nat.lt_of_not_le
        intro hle
        have : t * (d1 * B + d2) ≤ q * (d1 * B + d2) := Nat.mul_le_mul_right _ hle
        omega
    refine ⟨?_, by dsimp only; omega, Or.inl ⟨rfl, hlt⟩⟩
    obtain ⟨t', rfl⟩ : ∃ t', t = t' + 1 := ⟨t - 1, by omega⟩
    dsimp only
    rw [Nat.add_sub_cancel]
    rw [Nat.add_mul] at e
    omega
  · rw [if_neg c]
    refine ⟨e, ht, Or.inr ⟨rfl, ?_⟩⟩
    have hle : t * d2 ≤ o * B + u3 := by
      by_cases co : o < B
      · apply Nat.le_of_not_lt
        intro q
        exact c ⟨co, Or.inr q⟩
      · have htB : t < B := by
          apply Nat.lt_of_not_le
          intro hle
          have : B * d1 ≤ t * d1 := Nat.mul_le_mul_right _ hle
          rw [Nat.mul_comm] at this
          omega
        have m1 : t * d2 ≤ B * B := Nat.mul_le_mul (by omega) (by omega)
        have m2 : B * B ≤ o * B := Nat.mul_le_mul_right _ (by omega)
        omega
    have hlt : t * (d1 * B + d2) < (q + 2) * (d1 * B + d2) := by omega
    have := Nat.lt_of_mul_lt_mul_right hlt
    omega
theorem kn_two {B d1 d2 u3 hd q : Nat} (hd1 : 0 < d1) (hq : q < B) (h1 : q * (d1 * B + d2) ≤ hd * B + u3) (h2 : hd * B + u3 < (q + 2) * (d1 * B + d2)) (h3 : hd / d1 ≤ q + 2) (h3' : q ≤ hd / d1) (h4 : hd < d1 * B + B) (hd2 : d2 < B) : q ≤ (kn_step B d1 d2 u3 (kn_step B d1 d2 u3 (hd / d1, hd % d1))).1 ∧ (kn_step B d1 d2 u3 (kn_step B d1 d2 u3 (hd / d1, hd % d1))).1 ≤ q + 1 := by
  have a := kn_step_ok hd1 hq h1 h2 h4 hd2 (t := hd / d1) (o := hd % d1) (by rw [Nat.mul_comm]; exact Nat.div_add_mod hd d1) h3'
  obtain ⟨a1, a2, a3⟩ := a
  generalize hs : kn_step B d1 d2 u3 (hd / d1, hd % d1) = s at a1 a2 a3
  obtain ⟨t, o⟩ := s
  have b := kn_step_ok hd1 hq h1 h2 h4 hd2 (t := t) (o := o) a1 a2
  obtain ⟨b1, b2, b3⟩ := b
  refine ⟨b2, ?_⟩
  rcases a3 with ⟨x, y⟩ | ⟨x, y⟩
  · have : t = hd / d1 - 1 := congrArg Prod.fst x
    rcases b3 with ⟨p, r⟩ | ⟨p, r⟩
    · rw [p]; dsimp only; omega
    · rw [p]; exact r
  · have : t = hd / d1 := congrArg Prod.fst x
    rcases b3 with ⟨p, r⟩ | ⟨p, r⟩
    · rw [p]; dsimp only; omega
    · rw [p]; exact r
theorem kn_all {B d1 d2 u3 hd P D' U' : Nat} (hB : 0 < B) (hP : 0 < P) (hD' : D' < P) (hU' : U' < P) (hd1 : B ≤ 2 * d1) (hd2 : d2 < B) (hu3 : u3 < B) (hU : U' + P * (u3 + B * hd) < (D' + P * (d2 + B * d1)) * B) :
    (U' + P * (u3 + B * hd)) / (D' + P * (d2 + B * d1)) ≤ (kn_step B d1 d2 u3 (kn_step B d1 d2 u3 (hd / d1, hd % d1))).1 ∧ (kn_step B d1 d2 u3 (kn_step B d1 d2 u3 (hd / d1, hd % d1))).1 ≤ (U' + P * (u3 + B * hd)) / (D' + P * (d2 + B * d1)) + 1 := by
  have hd1' : 0 < d1 := by omega
  generalize hD : D' + P * (d2 + B * d1) = D at *
  generalize hUU : U' + P * (u3 + B * hd) = U at *
  have hBd : B ≤ d1 * B := Nat.le_mul_of_pos_left _ hd1'
  have hDpos : 0 < D := by
    have : 0 < P * (d2 + B * d1) := Nat.mul_pos hP (by have := Nat.mul_pos hB hd1'; omega)
    omega
  have hqB : U / D < B := (Nat.div_lt_iff_lt_mul hDpos).mpr (by rw [Nat.mul_comm]; exact hU)
  have hq1 : U / D * D ≤ U := Nat.div_mul_le_self U D
  have hq2 : U < (U / D + 1) * D := by
    have := Nat.lt_div_mul_add hDpos (a := U)
    rw [Nat.add_mul, Nat.one_mul]; exact this
  generalize U / D = q at *
  have X : d1 * B + d2 = d2 + B * d1 := by rw [Nat.mul_comm, Nat.add_comm]
  have Y : hd * B + u3 = u3 + B * hd := by rw [Nat.mul_comm, Nat.add_comm]
  have h1 : q * (d1 * B + d2) ≤ hd * B + u3 := by
    rw [X, Y]
    apply Nat.le_of_lt_succ
    apply Nat.lt_of_mul_lt_mul_left (a := P)
    have e1 : P * (q * (d2 + B * d1)) ≤ q * D := by
      have e9 : q * (D' + P * (d2 + B * d1)) = q * D' + P * (q * (d2 + B * d1)) := by rw [Nat.mul_add, Nat.mul_left_comm q P]
      rw [← hD]; omega
    have e2 : P * (u3 + B * hd).succ = P * (u3 + B * hd) + P := Nat.mul_succ _ _
    omega
  have h2 : hd * B + u3 < (q + 2) * (d1 * B + d2) := by
    rw [X, Y]
    have hD2 : D < P * (d2 + B * d1 + 1) := by rw [Nat.mul_add]; omega
    have e3 : (q + 1) * D ≤ (q + 1) * (P * (d2 + B * d1 + 1)) := Nat.mul_le_mul_left _ (by omega)
    have e4 : u3 + B * hd < (q + 1) * (d2 + B * d1 + 1) := by
      apply Nat.lt_of_mul_lt_mul_left (a := P)
      rw [Nat.mul_left_comm] at e3
      omega
    have e5 : (q + 1) * (d2 + B * d1 + 1) = (q + 1) * (d2 + B * d1) + (q + 1) := by rw [Nat.mul_add, Nat.mul_one]
    have e6 : (q + 2) * (d2 + B * d1) = (q + 1) * (d2 + B * d1) + (d2 + B * d1) := by rw [show q + 2 = q + 1 + 1 from rfl, Nat.add_mul (q + 1) 1, Nat.one_mul]
    have e7 : B * d1 = d1 * B := Nat.mul_comm _ _
    omega
  have hD3 : D < P * (B * (d1 + 1)) := by
    have : d2 + B * d1 + 1 ≤ B * (d1 + 1) := by rw [Nat.mul_add]; omega
    have m := Nat.mul_le_mul_left P this
    rw [Nat.mul_add P (d2 + B * d1) 1] at m
    omega
  have hhd : P * (B * hd) ≤ U := by rw [← hUU, Nat.mul_add]; omega
  have h3 : hd / d1 ≤ q + 2 := by
    apply Nat.le_of_lt_succ
    rw [Nat.div_lt_iff_lt_mul hd1']
    have e3 : (q + 1) * D ≤ (q + 1) * (P * (B * (d1 + 1))) := Nat.mul_le_mul_left _ (by omega)
    have e4 : hd < (q + 1) * (d1 + 1) := by
      apply Nat.lt_of_mul_lt_mul_left (a := B)
      apply Nat.lt_of_mul_lt_mul_left (a := P)
      rw [Nat.mul_left_comm, Nat.mul_left_comm (q + 1) B] at e3
      omega
    have e5 : (q + 1) * (d1 + 1) = (q + 1) * d1 + (q + 1) := by rw [Nat.mul_add, Nat.mul_one]
    have e6 : (q + 2).succ * d1 = (q + 1) * d1 + 2 * d1 := by rw [← Nat.add_mul]
    omega
  have h3' : q ≤ hd / d1 := by
    rw [Nat.le_div_iff_mul_le hd1']
    apply Nat.le_of_lt_succ
    apply Nat.lt_of_mul_lt_mul_left (a := B)
    have e7 : q * (d1 * B + d2) = B * (q * d1) + q * d2 := by rw [Nat.mul_add, ← Nat.mul_assoc, Nat.mul_comm (q * d1)]
    rw [Nat.mul_succ]
    have : hd * B = B * hd := Nat.mul_comm _ _
    omega
  have h4 : hd < d1 * B + B := by
    apply Nat.lt_of_mul_lt_mul_left (a := B)
    apply Nat.lt_of_mul_lt_mul_left (a := P)
    have : D * B ≤ P * (B * (d1 + 1)) * B := Nat.mul_le_mul_right _ (by omega)
    have e8 : P * (B * (d1 + 1)) * B = P * (B * (d1 * B + B)) := by
      rw [Nat.mul_assoc, Nat.mul_assoc, Nat.add_mul, Nat.one_mul]
    omega
  exact kn_two hd1' hqB h1 h2 h3 h3' h4 hd2
theorem n64_nat32 (T : Nat) : (Int64.ofNat T).toInt32 = Int32.ofNat T := Int64.toInt32_ofNat
theorem gs_guessL {F : Nat} (hF : 2000 ≤ F) {z : gw_Sh} {u : gw_St} {d1 d2 u3 t o : Nat} (hd1 : d1 < 2147483648) (hd2 : d2 < 2147483648) (hu3 : u3 < 2147483648) (ht : t < 4294967296) (ho : o < 2147483648) : gf_Calculator_guessTimes_L81 F z F u (Int64.ofNat d1) (Int64.ofNat d2) (Int64.ofNat u3) (Int64.ofNat t) (Int64.ofNat o) 0 = some (Int64.ofNat (kn_step 2147483648 d1 d2 u3 (kn_step 2147483648 d1 d2 u3 (t, o))).1, u) := by
  have step : ∀ (f i t o : Nat), i < 2 → t < 4294967296 → o < 4294967296 → gf_Calculator_guessTimes_L81 F z (f + 1) u (Int64.ofNat d1) (Int64.ofNat d2) (Int64.ofNat u3) (Int64.ofNat t) (Int64.ofNat o) (Int32.ofNat i) = if 2147483648 ≤ o then some (Int64.ofNat t, u) else gf_Calculator_guessTimes_L81 F z f u (Int64.ofNat d1) (Int64.ofNat d2) (Int64.ofNat u3) (Int64.ofNat (kn_step 2147483648 d1 d2 u3 (t, o)).1) (Int64.ofNat (kn_step 2147483648 d1 d2 u3 (t, o)).2) (Int32.ofNat (i + 1)) := by
    intro f i t o hi ht ho
    have eo : (Int64.ofNat o).toInt = o := i64_nat (by omega)
    have et : (Int64.ofNat t).toInt = t := i64_nat (by omega)
    have e2 : (Int64.ofNat d2).toInt = d2 := i64_nat (by omega)
    have e3 : (Int64.ofNat u3).toInt = u3 := i64_nat (by omega)
    have eM : (2147483647 : Int64).toInt = 2147483647 := rfl
    show gf_Calculator_guessTimes_S81 F z _ u _ _ _ _ _ (Int32.ofNat i) = _
    unfold gf_Calculator_guessTimes_S81 gf_Calculator_guessTimes_b141
    rw [if_neg (fun e : (2 : Int32) ≤ Int32.ofNat i => by have := (gi_le (a := 2) (by omega) (by omega)).mp e; omega)]
    by_cases c : 2147483648 ≤ o
    · rw [if_pos c, if_pos (lgc_pos.mpr (by omega))]
    · rw [if_neg c, if_neg (fun e => by have := lgc_pos.mp e; omega)]
      have hdec : gf_Calculator_guessTimes_b122 F z (gf_Calculator_guessTimes_L81 F z f) u (Int64.ofNat d1) (Int64.ofNat d2) (Int64.ofNat u3) (Int64.ofNat t) (Int64.ofNat o) (Int32.ofNat i) = gf_Calculator_guessTimes_L81 F z f u (Int64.ofNat d1) (Int64.ofNat d2) (Int64.ofNat u3) (Int64.ofNat t - 1) (Int64.ofNat (o + d1)) (Int32.ofNat (i + 1)) := by
        unfold gf_Calculator_guessTimes_b122 gf_Calculator_guessTimes_b135
        simp only [gf_nm]
        rw [gw_iS, Int64.ofNat_add]
      have hsub : 0 < t → Int64.ofNat t - 1 = Int64.ofNat (t - 1) := by
        intro h
        apply i64_ext
        have e1 : (1 : Int64).toInt = 1 := rfl
        rw [n64_sub (by omega) (by omega), et, e1, i64_nat (by omega)]
        omega
      by_cases c2 : 2147483648 ≤ t
      · rw [if_pos (lgc_pos.mpr (by omega)), hdec, hsub (by omega)]
        unfold kn_step
        rw [if_pos ⟨by dsimp only; omega, Or.inl c2⟩]
      · rw [if_neg (fun e => by have := lgc_pos.mp e; omega)]
        have e31 : (2 : Int) ^ 31 = 2147483648 := by decide
        have hsl : (Int64.ofNat o <<< (((31 : Int32)).toInt64 &&& 63)).toInt = (Int64.ofNat o).toInt * 2147483648 := by
          have := n64_shl (a := Int64.ofNat o) (s := 31) (by omega) (by omega) (by rw [e31]; omega)
          rw [e31] at this
          exact this
        have hor : ((Int64.ofNat o <<< (((31 : Int32)).toInt64 &&& 63)) ||| Int64.ofNat u3).toInt = ((o * 2147483648 + u3 : Nat) : Int) := by
          rw [n64_or (k := 31) (c := (o : Int)) (by omega) (by rw [e31]; omega) (by omega) (by rw [hsl, e31, eo]), hsl, eo, e3]
          omega
        have hm : t * d2 ≤ 2147483647 * 2147483647 := Nat.mul_le_mul (by omega) (by omega)
        have hmm : (Int64.ofNat t * Int64.ofNat d2).toInt = ((t * d2 : Nat) : Int) := by
          have e : (Int64.ofNat t).toInt * (Int64.ofNat d2).toInt = ((t * d2 : Nat) : Int) := by rw [et, e2]; exact (Int.natCast_mul _ _).symm
          rw [n64_mul (by rw [e]; omega) (by rw [e]; omega), e]
        by_cases c3 : o * 2147483648 + u3 < t * d2
        · rw [if_neg (fun e => by
            have h0 : ¬ 0 < lg_cmp (Int64.ofNat t * Int64.ofNat d2) ((Int64.ofNat o <<< (((31 : Int32)).toInt64 &&& 63)) ||| Int64.ofNat u3) := fun g => by
              have := i32_lt.mp g
              have := i32_le.mp e
              omega
            exact h0 (lgc_pos.mpr (by omega))), hdec, hsub (by
              apply Nat.pos_of_ne_zero
              intro h; subst h; omega)]
          unfold kn_step
          rw [if_pos ⟨by dsimp only; omega, Or.inr c3⟩]
        · rw [if_pos (i32_le.mpr (by
            apply Int.le_of_not_gt
            intro g
            have := lgc_pos.mp (i32_lt.mpr g)
            omega))]
          unfold gf_Calculator_guessTimes_b135
          simp only [gf_nm]
          rw [gw_iS]
          have : kn_step 2147483648 d1 d2 u3 (t, o) = (t, o) := by
            unfold kn_step
            rw [if_neg]
            rintro ⟨_, h | h⟩
            · exact c2 h
            · exact c3 h
          rw [this]
  have done : ∀ (f t : Nat) (o : Int64), gf_Calculator_guessTimes_L81 F z (f + 1) u (Int64.ofNat d1) (Int64.ofNat d2) (Int64.ofNat u3) (Int64.ofNat t) o (Int32.ofNat 2) = some (Int64.ofNat t, u) := by
    intro f t o
    show gf_Calculator_guessTimes_S81 F z _ u _ _ _ _ _ (Int32.ofNat 2) = _
    unfold gf_Calculator_guessTimes_S81 gf_Calculator_guessTimes_b141
    rw [if_pos (by decide)]
  have knb : ∀ t o, t < 4294967296 → o < 2147483648 → (kn_step 2147483648 d1 d2 u3 (t, o)).1 < 4294967296 ∧ (kn_step 2147483648 d1 d2 u3 (t, o)).2 < 4294967296 := by
    intro t o h1 h2
    unfold kn_step
    split
    · dsimp only; omega
    · dsimp only; omega
  obtain ⟨f, rfl⟩ : ∃ f, F = f + 3 := ⟨F - 3, by omega⟩
  show gf_Calculator_guessTimes_L81 (f + 3) z (f + 3) u (Int64.ofNat d1) (Int64.ofNat d2) (Int64.ofNat u3) (Int64.ofNat t) (Int64.ofNat o) (Int32.ofNat 0) = _
  rw [step (f + 2) 0 t o (by omega) ht (by omega), if_neg (by omega)]
  have hb := knb t o ht ho
  generalize hs : kn_step 2147483648 d1 d2 u3 (t, o) = s at hb
  obtain ⟨t1, o1⟩ := s
  dsimp only at hb ⊢
  rw [step (f + 1) 1 t1 o1 (by omega) hb.1 hb.2]
  by_cases c : 2147483648 ≤ o1
  · rw [if_pos c]
    have : kn_step 2147483648 d1 d2 u3 (t1, o1) = (t1, o1) := by
      unfold kn_step
      rw [if_neg]
      rintro ⟨h, _⟩
      dsimp only at h
      omega
    rw [this]
  · rw [if_neg c, done]
