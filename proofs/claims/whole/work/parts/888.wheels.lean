theorem i64_shl {a s : Nat} (hs : s < 64) (h : a * 2 ^ s < 9223372036854775808) : Int64.ofNat a <<< ((Int32.ofNat s).toInt64 &&& 63) = Int64.ofNat (a * 2 ^ s) := by
  have ha : a < 9223372036854775808 := Nat.lt_of_le_of_lt (Nat.le_mul_of_pos_right a (Nat.pow_pos (by decide))) h
  have e : (Int64.ofNat a).toInt * 2 ^ s = ((a * 2 ^ s : Nat) : Int) := by rw [i64_nat ha, Int.natCast_mul, Int.natCast_pow]; rfl
  refine i64_of ?_ h
  rw [n64_shl hs (by rw [i64_nat ha]; omega) (by rw [e]; omega), e]
theorem i64_shr {a s : Nat} (hs : s < 64) (ha : a < 9223372036854775808) : Int64.ofNat a >>> ((Int32.ofNat s).toInt64 &&& 63) = Int64.ofNat (a / 2 ^ s) := by
  refine i64_of ?_ (Nat.lt_of_le_of_lt (Nat.div_le_self _ _) ha)
  rw [n64_shrv hs, i64_nat ha, Int.natCast_ediv, Int.natCast_pow]
  rfl
theorem i64_or {a b k : Nat} (hk : b < 2 ^ k) (h : a * 2 ^ k + b < 9223372036854775808) : Int64.ofNat (a * 2 ^ k) ||| Int64.ofNat b = Int64.ofNat (a * 2 ^ k + b) := by
  have ha : (Int64.ofNat (a * 2 ^ k)).toInt = (a : Int) * 2 ^ k := by rw [i64_nat (by omega), Int.natCast_mul, Int.natCast_pow]; rfl
  have hb : (Int64.ofNat b).toInt = (b : Int) := i64_nat (by omega)
  refine i64_of ?_ h
  rw [n64_or (k := k) (c := (a : Int)) (by rw [hb]; omega) (by rw [hb]; exact_mod_cast hk) (by omega) ha, i64_nat (by omega), hb]
  omega
theorem i32_and {a k : Nat} : Int32.ofNat a &&& Int32.ofNat (2 ^ k - 1) = Int32.ofNat (a % 2 ^ k) := by
  apply Int32.toBitVec_inj.mp
  rw [Int32.toBitVec_and]
  show BitVec.ofNat 32 a &&& BitVec.ofNat 32 (2 ^ k - 1) = BitVec.ofNat 32 (a % 2 ^ k)
  rw [← BitVec.ofNat_and, Nat.and_two_pow_sub_one_eq_mod]
theorem p128 (k : Nat) : 128 ^ k = 2 ^ (7 * k) := by
  rw [Nat.pow_mul]
/-- how many wheels, from which number to which -/
def TaP (S lo hi : Nat) : Prop := 1 ≤ S ∧ S ≤ 4 ∧ 8 ≤ lo ∧ lo ≤ hi ∧ hi ≤ 120 ∧ (S = 3 → hi - lo + 1 ≤ 60) ∧ (S = 4 → hi - lo + 1 ≤ 20)
def tT (S v : Nat) : Nat := nsum (wl S v) S
def pP (S v : Nat) : Nat := nprod (wl S v) S
theorem tr_product {F : Nat} {u : gw_St} {v : Nat} (hv : v < 2 ^ 56) : gf_Trains_product F gv_z u (Int64.ofNat v) = some (Int64.ofNat (v / 268435456), u) := by
  show some (Int64.ofNat v >>> (((28 : Int32)).toInt64 &&& 63), u) = _
  rw [show (28 : Int32) = Int32.ofNat 28 from rfl, i64_shr (by omega) (by omega)]
theorem tr_digit {F : Nat} {u : gw_St} {v s : Nat} (hs : s < 64) (hv : v < 2 ^ 56) : gf_Trains_digit F gv_z u (Int64.ofNat v) (Int32.ofNat s) = some (Int32.ofNat (v / 2 ^ s % 2048), u) := by
  show some ((((Int64.ofNat v >>> ((Int32.ofNat s).toInt64 &&& 63))).toInt32) &&& (2047 : Int32), u) = _
  rw [i64_shr hs (by omega), n64_nat32, show (2047 : Int32) = Int32.ofNat (2 ^ 11 - 1) from rfl, i32_and]
theorem gi_m7 {S s : Nat} (hs : s < S) (hS : S ≤ 4) : (7 : Int32) * ((Int32.ofNat S - (1 : Int32)) - Int32.ofNat s) = Int32.ofNat (7 * (S - 1 - s)) := by
  rw [show (1 : Int32) = Int32.ofNat 1 from rfl, gi_sub (by omega) (by omega), gi_sub (by omega) (by omega), show (7 : Int32) = Int32.ofNat 7 from rfl, gi_mul]
theorem tr_wheel {F : Nat} {u : gw_St} {v S s : Nat} (h6 : u.1 1 6 = Int32.ofNat S) (hS : S ≤ 4) (hs : s < S) (hv : v < 2 ^ 56) : gf_Trains_wheel F gv_z u 1 (Int64.ofNat v) (Int32.ofNat s) = some (Int32.ofNat (wl S v s), u) := by
  show some ((((Int64.ofNat v >>> ((((7 : Int32) * (((u.1 1 6) - (1 : Int32)) - Int32.ofNat s))).toInt64 &&& 63))).toInt32) &&& (127 : Int32), u) = _
  rw [h6, gi_m7 hs hS, i64_shr (by omega) (by omega), n64_nat32, show (127 : Int32) = Int32.ofNat (2 ^ 7 - 1) from rfl, i32_and]
  unfold wl
  rw [p128]
theorem nsum_le {f : Nat → Nat} {n b : Nat} (h : ∀ s, s < n → f s ≤ b) : nsum f n ≤ n * b := by
  induction n with
  | zero => exact Nat.zero_le _
  | succ n ih =>
    have h1 := ih (fun s hs => h s (by omega))
    have h2 := h n (by omega)
    show nsum f n + f n ≤ (n + 1) * b
    rw [Nat.succ_mul]
    omega
theorem tT_le {S v : Nat} (hS : S ≤ 4) : tT S v ≤ 508 := by
  have := nsum_le (f := wl S v) (n := S) (b := 127) (fun s _ => by have := wl_lt (n := S) (c := v) (s := s); omega)
  unfold tT
  omega
theorem tr_teeth {F : Nat} (hF : 2000 ≤ F) {u : gw_St} {v S : Nat} (h6 : u.1 1 6 = Int32.ofNat S) (hS : S ≤ 4) (hv : v < 2 ^ 56) : gf_Trains_teeth F gv_z u 1 (Int64.ofNat v) = some (Int32.ofNat (tT S v), u) := by
  have main := gl_up (σ := Unit) (N := S) (L := fun f _ s => gf_Trains_teeth_L5 F gv_z f u 1 (Int64.ofNat v) (Int32.ofNat (nsum (wl S v) s)) (Int32.ofNat s)) (I := fun _ _ => True) (R := fun x => x = some (Int32.ofNat (tT S v), u))
    (fun f w s _ hs => ⟨(), trivial, by
      show gf_Trains_teeth_S5 F gv_z _ u 1 (Int64.ofNat v) (Int32.ofNat (nsum (wl S v) s)) (Int32.ofNat s) = _
      unfold gf_Trains_teeth_S5
      rw [h6, if_neg (fun e => by have := (gi_le (by omega) (by omega)).mp e; omega), tr_wheel h6 hS hs hv]
      simp only [gf_cl, gf_nm]
      rw [gw_iS, gi_add]
      rfl⟩)
    (fun f w _ => by
      show gf_Trains_teeth_S5 F gv_z _ u 1 (Int64.ofNat v) (Int32.ofNat (nsum (wl S v) S)) (Int32.ofNat S) = _
      unfold gf_Trains_teeth_S5
      rw [h6, if_pos ((gi_le (by omega) (by omega)).mpr (Nat.le_refl _))]
      rfl)
  exact main S 0 () F (by omega) trivial (by omega)
theorem wl_big {S P c s : Nat} (hS : S ≤ 4) (hs : s < S) : wl S (P * 268435456 + c) s = wl S c s := by
  unfold wl
  have : S - 1 - s = 0 ∨ S - 1 - s = 1 ∨ S - 1 - s = 2 ∨ S - 1 - s = 3 := by omega
  rcases this with e | e | e | e <;> rw [e]
  · rw [show 128 ^ 0 = 1 from rfl]; omega
  · rw [show 128 ^ 1 = 128 from rfl]; omega
  · rw [show 128 ^ 2 = 16384 from rfl]; omega
  · rw [show 128 ^ 3 = 2097152 from rfl]; omega
theorem tT_big {S P c : Nat} (hS : S ≤ 4) : tT S (P * 268435456 + c) = tT S c := nsum_congr (fun s hs => wl_big hS hs)
theorem nprod_le {f : Nat → Nat} {n b : Nat} (h : ∀ s, s < n → f s ≤ b) : nprod f n ≤ b ^ n := by
  induction n with
  | zero => exact Nat.le_refl _
  | succ n ih =>
    have h1 := ih (fun s hs => h s (by omega))
    have h2 := h n (by omega)
    show nprod f n * f n ≤ b ^ (n + 1)
    rw [Nat.pow_succ]
    exact Nat.mul_le_mul h1 h2
theorem nprod_pos {f : Nat → Nat} {n : Nat} (h : ∀ s, s < n → 0 < f s) : 0 < nprod f n := by
  induction n with
  | zero => exact Nat.one_pos
  | succ n ih => exact Nat.mul_pos (ih (fun s hs => h s (by omega))) (h n (by omega))
/-- a code that is a choice's -/
def isC (S lo hi c : Nat) : Prop := ∃ w, Cc S lo hi w ∧ cd w S = c
theorem isC.wls {S lo hi c : Nat} (hp : TaP S lo hi) (h : isC S lo hi c) : Cc S lo hi (wl S c) ∧ c < 2 ^ 28 ∧ cd (wl S c) S = c := by
  obtain ⟨w, h1, h2⟩ := h
  have b : ∀ s, s < S → w s < 128 := fun s hs => by have := (h1.1 s hs).2; unfold TaP at hp; omega
  have e : ∀ s, s < S → wl S c s = w s := fun s hs => by rw [← h2]; exact wl_cd b s hs
  have hc := cd_le_pow b
  have hS : S ≤ 4 := hp.2.1
  have hp4 : 128 ^ S ≤ 128 ^ 4 := Nat.pow_le_pow_right (by decide) hS
  have e4 : 128 ^ 4 = 2 ^ 28 := by decide
  refine ⟨⟨fun s hs => by rw [e s hs]; exact h1.1 s hs, fun s hs => by rw [e s (by omega), e (s + 1) hs]; exact h1.2 s hs⟩, by rw [← h2]; omega, by rw [cd_congr e, h2]⟩
theorem isC.prd {S lo hi c : Nat} (hp : TaP S lo hi) (h : isC S lo hi c) : 0 < pP S c ∧ pP S c ≤ 207360000 := by
  obtain ⟨h1, -, -⟩ := h.wls hp
  have hS : S ≤ 4 := hp.2.1
  refine ⟨nprod_pos (fun s hs => by have := (h1.1 s hs).1; unfold TaP at hp; omega), ?_⟩
  have := nprod_le (f := wl S c) (n := S) (b := 120) (fun s hs => by have := (h1.1 s hs).2; unfold TaP at hp; omega)
  have h4 : 120 ^ S ≤ 120 ^ 4 := Nat.pow_le_pow_right (by decide) hS
  have e4 : 120 ^ 4 = 207360000 := by decide
  unfold pP
  omega
