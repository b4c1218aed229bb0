/-! the reference's list of choices -/
def dg (N v k : Nat) : Nat := v / N ^ k % N
/-- the code of the digits of v -/
def lc (lo N v n : Nat) : Nat := bv 128 (fun k => lo + dg N v k) n
def lp (lo N v : Nat) (n : Nat) : Nat := nprod (fun k => lo + dg N v k) n
/-- the digits do not rise -/
def ris (N v n : Nat) : Prop := ∀ k, k + 1 < n → dg N v (k + 1) ≤ dg N v k
theorem dg_lt {N v k : Nat} (hN : 0 < N) : dg N v k < N := Nat.mod_lt _ hN
theorem dg_val {N v : Nat} : ∀ n, v % N ^ n = bv N (dg N v) n := by
  intro n
  induction n with
  | zero => rw [Nat.pow_zero, Nat.mod_one]; rfl
  | succ n ih =>
    rw [Nat.pow_succ, Nat.mod_mul, ih]
    show _ = bv N (dg N v) n + dg N v n * N ^ n
    rw [Nat.mul_comm]
    rfl
theorem dg_inj {N v v' n : Nat} (hv : v < N ^ n) (hv' : v' < N ^ n) (h : ∀ k, k < n → dg N v k = dg N v' k) : v = v' := by
  have h1 := dg_val (N := N) (v := v) n
  have h2 := dg_val (N := N) (v := v') n
  rw [Nat.mod_eq_of_lt hv] at h1
  rw [Nat.mod_eq_of_lt hv'] at h2
  rw [h1, h2]
  exact bv_congr h
theorem nprod_front {f : Nat → Nat} : ∀ n, nprod f (n + 1) = f 0 * nprod (fun s => f (s + 1)) n := by
  intro n
  induction n with
  | zero => show 1 * f 0 = f 0 * 1; omega
  | succ n ih =>
    show nprod f (n + 1) * f (n + 1) = f 0 * (nprod (fun s => f (s + 1)) n * f (n + 1))
    rw [ih, Nat.mul_assoc]
theorem nprod_rev {f : Nat → Nat} : ∀ n, nprod (fun s => f (n - 1 - s)) n = nprod f n := by
  intro n
  induction n with
  | zero => rfl
  | succ n ih =>
    rw [nprod_front]
    show f (n + 1 - 1 - 0) * nprod (fun s => f (n + 1 - 1 - (s + 1))) n = nprod f n * f n
    rw [show n + 1 - 1 - 0 = n by omega, nprod_congr (g := fun s => f (n - 1 - s)) (fun s hs => by rw [show n + 1 - 1 - (s + 1) = n - 1 - s by omega]), ih, Nat.mul_comm]
theorem lc_wl {S lo hi v s : Nat} (hp : TaP S lo hi) (hs : s < S) : wl S (lc lo (hi - lo + 1) v S) s = lo + dg (hi - lo + 1) v (S - 1 - s) := by
  unfold wl lc
  refine bv_dig (f := fun k => lo + dg (hi - lo + 1) v k) (by decide) (fun k hk => ?_) (by omega)
  have := dg_lt (N := hi - lo + 1) (v := v) (k := k) (by omega)
  unfold TaP at hp
  omega
theorem lc_isC {S lo hi v : Nat} (hp : TaP S lo hi) (h : ris (hi - lo + 1) v S) : isC S lo hi (lc lo (hi - lo + 1) v S) ∧ pP S (lc lo (hi - lo + 1) v S) = lp lo (hi - lo + 1) v S := by
  have hdl : ∀ k, dg (hi - lo + 1) v k < hi - lo + 1 := fun k => dg_lt (by omega)
  have hp' := hp
  unfold TaP at hp'
  have hlt : lc lo (hi - lo + 1) v S < 128 ^ S := bv_lt (fun k hk => by have := hdl k; omega)
  refine ⟨⟨wl S (lc lo (hi - lo + 1) v S), ⟨fun s hs => ?_, fun s hs => ?_⟩, cd_wl hlt⟩, ?_⟩
  · rw [lc_wl hp hs]
    have := hdl (S - 1 - s)
    omega
  · rw [lc_wl hp (by omega), lc_wl hp hs]
    have := h (S - 1 - (s + 1)) (by omega)
    rw [show S - 1 - (s + 1) + 1 = S - 1 - s by omega] at this
    omega
  · unfold pP lp
    rw [nprod_congr (g := fun s => (fun k => lo + dg (hi - lo + 1) v k) (S - 1 - s)) (fun s hs => lc_wl hp hs)]
    exact nprod_rev (f := fun k => lo + dg (hi - lo + 1) v k) S
theorem lc_all {S lo hi x : Nat} (hp : TaP S lo hi) (hx : isC S lo hi x) : ∃ v, v < (hi - lo + 1) ^ S ∧ ris (hi - lo + 1) v S ∧ lc lo (hi - lo + 1) v S = x := by
  obtain ⟨c1, c2, c3⟩ := hx.wls hp
  have hp' := hp
  unfold TaP at hp'
  have hb : ∀ k, k < S → wl S x (S - 1 - k) - lo < hi - lo + 1 := fun k hk => by
    have := c1.1 (S - 1 - k) (by omega)
    omega
  have hd : ∀ k, k < S → dg (hi - lo + 1) (bv (hi - lo + 1) (fun k => wl S x (S - 1 - k) - lo) S) k = wl S x (S - 1 - k) - lo := fun k hk => by
    unfold dg
    exact bv_dig (by omega) hb hk
  refine ⟨bv (hi - lo + 1) (fun k => wl S x (S - 1 - k) - lo) S, bv_lt hb, fun k hk => ?_, ?_⟩
  · rw [hd (k + 1) hk, hd k (by omega)]
    have := c1.2 (S - 1 - (k + 1)) (by omega)
    rw [show S - 1 - (k + 1) + 1 = S - 1 - k by omega] at this
    omega
  · generalize hV : bv (hi - lo + 1) (fun k => wl S x (S - 1 - k) - lo) S = V at hd
    have hl : lc lo (hi - lo + 1) V S < 128 ^ S := bv_lt (fun k hk => by rw [hd k hk]; have := hb k hk; omega)
    have h1 := cd_wl hl
    rw [← h1]
    refine Eq.trans (cd_congr (fun s hs => ?_)) c3
    rw [lc_wl hp hs, hd (S - 1 - s) (by omega), show S - 1 - (S - 1 - s) = s by omega]
    have := c1.1 s hs
    omega
theorem lc_inj {S lo hi v v' : Nat} (hp : TaP S lo hi) (hv : v < (hi - lo + 1) ^ S) (hv' : v' < (hi - lo + 1) ^ S) (h : lc lo (hi - lo + 1) v S = lc lo (hi - lo + 1) v' S) : v = v' := by
  refine dg_inj hv hv' (fun k hk => ?_)
  have h1 := lc_wl (v := v) hp (s := S - 1 - k) (by omega)
  have h2 := lc_wl (v := v') hp (s := S - 1 - k) (by omega)
  rw [h, h2, show S - 1 - (S - 1 - k) = k by omega] at h1
  omega
/-- no more choices than the class counts -/
theorem few {S lo hi T m : Nat} {c e : Nat → Nat} (hcov : ∀ x, isC S lo hi x → ∃ j, j < T ∧ c j = x) (he : ∀ j, j < m → isC S lo hi (e j)) (hinj : ∀ i j, i < m → j < m → e i = e j → i = j) : m ≤ T := by
  have : ∀ j, ∃ i, j < m → i < T ∧ c i = e j := fun j => by
    by_cases q : j < m
    · obtain ⟨i, h1, h2⟩ := hcov (e j) (he j q)
      exact ⟨i, fun _ => ⟨h1, h2⟩⟩
    · exact ⟨0, fun h => absurd h q⟩
  obtain ⟨t, ht⟩ := Classical.axiomOfChoice this
  refine inj_le (t := t) (fun l hl => (ht l hl).1) (fun l j hl hj e' => ?_)
  refine hinj l j hl hj ?_
  rw [← (ht l hl).2, ← (ht j hj).2, e']
/-- the key of a choice -/
def kk (S x : Nat) : Nat := (pP S x * 1024 + tT S x) * 268435456 + x
theorem kk_at {S lo hi x : Nat} (hp : TaP S lo hi) (h : isC S lo hi x) : kp (kk S x) = pP S x ∧ kt (kk S x) = tT S x ∧ kc (kk S x) = x := by
  obtain ⟨-, h2, -⟩ := h.wls hp
  have h3 := tT_le (S := S) (v := x) hp.2.1
  unfold kp kt kc kk
  omega
theorem gi_div {a b : Nat} (ha : a < 2147483648) (hb : 0 < b) (hb2 : b < 2147483648) : Int32.ofNat a / Int32.ofNat b = Int32.ofNat (a / b) := by
  refine i32_ext ?_
  have : a / b ≤ a := Nat.div_le_self _ _
  rw [n32_div (by rw [i32_nat ha]; omega) (by rw [i32_nat hb2]; omega), i32_nat ha, i32_nat hb2, i32_nat (by omega), Int.natCast_ediv]
theorem gi_rem {a b : Nat} (ha : a < 2147483648) (hb : 0 < b) (hb2 : b < 2147483648) : Int32.ofNat a - Int32.ofNat a / Int32.ofNat b * Int32.ofNat b = Int32.ofNat (a % b) := by
  refine i32_ext ?_
  have := Nat.mod_lt a hb
  rw [n32_rem (by rw [i32_nat ha]; omega) (by rw [i32_nat hb2]; omega), i32_nat ha, i32_nat hb2, i32_nat (by omega), Int.natCast_emod]
theorem gi_shs {s : Nat} (hs : s < 32) : (Int32.ofNat s &&& 31).toBitVec.smod 32 = BitVec.ofNat 32 s := by
  revert s
  decide +kernel
theorem gi_shl {a s : Nat} (hs : s < 32) : Int32.ofNat a <<< (Int32.ofNat s &&& 31) = Int32.ofNat (a * 2 ^ s) := by
  apply Int32.toBitVec_inj.mp
  rw [Int32.toBitVec_shiftLeft, gi_shs hs, BitVec.shiftLeft_eq']
  apply BitVec.eq_of_toNat_eq
  rw [BitVec.toNat_shiftLeft, BitVec.toNat_ofNat, Nat.mod_eq_of_lt (show s < 2 ^ 32 by omega), Nat.shiftLeft_eq]
  show (BitVec.ofNat 32 a).toNat * 2 ^ s % 2 ^ 32 = (BitVec.ofNat 32 (a * 2 ^ s)).toNat
  rw [BitVec.toNat_ofNat, BitVec.toNat_ofNat, Nat.mod_mul_mod]
theorem gi_shr {a s : Nat} (hs : s < 32) (ha : a < 2147483648) : Int32.ofNat a >>> (Int32.ofNat s &&& 31) = Int32.ofNat (a / 2 ^ s) := by
  have : a / 2 ^ s ≤ a := Nat.div_le_self _ _
  refine i32_ext ?_
  rw [i32_nat (by omega)]
  show (Int32.ofNat a >>> (Int32.ofNat s &&& 31)).toBitVec.toInt = _
  rw [Int32.toBitVec_shiftRight, gi_shs hs, BitVec.sshiftRight_eq', BitVec.toInt_sshiftRight, BitVec.toNat_ofNat, Nat.mod_eq_of_lt (show s < 2 ^ 32 by omega), Int.shiftRight_eq_div_pow]
  show (Int32.ofNat a).toInt / _ = _
  rw [i32_nat ha, Int.natCast_ediv]
