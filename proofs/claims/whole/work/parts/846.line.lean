/-! the reference's elimination modulo p -/
theorem gv_r670_39 : gv_u.2.2 670 39 = 693 := by decide +kernel
theorem gv_r670_40 : gv_u.2.2 670 40 = 694 := by decide +kernel
theorem gv_r670_42 : gv_u.2.2 670 42 = 695 := by decide +kernel
theorem gv_l692 : gv_z.2.2 692 = 7381 := by decide +kernel
theorem gv_l693 : gv_z.2.2 693 = 121 := by decide +kernel
theorem gv_l694 : gv_z.2.2 694 = 61 := by decide +kernel
/-- nothing is changed but longs of the places of S -/
def Lf (S : Nat → Prop) (u w : gw_St) : Prop := w.1 = u.1 ∧ w.2.2 = u.2.2 ∧ ∀ p, ¬ S p → ∀ k, w.2.1 p k = u.2.1 p k
theorem Lf.refl {S : Nat → Prop} {u : gw_St} : Lf S u u := ⟨rfl, rfl, fun _ _ _ => rfl⟩
theorem Lf.trans {S : Nat → Prop} {u v w : gw_St} (h : Lf S u v) (g : Lf S v w) : Lf S u w := ⟨g.1.trans h.1, g.2.1.trans h.2.1, fun p hp k => (g.2.2 p hp k).trans (h.2.2 p hp k)⟩
theorem Lf.mono {S T : Nat → Prop} {u w : gw_St} (h : Lf S u w) (hs : ∀ a, S a → T a) : Lf T u w := ⟨h.1, h.2.1, fun p hp k => h.2.2 p (fun q => hp (hs p q)) k⟩
theorem Lf.wl {u : gw_St} {p k : Nat} {x : Int64} : Lf (fun a => a = p) u (gw_wl u p k x) := ⟨rfl, rfl, fun a ha j => by simp only [gw_wl]; rw [if_neg (fun e => ha e.1)]⟩
theorem gv_Rf.lf {S : Nat → Prop} {u w : gw_St} (h : gv_Rf u) (f : Lf S u w) : gv_Rf w := h.eq f.2.1
/-- the line holds L, modulo p -/
def Ln (u : gw_St) (p : Nat) (L : Nat → Nat) : Prop := ∀ c, c < 61 → u.2.1 694 c = Int64.ofNat (L c) ∧ L c < p
theorem gm_clear {F : Nat} (hF : 2000 ≤ F) {u : gw_St} (hr : gv_Rf u) : ∃ w, gf_Model_clearLine F gv_z u 670 = some w ∧ Lf (fun a => a = 694) u w ∧ ∀ c, c < 61 → w.2.1 694 c = Int64.ofNat 0 := by
  have main := gl_up (σ := gw_St) (N := 61) (L := fun f w k => gf_Model_clearLine_L2 F gv_z f w 670 (Int32.ofNat k)) (I := fun k w => Lf (fun a => a = 694) u w ∧ ∀ c, c < k → w.2.1 694 c = Int64.ofNat 0) (R := fun r => ∃ w, r = some w ∧ Lf (fun a => a = 694) u w ∧ ∀ c, c < 61 → w.2.1 694 c = Int64.ofNat 0)
    (fun f w k hI hk => by
      obtain ⟨b1, b2⟩ := hI
      have hrw := hr.lf b1
      refine ⟨gw_wl w 694 k 0, ⟨b1.trans Lf.wl, fun c hc => ?_⟩, ?_⟩
      · simp only [gw_wl, true_and]
        by_cases e : c = k
        · rw [if_pos e]; rfl
        · rw [if_neg e]; exact b2 c (by omega)
      · show gf_Model_clearLine_S2 F gv_z _ w 670 (Int32.ofNat k) = _
        unfold gf_Model_clearLine_S2
        rw [if_neg (fun e : (60 : Int32) < Int32.ofNat k => by have := (gi_lt (a := 60) (by omega) (by omega)).mp e; omega), hrw.get rfl gv_r670_42, gnn, if_neg (gi_ix (by rw [gv_l694]; omega) (by omega)), i32_clamp (by omega)]
        simp only [gf_nm]
        rw [gw_iS])
    (fun f w hI => ⟨w, by
      show gf_Model_clearLine_S2 F gv_z _ w 670 (Int32.ofNat 61) = _
      unfold gf_Model_clearLine_S2
      rw [if_pos (by decide)], hI.1, hI.2⟩)
  exact main 61 0 u F (by omega) ⟨Lf.refl, fun c hc => absurd hc (Nat.not_lt_zero c)⟩ (by omega)
/-- Java's rest of a number above -p, made positive -/
theorem n64_pm {x : Int64} {p : Nat} (hp : 0 < p) (hp2 : p < 2147483648) (h1 : -(p : Int) < x.toInt) (h2 : x.toInt < 4611686018427387904) : (x - x / Int64.ofNat p * Int64.ofNat p + Int64.ofNat p) - (x - x / Int64.ofNat p * Int64.ofNat p + Int64.ofNat p) / Int64.ofNat p * Int64.ofNat p = Int64.ofNat (x.toInt % (p : Int)).toNat := by
  have ep : (Int64.ofNat p).toInt = (p : Int) := i64_nat (by omega)
  have hm0 := Int.emod_nonneg x.toInt (show (p : Int) ≠ 0 by omega)
  have hm1 := Int.emod_lt_of_pos x.toInt (show (0 : Int) < p by omega)
  rcases Int.lt_or_le x.toInt 0 with hx | hx
  · -- between -p and 0
    have hdiv : x / Int64.ofNat p = 0 := by
      apply i64_ext
      rw [Int64.toInt_div, ep]
      have : x.toInt.tdiv (p : Int) = 0 := by
        have e : x.toInt = -((-x.toInt).toNat : Int) := by omega
        rw [e, Int.neg_tdiv]
        have : (((-x.toInt).toNat : Nat) : Int).tdiv (p : Int) = (((-x.toInt).toNat / p : Nat) : Int) := rfl
        rw [this, Nat.div_eq_of_lt (by omega)]
        rfl
      rw [this]
      rfl
    have h3 : x - x / Int64.ofNat p * Int64.ofNat p + Int64.ofNat p = Int64.ofNat (x.toInt + p).toNat := by
      rw [hdiv]
      apply i64_of
      · have e0 : x - 0 * Int64.ofNat p = x := by
          apply i64_ext
          have z : (0 * Int64.ofNat p).toInt = 0 := by
            have e1 : (0 : Int64).toInt = 0 := rfl
            rw [n64_mul (by rw [e1]; omega) (by rw [e1]; omega), e1, Int.zero_mul]
          rw [n64_sub (by rw [z]; omega) (by rw [z]; omega), z]
          omega
        rw [e0, n64_add (by omega) (by omega), ep]
        omega
      · omega
    rw [h3, i64_rem (by omega) hp (by omega)]
    congr 1
    have e : x.toInt % (p : Int) = x.toInt + p := by
      rw [← Int.add_mul_emod_self_right x.toInt 1 (p : Int), Int.one_mul]
      exact Int.emod_eq_of_lt (by omega) (by omega)
    rw [e, Nat.mod_eq_of_lt (by omega)]
  · obtain ⟨m, hm⟩ : ∃ m : Nat, x = Int64.ofNat m ∧ m < 4611686018427387904 := ⟨x.toInt.toNat, i64_of (by omega) (by omega), by omega⟩
    obtain ⟨rfl, hml⟩ := hm
    have em : (Int64.ofNat m).toInt = (m : Int) := i64_nat (by omega)
    rw [i64_rem (by omega) hp (by omega), i64_add, i64_rem (by have := Nat.mod_lt m hp; omega) hp (by omega), em]
    congr 1
    rw [Nat.add_mod_right, Nat.mod_mod, ← Int.natCast_emod]
    rfl
theorem gm_put {F : Nat} {u : gw_St} {p g x : Nat} {y : Int64} (hr : gv_Rf u) (hp : 0 < p) (hp2 : p < 2147483648) (hg : g < 61) (hx : u.2.1 694 g = Int64.ofNat x) (hxp : x < p) (h1 : -(p : Int) < y.toInt) (h2 : y.toInt < 1000000) : gf_Model_put F gv_z u 670 (Int32.ofNat g) y (Int64.ofNat p) = some (gw_wl u 694 g (Int64.ofNat (((x : Int) + y.toInt) % (p : Int)).toNat)) := by
  show gf_Model_put_b0 F gv_z u 670 (Int32.ofNat g) y (Int64.ofNat p) = _
  unfold gf_Model_put_b0
  have ex : (Int64.ofNat x).toInt = (x : Int) := i64_nat (by omega)
  have es : (Int64.ofNat x + y).toInt = (x : Int) + y.toInt := by rw [n64_add (by omega) (by omega), ex]
  rw [hr.get rfl gv_r670_42, gnn, gnn, if_neg (gi_ix (by rw [gv_l694]; omega) (by omega)), if_neg (i64_ne0 hp (by omega)), if_neg (i64_ne0 hp (by omega)), if_neg (gi_ix (by rw [gv_l694]; omega) (by omega)), i32_clamp (by omega), hx]
  simp only [gf_nm]
  rw [n64_pm hp hp2 (by omega) (by omega), es]
