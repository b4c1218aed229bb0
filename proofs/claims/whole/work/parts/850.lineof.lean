/-! the relations as vectors -/
def gk (u : gw_St) (j : Nat) : Nat := (u.1 8 (4 * j)).toNatClampNeg
def gA (u : gw_St) (j : Nat) : Nat := (u.1 8 (4 * j + 1)).toNatClampNeg
def gB (u : gw_St) (j : Nat) : Nat := (u.1 8 (4 * j + 2)).toNatClampNeg
def gC (u : gw_St) (j : Nat) : Nat := (u.1 8 (4 * j + 3)).toNatClampNeg
def gt (u : gw_St) (g : Nat) : Int := (u.1 7 g).toInt
def at1 (g : Nat) (x : Int) (c : Nat) : Int := if c = g then x else 0
def rv (u : gw_St) (j c : Nat) : Int :=
  if gk u j = 2 then at1 (gA u j) 1 c + at1 (gB u j) (-1) c
  else if gk u j = 3 then at1 (gA u j) (gt u (gA u j)) c + at1 (gB u j) (gt u (gB u j)) c + at1 (gC u j) (- gt u (gA u j) - gt u (gB u j)) c
  else at1 (gA u j) (gt u (gA u j)) c + at1 (gB u j) (if gk u j = 0 then gt u (gB u j) else - gt u (gB u j)) c
theorem wk_rel {u : gw_St} {n r j : Nat} (hw : gv_Wk u n r) (hj : j < r) : (u.1 675 j = Int32.ofNat (gk u j) ∧ u.1 8 (4 * j) = Int32.ofNat (gk u j) ∧ gk u j ≤ 3) ∧ (u.1 676 j = Int32.ofNat (gA u j) ∧ u.1 8 (4 * j + 1) = Int32.ofNat (gA u j) ∧ gA u j < n) ∧ (u.1 677 j = Int32.ofNat (gB u j) ∧ u.1 8 (4 * j + 2) = Int32.ofNat (gB u j) ∧ gB u j < n) ∧ gA u j ≠ gB u j ∧ (gk u j = 3 → u.1 678 j = Int32.ofNat (gC u j) ∧ u.1 8 (4 * j + 3) = Int32.ofNat (gC u j) ∧ gC u j < n ∧ gA u j ≠ gC u j ∧ gB u j ≠ gC u j) := by
  obtain ⟨a1, a2, a3, a4, a5, a6, a7, a8, a9⟩ := hw
  obtain ⟨b1, b2, b3, b4, b5, b6, b7, b8, b9, b10, b11, b12, b13, b14⟩ := a8 j hj
  have k1 := i32_of b5
  have k2 := i32_of b7
  have k3 := i32_of b9
  have e1 := n32_hi (u.1 8 (4 * j))
  have hk : gk u j ≤ 3 := by
    have := i32_nat (n := gk u j) (by unfold gk; rw [Int32.toNatClampNeg]; omega)
    rw [show Int32.ofNat (gk u j) = u.1 8 (4 * j) from k1.symm] at this
    omega
  have hA : gA u j < n := by
    have := i32_nat (n := gA u j) (by unfold gA; rw [Int32.toNatClampNeg]; omega)
    rw [show Int32.ofNat (gA u j) = u.1 8 (4 * j + 1) from k2.symm] at this
    omega
  have hB : gB u j < n := by
    have := i32_nat (n := gB u j) (by unfold gB; rw [Int32.toNatClampNeg]; omega)
    rw [show Int32.ofNat (gB u j) = u.1 8 (4 * j + 2) from k3.symm] at this
    omega
  refine ⟨⟨b1.trans k1, k1, hk⟩, ⟨b2.trans k2, k2, hA⟩, ⟨b3.trans k3, k3, hB⟩, fun e => b11 ?_, fun h3 => ?_⟩
  · rw [k2, k3]; exact congrArg Int32.ofNat e
  · have h3' : u.1 8 (4 * j) = 3 := by rw [k1]; show Int32.ofNat (gk u j) = 3; rw [h3]; rfl
    obtain ⟨c1, c2, c3, c4⟩ := b12 h3'
    have k4 := i32_of c1
    have hC : gC u j < n := by
      have := i32_nat (n := gC u j) (by unfold gC; rw [Int32.toNatClampNeg]; omega)
      rw [show Int32.ofNat (gC u j) = u.1 8 (4 * j + 3) from k4.symm] at this
      omega
    refine ⟨b4.trans k4, k4, hC, fun e => c3 ?_, fun e => c4 ?_⟩
    · rw [k2, k4]; exact congrArg Int32.ofNat e
    · rw [k3, k4]; exact congrArg Int32.ofNat e
theorem wk_gt {u : gw_St} {n r g : Nat} (hw : gv_Wk u n r) (hg : g < n) : (u.1 674 g).toInt = gt u g ∧ 4 ≤ gt u g ∧ gt u g ≤ 1000 := by
  obtain ⟨a1, a2, a3, a4, a5, a6, a7, a8, a9⟩ := hw
  have h := a7 g hg
  exact ⟨by rw [h.1]; rfl, h.2.1, h.2.2⟩
theorem gm_put2 {F : Nat} {u : gw_St} {p g : Nat} {y : Int64} {L : Nat → Nat} (hr : gv_Rf u) (hp : 0 < p) (hp2 : p < 2147483648) (hg : g < 61) (hL : Ln u p L) (h1 : -(p : Int) < y.toInt) (h2 : y.toInt < 1000000) : ∃ w L', gf_Model_put F gv_z u 670 (Int32.ofNat g) y (Int64.ofNat p) = some w ∧ Lf (fun a => a = 694) u w ∧ Ln w p L' ∧ ∀ c, c < 61 → cg p (L' c) ((L c : Int) + at1 g y.toInt c) := by
  have hm0 := Int.emod_nonneg ((L g : Int) + y.toInt) (show (p : Int) ≠ 0 by omega)
  have hm1 := Int.emod_lt_of_pos ((L g : Int) + y.toInt) (show (0 : Int) < p by omega)
  refine ⟨_, fun c => if c = g then (((L g : Int) + y.toInt) % (p : Int)).toNat else L c, gm_put hr hp hp2 hg (hL g hg).1 (hL g hg).2 h1 h2, Lf.wl, fun c hc => ?_, fun c hc => ?_⟩
  · simp only [gw_wl, true_and]
    by_cases e : c = g
    · rw [if_pos e, if_pos e]; exact ⟨rfl, by omega⟩
    · rw [if_neg e, if_neg e]; exact hL c hc
  · dsimp only
    unfold at1
    by_cases e : c = g
    · rw [if_pos e, if_pos e, Int.toNat_of_nonneg hm0, e]
      exact cg.mod
    · rw [if_neg e, if_neg e, Int.add_zero]
      exact cg.refl _
theorem n32_neg {a : Int32} (h : -2147483648 < a.toInt) : (-a).toInt = -a.toInt := by
  have h2 := n32_hi a
  rw [Int32.toInt_neg]
  apply Int.bmod_eq_of_le <;> simp <;> omega
theorem gm_lineOf {F : Nat} (hF : 2000 ≤ F) {u : gw_St} {p n r j : Nat} (hr : gv_Rf u) (hw : gv_Wk u n r) (hj : j < r) (hp : 100000 < p) (hp2 : p < 2147483648) : ∃ w L, gf_Model_lineOf F gv_z u 670 (Int32.ofNat j) (Int64.ofNat p) = some w ∧ Lf (fun a => a = 694) u w ∧ Ln w p L ∧ ∀ c, c < 61 → cg p (L c) (rv u j c) := by
  obtain ⟨⟨k1, -, k3⟩, ⟨a1, -, a3⟩, ⟨b1, -, b3⟩, hab, h3⟩ := wk_rel hw hj
  have hn := hw.1
  have hr2 := hw.2.1
  have tA := wk_gt hw a3
  have tB := wk_gt hw b3
  obtain ⟨w0, e0, f0, z0⟩ := gm_clear (F := F) hF hr
  have L0 : Ln w0 p (fun _ => 0) := fun c hc => ⟨z0 c hc, by show 0 < p; omega⟩
  have i1 : ∀ {w : gw_St}, Lf (fun a => a = 694) u w → ∀ a k, w.1 a k = u.1 a k := fun f a k => by rw [f.1]
  have hst : gf_Model_lineOf F gv_z u 670 (Int32.ofNat j) (Int64.ofNat p) = gf_Model_lineOf_b0 F gv_z u 670 (Int32.ofNat j) (Int64.ofNat p) := rfl
  rw [hst]
  unfold gf_Model_lineOf_b0
  rw [e0]
  have hr0 := hr.lf f0
  simp only [Option.bind_some]
  rw [hr0.get rfl gv_rm23, gnn, if_neg (gi_ix (by rw [gv_l676]; omega) (by omega)), i32_clamp (by omega), hr0.get rfl gv_rm24, i1 f0 676, a1]
  simp only [gf_nm]
  rw [gnn, if_neg (gi_ic (by rw [gv_l677]; omega) (by omega)), i1 f0 677, b1, hr0.get rfl gv_rm22, gnn, if_neg (gi_ic (by rw [gv_l675]; omega) (by omega)), i1 f0 675, k1]
  by_cases c2 : gk u j = 2
  · rw [if_pos (by rw [c2]; rfl)]
    have y1 : (1 : Int64).toInt = 1 := rfl
    have y2 : (-1 : Int64).toInt = -1 := rfl
    obtain ⟨w1, L1, e1, f1, l1, g1⟩ := gm_put2 (F := F) (g := gA u j) (y := 1) hr0 (by omega) hp2 (by omega) L0 (by omega) (by omega)
    obtain ⟨w2, L2, e2, f2, l2, g2⟩ := gm_put2 (F := F) (g := gB u j) (y := -1) (hr0.lf f1) (by omega) hp2 (by omega) l1 (by omega) (by omega)
    rw [e1, Option.bind_some, e2, Option.bind_some]
    refine ⟨w2, L2, rfl, f0.trans (f1.trans f2), l2, fun c hc => ?_⟩
    have h := (g2 c hc).trans ((g1 c hc).add (cg.refl _))
    unfold rv
    rw [if_pos c2]
    rw [y1, y2, show ((0 : Nat) : Int) + at1 (gA u j) 1 c = at1 (gA u j) 1 c from by simp] at h
    exact h
  · rw [if_neg (fun e => c2 (by have := congrArg Int32.toInt e; rw [i32_nat (by omega)] at this; exact Int.ofNat.inj this)), gnn, if_neg (gi_ic (by rw [gv_l675]; omega) (by omega)), i1 f0 675, k1]
    by_cases c3 : gk u j = 3
    · obtain ⟨d1, -, d3, -, -⟩ := h3 c3
      rw [if_pos (by rw [c3]; rfl), hr0.get rfl gv_rm21, gnn, if_neg (gi_ix (by rw [gv_l674]; omega) (by omega)), i32_clamp (by omega)]
      obtain ⟨w1, L1, e1, f1, l1, g1⟩ := gm_put2 (F := F) (g := gA u j) (y := (w0.1 674 (gA u j)).toInt64) hr0 (by omega) hp2 (by omega) L0 (by rw [n32_to64, i1 f0]; omega) (by rw [n32_to64, i1 f0]; omega)
      rw [e1, Option.bind_some]
      have hr1 := hr0.lf f1
      have f01 := f0.trans f1
      rw [hr1.get rfl gv_rm21, gnn, if_neg (gi_ix (by rw [gv_l674]; omega) (by omega)), i32_clamp (by omega)]
      obtain ⟨w2, L2, e2, f2, l2, g2⟩ := gm_put2 (F := F) (g := gB u j) (y := (w1.1 674 (gB u j)).toInt64) hr1 (by omega) hp2 (by omega) l1 (by rw [n32_to64, i1 f01]; omega) (by rw [n32_to64, i1 f01]; omega)
      rw [e2, Option.bind_some]
      have hr2 := hr1.lf f2
      have f02 := f01.trans f2
      have eA : (w2.1 674 (gA u j)).toInt = gt u (gA u j) := by rw [i1 f02]; exact tA.1
      have eB : (w2.1 674 (gB u j)).toInt = gt u (gB u j) := by rw [i1 f02]; exact tB.1
      have eN : (-w2.1 674 (gA u j)).toInt = - gt u (gA u j) := by rw [n32_neg (by omega), eA]
      have eS : (-w2.1 674 (gA u j) - w2.1 674 (gB u j)).toInt = - gt u (gA u j) - gt u (gB u j) := by rw [n32_sub (by omega) (by omega), eN, eB]
      rw [hr2.get rfl gv_rm25, gnn, if_neg (gi_ic (by rw [gv_l678]; omega) (by omega)), hr2.get rfl gv_rm21, gnn, if_neg (gi_ic (by rw [gv_l674]; omega) (by omega)), gnn, if_neg (gi_ic (by rw [gv_l674]; omega) (by omega)), i1 f02 678, d1]
      obtain ⟨w3, L3, e3, f3, l3, g3⟩ := gm_put2 (F := F) (g := gC u j) (y := (-w2.1 674 (gA u j) - w2.1 674 (gB u j)).toInt64) hr2 (by omega) hp2 (by omega) l2 (by rw [n32_to64]; omega) (by rw [n32_to64]; omega)
      rw [e3, Option.bind_some]
      refine ⟨w3, L3, rfl, f02.trans f3, l3, fun c hc => ?_⟩
      have h := (g3 c hc).trans (((g2 c hc).trans ((g1 c hc).add (cg.refl _))).add (cg.refl _))
      unfold rv
      rw [if_neg c2, if_pos c3]
      rw [n32_to64, n32_to64, n32_to64, i1 f0, i1 f01, tA.1, tB.1, eS, show ((0 : Nat) : Int) + at1 (gA u j) (gt u (gA u j)) c = at1 (gA u j) (gt u (gA u j)) c from by simp] at h
      exact h
    · rw [if_neg (fun e => c3 (by have := congrArg Int32.toInt e; rw [i32_nat (by omega)] at this; exact Int.ofNat.inj this)), hr0.get rfl gv_rm21, gnn, if_neg (gi_ix (by rw [gv_l674]; omega) (by omega)), i32_clamp (by omega)]
      obtain ⟨w1, L1, e1, f1, l1, g1⟩ := gm_put2 (F := F) (g := gA u j) (y := (w0.1 674 (gA u j)).toInt64) hr0 (by omega) hp2 (by omega) L0 (by rw [n32_to64, i1 f0]; omega) (by rw [n32_to64, i1 f0]; omega)
      rw [e1, Option.bind_some]
      have hr1 := hr0.lf f1
      have f01 := f0.trans f1
      have eB : (w1.1 674 (gB u j)).toInt = gt u (gB u j) := by rw [i1 f01]; exact tB.1
      have eN : (-w1.1 674 (gB u j)).toInt = - gt u (gB u j) := by rw [n32_neg (by omega), eB]
      rw [hr1.get rfl gv_rm22, gnn, if_neg (gi_ic (by rw [gv_l675]; omega) (by omega)), i1 f01 675, k1, hr1.get rfl gv_rm21, gnn, if_neg (gi_ix (by rw [gv_l674]; omega) (by omega)), gnn, if_neg (gi_ix (by rw [gv_l674]; omega) (by omega)), i32_clamp (by omega)]
      unfold gf_Model_lineOf_b169
      by_cases c0 : gk u j = 0
      · rw [if_pos (by rw [c0]; rfl)]
        obtain ⟨w2, L2, e2, f2, l2, g2⟩ := gm_put2 (F := F) (g := gB u j) (y := (w1.1 674 (gB u j)).toInt64) hr1 (by omega) hp2 (by omega) l1 (by rw [n32_to64]; omega) (by rw [n32_to64]; omega)
        rw [e2, Option.bind_some]
        refine ⟨w2, L2, rfl, f01.trans f2, l2, fun c hc => ?_⟩
        have h := (g2 c hc).trans ((g1 c hc).add (cg.refl _))
        unfold rv
        rw [if_neg c2, if_neg c3, if_pos c0]
        rw [n32_to64, n32_to64, i1 f0, tA.1, eB, show ((0 : Nat) : Int) + at1 (gA u j) (gt u (gA u j)) c = at1 (gA u j) (gt u (gA u j)) c from by simp] at h
        exact h
      · rw [if_neg (fun e => c0 (by have := congrArg Int32.toInt e; rw [i32_nat (by omega)] at this; exact Int.ofNat.inj this))]
        obtain ⟨w2, L2, e2, f2, l2, g2⟩ := gm_put2 (F := F) (g := gB u j) (y := (-w1.1 674 (gB u j)).toInt64) hr1 (by omega) hp2 (by omega) l1 (by rw [n32_to64]; omega) (by rw [n32_to64]; omega)
        rw [e2, Option.bind_some]
        refine ⟨w2, L2, rfl, f01.trans f2, l2, fun c hc => ?_⟩
        have h := (g2 c hc).trans ((g1 c hc).add (cg.refl _))
        unfold rv
        rw [if_neg c2, if_neg c3, if_neg c0]
        rw [n32_to64, n32_to64, i1 f0, tA.1, eN, show ((0 : Nat) : Int) + at1 (gA u j) (gt u (gA u j)) c = at1 (gA u j) (gt u (gA u j)) c from by simp] at h
        exact h
