def Rk (R : Nat → Nat → Int) (m n k : Nat) (D : Int) : Prop := ∃ s C, QB R m n k D s C
/-- q stands for the rank of the first m of R as seen modulo p -/
def rkp (p : Nat) (R : Nat → Nat → Int) (m n q : Nat) : Prop := ∀ k D, Rk R m n k D → q ≤ k ∧ (¬ (p : Int) ∣ D → q = k)
theorem rkp_of {p n m q : Nat} {R X : Nat → Nat → Int} (hp : Pm p) (hI : In p X q n) (h1 : ∀ i, i < q → Sp p R m n (X i)) (h2 : ∀ r, r < m → Sp p X q n (R r)) : rkp p R m n q := by
  rintro k D ⟨s, C, hQ⟩
  have hp1 : (1 : Int) < p := by have := hp.1; omega
  have h3 := ind_le hp1 hQ h1 hI
  refine ⟨h3, fun hD => ?_⟩
  have h4 := ind_ge hp1 hp.int hQ hD h2
  omega
theorem rk_plain {u : gw_St} {p n m q : Nat} {R : Nat → Nat → Int} {W : Nat → Nat → Nat} {v : Nat → Nat} (hp : Pm p) (hR : Rr u p n q W v) (hS : SI p n R m q W) : rkp p R m n q := rkp_of hp hR.ind (fun i hi => (hS.1 i hi).less (by have := hR.2.1; omega)) hS.2
/-- with one more vector that the rows know -/
theorem rk_none {u : gw_St} {p n m q : Nat} {R : Nat → Nat → Int} {W : Nat → Nat → Nat} {v L L' : Nat → Nat} {e : Nat → Int} (hp : Pm p) (hR : Rr u p n q W v) (hS : SI p n R m q W) (hL : ∀ c, c < n → cg p (L c) (e c)) (h1 : ∀ c, c < 61 → cg p (L' c) ((L c : Int) - sm (fun i => (L (v i) : Int) * (W i c : Int)) q)) (h0 : ∀ c, c < n → L' c = 0) : rkp p (apX R m e) (m + 1) n q := by
  have hn := hR.2.1
  refine rkp_of hp hR.ind (fun i hi => ((hS.1 i hi).less (by omega)).apx) (fun r hr => ?_)
  by_cases c : r = m
  · rw [show apX R m e r = e from if_pos c]
    refine ⟨fun i => (L (v i) : Int), fun c hc => (hL c hc).symm.trans ?_⟩
    have h2 := h1 c (by omega)
    rw [h0 c hc] at h2
    have h3 := h2.symm.add (cg.refl (sm (fun i => (L (v i) : Int) * (W i c : Int)) q))
    rw [Int.sub_add_cancel, show ((0 : Nat) : Int) + sm (fun i => (L (v i) : Int) * (W i c : Int)) q = sm (fun i => (L (v i) : Int) * (W i c : Int)) q by simp] at h3
    exact h3
  · rw [show apX R m e r = R r from if_neg c]
    exact hS.2 r (by omega)
/-- with one more vector that they do not know -/
theorem rk_more {u : gw_St} {p n m q a : Nat} {R : Nat → Nat → Int} {W : Nat → Nat → Nat} {v L L' : Nat → Nat} {e : Nat → Int} (hp : Pm p) (hR : Rr u p n q W v) (hS : SI p n R m q W) (hL : ∀ c, c < n → cg p (L c) (e c)) (h1 : ∀ c, c < 61 → cg p (L' c) ((L c : Int) - sm (fun i => (L (v i) : Int) * (W i c : Int)) q)) (ha : a < n) (hLa : L' a ≠ 0) (hLp : L' a < p) (hz : ∀ i, i < q → L' (v i) = 0) : rkp p (apX R m e) (m + 1) n (q + 1) := by
  have hn := hR.2.1
  have s1 : ∀ i, i < q → Sp p (apX R m e) (m + 1) n (fun c => (W i c : Int)) := fun i hi => ((hS.1 i hi).less (by omega)).apx
  have s2 : Sp p (apX R m e) (m + 1) n (fun c => (L' c : Int)) := by
    refine Sp.congr (v := fun c => e c + sm (fun i => (-(L (v i) : Int)) * (W i c : Int)) q) (Sp.apL.add (Sp.sum _ s1)) (fun c hc => ?_)
    refine (h1 c (by omega)).trans ?_
    have e1 : sm (fun i => (-(L (v i) : Int)) * (W i c : Int)) q = - sm (fun i => (L (v i) : Int) * (W i c : Int)) q := by
      rw [show - sm (fun i => (L (v i) : Int) * (W i c : Int)) q = -1 * sm (fun i => (L (v i) : Int) * (W i c : Int)) q by omega, ← sm_mul]
      exact sm_congr (fun i _ => by rw [Int.neg_mul]; omega)
    rw [e1]
    exact (hL c hc).add (cg.refl _)
  refine rkp_of hp (hR.ind1 hp ha hLp hLa hz) (fun i hi => ?_) (fun r hr => ?_)
  · by_cases c : i = q
    · rw [show apX (fun i c => (W i c : Int)) q (fun c => (L' c : Int)) i = (fun c => (L' c : Int)) from if_pos c]
      exact s2
    · rw [show apX (fun i c => (W i c : Int)) q (fun c => (L' c : Int)) i = (fun c => (W i c : Int)) from if_neg c]
      exact s1 i (by omega)
  · by_cases c : r = m
    · rw [show apX R m e r = e from if_pos c]
      have s3 : Sp p (apX (fun i c => (W i c : Int)) q (fun c => (L' c : Int))) (q + 1) n (fun c => sm (fun i => (L (v i) : Int) * (W i c : Int)) q) := (Sp.apx ⟨fun i => (L (v i) : Int), fun c _ => cg.refl _⟩)
      refine Sp.congr (Sp.apL.add s3) (fun c hc => ?_)
      refine (hL c hc).symm.trans ?_
      have e1 := (h1 c (by omega)).add (cg.refl (sm (fun i => (L (v i) : Int) * (W i c : Int)) q))
      rw [Int.sub_add_cancel] at e1
      exact e1.symm
    · rw [show apX R m e r = R r from if_neg c]
      exact (hS.2 r (by omega)).apx
theorem cL_at {p cr n : Nat} (hn : n ≤ 60) : ∀ c, c < n → cg p (cL cr c : Nat) (at1 cr 1 c) := fun c hc => by
  unfold cL at1
  by_cases e : c = cr
  · rw [if_pos (Or.inl e), if_pos e]; exact cg.refl _
  · rw [if_neg (by omega), if_neg e]; exact cg.refl _
theorem gv_r670_43 : gv_u.2.2 670 43 = 696 := by decide +kernel
theorem gv_r670_44 : gv_u.2.2 670 44 = 697 := by decide +kernel
theorem gv_l695 : gv_z.2.2 695 = 121 := by decide +kernel
theorem gv_l696 : gv_z.2.2 696 = 121 := by decide +kernel
theorem wi_same {u : gw_St} {p k : Nat} {x : Int32} : (gw_wi u p k x).1 p k = x := if_pos ⟨rfl, rfl⟩
theorem wi_ne {u : gw_St} {p k a j : Nat} {x : Int32} (h : ¬ (a = p ∧ j = k)) : (gw_wi u p k x).1 a j = u.1 a j := if_neg h
/-- the ranks written down -/
theorem gm_rank2 {F : Nat} (hF : 2000 ≤ F) {u : gw_St} {p n j q cr P Pc : Nat} {R : Nat → Nat → Int} {W : Nat → Nat → Nat} {v : Nat → Nat} {rc : gw_St → Nat → Int64 → Int32 → Option gw_St} (hr : gv_Rf u) (hj : j < 120) (hc : u.1 670 20 = Int32.ofNat cr) (hcr : cr < n) (hp : Pm p) (hp2 : p < 2147483648) (hR : Rr u p n q W v) (hS : SI p n R (j + 1) q W) (hP : u.1 695 j = Int32.ofNat P) (hPc : u.1 696 j = Int32.ofNat Pc) (hP2 : P < 1000) (hPc2 : Pc < 1000) : ∃ w Qc, gf_Model_rankAll_b40 F gv_z rc u 670 (Int64.ofNat p) (Int32.ofNat j) = rc w 670 (Int64.ofNat p) (Int32.ofNat (j + 1)) ∧ Gf (fun a => a = 694) (fun a k => (a = 695 ∨ a = 696) ∧ k = j) u w ∧ w.1 695 j = Int32.ofNat (max P q) ∧ w.1 696 j = Int32.ofNat (max Pc Qc) ∧ Qc ≤ 61 ∧ rkp p (apX R (j + 1) (at1 cr 1)) (j + 2) n Qc := by
  obtain ⟨r1, r2, r3, r4, r5, r6, r7⟩ := id hR
  have hp1 := hp.1
  let u1 := gw_wi u 695 j (Int32.ofNat (max P q))
  have g1 : Gf (fun a => a = 694) (fun a k => (a = 695 ∨ a = 696) ∧ k = j) u u1 := Gf.wi ⟨Or.inl rfl, rfl⟩
  have hr1 := hr.gf g1
  obtain ⟨u2, e2, f2, l2⟩ := gm_crank (F := F) (u := u1) (p := p) hF hr1 (by rw [g1.2.2 670 20 (by omega)]; exact hc) (by omega) hp1
  have hr2 := hr1.lf f2
  have hR1 : Rr u1 p n q W v := by
    refine ⟨r1, r2, ?_, ?_, fun i hi => ?_, r6, r7⟩
    · rw [g1.2.2 670 41 (by omega)]; exact r3
    · rw [g1.2.2 670 18 (by omega)]; exact r4
    · rw [g1.2.2 693 i (by omega)]; exact r5 i hi
  have hR2 := hR1.lf f2 (by omega)
  obtain ⟨u3, L', f3, l3, g3, z3, d⟩ := gm_reduce (F := F) hF hr2 hp1 hp2 hR2 l2
  have hr3 := hr2.lf f3
  have hf3 : ∀ a k, u3.1 a k = u1.1 a k := fun a k => by rw [f3.1, f2.1]
  have hq3 : u3.1 670 41 = Int32.ofNat q := by rw [hf3, g1.2.2 670 41 (by omega)]; exact r3
  have hPc3 : u3.1 696 j = Int32.ofNat Pc := by rw [hf3, wi_ne (by omega)]; exact hPc
  -- the first part
  have step1 : gf_Model_rankAll_b40 F gv_z rc u 670 (Int64.ofNat p) (Int32.ofNat j) = gf_cl (gf_Model_reduce F gv_z u2 670 (Int64.ofNat p)) fun a22 u20 => if a22 < 0 then gf_Model_rankAll_b97 F gv_z rc u20 670 (Int64.ofNat p) (Int32.ofNat j) (u20.1 670 41) else gf_Model_rankAll_b97 F gv_z rc u20 670 (Int64.ofNat p) (Int32.ofNat j) ((u20.1 670 41) + (1 : Int32)) := by
    have hb71 : ∀ x : Int32, x = Int32.ofNat (max P q) → gf_Model_rankAll_b71 F gv_z rc u 670 (Int64.ofNat p) (Int32.ofNat j) 695 (Int32.ofNat j) x = gf_cl (gf_Model_reduce F gv_z u2 670 (Int64.ofNat p)) fun a22 u20 => if a22 < 0 then gf_Model_rankAll_b97 F gv_z rc u20 670 (Int64.ofNat p) (Int32.ofNat j) (u20.1 670 41) else gf_Model_rankAll_b97 F gv_z rc u20 670 (Int64.ofNat p) (Int32.ofNat j) ((u20.1 670 41) + (1 : Int32)) := by
      intro x hx
      unfold gf_Model_rankAll_b71
      rw [if_neg (gi_ix (by rw [gv_l695]; omega) (by omega)), i32_clamp (by omega), hx]
      simp only [gf_nm]
      rw [e2, Option.bind_some]
    unfold gf_Model_rankAll_b40
    rw [hr.get rfl gv_r670_43, gnn, gnn, if_neg (gi_ix (by rw [gv_l695]; omega) (by omega)), i32_clamp (by omega), hP, r3, gnn, if_neg (gi_ic (by rw [gv_l695]; omega) (by omega)), hP]
    by_cases c : P ≤ q
    · rw [if_pos ((gi_le (by omega) (by omega)).mpr c)]
      exact hb71 _ (by rw [Nat.max_eq_right c])
    · rw [if_neg (fun e => c ((gi_le (by omega) (by omega)).mp e))]
      exact hb71 _ (by rw [Nat.max_eq_left (by omega)])
  have step2 : ∀ Q : Nat, Q < 1000 → gf_Model_rankAll_b97 F gv_z rc u3 670 (Int64.ofNat p) (Int32.ofNat j) (Int32.ofNat Q) = rc (gw_wi u3 696 j (Int32.ofNat (max Pc Q))) 670 (Int64.ofNat p) (Int32.ofNat (j + 1)) := by
    intro Q hQ
    have hb : ∀ x : Int32, x = Int32.ofNat (max Pc Q) → gf_Model_rankAll_b126 F gv_z rc u3 670 (Int64.ofNat p) (Int32.ofNat j) 696 (Int32.ofNat j) x = rc (gw_wi u3 696 j (Int32.ofNat (max Pc Q))) 670 (Int64.ofNat p) (Int32.ofNat (j + 1)) := by
      intro x hx
      unfold gf_Model_rankAll_b126
      rw [if_neg (gi_ix (by rw [gv_l696]; omega) (by omega)), i32_clamp (by omega), hx]
      simp only [gf_nm]
      rw [gw_iS]
    unfold gf_Model_rankAll_b97
    rw [hr3.get rfl gv_r670_44, gnn, gnn, if_neg (gi_ix (by rw [gv_l696]; omega) (by omega)), i32_clamp (by omega), hPc3, gnn, if_neg (gi_ic (by rw [gv_l696]; omega) (by omega)), hPc3]
    by_cases c : Pc ≤ Q
    · rw [if_pos ((gi_le (by omega) (by omega)).mpr c)]
      exact hb _ (by rw [Nat.max_eq_right c])
    · rw [if_neg (fun e => c ((gi_le (by omega) (by omega)).mp e))]
      exact hb _ (by rw [Nat.max_eq_left (by omega)])
  have fin : ∀ Q : Nat, Gf (fun a => a = 694) (fun a k => (a = 695 ∨ a = 696) ∧ k = j) u (gw_wi u3 696 j (Int32.ofNat (max Pc Q))) ∧ (gw_wi u3 696 j (Int32.ofNat (max Pc Q))).1 695 j = Int32.ofNat (max P q) ∧ (gw_wi u3 696 j (Int32.ofNat (max Pc Q))).1 696 j = Int32.ofNat (max Pc Q) := fun Q => by
    refine ⟨g1.trans ((f2.gf (fun _ h => h)).trans ((f3.gf (fun _ h => h)).trans (Gf.wi ⟨Or.inr rfl, rfl⟩))), ?_, ?_⟩
    · rw [wi_ne (by omega), hf3, wi_same]
    · exact wi_same
  have hcL := cL_at (p := p) (cr := cr) r2
  rcases d with ⟨a, ha, hLa, ea⟩ | ⟨h0, ea⟩
  · obtain ⟨f1', f2', f3'⟩ := fin (q + 1)
    refine ⟨_, q + 1, ?_, f1', f2', f3', by omega, rk_more hp hR hS hcL g3 ha hLa (l3 a (by omega)).2 z3⟩
    rw [step1, ea]
    show (if Int32.ofNat a < 0 then gf_Model_rankAll_b97 F gv_z rc u3 670 (Int64.ofNat p) (Int32.ofNat j) (u3.1 670 41) else gf_Model_rankAll_b97 F gv_z rc u3 670 (Int64.ofNat p) (Int32.ofNat j) ((u3.1 670 41) + (1 : Int32))) = _
    rw [if_neg (fun e => by have := i32_lt.mp e; rw [i32_nat (by omega)] at this; have h0 : (0 : Int32).toInt = 0 := rfl; omega), hq3, gw_iS, step2 (q + 1) (by omega)]
  · obtain ⟨f1', f2', f3'⟩ := fin q
    refine ⟨_, q, ?_, f1', f2', f3', by omega, rk_none hp hR hS hcL g3 h0⟩
    rw [step1, ea]
    show (if (-1 : Int32) < 0 then gf_Model_rankAll_b97 F gv_z rc u3 670 (Int64.ofNat p) (Int32.ofNat j) (u3.1 670 41) else gf_Model_rankAll_b97 F gv_z rc u3 670 (Int64.ofNat p) (Int32.ofNat j) ((u3.1 670 41) + (1 : Int32))) = _
    rw [if_pos (by decide), hq3, step2 q (by omega)]
