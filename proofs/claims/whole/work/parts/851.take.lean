/-- no sum of the vectors is 0 modulo p but the empty one -/
def In (p : Int) (X : Nat → Nat → Int) (q n : Nat) : Prop := ∀ z : Nat → Int, (∀ c, c < n → cg p (sm (fun i => z i * X i c) q) 0) → ∀ i, i < q → p ∣ z i
theorem Rr.ind {u : gw_St} {p n q : Nat} {W : Nat → Nat → Nat} {v : Nat → Nat} (h : Rr u p n q W v) : In p (fun i c => (W i c : Int)) q n := by
  obtain ⟨r1, r2, r3, r4, r5, r6, r7⟩ := h
  intro z hz i hi
  have h1 := hz (v i) (r5 i hi).2
  rw [sm_one hi (fun j hj hne => by dsimp only; rw [r7 j i hj hi, if_neg hne]; simp)] at h1
  dsimp only at h1
  rw [r7 i i hi hi, if_pos rfl] at h1
  have := h1.zero
  rw [show z i * ((1 : Nat) : Int) = z i by simp] at this
  exact this
/-- one vector more, that is 0 at the places of the rows and not at a -/
def apX (X : Nat → Nat → Int) (q : Nat) (L : Nat → Int) (i : Nat) : Nat → Int := if i = q then L else X i
theorem Rr.ind1 {u : gw_St} {p n q a : Nat} {W : Nat → Nat → Nat} {v L : Nat → Nat} (h : Rr u p n q W v) (hp : Pm p) (ha : a < n) (hL : L a < p) (hL0 : L a ≠ 0) (hLv : ∀ i, i < q → L (v i) = 0) : In p (apX (fun i c => (W i c : Int)) q (fun c => (L c : Int))) (q + 1) n := by
  obtain ⟨r1, r2, r3, r4, r5, r6, r7⟩ := id h
  intro z hz
  have hs : ∀ c, sm (fun i => z i * apX (fun i c => (W i c : Int)) q (fun c => (L c : Int)) i c) (q + 1) = sm (fun i => z i * (W i c : Int)) q + z q * (L c : Int) := fun c => by
    show sm (fun i => z i * apX (fun i c => (W i c : Int)) q (fun c => (L c : Int)) i c) q + z q * apX (fun i c => (W i c : Int)) q (fun c => (L c : Int)) q c = _
    rw [sm_congr (g := fun i => z i * (W i c : Int)) (fun i hi => by unfold apX; rw [if_neg (by omega)])]
    unfold apX
    rw [if_pos rfl]
  have hv : ∀ i, i < q → (p : Int) ∣ z i := fun i hi => by
    have h1 := hz (v i) (r5 i hi).2
    rw [hs, hLv i hi, sm_one hi (fun j hj hne => by rw [r7 j i hj hi, if_neg hne]; simp)] at h1
    rw [r7 i i hi hi, if_pos rfl] at h1
    have := h1.zero
    rw [show z i * ((1 : Nat) : Int) + z q * ((0 : Nat) : Int) = z i by simp] at this
    exact this
  intro i hi
  by_cases e : i = q
  · subst e
    have h1 := hz a ha
    rw [hs] at h1
    have h2 : cg p (sm (fun i => z i * (W i a : Int)) i) 0 := by
      have := cg.sm (p := (p : Int)) (f := fun i => z i * (W i a : Int)) (g := fun _ => 0) (n := i) (fun j hj => by
        obtain ⟨k, hk⟩ := hv j hj
        exact ⟨k * (W j a : Int), by rw [hk, Int.mul_assoc]; omega⟩)
      rw [show sm (fun _ => (0 : Int)) i = 0 from sm_zero (fun _ _ => rfl)] at this
      exact this
    have h3 := h1.sub h2
    rw [Int.sub_zero, show sm (fun i => z i * (W i a : Int)) i + z i * (L a : Int) - sm (fun i => z i * (W i a : Int)) i = z i * (L a : Int) by omega] at h3
    rcases hp.int _ _ h3.zero with g | g
    · exact g
    · exact absurd (Nat.eq_zero_of_dvd_of_lt (Int.natAbs_dvd_natAbs.mpr g) hL) hL0
  · exact hv i (by omega)
theorem Sp.apx {p : Int} {X : Nat → Nat → Int} {q n : Nat} {L v : Nat → Int} (h : Sp p X q n v) : Sp p (apX X q L) (q + 1) n v := by
  refine h.trans (fun i hi => ?_)
  have := Sp.mem (p := p) (R := apX X q L) (m := q + 1) (n := n) (r := i) (by omega)
  rw [show apX X q L i = X i from if_neg (by omega)] at this
  exact this
theorem Sp.apL {p : Int} {X : Nat → Nat → Int} {q n : Nat} {L : Nat → Int} : Sp p (apX X q L) (q + 1) n L := by
  have := Sp.mem (p := p) (R := apX X q L) (m := q + 1) (n := n) (r := q) (by omega)
  rw [show apX X q L q = L from if_pos rfl] at this
  exact this
theorem gv_Wk.gf {S : Nat → Prop} {T : Nat → Nat → Prop} {u w : gw_St} {n r : Nat} (h : gv_Wk u n r) (f : Gf S T u w) (hT : ∀ a k, T a k → gv_T_wk a k = false) : gv_Wk w n r := h.same (fun a k ht => f.2.2 a k (fun q => by rw [hT a k q] at ht; exact Bool.noConfusion ht))
/-- the numbers of the relations are the same -/
theorem rv_eq {u w : gw_St} {j : Nat} (h7 : ∀ k, w.1 7 k = u.1 7 k) (h8 : ∀ k, w.1 8 k = u.1 8 k) : rv w j = rv u j := by
  funext c
  unfold rv gk gA gB gC gt
  simp only [h7, h8]
/-- one relation taken -/
theorem gm_take {β : Type} {F : Nat} (hF : 2000 ≤ F) {u : gw_St} {p n r j m q : Nat} {R : Nat → Nat → Int} {W : Nat → Nat → Nat} {v : Nat → Nat} (hr : gv_Rf u) (hw : gv_Wk u n r) (hj : j < r) (hp : Pm p) (hp1 : 100000 < p) (hp2 : p < 2147483648) (hR : Rr u p n q W v) (hS : SI p n R m q W) (hm : ∀ c, c < 61 → R m c = rv u j c) (K : gw_St → Option β) : ∃ w q' W' v', ((gf_Model_lineOf F gv_z u 670 (Int32.ofNat j) (Int64.ofNat p)).bind fun u34 => gf_cl (gf_Model_reduce F gv_z u34 670 (Int64.ofNat p)) fun a38 u36 => if a38 < 0 then K u36 else (gf_Model_keep F gv_z u36 670 a38 (Int64.ofNat p)).bind fun u40 => K u40) = K w ∧ Gf Ks Kt u w ∧ Rr w p n q' W' v' ∧ SI p n R (m + 1) q' W' := by
  have hn := hw.1
  obtain ⟨w1, L, e1, f1, l1, g1⟩ := gm_lineOf (F := F) hF hr hw hj hp1 hp2
  have hr1 := hr.lf f1
  have hR1 := hR.lf f1 (by omega)
  obtain ⟨w2, L', f2, l2, g2, z2, d⟩ := gm_reduce (F := F) hF hr1 hp.1 hp2 hR1 l1
  have hR2 := hR1.lf f2 (by omega)
  have hLm : ∀ c, c < 61 → cg p (L c) (R m c) := fun c hc => by rw [hm c hc]; exact g1 c hc
  have gf2 : Gf Ks Kt u w2 := (f1.trans f2).gf (fun a h => Or.inr h)
  rw [e1, Option.bind_some]
  rcases d with ⟨a, ha, hLa, ea⟩ | ⟨h0, ea⟩
  · rw [ea]
    obtain ⟨w3, W', v', t, e3, f3, hR3, ht, hq, hjj⟩ := gm_keep (F := F) hF (hr1.lf f2) hp hp2 hR2 l2 ha hLa z2
    refine ⟨w3, q + 1, W', v', ?_, gf2.trans f3, hR3, hS.kept hn ha hLm g2 ht hp.1 hq hjj⟩
    show (if Int32.ofNat a < 0 then K w2 else (gf_Model_keep F gv_z w2 670 (Int32.ofNat a) (Int64.ofNat p)).bind fun u40 => K u40) = _
    rw [if_neg (fun e => by have := i32_lt.mp e; rw [i32_nat (by omega)] at this; have h0 : (0 : Int32).toInt = 0 := rfl; omega), e3, Option.bind_some]
  · rw [ea]
    refine ⟨w2, q, W, v, ?_, gf2, hR2, hS.none hn hLm g2 h0⟩
    show (if (-1 : Int32) < 0 then K w2 else (gf_Model_keep F gv_z w2 670 (-1) (Int64.ofNat p)).bind fun u40 => K u40) = _
    rw [if_pos (by decide)]
/-- the crank's line -/
def cL (cr c : Nat) : Nat := if c = cr ∨ c = 60 then 1 else 0
theorem gm_crank {F : Nat} (hF : 2000 ≤ F) {u : gw_St} {p cr : Nat} (hr : gv_Rf u) (hc : u.1 670 20 = Int32.ofNat cr) (hcr : cr < 60) (hp : 1 < p) : ∃ w, gf_Model_crankLine F gv_z u 670 = some w ∧ Lf (fun a => a = 694) u w ∧ Ln w p (cL cr) := by
  obtain ⟨w0, e0, f0, z0⟩ := gm_clear (F := F) hF hr
  have hr0 := hr.lf f0
  refine ⟨gw_wl (gw_wl w0 694 cr 1) 694 60 1, ?_, f0.trans (Lf.wl.trans Lf.wl), fun c h => ⟨?_, ?_⟩⟩
  · show gf_Model_crankLine_b0 F gv_z u 670 = _
    unfold gf_Model_crankLine_b0
    rw [e0, Option.bind_some, hr0.get rfl gv_r670_42, gnn, show w0.1 670 20 = Int32.ofNat cr from by rw [f0.1]; exact hc, if_neg (gi_ix (by rw [gv_l694]; omega) (by omega)), i32_clamp (by omega)]
    simp only [gf_nm]
    rw [(hr0.lf (Lf.wl (p := 694) (k := cr) (x := 1))).get rfl gv_r670_42, gnn, if_neg (show ¬ ((60 : Int32) < 0 ∨ gv_z.2.2 694 ≤ Int32.toNatClampNeg 60) by rw [gv_l694]; decide), show ((60 : Int32)).toNatClampNeg = 60 from rfl]
  · simp only [gw_wl, true_and]
    unfold cL
    by_cases a : c = 60
    · rw [if_pos a, if_pos (Or.inr a)]; rfl
    · rw [if_neg a]
      by_cases b : c = cr
      · rw [if_pos b, if_pos (Or.inl b)]; rfl
      · rw [if_neg b, if_neg (by omega)]; exact z0 c h
  · unfold cL
    by_cases b : c = cr ∨ c = 60
    · rw [if_pos b]; exact hp
    · rw [if_neg b]; omega
