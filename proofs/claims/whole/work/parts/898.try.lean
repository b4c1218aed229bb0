theorem bt_asym {S nm dn d e d' e' : Nat} (h : bt S nm dn d e d' e') : ¬ bt S nm dn d' e' d e := by
  unfold bt at *
  omega
/-- the best train so far, of the set X -/
def Bs (u : gw_St) (S lo hi nm dn : Nat) (X : Nat → Nat → Prop) : Prop := (u.2.1 1 15 = 0 ∧ ∀ d e, ¬ X d e) ∨ ∃ d e, u.2.1 1 14 = Int64.ofNat (vv S d) ∧ u.2.1 1 15 = Int64.ofNat (vv S e) ∧ u.2.1 1 16 = Int64.ofNat (gap S nm dn d e) ∧ isC S lo hi d ∧ isC S lo hi e ∧ Bst S nm dn X d e
theorem Bs.mono {u : gw_St} {S lo hi nm dn : Nat} {X Y : Nat → Nat → Prop} (h : Bs u S lo hi nm dn X) (e : ∀ d e, X d e ↔ Y d e) : Bs u S lo hi nm dn Y := by
  have : X = Y := funext fun d => funext fun e' => propext (e d e')
  rw [← this]
  exact h
theorem Bs.same {u w : gw_St} {S lo hi nm dn : Nat} {X : Nat → Nat → Prop} (h : Bs u S lo hi nm dn X) (e : ∀ k, 14 ≤ k → k ≤ 16 → w.2.1 1 k = u.2.1 1 k) : Bs w S lo hi nm dn X := by
  unfold Bs
  rw [e 14 (by omega) (by omega), e 15 (by omega) (by omega), e 16 (by omega) (by omega)]
  exact h
theorem abs64 {A B : Nat} (hA : A < 2 ^ 60) (hB : B < 2 ^ 60) : (if 0 < Int64.ofNat A - Int64.ofNat B then Int64.ofNat A - Int64.ofNat B else -(Int64.ofNat A - Int64.ofNat B)) = Int64.ofNat ((A - B) + (B - A)) := by
  have hA' : A < 1152921504606846976 := hA
  have hB' : B < 1152921504606846976 := hB
  clear hA hB
  have eA : (Int64.ofNat A).toInt = (A : Int) := i64_nat (by omega)
  have eB : (Int64.ofNat B).toInt = (B : Int) := i64_nat (by omega)
  have hx : (Int64.ofNat A - Int64.ofNat B).toInt = (A : Int) - B := by
    rw [n64_sub (by rw [eA, eB]; omega) (by rw [eA, eB]; omega), eA, eB]
  have hs1 : B ≤ A → Int64.ofNat A - Int64.ofNat B = Int64.ofNat (A - B) := fun h => i64_sub h (by omega)
  have hs2 : A ≤ B → Int64.ofNat B - Int64.ofNat A = Int64.ofNat (B - A) := fun h => i64_sub h (by omega)
  have hng : -(Int64.ofNat A - Int64.ofNat B) = Int64.ofNat B - Int64.ofNat A := Int64.neg_sub
  have hc : (0 < Int64.ofNat A - Int64.ofNat B) ↔ B < A := by
    rw [i64_lt, hx]
    show (0 : Int) < _ ↔ _
    omega
  by_cases c : B < A
  · rw [if_pos (hc.mpr c), hs1 (by omega), show A - B + (B - A) = A - B by omega]
  · rw [if_neg (fun e => c (hc.mp e)), hng, hs2 (by omega), show A - B + (B - A) = B - A by omega]
theorem tr_try0 {F : Nat} {u : gw_St} {y1 y3 a9 a12 g : Int64} (h1 : gf_Trains_product F gv_z u y1 = some (a9, u)) (h2 : gf_Trains_product F gv_z u y3 = some (a12, u)) (hg : (if 0 < ((a9 * (u.2.1 1 5)) - (a12 * (u.2.1 1 4))) then ((a9 * (u.2.1 1 5)) - (a12 * (u.2.1 1 4))) else -((a9 * (u.2.1 1 5)) - (a12 * (u.2.1 1 4)))) = g) : gf_Trains_tryTrain F gv_z u 1 y1 y3 = if (lg_cmp (u.2.1 1 15) (0 : Int64)) = 0 then gf_Trains_tryTrain_b44 F gv_z u 1 y1 y3 g else (gf_cl (gf_Trains_isBetter F gv_z u 1 y1 y3 g) fun a18 u16 => if a18 = 0 then gf_Trains_tryTrain_b60 F gv_z u16 else (gf_Trains_tryTrain_b44 F gv_z u16 1 y1 y3 g)) := by
  show gf_Trains_tryTrain_b0 F gv_z u 1 y1 y3 = _
  unfold gf_Trains_tryTrain_b0
  rw [h1]
  simp only [gf_cl]
  rw [h2]
  simp only [gf_nm]
  rw [hg]
/-- tryTrain -/
theorem tr_try {F : Nat} (hF : 2000 ≤ F) {u : gw_St} {S lo hi nm dn d e : Nat} {X : Nat → Nat → Prop} (hp : TaP S lo hi) (h6 : u.1 1 6 = Int32.ofNat S) (h4 : u.2.1 1 4 = Int64.ofNat nm) (h5 : u.2.1 1 5 = Int64.ofNat dn) (hn : nm < 2147483648) (hdn : dn < 2147483648) (hd : isC S lo hi d) (he : isC S lo hi e) (hX : ∀ d e, X d e → isC S lo hi d ∧ isC S lo hi e) (hB : Bs u S lo hi nm dn X) : ∃ w, gf_Trains_tryTrain F gv_z u 1 (Int64.ofNat (vv S d)) (Int64.ofNat (vv S e)) = some w ∧ w.1 = u.1 ∧ w.2.2 = u.2.2 ∧ (∀ a k, ¬ (a = 1 ∧ 14 ≤ k ∧ k ≤ 16) → w.2.1 a k = u.2.1 a k) ∧ Bs w S lo hi nm dn (fun d' e' => X d' e' ∨ d' = d ∧ e' = e) := by
  obtain ⟨d1, d2, -⟩ := vv_lt hp hd
  obtain ⟨e1, e2, -⟩ := vv_lt hp he
  obtain ⟨g1, g2, g3⟩ := gap_lt hp hd he hn hdn
  have pos : ∀ x, isC S lo hi x → 0 < pP S x := fun x hx => (hx.prd hp).1
  generalize hw3 : gw_wl (gw_wl (gw_wl u 1 14 (Int64.ofNat (vv S d))) 1 15 (Int64.ofNat (vv S e))) 1 16 (Int64.ofNat (gap S nm dn d e)) = w3
  have k1 : w3.1 = u.1 := by rw [← hw3]; rfl
  have k2 : w3.2.2 = u.2.2 := by rw [← hw3]; rfl
  have k3 : ∀ a k, ¬ (a = 1 ∧ 14 ≤ k ∧ k ≤ 16) → w3.2.1 a k = u.2.1 a k := fun a k q => by rw [← hw3, wl_ne (by omega), wl_ne (by omega), wl_ne (by omega)]
  have k4 : w3.2.1 1 14 = Int64.ofNat (vv S d) := by rw [← hw3, wl_ne (by omega), wl_ne (by omega), wl_same]
  have k5 : w3.2.1 1 15 = Int64.ofNat (vv S e) := by rw [← hw3, wl_ne (by omega), wl_same]
  have k6 : w3.2.1 1 16 = Int64.ofNat (gap S nm dn d e) := by rw [← hw3, wl_same]
  have hpre : gf_Trains_tryTrain F gv_z u 1 (Int64.ofNat (vv S d)) (Int64.ofNat (vv S e)) = if (lg_cmp (u.2.1 1 15) (0 : Int64)) = 0 then gf_Trains_tryTrain_b44 F gv_z u 1 (Int64.ofNat (vv S d)) (Int64.ofNat (vv S e)) (Int64.ofNat (gap S nm dn d e)) else (gf_cl (gf_Trains_isBetter F gv_z u 1 (Int64.ofNat (vv S d)) (Int64.ofNat (vv S e)) (Int64.ofNat (gap S nm dn d e))) fun a18 u16 => if a18 = 0 then gf_Trains_tryTrain_b60 F gv_z u16 else (gf_Trains_tryTrain_b44 F gv_z u16 1 (Int64.ofNat (vv S d)) (Int64.ofNat (vv S e)) (Int64.ofNat (gap S nm dn d e)))) := by
    have ab := abs64 (A := pP S d * dn) (B := pP S e * nm) (by omega) (by omega)
    refine tr_try0 (a9 := Int64.ofNat (pP S d)) (a12 := Int64.ofNat (pP S e)) (by rw [tr_product d1, d2]) (by rw [tr_product e1, e2]) ?_
    rw [h4, h5, i64_mul, i64_mul]
    exact ab
  have h44 : gf_Trains_tryTrain_b44 F gv_z u 1 (Int64.ofNat (vv S d)) (Int64.ofNat (vv S e)) (Int64.ofNat (gap S nm dn d e)) = some w3 := by
    unfold gf_Trains_tryTrain_b44 gf_Trains_tryTrain_b60
    simp only [gf_nm]
    rw [hw3]
  rw [hpre]
  rcases hB with ⟨b1, b2⟩ | ⟨bd, be, b1, b2, b3, b4, b5, b6, b7⟩
  · rw [if_pos (lgc_zero.mpr (by rw [b1])), h44]
    refine ⟨w3, rfl, k1, k2, k3, Or.inr ⟨d, e, k4, k5, k6, hd, he, Or.inr ⟨rfl, rfl⟩, fun d' e' h => ?_⟩⟩
    rcases h with h | ⟨h1, h2⟩
    · exact absurd h (b2 d' e')
    · rw [h1, h2]; exact bt_irr
  · have hv0 : 0 < vv S be := by
      have := pos be b5
      unfold vv
      omega
    have hv1 := (vv_lt hp b5).1
    rw [if_neg (fun q => by have := lgc_zero.mp q; rw [b2, i64_nat (by omega), show (0 : Int64).toInt = 0 from rfl] at this; omega)]
    obtain ⟨x, x1, x2⟩ := tr_better (F := F) hF (u := u) hp h6 hd he b4 b5 hn hdn b1 b2 b3
    rw [x1]
    simp only [gf_cl]
    rcases x2 with ⟨x2, x3⟩ | ⟨x2, x3⟩
    · rw [if_neg (by rw [x2]; decide), h44]
      refine ⟨w3, rfl, k1, k2, k3, Or.inr ⟨d, e, k4, k5, k6, hd, he, Or.inr ⟨rfl, rfl⟩, fun d' e' h => ?_⟩⟩
      rcases h with h | ⟨h1, h2⟩
      · exact bt_tr (pos _ b5) (pos _ he) (pos _ (hX d' e' h).2) (bt_asym x3) (b7 d' e' h)
      · rw [h1, h2]; exact bt_irr
    · rw [if_pos x2]
      refine ⟨u, rfl, rfl, rfl, fun _ _ _ => rfl, Or.inr ⟨bd, be, b1, b2, b3, b4, b5, Or.inl b6, fun d' e' h => ?_⟩⟩
      rcases h with h | ⟨h1, h2⟩
      · exact b7 d' e' h
      · rw [h1, h2]; exact x3
