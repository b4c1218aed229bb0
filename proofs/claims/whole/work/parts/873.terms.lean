theorem gv_r22_3 : gv_u.2.2 22 3 = 26 := by decide +kernel
theorem gv_r22_4 : gv_u.2.2 22 4 = 27 := by decide +kernel
theorem gv_r22_5 : gv_u.2.2 22 5 = 28 := by decide +kernel
theorem gv_l25 : gv_z.2.2 25 = 60 := by decide +kernel
theorem gv_l26 : gv_z.2.2 26 = 3 := by decide +kernel
theorem gv_l27 : gv_z.2.2 27 = 3 := by decide +kernel
/-- the slots of the terms -/
def Kp (a k : Nat) : Prop := a = 26 ∨ a = 27 ∨ a = 22 ∧ k = 13
theorem eq_addTerm {F : Nat} {u : gw_St} {c : Nat} {x y : Int32} (hr : gv_Rf u) (hc : c < 3) (h : u.1 22 13 = Int32.ofNat c) : ∃ w, gf_Equations_addTerm F gv_z u 22 x y = some w ∧ Gf (fun _ => False) Kp u w ∧ w.1 22 13 = Int32.ofNat (c + 1) ∧ w.1 26 c = x ∧ w.1 27 c = y ∧ ∀ t, t < c → w.1 26 t = u.1 26 t ∧ w.1 27 t = u.1 27 t := by
  have g1 : Gf (fun _ => False) Kp u (gw_wi u 26 c x) := Gf.wi (Or.inl rfl)
  have g2 : Gf (fun _ => False) Kp (gw_wi u 26 c x) (gw_wi (gw_wi u 26 c x) 27 c y) := Gf.wi (Or.inr (Or.inl rfl))
  have g3 : Gf (fun _ => False) Kp (gw_wi (gw_wi u 26 c x) 27 c y) (gw_wi (gw_wi (gw_wi u 26 c x) 27 c y) 22 13 (Int32.ofNat (c + 1))) := Gf.wi (Or.inr (Or.inr ⟨rfl, rfl⟩))
  have r1 := hr.gf g1
  have e1 : (gw_wi u 26 c x).1 22 13 = Int32.ofNat c := by rw [wi_ne (by omega)]; exact h
  have e2 : (gw_wi (gw_wi u 26 c x) 27 c y).1 22 13 = Int32.ofNat c := by rw [wi_ne (by omega)]; exact e1
  refine ⟨_, ?_, g1.trans (g2.trans g3), wi_same, ?_, ?_, fun t ht => ⟨?_, ?_⟩⟩
  · show gf_Equations_addTerm_b0 F gv_z u 22 x y = _
    unfold gf_Equations_addTerm_b0
    rw [hr.get rfl gv_r22_4, gnn, h, if_neg (gi_ix (by rw [gv_l26]; omega) (by omega)), i32_clamp (by omega)]
    simp only [gf_nm]
    rw [r1.get rfl gv_r22_5, gnn, e1, if_neg (gi_ix (by rw [gv_l27]; omega) (by omega)), i32_clamp (by omega), e2, show Int32.ofNat c + 1 = Int32.ofNat (c + 1) from gw_iS]
  · rw [wi_ne (by omega), wi_ne (by omega), wi_same]
  · rw [wi_ne (by omega), wi_same]
  · rw [wi_ne (by omega), wi_ne (by omega), wi_ne (by omega)]
  · rw [wi_ne (by omega), wi_ne (by omega), wi_ne (by omega)]
/-- the terms of a relation: gear and factor -/
def Tm (w : gw_St) (n cnt : Nat) (G : Nat → Nat) (f : Nat → Int) : Prop := cnt ≤ 3 ∧ w.1 22 13 = Int32.ofNat cnt ∧ (∀ t, t < cnt → w.1 26 t = Int32.ofNat (G t) ∧ G t < n ∧ (w.1 27 t).toInt = f t ∧ -2000 ≤ f t ∧ f t ≤ 2000) ∧ ∀ t t', t < cnt → t' < cnt → G t = G t' → t = t'
def two {α : Type} (a b c : α) (t : Nat) : α := if t = 0 then a else if t = 1 then b else c
theorem Kp_wk : ∀ a k, Kp a k → gv_T_wk a k = false := fun a k h => by
  unfold Kp at h
  unfold gv_T_wk
  rcases h with h | h | ⟨h, g⟩
  · subst h; rfl
  · subst h; rfl
  · subst h; subst g; rfl
theorem eq_two {F : Nat} {u : gw_St} {n A B : Nat} {x y : Int32} (hr : gv_Rf u) (h0 : u.1 22 13 = Int32.ofNat 0) (hA : A < n) (hB : B < n) (hAB : A ≠ B) (hx : -2000 ≤ x.toInt ∧ x.toInt ≤ 2000) (hy : -2000 ≤ y.toInt ∧ y.toInt ≤ 2000) : ∃ w1 w2, gf_Equations_addTerm F gv_z u 22 (Int32.ofNat A) x = some w1 ∧ gf_Equations_addTerm F gv_z w1 22 (Int32.ofNat B) y = some w2 ∧ Gf (fun _ => False) Kp u w2 ∧ Tm w2 n 2 (two A B 0) (two x.toInt y.toInt 0) := by
  obtain ⟨w1, a1, a2, a3, a4, a5, -⟩ := eq_addTerm (F := F) (x := Int32.ofNat A) (y := x) hr (show 0 < 3 by omega) h0
  obtain ⟨w2, b1, b2, b3, b4, b5, b6⟩ := eq_addTerm (F := F) (x := Int32.ofNat B) (y := y) (hr.gf a2) (show 1 < 3 by omega) a3
  refine ⟨w1, w2, a1, b1, a2.trans b2, by omega, b3, fun t ht => ?_, fun t t' ht ht' e => ?_⟩
  · have : t = 0 ∨ t = 1 := by omega
    rcases this with q | q
    · subst q
      exact ⟨by rw [(b6 0 (by omega)).1]; exact a4, hA, by rw [(b6 0 (by omega)).2, a5]; rfl, hx⟩
    · subst q
      exact ⟨b4, hB, by rw [b5]; rfl, hy⟩
  · have : t = 0 ∨ t = 1 := by omega
    have : t' = 0 ∨ t' = 1 := by omega
    unfold two at e
    rcases ‹t = 0 ∨ t = 1› with q | q <;> rcases this with q' | q' <;> subst q <;> subst q' <;> simp at e ⊢ <;> omega
theorem eq_three {F : Nat} {u : gw_St} {n A B C : Nat} {x y z : Int32} (hr : gv_Rf u) (h : Tm u n 2 (two A B 0) (two x.toInt y.toInt 0)) (hC : C < n) (hAC : A ≠ C) (hBC : B ≠ C) (hz : -2000 ≤ z.toInt ∧ z.toInt ≤ 2000) : ∃ w, gf_Equations_addTerm F gv_z u 22 (Int32.ofNat C) z = some w ∧ Gf (fun _ => False) Kp u w ∧ Tm w n 3 (two A B C) (two x.toInt y.toInt z.toInt) := by
  obtain ⟨t1, t2, t3, t4⟩ := h
  obtain ⟨w, b1, b2, b3, b4, b5, b6⟩ := eq_addTerm (F := F) (x := Int32.ofNat C) (y := z) hr (show 2 < 3 by omega) t2
  refine ⟨w, b1, b2, by omega, b3, fun t ht => ?_, fun t t' ht ht' e => ?_⟩
  · have : t = 0 ∨ t = 1 ∨ t = 2 := by omega
    rcases this with q | q | q
    · subst q
      obtain ⟨c1, c2, c3, c4⟩ := t3 0 (by omega)
      exact ⟨by rw [(b6 0 (by omega)).1]; exact c1, c2, by rw [(b6 0 (by omega)).2]; exact c3, c4⟩
    · subst q
      obtain ⟨c1, c2, c3, c4⟩ := t3 1 (by omega)
      exact ⟨by rw [(b6 1 (by omega)).1]; exact c1, c2, by rw [(b6 1 (by omega)).2]; exact c3, c4⟩
    · subst q
      exact ⟨b4, hC, by rw [b5]; rfl, hz⟩
  · have h01 : A ≠ B := fun q => absurd (t4 0 1 (by omega) (by omega) (by unfold two; simp; exact q)) (by decide)
    have : t = 0 ∨ t = 1 ∨ t = 2 := by omega
    have : t' = 0 ∨ t' = 1 ∨ t' = 2 := by omega
    unfold two at e
    rcases ‹t = 0 ∨ t = 1 ∨ t = 2› with q | q | q <;> rcases this with q' | q' | q' <;> subst q <;> subst q' <;> simp at e ⊢ <;> omega
