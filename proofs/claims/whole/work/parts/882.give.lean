theorem El.bdC {R : Nat → Nat → Int} {m n k l c : Nat} {A : Nat → Nat → Int} {s : Nat → Nat} (h : El R m n A s k) (hb : ∀ r, r < m → Bd n (R r)) (hn : n ≤ 60) (hc : c < n) (hs : ∀ l, l < k → s l ≠ c) : (eC A s k l c).natAbs < 2 ^ 660 := by
  obtain ⟨h1, h2, h3, h4, h5⟩ := h
  have hk := inj_le h2 h3
  have hA : ∀ i, i < k → ps (A i) n ≤ 2000 ∧ ps (fun c => - A i c) n ≤ 2000 := fun i hi => by
    obtain ⟨r, hr, e⟩ := h4 i hi
    rw [e]
    exact hb r hr
  have hd := eC_bound (l := l) (K := 2000) (by omega) hA h2 h3 hc hs
  have e1 : ((2000 : Int)) ^ k = ((2000 ^ k : Nat) : Int) := by
    rw [Int.natCast_pow]
    rfl
  rw [e1] at hd
  have h6 : 2000 ^ k ≤ 2000 ^ 60 := Nat.pow_le_pow_right (by decide) (by omega)
  have h7 : 2000 ^ 60 < 2 ^ 660 := by decide +kernel
  have h8 : (eC A s k l c).natAbs ≤ 2000 ^ k := by omega
  exact Nat.lt_of_le_of_lt (Nat.le_trans h8 h6) h7
theorem El.bdN {R : Nat → Nat → Int} {m n k c : Nat} {A : Nat → Nat → Int} {s : Nat → Nat} (h : El R m n A s k) (hb : ∀ r, r < m + 1 → Bd n (R r)) (hn : n ≤ 60) (hc : c < n) : (eN A s k (R m) c).natAbs < 2 ^ 660 := by
  by_cases e : eN A s k (R m) c = 0
  · rw [e]; exact Nat.pow_pos (by decide)
  · obtain ⟨h2, h3, -⟩ := h.step hc e
    rw [← h3]
    exact h2.bd hb hn
/-- nothing is changed but what is the equations' or the calculator's -/
def Eg (u w : gw_St) : Prop := w.2.1 = u.2.1 ∧ (∀ p k, ¬ (p = 22 ∧ (k = 11 ∨ k = 12)) → w.2.2 p k = u.2.2 p k) ∧ ∀ a i, ¬ (10 ≤ a ∧ a ≤ 44) → w.1 a i = u.1 a i
theorem Eg.refl {u : gw_St} : Eg u u := ⟨rfl, fun _ _ _ => rfl, fun _ _ _ => rfl⟩
theorem Eg.trans {u v w : gw_St} (h : Eg u v) (g : Eg v w) : Eg u w := ⟨g.1.trans h.1, fun p k q => (g.2.1 p k q).trans (h.2.1 p k q), fun a i q => (g.2.2 a i q).trans (h.2.2 a i q)⟩
theorem Eg.of {u w : gw_St} (h : w.2 = u.2) (g : ∀ a i, ¬ (10 ≤ a ∧ a ≤ 44) → w.1 a i = u.1 a i) : Eg u w := ⟨by rw [h], fun p k _ => by rw [h], g⟩
theorem gv_Rf.eg {u w : gw_St} (h : gv_Rf u) (f : Eg u w) : gv_Rf w := fun p k hf => by
  rw [f.2.1 p k (fun e => by
    obtain ⟨e1, e2⟩ := e
    subst e1
    rcases e2 with e2 | e2 <;> subst e2 <;> exact absurd hf (by decide))]
  exact h p k hf
/-- giveColumn -/
theorem eq_give {F : Nat} (hF : 2000 ≤ F) {u : gw_St} {n cr k m a pc : Nat} {R A : Nat → Nat → Int} {s : Nat → Nat} (hr : gv_Rf u) (hn : n ≤ 60) (hE : Eq1 u n cr k A s pc) (hEl : El R m n A s k) (hb : ∀ r, r < m + 1 → Bd n (R r)) (ha : a < n) (hN : eN A s k (R m) a ≠ 0) (hk : k + 1 < 60) (hrow : ∀ c, c < n → (∀ l, l < k → s l ≠ c) → Cw u (60 * k + c) (eN A s k (R m) c)) : ∃ w, gf_Equations_giveColumn F gv_z u 22 (Int32.ofNat a) = some w ∧ Eg u w ∧ Eq1 w n cr (k + 1) (exr A k (R m)) (exr s k a) (84 - pc) := by
  obtain ⟨h1, h2, h3, h4, h5, h6, h7, h8, h9, h10, h11⟩ := id hE
  obtain ⟨hEl2, hD', hC', hCi⟩ := hEl.step ha hN
  have hb0 : ∀ r, r < m → Bd n (R r) := fun r hr => hb r (by omega)
  have hsa : ∀ l, l < k → s l ≠ a := fun l hl e => hN (by rw [← e]; exact eN_piv hl)
  have hpp : 84 - pc = 41 ∨ 84 - pc = 43 := by omega
  have hrp : ∀ {v : gw_St}, gv_Rf v → ∀ p, p = 41 ∨ p = 43 → v.2.2 p 0 = p + 1 + 1 ∧ gv_z.2.2 (p + 1) = 48 := fun hv p hp => by
    rcases hp with e | e <;> subst e
    · exact ⟨hv.get rfl gv_r41_0, gv_l42⟩
    · exact ⟨hv.get rfl gv_r43_0, gv_l44⟩
  have hsx : ∀ l, exr s k a l = if l = k then a else s l := fun l => rfl
  obtain ⟨hp1, hp2⟩ := hrp hr (84 - pc) hpp
  obtain ⟨u1, n1, a1, a2, -, a4⟩ := eq_load (F := F) (p := 84 - pc) (q := 84 - pc + 1) (row := k) (col := a) hr (by omega) (by omega) (by omega) hp1 (by omega) (by omega) (by omega) (hrow a ha hsa)
  have s1 : Wp (fun b => b = 84 - pc ∨ b = 84 - pc + 1) u u1 := a2.wp (Or.inl rfl) (Or.inr rfl)
  have r1 := hr.wp s1
  have hx1 : Wh u1 (84 - pc) (84 - pc + 1) (eN A s k (R m) a) := ⟨n1, a4⟩
  have hfree : ∀ c, c < n → (u.1 25 c = -1 ↔ ∀ l, l < k → s l ≠ c) := fun c hc => by
    refine ⟨fun e l hl q => ?_, fun q => h10 c hc q⟩
    have e2 := h9 l hl
    rw [q, e] at e2
    have := congrArg Int32.toInt e2
    rw [i32_nat (by omega)] at this
    have o : (-1 : Int32).toInt = -1 := rfl
    omega
  -- the rows before it
  have run := gl_up (σ := gw_St) (N := k) (L := fun f w t => gf_Equations_giveColumn_L15 F gv_z f w 22 (Int32.ofNat a) (Int32.ofNat t))
    (I := fun t w => w.2 = u1.2 ∧ (∀ b i, ¬ (28 ≤ b ∧ b ≤ 35) → ¬ (10 ≤ b ∧ b ≤ 15) → ¬ (b = 24 ∧ i < 60 * t) → ¬ (b = 23 ∧ i < 22 * (60 * t)) → w.1 b i = u1.1 b i) ∧ ∀ l, l < t → ∀ c, c < n → (∀ j, j < k → s j ≠ c) → c ≠ a → Cw w (60 * l + c) (eC (exr A k (R m)) (exr s k a) (k + 1) l c))
    (R := fun x => ∃ w, x = some w ∧ Eg u w ∧ Eq1 w n cr (k + 1) (exr A k (R m)) (exr s k a) (84 - pc))
    (fun f w t hI ht => by
      obtain ⟨i1, i2, i3⟩ := hI
      have rw' : gv_Rf w := r1.eq (by rw [i1])
      have same : ∀ b i, ¬ (28 ≤ b ∧ b ≤ 35) → ¬ (10 ≤ b ∧ b ≤ 15) → ¬ (b = 24 ∧ i < 60 * t) → ¬ (b = 23 ∧ i < 22 * (60 * t)) → ¬ (b = 84 - pc ∨ b = 84 - pc + 1) → w.1 b i = u.1 b i := fun b i q1 q2 q3 q4 q5 => by rw [i2 b i q1 q2 q3 q4, s1.2 b q5]
      have e2 : w.2 = u.2 := i1.trans s1.1
      obtain ⟨w', b1, b2, b3, b4⟩ := eq_clear (F := F) hF (u := w) (n := n) (l := t) (k := k) (a := a) (pc := pc) (f := eC A s k t a) (x := eN A s k (R m) a) (D := eD A s k) (y := fun c => eC A s k t c) (z := fun c => eN A s k (R m) c) (q := fun c => eC (exr A k (R m)) (exr s k a) (k + 1) t c) rw' hn h1 (by rw [e2]; exact h2) (by rw [e2]; exact h3) (by rw [same 22 14 (by omega) (by omega) (by omega) (by omega) (by omega)]; exact h4) (by rw [same 22 15 (by omega) (by omega) (by omega) (by omega) (by omega)]; exact h6) ht h7 ha
        (hx1.same (fun i => i2 _ i (by omega) (by omega) (by omega) (by omega)) (fun i => i2 _ i (by omega) (by omega) (by omega) (by omega)))
        (h8.same (fun i => same _ i (by omega) (by omega) (by omega) (by omega) (by omega)) (fun i => same _ i (by omega) (by omega) (by omega) (by omega) (by omega)))
        ((h11 t ht a ha hsa).same (same 24 _ (by omega) (by omega) (by omega) (by omega) (by omega)) (fun i hi => same 23 _ (by omega) (by omega) (by omega) (by omega) (by omega)))
        (fun c hc h25 => by
          rw [same 25 c (by omega) (by omega) (by omega) (by omega) (by omega)] at h25
          have hsc := (hfree c hc).mp h25
          refine ⟨(h11 t ht c hc hsc).same (same 24 _ (by omega) (by omega) (by omega) (by omega) (by omega)) (fun i hi => same 23 _ (by omega) (by omega) (by omega) (by omega) (by omega)), (hrow c hc hsc).same (same 24 _ (by omega) (by omega) (by omega) (by omega) (by omega)) (fun i hi => same 23 _ (by omega) (by omega) (by omega) (by omega) (by omega)), hEl.bdC hb0 hn hc hsc, hEl.bdN hb hn hc, ?_, hCi t ht c⟩
          by_cases q : c = a
          · have : eC (exr A k (R m)) (exr s k a) (k + 1) t c = 0 := by
              have e1 : exr s k a k = a := if_pos rfl
              have e3 : eC (exr A k (R m)) (exr s k a) (k + 1) t (exr s k a k) = 0 := by rw [eC_piv (by omega) (by omega), if_neg (by omega)]
              rw [e1] at e3
              rw [q]; exact e3
            rw [this]; exact Nat.pow_pos (by decide)
          · exact hEl2.bdC hb hn hc (fun l hl => by
              rw [hsx]
              by_cases q2 : l = k
              · rw [if_pos q2]; exact fun e => q e.symm
              · rw [if_neg q2]; exact hsc l (by omega)))
        (hEl.bdC hb0 hn ha hsa) (hEl.bdN hb hn ha) (hEl.bd hb0 hn) hEl.1.1
      refine ⟨w', ⟨b2.trans i1, fun b i q1 q2 q3 q4 => by rw [b3 b i q1 q2 (by omega) (by omega)]; exact i2 b i q1 q2 (by omega) (by omega), fun l hl c hc hsc hca => ?_⟩, ?_⟩
      · by_cases q : l = t
        · rw [q]
          exact b4 c hc (by rw [same 25 c (by omega) (by omega) (by omega) (by omega) (by omega)]; exact (hfree c hc).mpr hsc) hca
        · exact (i3 l (by omega) c hc hsc hca).same (b3 24 _ (by omega) (by omega) (by omega) (by omega)) (fun i hi => b3 23 _ (by omega) (by omega) (by omega) (by omega))
      · show gf_Equations_giveColumn_S15 F gv_z _ w 22 (Int32.ofNat a) (Int32.ofNat t) = _
        unfold gf_Equations_giveColumn_S15
        rw [same 22 15 (by omega) (by omega) (by omega) (by omega) (by omega), h6, if_neg (fun e => by have := (gi_le (by omega) (by omega)).mp e; omega), b1, Option.bind_some]
        simp only [gf_nm]
        rw [gw_iS])
    (fun f w hI => by
      obtain ⟨i1, i2, i3⟩ := hI
      have rw' : gv_Rf w := r1.eq (by rw [i1])
      have same : ∀ b i, ¬ (28 ≤ b ∧ b ≤ 35) → ¬ (10 ≤ b ∧ b ≤ 15) → ¬ (b = 24 ∧ i < 60 * k) → ¬ (b = 23 ∧ i < 22 * (60 * k)) → ¬ (b = 84 - pc ∨ b = 84 - pc + 1) → w.1 b i = u.1 b i := fun b i q1 q2 q3 q4 q5 => by rw [i2 b i q1 q2 q3 q4, s1.2 b q5]
      have e2 : w.2 = u.2 := i1.trans s1.1
      have h15w : w.1 22 15 = Int32.ofNat k := by rw [same 22 15 (by omega) (by omega) (by omega) (by omega) (by omega)]; exact h6
      generalize hg1 : gw_wi w 25 a (Int32.ofNat k) = g1
      generalize hg2 : gw_wi g1 22 15 (Int32.ofNat (k + 1)) = g2
      generalize hg3 : gw_wr g2 22 11 (84 - pc + 1) = g3
      generalize hg4 : gw_wr g3 22 12 (pc + 1) = g4
      have gi : ∀ b i, g4.1 b i = if b = 22 ∧ i = 15 then Int32.ofNat (k + 1) else if b = 25 ∧ i = a then Int32.ofNat k else w.1 b i := fun b i => by
        rw [← hg4, ← hg3, ← hg2, ← hg1]
        rfl
      have gr : ∀ b i, g4.2.2 b i = if b = 22 ∧ i = 12 then pc + 1 else if b = 22 ∧ i = 11 then 84 - pc + 1 else w.2.2 b i := fun b i => by
        rw [← hg4, ← hg3, ← hg2, ← hg1]
        rfl
      have gl : g4.2.1 = w.2.1 := by rw [← hg4, ← hg3, ← hg2, ← hg1]; rfl
      have gi' : ∀ b i, ¬ (b = 22 ∧ i = 15) → b ≠ 25 → g4.1 b i = w.1 b i := fun b i q1 q2 => by rw [gi, if_neg q1, if_neg (by omega)]
      refine ⟨g4, ?_, ⟨by rw [gl, e2], fun p j q => by rw [gr, if_neg (by omega), if_neg (by omega), e2], fun b i q => ?_⟩, hpp, ?_, ?_, ?_, ?_, ?_, hk, ?_, fun l hl => ?_, fun c hc hsc => ?_, fun l hl c hc hsc => ?_⟩
      · show gf_Equations_giveColumn_S15 F gv_z _ w 22 (Int32.ofNat a) (Int32.ofNat k) = _
        unfold gf_Equations_giveColumn_S15
        rw [h15w, if_pos ((gi_le (by omega) (by omega)).mpr (Nat.le_refl _)), rw'.get rfl gv_r22_3, gnn, if_neg (gi_ix (by rw [gv_l25]; omega) (by omega)), i32_clamp (by omega)]
        simp only [gf_nm]
        rw [hg1, show g1.1 22 15 = Int32.ofNat k from by rw [← hg1, wi_ne (by omega)]; exact h15w, gw_iS, hg2, show g2.2.2 22 11 = pc + 1 from by rw [← hg2, ← hg1]; show w.2.2 22 11 = _; rw [e2]; exact h2, gnn, show g2.2.2 22 12 = 84 - pc + 1 from by rw [← hg2, ← hg1]; show w.2.2 22 12 = _; rw [e2]; exact h3, gnn, hg3, hg4]
      · rw [gi, if_neg (by omega), if_neg (by omega), same b i (by omega) (by omega) (by omega) (by omega) (by omega)]
      · rw [gr, if_neg (by omega), if_pos ⟨rfl, rfl⟩]
      · rw [gr, if_pos ⟨rfl, rfl⟩]; omega
      · rw [gi' 22 14 (by omega) (by omega), same 22 14 (by omega) (by omega) (by omega) (by omega) (by omega)]; exact h4
      · rw [gi' 22 16 (by omega) (by omega), same 22 16 (by omega) (by omega) (by omega) (by omega) (by omega)]; exact h5
      · rw [gi, if_pos ⟨rfl, rfl⟩]
      · rw [hD']
        exact hx1.same (fun i => by rw [gi' _ i (by omega) (by omega)]; exact i2 _ i (by omega) (by omega) (by omega) (by omega)) (fun i => by rw [gi' _ i (by omega) (by omega)]; exact i2 _ i (by omega) (by omega) (by omega) (by omega))
      · rw [hsx]
        by_cases q : l = k
        · rw [if_pos q, gi, if_neg (by omega), if_pos ⟨rfl, rfl⟩, q]
        · rw [if_neg q, gi, if_neg (by omega), if_neg (by have := hsa l (by omega); omega), same 25 _ (by omega) (by omega) (by omega) (by omega) (by omega)]
          exact h9 l (by omega)
      · have hca : c ≠ a := by have := hsc k (by omega); rw [hsx, if_pos rfl] at this; exact fun e => this e.symm
        have hsk : ∀ l, l < k → s l ≠ c := fun l hl => by have := hsc l (by omega); rw [hsx, if_neg (by omega)] at this; exact this
        rw [gi, if_neg (by omega), if_neg (by omega), same 25 _ (by omega) (by omega) (by omega) (by omega) (by omega)]
        exact h10 c hc hsk
      · have hca : c ≠ a := by have := hsc k (by omega); rw [hsx, if_pos rfl] at this; exact fun e => this e.symm
        have hsk : ∀ l, l < k → s l ≠ c := fun l hl => by have := hsc l (by omega); rw [hsx, if_neg (by omega)] at this; exact this
        by_cases q : l = k
        · rw [q, hC']
          exact (hrow c hc hsk).same (by rw [gi' _ _ (by omega) (by omega)]; exact same 24 _ (by omega) (by omega) (by omega) (by omega) (by omega)) (fun i hi => by rw [gi' _ _ (by omega) (by omega)]; exact same 23 _ (by omega) (by omega) (by omega) (by omega) (by omega))
        · exact (i3 l (by omega) c hc hsk hca).same (gi' _ _ (by omega) (by omega)) (fun i hi => gi' _ _ (by omega) (by omega)))
  have hst : gf_Equations_giveColumn F gv_z u 22 (Int32.ofNat a) = gf_Equations_giveColumn_L15 F gv_z F u1 22 (Int32.ofNat a) (Int32.ofNat 0) := by
    show gf_Equations_giveColumn_b0 F gv_z u 22 (Int32.ofNat a) = _
    unfold gf_Equations_giveColumn_b0
    rw [h3, gnn, h6, a1, Option.bind_some]
    rfl
  rw [hst]
  exact run k 0 u1 F (by omega) ⟨rfl, fun _ _ _ _ _ _ => rfl, fun l hl => absurd hl (Nat.not_lt_zero l)⟩ (by omega)
