/-- nothing is changed but longs of the places of S and ints at the slots of T -/
def Gf (S : Nat → Prop) (T : Nat → Nat → Prop) (u w : gw_St) : Prop := w.2.2 = u.2.2 ∧ (∀ p, ¬ S p → ∀ k, w.2.1 p k = u.2.1 p k) ∧ (∀ p k, ¬ T p k → w.1 p k = u.1 p k)
theorem Gf.refl {S : Nat → Prop} {T : Nat → Nat → Prop} {u : gw_St} : Gf S T u u := ⟨rfl, fun _ _ _ => rfl, fun _ _ _ => rfl⟩
theorem Gf.trans {S : Nat → Prop} {T : Nat → Nat → Prop} {u v w : gw_St} (h : Gf S T u v) (g : Gf S T v w) : Gf S T u w := ⟨g.1.trans h.1, fun p hp k => (g.2.1 p hp k).trans (h.2.1 p hp k), fun p k hp => (g.2.2 p k hp).trans (h.2.2 p k hp)⟩
theorem Gf.mono {S S' : Nat → Prop} {T T' : Nat → Nat → Prop} {u w : gw_St} (h : Gf S T u w) (hs : ∀ a, S a → S' a) (ht : ∀ a k, T a k → T' a k) : Gf S' T' u w := ⟨h.1, fun p hp k => h.2.1 p (fun q => hp (hs p q)) k, fun p k hp => h.2.2 p k (fun q => hp (ht p k q))⟩
theorem Lf.gf {S S' : Nat → Prop} {T : Nat → Nat → Prop} {u w : gw_St} (h : Lf S u w) (hs : ∀ a, S a → S' a) : Gf S' T u w := ⟨h.2.1, fun p hp k => h.2.2 p (fun q => hp (hs p q)) k, fun p k _ => by rw [h.1]⟩
theorem Gf.wi {S : Nat → Prop} {T : Nat → Nat → Prop} {u : gw_St} {p k : Nat} {x : Int32} (h : T p k) : Gf S T u (gw_wi u p k x) := ⟨rfl, fun _ _ _ => rfl, fun a j hj => by simp only [gw_wi]; rw [if_neg (fun e => hj (by rw [e.1, e.2]; exact h))]⟩
theorem Gf.wl {S : Nat → Prop} {T : Nat → Nat → Prop} {u : gw_St} {p k : Nat} {x : Int64} (h : S p) : Gf S T u (gw_wl u p k x) := ⟨rfl, fun a ha j => by simp only [gw_wl]; rw [if_neg (fun e => ha (by rw [e.1]; exact h))], fun _ _ _ => rfl⟩
theorem gv_Rf.gf {S : Nat → Prop} {T : Nat → Nat → Prop} {u w : gw_St} (h : gv_Rf u) (f : Gf S T u w) : gv_Rf w := h.eq f.1
/-- the line scaled -/
theorem gm_kp0 {F : Nat} (hF : 2000 ≤ F) {u : gw_St} {p t : Nat} {a : Int32} {L : Nat → Nat} (hr : gv_Rf u) (hp : 1 < p) (hp2 : p < 2147483648) (hL : Ln u p L) (ht : t < p) : ∃ w, gf_Model_keep_L20 F gv_z F u 670 a (Int64.ofNat p) (Int64.ofNat t) 0 = gf_Model_keep_L55 F gv_z F w 670 a (Int64.ofNat p) (Int32.ofNat 0) ∧ Lf (fun a => a = 694) u w ∧ Ln w p (fun c => L c * t % p) := by
  have main := gl_up (σ := gw_St) (N := 61) (L := fun g w k => gf_Model_keep_L20 F gv_z g w 670 a (Int64.ofNat p) (Int64.ofNat t) (Int32.ofNat k)) (I := fun k w => Lf (fun a => a = 694) u w ∧ (∀ c, c < k → w.2.1 694 c = Int64.ofNat (L c * t % p)) ∧ (∀ c, k ≤ c → c < 61 → w.2.1 694 c = Int64.ofNat (L c))) (R := fun r => ∃ w, r = gf_Model_keep_L55 F gv_z F w 670 a (Int64.ofNat p) (Int32.ofNat 0) ∧ Lf (fun a => a = 694) u w ∧ Ln w p (fun c => L c * t % p))
    (fun g w k hI hk => by
      obtain ⟨b1, b2, b3⟩ := hI
      have hrw := hr.lf b1
      have hLk := (hL k hk).2
      have hm : L k * t ≤ 2147483647 * 2147483647 := Nat.mul_le_mul (by omega) (by omega)
      refine ⟨gw_wl w 694 k (Int64.ofNat (L k * t % p)), ⟨b1.trans Lf.wl, fun c hc => ?_, fun c h1 h2 => ?_⟩, ?_⟩
      · simp only [gw_wl, true_and]
        by_cases e : c = k
        · rw [if_pos e, e]
        · rw [if_neg e]; exact b2 c (by omega)
      · simp only [gw_wl, true_and]
        rw [if_neg (by omega)]
        exact b3 c (by omega) h2
      · show gf_Model_keep_S20 F gv_z _ w 670 a (Int64.ofNat p) (Int64.ofNat t) (Int32.ofNat k) = _
        unfold gf_Model_keep_S20
        rw [if_neg (fun e : (60 : Int32) < Int32.ofNat k => by have := (gi_lt (a := 60) (by omega) (by omega)).mp e; omega), hrw.get rfl gv_r670_42, gnn, gnn, if_neg (gi_ix (by rw [gv_l694]; omega) (by omega)), if_neg (i64_ne0 (by omega) (by omega)), if_neg (gi_ix (by rw [gv_l694]; omega) (by omega)), i32_clamp (by omega), b3 k (Nat.le_refl _) hk, i64_mul, i64_rem (by omega) (by omega) (by omega)]
        simp only [gf_nm]
        rw [gw_iS])
    (fun g w hI => by
      obtain ⟨b1, b2, b3⟩ := hI
      refine ⟨w, ?_, b1, fun c hc => ⟨b2 c hc, Nat.mod_lt _ (by omega)⟩⟩
      show gf_Model_keep_S20 F gv_z _ w 670 a (Int64.ofNat p) (Int64.ofNat t) (Int32.ofNat 61) = _
      unfold gf_Model_keep_S20
      rw [if_pos (by decide)]
      rfl)
  exact main 61 0 u F (by omega) ⟨Lf.refl, fun c hc => absurd hc (Nat.not_lt_zero c), fun c _ hc => (hL c hc).1⟩ (by omega)
/-- the rows' numbers alone -/
def Rn (u : gw_St) (p q : Nat) (X : Nat → Nat → Nat) : Prop := ∀ j, j < q → ∀ c, c < 61 → u.2.1 692 (61 * j + c) = Int64.ofNat (X j c) ∧ X j c < p
/-- the line taken from a row -/
theorem gm_kp1 {F : Nat} (hF : 2000 ≤ F) {u : gw_St} {p q i f : Nat} {a : Int32} {X : Nat → Nat → Nat} {N : Nat → Nat} {rc : gw_St → Nat → Int32 → Int64 → Int32 → Option gw_St} (hr : gv_Rf u) (hp : 1 < p) (hp2 : p < 2147483648) (hq : q ≤ 60) (hX : Rn u p q X) (hi : i < q) (hN : Ln u p N) (hf : f < p) : ∃ w, gf_Model_keep_L88 F gv_z rc F u 670 a (Int64.ofNat p) (Int32.ofNat i) (Int64.ofNat f) 0 = rc w 670 a (Int64.ofNat p) (Int32.ofNat (i + 1)) ∧ Lf (fun a => a = 692) u w ∧ Rn w p q (fun j c => if j = i then (X i c + (p - f) * N c) % p else X j c) := by
  have main := gl_up (σ := gw_St) (N := 61) (L := fun g w k => gf_Model_keep_L88 F gv_z rc g w 670 a (Int64.ofNat p) (Int32.ofNat i) (Int64.ofNat f) (Int32.ofNat k)) (I := fun k w => Lf (fun a => a = 692) u w ∧ (∀ j, j < q → ∀ c, c < 61 → w.2.1 692 (61 * j + c) = Int64.ofNat (if j = i ∧ c < k then (X i c + (p - f) * N c) % p else X j c))) (R := fun r => ∃ w, r = rc w 670 a (Int64.ofNat p) (Int32.ofNat (i + 1)) ∧ Lf (fun a => a = 692) u w ∧ Rn w p q (fun j c => if j = i then (X i c + (p - f) * N c) % p else X j c))
    (fun g w k hI hk => by
      obtain ⟨b1, b2⟩ := hI
      have hrw := hr.lf b1
      have hW := (hX i hi k hk).2
      have hwk := b2 i hi k hk
      rw [if_neg (by omega)] at hwk
      have hLk := (hN k hk).2
      have hwn : w.2.1 694 k = Int64.ofNat (N k) := by rw [b1.2.2 694 (by omega)]; exact (hN k hk).1
      have hm : (p - f) * N k ≤ 2147483647 * 2147483647 := Nat.mul_le_mul (by omega) (by omega)
      refine ⟨gw_wl w 692 (61 * i + k) (Int64.ofNat ((X i k + (p - f) * N k) % p)), ⟨b1.trans Lf.wl, fun j hj c hc => ?_⟩, ?_⟩
      · simp only [gw_wl, true_and]
        by_cases e : j = i ∧ c = k
        · rw [if_pos (by omega), if_pos (by omega), e.2]
        · rw [if_neg (by omega), b2 j hj c hc]
          by_cases e2 : j = i ∧ c < k
          · rw [if_pos e2, if_pos (by omega)]
          · rw [if_neg e2, if_neg (by omega)]
      · show gf_Model_keep_S88 F gv_z rc _ w 670 a (Int64.ofNat p) (Int32.ofNat i) (Int64.ofNat f) (Int32.ofNat k) = _
        unfold gf_Model_keep_S88
        rw [if_neg (fun e : (60 : Int32) < Int32.ofNat k => by have := (gi_lt (a := 60) (by omega) (by omega)).mp e; omega), hrw.get rfl gv_r670_39, gnn, gnn, gi61, if_neg (gi_ix (by rw [gv_l692]; omega) (by omega)), hrw.get rfl gv_r670_42, gnn, if_neg (gi_ix (by rw [gv_l694]; omega) (by omega)), if_neg (i64_ne0 (by omega) (by omega)), if_neg (gi_ix (by rw [gv_l692]; omega) (by omega)), i32_clamp (by omega), i32_clamp (by omega), hwk, hwn, i64_sub (by omega) (by omega), i64_mul, i64_add, i64_rem (by omega) (by omega) (by omega)]
        simp only [gf_nm]
        rw [gw_iS])
    (fun g w hI => by
      obtain ⟨b1, b2⟩ := hI
      refine ⟨w, ?_, b1, fun j hj c hc => ⟨?_, ?_⟩⟩
      · show gf_Model_keep_S88 F gv_z rc _ w 670 a (Int64.ofNat p) (Int32.ofNat i) (Int64.ofNat f) (Int32.ofNat 61) = _
        unfold gf_Model_keep_S88 gf_Model_keep_b142
        rw [if_pos (by decide)]
        simp only [gf_nm]
        rw [gw_iS]
      · rw [b2 j hj c hc]
        dsimp only
        by_cases e : j = i
        · rw [if_pos ⟨e, hc⟩, if_pos e]
        · rw [if_neg (by omega), if_neg e]
      · show (if j = i then (X i c + (p - f) * N c) % p else X j c) < p
        by_cases e : j = i
        · rw [if_pos e]; exact Nat.mod_lt _ (by omega)
        · rw [if_neg e]; exact (hX j hj c hc).2)
  exact main 61 0 u F (by omega) ⟨Lf.refl, fun j hj c hc => by rw [if_neg (by omega)]; exact (hX j hj c hc).1⟩ (by omega)
/-- all rows cleared at the new place -/
theorem gm_kp2 {F : Nat} (hF : 2000 ≤ F) {u : gw_St} {p q a : Nat} {W : Nat → Nat → Nat} {N : Nat → Nat} (hr : gv_Rf u) (hp : 1 < p) (hp2 : p < 2147483648) (hq : q ≤ 60) (hq1 : u.1 670 41 = Int32.ofNat q) (ha : a < 61) (hW : Rn u p q W) (hN : Ln u p N) : ∃ w, gf_Model_keep_L55 F gv_z F u 670 (Int32.ofNat a) (Int64.ofNat p) (Int32.ofNat 0) = gf_Model_keep_L151 F gv_z F w 670 (Int32.ofNat a) (Int32.ofNat 0) ∧ Lf (fun a => a = 692) u w ∧ Rn w p q (fun j c => (W j c + (p - W j a) * N c) % p) := by
  have run : ∀ (j i f : Nat) (w : gw_St), i + j = q → j < f → Lf (fun a => a = 692) u w → Rn w p q (fun j c => if j < i then (W j c + (p - W j a) * N c) % p else W j c) → ∃ w', Lf (fun a => a = 692) u w' ∧ Rn w' p q (fun j c => (W j c + (p - W j a) * N c) % p) ∧ gf_Model_keep_L55 F gv_z f w 670 (Int32.ofNat a) (Int64.ofNat p) (Int32.ofNat i) = gf_Model_keep_L151 F gv_z F w' 670 (Int32.ofNat a) (Int32.ofNat 0) := by
    intro j
    induction j with
    | zero =>
      intro i f w hi hf hw hX
      obtain ⟨f, rfl⟩ : ∃ g, f = g + 1 := ⟨f - 1, by omega⟩
      have : i = q := by omega
      subst this
      refine ⟨w, hw, fun j hj c hc => ?_, ?_⟩
      · have h := hX j hj c hc
        dsimp only at h
        rw [if_pos hj] at h
        exact h
      · show gf_Model_keep_S55 F gv_z _ w 670 (Int32.ofNat a) (Int64.ofNat p) (Int32.ofNat i) = _
        unfold gf_Model_keep_S55
        rw [show w.1 670 41 = Int32.ofNat i from by rw [hw.1]; exact hq1, if_pos ((gi_le (by omega) (by omega)).mpr (Nat.le_refl _))]
        rfl
    | succ j ih =>
      intro i f w hi hf hw hX
      obtain ⟨f, rfl⟩ : ∃ g, f = g + 1 := ⟨f - 1, by omega⟩
      have hiq : i < q := by omega
      have hrw := hr.lf hw
      have hxi := hX i hiq a ha
      dsimp only at hxi
      rw [if_neg (by omega)] at hxi
      have hst : gf_Model_keep_L55 F gv_z (f + 1) w 670 (Int32.ofNat a) (Int64.ofNat p) (Int32.ofNat i) = if W i a = 0 then gf_Model_keep_L55 F gv_z f w 670 (Int32.ofNat a) (Int64.ofNat p) (Int32.ofNat (i + 1)) else gf_Model_keep_L88 F gv_z (gf_Model_keep_L55 F gv_z f) F w 670 (Int32.ofNat a) (Int64.ofNat p) (Int32.ofNat i) (Int64.ofNat (W i a)) 0 := by
        show gf_Model_keep_S55 F gv_z _ w 670 (Int32.ofNat a) (Int64.ofNat p) (Int32.ofNat i) = _
        unfold gf_Model_keep_S55 gf_Model_keep_b142
        rw [show w.1 670 41 = Int32.ofNat q from by rw [hw.1]; exact hq1, if_neg (fun e => by have := (gi_le (by omega) (by omega)).mp e; omega), hrw.get rfl gv_r670_39, gnn, gi61, if_neg (gi_ix (by rw [gv_l692]; omega) (by omega)), i32_clamp (by omega), hxi.1]
        simp only [gf_nm]
        have e0 : (0 : Int64).toInt = 0 := rfl
        have eL : (Int64.ofNat (W i a)).toInt = (W i a : Int) := i64_nat (by omega)
        by_cases c : W i a = 0
        · rw [if_pos c, if_pos (lgc_zero.mpr (by rw [eL, e0]; omega)), gw_iS]
        · rw [if_neg c, if_neg (fun q => by have := lgc_zero.mp q; rw [eL, e0] at this; omega)]
      rw [hst]
      by_cases c0 : W i a = 0
      · rw [if_pos c0]
        refine ih (i + 1) f w (by omega) (by omega) hw (fun j hj c hc => ?_)
        have h := hX j hj c hc
        dsimp only at h ⊢
        by_cases e : j = i
        · subst e
          rw [if_neg (by omega)] at h
          rw [if_pos (by omega), c0, Nat.sub_zero, Nat.add_mul_mod_self_left, Nat.mod_eq_of_lt h.2]
          exact h
        · by_cases e2 : j < i
          · rw [if_pos e2] at h; rw [if_pos (by omega)]; exact h
          · rw [if_neg e2] at h; rw [if_neg (by omega)]; exact h
      · rw [if_neg c0]
        obtain ⟨w', d1, d2, d3⟩ := gm_kp1 (F := F) hF (u := w) (a := Int32.ofNat a) (rc := gf_Model_keep_L55 F gv_z f) (N := N) hrw hp hp2 hq hX hiq (fun c hc => by rw [hw.2.2 694 (by omega)]; exact hN c hc) hxi.2
        rw [d1]
        refine ih (i + 1) f w' (by omega) (by omega) (hw.trans d2) (fun j hj c hc => ?_)
        have h := d3 j hj c hc
        dsimp only at h ⊢
        by_cases e : j = i
        · subst e
          rw [if_pos rfl, if_neg (by omega)] at h
          rw [if_pos (by omega)]
          exact h
        · rw [if_neg e] at h
          by_cases e2 : j < i
          · rw [if_pos e2] at h; rw [if_pos (by omega)]; exact h
          · rw [if_neg e2] at h; rw [if_neg (by omega)]; exact h
  obtain ⟨w, a1, a2, a3⟩ := run q 0 F u (by omega) (by omega) Lf.refl (fun j hj c hc => by
    dsimp only
    rw [if_neg (by omega)]
    exact hW j hj c hc)
  exact ⟨w, a3, a1, a2⟩
/-- the line set as the last row -/
theorem gm_kp3 {F : Nat} (hF : 2000 ≤ F) {u : gw_St} {p q a : Nat} {W : Nat → Nat → Nat} {N : Nat → Nat} (hr : gv_Rf u) (hq : q ≤ 60) (hq1 : u.1 670 41 = Int32.ofNat q) (ha : a < 61) (hW : Rn u p q W) (hN : Ln u p N) : ∃ w, gf_Model_keep_L151 F gv_z F u 670 (Int32.ofNat a) (Int32.ofNat 0) = some w ∧ Gf (fun a => a = 692) (fun a k => a = 693 ∨ a = 670 ∧ k = 41) u w ∧ Rn w p (q + 1) (fun j c => if j = q then N c else W j c) ∧ w.1 670 41 = Int32.ofNat (q + 1) ∧ w.1 693 q = Int32.ofNat a ∧ ∀ i, i < q → w.1 693 i = u.1 693 i := by
  have main := gl_up (σ := gw_St) (N := 61) (L := fun g w k => gf_Model_keep_L151 F gv_z g w 670 (Int32.ofNat a) (Int32.ofNat k)) (I := fun k w => Lf (fun a => a = 692) u w ∧ (∀ j, j < q + 1 → ∀ c, c < 61 → j < q ∨ c < k → w.2.1 692 (61 * j + c) = Int64.ofNat (if j = q then N c else W j c))) (R := fun r => ∃ w, r = some w ∧ Gf (fun a => a = 692) (fun a k => a = 693 ∨ a = 670 ∧ k = 41) u w ∧ Rn w p (q + 1) (fun j c => if j = q then N c else W j c) ∧ w.1 670 41 = Int32.ofNat (q + 1) ∧ w.1 693 q = Int32.ofNat a ∧ ∀ i, i < q → w.1 693 i = u.1 693 i)
    (fun g w k hI hk => by
      obtain ⟨b1, b2⟩ := hI
      have hrw := hr.lf b1
      have hwn : w.2.1 694 k = Int64.ofNat (N k) := by rw [b1.2.2 694 (by omega)]; exact (hN k hk).1
      refine ⟨gw_wl w 692 (61 * q + k) (Int64.ofNat (N k)), ⟨b1.trans Lf.wl, fun j hj c hc hjc => ?_⟩, ?_⟩
      · simp only [gw_wl, true_and]
        by_cases e : j = q ∧ c = k
        · rw [if_pos (by omega), if_pos e.1, e.2]
        · rw [if_neg (by omega), b2 j hj c hc (by omega)]
      · show gf_Model_keep_S151 F gv_z _ w 670 (Int32.ofNat a) (Int32.ofNat k) = _
        unfold gf_Model_keep_S151
        rw [if_neg (fun e : (60 : Int32) < Int32.ofNat k => by have := (gi_lt (a := 60) (by omega) (by omega)).mp e; omega), show w.1 670 41 = Int32.ofNat q from by rw [b1.1]; exact hq1, hrw.get rfl gv_r670_39, gnn, hrw.get rfl gv_r670_42, gnn, gi61, if_neg (gi_ix (by rw [gv_l694]; omega) (by omega)), if_neg (gi_ix (by rw [gv_l692]; omega) (by omega)), i32_clamp (by omega), i32_clamp (by omega), hwn]
        simp only [gf_nm]
        rw [gw_iS])
    (fun g w hI => by
      obtain ⟨b1, b2⟩ := hI
      have hrw := hr.lf b1
      have h41 : w.1 670 41 = Int32.ofNat q := by rw [b1.1]; exact hq1
      refine ⟨gw_wi (gw_wi w 693 q (Int32.ofNat a)) 670 41 (Int32.ofNat (q + 1)), ?_, ?_, fun j hj c hc => ⟨b2 j hj c hc (by omega), ?_⟩, ?_, ?_, fun i hi => ?_⟩
      · show gf_Model_keep_S151 F gv_z _ w 670 (Int32.ofNat a) (Int32.ofNat 61) = _
        unfold gf_Model_keep_S151
        rw [if_pos (by decide), hrw.get rfl gv_r670_40, gnn, h41, if_neg (gi_ix (by rw [gv_l693]; omega) (by omega)), i32_clamp (by omega)]
        simp only [gf_nm]
        rw [show (gw_wi w 693 q (Int32.ofNat a)).1 670 41 = Int32.ofNat q from h41, show Int32.ofNat q + 1 = Int32.ofNat (q + 1) from gw_iS]
      · exact (b1.gf (fun _ h => h)).trans ((Gf.wi (Or.inl rfl)).trans (Gf.wi (Or.inr ⟨rfl, rfl⟩)))
      · show (if j = q then N c else W j c) < p
        by_cases e : j = q
        · rw [if_pos e]; exact (hN c hc).2
        · rw [if_neg e]; exact (hW j (by omega) c hc).2
      · simp [gw_wi]
      · simp [gw_wi]
      · simp only [gw_wi]
        rw [if_neg (by omega), if_neg (by omega), b1.1])
  exact main 61 0 u F (by omega) ⟨Lf.refl, fun j hj c hc hjc => by rw [if_neg (by omega)]; exact (hW j (by omega) c hc).1⟩ (by omega)
