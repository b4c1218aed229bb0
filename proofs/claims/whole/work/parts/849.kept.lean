theorem Sp.congr {p : Int} {R : Nat → Nat → Int} {m n : Nat} {v w : Nat → Int} (h : Sp p R m n v) (e : ∀ c, c < n → cg p (w c) (v c)) : Sp p R m n w := by
  obtain ⟨y, hy⟩ := h
  exact ⟨y, fun c hc => (e c hc).trans (hy c hc)⟩
theorem Sp.add {p : Int} {R : Nat → Nat → Int} {m n : Nat} {v w : Nat → Int} (h : Sp p R m n v) (g : Sp p R m n w) : Sp p R m n (fun c => v c + w c) := by
  obtain ⟨y, hy⟩ := h
  obtain ⟨z, hz⟩ := g
  refine ⟨fun r => y r + z r, fun c hc => ?_⟩
  have e : sm (fun r => (y r + z r) * R r c) m = sm (fun r => y r * R r c) m + sm (fun r => z r * R r c) m := by
    rw [← sm_add]
    exact sm_congr (fun r _ => Int.add_mul _ _ _)
  rw [e]
  exact (hy c hc).add (hz c hc)
theorem Sp.smul {p : Int} {R : Nat → Nat → Int} {m n : Nat} {v : Nat → Int} (t : Int) (h : Sp p R m n v) : Sp p R m n (fun c => t * v c) := by
  obtain ⟨y, hy⟩ := h
  refine ⟨fun r => t * y r, fun c hc => ?_⟩
  have e : sm (fun r => t * y r * R r c) m = t * sm (fun r => y r * R r c) m := by
    rw [← sm_mul]
    exact sm_congr (fun r _ => Int.mul_assoc _ _ _)
  rw [e]
  exact (hy c hc).mul t
theorem Sp.zero {p : Int} {R : Nat → Nat → Int} {m n : Nat} : Sp p R m n (fun _ => 0) := ⟨fun _ => 0, fun c _ => by rw [sm_zero (fun r _ => Int.zero_mul _)]; exact cg.refl 0⟩
theorem Sp.sum {p : Int} {R : Nat → Nat → Int} {m n : Nat} {X : Nat → Nat → Int} (z : Nat → Int) : ∀ {q : Nat}, (∀ i, i < q → Sp p R m n (X i)) → Sp p R m n (fun c => sm (fun i => z i * X i c) q)
  | 0, _ => Sp.zero
  | q + 1, h => (Sp.sum z (fun i hi => h i (by omega))).add ((h q (by omega)).smul (z q))
theorem Sp.mem {p : Int} {R : Nat → Nat → Int} {m n r : Nat} (hr : r < m) : Sp p R m n (R r) := by
  refine ⟨fun i => if i = r then 1 else 0, fun c hc => ?_⟩
  rw [sm_one hr (fun j hj hne => by dsimp only; rw [if_neg hne, Int.zero_mul])]
  dsimp only
  rw [if_pos rfl, Int.one_mul]
  exact cg.refl _
theorem Sp.trans {p : Int} {R X : Nat → Nat → Int} {m n q : Nat} {v : Nat → Int} (h : Sp p X q n v) (g : ∀ i, i < q → Sp p R m n (X i)) : Sp p R m n v := by
  obtain ⟨y, hy⟩ := h
  exact (Sp.sum y g).congr hy
theorem Sp.mono {p : Int} {R : Nat → Nat → Int} {m m' n : Nat} {v : Nat → Int} (h : Sp p R m n v) (hm : m ≤ m') : Sp p R m' n v := h.trans (fun _ hi => Sp.mem (by omega))
theorem Sp.less {p : Int} {R : Nat → Nat → Int} {m n n' : Nat} {v : Nat → Int} (h : Sp p R m n v) (hn : n' ≤ n) : Sp p R m n' v := by
  obtain ⟨y, hy⟩ := h
  exact ⟨y, fun c hc => hy c (by omega)⟩
/-- the rows W span what the first m of R span: their spans hold each other, and the 61st places are told by R -/
def SI (p n : Nat) (R : Nat → Nat → Int) (m q : Nat) (W : Nat → Nat → Nat) : Prop := (∀ i, i < q → Sp p R m 61 (fun c => (W i c : Int))) ∧ (∀ r, r < m → Sp p (fun i c => (W i c : Int)) q n (R r))
theorem SI.none {p n : Nat} {R : Nat → Nat → Int} {m q : Nat} {W : Nat → Nat → Nat} {v L L' : Nat → Nat} (h : SI p n R m q W) (hn : n ≤ 60) (hL : ∀ c, c < 61 → cg p (L c) (R m c)) (h1 : ∀ c, c < 61 → cg p (L' c) ((L c : Int) - sm (fun i => (L (v i) : Int) * (W i c : Int)) q)) (h0 : ∀ c, c < n → L' c = 0) : SI p n R (m + 1) q W := by
  refine ⟨fun i hi => (h.1 i hi).mono (by omega), fun r hr => ?_⟩
  by_cases e : r < m
  · exact h.2 r e
  · have : r = m := by omega
    subst this
    refine ⟨fun i => (L (v i) : Int), fun c hc => ?_⟩
    have h2 := h1 c (by omega)
    rw [h0 c hc] at h2
    refine (hL c (by omega)).symm.trans ?_
    have h3 := h2.symm.add (cg.refl (sm (fun i => (L (v i) : Int) * (W i c : Int)) q))
    rw [Int.sub_add_cancel] at h3
    have e : ((0 : Nat) : Int) + sm (fun i => (L (v i) : Int) * (W i c : Int)) q = sm (fun i => (L (v i) : Int) * (W i c : Int)) q := by simp
    rw [e] at h3
    exact h3
theorem cg.emod {p : Nat} (a : Nat) : cg p ((a % p : Nat) : Int) (a : Int) := by
  rw [Int.natCast_emod]
  exact cg.mod
theorem SI.kept {p n : Nat} {R : Nat → Nat → Int} {m q a t : Nat} {W W' : Nat → Nat → Nat} {v L L' : Nat → Nat} (h : SI p n R m q W) (hn : n ≤ 60) (ha : a < n) (hL : ∀ c, c < 61 → cg p (L c) (R m c)) (h1 : ∀ c, c < 61 → cg p (L' c) ((L c : Int) - sm (fun i => (L (v i) : Int) * (W i c : Int)) q)) (ht : t * L' a % p = 1) (hp : 1 < p) (hq : ∀ c, c < 61 → W' q c = L' c * t % p) (hj : ∀ j, j < q → W j a < p ∧ ∀ c, c < 61 → W' j c = (W j c + (p - W j a) * W' q c) % p) : SI p n R (m + 1) (q + 1) W' := by
  have hnew : ∀ c, c < 61 → cg p (W' q c) ((t : Int) * (L' c : Int)) := fun c hc => by
    rw [hq c hc]
    refine (cg.emod _).trans ?_
    rw [Int.natCast_mul, Int.mul_comm]
    exact cg.refl _
  have hold : ∀ j, j < q → ∀ c, c < 61 → cg p (W' j c) ((W j c : Int) + (-(W j a : Int)) * (W' q c : Int)) := fun j hjq c hc => by
    rw [(hj j hjq).2 c hc]
    refine (cg.emod _).trans ?_
    have hle := (hj j hjq).1
    rw [Int.natCast_add, Int.natCast_mul, Int.natCast_sub (by omega)]
    refine (cg.refl _).add (cg.mul' _ ⟨1, by omega⟩)
  have s1 : ∀ i, i < q → Sp p R (m + 1) 61 (fun c => (W i c : Int)) := fun i hi => (h.1 i hi).mono (by omega)
  have sL' : Sp p R (m + 1) 61 (fun c => (L' c : Int)) := by
    refine Sp.congr (v := fun c => R m c + sm (fun i => (-(L (v i) : Int)) * (W i c : Int)) q) ((Sp.mem (by omega)).add (Sp.sum _ s1)) (fun c hc => ?_)
    refine (h1 c hc).trans ?_
    have e : sm (fun i => (-(L (v i) : Int)) * (W i c : Int)) q = - sm (fun i => (L (v i) : Int) * (W i c : Int)) q := by
      rw [show - sm (fun i => (L (v i) : Int) * (W i c : Int)) q = -1 * sm (fun i => (L (v i) : Int) * (W i c : Int)) q by omega, ← sm_mul]
      exact sm_congr (fun i _ => by rw [Int.neg_mul]; omega)
    rw [e]
    exact (hL c hc).add (cg.refl _)
  have sN : Sp p R (m + 1) 61 (fun c => (W' q c : Int)) := (sL'.smul (t : Int)).congr hnew
  refine ⟨fun i hi => ?_, ?_⟩
  · by_cases e : i = q
    · subst e; exact sN
    · exact ((s1 i (by omega)).add (sN.smul _)).congr (hold i (by omega))
  · -- the old rows and the line in the new rows' span
    have m1 : ∀ i, i < q + 1 → Sp p (fun i c => (W' i c : Int)) (q + 1) n (fun c => (W' i c : Int)) := fun i hi => Sp.mem (R := fun i c => (W' i c : Int)) hi
    have o1 : ∀ i, i < q → Sp p (fun i c => (W' i c : Int)) (q + 1) n (fun c => (W i c : Int)) := fun i hi => by
      refine ((m1 i (by omega)).add ((m1 q (by omega)).smul (W i a : Int))).congr (fun c hc => ?_)
      have e := (hold i hi c (by omega)).add (cg.refl ((W i a : Int) * (W' q c : Int)))
      rw [Int.neg_mul, Int.neg_add_cancel_right] at e
      exact e.symm
    have oL' : Sp p (fun i c => (W' i c : Int)) (q + 1) n (fun c => (L' c : Int)) := by
      refine ((m1 q (by omega)).smul (L' a : Int)).congr (fun c hc => ?_)
      have e1 := (hnew c (by omega)).mul (L' a : Int)
      refine cg.trans ?_ e1.symm
      have e2 : cg p (((t * L' a : Nat) : Int)) 1 := by
        have := (cg.emod (p := p) (t * L' a)).symm
        rw [ht] at this
        exact this
      have e3 := (e2.mul' (L' c : Int)).symm
      rw [Int.one_mul, Int.natCast_mul] at e3
      rw [show (L' a : Int) * ((t : Int) * (L' c : Int)) = (t : Int) * (L' a : Int) * (L' c : Int) by rw [Int.mul_left_comm, Int.mul_assoc]]
      exact e3
    intro r hr
    by_cases e : r < m
    · exact (h.2 r e).trans o1
    · have : r = m := by omega
      subst this
      refine (oL'.add (Sp.sum (fun i => (L (v i) : Int)) o1)).congr (fun c hc => ?_)
      refine (hL c (by omega)).symm.trans ?_
      have e := (h1 c (by omega)).add (cg.refl (sm (fun i => (L (v i) : Int) * (W i c : Int)) q))
      rw [Int.sub_add_cancel] at e
      exact e.symm
/-- as many places as numbers at most -/
theorem inj_le {k n : Nat} {t : Nat → Nat} (h1 : ∀ l, l < k → t l < n) (h2 : ∀ l m, l < k → m < k → t l = t m → l = m) : k ≤ n := by
  have h := sm_inj (f := fun _ => 1) (fun _ => by decide) h1 h2
  have e : ∀ m : Nat, sm (fun _ => (1 : Int)) m = m := fun m => by
    induction m with
    | zero => rfl
    | succ m ih => show sm (fun _ => (1 : Int)) m + 1 = _; rw [ih]; omega
  rw [e, e] at h
  omega
/-- the slots that the elimination writes -/
def Ks (a : Nat) : Prop := a = 692 ∨ a = 694
def Kt (a k : Nat) : Prop := a = 693 ∨ a = 670 ∧ k = 41
theorem gm_keep {F : Nat} (hF : 2000 ≤ F) {u : gw_St} {p n q a : Nat} {W : Nat → Nat → Nat} {v L : Nat → Nat} (hr : gv_Rf u) (hp : Pm p) (hp2 : p < 2147483648) (hR : Rr u p n q W v) (hL : Ln u p L) (ha : a < n) (hLa : L a ≠ 0) (hLv : ∀ i, i < q → L (v i) = 0) : ∃ w W' v' t, gf_Model_keep F gv_z u 670 (Int32.ofNat a) (Int64.ofNat p) = some w ∧ Gf Ks Kt u w ∧ Rr w p n (q + 1) W' v' ∧ t * L a % p = 1 ∧ (∀ c, c < 61 → W' q c = L c * t % p) ∧ (∀ j, j < q → W j a < p ∧ ∀ c, c < 61 → W' j c = (W j c + (p - W j a) * W' q c) % p) := by
  obtain ⟨r1, r2, r3, r4, r5, r6, r7⟩ := id hR
  have hp1 := hp.1
  have hla := hL a (by omega)
  obtain ⟨t, e1, ht, ht1⟩ := gm_power (F := F) hF (z := gv_z) (u := u) hp hp2 hla.2 hLa
  have hvinj : ∀ l m, l < q → m < q → v l = v m → l = m := fun l m hl hm e => by
    have h1 := r7 l m hl hm
    rw [← e, r7 l l hl hl, if_pos rfl] at h1
    by_cases c : l = m
    · exact c
    · rw [if_neg c] at h1; omega
  have hva : ∀ l, l < q → v l ≠ a := fun l hl e => hLa (by rw [← e]; exact hLv l hl)
  have hq1 : q + 1 ≤ n := inj_le (t := fun i => if i = q then a else v i) (fun l hl => by
      by_cases c : l = q
      · rw [if_pos c]; exact ha
      · rw [if_neg c]; exact (r5 l (by omega)).2) (fun l m hl hm e => by
      by_cases c : l = q
      · by_cases d : m = q
        · omega
        · rw [if_pos c, if_neg d] at e
          exact absurd e.symm (hva m (by omega))
      · by_cases d : m = q
        · rw [if_neg c, if_pos d] at e
          exact absurd e (hva l (by omega))
        · rw [if_neg c, if_neg d] at e
          exact hvinj l m (by omega) (by omega) e)
  obtain ⟨w1, e2, f1, l1⟩ := gm_kp0 (F := F) hF (a := Int32.ofNat a) hr hp1 hp2 hL ht
  have hrn1 : Rn w1 p q W := fun j hj c hc => by rw [f1.2.2 692 (by omega)]; exact r6 j hj c hc
  obtain ⟨w2, e3, f2, n2⟩ := gm_kp2 (F := F) hF (a := a) (hr.lf f1) hp1 hp2 r1 (by rw [f1.1]; exact r3) (by omega) hrn1 l1
  have l2 : Ln w2 p (fun c => L c * t % p) := fun c hc => by rw [f2.2.2 694 (by omega)]; exact l1 c hc
  obtain ⟨w3, e4, f3, n3, g1, g2, g3⟩ := gm_kp3 (F := F) hF (a := a) ((hr.lf f1).lf f2) r1 (by rw [f2.1, f1.1]; exact r3) (by omega) n2 l2
  have gf : Gf Ks Kt u w3 := (f1.gf (fun a h => Or.inr h)).trans ((f2.gf (fun a h => Or.inl h)).trans (f3.mono (fun a h => Or.inl h) (fun a k h => h)))
  refine ⟨w3, _, fun i => if i = q then a else v i, t, ?_, gf, ⟨by omega, r2, g1, ?_, fun i hi => ?_, n3, ?_⟩, ht1, fun c hc => ?_, fun j hj => ⟨(r6 j hj a (by omega)).2, fun c hc => ?_⟩⟩
  · show gf_Model_keep_b0 F gv_z u 670 (Int32.ofNat a) (Int64.ofNat p) = _
    unfold gf_Model_keep_b0
    rw [hr.get rfl gv_r670_42, gnn, if_neg (gi_ix (by rw [gv_l694]; omega) (by omega)), i32_clamp (by omega), hla.1, e1]
    show gf_Model_keep_L20 F gv_z F u 670 (Int32.ofNat a) (Int64.ofNat p) (Int64.ofNat t) 0 = _
    rw [e2, e3, e4]
  · rw [gf.2.2 670 18 (by unfold Kt; omega)]; exact r4
  · dsimp only
    by_cases c : i = q
    · rw [if_pos c, c]; exact ⟨g2, ha⟩
    · rw [if_neg c, g3 i (by omega), f2.1, f1.1]; exact r5 i (by omega)
  · have hNa : L a * t % p = 1 := by rw [Nat.mul_comm]; exact ht1
    have hNv : ∀ i, i < q → L (v i) * t % p = 0 := fun i hi => by rw [hLv i hi, Nat.zero_mul, Nat.zero_mod]
    intro i j hi hj
    dsimp only
    by_cases c : i = q
    · rw [if_pos c]
      by_cases d : j = q
      · rw [if_pos d, if_pos (by omega)]; exact hNa
      · rw [if_neg d, if_neg (by omega)]; exact hNv j (by omega)
    · rw [if_neg c]
      have hwa := (r6 i (by omega) a (by omega)).2
      by_cases d : j = q
      · rw [if_pos d, if_neg (by omega), hNa, Nat.mul_one, Nat.add_sub_cancel' (by omega), Nat.mod_self]
      · rw [if_neg d, hNv j (by omega), Nat.mul_zero, Nat.add_zero, r7 i j (by omega) (by omega)]
        by_cases g : i = j
        · rw [if_pos g, Nat.mod_eq_of_lt hp1]
        · rw [if_neg g, Nat.zero_mod]
  · rw [if_pos rfl]
  · rw [if_neg (by omega), if_pos rfl]
