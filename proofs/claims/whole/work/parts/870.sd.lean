theorem QB.perm {R R' : Nat → Nat → Int} {m m' n k : Nat} {D : Int} {s : Nat → Nat} {C : Nat → Nat → Int} (h : QB R m n k D s C) (h1 : ∀ r, r < m' → ∃ r0, r0 < m ∧ ∀ c, c < n → R' r c = R r0 c) (h2 : ∀ r, r < m → ∃ r0, r0 < m' ∧ ∀ c, c < n → R r c = R' r0 c) : QB R' m' n k D s C := by
  obtain ⟨q0, q1, q2, q3, q4⟩ := h
  refine ⟨q0, fun r hr c hc => ?_, fun l hl => ?_, q3, q4⟩
  · obtain ⟨r0, hr0, e⟩ := h1 r hr
    rw [e c hc, q1 r0 hr0 c hc]
    exact sm_congr (fun l hl => by rw [e (s l) (q4 l hl)])
  · apply sp0.mp
    refine (sp0.mpr (q2 l hl)).trans (fun i hi => ?_)
    obtain ⟨r0, hr0, e⟩ := h2 i hi
    exact (Sp.mem hr0).congr (fun c hc => cg0.mpr (e c hc))
theorem rv60 {u : gw_St} {n r j : Nat} (hw : gv_Wk u n r) (hj : j < r) : rv u j 60 = 0 := by
  obtain ⟨⟨k1, -, k3⟩, ⟨a1, -, a3⟩, ⟨b1, -, b3⟩, hab, h3⟩ := wk_rel hw hj
  have hn := hw.1
  have z : ∀ a x, a < n → at1 a x 60 = 0 := fun a x ha => by unfold at1; rw [if_neg (by omega)]
  unfold rv
  by_cases c2 : gk u j = 2
  · rw [if_pos c2, z _ _ a3, z _ _ b3]; rfl
  · rw [if_neg c2]
    by_cases c3 : gk u j = 3
    · rw [if_pos c3, z _ _ a3, z _ _ b3, z _ _ (h3 c3).2.2.1]; rfl
    · rw [if_neg c3, z _ _ a3, z _ _ b3]; rfl
/-- the crank's line before the relations, or behind them -/
theorem cR_perm1 {u : gw_St} {n r cr : Nat} (hn : n ≤ 60) : ∀ i, i < r + 1 → ∃ r0, r0 < r + 1 ∧ ∀ c, c < n → cR u cr i c = apX (rv u) r (at1 cr 1) r0 c := fun i hi => by
  by_cases e : i = 0
  · refine ⟨r, by omega, fun c hc => ?_⟩
    rw [show apX (rv u) r (at1 cr 1) r = at1 cr 1 from if_pos rfl, show cR u cr i = fun c => (cL cr c : Int) from if_pos e]
    unfold cL at1
    dsimp only
    by_cases q : c = cr
    · rw [if_pos q, if_pos (Or.inl q)]; rfl
    · rw [if_neg q, if_neg (by omega)]; rfl
  · refine ⟨i - 1, by omega, fun c hc => ?_⟩
    rw [show apX (rv u) r (at1 cr 1) (i - 1) = rv u (i - 1) from if_neg (by omega), show cR u cr i = rv u (i - 1) from if_neg e]
theorem cR_perm2 {u : gw_St} {n r cr : Nat} (hn : n ≤ 60) : ∀ i, i < r + 1 → ∃ r0, r0 < r + 1 ∧ ∀ c, c < n → apX (rv u) r (at1 cr 1) i c = cR u cr r0 c := fun i hi => by
  by_cases e : i = r
  · refine ⟨0, by omega, fun c hc => ?_⟩
    rw [show apX (rv u) r (at1 cr 1) i = at1 cr 1 from if_pos e, show cR u cr 0 = fun c => (cL cr c : Int) from if_pos rfl]
    unfold cL at1
    dsimp only
    by_cases q : c = cr
    · rw [if_pos q, if_pos (Or.inl q)]; rfl
    · rw [if_neg q, if_neg (by omega)]; rfl
  · refine ⟨i + 1, by omega, fun c hc => ?_⟩
    rw [show apX (rv u) r (at1 cr 1) i = rv u i from if_neg e, show cR u cr (i + 1) = rv u (i + 1 - 1) from if_neg (by omega), Nat.add_sub_cancel]
theorem apX_perm {R R' : Nat → Nat → Int} {m m' n : Nat} {e : Nat → Int} (h : ∀ r, r < m' → ∃ r0, r0 < m ∧ ∀ c, c < n → R' r c = R r0 c) : ∀ r, r < m' + 1 → ∃ r0, r0 < m + 1 ∧ ∀ c, c < n → apX R' m' e r c = apX R m e r0 c := fun r hr => by
  by_cases q : r = m'
  · exact ⟨m, by omega, fun c _ => by rw [show apX R' m' e r = e from if_pos q, show apX R m e m = e from if_pos rfl]⟩
  · obtain ⟨r0, hr0, e0⟩ := h r (by omega)
    exact ⟨r0, by omega, fun c hc => by rw [show apX R' m' e r = R' r from if_neg q, show apX R m e r0 = R r0 from if_neg (by omega)]; exact e0 c hc⟩
/-- the turning that the rows allow: the crank by D, the column of row l by what row l holds at the crank, the others not -/
def Om (A : Nat → Nat → Int) (s : Nat → Nat) (k cr c : Nat) : Int := at1 cr (eD A s k) c + sm (fun l => at1 (s l) (-(eC A s k l cr)) c) k
theorem sm_at1 {f : Nat → Int} {a n : Nat} {x : Int} (h : a < n) : sm (fun c => f c * at1 a x c) n = f a * x := by
  rw [sm_one h (fun c _ hne => by unfold at1; rw [if_neg hne, Int.mul_zero])]
  unfold at1
  rw [if_pos rfl]
theorem Om_dot {A : Nat → Nat → Int} {s : Nat → Nat} {k cr n : Nat} {v : Nat → Int} (hcr : cr < n) (hs : ∀ l, l < k → s l < n) : sm (fun c => v c * Om A s k cr c) n = eN A s k v cr := by
  have e1 : sm (fun c => v c * Om A s k cr c) n = sm (fun c => v c * at1 cr (eD A s k) c + sm (fun l => v c * at1 (s l) (-(eC A s k l cr)) c) k) n := sm_congr (fun c _ => by
    unfold Om
    rw [Int.mul_add, sm_mul])
  rw [e1, sm_add, sm_at1 hcr, sm_comm, sm_congr (g := fun l => - (v (s l) * eC A s k l cr)) (fun l hl => by rw [sm_at1 (hs l hl), Int.mul_neg]), sm_neg]
  unfold eN
  rw [Int.mul_comm]
  omega
theorem Om_cr {A : Nat → Nat → Int} {s : Nat → Nat} {k cr : Nat} (h : ∀ l, l < k → s l ≠ cr) : Om A s k cr cr = eD A s k := by
  unfold Om
  rw [sm_zero (fun l hl => by unfold at1; rw [if_neg (fun e => h l hl e.symm)])]
  unfold at1
  rw [if_pos rfl]
  omega
theorem Om_s {A : Nat → Nat → Int} {s : Nat → Nat} {k cr l : Nat} (h : ∀ l, l < k → s l ≠ cr) (hi : ∀ l j, l < k → j < k → s l = s j → l = j) (hl : l < k) : Om A s k cr (s l) = -(eC A s k l cr) := by
  unfold Om
  rw [sm_one hl (fun j hj hne => by unfold at1; rw [if_neg (fun e => hne (hi j l hj hl e.symm))])]
  unfold at1
  rw [if_neg (h l hl), if_pos rfl]
  omega
/-- gear g is determined by the rows -/
def dtm (A : Nat → Nat → Int) (s : Nat → Nat) (k n cr g : Nat) : Prop := g = cr ∨ ∃ l, l < k ∧ s l = g ∧ ∀ c, c < n → c ≠ cr → (∀ j, j < k → s j ≠ c) → eC A s k l c = 0
theorem el_Sd {u : gw_St} {n r cr k : Nat} {A : Nat → Nat → Int} {s : Nat → Nat} {hd : Nat → Bool} {X Y : Nat → Int} (hw : gv_Wk u n r) (hcr : cr < n) (h : El (rv u) r n A s k) (hs : ∀ l, l < k → s l ≠ cr) (hhd : ∀ g, g < n → (hd g = true ↔ dtm A s k n cr g)) (hXY : ∀ g, g < n → hd g = true → 0 < Y g ∧ Y g < (2 ^ 660 : Nat) ∧ -((2 ^ 660 : Nat) : Int) < X g ∧ X g < (2 ^ 660 : Nat) ∧ Int.gcd (X g) (Y g) = 1 ∧ ∃ h : Int, h ≠ 0 ∧ Om A s k cr g = X g * h ∧ eD A s k = Y g * h) : Sd n (cR u cr) (r + 1) (k + 1) hd X Y ∧ ∃ E, Rk (apX (rv u) r (at1 cr 1)) (r + 1) n (k + 1) E ∧ E.natAbs < 2 ^ 660 := by
  have hn := hw.1
  have hb : ∀ j, j < r → Bd n (rv u j) := fun j hj => bd_rv hw hj
  have hm : apX (rv u) r (at1 cr 1) r = at1 cr 1 := if_pos rfl
  have hNc : ∀ c, eN A s k (apX (rv u) r (at1 cr 1) r) c = eD A s k * at1 cr 1 c := fun c => by rw [hm, eN_at1 hs]
  have hat : at1 cr 1 cr = 1 := if_pos rfl
  have hD0 : eD A s k ≠ 0 := h.1.1
  have hN : eN A s k (apX (rv u) r (at1 cr 1) r) cr ≠ 0 := by rw [hNc, hat, Int.mul_one]; exact hD0
  obtain ⟨h2, hD, hC, hCi⟩ := (h.apx (at1 cr 1)).step hcr hN
  have hb2 : ∀ j, j < r + 1 → Bd n (apX (rv u) r (at1 cr 1) j) := fun j hj => by
    by_cases e : j = r
    · rw [e, hm]; exact bd_at1
    · rw [show apX (rv u) r (at1 cr 1) j = rv u j from if_neg e]; exact hb j (by omega)
  -- names for the rows with the crank
  generalize hA' : exr A k (apX (rv u) r (at1 cr 1) r) = A' at h2 hD hC hCi
  generalize hs' : exr s k cr = s' at h2 hD hC hCi
  have hsk : s' k = cr := by rw [← hs']; exact if_pos rfl
  have hsl : ∀ l, l < k → s' l = s l := fun l hl => by rw [← hs']; exact if_neg (by omega)
  rw [hNc, hat, Int.mul_one] at hD
  have hCl : ∀ l, l < k → ∀ c, eC A' s' (k + 1) l c = eC A s k l c - eC A s k l cr * at1 cr 1 c := fun l hl c => by
    have := hCi l hl c
    rw [hNc, hNc, hat, Int.mul_one, show eC A s k l cr * (eD A s k * at1 cr 1 c) = eD A s k * (eC A s k l cr * at1 cr 1 c) from Int.mul_left_comm _ _ _, ← Int.mul_sub] at this
    exact Int.eq_of_mul_eq_mul_left hD0 this
  have hCk : ∀ c, eC A' s' (k + 1) k c = eD A s k * at1 cr 1 c := fun c => by rw [hC, hNc]
  have hQ := h2.qb.perm (cR_perm1 (u := u) (cr := cr) hn) (cR_perm2 (u := u) (cr := cr) hn)
  have hinj := h.2.2.1
  refine ⟨⟨eD A' s' (k + 1), s', eC A' s' (k + 1), hQ, h2.bd hb2 hn, fun g hg => ⟨fun hh => ?_, fun hh => ?_⟩⟩, _, h2.rk, h2.bd hb2 hn⟩
  · obtain ⟨x1, x2, x3, x4, x5, hh', y1, y2, y3⟩ := hXY g hg hh
    refine ⟨fun c hc => ?_, x1, x2, x3, x4, x5, Om A s k cr, hh', y1, y2, fun i hi => ?_⟩
    · rw [hD]
      rcases (hhd g hg).mp hh with e | ⟨l, hl, e, hz⟩
      · rw [sm_one (j := k) (by omega) (fun l hl hne => by unfold at1; rw [hsl l (by omega), if_neg (by rw [e]; exact hs l (by omega)), Int.zero_mul]), hsk, hCk, e, hat, Int.one_mul]
      · have hlk : l < k + 1 := by omega
        have hrest : ∀ j, j < k + 1 → j ≠ l → at1 g 1 (s' j) * eC A' s' (k + 1) j c = 0 := fun j hj hne => by
          unfold at1
          by_cases q : j = k
          · rw [q, hsk, if_neg (by rw [← e]; exact fun q => hs l hl q.symm), Int.zero_mul]
          · rw [hsl j (by omega), if_neg (fun q' => hne (hinj j l (by omega) hl (by rw [q', e]))), Int.zero_mul]
        rw [sm_one hlk hrest, hsl l hl, e, show at1 g 1 g = 1 from if_pos rfl, Int.one_mul, hCl l hl]
        by_cases q : c = cr
        · rw [q, hat, Int.mul_one, Int.sub_self, show at1 g 1 cr = 0 from if_neg (by rw [← e]; exact fun q => hs l hl q.symm), Int.mul_zero]
        · rw [show at1 cr 1 c = 0 from if_neg q, Int.mul_zero, Int.sub_zero]
          by_cases w : ∃ j, j < k ∧ s j = c
          · obtain ⟨j, hj, ej⟩ := w
            rw [← ej, eC_piv hl hj]
            by_cases q2 : l = j
            · rw [if_pos q2, ← e, q2, show at1 (s j) 1 (s j) = 1 from if_pos rfl, Int.mul_one]
            · rw [if_neg q2, show at1 g 1 (s j) = 0 from if_neg (fun q' => q2 (hinj l j hl hj (by rw [e, q']))), Int.mul_zero]
          · rw [hz c hc q (fun j hj ej => w ⟨j, hj, ej⟩), show at1 g 1 c = 0 from if_neg (fun q' => w ⟨l, hl, by rw [e, q']⟩), Int.mul_zero]
    · rw [Om_dot hcr h.2.1]
      by_cases e : i = 0
      · rw [show cR u cr i = fun c => (cL cr c : Int) from if_pos e]
        have e1 : eN A s k (fun c => (cL cr c : Int)) cr = eD A s k := by
          unfold eN
          rw [sm_zero (fun l hl => by
            have := h.2.1 l hl
            unfold cL
            dsimp only
            rw [if_neg (by have := hs l hl; omega)]
            simp)]
          unfold cL
          dsimp only
          rw [if_pos (Or.inl rfl)]
          simp
        rw [e1]
        show eD A s k = (cL cr 60 : Int) * _
        unfold cL
        rw [if_pos (Or.inr rfl), y3]
        simp
      · rw [show cR u cr i = rv u (i - 1) from if_neg e, rv60 hw (by omega), Int.zero_mul]
        exact h.2.2.2.2 (i - 1) (by omega) cr hcr
  · -- a gear that is free
    have hnd : ¬ dtm A s k n cr g := fun q => by
      have := (hhd g hg).mpr q
      rw [hh] at this
      exact absurd this (by decide)
    have hgc : g ≠ cr := fun q => hnd (Or.inl q)
    have hm2 : apX (apX (rv u) r (at1 cr 1)) (r + 1) (at1 g 1) (r + 1) = at1 g 1 := if_pos rfl
    have hex : ∃ a, a < n ∧ eN A' s' (k + 1) (at1 g 1) a ≠ 0 := by
      by_cases w : ∃ l, l < k ∧ s l = g
      · obtain ⟨l, hl, e⟩ := w
        have : ∃ c, c < n ∧ c ≠ cr ∧ (∀ j, j < k → s j ≠ c) ∧ eC A s k l c ≠ 0 := by
          apply Classical.byContradiction
          intro q
          exact hnd (Or.inr ⟨l, hl, e, fun c h1 h2 h3 => Classical.byContradiction fun h4 => q ⟨c, h1, h2, h3, h4⟩⟩)
        obtain ⟨c, c1, c2, c3, c4⟩ := this
        refine ⟨c, c1, ?_⟩
        unfold eN
        have hrest : ∀ j, j < k + 1 → j ≠ l → at1 g 1 (s' j) * eC A' s' (k + 1) j c = 0 := fun j hj hne => by
          unfold at1
          by_cases q : j = k
          · rw [q, hsk, if_neg (fun q => hgc q.symm), Int.zero_mul]
          · rw [hsl j (by omega), if_neg (fun q' => hne (hinj j l (by omega) hl (by rw [q', e]))), Int.zero_mul]
        rw [sm_one (by omega) hrest, hsl l hl, e, show at1 g 1 g = 1 from if_pos rfl, Int.one_mul, hCl l hl, show at1 cr 1 c = 0 from if_neg c2, show at1 g 1 c = 0 from if_neg (fun q => c3 l hl (by rw [e, q])), Int.mul_zero, Int.mul_zero]
        omega
      · refine ⟨g, hg, ?_⟩
        rw [eN_at1 (fun l hl => ?_), hD, show at1 g 1 g = 1 from if_pos rfl, Int.mul_one]
        · exact hD0
        · by_cases q : l = k
          · rw [q, hsk]; exact fun q => hgc q.symm
          · rw [hsl l (by omega)]; exact fun q' => w ⟨l, by omega, q'⟩
    obtain ⟨a, ha, hNa⟩ := hex
    obtain ⟨h3, -⟩ := (h2.apx (at1 g 1)).step ha (by rw [hm2]; exact hNa)
    refine ⟨_, ⟨_, _, h3.qb.perm (apX_perm (cR_perm1 (u := u) (cr := cr) hn)) (apX_perm (cR_perm2 (u := u) (cr := cr) hn))⟩, h3.bd (fun j hj => ?_) hn⟩
    by_cases e : j = r + 1
    · rw [e, hm2]; exact bd_at1
    · rw [show apX (apX (rv u) r (at1 cr 1)) (r + 1) (at1 g 1) j = apX (rv u) r (at1 cr 1) j from if_neg e]
      exact hb2 j (by omega)
