/-! THE LOWEST BIT CLEARED; NUMBERED CELLS -/
theorem b_sub1 (v : Int32) {x : Nat} (hx : x < 32) : bt (v - 1) x = !(bt (-v) x) := by
  unfold bt
  rw [Int32.toBitVec_sub, Int32.toBitVec_neg]
  have e : v.toBitVec - (1 : Int32).toBitVec = ~~~(-v.toBitVec) := by
    apply BitVec.eq_of_toNat_eq
    have h1 : (1 : Int32).toBitVec.toNat = 1 := rfl
    rw [BitVec.toNat_sub, BitVec.toNat_not, BitVec.toNat_neg, h1]
    have := v.toBitVec.isLt
    omega
  rw [e, BitVec.getLsbD_not]
  simp [hx]
theorem l_sub1 (v : Int64) {x : Nat} (hx : x < 64) : bl (v - 1) x = !(bl (-v) x) := by
  unfold bl
  rw [Int64.toBitVec_sub, Int64.toBitVec_neg]
  have e : v.toBitVec - (1 : Int64).toBitVec = ~~~(-v.toBitVec) := by
    apply BitVec.eq_of_toNat_eq
    have h1 : (1 : Int64).toBitVec.toNat = 1 := rfl
    rw [BitVec.toNat_sub, BitVec.toNat_not, BitVec.toNat_neg, h1]
    have := v.toBitVec.isLt
    omega
  rw [e, BitVec.getLsbD_not]
  simp [hx]
/-- the lowest bit cleared -/
theorem b_clr (v : Int32) (x : Nat) : bt (v &&& (v - 1)) x = true ↔ bt v x = true ∧ ∃ j, j < x ∧ bt v j = true := by
  rw [b_and]
  cases h : bt v x
  · simp
  · rw [b_sub1 v (b_lt h), b_neg, h, decide_eq_true (b_lt h)]
    by_cases e : ∃ j, j < x ∧ bt v j = true
    · rw [decide_eq_true e]; simpa using e
    · rw [decide_eq_false e]; simpa using e
theorem zx_clr (v : Int32) : zx v &&& (zx v - 1) = zx (v &&& (v - 1)) := by
  refine zx_eq fun i hi => ?_
  rw [l_and, l_zx]
  cases h : bt v i
  · rw [b_and, h]; rfl
  · have e : (∃ j, j < i ∧ bl (zx v) j = true) ↔ ∃ j, j < i ∧ bt v j = true := by simp only [l_zx]
    rw [l_sub1 _ hi, l_neg, l_zx, h, b_and, b_sub1 v (b_lt h), b_neg, h, decide_eq_true (b_lt h), decide_eq_true hi]
    by_cases q : ∃ j, j < i ∧ bt v j = true
    · rw [decide_eq_true q, decide_eq_true (e.mpr q)]
    · rw [decide_eq_false q, decide_eq_false (fun z => q (e.mp z))]
theorem z_cn_one {f g : Nat → Bool} {n a : Nat} (h : ∀ i, i ≠ a → g i = f i) (ha : f a = true) (hg : g a = false) (han : a < n) : z_cn f n = z_cn g n + 1 := by
  induction n with
  | zero => omega
  | succ n ih =>
    show z_cn f n + (if f n = true then 1 else 0) = z_cn g n + (if g n = true then 1 else 0) + 1
    by_cases e : a = n
    · subst e
      rw [ha, hg, z_cn_congr (f := f) (g := g) (fun i hi => (h i (by omega)).symm)]
      simp
    · rw [ih (by omega), h n (fun z => e z.symm)]
      omega
theorem z_pc_clr {v : Int32} (h : ¬ v = 0) : z_pc v = z_pc (v &&& (v - 1)) + 1 := by
  obtain ⟨a, ha, ha0⟩ := b_least h
  refine z_cn_one (a := a) (fun i hi => ?_) ha ?_ (b_lt ha)
  · cases e : bt v i
    · cases e2 : bt (v &&& (v - 1)) i
      · rfl
      · have := ((b_clr v i).mp e2).1
        rw [e] at this; cases this
    · refine (b_clr v i).mpr ⟨e, a, ?_, ha⟩
      rcases Nat.lt_trichotomy i a with q | q | q
      · rw [ha0 i q] at e; cases e
      · exact absurd q hi
      · exact q
  · cases e2 : bt (v &&& (v - 1)) a
    · rfl
    · obtain ⟨_, j, h1, h2⟩ := (b_clr v a).mp e2
      rw [ha0 j h1] at h2; cases h2
theorem z_pc0 {v : Int32} (h : z_pc v = 0) : v = 0 := by
  by_cases e : v = 0
  · exact e
  · have := z_pc_clr e
    omega
theorem v_count {r : Int32} {σ : q_S} {R : q_O → q_S → Prop} (h : R (.inl (some (.inl (nI (z_pc r))))) σ) : V_PM_count (zx r) σ R := by
  intro P4 h4
  have e4 : ∀ d c v, z_pc v = d → c + d = z_pc r → P4 (nI c) (zx v) σ := by
    intro d
    induction d with
    | zero =>
      intro c v hv hc
      refine h4 _ _ _ (br_t ((lg_cmp_eq _ _).mpr (by rw [z_pc0 hv, zx_0])) ?_)
      rw [show c = z_pc r by omega]; exact h
    | succ d ih =>
      intro c v hv hc
      have hne : ¬ v = 0 := fun e => by
        rw [e] at hv
        have h9 : z_pc 0 = 0 := by decide +kernel
        omega
      refine h4 _ _ _ (br_f (fun z => hne (zx_eq0.mp ((lg_cmp_eq _ _).mp z))) (fun v2 e2 v3 e3 => ?_))
      rw [nI_1] at e2
      rw [zx_clr] at e3
      rw [e2, e3]
      have := z_pc_clr hne
      exact ih (c + 1) _ (by omega) (by omega)
  exact e4 (z_pc r) 0 r rfl (by omega)
theorem z_sm_ext {g : Nat → Nat} {n m : Nat} (hnm : n ≤ m) (h : ∀ i, n ≤ i → i < m → g i = 0) : z_sm g m = z_sm g n := by
  induction m with
  | zero => rw [show n = 0 by omega]
  | succ m ih =>
    by_cases e : n = m + 1
    · rw [e]
    · show z_sm g m + g m = z_sm g n
      rw [ih (by omega) fun i h1 h2 => h i h1 (by omega), h m (by omega) (by omega)]; rfl
theorem z_sm0 {g : Nat → Nat} {n : Nat} (h : ∀ i, i < n → g i = 0) : z_sm g n = 0 := z_sm_ext (Nat.zero_le n) (fun i _ hi => h i hi)
theorem z_pc_0 : z_pc 0 = 0 := by decide +kernel
theorem v_size {σ : q_S} {ι : Nat → Nat → Int32} {κ : Nat → Nat → Int64} {g ρ γ f l : Nat} (hg : q_gr σ g ρ γ) (hf3 : ι g 3 = nI f) (hl4 : ι g 4 = nI l) (hfl : f ≤ l) (hl : l < 24) (hz : ∀ y, y < 24 → (y < f ∨ l < y) → ι γ y = 0) {R : q_O → q_S → Prop}
    (h : R (.inl (some (.inl (nI (z_ca (ι γ)))))) (q_put σ ι κ)) : V_PG_size g (q_put σ ι κ) R := by
  obtain ⟨hK, rfl, rfl, hKr, hKg, hZr, hZg, hne⟩ := hg
  have hi : ∀ j : Nat, j < 24 → vp_in (nI j) (q_Z σ (q_P σ g 2)) := fun j hj => by rw [hZg]; exact vp_in_nI hj (by decide)
  have hca : z_sm (fun y => z_pc (ι (q_P σ g 2) y)) (l + 1) = z_ca (ι (q_P σ g 2)) := (z_sm_ext (by omega) (fun i h1 h2 => by rw [hz i h2 (Or.inr (by omega))]; exact z_pc_0)).symm
  intro P7 h7
  have e7 : ∀ d y, y + d = l + 1 → f ≤ y → P7 g (nI (z_sm (fun y => z_pc (ι (q_P σ g 2) y)) y)) (nI y) (q_put σ ι κ) := by
    intro d
    induction d with
    | zero =>
      intro y hy hfy
      refine h7 _ _ _ _ ⟨hK, pk_lt l y (fun _ => ?_) (fun q => by omega) hl4⟩
      rw [show y = l + 1 by omega, hca]; exact h
    | succ d ih =>
      intro y hy hfy
      refine h7 _ _ _ _ ⟨hK, pk_lt l y (fun q => by omega) (fun _ => ⟨hK, Or.inl hKg, hi y (by omega), fun v6 e6 v7 e7 => ?_⟩) hl4⟩
      have e9 : q_I (q_put σ ι κ) (q_P (q_put σ ι κ) g 2) (nI y).toNatClampNeg = ι (q_P σ g 2) y := by rw [nI_clamp (by omega)]; rfl
      rw [e9, z_bits, nI_add] at e6
      rw [nI_1] at e7
      rw [e6, e7]
      exact ih (y + 1) (by omega) (by omega)
  refine ⟨hK, fun v1 e1 => ?_⟩
  have e1' : v1 = nI f := e1.trans hf3
  rw [e1']
  have := e7 (l + 1 - f) f (by omega) (Nat.le_refl _)
  rw [z_sm0 (g := fun y => z_pc (ι (q_P σ g 2) y)) (n := f) (fun i hi9 => by
    show z_pc (ι (q_P σ g 2) i) = 0
    rw [hz i (by omega) (Or.inl hi9)]; exact z_pc_0)] at this
  exact this
/-- below x: so many -/
theorem z_cn_monoN {f : Nat → Bool} {n m : Nat} (h : n ≤ m) : z_cn f n ≤ z_cn f m := by
  induction m with
  | zero => rw [show n = 0 by omega]; exact Nat.le_refl _
  | succ m ih =>
    by_cases e : n = m + 1
    · rw [e]; exact Nat.le_refl _
    · have h1 := ih (by omega)
      show z_cn f n ≤ z_cn f m + _
      omega
theorem z_cn_ex {f : Nat → Bool} {n x : Nat} : (∃ j, j < x ∧ f j = true ∧ n ≤ z_cn f j) ↔ n + 1 ≤ z_cn f x := by
  constructor
  · rintro ⟨j, h1, h2, h3⟩
    have h4 : z_cn f (j + 1) = z_cn f j + 1 := by
      show z_cn f j + (if f j = true then 1 else 0) = _
      rw [if_pos h2]
    have h5 := z_cn_monoN (f := f) (show j + 1 ≤ x by omega)
    omega
  · intro h
    induction x with
    | zero => exact absurd h (by show ¬ n + 1 ≤ 0; omega)
    | succ x ih =>
      by_cases q : n + 1 ≤ z_cn f x
      · obtain ⟨j, h1, h2⟩ := ih q
        exact ⟨j, by omega, h2⟩
      · have h' : n + 1 ≤ z_cn f x + (if f x = true then 1 else 0) := h
        by_cases e : f x = true
        · rw [if_pos e] at h'
          exact ⟨x, by omega, e, by omega⟩
        · rw [if_neg e] at h'; omega
theorem v_numberedColumn {row : Int32} {k : Nat} {σ : q_S} (hk : k < z_pc row) {R : q_O → q_S → Prop} (h : ∀ a, a < 32 → bt row a = true → z_cn (bt row) a = k → R (.inl (some (.inl (nI a)))) σ) : V_PF_numberedColumn row (nI k) σ R := by
  have hk32 : k < 32 := Nat.lt_of_lt_of_le hk (z_pc_le row)
  intro P4 h4
  have e4 : ∀ d n v, n + d = k → (∀ x, bt v x = true ↔ bt row x = true ∧ n ≤ z_cn (bt row) x) → P4 (nI k) v (nI n) σ := by
    intro d
    induction d with
    | zero =>
      intro n v hn hv
      obtain rfl : n = k := by omega
      refine h4 _ _ _ _ (pk_le n n (fun _ => fun v2 e2 => ?_) (fun q => by omega))
      have hne : ¬ v = 0 := by
        obtain ⟨j, h1, h2, h3⟩ := z_cn_ex.mpr (show n + 1 ≤ z_cn (bt row) 32 from hk)
        exact b_ne0.mpr ⟨j, h1, (hv j).mpr ⟨h2, h3⟩⟩
      obtain ⟨a, ha, ha0⟩ := b_least hne
      obtain ⟨hra, hca⟩ := (hv a).mp ha
      have hone : ∀ x, bt v2 x = true ↔ x = a := fun x => by rw [e2]; exact z_one (r := fun _ => v) (k := 0) ha ha0 x
      have hdec : ∀ x, x < 32 → bt (v2 - 1) x = decide (x < a) := fun x hx => by
        rw [b_sub1 _ hx, b_neg, decide_eq_true hx]
        have hex : (∃ j, j < x ∧ bt v2 j = true) ↔ a < x := by
          constructor
          · rintro ⟨j, q1, q2⟩
            rw [(hone j).mp q2] at q1; exact q1
          · intro q; exact ⟨a, q, (hone a).mpr rfl⟩
        have hb : bt v2 x = decide (x = a) := by
          by_cases q : x = a
          · rw [decide_eq_true q]; exact (hone x).mpr q
          · rw [decide_eq_false q]
            cases q2 : bt v2 x
            · rfl
            · exact absurd ((hone x).mp q2) q
        rw [hb]
        rcases Nat.lt_trichotomy x a with q | q | q
        · rw [decide_eq_false (by omega), decide_eq_false (fun z => by have := hex.mp z; omega), decide_eq_true q]; rfl
        · rw [decide_eq_true q, decide_eq_false (fun z => by have := hex.mp z; omega), decide_eq_false (by omega)]; rfl
        · rw [decide_eq_false (by omega), decide_eq_true (hex.mpr q), decide_eq_false (by omega)]; rfl
      have hpc : z_pc (v2 - 1) = a := by
        have h1 : z_pc (v2 - 1) = z_cn (fun x => decide (x < a)) 32 := z_cn_congr (fun i hi => hdec i hi)
        have h2 : ∀ n, n ≤ a → z_cn (fun x => decide (x < a)) n = n := by
          intro n
          induction n with
          | zero => intro _; rfl
          | succ n ih =>
            intro hn9
            show z_cn _ n + (if decide (n < a) = true then 1 else 0) = _
            rw [ih (by omega), if_pos (decide_eq_true (show n < a from hn9))]
        rw [h1, z_cn_ext (show a ≤ 32 by have := b_lt ha; omega) (fun i h3 _ => by simpa using h3), h2 a (Nat.le_refl _)]
      rw [z_bits, hpc]
      refine h a (b_lt ha) hra ?_
      rcases Nat.lt_or_ge n (z_cn (bt row) a) with q | q
      · obtain ⟨j, h1, h2, h3⟩ := z_cn_ex.mpr (show n + 1 ≤ z_cn (bt row) a from q)
        have := (hv j).mpr ⟨h2, h3⟩
        rw [ha0 j h1] at this; cases this
      · omega
    | succ d ih =>
      intro n v hn hv
      refine h4 _ _ _ _ (pk_le k n (fun q => by omega) (fun _ => fun v3 e3 v4 e4 => ?_))
      rw [nI_1] at e4
      rw [e4]
      refine ih (n + 1) v3 (by omega) (fun x => ?_)
      rw [e3, b_clr, hv]
      constructor
      · rintro ⟨⟨h1, _⟩, j, h2, h3⟩
        obtain ⟨h4, h5⟩ := (hv j).mp h3
        exact ⟨h1, z_cn_ex.mp ⟨j, h2, h4, h5⟩⟩
      · rintro ⟨h1, h2⟩
        obtain ⟨j, h3, h4, h5⟩ := z_cn_ex.mpr h2
        exact ⟨⟨h1, by omega⟩, j, h3, (hv j).mpr ⟨h4, h5⟩⟩
  exact e4 k 0 row (by omega) (fun x => ⟨fun z => ⟨z, Nat.zero_le _⟩, fun z => z.1⟩)
/-- the cell of a number, row by row -/
def z_nc (r : Nat → Int32) (j a y : Nat) : Prop := y < 24 ∧ bt (r y) a = true ∧ z_sm (fun y => z_pc (r y)) y + z_cn (bt (r y)) a = j
theorem z_sm_monoN {g : Nat → Nat} {n m : Nat} (h : n ≤ m) : z_sm g n ≤ z_sm g m := by
  induction m with
  | zero => rw [show n = 0 by omega]; exact Nat.le_refl _
  | succ m ih =>
    by_cases e : n = m + 1
    · rw [e]; exact Nat.le_refl _
    · have h1 := ih (by omega)
      show z_sm g n ≤ z_sm g m + _
      omega
theorem z_nc.lt {r : Nat → Int32} {j a y : Nat} (h : z_nc r j a y) : j < z_sm (fun y => z_pc (r y)) (y + 1) := by
  obtain ⟨h1, h2, h3⟩ := h
  have h4 : z_cn (bt (r y)) (a + 1) = z_cn (bt (r y)) a + 1 := by
    show z_cn (bt (r y)) a + (if bt (r y) a = true then 1 else 0) = _
    rw [if_pos h2]
  have h5 := z_cn_monoN (f := bt (r y)) (show a + 1 ≤ 32 from b_lt h2)
  show j < z_sm (fun y => z_pc (r y)) y + z_cn (bt (r y)) 32
  omega
theorem z_nc.uniq {r : Nat → Int32} {j a y b z : Nat} (h : z_nc r j a y) (h' : z_nc r j b z) : a = b ∧ y = z := by
  have h1 := h.lt
  have h2 := h'.lt
  have e : y = z := by
    rcases Nat.lt_trichotomy y z with q | q | q
    · have := z_sm_monoN (g := fun y => z_pc (r y)) (show y + 1 ≤ z from q)
      have := h'.2.2
      omega
    · exact q
    · have := z_sm_monoN (g := fun y => z_pc (r y)) (show z + 1 ≤ y from q)
      have := h.2.2
      omega
  subst e
  refine ⟨?_, rfl⟩
  have q1 := h.2.2
  have q2 := h'.2.2
  have aux : ∀ a b, a < b → bt (r y) a = true → z_cn (bt (r y)) a < z_cn (bt (r y)) b := by
    intro a b hab hba
    have h4 : z_cn (bt (r y)) (a + 1) = z_cn (bt (r y)) a + 1 := by
      show z_cn (bt (r y)) a + (if bt (r y) a = true then 1 else 0) = _
      rw [if_pos hba]
    have h5 := z_cn_monoN (f := bt (r y)) (show a + 1 ≤ b from hab)
    omega
  rcases Nat.lt_trichotomy a b with q | q | q
  · have := aux a b q h.2.1; omega
  · exact q
  · have := aux b a q h'.2.1; omega
theorem v_numberedCell {σ : q_S} {ι : Nat → Nat → Int32} {κ : Nat → Nat → Int64} {t : Nat} {x1 : Int32} (htK : q_K σ t = 1000) (htZ : q_Z σ t = 24) {R : q_O → q_S → Prop}
    (hno : (x1 < 0 ∨ nI (z_ca (ι t)) ≤ x1) → R (.inl (some (.inl (-1)))) (q_put σ ι κ))
    (hyes : ∀ j a y, x1 = nI j → a < 32 → z_nc (ι t) j a y → R (.inl (some (.inl (nI (y * 32 + a))))) (q_put σ ι κ)) : V_PF_numberedCell t x1 (q_put σ ι κ) R := by
  have hi : ∀ j : Nat, j < 24 → vp_in (nI j) (q_Z σ t) := fun j hj => by rw [htZ]; exact vp_in_nI hj (by decide)
  intro P4 P52 h4 h52
  have e4 : ∀ j, x1 = nI j → j < 2 ^ 31 → ∀ d y k, y + d = 24 → z_sm (fun y => z_pc (ι t y)) y + k = j → P4 t (nI k) (nI y) (q_put σ ι κ) := by
    intro j hj hj31 d
    induction d with
    | zero =>
      intro y k hy hk
      refine h4 _ _ _ _ (pk_le 24 y (fun _ => h52 _ (hno (Or.inr ?_))) (fun q => by omega))
      rw [hj]
      refine nI_le ?_ hj31
      have e : y = 24 := by omega
      rw [e] at hk
      show z_sm (fun y => z_pc (ι t y)) 24 ≤ j
      omega
    | succ d ih =>
      intro y k hy hk
      have e9 : q_I (q_put σ ι κ) t (nI y).toNatClampNeg = ι t y := by rw [nI_clamp (by omega)]; rfl
      have hpl := z_pc_le (ι t y)
      refine h4 _ _ _ _ (pk_le 24 y (fun q => by omega) (fun _ => br_f (nI_pos (by omega)) ⟨Or.inl htK, hi y (by omega), fun v5 e5 => ?_⟩))
      rw [e9, z_bits] at e5
      rw [e5]
      refine pk_le (z_pc (ι t y)) k (fun q => fun v7 e7 v8 e8 => ?_) (fun q => ⟨Or.inl htK, hi y (by omega), ?_⟩)
      · rw [pk_sub q] at e7
        rw [nI_1] at e8
        rw [e7, e8]
        refine ih (y + 1) _ (by omega) ?_
        show z_sm (fun y => z_pc (ι t y)) y + z_pc (ι t y) + _ = j
        omega
      · rw [e9]
        refine v_numberedColumn q (fun a ha h1 h2 => ?_)
        show R (.inl (some (.inl (nI y * 32 + nI a)))) (q_put σ ι κ)
        rw [show (32 : Int32) = nI 32 from rfl, pk_mul, nI_add]
        exact hyes j a y hj ha ⟨by omega, h1, by rw [h2]; exact hk⟩
  by_cases hneg : x1 < 0
  · exact h4 _ _ _ _ (pk_le 24 0 (fun q => by omega) (fun _ => br_t hneg (h52 _ (hno (Or.inl hneg)))))
  · obtain ⟨j, hj31, hj⟩ := nI_of hneg
    rw [hj]
    exact e4 j hj hj31 24 0 j (by omega) (by show 0 + j = j; omega)
