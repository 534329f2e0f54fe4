/-! ROWS OF CELLS THAT HAVE A PROPERTY; LISTS; DISCS -/
theorem z_rwEx (P : Nat → Prop) : ∀ n, ∃ v : Int32, ∀ x, bt v x = true ↔ x < n ∧ x < 32 ∧ P x := by
  intro n
  induction n with
  | zero => exact ⟨0, fun x => by rw [b_0]; constructor; { intro q; cases q }; { intro q; omega }⟩
  | succ n ih =>
    obtain ⟨v, hv⟩ := ih
    by_cases h : n < 32 ∧ P n
    · refine ⟨v ||| f_PF_span (iL n) (iL n), fun x => ?_⟩
      rw [b_ao, hv, z_span, iL_t (by omega) (by omega)]
      constructor
      · rintro (⟨q1, q2⟩ | q)
        · exact ⟨by omega, q2⟩
        · have : x = n := by omega
          subst this; exact ⟨by omega, h⟩
      · rintro ⟨q1, q2, q3⟩
        rcases Nat.lt_or_ge x n with c | c
        · exact Or.inl ⟨c, q2, q3⟩
        · exact Or.inr (by omega)
    · refine ⟨v, fun x => ?_⟩
      rw [hv]
      constructor
      · rintro ⟨q1, q2⟩; exact ⟨by omega, q2⟩
      · rintro ⟨q1, q2⟩
        rcases Nat.lt_or_ge x n with c | c
        · exact ⟨c, q2⟩
        · have : x = n := by omega
          subst this; exact absurd q2 h
noncomputable def z_rw (P : Nat → Prop) : Int32 := Classical.choose (z_rwEx P 32)
theorem z_rw_iff (P : Nat → Prop) (x : Nat) : bt (z_rw P) x = true ↔ x < 32 ∧ P x := by
  rw [show z_rw P = Classical.choose (z_rwEx P 32) from rfl, Classical.choose_spec (z_rwEx P 32)]
  constructor
  · rintro ⟨-, q⟩; exact q
  · intro q; exact ⟨q.1, q⟩
theorem z_rw_of {v : Int32} {P : Nat → Prop} (h : ∀ x, x < 32 → (bt v x = true ↔ P x)) : v = z_rw P := b_iff fun x => by
  rw [z_rw_iff]
  constructor
  · intro q; exact ⟨b_lt q, (h x (b_lt q)).mp q⟩
  · rintro ⟨q1, q2⟩; exact (h x q1).mpr q2
/-- the first k rows by F -/
def z_mix (F r : Nat → Int32) (k : Nat) : Nat → Int32 := fun j => if j < k then F j else r j
theorem z_mix0 (F r : Nat → Int32) : z_mix F r 0 = r := funext fun j => if_neg (Nat.not_lt_zero j)
theorem z_mix_lo {F r : Nat → Int32} {k j : Nat} (h : j < k) : z_mix F r k j = F j := if_pos h
theorem z_mix_hi {F r : Nat → Int32} {k j : Nat} (h : k ≤ j) : z_mix F r k j = r j := if_neg (Nat.not_lt.mpr h)
theorem z_mix_up (F r : Nat → Int32) (k : Nat) : va_up (z_mix F r k) k (F k) = z_mix F r (k + 1) := funext fun j => by
  by_cases h : j = k
  · subst h; rw [up_s, z_mix_lo (by omega)]
  · rw [up_n h]
    unfold z_mix
    by_cases h2 : j < k
    · rw [if_pos h2, if_pos (by omega)]
    · rw [if_neg h2, if_neg (by omega)]
noncomputable def z_rws (P : Nat → Nat → Prop) (r : Nat → Int32) : Nat → Int32 := z_mix (fun y => z_rw (fun x => P x y)) r 24
theorem z_rws_in (P : Nat → Nat → Prop) (r : Nat → Int32) (x y : Nat) : z_in (z_rws P r) x y ↔ x < 32 ∧ y < 24 ∧ P x y := by
  unfold z_in z_rws
  constructor
  · rintro ⟨h1, h2⟩
    rw [z_mix_lo h1, z_rw_iff] at h2
    exact ⟨h2.1, h1, h2.2⟩
  · rintro ⟨h1, h2, h3⟩
    exact ⟨h2, by rw [z_mix_lo h2, z_rw_iff]; exact ⟨h1, h3⟩⟩
theorem z_rws_at {P : Nat → Nat → Prop} {r : Nat → Int32} {y : Nat} (h : y < 24) : z_rws P r y = z_rw (fun x => P x y) := z_mix_lo h
theorem z_rws_up {α : Type} {f : Nat → α} {a : Nat} {u v : α} : va_up (va_up f a u) a v = va_up f a v := funext fun j => by
  by_cases h : j = a
  · rw [h, up_s, up_s]
  · rw [up_n h, up_n h, up_n h]
theorem up_sw {α : Type} {f : Nat → α} {a b : Nat} {u v : α} (h : a ≠ b) : va_up (va_up f a u) b v = va_up (va_up f b v) a u := funext fun j => by
  by_cases h1 : j = a
  · rw [up_n (by omega), h1, up_s, up_s]
  · rw [up_n h1]
    by_cases h2 : j = b
    · rw [h2, up_s, up_s]
    · rw [up_n h2, up_n h1, up_n h2]
theorem up_id {α : Type} (f : Nat → α) (a : Nat) : va_up f a (f a) = f := funext fun j => by
  by_cases h : j = a
  · rw [h, up_s]
  · rw [up_n h]
theorem q_putw (σ : q_S) (ι : Nat → Nat → Int32) (κ : Nat → Nat → Int64) (t k : Nat) (r : Nat → Int32) (x : Int32) : q_wI (q_put σ (va_up ι t r) κ) t k x = q_put σ (va_up ι t (va_up r k x)) κ := by
  rw [q_put_wI, up_s, z_rws_up]
theorem z_rws_congr {P Q : Nat → Nat → Prop} (r : Nat → Int32) (h : ∀ x y, x < 32 → y < 24 → (P x y ↔ Q x y)) : z_rws P r = z_rws Q r := funext fun y => by
  rcases Nat.lt_or_ge y 24 with hy | hy
  · rw [z_rws_at hy, z_rws_at hy]
    exact z_rw_of fun x hx => by rw [z_rw_iff, h x y hx hy]; exact ⟨fun q => q.2, fun q => ⟨hx, q⟩⟩
  · unfold z_rws; rw [z_mix_hi hy, z_mix_hi hy]
theorem z_rws_rws {P Q : Nat → Nat → Prop} (r : Nat → Int32) : z_rws P (z_rws Q r) = z_rws P r := funext fun y => by
  rcases Nat.lt_or_ge y 24 with hy | hy
  · rw [z_rws_at hy, z_rws_at hy]
  · unfold z_rws; rw [z_mix_hi hy, z_mix_hi hy, z_mix_hi hy]
theorem z_rws_id (r : Nat → Int32) : z_rws (z_in r) r = r := funext fun y => by
  rcases Nat.lt_or_ge y 24 with hy | hy
  · rw [z_rws_at hy]
    exact (z_rw_of fun x hx => ⟨fun q => ⟨hy, q⟩, fun q => q.2⟩).symm
  · unfold z_rws; rw [z_mix_hi hy]
/-- a list -/
def c_L (σ : q_S) (a n : Nat) (f : Nat → Nat) : Prop := q_K σ a = 8 ∧ (0 < n → q_K σ (q_P σ a 0) = 1002) ∧ n ≤ q_Z σ (q_P σ a 0) ∧ ∀ i, i < n → q_P σ (q_P σ a 0) i = f i
theorem v_sizeL {σ : q_S} {ι : Nat → Nat → Int32} {κ : Nat → Nat → Int64} {a n : Nat} (h : q_K σ a = 8) (hn : ι a 1 = nI n) {R : q_O → q_S → Prop} (hR : R (.inl (some (.inl (nI n)))) (q_put σ ι κ)) : V_AL_size a (q_put σ ι κ) R := by
  refine ⟨h, ?_⟩
  rw [q_put_I, hn]; exact hR
theorem v_getL {σ : q_S} {ι : Nat → Nat → Int32} {κ : Nat → Nat → Int64} {a n i : Nat} {f : Nat → Nat} (h : c_L σ a n f) (hn : ι a 1 = nI n) (hi : i < n) (hn2 : n < 1000) (hz : q_Z σ (q_P σ a 0) < 1000) {R : q_O → q_S → Prop} (hR : R (.inl (some (.inr (.inr (f i))))) (q_put σ ι κ)) : V_AL_get a (nI i) (q_put σ ι κ) R := by
  obtain ⟨h1, h2, h3, h4⟩ := h
  refine ⟨h1, ?_⟩
  intro P9 h9
  refine br_f (nI_pos (by omega)) (br_t ?_ ⟨h1, h1, h2 (by omega), ?_, ?_⟩)
  · rw [q_put_I, hn]; exact nI_lt hi (by omega)
  · exact vp_in_nI (by rw [q_put_Z]; exact Nat.lt_of_lt_of_le hi h3) (by rw [q_put_Z]; exact Nat.lt_trans hz (by omega))
  · show R (.inl (some (.inr (.inr (q_P σ (q_P σ a 0) (nI i).toNatClampNeg))))) (q_put σ ι κ)
    rw [nI_clamp (by omega), h4 i hi]; exact hR
/-- near a disc -/
def z_ds (dx dy dr g x y : Nat) : Prop := (2 * (x : Int) + 1 - 2 * dx) * (2 * (x : Int) + 1 - 2 * dx) + (2 * (y : Int) + 1 - 2 * dy) * (2 * (y : Int) + 1 - 2 * dy) ≤ (2 * ((dr : Int) + g)) * (2 * ((dr : Int) + g))
theorem i_sq {a : Int} {m : Int} (h1 : -m ≤ a) (h2 : a ≤ m) : 0 ≤ a * a ∧ a * a ≤ m * m := by
  constructor
  · rcases Int.le_total 0 a with h | h
    · exact Int.mul_nonneg h h
    · have := Int.mul_nonneg (Int.neg_nonneg.mpr h) (Int.neg_nonneg.mpr h)
      rwa [Int.neg_mul_neg] at this
  · rcases Int.le_total 0 a with h | h
    · exact Int.mul_le_mul h2 h2 h (by omega)
    · have := Int.mul_le_mul (a := -a) (b := -a) (c := m) (d := m) (by omega) (by omega) (by omega) (by omega)
      rwa [Int.neg_mul_neg] at this
theorem v_near {σ : q_S} {a dx dy dr g y : Nat} (hK : q_K σ a = 3) (hx : q_I σ a 2 = nI dx) (hy : q_I σ a 3 = nI dy) (hr : q_I σ a 4 = nI dr) (b1 : dx ≤ 32) (b2 : dy ≤ 24) (b3 : dr ≤ 20) (b4 : g ≤ 5) (b5 : y < 24) {R : q_O → q_S → Prop}
    (h : R (.inl (some (.inl (z_rw (fun x => z_ds dx dy dr g x y))))) σ) : V_PD_near a (nI y) (nI g) σ R := by
  intro P35 P66 h35 h66
  simp only [hK, hx, hy, hr, true_and, forall_eq]
  simp only [iI_nI, show (2 : Int32) = iI 2 from rfl, show (1 : Int32) = iI 1 from rfl, iI_add, iI_sub, iI_mul]
  have s1 := i_sq (a := 2 * ((dr : Int) + g)) (m := 50) (by omega) (by omega)
  have s2 := i_sq (a := 2 * ((y : Int) - dy) + 1) (m := 50) (by omega) (by omega)
  have eq2 : (2 * ((y : Int) - dy) + 1) * (2 * ((y : Int) - dy) + 1) = (2 * (y : Int) + 1 - 2 * dy) * (2 * (y : Int) + 1 - 2 * dy) := by
    rw [show (2 * ((y : Int) - dy) + 1) = (2 * (y : Int) + 1 - 2 * dy) by omega]
  generalize hL : 2 * ((dr : Int) + g) * (2 * ((dr : Int) + g)) - (2 * ((y : Int) - dy) + 1) * (2 * ((y : Int) - dy) + 1) = L
  have hcell : ∀ x, z_ds dx dy dr g x y ↔ (2 * (x : Int) + 1 - 2 * dx) * (2 * (x : Int) + 1 - 2 * dx) ≤ L := by
    intro x; unfold z_ds; omega
  have H : ∀ (d k : Nat), k + d = 32 → (∀ j : Nat, j < k → (2 * (j : Int) + 1) * (2 * (j : Int) + 1) ≤ L) → P35 a (iI L) (iI k) σ := by
    have fin : ∀ k : Nat, k ≤ 32 → (∀ j : Nat, j < k → (2 * (j : Int) + 1) * (2 * (j : Int) + 1) ≤ L) → (∀ j : Nat, k ≤ j → j < 32 → ¬ (2 * (j : Int) + 1) * (2 * (j : Int) + 1) ≤ L) → P66 a (iI k) σ := by
      intro k hk h1 h2
      refine h66 _ _ _ ⟨hK, hK, ?_⟩
      rw [hx, iI_nI, iI_sub, iI_add, show (1 : Int32) = iI 1 from rfl, iI_sub, i2l (by omega) (by omega), i2l (by omega) (by omega)]
      have : f_PF_span (iL ((dx : Int) - k)) (iL ((dx : Int) + k - 1)) = z_rw (fun x => z_ds dx dy dr g x y) := z_rw_of fun x hx => by
        rw [z_span, iL_t (by omega) (by omega), iL_t (by omega) (by omega), hcell]
        rcases Nat.lt_or_ge x dx with c | c
        · have e : (2 * (x : Int) + 1 - 2 * dx) * (2 * (x : Int) + 1 - 2 * dx) = (2 * ((dx - 1 - x : Nat) : Int) + 1) * (2 * ((dx - 1 - x : Nat) : Int) + 1) := by
            rw [show (2 * (x : Int) + 1 - 2 * dx) = -(2 * ((dx - 1 - x : Nat) : Int) + 1) by omega, Int.neg_mul_neg]
          rw [e]
          rcases Nat.lt_or_ge (dx - 1 - x) k with c2 | c2
          · have := h1 _ c2; omega
          · have := h2 _ c2 (by omega); omega
        · have e : (2 * (x : Int) + 1 - 2 * dx) * (2 * (x : Int) + 1 - 2 * dx) = (2 * ((x - dx : Nat) : Int) + 1) * (2 * ((x - dx : Nat) : Int) + 1) := by
            rw [show (2 * (x : Int) + 1 - 2 * dx) = (2 * ((x - dx : Nat) : Int) + 1) by omega]
          rw [e]
          rcases Nat.lt_or_ge (x - dx) k with c2 | c2
          · have := h1 _ c2; omega
          · have := h2 _ c2 (by omega); omega
      rw [this]; exact h
    intro d
    induction d with
    | zero =>
      intro k hk h1
      refine h35 _ _ _ _ (br_t ?_ (fin k (by omega) h1 (fun j _ _ => by omega)))
      rw [iI_le, iI_t (by omega) (by omega)]; show (32 : Int) ≤ k; omega
    | succ d ih =>
      intro k hk h1
      refine h35 _ _ _ _ (br_f ?_ (br_c (fun c => ?_) (fun c v3 e3 => ?_)))
      · rw [iI_le, iI_t (by omega) (by omega)]; show ¬ (32 : Int) ≤ k; omega
      · have s3 := i_sq (a := 2 * (k : Int) + 1) (m := 70) (by omega) (by omega)
        simp only [show (2 : Int32) = iI 2 from rfl, show (1 : Int32) = iI 1 from rfl, iI_add, iI_mul, iI_lt] at c
        rw [iI_t (by omega) (by omega), iI_t (by omega) (by omega)] at c
        refine fin k (by omega) h1 (fun j hj hj2 => ?_)
        have s4 : (2 * (k : Int) + 1) * (2 * (k : Int) + 1) ≤ (2 * (j : Int) + 1) * (2 * (j : Int) + 1) := Int.mul_le_mul (by omega) (by omega) (by omega) (by omega)
        omega
      · have s3 := i_sq (a := 2 * (k : Int) + 1) (m := 70) (by omega) (by omega)
        simp only [show (2 : Int32) = iI 2 from rfl, show (1 : Int32) = iI 1 from rfl, iI_add, iI_mul, iI_lt] at c
        rw [iI_t (by omega) (by omega), iI_t (by omega) (by omega)] at c
        rw [e3, show (1 : Int32) = iI 1 from rfl, iI_add]
        refine ih (k + 1) (by omega) (fun j hj => ?_)
        rcases Nat.lt_or_ge j k with c2 | c2
        · exact h1 j c2
        · have : j = k := by omega
          subst this; omega
  exact H 32 0 rfl (fun j hj => by omega)
/-- barred by discs -/
def z_db (A : a_A) (q x y : Nat) : Prop := ∃ i, i < a_D A ∧ a_dl A i = a_la A q ∧ ¬ a_dn A i = a_nt A q ∧ z_ds (a_dx A i) (a_dy A i) (a_dr A i) (a_ru A 0) x y
/-- the discs of the reference -/
def m_D (A : a_A) (ι : Nat → Nat → Int32) (κ : Nat → Nat → Int64) : Prop := ι 14 12 = nI (a_D A) ∧ ∀ i, i < a_D A → ι 24 i = a_dn A i ∧ ι 25 i = a_dl A i ∧ κ 26 (3 * i) = iL (a_dx A i) ∧ κ 26 (3 * i + 1) = iL (a_dy A i) ∧ κ 26 (3 * i + 2) = iL (a_dr A i)
def a_okD (A : a_A) : Prop := a_D A ≤ 20 ∧ ∀ i, i < a_D A → a_dx A i ≤ 32 ∧ a_dy A i ≤ 24 ∧ a_dr A i ≤ 20
theorem v_isInObstacle {σ : q_S} {ι : Nat → Nat → Int32} {κ : Nat → Nat → Int64} {A : a_A} {q x y : Nat} (hm : m_S σ) (hD : m_D A ι κ) (ok : a_okD A) (hq : q < 8) (hn : ι 15 q = a_nt A q) (hl : ι 16 q = a_la A q) (hg : ι 30 0 = nI (a_ru A 0)) (bg : a_ru A 0 ≤ 5) (hx : x < 32) (hy : y < 24) {R : q_O → q_S → Prop}
    (h1 : z_db A q x y → R (.inl (some (.inl 1))) (q_put σ ι κ)) (h0 : ¬ z_db A q x y → R (.inl (some (.inl 0))) (q_put σ ι κ)) : V_PM_isInObstacle 14 (nI q) (nI x) (nI y) (q_put σ ι κ) R := by
  intro P3 P144 h3 h144
  obtain ⟨b0, b1⟩ := ok
  have H : ∀ (d k : Nat), k + d = a_D A → (∀ j, j < k → ¬ (a_dl A j = a_la A q ∧ ¬ a_dn A j = a_nt A q ∧ z_ds (a_dx A j) (a_dy A j) (a_dr A j) (a_ru A 0) x y)) → P3 14 (nI q) (nI x) (nI y) (nI k) (q_put σ ι κ) := by
    intro d
    induction d with
    | zero =>
      intro k hk hv
      refine h3 _ _ _ _ _ _ ⟨hm.k, pk_le (a_D A) k (fun _ => h0 ?_) (fun c => by omega) hD.1⟩
      rintro ⟨i, hi, c⟩
      exact hv i (by omega) c
    | succ d ih =>
      intro k hk hv
      have hnext : ¬ (a_dl A k = a_la A q ∧ ¬ a_dn A k = a_nt A q ∧ z_ds (a_dx A k) (a_dy A k) (a_dr A k) (a_ru A 0) x y) → P144 14 (nI q) (nI x) (nI y) (nI k) (q_put σ ι κ) := fun c => by
        refine h144 _ _ _ _ _ _ fun v1 e1 => ?_
        rw [e1, nI_1]
        refine ih (k + 1) (by omega) fun j hj => ?_
        rcases Nat.lt_or_ge j k with c2 | c2
        · exact hv j c2
        · have : j = k := by omega
          rw [this]; exact c
      obtain ⟨f1, f2, f3, f4, f5⟩ := hD.2 k (by omega)
      obtain ⟨g1, g2, g3⟩ := b1 k (by omega)
      refine h3 _ _ _ _ _ _ ⟨hm.k, pk_le (a_D A) k (fun c => by omega) (fun _ => ?_) hD.1⟩
      have e0 : (3 : Int32) * nI k = nI (3 * k) := pk_mul 3 k
      have e1 : nI (3 * k) + 1 = nI (3 * k + 1) := nI_add (3 * k) 1
      have e2 : nI (3 * k) + 2 = nI (3 * k + 2) := nI_add (3 * k) 2
      have c0 : (nI (3 * k)).toNatClampNeg = 3 * k := nI_clamp (by omega)
      have c1 : (nI (3 * k + 1)).toNatClampNeg = 3 * k + 1 := nI_clamp (by omega)
      have c2 : (nI (3 * k + 2)).toNatClampNeg = 3 * k + 2 := nI_clamp (by omega)
      have ck : (nI k).toNatClampNeg = k := nI_clamp (by omega)
      have cq : (nI q).toNatClampNeg = q := nI_clamp (by omega)
      have v0 : vp_in (nI (3 * k)) 60 := vp_in_nI (by omega) (by omega)
      have v1 : vp_in (nI (3 * k + 1)) 60 := vp_in_nI (by omega) (by omega)
      have v2 : vp_in (nI (3 * k + 2)) 60 := vp_in_nI (by omega) (by omega)
      have vk : vp_in (nI k) 20 := vp_in_nI (by omega) (by omega)
      have vq : vp_in (nI q) 8 := vp_in_nI (by omega) (by omega)
      have v5 : vp_in 0 4 := vp_in_nI (n := 0) (by omega) (by omega)
      have d0 : (0 : Int32).toNatClampNeg = 0 := by decide
      simp only [q_put_K, q_put_P, q_put_Z, q_put_I, q_put_L, hm.k, hm.p14, hm.k14, hm.z14, hm.p4, hm.k4, hm.z4, hm.p13, hm.k13, hm.z13, hm.p3, hm.k3, hm.z3, hm.p15, hm.k15, hm.z15, hm.p20, hm.k20, hm.z20, e0, e1, e2, c0, c1, c2, ck, cq, v0, v1, v2, vk, vq, v5, d0, true_or, true_and, forall_eq, f1, f2, f3, f4, f5, hn, hl, hg]
      refine br_c (fun q1 => hnext fun c => q1 c.1) (fun q1 => br_c (fun q2 => ?_) (fun q2 => hnext fun c => q2 c.2.1))
      have q1 := Decidable.not_not.mp q1
      rw [iI_nI, i2l (by omega) (by omega), iI_nI, i2l (by omega) (by omega), iI_nI, i2l (by omega) (by omega)]
      simp only [show (2 : Int64) = iL 2 from rfl, show (1 : Int64) = iL 1 from rfl, iL_add, iL_sub, iL_mul, lg_cmp_gt, iL_lt]
      have s1 := i_sq (a := 2 * (x : Int) + 1 - 2 * a_dx A k) (m := 70) (by omega) (by omega)
      have s2 := i_sq (a := 2 * (y : Int) + 1 - 2 * a_dy A k) (m := 70) (by omega) (by omega)
      have s3 := i_sq (a := 2 * ((a_dr A k : Int) + a_ru A 0)) (m := 70) (by omega) (by omega)
      rw [iL_t (by omega) (by omega), iL_t (by omega) (by omega)]
      have hcell : z_ds (a_dx A k) (a_dy A k) (a_dr A k) (a_ru A 0) x y ↔ ¬ (2 * ((a_dr A k : Int) + a_ru A 0) * (2 * ((a_dr A k : Int) + a_ru A 0)) < (2 * (x : Int) + 1 - 2 * a_dx A k) * (2 * (x : Int) + 1 - 2 * a_dx A k) + (2 * (y : Int) + 1 - 2 * a_dy A k) * (2 * (y : Int) + 1 - 2 * a_dy A k)) := by
        unfold z_ds; omega
      refine br_c (fun q3 => hnext fun c => hcell.mp c.2.2 q3) (fun q3 => h1 ⟨k, by omega, q1, q2, hcell.mpr q3⟩)
  exact H (a_D A) 0 (by omega) (fun j hj => by omega)
