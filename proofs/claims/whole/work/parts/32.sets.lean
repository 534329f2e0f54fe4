/-! STORES AND SETS OF CELLS -/
/-- a store with other ints and longs -/
def q_put (σ : q_S) (ι : Nat → Nat → Int32) (κ : Nat → Nat → Int64) : q_S := (σ.1, σ.2.1, σ.2.2.1, ι, κ, σ.2.2.2.2.2)
theorem q_put_I (σ : q_S) (ι : Nat → Nat → Int32) (κ : Nat → Nat → Int64) (a : Nat) : q_I (q_put σ ι κ) a = ι a := rfl
theorem q_put_L (σ : q_S) (ι : Nat → Nat → Int32) (κ : Nat → Nat → Int64) (a : Nat) : q_L (q_put σ ι κ) a = κ a := rfl
theorem q_put_K (σ : q_S) (ι : Nat → Nat → Int32) (κ : Nat → Nat → Int64) (a : Nat) : q_K (q_put σ ι κ) a = q_K σ a := rfl
theorem q_put_Z (σ : q_S) (ι : Nat → Nat → Int32) (κ : Nat → Nat → Int64) (a : Nat) : q_Z (q_put σ ι κ) a = q_Z σ a := rfl
theorem q_put_P (σ : q_S) (ι : Nat → Nat → Int32) (κ : Nat → Nat → Int64) (a : Nat) : q_P (q_put σ ι κ) a = q_P σ a := rfl
theorem q_put_n (σ : q_S) (ι : Nat → Nat → Int32) (κ : Nat → Nat → Int64) : q_n (q_put σ ι κ) = q_n σ := rfl
theorem q_put_wI (σ : q_S) (ι : Nat → Nat → Int32) (κ : Nat → Nat → Int64) (a k : Nat) (x : Int32) : q_wI (q_put σ ι κ) a k x = q_put σ (va_up ι a (va_up (ι a) k x)) κ := rfl
theorem q_put_wL (σ : q_S) (ι : Nat → Nat → Int32) (κ : Nat → Nat → Int64) (a k : Nat) (x : Int64) : q_wL (q_put σ ι κ) a k x = q_put σ ι (va_up κ a (va_up (κ a) k x)) := rfl
theorem q_put_sI (σ : q_S) (ι : Nat → Nat → Int32) (κ : Nat → Nat → Int64) (a : Nat) (f : Nat → Int32) : q_sI (q_put σ ι κ) a f = q_put σ (va_up ι a f) κ := rfl
theorem q_put_put (σ : q_S) (ι ι' : Nat → Nat → Int32) (κ κ' : Nat → Nat → Int64) : q_put (q_put σ ι κ) ι' κ' = q_put σ ι' κ' := rfl
theorem q_put_self (σ : q_S) : q_put σ (q_I σ) (q_L σ) = σ := rfl
theorem up_s {α : Type} (f : Nat → α) (k : Nat) (v : α) : va_up f k v k = v := va_up_self f k v
theorem up_n {α : Type} {f : Nat → α} {k j : Nat} {v : α} (h : j ≠ k) : va_up f k v j = f j := va_up_ne f v h
/-- cells of rows -/
def z_in (r : Nat → Int32) (x y : Nat) : Prop := y < 24 ∧ bt (r y) x = true
/-- beside one another; askew: by corners too -/
def z_ad (ask : Prop) (x y x' y' : Nat) : Prop := (y' = y ∧ (x' = x + 1 ∨ x = x' + 1)) ∨ (x' = x ∧ (y' = y + 1 ∨ y = y' + 1)) ∨ (ask ∧ x' ≤ x + 1 ∧ x ≤ x' + 1 ∧ (y' = y + 1 ∨ y = y' + 1))
def z_cl (ask : Prop) (R S : Nat → Nat → Prop) : Prop := ∀ x y x' y', S x y → z_ad ask x y x' y' → R x' y' → S x' y'
def z_comp (ask : Prop) (R : Nat → Nat → Prop) (a b x y : Nat) : Prop := ∀ S : Nat → Nat → Prop, S a b → z_cl ask R S → S x y
def z_first (R : Nat → Nat → Prop) (a b : Nat) : Prop := R a b ∧ ∀ x y, R x y → b < y ∨ (b = y ∧ a ≤ x)
/-- the group of the first cell -/
def z_fc (ask : Prop) (R : Nat → Nat → Prop) (x y : Nat) : Prop := ∃ a b, z_first R a b ∧ z_comp ask R a b x y
theorem z_first.uniq {R : Nat → Nat → Prop} {a b a' b' : Nat} (h : z_first R a b) (h' : z_first R a' b') : a = a' ∧ b = b' := by
  have h1 := h.2 a' b' h'.1
  have h2 := h'.2 a b h.1
  omega
theorem z_fc_iff {ask : Prop} {R : Nat → Nat → Prop} {a b : Nat} (h : z_first R a b) (x y : Nat) : z_fc ask R x y ↔ z_comp ask R a b x y := by
  constructor
  · rintro ⟨a', b', h1, h2⟩
    obtain ⟨rfl, rfl⟩ := h.uniq h1
    exact h2
  · intro h1
    exact ⟨a, b, h, h1⟩
theorem z_fc.sub {ask : Prop} {R : Nat → Nat → Prop} {x y : Nat} (h : z_fc ask R x y) : R x y := by
  obtain ⟨a, b, h1, h2⟩ := h
  exact h2 R h1.1 (fun _ _ _ _ _ _ h => h)
/-- the lowest bit -/
theorem b_neg (v : Int32) (x : Nat) : bt (-v) x = (bt v x ^^ (decide (x < 32) && decide (∃ j, j < x ∧ bt v j = true))) := by
  unfold bt
  rw [Int32.toBitVec_neg, BitVec.getLsbD_neg]
theorem b_low (v : Int32) (x : Nat) : bt (v &&& (-v)) x = true ↔ bt v x = true ∧ ∀ j, j < x → bt v j = false := by
  rw [b_and, b_neg]
  constructor
  · intro h
    rw [Bool.and_eq_true] at h
    obtain ⟨h1, h2⟩ := h
    refine ⟨h1, fun j hj => ?_⟩
    cases e : bt v j
    · rfl
    · rw [h1, decide_eq_true (b_lt h1), decide_eq_true (⟨j, hj, e⟩ : ∃ j, j < x ∧ bt v j = true)] at h2
      cases h2
  · rintro ⟨h1, h2⟩
    have : ¬ ∃ j, j < x ∧ bt v j = true := by
      rintro ⟨j, hj, e⟩
      rw [h2 j hj] at e; cases e
    rw [h1, decide_eq_false this]; simp
theorem l_neg (v : Int64) (x : Nat) : bl (-v) x = (bl v x ^^ (decide (x < 64) && decide (∃ j, j < x ∧ bl v j = true))) := by
  unfold bl
  rw [Int64.toBitVec_neg, BitVec.getLsbD_neg]
theorem zx_low (v : Int32) : zx v &&& ((0 : Int64) - zx v) = zx (v &&& (-v)) := by
  rw [Int64.zero_sub]
  refine zx_eq fun i hi => ?_
  rw [l_and, l_neg, l_zx]
  have e : (∃ j, j < i ∧ bl (zx v) j = true) ↔ ∃ j, j < i ∧ bt v j = true := by simp only [l_zx]
  rw [b_and, b_neg]
  cases h : bt v i
  · rfl
  · have hi2 := b_lt h
    simp only [Bool.true_and, e]
    simp [hi, hi2]
theorem b_least {v : Int32} (h : ¬ v = 0) : ∃ a, bt v a = true ∧ ∀ j, j < a → bt v j = false := by
  obtain ⟨i, -, hi⟩ := b_ne0.mp h
  obtain ⟨k, h1, h2⟩ := pk_least (fun k => bt v k = true) ⟨i, hi⟩
  refine ⟨k, h1, fun j hj => ?_⟩
  cases e : bt v j
  · rfl
  · exact absurd e (h2 j hj)
