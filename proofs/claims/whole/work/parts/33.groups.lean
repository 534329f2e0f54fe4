/-! GROUPS OF THE CLASS -/
/-- a Groups object: its rows of the rest, and of the group -/
def q_gr (σ : q_S) (g ρ γ : Nat) : Prop := q_K σ g = 4 ∧ q_P σ g 1 = ρ ∧ q_P σ g 2 = γ ∧ q_K σ ρ = 1000 ∧ q_K σ γ = 1000 ∧ q_Z σ ρ = 24 ∧ q_Z σ γ = 24 ∧ ρ ≠ γ
theorem z_step (w r : Int32) (x : Nat) : bt (w ||| (((w <<< ((1 : Int32) &&& 31)) ||| (q_ushr w (1 : Int32))) &&& r)) x = true ↔ bt w x = true ∨ (bt r x = true ∧ ∃ x0, bt w x0 = true ∧ (x = x0 + 1 ∨ x0 = x + 1)) := by
  rw [b_or, b_and, b_or, b_shl1, b_ushr1]
  simp only [Bool.or_eq_true, Bool.and_eq_true, decide_eq_true_eq]
  constructor
  · rintro (h | ⟨⟨h1, h2, h3⟩ | h, h4⟩)
    · exact Or.inl h
    · exact Or.inr ⟨h4, x - 1, h3, Or.inl (by omega)⟩
    · exact Or.inr ⟨h4, x + 1, h, Or.inr rfl⟩
  · rintro (h | ⟨h4, x0, h5, rfl | rfl⟩)
    · exact Or.inl h
    · refine Or.inr ⟨Or.inl ⟨by omega, b_lt h4, ?_⟩, h4⟩
      rw [Nat.add_sub_cancel]; exact h5
    · exact Or.inr ⟨Or.inr h5, h4⟩
theorem z_dil (v : Int32) (x : Nat) : bt (v ||| ((v <<< ((1 : Int32) &&& 31)) ||| (q_ushr v (1 : Int32)))) x = true ↔ x < 32 ∧ ∃ x0, bt v x0 = true ∧ x ≤ x0 + 1 ∧ x0 ≤ x + 1 := by
  rw [b_or, b_or, b_shl1, b_ushr1]
  simp only [Bool.or_eq_true, Bool.and_eq_true, decide_eq_true_eq]
  constructor
  · rintro (h | ⟨h1, h2, h3⟩ | h)
    · exact ⟨b_lt h, x, h, by omega, by omega⟩
    · exact ⟨h2, x - 1, h3, by omega, by omega⟩
    · exact ⟨by have := b_lt h; omega, x + 1, h, by omega, by omega⟩
  · rintro ⟨h0, x0, h1, h2, h3⟩
    have : x0 = x ∨ x0 = x - 1 ∧ 0 < x ∨ x0 = x + 1 := by omega
    rcases this with rfl | ⟨rfl, h4⟩ | rfl
    · exact Or.inl h1
    · exact Or.inr (Or.inl ⟨h4, h0, h1⟩)
    · exact Or.inr (Or.inr h1)
/-- a row grown: nothing lost, nothing but what is joined, all that is beside in other rows -/
def z_row (ask : Prop) (r g : Nat → Int32) (k : Nat) (w : Int32) : Prop :=
  z_sub (g k) w ∧ (∀ S : Nat → Nat → Prop, z_cl ask (z_in r) S → (∀ x y, z_in g x y → S x y) → ∀ x, bt w x = true → S x k) ∧ (∀ x y x', z_in g x y → z_ad ask x y x' k → y ≠ k → bt (r k) x' = true → bt w x' = true)
/-- nothing of the rest beside it in its row -/
def z_hz (r w : Int32) : Prop := ∀ x x', bt w x = true → (x' = x + 1 ∨ x = x' + 1) → bt r x' = true → bt w x' = true
theorem z_full {w : Int32} (h : 32 ≤ z_pc w) : ∀ x, x < 32 → bt w x = true := by
  intro x hx
  cases e : bt w x
  · exfalso
    have h1 := z_cn_lt (f := bt w) (g := fun _ => true) (n := 32) (k := x) (fun _ _ _ => rfl) hx rfl e
    have h2 := z_cn_le (fun _ => true) 32
    unfold z_pc at h
    omega
  · rfl
theorem v_spreadInRow {σ : q_S} {ι : Nat → Nat → Int32} {κ : Nat → Nat → Int64} {g ρ γ k : Nat} (hg : q_gr σ g ρ γ) (hk : k < 24) {R : q_O → q_S → Prop}
    (h : ∀ w, z_row (¬ ι g 0 = 0) (ι ρ) (ι γ) k w → z_hz (ι ρ k) w → R (.inl (some (.inl (if w = ι γ k then 0 else 1)))) (q_put σ (va_up ι γ (va_up (ι γ) k w)) κ)) : V_PG_spreadInRow g (nI k) (q_put σ ι κ) R := by
  obtain ⟨hK, rfl, rfl, hKr, hKg, hZr, hZg, hne⟩ := hg
  intro P16 P34 P53 P78 P123 P135 P154 h16 h34 h53 h78 h123 h135 h154
  have hi : ∀ j : Nat, j < 24 → vp_in (nI j) (q_Z σ (q_P σ g 2)) := fun j hj => by rw [hZg]; exact vp_in_nI hj (by decide)
  have hir : ∀ j : Nat, j < 24 → vp_in (nI j) (q_Z σ (q_P σ g 1)) := fun j hj => by rw [hZr]; exact vp_in_nI hj (by decide)
  have hck : (nI k).toNatClampNeg = k := nI_clamp (by omega)
  -- the end
  have e135 : ∀ w, z_row (¬ ι g 0 = 0) (ι (q_P σ g 1)) (ι (q_P σ g 2)) k w → z_hz (ι (q_P σ g 1) k) w → P135 g (nI k) (ι (q_P σ g 2) k) w (q_put σ ι κ) := by
    intro w h1 h2
    refine h135 _ _ _ _ _ ⟨hK, hKg, hi k hk, fun σ1 e => ?_⟩
    rw [hck] at e
    subst e
    have h3 := h w h1 h2
    refine ⟨fun e => h154 _ _ ⟨Or.inl rfl, ?_⟩, fun e => h154 _ _ ⟨Or.inr rfl, ?_⟩⟩
    · rw [if_pos e] at h3; exact h3
    · rw [if_neg e] at h3; exact h3
  -- widening in the row
  have e78 : ∀ d n row fl, n + d = 32 → z_row (¬ ι g 0 = 0) (ι (q_P σ g 1)) (ι (q_P σ g 2)) k row → (fl = 0 → z_hz (ι (q_P σ g 1) k) row) → (¬ fl = 0 → n ≤ z_pc row) → P78 g (nI k) (ι (q_P σ g 2) k) row fl (nI n) (q_put σ ι κ) := by
    intro d
    induction d with
    | zero =>
      intro n row fl hn hr h0 h1
      refine h78 _ _ _ _ _ _ _ (pk_le 32 n (fun _ => e135 row hr ?_) (fun h9 => by omega))
      by_cases hf : fl = 0
      · exact h0 hf
      · intro x x' _ _ hx
        exact z_full (by have := h1 hf; omega) x' (b_lt hx)
    | succ d ih =>
      intro n row fl hn hr h0 h1
      refine h78 _ _ _ _ _ _ _ (pk_le 32 n (fun h9 => by omega) (fun _ => br_c (fun hf => e135 row hr (h0 hf)) (fun hf => ⟨hK, Or.inl hKr, hir k hk, fun v3 e3 => ?_⟩)))
      have hw : ∀ x, bt v3 x = true ↔ bt row x = true ∨ (bt (ι (q_P σ g 1) k) x = true ∧ ∃ x0, bt row x0 = true ∧ (x = x0 + 1 ∨ x0 = x + 1)) := fun x => by
        rw [e3, hck]; exact z_step row (ι (q_P σ g 1) k) x
      have hsub : z_sub row v3 := fun x hx => (hw x).mpr (Or.inl hx)
      have hr3 : z_row (¬ ι g 0 = 0) (ι (q_P σ g 1)) (ι (q_P σ g 2)) k v3 := by
        refine ⟨hr.1.tr hsub, fun S hS hgS x hx => ?_, fun x y x' h1 h2 h3 h4 => hsub _ (hr.2.2 x y x' h1 h2 h3 h4)⟩
        rcases (hw x).mp hx with h5 | ⟨h5, x0, h6, h7⟩
        · exact hr.2.1 S hS hgS x h5
        · exact hS x0 k x k (hr.2.1 S hS hgS x0 h6) (Or.inl ⟨rfl, by omega⟩) ⟨hk, h5⟩
      have hnx : ∀ fl', (fl' = 0 → v3 = row) → (¬ fl' = 0 → ¬ v3 = row) → P123 g (nI k) (ι (q_P σ g 2) k) (nI n) v3 fl' (q_put σ ι κ) := by
        intro fl' hq1 hq2
        refine h123 _ _ _ _ _ _ _ (fun v1 e1 => ?_)
        rw [nI_1] at e1
        rw [e1]
        refine ih (n + 1) v3 fl' (by omega) hr3 (fun hf0 x x' hx hxx hx' => ?_) (fun hf0 => ?_)
        · have e := hq1 hf0
          rw [e] at hx ⊢
          rw [← e]
          exact (hw x').mpr (Or.inr ⟨hx', x, hx, by omega⟩)
        · have h8 := hsub.pclt (fun e => hq2 hf0 e.symm)
          have h9 := h1 hf
          omega
      exact ⟨fun e => hnx 0 (fun _ => e) (fun z => absurd rfl z), fun e => hnx 1 (fun z => absurd z (by decide)) (fun _ => e)⟩
  -- what is beside
  have e53 : ∀ bs, (∀ x, bt bs x = true → ∃ x0 y0, z_in (ι (q_P σ g 2)) x0 y0 ∧ z_ad (¬ ι g 0 = 0) x0 y0 x k) → (∀ x y x', z_in (ι (q_P σ g 2)) x y → z_ad (¬ ι g 0 = 0) x y x' k → y ≠ k → x' < 32 → bt bs x' = true) → P53 g (nI k) bs (q_put σ ι κ) := by
    intro bs h1 h2
    refine h53 _ _ _ _ ⟨hK, Or.inl hKg, hi k hk, fun v1 e1 => ⟨hK, Or.inl hKr, hir k hk, fun v5 e5 => ?_⟩⟩
    rw [hck] at e1 e5
    have e1' : v1 = ι (q_P σ g 2) k := e1
    have e5' : v5 = v1 ||| (bs &&& ι (q_P σ g 1) k) := e5
    rw [e1'] at e5' ⊢
    have hw : ∀ x, bt v5 x = true ↔ bt (ι (q_P σ g 2) k) x = true ∨ (bt bs x = true ∧ bt (ι (q_P σ g 1) k) x = true) := fun x => by
      rw [e5', b_or, b_and, Bool.or_eq_true, Bool.and_eq_true]
    refine e78 32 0 v5 1 rfl ⟨fun x hx => (hw x).mpr (Or.inl hx), fun S hS hgS x hx => ?_, fun x y x' g1 g2 g3 g4 => (hw x').mpr (Or.inr ⟨h2 x y x' g1 g2 g3 (b_lt g4), g4⟩)⟩ (fun z => absurd z (by decide)) (fun _ => Nat.zero_le _)
    rcases (hw x).mp hx with h5 | ⟨h5, h6⟩
    · exact hgS x k ⟨hk, h5⟩
    · obtain ⟨x0, y0, h7, h8⟩ := h1 x h5
      exact hS x0 y0 x k (hgS x0 y0 h7) h8 ⟨hk, h6⟩
  have e34 : ∀ up dn, (∀ x, bt up x = true ↔ (k + 1 < 24 ∧ bt (ι (q_P σ g 2) (k + 1)) x = true)) → (∀ x, bt dn x = true ↔ (0 < k ∧ bt (ι (q_P σ g 2) (k - 1)) x = true)) → P34 g (nI k) up dn (q_put σ ι κ) := by
    intro up dn h1 h2
    refine h34 _ _ _ _ _ (fun v1 e1 => ⟨hK, ?_⟩)
    have hv : ∀ x, bt v1 x = true ↔ (0 < k ∧ bt (ι (q_P σ g 2) (k - 1)) x = true) ∨ (k + 1 < 24 ∧ bt (ι (q_P σ g 2) (k + 1)) x = true) := fun x => by
      rw [e1, b_or, Bool.or_eq_true, h2, h1]
    have hv2 : ∀ x, bt v1 x = true ↔ ∃ y, z_in (ι (q_P σ g 2)) x y ∧ (y = k + 1 ∨ k = y + 1) := fun x => by
      rw [hv]
      constructor
      · rintro (⟨h3, h4⟩ | ⟨h3, h4⟩)
        · exact ⟨k - 1, ⟨by omega, h4⟩, by omega⟩
        · exact ⟨k + 1, ⟨h3, h4⟩, Or.inl rfl⟩
      · rintro ⟨y, ⟨h3, h4⟩, rfl | rfl⟩
        · exact Or.inr ⟨h3, h4⟩
        · exact Or.inl ⟨by omega, by rw [Nat.add_sub_cancel]; exact h4⟩
    refine ⟨fun ha => ?_, fun ha => fun v4 e4 => ?_⟩
    · have ha' : ι g 0 = 0 := ha
      refine e53 v1 (fun x hx => ?_) (fun x y x' g1 g2 g3 g4 => ?_)
      · obtain ⟨y, h3, h4⟩ := (hv2 x).mp hx
        exact ⟨x, y, h3, Or.inr (Or.inl ⟨rfl, by omega⟩)⟩
      · rcases g2 with ⟨q1, _⟩ | ⟨rfl, q2⟩ | ⟨q1, _⟩
        · exact absurd q1.symm g3
        · exact (hv2 x').mpr ⟨y, g1, by omega⟩
        · exact absurd ha' q1
    · have ha' : ¬ ι g 0 = 0 := ha
      have hw : ∀ x, bt v4 x = true ↔ x < 32 ∧ ∃ x0, bt v1 x0 = true ∧ x ≤ x0 + 1 ∧ x0 ≤ x + 1 := fun x => by rw [e4]; exact z_dil v1 x
      refine e53 v4 (fun x hx => ?_) (fun x y x' g1 g2 g3 g4 => ?_)
      · obtain ⟨_, x0, h3, h4, h5⟩ := (hw x).mp hx
        obtain ⟨y, h6, h7⟩ := (hv2 x0).mp h3
        exact ⟨x0, y, h6, Or.inr (Or.inr ⟨ha', by omega, by omega, by omega⟩)⟩
      · have hy : y = k + 1 ∨ k = y + 1 := by
          rcases g2 with ⟨q1, _⟩ | ⟨rfl, q2⟩ | ⟨q1, _, _, q2⟩
          · exact absurd q1.symm g3
          · omega
          · omega
        have hx : x' ≤ x + 1 ∧ x ≤ x' + 1 := by
          rcases g2 with ⟨q1, _⟩ | ⟨rfl, q2⟩ | ⟨q1, q2, q3, _⟩
          · exact absurd q1.symm g3
          · omega
          · omega
        exact (hw x').mpr ⟨g4, x, (hv2 x).mpr ⟨y, g1, hy⟩, hx.1, hx.2⟩
  have e16 : ∀ dn, (∀ x, bt dn x = true ↔ (0 < k ∧ bt (ι (q_P σ g 2) (k - 1)) x = true)) → P16 g (nI k) dn (q_put σ ι κ) := by
    intro dn h2
    refine h16 _ _ _ _ (pk_le 23 k (fun h9 => e34 0 dn (fun x => ?_) h2) (fun h9 => ⟨hK, Or.inl hKg, by rw [nI_1]; exact hi (k + 1) (by omega), e34 _ dn (fun x => ?_) h2⟩))
    · rw [b_0]
      constructor
      · intro z; cases z
      · rintro ⟨z, _⟩; omega
    · rw [nI_1, nI_clamp (by omega)]
      constructor
      · intro z; exact ⟨by omega, z⟩
      · rintro ⟨_, z⟩; exact z
  refine pk_le k 0 (fun h9 => e16 0 (fun x => ?_)) (fun h9 => ?_)
  · rw [b_0]
    constructor
    · intro z; cases z
    · rintro ⟨z, _⟩; omega
  · have e1 : nI k - 1 = nI (k - 1) := pk_sub (b := 1) (by omega)
    refine ⟨hK, Or.inl hKg, by rw [e1]; exact hi (k - 1) (by omega), e16 _ (fun x => ?_)⟩
    rw [e1, nI_clamp (by omega)]
    constructor
    · intro z; exact ⟨by omega, z⟩
    · rintro ⟨_, z⟩; exact z
