/-! GROUPS OF THE CLASS: taken off, grown, the next one -/
theorem v_takeOff {σ : q_S} {ι : Nat → Nat → Int32} {κ : Nat → Nat → Int64} {g ρ γ t f l : Nat} (hg : q_gr σ g ρ γ) (hf3 : ι g 3 = nI f) (hl4 : ι g 4 = nI l) (hfl : f ≤ l + 1) (hl : l < 24) (htK : q_K σ t = 1000) (htZ : q_Z σ t = 24) (htγ : t ≠ γ) {R : q_O → q_S → Prop}
    (h : ∀ ι' : Nat → Nat → Int32, (∀ a, a ≠ t → ι' a = ι a) → (∀ j, ι' t j = if f ≤ j ∧ j ≤ l then ι t j &&& (ι γ j ^^^ (-1)) else ι t j) → R (.inl none) (q_put σ ι' κ)) : V_PG_takeOff g t (q_put σ ι κ) R := by
  obtain ⟨hK, rfl, rfl, hKr, hKg, hZr, hZg, hne⟩ := hg
  have htg : g ≠ t := fun e => by rw [← e, hK] at htK; cases htK
  have hi : ∀ j : Nat, j < 24 → vp_in (nI j) (q_Z σ (q_P σ g 2)) := fun j hj => by rw [hZg]; exact vp_in_nI hj (by decide)
  have hit : ∀ j : Nat, j < 24 → vp_in (nI j) (q_Z σ t) := fun j hj => by rw [htZ]; exact vp_in_nI hj (by decide)
  intro P5 h5
  have e5 : ∀ d y (ι' : Nat → Nat → Int32), y + d = l + 1 → f ≤ y → (∀ a, a ≠ t → ι' a = ι a) → (∀ j, ι' t j = if f ≤ j ∧ j < y then ι t j &&& (ι (q_P σ g 2) j ^^^ (-1)) else ι t j) → P5 g t (nI y) (q_put σ ι' κ) := by
    intro d
    induction d with
    | zero =>
      intro y ι' hy hfy ho ht
      have e4 : ι' g 4 = nI l := by rw [ho g htg]; exact hl4
      refine h5 _ _ _ _ ⟨hK, pk_lt l y (fun _ => h ι' ho (fun j => ?_)) (fun q => by omega) e4⟩
      rw [ht j]
      by_cases q : f ≤ j ∧ j < y
      · rw [if_pos q, if_pos (by omega)]
      · rw [if_neg q, if_neg (by omega)]
    | succ d ih =>
      intro y ι' hy hfy ho ht
      have e4 : ι' g 4 = nI l := by rw [ho g htg]; exact hl4
      refine h5 _ _ _ _ ⟨hK, pk_lt l y (fun q => by omega) (fun q => ⟨Or.inl htK, hit y (by omega), hK, Or.inl hKg, hi y (by omega), htK, hit y (by omega), fun σ3 e3 v11 e11 => ?_⟩) e4⟩
      rw [nI_clamp (by omega)] at e3
      rw [nI_1] at e11
      subst e3
      rw [e11]
      refine ih (y + 1) (va_up ι' t (va_up (ι' t) y (ι' t y &&& (ι' (q_P σ g 2) y ^^^ (-1))))) (by omega) (by omega) (fun a ha => by rw [up_n ha]; exact ho a ha) (fun j => ?_)
      rw [up_s]
      by_cases e : j = y
      · subst e
        rw [up_s, if_pos (by omega), ht j, if_neg (by omega), ho _ (Ne.symm htγ)]
      · rw [up_n e, ht j]
        by_cases q : f ≤ j ∧ j < y
        · rw [if_pos q, if_pos (by omega)]
        · rw [if_neg q, if_neg (by omega)]
  refine ⟨hK, fun v1 e1 => ?_⟩
  have e1' : v1 = nI f := e1.trans hf3
  rw [e1']
  exact e5 (l + 1 - f) f ι (by omega) (Nat.le_refl _) (fun _ _ => rfl) (fun j => by rw [if_neg (by omega)])
/-- what is left of the ints but the object's first and last row, the rest's and the group's rows -/
def z_fr (ι ι' : Nat → Nat → Int32) (g ρ γ : Nat) : Prop := (∀ a, a ≠ g → a ≠ ρ → a ≠ γ → ι' a = ι a) ∧ ∀ j, j ≠ 3 → j ≠ 4 → ι' g j = ι g j
theorem z_one {r : Nat → Int32} {k a : Nat} (ha : bt (r k) a = true) (h0 : ∀ j, j < a → bt (r k) j = false) (x : Nat) : bt (r k &&& (-(r k))) x = true ↔ x = a := by
  rw [b_low]
  constructor
  · rintro ⟨h1, h2⟩
    rcases Nat.lt_trichotomy x a with q | q | q
    · rw [h0 x q] at h1; cases h1
    · exact q
    · rw [h2 a q] at ha; cases ha
  · rintro rfl
    exact ⟨ha, h0⟩
theorem z_comp_of {ask : Prop} {r G : Nat → Int32} {a b : Nat} (hf : z_first (z_in r) a b) (hG : z_in G a b) (hmin : ∀ S : Nat → Nat → Prop, S a b → z_cl ask (z_in r) S → ∀ x y, z_in G x y → S x y) (hcl : z_cl ask (z_in r) (z_in G)) (x y : Nat) : z_in G x y ↔ z_fc ask (z_in r) x y := by
  rw [z_fc_iff hf]
  exact ⟨fun h S h1 h2 => hmin S h1 h2 x y h, fun h => h (z_in G) hG hcl⟩
theorem z_ca1 {G : Nat → Int32} {a b : Nat} (h : z_in G a b) : 1 ≤ z_ca G := by
  have h1 := z_sm_lt (f := fun _ => 0) (g := fun y => z_pc (G y)) (n := 24) (k := b) (fun _ _ => Nat.zero_le _) h.1 (by
    have := z_cn_lt (f := fun _ => false) (g := bt (G b)) (n := 32) (k := a) (fun _ _ z => by cases z) (b_lt h.2) h.2 rfl
    exact Nat.lt_of_le_of_lt (Nat.zero_le _) this)
  exact Nat.lt_of_le_of_lt (Nat.zero_le _) h1
theorem v_growFrom {σ : q_S} {ι : Nat → Nat → Int32} {κ : Nat → Nat → Int64} {g ρ γ k : Nat} (hg : q_gr σ g ρ γ) (hk : k < 24) (hz : ∀ y, y < 24 → ι γ y = 0) (hr0 : ∀ y, y < k → ι ρ y = 0) (hrk : ¬ ι ρ k = 0) {R : q_O → q_S → Prop}
    (h : ∀ ι' l, z_fr ι ι' g ρ γ → ι' g 3 = nI k → ι' g 4 = nI l → k ≤ l → l < 24 → (∀ x y, z_in (ι' γ) x y ↔ z_fc (¬ ι g 0 = 0) (z_in (ι ρ)) x y) → (∀ y, y < 24 → (y < k ∨ l < y) → ι' γ y = 0) → (∀ y, y < 24 → ι' ρ y = ι ρ y &&& (ι' γ y ^^^ (-1))) → ¬ ι' γ k = 0 → ¬ ι' γ l = 0 → R (.inl none) (q_put σ ι' κ)) : V_PG_growFrom g (nI k) (q_put σ ι κ) R := by
  have hg' := hg
  obtain ⟨hK, rfl, rfl, hKr, hKg, hZr, hZg, hne⟩ := hg
  have hgρ : q_P σ g 1 ≠ g := fun e => by rw [e, hK] at hKr; cases hKr
  have hgγ : g ≠ q_P σ g 2 := fun e => by rw [← e, hK] at hKg; cases hKg
  have hi : vp_in (nI k) (q_Z σ (q_P σ g 2)) := by rw [hZg]; exact vp_in_nI hk (by decide)
  have hir : vp_in (nI k) (q_Z σ (q_P σ g 1)) := by rw [hZr]; exact vp_in_nI hk (by decide)
  have hck : (nI k).toNatClampNeg = k := nI_clamp (by omega)
  obtain ⟨a, ha, ha0⟩ := b_least hrk
  have hfst : z_first (z_in (ι (q_P σ g 1))) a k := by
    refine ⟨⟨hk, ha⟩, fun x y hx => ?_⟩
    rcases Nat.lt_trichotomy y k with q | q | q
    · have := hx.2
      rw [hr0 y q, b_0] at this; cases this
    · subst q
      refine Or.inr ⟨rfl, ?_⟩
      rcases Nat.lt_or_ge x a with q | q
      · have := hx.2
        rw [ha0 x q] at this; cases this
      · exact q
    · exact Or.inl q
  intro P34 P56 h34 h56
  -- the end
  have e56 : ∀ ι1 ι' l, z_gs ι1 ι' g (q_P σ g 2) l → (∀ a, a ≠ g → a ≠ q_P σ g 2 → ι1 a = ι a) → (∀ j, j ≠ 3 → j ≠ 4 → ι1 g j = ι g j) → ι1 g 3 = nI k → z_GI (¬ ι g 0 = 0) (ι (q_P σ g 1)) a k k l (ι' (q_P σ g 2)) → z_cl (¬ ι g 0 = 0) (z_in (ι (q_P σ g 1))) (z_in (ι' (q_P σ g 2))) → P56 g (q_put σ ι' κ) := by
    intro ι1 ι' l hs h1 h2 h3 hGI hcl
    have hρ : ι' (q_P σ g 1) = ι (q_P σ g 1) := (hs.1 _ hgρ hne).trans (h1 _ hgρ hne)
    have h3' : ι' g 3 = nI k := (hs.2.1 3 (by decide)).trans h3
    refine h56 _ _ ⟨hK, hK, ?_⟩
    refine v_takeOff hg' h3' hs.2.2 (by have := hGI.1; omega) hGI.2.1 hKr hZr hne (fun ι2 k1 k2 => ?_)
    have hγ2 : ι2 (q_P σ g 2) = ι' (q_P σ g 2) := k1 _ (Ne.symm hne)
    have hg2 : ι2 g = ι' g := k1 _ (Ne.symm hgρ)
    refine h ι2 l ⟨fun z z1 z2 z3 => ?_, fun j z1 z2 => ?_⟩ (by rw [hg2]; exact h3') (by rw [hg2]; exact hs.2.2) hGI.1 hGI.2.1 (fun x y => ?_) (fun y z1 z2 => ?_) (fun y hy => ?_) ?_ ?_
    · rw [k1 z z2, hs.1 z z1 z3, h1 z z1 z3]
    · rw [hg2, hs.2.1 j z2, h2 j z1 z2]
    · rw [hγ2]; exact z_comp_of hfst hGI.2.2.2.1 hGI.2.2.2.2.1 hcl x y
    · rw [hγ2]; exact hGI.2.2.1 y z1 z2
    · rw [k2 y, hγ2, hρ]
      by_cases q : k ≤ y ∧ y ≤ l
      · rw [if_pos q]
      · rw [if_neg q, hGI.2.2.1 y hy (by omega)]
        refine (b_ext fun i hi9 => ?_).symm
        rw [b_and, b_not, b_0]; simp [hi9]
    · rw [hγ2]
      exact b_ne0.mpr ⟨a, b_lt hGI.2.2.2.1.2, hGI.2.2.2.1.2⟩
    · rw [hγ2]; exact hGI.2.2.2.2.2
  have e34 : ∀ d n ι1 ι' l fl, n + d = 768 → z_gs ι1 ι' g (q_P σ g 2) l → (∀ a, a ≠ g → a ≠ q_P σ g 2 → ι1 a = ι a) → (∀ j, j ≠ 3 → j ≠ 4 → ι1 g j = ι g j) → ι1 g 3 = nI k → z_GI (¬ ι g 0 = 0) (ι (q_P σ g 1)) a k k l (ι' (q_P σ g 2)) → (fl = 0 → z_cl (¬ ι g 0 = 0) (z_in (ι (q_P σ g 1))) (z_in (ι' (q_P σ g 2)))) → (¬ fl = 0 → n < z_ca (ι' (q_P σ g 2))) → P34 g fl (nI n) (q_put σ ι' κ) := by
    intro d
    induction d with
    | zero =>
      intro n ι1 ι' l fl hn hs h1 h2 h3 hGI hc0 hc1
      refine h34 _ _ _ _ (pk_le 768 n (fun _ => e56 ι1 ι' l hs h1 h2 h3 hGI ?_) (fun q => by omega))
      by_cases e : fl = 0
      · exact hc0 e
      · have := hc1 e
        have := z_ca_le (ι' (q_P σ g 2))
        omega
    | succ d ih =>
      intro n ι1 ι' l fl hn hs h1 h2 h3 hGI hc0 hc1
      refine h34 _ _ _ _ (pk_le 768 n (fun q => by omega) (fun _ => br_c (fun e => e56 ι1 ι' l hs h1 h2 h3 hGI (hc0 e)) (fun e => ⟨hK, ?_⟩)))
      have hρ : ι' (q_P σ g 1) = ι (q_P σ g 1) := (hs.1 _ hgρ hne).trans (h1 _ hgρ hne)
      have hask : ι' g 0 = ι g 0 := (hs.2.1 0 (by decide)).trans (h2 0 (by decide) (by decide))
      refine v_spreadOverRows hg' ((hs.2.1 3 (by decide)).trans h3) hs.2.2 (by rw [hask, hρ]; exact hGI) (fun y hy => by rw [hρ]; exact hr0 y hy) (fun fl' ι2 l2 k1 k2 k3 k4 => ?_)
      rw [hask, hρ] at k2 k4
      intro v8 e8
      rw [nI_1] at e8
      rw [e8]
      refine ih (n + 1) ι1 ι2 l2 fl' (by omega) ⟨fun z z1 z2 => (k1.1 z z1 z2).trans (hs.1 z z1 z2), fun j hj => (k1.2.1 j hj).trans (hs.2.1 j hj), k1.2.2⟩ h1 h2 h3 k2 (fun q => ?_) (fun q => ?_)
      · rcases k4 with ⟨_, k5⟩ | ⟨k5, _⟩
        · exact k5
        · rw [k5] at q; exact absurd q (by decide)
      · rcases k4 with ⟨k5, _⟩ | ⟨_, k5⟩
        · exact absurd k5 q
        · have := hc1 e
          omega
  have key : ∀ ι1 : Nat → Nat → Int32, (∀ b9, b9 ≠ g → ι1 b9 = ι b9) → (∀ j, j ≠ 3 → j ≠ 4 → ι1 g j = ι g j) → ι1 g 3 = nI k → ι1 g 4 = nI k → P34 g 1 (nI 0) (q_put σ (va_up ι1 (q_P σ g 2) (va_up (ι1 (q_P σ g 2)) k (ι1 (q_P σ g 1) k &&& (-(ι1 (q_P σ g 1) k))))) κ) := by
    intro ι1 k1 k2 k3 k4
    have hρ : ι1 (q_P σ g 1) = ι (q_P σ g 1) := k1 _ hgρ
    have hγ : ι1 (q_P σ g 2) = ι (q_P σ g 2) := k1 _ (Ne.symm hgγ)
    rw [hρ, hγ]
    have hin : ∀ x y, z_in (va_up (ι (q_P σ g 2)) k (ι (q_P σ g 1) k &&& (-(ι (q_P σ g 1) k)))) x y ↔ x = a ∧ y = k := fun x y => by
      constructor
      · rintro ⟨q1, q2⟩
        by_cases e : y = k
        · subst e
          rw [up_s, z_one ha ha0] at q2
          exact ⟨q2, rfl⟩
        · rw [up_n e, hz y q1, b_0] at q2; cases q2
      · rintro ⟨rfl, rfl⟩
        refine ⟨hk, ?_⟩
        rw [up_s, z_one ha ha0]
    have hz1 : z_gs ι1 ι1 g (q_P σ g 2) k := ⟨fun _ _ _ => rfl, fun _ _ => rfl, k4⟩
    refine e34 768 0 ι1 _ k 1 rfl (hz1.rowUp hgγ _) (fun z z1 z2 => k1 z z1) k2 k3 ?_ (fun q => absurd q (by decide)) (fun _ => ?_)
    · rw [up_s]
      refine ⟨Nat.le_refl _, hk, fun y q1 q2 => ?_, (hin a k).mpr ⟨rfl, rfl⟩, fun S q1 q2 x y q3 => ?_, b_ne0.mpr ⟨a, b_lt ((hin a k).mpr ⟨rfl, rfl⟩).2, ((hin a k).mpr ⟨rfl, rfl⟩).2⟩⟩
      · rw [up_n (by omega)]; exact hz y q1
      · obtain ⟨rfl, rfl⟩ := (hin x y).mp q3
        exact q1
    · rw [up_s]
      exact z_ca1 ((hin a k).mpr ⟨rfl, rfl⟩)
  refine ⟨hK, fun σ1 e1 => ?_⟩
  subst e1
  refine ⟨hK, fun σ3 e3 => ?_⟩
  subst e3
  refine ⟨hK, hK, Or.inl hKr, hir, hK, Or.inl hKr, hir, hKg, hi, fun σ5 e5 => ?_⟩
  rw [hck] at e5
  subst e5
  refine key (va_up (va_up ι g (va_up (ι g) 3 (nI k))) g (va_up (va_up ι g (va_up (ι g) 3 (nI k)) g) 4 (nI k))) (fun b9 h9 => by rw [up_n h9, up_n h9]) (fun j z1 z2 => ?_) ?_ ?_
  · rw [up_s, up_n z2, up_s, up_n z1]
  · rw [up_s, up_n (by decide), up_s, up_s]
  · rw [up_s, up_s]
theorem v_next {σ : q_S} {ι : Nat → Nat → Int32} {κ : Nat → Nat → Int64} {g ρ γ f l : Nat} (hg : q_gr σ g ρ γ) (hf3 : ι g 3 = nI f) (hl4 : ι g 4 = nI l) (hf : f < 24) (hl : l < 24) (hz : ∀ y, y < 24 → (y < f ∨ l < y) → ι γ y = 0) (hr0 : ∀ y, y < f → ι ρ y = 0) {R : q_O → q_S → Prop}
    (h0 : (∀ y, y < 24 → ι ρ y = 0) → ∀ ι' : Nat → Nat → Int32, (∀ a, a ≠ γ → ι' a = ι a) → (∀ y, y < 24 → ι' γ y = 0) → R (.inl (some (.inl 0))) (q_put σ ι' κ))
    (h1 : ∀ ι' k l, k < 24 → ¬ ι ρ k = 0 → z_fr ι ι' g ρ γ → ι' g 3 = nI k → ι' g 4 = nI l → k ≤ l → l < 24 → (∀ x y, z_in (ι' γ) x y ↔ z_fc (¬ ι g 0 = 0) (z_in (ι ρ)) x y) → (∀ y, y < 24 → (y < k ∨ l < y) → ι' γ y = 0) → (∀ y, y < k → ι ρ y = 0) → (∀ y, y < 24 → ι' ρ y = ι ρ y &&& (ι' γ y ^^^ (-1))) → ¬ ι' γ k = 0 → ¬ ι' γ l = 0 → R (.inl (some (.inl 1))) (q_put σ ι' κ)) : V_PG_next g (q_put σ ι κ) R := by
  have hg' := hg
  obtain ⟨hK, rfl, rfl, hKr, hKg, hZr, hZg, hne⟩ := hg
  have hgρ : q_P σ g 1 ≠ g := fun e => by rw [e, hK] at hKr; cases hKr
  have hgγ : g ≠ q_P σ g 2 := fun e => by rw [← e, hK] at hKg; cases hKg
  have hi : ∀ j : Nat, j < 24 → vp_in (nI j) (q_Z σ (q_P σ g 2)) := fun j hj => by rw [hZg]; exact vp_in_nI hj (by decide)
  have hir : ∀ j : Nat, j < 24 → vp_in (nI j) (q_Z σ (q_P σ g 1)) := fun j hj => by rw [hZr]; exact vp_in_nI hj (by decide)
  intro P5 P31 h5 h31
  have e31 : ∀ d y (ι' : Nat → Nat → Int32), y + d = 24 → (∀ a, a ≠ q_P σ g 2 → ι' a = ι a) → (∀ y, y < 24 → ι' (q_P σ g 2) y = 0) → (∀ y', y' < y → ι (q_P σ g 1) y' = 0) → P31 g (nI y) (q_put σ ι' κ) := by
    intro d
    induction d with
    | zero =>
      intro y ι' hy ho hγ hr
      exact h31 _ _ _ (pk_le 24 y (fun _ => h0 (fun y' h' => hr y' (by omega)) ι' ho hγ) (fun q => by omega))
    | succ d ih =>
      intro y ι' hy ho hγ hr
      have hρ : ι' (q_P σ g 1) = ι (q_P σ g 1) := ho _ hne
      have hgg : ι' g = ι g := ho _ hgγ
      refine h31 _ _ _ (pk_le 24 y (fun q => by omega) (fun _ => ⟨hK, Or.inl hKr, hir y (by omega), fun e v6 e6 => ?_, fun e => ⟨hK, ?_⟩⟩))
      · have e' : ι' (q_P σ g 1) (nI y).toNatClampNeg = 0 := e
        rw [nI_clamp (by omega), hρ] at e'
        rw [nI_1] at e6
        rw [e6]
        refine ih (y + 1) ι' (by omega) ho hγ (fun y' h' => ?_)
        by_cases q : y' = y
        · rw [q]; exact e'
        · exact hr y' (by omega)
      · have e' : ¬ ι (q_P σ g 1) y = 0 := fun z => e (by
          show ι' (q_P σ g 1) (nI y).toNatClampNeg = 0
          rw [nI_clamp (by omega), hρ]; exact z)
        refine v_growFrom hg' (by omega) hγ (fun y' h' => by rw [hρ]; exact hr y' h') (by rw [hρ]; exact e') (fun ι2 l2 k1 k2 k3 k4 k5 k6 k7 k8 k9 k10 => ?_)
        rw [hρ] at k6 k8
        rw [hgg] at k6
        refine h1 ι2 y l2 (by omega) e' ⟨fun z z1 z2 z3 => (k1.1 z z1 z2 z3).trans (ho z z3), fun j z1 z2 => (k1.2 j z1 z2).trans (by rw [hgg])⟩ k2 k3 k4 k5 k6 k7 hr k8 k9 k10
  have e5 : ∀ d y (ι' : Nat → Nat → Int32), y + d = max f (l + 1) → f ≤ y → (∀ a, a ≠ q_P σ g 2 → ι' a = ι a) → (∀ y', y' < 24 → (y' < y ∨ l < y') → ι' (q_P σ g 2) y' = 0) → P5 g (nI y) (q_put σ ι' κ) := by
    intro d
    induction d with
    | zero =>
      intro y ι' hy hfy ho hγ
      have e4 : ι' g 4 = nI l := by rw [ho _ hgγ]; exact hl4
      refine h5 _ _ _ ⟨hK, pk_lt l y (fun _ => ⟨hK, fun v3 e3 => ?_⟩) (fun q => by omega) e4⟩
      have e3' : v3 = nI f := e3.trans (by show ι' g 3 = nI f; rw [ho _ hgγ]; exact hf3)
      rw [e3']
      exact e31 (24 - f) f ι' (by omega) ho (fun y' h' => hγ y' h' (by omega)) hr0
    | succ d ih =>
      intro y ι' hy hfy ho hγ
      have e4 : ι' g 4 = nI l := by rw [ho _ hgγ]; exact hl4
      refine h5 _ _ _ ⟨hK, pk_lt l y (fun q => by omega) (fun q => ⟨hK, hKg, hi y (by omega), fun σ5 e9 v9 e10 => ?_⟩) e4⟩
      rw [nI_clamp (by omega)] at e9
      rw [nI_1] at e10
      subst e9
      rw [e10]
      refine ih (y + 1) (va_up ι' (q_P σ g 2) (va_up (ι' (q_P σ g 2)) y 0)) (by omega) (by omega) (fun z hz9 => by rw [up_n hz9]; exact ho z hz9) (fun y' z1 z2 => ?_)
      rw [up_s]
      by_cases e : y' = y
      · rw [e, up_s]
      · rw [up_n e]; exact hγ y' z1 (by omega)
  refine ⟨hK, fun v1 e1 => ?_⟩
  have e1' : v1 = nI f := e1.trans hf3
  rw [e1']
  exact e5 (max f (l + 1) - f) f ι (by omega) (Nat.le_refl _) (fun _ _ => rfl) (fun y' z1 z2 => hz y' z1 z2)
