/-! PIECES AND HOLES OF THE CLASS -/
/-- a Groups object as it stands between calls -/
def z_GS (ι : Nat → Nat → Int32) (g ρ γ : Nat) : Prop := ∃ f l, ι g 3 = nI f ∧ ι g 4 = nI l ∧ f < 24 ∧ l < 24 ∧ (∀ y, y < 24 → (y < f ∨ l < y) → ι γ y = 0) ∧ ∀ y, y < f → ι ρ y = 0
theorem z_fr.rf (ι : Nat → Nat → Int32) (g ρ γ : Nat) : z_fr ι ι g ρ γ := ⟨fun _ _ _ _ => rfl, fun _ _ _ => rfl⟩
theorem z_fr.tr {ι ι' ι'' : Nat → Nat → Int32} {g ρ γ : Nat} (h : z_fr ι ι' g ρ γ) (h' : z_fr ι' ι'' g ρ γ) : z_fr ι ι'' g ρ γ := ⟨fun a h1 h2 h3 => (h'.1 a h1 h2 h3).trans (h.1 a h1 h2 h3), fun j h1 h2 => (h'.2 j h1 h2).trans (h.2 j h1 h2)⟩
theorem v_nextS {σ : q_S} {ι : Nat → Nat → Int32} {κ : Nat → Nat → Int64} {g ρ γ : Nat} (hg : q_gr σ g ρ γ) (hs : z_GS ι g ρ γ) {R : q_O → q_S → Prop}
    (h0 : ¬ z_ne (z_in (ι ρ)) → ∀ ι' : Nat → Nat → Int32, z_fr ι ι' g ρ γ → z_GS ι' g ρ γ → z_in (ι' ρ) = z_in (ι ρ) → R (.inl (some (.inl 0))) (q_put σ ι' κ))
    (h1 : z_ne (z_in (ι ρ)) → ∀ ι' k l, z_fr ι ι' g ρ γ → ι' g 3 = nI k → ι' g 4 = nI l → k ≤ l → l < 24 → (∀ y, y < 24 → (y < k ∨ l < y) → ι' γ y = 0) → ¬ ι' γ k = 0 → ¬ ι' γ l = 0 → z_GS ι' g ρ γ → z_in (ι' γ) = z_fc (¬ ι g 0 = 0) (z_in (ι ρ)) → z_in (ι' ρ) = z_rm (¬ ι g 0 = 0) (z_in (ι ρ)) → z_ca (ι' ρ) < z_ca (ι ρ) → R (.inl (some (.inl 1))) (q_put σ ι' κ)) : V_PG_next g (q_put σ ι κ) R := by
  obtain ⟨f, l, s1, s2, s3, s4, s5, s6⟩ := hs
  have hgγ : g ≠ γ := fun e => by have := hg.1; rw [e, hg.2.2.2.2.1] at this; cases this
  have hργ : ρ ≠ γ := hg.2.2.2.2.2.2.2
  refine v_next hg s1 s2 s3 s4 s5 s6 (fun q ι' q1 q2 => ?_) (fun ι' k l' q1 q2 q3 q4 q5 q6 q7 q8 q9 q10 q11 q12 q13 => ?_)
  · refine h0 (z_ne_rows0.mpr q) ι' ⟨fun a _ _ z => q1 a z, fun j _ _ => by rw [q1 g hgγ]⟩ ⟨f, l, by rw [q1 g hgγ]; exact s1, by rw [q1 g hgγ]; exact s2, s3, s4, fun y hy _ => q2 y hy, fun y hy => by rw [q1 ρ hργ]; exact s6 y hy⟩ (by rw [q1 ρ hργ])
  · have e1 : z_in (ι' γ) = z_fc (¬ ι g 0 = 0) (z_in (ι ρ)) := z_eqset q8
    have e2 : z_in (ι' ρ) = z_in (fun y => ι ρ y &&& (ι' γ y ^^^ (-1))) := z_in_congr q11
    refine h1 (z_ne_rows.mpr ⟨k, q1, q2⟩) ι' k l' q3 q4 q5 q6 q7 q9 q12 q13 ⟨k, l', q4, q5, q1, q7, q9, fun y hy => ?_⟩ e1 (e2.trans (z_in_andn q8)) ?_
    · rw [q11 y (by omega), q10 y hy]
      refine b_ext fun i _ => ?_
      rw [b_and, b_0, Bool.false_and]
    · rw [z_ca_congr q11]
      refine z_ca_andn (fun y hy x hx => ?_) (by rw [e1]; exact z_fc_ne (z_ne_rows.mpr ⟨k, q1, q2⟩))
      exact (z_fc.sub ((q8 x y).mp ⟨hy, hx⟩)).2
theorem v_start {σ : q_S} {ι : Nat → Nat → Int32} {κ : Nat → Nat → Int64} {g ρ γ t : Nat} (hg : q_gr σ g ρ γ) (htK : q_K σ t = 1000) (htZ : q_Z σ t = 24) {R : q_O → q_S → Prop}
    (h : ∀ ι' : Nat → Nat → Int32, z_fr ι ι' g ρ γ → z_GS ι' g ρ γ → (∀ y, y < 24 → ι' ρ y = ι t y) → R (.inl none) (q_put σ ι' κ)) : V_PG_start g t (q_put σ ι κ) R := by
  obtain ⟨hK, rfl, rfl, hKr, hKg, hZr, hZg, hne⟩ := hg
  have hgρ : q_P σ g 1 ≠ g := fun e => by rw [e, hK] at hKr; cases hKr
  have hgγ : g ≠ q_P σ g 2 := fun e => by rw [← e, hK] at hKg; cases hKg
  refine ⟨hK, htK, hKr, by decide, by decide, by decide, by show 0 + 24 ≤ q_Z σ t; omega, by show 0 + 24 ≤ q_Z σ (q_P σ g 1); omega, fun σ9 e9 => ?_⟩
  subst e9
  refine ⟨hK, fun σ10 e10 => ?_⟩
  subst e10
  refine ⟨hK, fun σ12 e12 => ?_⟩
  subst e12
  have key : ∀ ι' : Nat → Nat → Int32, (∀ a, a ≠ g → a ≠ q_P σ g 1 → ι' a = ι a) → (∀ j, j ≠ 3 → j ≠ 4 → ι' g j = ι g j) → ι' g 3 = nI 0 → ι' g 4 = nI 23 → (∀ y, y < 24 → ι' (q_P σ g 1) y = ι t y) → R (.inl none) (q_put σ ι' κ) := by
    intro ι' k1 k2 k3 k4 k5
    exact h ι' ⟨fun a z1 z2 _ => k1 a z1 z2, k2⟩ ⟨0, 23, k3, k4, by decide, by decide, fun y z1 z2 => by omega, fun y z1 => by omega⟩ k5
  refine key (va_up (va_up (va_up ι (q_P σ g 1) (va_cpy (ι t) (ι (q_P σ g 1)) 0 0 24)) g (va_up (va_up ι (q_P σ g 1) (va_cpy (ι t) (ι (q_P σ g 1)) 0 0 24) g) 3 0)) g (va_up (va_up (va_up ι (q_P σ g 1) (va_cpy (ι t) (ι (q_P σ g 1)) 0 0 24)) g (va_up (va_up ι (q_P σ g 1) (va_cpy (ι t) (ι (q_P σ g 1)) 0 0 24) g) 3 0) g) 4 23)) (fun a z1 z2 => ?_) (fun j z1 z2 => ?_) ?_ ?_ (fun y hy => ?_)
  · rw [up_n z1, up_n z1, up_n z2]
  · rw [up_s, up_n z2, up_s, up_n z1, up_n (Ne.symm hgρ)]
  · rw [up_s, up_n (by decide), up_s, up_s]; rfl
  · rw [up_s, up_s]; rfl
  · rw [up_n hgρ, up_n hgρ, up_s, pk_cpy_in (Nat.zero_le _) (by omega)]
    congr 1
    omega
theorem v_startAround {σ : q_S} {ι : Nat → Nat → Int32} {κ : Nat → Nat → Int64} {g ρ γ t : Nat} (hg : q_gr σ g ρ γ) (htK : q_K σ t = 1000) (htZ : q_Z σ t = 24) (htρ : t ≠ ρ) {R : q_O → q_S → Prop}
    (h : ∀ ι' : Nat → Nat → Int32, z_fr ι ι' g ρ γ → z_GS ι' g ρ γ → (∀ y, y < 24 → ι' ρ y = ι t y ^^^ (-1)) → R (.inl none) (q_put σ ι' κ)) : V_PG_startAround g t (q_put σ ι κ) R := by
  obtain ⟨hK, rfl, rfl, hKr, hKg, hZr, hZg, hne⟩ := hg
  have hgρ : q_P σ g 1 ≠ g := fun e => by rw [e, hK] at hKr; cases hKr
  have hgγ : g ≠ q_P σ g 2 := fun e => by rw [← e, hK] at hKg; cases hKg
  have hit : ∀ j : Nat, j < 24 → vp_in (nI j) (q_Z σ t) := fun j hj => by rw [htZ]; exact vp_in_nI hj (by decide)
  have hir : ∀ j : Nat, j < 24 → vp_in (nI j) (q_Z σ (q_P σ g 1)) := fun j hj => by rw [hZr]; exact vp_in_nI hj (by decide)
  intro P2 h2
  have key : ∀ ι' : Nat → Nat → Int32, (∀ a, a ≠ g → a ≠ q_P σ g 1 → ι' a = ι a) → (∀ j, j ≠ 3 → j ≠ 4 → ι' g j = ι g j) → ι' g 3 = nI 0 → ι' g 4 = nI 23 → (∀ y, y < 24 → ι' (q_P σ g 1) y = ι t y ^^^ (-1)) → R (.inl none) (q_put σ ι' κ) := by
    intro ι' k1 k2 k3 k4 k5
    exact h ι' ⟨fun a z1 z2 _ => k1 a z1 z2, k2⟩ ⟨0, 23, k3, k4, by decide, by decide, fun y z1 z2 => by omega, fun y z1 => by omega⟩ k5
  have e2 : ∀ d y (ι' : Nat → Nat → Int32), y + d = 24 → (∀ a, a ≠ q_P σ g 1 → ι' a = ι a) → (∀ j, j < y → ι' (q_P σ g 1) j = ι t j ^^^ (-1)) → P2 g t (nI y) (q_put σ ι' κ) := by
    intro d
    induction d with
    | zero =>
      intro y ι' hy ho hr
      refine h2 _ _ _ _ (pk_le 24 y (fun _ => ⟨hK, fun σ2 e2 => ?_⟩) (fun q => by omega))
      subst e2
      refine ⟨hK, fun σ4 e4 => ?_⟩
      subst e4
      refine key (va_up (va_up ι' g (va_up (ι' g) 3 0)) g (va_up (va_up ι' g (va_up (ι' g) 3 0) g) 4 23)) (fun a z1 z2 => ?_) (fun j z1 z2 => ?_) ?_ ?_ (fun j hj => ?_)
      · rw [up_n z1, up_n z1]; exact ho a z2
      · rw [up_s, up_n z2, up_s, up_n z1, ho g (Ne.symm hgρ)]
      · rw [up_s, up_n (by decide), up_s, up_s]; rfl
      · rw [up_s, up_s]; rfl
      · rw [up_n hgρ, up_n hgρ]; exact hr j (by omega)
    | succ d ih =>
      intro y ι' hy ho hr
      refine h2 _ _ _ _ (pk_le 24 y (fun q => by omega) (fun _ => ⟨hK, Or.inl htK, hit y (by omega), hKr, hir y (by omega), fun σ6 e6 v12 e12 => ?_⟩))
      rw [nI_clamp (by omega)] at e6
      rw [nI_1] at e12
      subst e6
      rw [e12]
      refine ih (y + 1) (va_up ι' (q_P σ g 1) (va_up (ι' (q_P σ g 1)) y (ι' t y ^^^ (-1)))) (by omega) (fun a z => by rw [up_n z]; exact ho a z) (fun j hj => ?_)
      rw [up_s]
      by_cases e : j = y
      · rw [e, up_s, ho t htρ]
      · rw [up_n e]; exact hr j (by omega)
  exact e2 24 0 ι (by omega) (fun _ _ => rfl) (fun j hj => by omega)
theorem z_edge32 (v : Int32) : v &&& (-2147483647 : Int32) = 0 ↔ ¬ (bt v 0 = true ∨ bt v 31 = true) := by
  have hb : ∀ i, i < 32 → bt (-2147483647 : Int32) i = decide (i = 0 ∨ i = 31) := by decide +kernel
  rw [b_eq0]
  constructor
  · rintro h (h1 | h1)
    · have := h 0 (by decide)
      rw [b_and, hb 0 (by decide), h1] at this
      exact absurd this (by decide)
    · have := h 31 (by decide)
      rw [b_and, hb 31 (by decide), h1] at this
      exact absurd this (by decide)
  · intro h i hi
    rw [b_and, hb i hi]
    by_cases e : i = 0 ∨ i = 31
    · cases e2 : bt v i
      · rfl
      · exact absurd (by rcases e with rfl | rfl; exact Or.inl e2; exact Or.inr e2) h
    · rw [decide_eq_false e, Bool.and_false]
theorem v_comesToBorder {σ : q_S} {ι : Nat → Nat → Int32} {κ : Nat → Nat → Int64} {g ρ γ f l : Nat} (hg : q_gr σ g ρ γ) (hf3 : ι g 3 = nI f) (hl4 : ι g 4 = nI l) (hfl : f ≤ l) (hl : l < 24) (hz : ∀ y, y < 24 → (y < f ∨ l < y) → ι γ y = 0) (hnf : ¬ ι γ f = 0) (hnl : ¬ ι γ l = 0) {R : q_O → q_S → Prop}
    (h : ∀ v, ((v = 1 ∧ z_bd (z_in (ι γ))) ∨ (v = 0 ∧ ¬ z_bd (z_in (ι γ)))) → R (.inl (some (.inl v))) (q_put σ ι κ)) : V_PG_comesToBorder g (q_put σ ι κ) R := by
  obtain ⟨hK, rfl, rfl, hKr, hKg, hZr, hZg, hne⟩ := hg
  have hi : ∀ j : Nat, j < 24 → vp_in (nI j) (q_Z σ (q_P σ g 2)) := fun j hj => by rw [hZg]; exact vp_in_nI hj (by decide)
  intro P16 P21 P27 P53 h16 h21 h27 h53
  have hb0 : (¬ ι (q_P σ g 2) 0 = 0 ∨ ¬ ι (q_P σ g 2) 23 = 0) ↔ (f = 0 ∨ l = 23) := by
    constructor
    · rintro (z | z)
      · by_cases e : f = 0
        · exact Or.inl e
        · exact absurd (hz 0 (by decide) (Or.inl (by omega))) z
      · by_cases e : l = 23
        · exact Or.inr e
        · exact absurd (hz 23 (by decide) (Or.inr (by omega))) z
    · rintro (rfl | rfl)
      · exact Or.inl hnf
      · exact Or.inr hnl
  have e27 : ∀ d y cm, y + d = l + 1 → ((cm = 1 ∧ ((f = 0 ∨ l = 23) ∨ ∃ j, f ≤ j ∧ j < y ∧ (bt (ι (q_P σ g 2) j) 0 = true ∨ bt (ι (q_P σ g 2) j) 31 = true))) ∨ (cm = 0 ∧ ¬ ((f = 0 ∨ l = 23) ∨ ∃ j, f ≤ j ∧ j < y ∧ (bt (ι (q_P σ g 2) j) 0 = true ∨ bt (ι (q_P σ g 2) j) 31 = true)))) → f ≤ y → P27 g cm (nI y) (q_put σ ι κ) := by
    intro d
    induction d with
    | zero =>
      intro y cm hy hc hfy
      have hall : z_bd (z_in (ι (q_P σ g 2))) ↔ ((f = 0 ∨ l = 23) ∨ ∃ j, f ≤ j ∧ j < y ∧ (bt (ι (q_P σ g 2) j) 0 = true ∨ bt (ι (q_P σ g 2) j) 31 = true)) := by
        rw [z_bd_rows, hb0]
        constructor
        · rintro (z | ⟨j, z1, z2⟩)
          · exact Or.inl z
          · refine Or.inr ⟨j, ?_, ?_, z2⟩
            · rcases Nat.lt_or_ge j f with q | q
              · rw [hz j z1 (Or.inl q), b_0, b_0] at z2
                rcases z2 with z2 | z2 <;> cases z2
              · exact q
            · rcases Nat.lt_or_ge l j with q | q
              · rw [hz j z1 (Or.inr q), b_0, b_0] at z2
                rcases z2 with z2 | z2 <;> cases z2
              · omega
        · rintro (z | ⟨j, z1, z2, z3⟩)
          · exact Or.inl z
          · exact Or.inr ⟨j, by omega, z3⟩
      refine h27 _ _ _ _ ⟨hK, pk_lt l y (fun _ => ?_) (fun q => by omega) hl4⟩
      rcases hc with ⟨c1, c2⟩ | ⟨c1, c2⟩
      · exact ⟨Or.inr c1, h cm (Or.inl ⟨c1, hall.mpr c2⟩)⟩
      · exact ⟨Or.inl c1, h cm (Or.inr ⟨c1, fun z => c2 (hall.mp z)⟩)⟩
    | succ d ih =>
      intro y cm hy hc hfy
      have nx : ∀ v : Int32, ((v = 1 ∧ (bt (ι (q_P σ g 2) y) 0 = true ∨ bt (ι (q_P σ g 2) y) 31 = true)) ∨ (v = 0 ∧ ¬ (bt (ι (q_P σ g 2) y) 0 = true ∨ bt (ι (q_P σ g 2) y) 31 = true))) → P53 g (nI y) v cm (q_put σ ι κ) := by
        intro v hv
        refine h53 _ _ _ _ _ (fun v1 e1 v2 e2 => ?_)
        rw [nI_1] at e2
        rw [e2]
        refine ih (y + 1) v1 (by omega) ?_ (by omega)
        have hiff : ((f = 0 ∨ l = 23) ∨ ∃ j, f ≤ j ∧ j < y + 1 ∧ (bt (ι (q_P σ g 2) j) 0 = true ∨ bt (ι (q_P σ g 2) j) 31 = true)) ↔ ((f = 0 ∨ l = 23) ∨ ∃ j, f ≤ j ∧ j < y ∧ (bt (ι (q_P σ g 2) j) 0 = true ∨ bt (ι (q_P σ g 2) j) 31 = true)) ∨ (bt (ι (q_P σ g 2) y) 0 = true ∨ bt (ι (q_P σ g 2) y) 31 = true) := by
          constructor
          · rintro (z | ⟨j, z1, z2, z3⟩)
            · exact Or.inl (Or.inl z)
            · by_cases e : j = y
              · rw [e] at z3; exact Or.inr z3
              · exact Or.inl (Or.inr ⟨j, z1, by omega, z3⟩)
          · rintro ((z | ⟨j, z1, z2, z3⟩) | z)
            · exact Or.inl z
            · exact Or.inr ⟨j, z1, by omega, z3⟩
            · exact Or.inr ⟨y, hfy, by omega, z⟩
        rw [hiff]
        rcases hc with ⟨c1, c2⟩ | ⟨c1, c2⟩ <;> rcases hv with ⟨d1, d2⟩ | ⟨d1, d2⟩
        · exact Or.inl ⟨by rw [e1, c1, d1]; rfl, Or.inl c2⟩
        · exact Or.inl ⟨by rw [e1, c1, d1]; rfl, Or.inl c2⟩
        · exact Or.inl ⟨by rw [e1, c1, d1]; rfl, Or.inr d2⟩
        · refine Or.inr ⟨by rw [e1, c1, d1]; rfl, ?_⟩
          rintro (z | z)
          · exact c2 z
          · exact d2 z
      have eG : q_I (q_put σ ι κ) (q_P (q_put σ ι κ) g 2) (nI y).toNatClampNeg = ι (q_P σ g 2) y := by
        rw [nI_clamp (by omega)]; rfl
      refine h27 _ _ _ _ ⟨hK, pk_lt l y (fun q => by omega) (fun _ => ⟨hK, Or.inl hKg, hi y (by omega), ?_⟩) hl4⟩
      rw [eG, z_edge32]
      exact ⟨fun z => nx 0 (Or.inr ⟨rfl, z⟩), fun z => nx 1 (Or.inl ⟨rfl, Classical.not_not.mp z⟩)⟩
  have e21 : ∀ v : Int32, ((v = 1 ∧ (f = 0 ∨ l = 23)) ∨ (v = 0 ∧ ¬ (f = 0 ∨ l = 23))) → P21 g v (q_put σ ι κ) := by
    intro v hv
    refine h21 _ _ _ ⟨hK, fun v1 e1 => ?_⟩
    have e1' : v1 = nI f := e1.trans hf3
    rw [e1']
    refine e27 (l + 1 - f) f v (by omega) ?_ (Nat.le_refl _)
    rcases hv with ⟨c1, c2⟩ | ⟨c1, c2⟩
    · exact Or.inl ⟨c1, Or.inl c2⟩
    · refine Or.inr ⟨c1, ?_⟩
      rintro (z | ⟨j, z1, z2, _⟩)
      · exact c2 z
      · omega
  refine ⟨hK, pk_eq f 0 (fun z => h16 _ _ (e21 1 (Or.inl ⟨rfl, Or.inl z⟩))) (fun z => ⟨hK, ?_⟩) hf3⟩
  have e4 : ι g 4 = (23 : Int32) ↔ l = 23 := by rw [hl4]; exact nI_eq (b := 23) (by omega) (by omega)
  refine ⟨fun z2 => e21 0 (Or.inr ⟨rfl, ?_⟩), fun z2 => h16 _ _ (e21 1 (Or.inl ⟨rfl, Or.inr (e4.mp (Classical.not_not.mp z2))⟩))⟩
  rintro (w | w)
  · exact z w
  · exact z2 (e4.mpr w)
theorem z_ca0 {r : Nat → Int32} (h : z_ca r = 0) : ¬ z_ne (z_in r) := by
  rintro ⟨x, y, h1⟩
  have := z_ca1 h1
  omega
theorem v_takeNextHole {σ : q_S} {ι : Nat → Nat → Int32} {κ : Nat → Nat → Int64} {X g ρ γ : Nat} (hX : q_K σ X = 1) (hXg : q_P σ X 7 = g) (hg : q_gr σ g ρ γ) (hs : z_GS ι g ρ γ) (hask : ¬ ι g 0 = 0) {R : q_O → q_S → Prop}
    (h0 : z_hn (z_in (ι ρ)) → ∀ ι' : Nat → Nat → Int32, z_fr ι ι' g ρ γ → R (.inl (some (.inl 0))) (q_put σ ι' κ))
    (h1 : ∀ n (ι' : Nat → Nat → Int32), z_hf (z_in (ι ρ)) n → z_fr ι ι' g ρ γ → z_GS ι' g ρ γ → z_in (ι' γ) = z_fc True (z_it True n (z_in (ι ρ))) → z_in (ι' ρ) = z_it True (n + 1) (z_in (ι ρ)) → z_ca (ι' ρ) < z_ca (ι ρ) → R (.inl (some (.inl 1))) (q_put σ ι' κ)) : V_PF_takeNextHole X (q_put σ ι κ) R := by
  subst hXg
  intro P2 P37 h2 h37
  have e2 : ∀ d n (ι' : Nat → Nat → Int32), n + d = 768 → z_fr ι ι' (q_P σ X 7) ρ γ → z_GS ι' (q_P σ X 7) ρ γ → z_in (ι' ρ) = z_it True n (z_in (ι ρ)) → z_hs (z_in (ι ρ)) n → z_ca (ι' ρ) + n ≤ 768 → z_ca (ι' ρ) ≤ z_ca (ι ρ) → P2 X (nI n) (q_put σ ι' κ) := by
    intro d
    induction d with
    | zero =>
      intro n ι' hn q1 q2 q3 q4 q5 q6
      refine h2 _ _ _ (pk_le 768 n (fun _ => h37 _ (h0 ⟨n, q4, ?_⟩ ι' q1)) (fun q => by omega))
      rw [← q3]; exact z_ca0 (by omega)
    | succ d ih =>
      intro n ι' hn q1 q2 q3 q4 q5 q6
      have ha : ι' (q_P σ X 7) 0 = ι (q_P σ X 7) 0 := q1.2 0 (by decide) (by decide)
      have hT : (¬ ι (q_P σ X 7) 0 = 0) = True := eq_true hask
      refine h2 _ _ _ (pk_le 768 n (fun q => by omega) (fun _ => ⟨hX, hg.1, ?_⟩))
      refine v_nextS hg q2 (fun w ι2 w1 w2 w3 => ?_) (fun w ι2 k l w1 w2 w3 w4 w5 w6 w7 w8 w9 w10 w11 w12 => ?_)
      · refine br_t rfl (h37 _ (h0 ⟨n, q4, ?_⟩ ι2 (q1.tr w1)))
        rw [← q3]; exact w
      · rw [ha, hT, q3] at w10 w11
        refine br_f (by decide) ⟨hX, hg.1, ?_⟩
        refine v_comesToBorder hg w2 w3 w4 w5 w6 w7 w8 (fun v hv => ?_)
        rcases hv with ⟨v1, v2⟩ | ⟨v1, v2⟩
        · refine ⟨fun _ v16 e16 => ?_, fun z => absurd (fun z2 => by rw [v1] at z2; exact absurd z2 (by decide)) z⟩
          rw [nI_1] at e16
          rw [e16]
          refine ih (n + 1) ι2 (by omega) (q1.tr w1) w9 (by rw [z_it_s]; exact w11) (q4.s (by rw [← q3]; exact w) (by rw [← w10]; exact v2)) (by omega) (by omega)
        · refine ⟨fun z => absurd v1 z, fun _ => h1 n ι2 ⟨q4, by rw [← q3]; exact w, by rw [← w10]; exact v2⟩ (q1.tr w1) w9 w10 (by rw [z_it_s]; exact w11) (by omega)⟩
  exact e2 768 0 ι (by omega) (z_fr.rf _ _ _ _) hs rfl (fun i hi => by omega) (by have := z_ca_le (ι ρ); omega) (Nat.le_refl _)
