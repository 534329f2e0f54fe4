/-! GROUPS OF THE CLASS, further -/
/-- ints as they were, but the object's last row, and the group's rows -/
def z_gs (ι ι' : Nat → Nat → Int32) (g γ l : Nat) : Prop := (∀ a, a ≠ g → a ≠ γ → ι' a = ι a) ∧ (∀ j, j ≠ 4 → ι' g j = ι g j) ∧ ι' g 4 = nI l
theorem z_gs.rowUp {ι ι' : Nat → Nat → Int32} {g γ l : Nat} (h : z_gs ι ι' g γ l) (hne : g ≠ γ) (G : Nat → Int32) : z_gs ι (va_up ι' γ G) g γ l := by
  refine ⟨fun a h1 h2 => ?_, fun j hj => ?_, ?_⟩
  · rw [up_n h2]; exact h.1 a h1 h2
  · rw [up_n hne]; exact h.2.1 j hj
  · rw [up_n hne]; exact h.2.2
theorem z_gs.lastUp {ι ι' : Nat → Nat → Int32} {g γ l : Nat} (h : z_gs ι ι' g γ l) (l' : Nat) : z_gs ι (va_up ι' g (va_up (ι' g) 4 (nI l'))) g γ l' := by
  refine ⟨fun a h1 h2 => ?_, fun j hj => ?_, ?_⟩
  · rw [up_n h1]; exact h.1 a h1 h2
  · rw [up_s, up_n hj]; exact h.2.1 j hj
  · rw [up_s, up_s]
/-- a group that grows: within the rows f to l; it holds the cell it began with, and nothing that isn't joined to that -/
def z_GI (ask : Prop) (r : Nat → Int32) (a b f l : Nat) (G : Nat → Int32) : Prop := f ≤ l ∧ l < 24 ∧ (∀ y, y < 24 → (y < f ∨ l < y) → G y = 0) ∧ z_in G a b ∧ (∀ S : Nat → Nat → Prop, S a b → z_cl ask (z_in r) S → ∀ x y, z_in G x y → S x y) ∧ ¬ G l = 0
theorem z_GI.upd {ask : Prop} {r : Nat → Int32} {a b f l k : Nat} {G : Nat → Int32} {w : Int32} (h : z_GI ask r a b f l G) (hw : z_row ask r G k w) (hf : f ≤ k) (hk : k < 24) {l' : Nat} (hl : (l' = l ∧ (w = 0 ∨ k ≤ l)) ∨ (l' = k ∧ l ≤ k ∧ ¬ w = 0)) : z_GI ask r a b f l' (va_up G k w) := by
  obtain ⟨h1, h2, h3, h4, h5, h6⟩ := h
  refine ⟨by omega, by omega, fun y hy hyo => ?_, ⟨h4.1, ?_⟩, fun S hS hcl x y hx => ?_, fun z => ?_⟩
  · by_cases e : y = k
    · subst e
      rw [up_s]
      rcases hl with ⟨q1, q2 | q2⟩ | ⟨q1, q2, q3⟩
      · exact q2
      · omega
      · omega
    · rw [up_n e]; exact h3 y hy (by omega)
  · by_cases e : b = k
    · subst e; rw [up_s]; exact hw.1 a h4.2
    · rw [up_n e]; exact h4.2
  · obtain ⟨hy, hb⟩ := hx
    by_cases e : y = k
    · subst e
      rw [up_s] at hb
      exact hw.2.1 S hcl (h5 S hS hcl) x hb
    · rw [up_n e] at hb
      exact h5 S hS hcl x y ⟨hy, hb⟩
  · by_cases e : l' = k
    · rw [e, up_s] at z
      rcases hl with ⟨q1, _⟩ | ⟨_, _, q3⟩
      · obtain ⟨x, _, hx⟩ := b_ne0.mp h6
        have := hw.1 x (by rw [← e, q1]; exact hx)
        rw [z, b_0] at this; cases this
      · exact q3 z
    · rw [up_n e] at z
      rcases hl with ⟨q1, _⟩ | ⟨q1, _, _⟩
      · rw [q1] at z; exact h6 z
      · exact e q1
theorem z_max {a b : Nat} (ha : a < 2 ^ 31) (hb : b < 2 ^ 31) : f_MT_max (nI a) (nI b) = nI (max a b) := by
  unfold f_MT_max
  by_cases h : a < b
  · rw [if_pos ((nI_ltI ha hb).mpr h), Nat.max_eq_right (by omega)]
  · rw [if_neg (fun z => h ((nI_ltI ha hb).mp z)), Nat.max_eq_left (by omega)]
theorem z_or01 {a b : Int32} (ha : a = 0 ∨ a = 1) (hb : b = 0 ∨ b = 1) : (a ||| b = 0 ∨ a ||| b = 1) ∧ (a ||| b = 0 ↔ a = 0 ∧ b = 0) := by
  rcases ha with rfl | rfl <;> rcases hb with rfl | rfl <;> decide
theorem z_ca_congr {a b : Nat → Int32} (h : ∀ y, y < 24 → a y = b y) : z_ca a = z_ca b := z_sm_congr fun i hi => by rw [h i hi]
theorem v_spreadOverRows {σ : q_S} {ι : Nat → Nat → Int32} {κ : Nat → Nat → Int64} {g ρ γ a b f l : Nat} (hg : q_gr σ g ρ γ) (hf3 : ι g 3 = nI f) (hl4 : ι g 4 = nI l) (hI : z_GI (¬ ι g 0 = 0) (ι ρ) a b f l (ι γ)) (hr0 : ∀ y, y < f → ι ρ y = 0) {R : q_O → q_S → Prop}
    (h : ∀ fl ι' l', z_gs ι ι' g γ l' → z_GI (¬ ι g 0 = 0) (ι ρ) a b f l' (ι' γ) → (∀ y, z_sub (ι γ y) (ι' γ y)) → ((fl = 0 ∧ z_cl (¬ ι g 0 = 0) (z_in (ι ρ)) (z_in (ι' γ))) ∨ (fl = 1 ∧ z_ca (ι γ) < z_ca (ι' γ))) → R (.inl (some (.inl fl))) (q_put σ ι' κ)) : V_PG_spreadOverRows g (q_put σ ι κ) R := by
  have hg' := hg
  obtain ⟨hK, rfl, rfl, hKr, hKg, hZr, hZg, hne⟩ := hg
  have hgρ : q_P σ g 1 ≠ g := fun e => by rw [e, hK] at hKr; cases hKr
  have hgγ : g ≠ q_P σ g 2 := fun e => by rw [← e, hK] at hKg; cases hKg
  have hi : ∀ j : Nat, j < 24 → vp_in (nI j) (q_Z σ (q_P σ g 2)) := fun j hj => by rw [hZg]; exact vp_in_nI hj (by decide)
  intro P7 P52 P58 P63 h7 h52 h58 h63
  -- one row, at a later state
  have one : ∀ ι' l' k, z_gs ι ι' g (q_P σ g 2) l' → k < 24 → ∀ (Q : q_O → q_S → Prop),
      (∀ w, z_row (¬ ι g 0 = 0) (ι (q_P σ g 1)) (ι' (q_P σ g 2)) k w → z_hz (ι (q_P σ g 1) k) w → Q (.inl (some (.inl (if w = ι' (q_P σ g 2) k then 0 else 1)))) (q_put σ (va_up ι' (q_P σ g 2) (va_up (ι' (q_P σ g 2)) k w)) κ)) → V_PG_spreadInRow g (nI k) (q_put σ ι' κ) Q := by
    intro ι' l' k hs hk Q hQ
    refine v_spreadInRow hg' hk (fun w h1 h2 => hQ w ?_ ?_)
    · rw [hs.2.1 0 (by decide), hs.1 _ hgρ hne] at h1; exact h1
    · rw [hs.1 _ hgρ hne] at h2; exact h2
  -- the second pass
  have e63 : ∀ m ι' l' fl, m ≤ l' + 1 → z_gs ι ι' g (q_P σ g 2) l' → z_GI (¬ ι g 0 = 0) (ι (q_P σ g 1)) a b f l' (ι' (q_P σ g 2)) → (∀ y, z_sub (ι (q_P σ g 2) y) (ι' (q_P σ g 2) y)) → (fl = 0 ∨ fl = 1) →
      (fl = 0 → z_cl (¬ ι g 0 = 0) (z_in (ι (q_P σ g 1))) (z_in (ι' (q_P σ g 2))) ∧ ∀ y, y < 24 → ι' (q_P σ g 2) y = ι (q_P σ g 2) y) → (fl = 1 → z_ca (ι (q_P σ g 2)) < z_ca (ι' (q_P σ g 2))) →
      ∀ yv, (m = 0 → yv = -1) → (0 < m → yv = nI (m - 1)) → P63 g fl yv (q_put σ ι' κ) := by
    intro m
    induction m with
    | zero =>
      intro ι' l' fl hm hs hGI hsub hfl h0 h1 yv hy0 _
      rw [hy0 rfl]
      have e3 : ι' g 3 = nI f := (hs.2.1 3 (by decide)).trans hf3
      refine h63 _ _ _ _ ⟨hK, br_t ?_ ⟨hfl, h fl ι' l' hs hGI hsub ?_⟩⟩
      · show (-1 : Int32) < ι' g 3
        rw [e3]
        have h2 := hGI.1
        have h3 := hGI.2.1
        exact Int32.lt_iff_toInt_lt.mpr (by rw [nI_toInt (by omega)]; show (-1 : Int) < _; omega)
      · rcases hfl with e | e
        · exact Or.inl ⟨e, (h0 e).1⟩
        · exact Or.inr ⟨e, h1 e⟩
    | succ m ih =>
      intro ι' l' fl hm hs hGI hsub hfl h0 h1 yv _ hy1
      have hyv : yv = nI m := hy1 (by omega)
      rw [hyv]
      have e3 : ι' g 3 = nI f := (hs.2.1 3 (by decide)).trans hf3
      have hl24 := hGI.2.1
      refine h63 _ _ _ _ ⟨hK, pk_lt m f (fun _ => ⟨hfl, h fl ι' l' hs hGI hsub ?_⟩) (fun hfm => ⟨hK, one ι' l' m hs (by omega) _ (fun w hw hz => ?_)⟩) rfl e3 (by omega) (by have := hGI.1; omega)⟩
      · rcases hfl with e | e
        · exact Or.inl ⟨e, (h0 e).1⟩
        · exact Or.inr ⟨e, h1 e⟩
      · intro v8 e8 v9 e9
        have h01 : (if w = ι' (q_P σ g 2) m then (0 : Int32) else 1) = 0 ∨ (if w = ι' (q_P σ g 2) m then (0 : Int32) else 1) = 1 := by split <;> simp
        obtain ⟨hv1, hv2⟩ := z_or01 hfl h01
        rw [← e8] at hv1 hv2
        have hsub' : ∀ y, z_sub (ι' (q_P σ g 2) y) (va_up (ι' (q_P σ g 2)) m w y) := fun y => by
          by_cases e : y = m
          · subst e; rw [up_s]; exact hw.1
          · rw [up_n e]; exact z_sub.rf _
        have hroweq : w = ι' (q_P σ g 2) m → ∀ y, va_up (ι' (q_P σ g 2)) m w y = ι' (q_P σ g 2) y := fun e y => by
          by_cases e2 : y = m
          · subst e2; rw [up_s]; exact e
          · rw [up_n e2]
        refine ih (va_up ι' (q_P σ g 2) (va_up (ι' (q_P σ g 2)) m w)) l' v8 (by omega) (hs.rowUp hgγ _) ?_ ?_ hv1 ?_ ?_ v9 ?_ ?_
        · rw [up_s]
          exact hGI.upd hw hfm (by omega) (Or.inl ⟨rfl, Or.inr (by omega)⟩)
        · intro y; rw [up_s]; exact (hsub y).tr (hsub' y)
        · intro e
          obtain ⟨q1, q2⟩ := hv2.mp e
          have q3 : w = ι' (q_P σ g 2) m := by
            by_cases z : w = ι' (q_P σ g 2) m
            · exact z
            · rw [if_neg z] at q2; cases q2
          have q4 : va_up (ι' (q_P σ g 2)) m w = ι' (q_P σ g 2) := funext (hroweq q3)
          rw [up_s, q4]
          exact h0 q1
        · intro e
          rw [up_s]
          have hmono := z_ca_mono (a := ι' (q_P σ g 2)) (b := va_up (ι' (q_P σ g 2)) m w) (fun y _ => hsub' y)
          rcases hfl with q1 | q1
          · have q2 : ¬ w = ι' (q_P σ g 2) m := fun z => by
              rw [if_pos z, q1] at e8
              rw [e8] at e; exact absurd e (by decide)
            have h2 := z_ca_lt (a := ι' (q_P σ g 2)) (b := va_up (ι' (q_P σ g 2)) m w) (fun y _ => hsub' y) (k := m) (by omega) (by rw [up_s]; exact fun z => q2 z.symm)
            have h3 := z_ca_congr (h0 q1).2
            omega
          · have := h1 q1
            omega
        · intro e; rw [e9, e]; rfl
        · intro e
          rw [e9, show m = (m - 1) + 1 by omega, pk_m1, Nat.add_sub_cancel]
  -- the first pass
  have e58 : ∀ ι' l' fl, z_gs ι ι' g (q_P σ g 2) l' → z_GI (¬ ι g 0 = 0) (ι (q_P σ g 1)) a b f l' (ι' (q_P σ g 2)) → (∀ y, z_sub (ι (q_P σ g 2) y) (ι' (q_P σ g 2) y)) → (fl = 0 ∨ fl = 1) →
      (fl = 0 → z_cl (¬ ι g 0 = 0) (z_in (ι (q_P σ g 1))) (z_in (ι' (q_P σ g 2))) ∧ ∀ y, y < 24 → ι' (q_P σ g 2) y = ι (q_P σ g 2) y) → (fl = 1 → z_ca (ι (q_P σ g 2)) < z_ca (ι' (q_P σ g 2))) → P58 g fl (q_put σ ι' κ) := by
    intro ι' l' fl hs hGI hsub hfl h0 h1
    refine h58 _ _ _ ⟨hK, fun v1 e1 => ?_⟩
    have e4 : v1 = nI l' := e1.trans hs.2.2
    exact e63 (l' + 1) ι' l' fl (Nat.le_refl _) hs hGI hsub hfl h0 h1 v1 (fun z => by omega) (fun _ => by rw [e4, Nat.add_sub_cancel])
  -- a group that didn't change in all its rows is closed
  have clo : ∀ ι' : Nat → Nat → Int32, (∀ y, y < 24 → ι' (q_P σ g 2) y = ι (q_P σ g 2) y) → (∀ y, f ≤ y → y < 24 → y ≤ l + 1 → z_row (¬ ι g 0 = 0) (ι (q_P σ g 1)) (ι' (q_P σ g 2)) y (ι (q_P σ g 2) y) ∧ z_hz (ι (q_P σ g 1) y) (ι (q_P σ g 2) y)) → z_cl (¬ ι g 0 = 0) (z_in (ι (q_P σ g 1))) (z_in (ι' (q_P σ g 2))) := by
    intro ι' heq hall x y x' y' hx had hx'
    have hyl : y ≤ l := by
      rcases Nat.lt_or_ge l y with q | q
      · exfalso
        have := hI.2.2.1 y hx.1 (Or.inr q)
        have h2 := hx.2
        rw [heq y hx.1, this, b_0] at h2; cases h2
      · exact q
    have hfy' : f ≤ y' := by
      rcases Nat.lt_or_ge y' f with q | q
      · exfalso
        have := hx'.2
        rw [hr0 y' q, b_0] at this; cases this
      · exact q
    have hyy : y' ≤ y + 1 := by
      rcases had with ⟨q, _⟩ | ⟨_, q⟩ | ⟨_, _, _, q⟩ <;> omega
    obtain ⟨hrow, hhz⟩ := hall y' hfy' hx'.1 (by omega)
    refine ⟨hx'.1, ?_⟩
    rw [heq y' hx'.1]
    by_cases e : y = y'
    · subst e
      have hb := hx.2
      rw [heq y hx.1] at hb
      rcases had with ⟨_, q⟩ | ⟨_, q⟩ | ⟨_, _, _, q⟩
      · exact hhz x x' hb q hx'.2
      · omega
      · omega
    · exact hrow.2.2 x y x' hx had e hx'.2
  have e7 : ∀ d y ι' l' fl, y + d = 24 → f ≤ y → z_gs ι ι' g (q_P σ g 2) l' → z_GI (¬ ι g 0 = 0) (ι (q_P σ g 1)) a b f l' (ι' (q_P σ g 2)) → (∀ y, z_sub (ι (q_P σ g 2) y) (ι' (q_P σ g 2) y)) → (fl = 0 ∨ fl = 1) →
      (fl = 0 → (∀ y, y < 24 → ι' (q_P σ g 2) y = ι (q_P σ g 2) y) ∧ l' = l ∧ ∀ y', f ≤ y' → y' < y → z_row (¬ ι g 0 = 0) (ι (q_P σ g 1)) (ι' (q_P σ g 2)) y' (ι (q_P σ g 2) y') ∧ z_hz (ι (q_P σ g 1) y') (ι (q_P σ g 2) y')) → (fl = 1 → z_ca (ι (q_P σ g 2)) < z_ca (ι' (q_P σ g 2))) → P7 g fl (nI y) (q_put σ ι' κ) := by
    intro d
    induction d with
    | zero =>
      intro y ι' l' fl hy hfy hs hGI hsub hfl h0 h1
      refine h7 _ _ _ _ (pk_le 24 y (fun _ => e58 ι' l' fl hs hGI hsub hfl (fun e => ?_) h1) (fun q => by omega))
      obtain ⟨q1, q2, q3⟩ := h0 e
      exact ⟨clo ι' q1 (fun y9 z1 z2 z3 => q3 y9 z1 (by omega)), q1⟩
    | succ d ih =>
      intro y ι' l' fl hy hfy hs hGI hsub hfl h0 h1
      have hl24 := hGI.2.1
      have e4 : ι' g 4 + 1 = nI (l' + 1) := by rw [hs.2.2, nI_1]
      refine h7 _ _ _ _ (pk_le 24 y (fun q => by omega) (fun _ => ⟨hK, pk_lt (l' + 1) y (fun q => e58 ι' l' fl hs hGI hsub hfl (fun e => ?_) h1) (fun q => ⟨hK, one ι' l' y hs (by omega) _ (fun w hw hz => ?_)⟩) e4⟩))
      · obtain ⟨q1, q2, q3⟩ := h0 e
        exact ⟨clo ι' q1 (fun y9 z1 z2 z3 => q3 y9 z1 (by omega)), q1⟩
      · intro v9 e9
        have h01 : (if w = ι' (q_P σ g 2) y then (0 : Int32) else 1) = 0 ∨ (if w = ι' (q_P σ g 2) y then (0 : Int32) else 1) = 1 := by split <;> simp
        obtain ⟨hv1, hv2⟩ := z_or01 hfl h01
        rw [← e9] at hv1 hv2
        have hsub' : ∀ y', z_sub (ι' (q_P σ g 2) y') (va_up (ι' (q_P σ g 2)) y w y') := fun y' => by
          by_cases e : y' = y
          · subst e; rw [up_s]; exact hw.1
          · rw [up_n e]; exact z_sub.rf _
        have hs1 := hs.rowUp hgγ (va_up (ι' (q_P σ g 2)) y w)
        have hrow : va_up ι' (q_P σ g 2) (va_up (ι' (q_P σ g 2)) y w) (q_P σ g 2) = va_up (ι' (q_P σ g 2)) y w := up_s _ _ _
        -- what follows, at the last row as it is then
        have nxt : ∀ ι'' l'', z_gs ι ι'' g (q_P σ g 2) l'' → ι'' (q_P σ g 2) = va_up (ι' (q_P σ g 2)) y w → ((l'' = l' ∧ (w = 0 ∨ y ≤ l')) ∨ (l'' = y ∧ l' ≤ y ∧ ¬ w = 0)) → (w = ι' (q_P σ g 2) y → fl = 0 → l'' = l') → P52 g v9 (nI y) (q_put σ ι'' κ) := by
          intro ι'' l'' hs2 he2 hl2 hl3
          refine h52 _ _ _ _ (fun v1 e1 => ?_)
          rw [nI_1] at e1
          rw [e1]
          refine ih (y + 1) ι'' l'' v9 (by omega) (by omega) hs2 ?_ ?_ hv1 ?_ ?_
          · rw [he2]; exact hGI.upd hw hfy (by omega) hl2
          · intro y'; rw [he2]; exact (hsub y').tr (hsub' y')
          · intro e
            obtain ⟨q1, q2⟩ := hv2.mp e
            have q3 : w = ι' (q_P σ g 2) y := by
              by_cases z : w = ι' (q_P σ g 2) y
              · exact z
              · rw [if_neg z] at q2; cases q2
            have q4 : va_up (ι' (q_P σ g 2)) y w = ι' (q_P σ g 2) := funext fun y' => by
              by_cases e2 : y' = y
              · subst e2; rw [up_s]; exact q3
              · rw [up_n e2]
            obtain ⟨z1, z2, z3⟩ := h0 q1
            rw [he2, q4]
            refine ⟨z1, (hl3 q3 q1).trans z2, fun y' u1 u2 => ?_⟩
            by_cases e2 : y' = y
            · subst e2
              rw [← z1 y' (by omega), ← q3]
              exact ⟨hw, hz⟩
            · exact z3 y' u1 (by omega)
          · intro e
            rw [he2]
            have hmono := z_ca_mono (a := ι' (q_P σ g 2)) (b := va_up (ι' (q_P σ g 2)) y w) (fun y' _ => hsub' y')
            rcases hfl with q1 | q1
            · have q2 : ¬ w = ι' (q_P σ g 2) y := fun z => by
                rw [if_pos z, q1] at e9
                rw [e9] at e; exact absurd e (by decide)
              have h2 := z_ca_lt (a := ι' (q_P σ g 2)) (b := va_up (ι' (q_P σ g 2)) y w) (fun y' _ => hsub' y') (k := y) (by omega) (by rw [up_s]; exact fun z => q2 z.symm)
              have h3 := z_ca_congr (h0 q1).1
              omega
            · have := h1 q1
              omega
        refine ⟨hK, Or.inl hKg, hi y (by omega), fun e => ?_, fun e => ⟨hK, hK, fun σ15 e15 => ?_⟩⟩
        · have hw0 : w = 0 := by
            have e' : va_up ι' (q_P σ g 2) (va_up (ι' (q_P σ g 2)) y w) (q_P σ g 2) (nI y).toNatClampNeg = 0 := e
            rw [nI_clamp (by omega), hrow, up_s] at e'
            exact e'
          exact nxt _ l' hs1 hrow (Or.inl ⟨rfl, Or.inl hw0⟩) (fun _ _ => rfl)
        · have hwn : ¬ w = 0 := fun z => by
            apply e
            show va_up ι' (q_P σ g 2) (va_up (ι' (q_P σ g 2)) y w) (q_P σ g 2) (nI y).toNatClampNeg = 0
            rw [nI_clamp (by omega), hrow, up_s]
            exact z
          have e4' : f_MT_max (q_I (q_put σ (va_up ι' (q_P σ g 2) (va_up (ι' (q_P σ g 2)) y w)) κ) g 4) (nI y) = nI (max l' y) := by
            show f_MT_max (va_up ι' (q_P σ g 2) (va_up (ι' (q_P σ g 2)) y w) g 4) (nI y) = _
            rw [hs1.2.2, z_max (by omega) (by omega)]
          rw [e4'] at e15
          subst e15
          refine nxt (va_up (va_up ι' (q_P σ g 2) (va_up (ι' (q_P σ g 2)) y w)) g (va_up (va_up ι' (q_P σ g 2) (va_up (ι' (q_P σ g 2)) y w) g) 4 (nI (max l' y)))) (max l' y) (hs1.lastUp _) ?_ ?_ (fun z1 z2 => ?_)
          · rw [up_n (Ne.symm hgγ)]; exact hrow
          · rcases Nat.lt_or_ge l' y with q9 | q9
            · exact Or.inr ⟨by omega, by omega, hwn⟩
            · exact Or.inl ⟨by omega, Or.inr (by omega)⟩
          · have : ¬ l' < y := fun q9 => hwn (by rw [z1]; exact hGI.2.2.1 y (by omega) (Or.inr q9))
            omega
  refine ⟨hK, fun v1 e1 => ?_⟩
  have e1' : v1 = nI f := e1.trans hf3
  rw [e1']
  have hfl := hI.1
  have hl24 := hI.2.1
  exact e7 (24 - f) f ι l 0 (by omega) (Nat.le_refl _) ⟨fun _ _ _ => rfl, fun _ _ => rfl, hl4⟩ hI (fun y => z_sub.rf _) (Or.inl rfl) (fun _ => ⟨fun _ _ => rfl, rfl, fun y' z1 z2 => by omega⟩) (fun e => absurd e (by decide))
