/-! PLANES AHEAD -/
theorem z_dn_iff (n : Nat) : ∀ (v : Int32) (x : Nat), bt (z_dn n v) x = true ↔ x < 32 ∧ ∃ x0, bt v x0 = true ∧ x ≤ x0 + n ∧ x0 ≤ x + n := by
  induction n with
  | zero =>
    intro v x
    show bt v x = true ↔ _
    constructor
    · intro h; exact ⟨b_lt h, x, h, by omega, by omega⟩
    · rintro ⟨-, x0, h, h1, h2⟩
      have : x0 = x := by omega
      rwa [← this]
  | succ n ih =>
    intro v x
    show bt (z_dn n (z_d1 v)) x = true ↔ _
    rw [ih]
    constructor
    · rintro ⟨h1, x0, h2, h3, h4⟩
      obtain ⟨h5, x1, h6, h7, h8⟩ := (z_d1_iff v x0).mp h2
      exact ⟨h1, x1, h6, by omega, by omega⟩
    · rintro ⟨h1, x0, h2, h3, h4⟩
      have hx0 := b_lt h2
      rcases Nat.lt_trichotomy x0 x with c | c | c
      · exact ⟨h1, x0 + 1, (z_d1_iff v (x0 + 1)).mpr ⟨by omega, x0, h2, by omega, by omega⟩, by omega, by omega⟩
      · exact ⟨h1, x0, (z_d1_iff v x0).mpr ⟨by omega, x0, h2, by omega, by omega⟩, by omega, by omega⟩
      · exact ⟨h1, x0 - 1, (z_d1_iff v (x0 - 1)).mpr ⟨by omega, x0, h2, by omega, by omega⟩, by omega, by omega⟩
theorem z_dn_s (n : Nat) : ∀ v, z_dn (n + 1) v = z_d1 (z_dn n v) := by
  induction n with
  | zero => intro v; rfl
  | succ n ih => intro v; show z_dn (n + 1) (z_d1 v) = _; rw [ih]; rfl
/-- near to cells by so much -/
def z_nb (g : Nat) (w : Nat → Int32) (x y : Nat) : Prop := ∃ x0 y0, z_in w x0 y0 ∧ x ≤ x0 + g ∧ x0 ≤ x + g ∧ y ≤ y0 + g ∧ y0 ≤ y + g
theorem v_takeOffAhead {σ : q_S} {ι : Nat → Nat → Int32} {κ : Nat → Nat → Int64} {μ ν t c wt g : Nat} {r : Nat → Int32} (hc : c_S σ) (hμ : q_K σ μ = 6) (hν : q_K σ ν = 6) (tμ : μ ≠ t) (tν : ν ≠ t) (t6 : t ≠ 6) (hμc : q_P σ μ 11 = c) (hcK : q_K σ c = 2) (hcw : q_P σ c 0 = wt) (hwK : q_K σ wt = 1000) (hwZ : q_Z σ wt = 24) (hwt : wt ≠ t) (htK : q_K σ t = 1000) (htZ : q_Z σ t = 24) (hg : ι 6 0 = nI g) (bg : g ≤ 5) {R : q_O → q_S → Prop}
    (h : R (.inl none) (q_put σ (va_up ι t (z_rws (fun x y => z_in r x y ∧ ¬ (ι μ 1 = ι ν 1 ∧ ¬ ι μ 0 = ι ν 0 ∧ z_nb g (ι wt) x y)) r)) κ)) : V_PF_takeOffAhead 1 μ ν t (q_put σ (va_up ι t r) κ) R := by
  intro P22 P34 P56 P106 h22 h34 h56 h106
  have v5 : vp_in 0 4 := vp_in_nI (n := 0) (by omega) (by omega)
  have d0 : (0 : Int32).toNatClampNeg = 0 := by decide
  have hsame : ¬ (ι μ 1 = ι ν 1 ∧ ¬ ι μ 0 = ι ν 0) → P22 (q_put σ (va_up ι t r) κ) := fun q => h22 _ (by
    rwa [show z_rws (fun x y => z_in r x y ∧ ¬ (ι μ 1 = ι ν 1 ∧ ¬ ι μ 0 = ι ν 0 ∧ z_nb g (ι wt) x y)) r = r by
      conv => rhs; rw [← z_rws_id r]
      exact z_rws_congr _ fun x y _ _ => ⟨fun c => c.1, fun c => ⟨c, fun c2 => q ⟨c2.1, c2.2.1⟩⟩⟩] at h)
  simp only [q_put_K, q_put_P, q_put_Z, q_put_I, hμ, hν, hc.k, hc.p5, hc.k6, hc.z6, up_n tμ, up_n tν, up_n t6.symm, v5, d0, hg, true_or, true_and, forall_eq]
  refine br_c (fun q => hsame fun q2 => q q2.1) (fun q => br_c (fun q2 => ?_) (fun q2 => hsame fun q3 => q2 q3.2))
  have q := Decidable.not_not.mp q
  suffices H : ∀ (d k : Nat), k + d = 24 → P34 μ t (nI g) (nI k) (q_put σ (va_up ι t (z_rws (fun x y => z_in r x y ∧ ¬ ∃ x0 y0, y0 < k ∧ z_in (ι wt) x0 y0 ∧ x ≤ x0 + g ∧ x0 ≤ x + g ∧ y ≤ y0 + g ∧ y0 ≤ y + g) r)) κ) by
    have := H 24 0 rfl
    rwa [show z_rws (fun x y => z_in r x y ∧ ¬ ∃ x0 y0, y0 < 0 ∧ z_in (ι wt) x0 y0 ∧ x ≤ x0 + g ∧ x0 ≤ x + g ∧ y ≤ y0 + g ∧ y0 ≤ y + g) r = r by
      conv => rhs; rw [← z_rws_id r]
      exact z_rws_congr _ fun x y _ _ => ⟨fun c => c.1, fun c => ⟨c, by rintro ⟨x0, y0, hi, -⟩; omega⟩⟩] at this
  intro d
  induction d with
  | zero =>
    intro k hk
    have hk : k = 24 := by omega
    subst hk
    refine h34 _ _ _ _ _ (br_t (nI_le (a := 24) (Nat.le_refl _) (by omega)) ?_)
    refine cast (congrArg (fun z => R (.inl none) (q_put σ (va_up ι t z) κ)) (z_rws_congr r fun x y _ _ => ?_)) h
    constructor
    · rintro ⟨c1, c2⟩
      refine ⟨c1, ?_⟩
      rintro ⟨x0, y0, -, c3⟩
      exact c2 ⟨q, q2, x0, y0, c3⟩
    · rintro ⟨c1, c2⟩
      refine ⟨c1, ?_⟩
      rintro ⟨-, -, x0, y0, c3⟩
      exact c2 ⟨x0, y0, c3.1.1, c3⟩
  | succ d ih =>
    intro k hk
    generalize hr1 : z_rws (fun x y => z_in r x y ∧ ¬ ∃ x0 y0, y0 < k ∧ z_in (ι wt) x0 y0 ∧ x ≤ x0 + g ∧ x0 ≤ x + g ∧ y ≤ y0 + g ∧ y0 ≤ y + g) r = r1
    have hr1in : ∀ x y, z_in r1 x y ↔ z_in r x y ∧ ¬ ∃ x0 y0, y0 < k ∧ z_in (ι wt) x0 y0 ∧ x ≤ x0 + g ∧ x0 ≤ x + g ∧ y ≤ y0 + g ∧ y0 ≤ y + g := fun x y => by
      rw [← hr1, z_rws_in]
      exact ⟨fun c => c.2.2, fun c => ⟨b_lt c.1.2, c.1.1, c⟩⟩
    have ck : (nI k).toNatClampNeg = k := nI_clamp (by omega)
    have vk : vp_in (nI k) 24 := vp_in_nI (by omega) (by omega)
    refine h34 _ _ _ _ _ (br_f (nI_ge (b := 24) (by omega) (by omega)) ?_)
    simp only [q_put_K, q_put_P, q_put_Z, q_put_I, hμ, hμc, hcK, hcw, hwK, hwZ, vk, ck, up_n hwt, true_or, true_and, forall_eq]
    suffices H2 : ∀ (e n : Nat), n + e = g → P56 μ t (nI g) (nI k) (z_dn n (ι wt k)) (nI n) (q_put σ (va_up ι t r1) κ) from H2 g 0 (by omega)
    intro e
    induction e with
    | succ e ih2 =>
      intro n hn
      refine h56 _ _ _ _ _ _ _ (pk_le g n (fun c => by omega) (fun _ => fun v4 e4 v5 e5 => ?_))
      rw [e4, e5, nI_1]
      have := ih2 (n + 1) (by omega)
      rwa [z_dn_s] at this
    | zero =>
      intro n hn
      have hn : n = g := by omega
      subst hn
      refine h56 _ _ _ _ _ _ _ (br_t (nI_le (Nat.le_refl _) (by omega)) fun v2 e2 v3 e3 => ?_)
      have l2 : v2 = nI (min 23 (k + n)) := by
        rw [iI_eq, e2, z_mn, nI_toInt (by omega), nI_add, nI_toInt (by omega)]
        show min (23 : Int) _ = _
        omega
      have l3 : v3 = nI (k - n) := by
        rw [iI_eq, e3, z_mx, nI_toInt (by omega), iI_nI, iI_nI, iI_sub, iI_t (by omega) (by omega)]
        show max (0 : Int) _ = _
        omega
      subst l2 l3
      suffices H3 : ∀ (e o : Nat), o + e = min 23 (k + n) + 1 → k - n ≤ o → P106 μ t (nI n) (nI k) (z_dn n (ι wt k)) (nI (min 23 (k + n))) (nI o) (q_put σ (va_up ι t (z_mix (fun j => if k - n ≤ j then r1 j &&& (z_dn n (ι wt k) ^^^ (-1)) else r1 j) r1 o)) κ) by
        have := H3 (min 23 (k + n) + 1 - (k - n)) (k - n) (by omega) (Nat.le_refl _)
        rwa [show z_mix (fun j => if k - n ≤ j then r1 j &&& (z_dn n (ι wt k) ^^^ (-1)) else r1 j) r1 (k - n) = r1 by
          funext j
          unfold z_mix
          by_cases c : j < k - n
          · rw [if_pos c]; exact if_neg (by omega)
          · rw [if_neg c]] at this
      intro e
      induction e with
      | zero =>
        intro o ho ho2
        refine h106 _ _ _ _ _ _ _ _ (br_t (nI_lt (by omega) (by omega)) fun v2 e2 => ?_)
        have f1 : ∀ y, k - n ≤ y → k ≤ y + n := fun y h => by omega
        have f2 : ∀ y, y < o → y ≤ k + n := fun y h => by omega
        rw [e2, nI_1]
        have := ih (k + 1) (by omega)
        refine cast (congrArg (fun z => P34 μ t (nI n) (nI (k + 1)) (q_put σ (va_up ι t z) κ)) (funext fun y => ?_)) this
        rcases Nat.lt_or_ge y 24 with hy | hy
        · rw [z_rws_at hy]
          refine (z_rw_of fun x hx => ?_).symm
          have e1 := hr1in x y
          unfold z_in at e1
          have e3 : bt (r1 y) x = true ↔ bt (r y) x = true ∧ ¬ ∃ x0 y0, y0 < k ∧ (y0 < 24 ∧ bt (ι wt y0) x0 = true) ∧ x ≤ x0 + n ∧ x0 ≤ x + n ∧ y ≤ y0 + n ∧ y0 ≤ y + n := by
            constructor
            · intro c; obtain ⟨c1, c2⟩ := e1.mp ⟨hy, c⟩; exact ⟨c1.2, c2⟩
            · rintro ⟨c1, c2⟩; exact (e1.mpr ⟨⟨hy, c1⟩, c2⟩).2
          have e4 : bt (z_mix (fun j => if k - n ≤ j then r1 j &&& (z_dn n (ι wt k) ^^^ (-1)) else r1 j) r1 o y) x = true ↔ bt (r1 y) x = true ∧ ¬ (k ≤ y + n ∧ y ≤ k + n ∧ bt (z_dn n (ι wt k)) x = true) := by
            unfold z_mix
            by_cases c1 : y < o
            · rw [if_pos c1]
              show bt (if k - n ≤ y then r1 y &&& (z_dn n (ι wt k) ^^^ (-1)) else r1 y) x = true ↔ _
              by_cases c2 : k - n ≤ y
              · rw [if_pos c2, b_an]
                constructor
                · rintro ⟨c3, c4⟩; exact ⟨c3, fun c5 => c4 c5.2.2⟩
                · rintro ⟨c3, c4⟩; exact ⟨c3, fun c5 => c4 ⟨f1 y c2, f2 y c1, c5⟩⟩
              · rw [if_neg c2]
                exact ⟨fun c3 => ⟨c3, fun c4 => by omega⟩, fun c3 => c3.1⟩
            · rw [if_neg c1]
              exact ⟨fun c3 => ⟨c3, fun c4 => by omega⟩, fun c3 => c3.1⟩
          rw [e4, e3, z_dn_iff]
          unfold z_in
          constructor
          · rintro ⟨⟨c1, c2⟩, c3⟩
            refine ⟨⟨hy, c1⟩, ?_⟩
            rintro ⟨x0, y0, c4, c5, c6, c7, c8, c9⟩
            rcases Nat.lt_or_ge y0 k with c | c
            · exact c2 ⟨x0, y0, c, c5, c6, c7, c8, c9⟩
            · have : y0 = k := by omega
              subst this
              exact c3 ⟨by omega, by omega, hx, x0, c5.2, c6, c7⟩
          · rintro ⟨⟨-, c1⟩, c2⟩
            refine ⟨⟨c1, ?_⟩, ?_⟩
            · rintro ⟨x0, y0, c4, c5, c6⟩
              exact c2 ⟨x0, y0, by omega, c5, c6⟩
            · rintro ⟨c4, c5, -, x0, c6, c7, c8⟩
              exact c2 ⟨x0, k, by omega, ⟨by omega, c6⟩, c7, c8, by omega, by omega⟩
        · unfold z_rws
          rw [z_mix_hi hy, z_mix_hi (by omega), ← hr1]
          unfold z_rws
          rw [z_mix_hi hy]
      | succ e ih3 =>
        intro o ho ho2
        have co : (nI o).toNatClampNeg = o := nI_clamp (by omega)
        have vo : vp_in (nI o) 24 := vp_in_nI (by omega) (by omega)
        refine h106 _ _ _ _ _ _ _ _ (br_f (nI_nlt (by omega) (by omega)) ?_)
        simp only [q_put_K, q_put_Z, q_put_I, htK, htZ, vo, co, up_s, true_or, true_and, forall_eq]
        rw [q_putw, nI_1, z_mix_hi (Nat.le_refl o)]
        have := ih3 (o + 1) (by omega) (by omega)
        rwa [← z_mix_up, if_pos ho2] at this
/-- what planes bar: those that are done -/
theorem v_barredByPlanes {σ : q_S} {ι : Nat → Nat → Int32} {κ : Nat → Nat → Int64} {q N g y : Nat} {W : Nat → Nat → Int32} (hm : m_S σ) (hN : ι 14 2 = nI N) (hN8 : N ≤ 8) (hq : q < 8) (hg : ι 30 0 = nI g) (bg : g ≤ 5) (hy : y < 24) (hW : ∀ p, p < N → ¬ ι 37 p = 0 → ∀ y, y < 24 → κ 32 (24 * p + y) = zx (W p y)) {R : q_O → q_S → Prop}
    (h : R (.inl (some (.inr (.inl (zx (z_rw (fun x => ∃ p, p < N ∧ ¬ ι 37 p = 0 ∧ ι 16 p = ι 16 q ∧ ¬ ι 15 p = ι 15 q ∧ z_nb g (W p) x y))))))) (q_put σ ι κ)) : V_PM_barredByPlanes 14 (nI q) (nI y) (q_put σ ι κ) R := by
  intro P5 P69 P120 P121 P129 h5 h69 h120 h121 h129
  have cq : (nI q).toNatClampNeg = q := nI_clamp (by omega)
  have vq : vp_in (nI q) 8 := vp_in_nI (by omega) (by omega)
  have v5 : vp_in 0 4 := vp_in_nI (n := 0) (by omega) (by omega)
  have d0 : (0 : Int32).toNatClampNeg = 0 := by decide
  suffices H : ∀ (d k : Nat) (v : Int32), k + d = N → (∀ x, bt v x = true ↔ x < 32 ∧ ∃ p, p < k ∧ ¬ ι 37 p = 0 ∧ ι 16 p = ι 16 q ∧ ¬ ι 15 p = ι 15 q ∧ z_nb g (W p) x y) → P5 14 (nI q) (nI y) (zx v) (nI k) (q_put σ ι κ) by
    have := H N 0 0 (by omega) (fun x => by
      rw [b_0]
      constructor
      · intro c; cases c
      · rintro ⟨-, p, hp, -⟩; omega)
    rwa [zx_0] at this
  intro d
  induction d with
  | zero =>
    intro k v hk hv
    refine h5 _ _ _ _ _ _ ⟨hm.k, pk_le N k (fun _ => ?_) (fun c => by omega) hN⟩
    rwa [show v = z_rw (fun x => ∃ p, p < N ∧ ¬ ι 37 p = 0 ∧ ι 16 p = ι 16 q ∧ ¬ ι 15 p = ι 15 q ∧ z_nb g (W p) x y) from b_iff fun x => by
      rw [hv, z_rw_iff, show k = N by omega]]
  | succ d ih =>
    intro k v hk hv
    have ck : (nI k).toNatClampNeg = k := nI_clamp (by omega)
    have vk : vp_in (nI k) 8 := vp_in_nI (by omega) (by omega)
    have hnext : ∀ v' : Int32, (∀ x, bt v' x = true ↔ x < 32 ∧ (bt v x = true ∨ (¬ ι 37 k = 0 ∧ ι 16 k = ι 16 q ∧ ¬ ι 15 k = ι 15 q ∧ z_nb g (W k) x y))) → P129 14 (nI q) (nI y) (zx v') (nI k) (q_put σ ι κ) := fun v' hv' => by
      refine h129 _ _ _ _ _ _ fun v1 e1 => ?_
      rw [e1, nI_1]
      refine ih (k + 1) v' (by omega) fun x => ?_
      rw [hv', hv]
      constructor
      · rintro ⟨c1, ⟨-, p, c2, c3⟩ | c2⟩
        · exact ⟨c1, p, by omega, c3⟩
        · exact ⟨c1, k, by omega, c2⟩
      · rintro ⟨c1, p, c2, c3⟩
        refine ⟨c1, ?_⟩
        rcases Nat.lt_or_ge p k with c | c
        · exact Or.inl ⟨c1, p, c, c3⟩
        · have : p = k := by omega
          subst this; exact Or.inr c3
    have hsame : ¬ (¬ ι 37 k = 0 ∧ ι 16 k = ι 16 q ∧ ¬ ι 15 k = ι 15 q) → P129 14 (nI q) (nI y) (zx v) (nI k) (q_put σ ι κ) := fun c => hnext v fun x => ⟨fun c1 => ⟨b_lt c1, Or.inl c1⟩, fun c1 => c1.2.elim id (fun c2 => absurd ⟨c2.1, c2.2.1, c2.2.2.1⟩ c)⟩
    refine h5 _ _ _ _ _ _ ⟨hm.k, pk_le N k (fun c => by omega) (fun _ => ?_) hN⟩
    simp only [q_put_K, q_put_P, q_put_Z, q_put_I, hm.k, hm.p27, hm.k27, hm.z27, hm.p4, hm.k4, hm.z4, hm.p3, hm.k3, hm.z3, hm.p20, hm.k20, hm.z20, cq, vq, ck, vk, v5, d0, hg, true_or, true_and, forall_eq]
    refine br_c (fun c => hsame fun c2 => c2.1 c) (fun c => br_c (fun c2 => hsame fun c3 => c2 c3.2.1) (fun c2 => br_c (fun c3 => ?_) (fun c3 => hsame fun c4 => c3 c4.2.2)))
    have c2 := Decidable.not_not.mp c2
    suffices H2 : ∀ (e : Nat) (z : Int) (u : Int32), z + e = (y : Int) + g + 1 → (y : Int) - g ≤ z → (∀ x, bt u x = true ↔ x < 32 ∧ (bt v x = true ∨ ∃ x0 y0 : Nat, (y0 : Int) < z ∧ z_in (W k) x0 y0 ∧ x ≤ x0 + g ∧ x0 ≤ x + g ∧ y ≤ y0 + g ∧ y0 ≤ y + g)) → P69 14 (nI q) (nI y) (zx u) (nI k) (iI z) (q_put σ ι κ) by
      rw [iI_nI y, iI_nI g, iI_sub, ← iI_nI y]
      refine H2 (2 * g + 1) ((y : Int) - g) v (by omega) (by omega) fun x => ?_
      constructor
      · intro c5; exact ⟨b_lt c5, Or.inl c5⟩
      · rintro ⟨-, c5 | ⟨x0, y0, c6, c7, c8, c9, c10, c11⟩⟩
        · exact c5
        · omega
    intro e
    induction e with
    | zero =>
      intro z u hz hz2 hu
      refine h69 _ _ _ _ _ _ _ ?_
      simp only [q_put_K, q_put_P, q_put_Z, q_put_I, hm.k, hm.p20, hm.k20, hm.z20, v5, d0, hg, true_or, true_and]
      refine br_t ?_ (hnext u fun x => ?_)
      · rw [iI_nI, iI_nI, iI_add, iI_lt, iI_t (by omega) (by omega), iI_t (by omega) (by omega)]; omega
      · rw [hu]
        constructor
        · rintro ⟨d1, d2 | ⟨x0, y0, d3, d4⟩⟩
          · exact ⟨d1, Or.inl d2⟩
          · exact ⟨d1, Or.inr ⟨c, c2, c3, x0, y0, d4⟩⟩
        · rintro ⟨d1, d2 | ⟨-, -, -, x0, y0, d4⟩⟩
          · exact ⟨d1, Or.inl d2⟩
          · refine ⟨d1, Or.inr ⟨x0, y0, ?_, d4⟩⟩
            have := d4.2.2.2.2; omega
    | succ e ih2 =>
      intro z u hz hz2 hu
      have hstep : ∀ w : Int32, (∀ x, bt w x = true ↔ x < 32 ∧ ∃ x0 y0 : Nat, (y0 : Int) = z ∧ z_in (W k) x0 y0 ∧ x ≤ x0 + g ∧ x0 ≤ x + g ∧ y ≤ y0 + g ∧ y0 ≤ y + g) → P121 14 (nI q) (nI y) (nI k) (iI z) (zx w) (zx u) (q_put σ ι κ) := fun w hw => by
        refine h121 _ _ _ _ _ _ _ _ fun v1 e1 v2 e2 => ?_
        rw [zx_or] at e1
        rw [show (1 : Int32) = iI 1 from rfl, iI_add] at e2
        rw [e1, e2]
        refine ih2 (z + 1) _ (by omega) (by omega) fun x => ?_
        rw [b_ao, hu, hw]
        constructor
        · rintro (⟨d1, d2 | ⟨x0, y0, d3, d4⟩⟩ | ⟨d1, x0, y0, d3, d4⟩)
          · exact ⟨d1, Or.inl d2⟩
          · exact ⟨d1, Or.inr ⟨x0, y0, by omega, d4⟩⟩
          · exact ⟨d1, Or.inr ⟨x0, y0, by omega, d4⟩⟩
        · rintro ⟨d1, d2 | ⟨x0, y0, d3, d4⟩⟩
          · exact Or.inl ⟨d1, Or.inl d2⟩
          · by_cases d5 : (y0 : Int) < z
            · exact Or.inl ⟨d1, Or.inr ⟨x0, y0, d5, d4⟩⟩
            · exact Or.inr ⟨d1, x0, y0, by omega, d4⟩
      have hnone : (z < 0 ∨ 24 ≤ z) → P120 14 (nI q) (nI y) (nI k) (iI z) (zx u) (q_put σ ι κ) := fun d1 => by
        refine h120 _ _ _ _ _ _ _ ?_
        rw [← zx_0]
        refine hstep 0 fun x => ?_
        rw [b_0]
        constructor
        · intro d2; cases d2
        · rintro ⟨-, x0, y0, d3, d4, -⟩
          have := d4.1; omega
      refine h69 _ _ _ _ _ _ _ ?_
      simp only [q_put_K, q_put_P, q_put_Z, q_put_I, q_put_L, hm.k, hm.p20, hm.k20, hm.z20, hm.p22, hm.k22, hm.z22, v5, d0, hg, true_or, true_and]
      refine br_f ?_ (br_c (fun d1 => hnone ?_) (fun d1 => br_c (fun d2 => hnone ?_) (fun d2 => ?_)))
      · rw [iI_nI, iI_nI, iI_add, iI_lt, iI_t (by omega) (by omega), iI_t (by omega) (by omega)]; omega
      · rw [iI_lt, iI_t (by omega) (by omega)] at d1; exact Or.inl d1
      · rw [iI_le, iI_t (by omega) (by omega)] at d2; exact Or.inr d2
      · rw [iI_lt, iI_t (by omega) (by omega)] at d1
        rw [iI_le, iI_t (by omega) (by omega)] at d2
        have d1 : ¬ z < 0 := d1
        have d2 : ¬ 24 ≤ z := d2
        obtain ⟨y0, rfl⟩ : ∃ y0 : Nat, z = y0 := ⟨z.toNat, by omega⟩
        have e24 : (24 : Int32) * nI k + iI y0 = nI (24 * k + y0) := by
          rw [show (24 : Int32) = nI 24 from rfl, pk_mul, ← iI_nI, nI_add]
        rw [e24]
        have cc : (nI (24 * k + y0)).toNatClampNeg = 24 * k + y0 := nI_clamp (by omega)
        have vv : vp_in (nI (24 * k + y0)) 192 := vp_in_nI (by omega) (by omega)
        simp only [cc, vv, true_and]
        rw [hW k (by omega) c y0 (by omega)]
        refine v_wide (by omega) ?_
        refine hstep _ fun x => ?_
        rw [z_dn_iff]
        constructor
        · rintro ⟨d3, x0, d4, d5, d6⟩
          exact ⟨d3, x0, y0, rfl, ⟨by omega, d4⟩, d5, d6, by omega, by omega⟩
        · rintro ⟨d3, x0, y1, d4, d5, d6, d7, -⟩
          have : y1 = y0 := by omega
          subst this
          exact ⟨d3, x0, d5.2, d6, d7⟩
