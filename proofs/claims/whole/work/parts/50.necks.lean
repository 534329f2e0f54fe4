/-! NECKS -/
def z_ws (n : Nat) (r : Nat → Int32) (y0 x0 : Nat) : Prop := ∀ i j, i < n → j < n → bt (r (y0 + j)) (x0 + i) = true
def z_nk (n : Nat) (r : Nat → Int32) (x y : Nat) : Prop := ∃ y0, y0 + n ≤ 24 ∧ y0 ≤ y ∧ y < y0 + n ∧ ∃ x0, x0 ≤ x ∧ x < x0 + n ∧ z_ws n r y0 x0
theorem q_putw2 (σ : q_S) (ι : Nat → Nat → Int32) (κ : Nat → Nat → Int64) (t u k : Nat) (r s : Nat → Int32) (x : Int32) (h : t ≠ u) : q_wI (q_put σ (va_up (va_up ι t r) u s) κ) t k x = q_put σ (va_up (va_up ι t (va_up r k x)) u s) κ := by
  rw [q_put_wI, up_n h, up_s, up_sw h.symm, z_rws_up]
theorem v_cells {σ : q_S} {t n y0 : Nat} {r : Nat → Int32} (htK : q_K σ t = 1000) (htZ : q_Z σ t = 24) (hr : q_I σ t = r) (h1 : 1 ≤ n) (h5 : n ≤ 5) (hy : y0 + n ≤ 24) {R : q_O → q_S → Prop}
    (h : R (.inl (some (.inl (z_rw (fun x => ∃ x0, x0 ≤ x ∧ x < x0 + n ∧ z_ws n r y0 x0))))) σ) : V_PF_cellsOfSquares t (nI y0) (nI n) σ R := by
  intro P5 P35 P41 P69 p5 p35 p41 p69
  have L3 : ∀ (w s v : Int32), (∀ x, bt w x = true ↔ x < 32 ∧ ∀ j, j < n → bt (r (y0 + j)) x = true) → (∀ x, bt s x = true ↔ ∀ i, i < n → bt w (x + i) = true) → ∀ (d k : Nat) (v : Int32), k + d = n → 1 ≤ k → (∀ x, bt v x = true ↔ x < 32 ∧ ∃ i, i < k ∧ i ≤ x ∧ bt s (x - i) = true) → P69 (nI n) s v (nI k) σ := by
    intro w s v0 hw hs d
    induction d with
    | zero =>
      intro k v hk hk1 hv
      refine p69 _ _ _ _ _ (pk_le n k (fun _ => ?_) (fun c => by omega))
      rwa [show v = z_rw (fun x => ∃ x0, x0 ≤ x ∧ x < x0 + n ∧ z_ws n r y0 x0) from z_rw_of fun x hx => by
        rw [hv]
        constructor
        · rintro ⟨-, i, c1, c2, c3⟩
          refine ⟨x - i, by omega, by omega, fun a j ha hj => ?_⟩
          exact ((hw _).mp ((hs _).mp c3 a ha)).2 j hj
        · rintro ⟨x0, c1, c2, c3⟩
          refine ⟨hx, x - x0, by omega, by omega, ?_⟩
          rw [show x - (x - x0) = x0 by omega, hs]
          intro i hi
          rw [hw]
          exact ⟨b_lt (c3 i 0 hi (by omega)), fun j hj => c3 i j hi hj⟩]
    | succ d ih =>
      intro k v hk hk1 hv
      refine p69 _ _ _ _ _ (pk_le n k (fun c => by omega) (fun _ => fun v2 e2 v3 e3 => ?_))
      rw [e2, e3, nI_1]
      refine ih (k + 1) _ (by omega) (by omega) fun x => ?_
      rw [b_ao, hv]
      rcases Nat.lt_or_ge x 32 with hx | hx
      · rw [b_shl k (by omega) _ hx, Bool.and_eq_true, decide_eq_true_iff]
        constructor
        · rintro (⟨-, i, c⟩ | c)
          · exact ⟨hx, i, by omega, c.2⟩
          · exact ⟨hx, k, by omega, c⟩
        · rintro ⟨-, i, c1, c2⟩
          rcases Nat.lt_or_ge i k with c | c
          · exact Or.inl ⟨hx, i, c, c2⟩
          · have : i = k := by omega
            subst this; exact Or.inr c2
      · rw [b_big hx]
        constructor
        · rintro (c | c)
          · omega
          · cases c
        · intro c; omega
  have L2 : ∀ (w : Int32), (∀ x, bt w x = true ↔ x < 32 ∧ ∀ j, j < n → bt (r (y0 + j)) x = true) → ∀ (d k : Nat) (s : Int32), k + d = n → 1 ≤ k → (∀ x, bt s x = true ↔ ∀ i, i < k → bt w (x + i) = true) → P41 (nI n) w s (nI k) σ := by
    intro w hw d
    induction d with
    | zero =>
      intro k s hk hk1 hs
      refine p41 _ _ _ _ _ (pk_le n k (fun _ => ?_) (fun c => by omega))
      have hkn : k = n := by omega
      subst hkn
      refine L3 w s s hw hs (k - 1) 1 s (by omega) (by omega) fun x => ?_
      constructor
      · intro c; exact ⟨b_lt c, 0, by omega, by omega, c⟩
      · rintro ⟨c1, i, c2, c3, c4⟩
        have : i = 0 := by omega
        subst this; exact c4
    | succ d ih =>
      intro k s hk hk1 hs
      refine p41 _ _ _ _ _ (pk_le n k (fun c => by omega) (fun _ => fun v2 e2 v3 e3 => ?_))
      rw [e2, e3, nI_1]
      refine ih (k + 1) _ (by omega) (by omega) fun x => ?_
      rw [b_ad, hs, b_ushr k (by omega)]
      constructor
      · rintro ⟨c1, c2⟩ i hi
        rcases Nat.lt_or_ge i k with c | c
        · exact c1 i c
        · have : i = k := by omega
          subst this; rwa [Nat.add_comm]
      · intro c
        exact ⟨fun i hi => c i (by omega), by rw [Nat.add_comm]; exact c k (by omega)⟩
  have L1 : ∀ (d k : Nat) (w : Int32), k + d = n → (∀ x, bt w x = true ↔ x < 32 ∧ ∀ j, j < k → bt (r (y0 + j)) x = true) → P5 t (nI y0) (nI n) w (nI k) σ := by
    intro d
    induction d with
    | zero =>
      intro k w hk hw
      refine p5 _ _ _ _ _ _ (pk_le n k (fun _ => p35 _ _ _ ?_) (fun c => by omega))
      have hkn : k = n := by omega
      subst hkn
      refine L2 w hw (k - 1) 1 w (by omega) (by omega) fun x => ?_
      constructor
      · intro c i hi
        have : i = 0 := by omega
        subst this; exact c
      · intro c; exact c 0 (by omega)
    | succ d ih =>
      intro k w hk hw
      refine p5 _ _ _ _ _ _ (pk_le n k (fun c => by omega) (fun _ => ?_))
      rw [nI_add]
      refine br_f (nI_ge (b := 24) (by omega) (by omega)) ?_
      have cc : (nI (y0 + k)).toNatClampNeg = y0 + k := nI_clamp (by omega)
      have vv : vp_in (nI (y0 + k)) 24 := vp_in_nI (by omega) (by omega)
      simp only [htK, htZ, cc, vv, hr, true_or, true_and, forall_eq]
      rw [nI_1]
      refine ih (k + 1) _ (by omega) fun x => ?_
      rw [b_ad, hw]
      constructor
      · rintro ⟨⟨c1, c2⟩, c3⟩
        refine ⟨c1, fun j hj => ?_⟩
        rcases Nat.lt_or_ge j k with c | c
        · exact c2 j c
        · have : j = k := by omega
          subst this; exact c3
      · rintro ⟨c1, c2⟩
        exact ⟨⟨c1, fun j hj => c2 j (by omega)⟩, c2 k (by omega)⟩
  refine L1 n 0 (-1) (by omega) fun x => ?_
  constructor
  · intro c; exact ⟨b_lt c, fun j hj => by omega⟩
  · rintro ⟨c, -⟩; exact b_m1 x c
theorem v_fill0 {σ : q_S} {ι : Nat → Nat → Int32} {κ : Nat → Nat → Int64} {t : Nat} {s : Nat → Int32} (htK : q_K σ t = 1000) (htZ : q_Z σ t = 24) {R : q_O → q_S → Prop} (h : R (.inl none) (q_put σ (va_up ι t (z_mix (fun _ => 0) s 24)) κ)) : V_AR_fill t 0 (q_put σ (va_up ι t s) κ) R := by
  intro P5 h5
  refine ⟨by rw [q_put_K, htK]; omega, ?_⟩
  simp only [q_put_Z, htZ, forall_eq]
  suffices H : ∀ (d k : Nat), k + d = 24 → P5 t 0 (nI k) (nI 24) (q_put σ (va_up ι t (z_mix (fun _ => 0) s k)) κ) by
    have := H 24 0 rfl
    rwa [z_mix0] at this
  intro d
  induction d with
  | zero =>
    intro k hk
    have hk : k = 24 := by omega
    subst hk
    exact h5 _ _ _ _ _ (br_t (nI_le (Nat.le_refl _) (by omega)) h)
  | succ d ih =>
    intro k hk
    have ck : (nI k).toNatClampNeg = k := nI_clamp (by omega)
    have vk : vp_in (nI k) 24 := vp_in_nI (by omega) (by omega)
    refine h5 _ _ _ _ _ (br_f (nI_ge (by omega) (by omega)) ?_)
    simp only [q_put_K, q_put_Z, htK, htZ, ck, vk, true_and, forall_eq]
    rw [q_putw, nI_1, z_mix_up (fun _ => 0)]
    exact ih (k + 1) (by omega)
theorem v_takeOffNecks {σ : q_S} {ι : Nat → Nat → Int32} {κ : Nat → Nat → Int64} {t n : Nat} {r : Nat → Int32} (hc : c_S σ) (htK : q_K σ t = 1000) (htZ : q_Z σ t = 24) (t13 : t ≠ 13) (t6 : t ≠ 6) (hn : ι 6 2 = nI n) (h1 : 1 ≤ n) (h5 : n ≤ 5) {R : q_O → q_S → Prop}
    (h : ∀ (s : Nat → Int32) (fl : Int32), ((fl = 0 ∧ ∀ y, y < 24 → z_rws (z_nk n r) r y = r y) ∨ (fl = 1 ∧ ¬ ∀ y, y < 24 → z_rws (z_nk n r) r y = r y)) → R (.inl (some (.inl fl))) (q_put σ (va_up (va_up ι t (z_rws (z_nk n r) r)) 13 s) κ)) : V_PF_takeOffNecks 1 t (q_put σ (va_up ι t r) κ) R := by
  intro P17 P36 P73 P100 p17 p36 p73 p100
  have v2 : vp_in 2 4 := vp_in_nI (n := 2) (by omega) (by omega)
  have d2 : (2 : Int32).toNatClampNeg = 2 := by decide
  simp only [q_put_K, q_put_P, q_put_Z, q_put_I, hc.k, hc.p5, hc.k6, hc.z6, hc.p8, v2, d2, up_n t6.symm, hn, true_or, true_and, forall_eq]
  have L3 : ∀ (s : Nat → Int32), (∀ y, y < 24 → s y = z_rw (fun x => z_nk n r x y)) → ∀ (d k : Nat) (fl : Int32), k + d = 24 → ((fl = 0 ∧ ∀ y, y < k → s y = r y) ∨ (fl = 1 ∧ ¬ ∀ y, y < k → s y = r y)) → P73 1 t fl (nI k) (q_put σ (va_up (va_up ι t (z_mix s r k)) 13 s) κ) := by
    intro s hs d
    induction d with
    | zero =>
      intro k fl hk hfl
      have hk : k = 24 := by omega
      subst hk
      refine p73 _ _ _ _ _ (br_t (nI_le (a := 24) (Nat.le_refl _) (by omega)) ⟨hfl.elim (fun c => Or.inl c.1) (fun c => Or.inr c.1), ?_⟩)
      have e : z_mix s r 24 = z_rws (z_nk n r) r := funext fun y => by
        rcases Nat.lt_or_ge y 24 with hy | hy
        · rw [z_mix_lo hy, z_rws_at hy, hs y hy]
        · unfold z_rws; rw [z_mix_hi hy, z_mix_hi hy]
      rw [e]
      refine h s fl (hfl.imp (fun c => ⟨c.1, fun y hy => ?_⟩) (fun c => ⟨c.1, fun c2 => c.2 fun y hy => ?_⟩))
      · rw [z_rws_at hy, ← hs y hy]; exact c.2 y hy
      · rw [hs y hy, ← z_rws_at (P := z_nk n r) (r := r) hy]; exact c2 y hy
    | succ d ih =>
      intro k fl hk hfl
      have ck : (nI k).toNatClampNeg = k := nI_clamp (by omega)
      have vk : vp_in (nI k) 24 := vp_in_nI (by omega) (by omega)
      refine p73 _ _ _ _ _ (br_f (nI_ge (b := 24) (by omega) (by omega)) ?_)
      simp only [q_put_K, q_put_P, q_put_Z, q_put_I, hc.k, hc.p8, hc.k13, hc.z13, htK, htZ, ck, vk, up_n t13, up_s, true_or, true_and, z_mix_hi (Nat.le_refl k)]
      have fin : ∀ (w : Int32), ((w = 0 ∧ r k = s k) ∨ (w = 1 ∧ ¬ r k = s k)) → P100 1 t (nI k) w fl (q_put σ (va_up (va_up ι t (z_mix s r k)) 13 s) κ) := fun w hw => by
        refine p100 _ _ _ _ _ _ fun v1 e1 => ?_
        simp only [q_put_K, q_put_P, q_put_Z, q_put_I, hc.k, hc.p8, hc.k13, hc.z13, htK, htZ, ck, vk, up_s, true_or, true_and, forall_eq]
        rw [q_putw2 _ _ _ _ _ _ _ _ _ t13, nI_1, z_mix_up s]
        refine ih (k + 1) v1 (by omega) ?_
        rcases hw with ⟨w0, w1⟩ | ⟨w0, w1⟩
        · rcases hfl with ⟨f0, f1⟩ | ⟨f0, f1⟩
          · refine Or.inl ⟨by rw [e1, w0, f0]; decide, fun y hy => ?_⟩
            rcases Nat.lt_or_ge y k with c | c
            · exact f1 y c
            · have : y = k := by omega
              subst this; exact w1.symm
          · exact Or.inr ⟨by rw [e1, w0, f0]; decide, fun c => f1 fun y hy => c y (by omega)⟩
        · refine Or.inr ⟨?_, fun c => w1 (c k (by omega)).symm⟩
          rcases hfl with ⟨f0, f1⟩ | ⟨f0, f1⟩
          · rw [e1, w0, f0]; decide
          · rw [e1, w0, f0]; decide
      exact br_c (fun c => fin 0 (Or.inl ⟨rfl, c⟩)) (fun c => fin 1 (Or.inr ⟨rfl, c⟩))
  have L1 : ∀ (d k : Nat) (s : Nat → Int32), k + d = 25 - n → (∀ y, y < 24 → ∀ x, bt (s y) x = true ↔ x < 32 ∧ ∃ y0, y0 < k ∧ y0 ≤ y ∧ y < y0 + n ∧ ∃ x0, x0 ≤ x ∧ x < x0 + n ∧ z_ws n r y0 x0) → P17 1 t (nI n) (nI k) (q_put σ (va_up (va_up ι t r) 13 s) κ) := by
    intro d
    induction d with
    | zero =>
      intro k s hk hs
      refine p17 _ _ _ _ _ (br_t (by rw [nI_add]; exact nI_lt (a := 24) (by omega) (by omega)) ?_)
      have := L3 s (fun y hy => b_iff fun x => by
        rw [hs y hy, z_rw_iff]
        unfold z_nk
        constructor
        · rintro ⟨c1, y0, c2, c3, c4, c5⟩; exact ⟨c1, y0, by omega, c3, c4, c5⟩
        · rintro ⟨c1, y0, c2, c3, c4, c5⟩; exact ⟨c1, y0, by omega, c3, c4, c5⟩) 24 0 0 rfl (Or.inl ⟨rfl, fun y hy => by omega⟩)
      rwa [z_mix0] at this
    | succ d ih =>
      intro k s hk hs
      refine p17 _ _ _ _ _ (br_f (by rw [nI_add]; exact nI_nlt (a := 24) (by omega) (by omega)) ?_)
      refine v_cells (y0 := k) (r := r) (show q_K (q_put σ _ κ) t = 1000 from htK) htZ (by rw [q_put_I, up_n t13, up_s]) h1 h5 (by omega) ?_
      generalize hw : z_rw (fun x => ∃ x0, x0 ≤ x ∧ x < x0 + n ∧ z_ws n r k x0) = w
      have hwb : ∀ x, bt w x = true ↔ x < 32 ∧ ∃ x0, x0 ≤ x ∧ x < x0 + n ∧ z_ws n r k x0 := fun x => by rw [← hw, z_rw_iff]
      have L2 : ∀ (e j : Nat) (s2 : Nat → Int32), j + e = n → (∀ y, y < 24 → ∀ x, bt (s2 y) x = true ↔ bt (s y) x = true ∨ (k ≤ y ∧ y < k + j ∧ bt w x = true)) → P36 1 t (nI n) (nI k) w (nI j) (q_put σ (va_up (va_up ι t r) 13 s2) κ) := by
        intro e
        induction e with
        | zero =>
          intro j s2 hj hs2
          refine p36 _ _ _ _ _ _ _ (pk_le n j (fun _ => fun v2 e2 => ?_) (fun c => by omega))
          rw [e2, nI_1]
          refine ih (k + 1) s2 (by omega) fun y hy x => ?_
          rw [hs2 y hy, hs y hy, hwb]
          have hj : j = n := by omega
          subst hj
          constructor
          · rintro (⟨c1, y0, c2, c3⟩ | ⟨c1, c2, c3, c4⟩)
            · exact ⟨c1, y0, by omega, c3⟩
            · exact ⟨c3, k, by omega, c1, c2, c4⟩
          · rintro ⟨c1, y0, c2, c3, c4, c5⟩
            rcases Nat.lt_or_ge y0 k with c | c
            · exact Or.inl ⟨c1, y0, c, c3, c4, c5⟩
            · have : y0 = k := by omega
              subst this; exact Or.inr ⟨c3, c4, c1, c5⟩
        | succ e ih2 =>
          intro j s2 hj hs2
          have cc : (nI (k + j)).toNatClampNeg = k + j := nI_clamp (by omega)
          have vv : vp_in (nI (k + j)) 24 := vp_in_nI (by omega) (by omega)
          refine p36 _ _ _ _ _ _ _ (pk_le n j (fun c => by omega) (fun _ => ?_))
          simp only [q_put_K, q_put_P, q_put_Z, q_put_I, hc.k, hc.p8, hc.k13, hc.z13, nI_add, cc, vv, up_s, true_or, true_and, forall_eq]
          rw [q_putw, nI_1]
          refine ih2 (j + 1) _ (by omega) fun y hy x => ?_
          by_cases c : y = k + j
          · subst c
            rw [up_s, b_ao, hs2 _ hy]
            constructor
            · rintro ((c1 | c1) | c1)
              · exact Or.inl c1
              · omega
              · exact Or.inr ⟨by omega, by omega, c1⟩
            · rintro (c1 | c1)
              · exact Or.inl (Or.inl c1)
              · exact Or.inr c1.2.2
          · rw [up_n c, hs2 y hy]
            constructor
            · rintro (c1 | c1)
              · exact Or.inl c1
              · exact Or.inr ⟨c1.1, by omega, c1.2.2⟩
            · rintro (c1 | c1)
              · exact Or.inl c1
              · exact Or.inr ⟨c1.1, by omega, c1.2.2⟩
      exact L2 n 0 s (by omega) fun y hy x => ⟨Or.inl, fun c => c.elim id fun c2 => by omega⟩
  have e0 : q_put σ (va_up ι t r) κ = q_put σ (va_up (va_up ι t r) 13 (va_up ι t r 13)) κ := by rw [up_id]
  rw [e0]
  refine v_fill0 hc.k13 hc.z13 ?_
  refine L1 (25 - n) 0 _ (by omega) fun y hy x => ?_
  rw [z_mix_lo hy, b_0]
  constructor
  · intro c; cases c
  · rintro ⟨-, y0, c, -⟩; omega
