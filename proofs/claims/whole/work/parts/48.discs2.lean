/-! THE CLASS: its shape; discs and pads taken off -/
def c_S (σ : q_S) : Prop := q_K σ 1 = 1 ∧ q_P σ 1 1 = 2 ∧ q_P σ 1 2 = 3 ∧ q_P σ 1 3 = 4 ∧ q_P σ 1 4 = 5 ∧ q_P σ 1 5 = 6 ∧ q_P σ 1 6 = 7 ∧ q_P σ 1 7 = 10 ∧ q_P σ 1 8 = 13 ∧ q_K σ 6 = 1000 ∧ q_Z σ 6 = 4 ∧ q_gr σ 7 8 9 ∧ q_gr σ 10 11 12 ∧ q_K σ 13 = 1000 ∧ q_Z σ 13 = 24
section CS
variable {σ : q_S}
theorem c_S.k (h : c_S σ) : q_K σ 1 = 1 := h.1
theorem c_S.p1 (h : c_S σ) : q_P σ 1 1 = 2 := h.2.1
theorem c_S.p2 (h : c_S σ) : q_P σ 1 2 = 3 := h.2.2.1
theorem c_S.p3 (h : c_S σ) : q_P σ 1 3 = 4 := h.2.2.2.1
theorem c_S.p4 (h : c_S σ) : q_P σ 1 4 = 5 := h.2.2.2.2.1
theorem c_S.p5 (h : c_S σ) : q_P σ 1 5 = 6 := h.2.2.2.2.2.1
theorem c_S.p6 (h : c_S σ) : q_P σ 1 6 = 7 := h.2.2.2.2.2.2.1
theorem c_S.p7 (h : c_S σ) : q_P σ 1 7 = 10 := h.2.2.2.2.2.2.2.1
theorem c_S.p8 (h : c_S σ) : q_P σ 1 8 = 13 := h.2.2.2.2.2.2.2.2.1
theorem c_S.k6 (h : c_S σ) : q_K σ 6 = 1000 := h.2.2.2.2.2.2.2.2.2.1
theorem c_S.z6 (h : c_S σ) : q_Z σ 6 = 4 := h.2.2.2.2.2.2.2.2.2.2.1
theorem c_S.g7 (h : c_S σ) : q_gr σ 7 8 9 := h.2.2.2.2.2.2.2.2.2.2.2.1
theorem c_S.g10 (h : c_S σ) : q_gr σ 10 11 12 := h.2.2.2.2.2.2.2.2.2.2.2.2.1
theorem c_S.k13 (h : c_S σ) : q_K σ 13 = 1000 := h.2.2.2.2.2.2.2.2.2.2.2.2.2.1
theorem c_S.z13 (h : c_S σ) : q_Z σ 13 = 24 := h.2.2.2.2.2.2.2.2.2.2.2.2.2.2
end CS
/-- discs, pads -/
def c_D (A : a_A) (σ : q_S) (ι : Nat → Nat → Int32) (f : Nat → Nat) : Prop := c_L σ 4 (a_D A) f ∧ q_Z σ (q_P σ 4 0) < 1000 ∧ ι 4 1 = nI (a_D A) ∧ ∀ i, i < a_D A → q_K σ (f i) = 3 ∧ ι (f i) 0 = a_dn A i ∧ ι (f i) 1 = a_dl A i ∧ ι (f i) 2 = nI (a_dx A i) ∧ ι (f i) 3 = nI (a_dy A i) ∧ ι (f i) 4 = nI (a_dr A i)
def c_E (A : a_A) (σ : q_S) (ι : Nat → Nat → Int32) (f : Nat → Nat) : Prop := c_L σ 5 (a_E A) f ∧ q_Z σ (q_P σ 5 0) < 1000 ∧ ι 5 1 = nI (a_E A) ∧ ∀ i, i < a_E A → q_K σ (f i) = 5 ∧ ι (f i) 0 = a_pn A i ∧ ι (f i) 1 = a_pl A i ∧ ι (f i) 2 = nI (a_px A i) ∧ ι (f i) 3 = nI (a_py A i) ∧ ι (f i) 4 = nI (a_pw A i) ∧ ι (f i) 5 = nI (a_ph A i)
def a_okE (A : a_A) : Prop := a_E A ≤ 10 ∧ ∀ i, i < a_E A → a_px A i + a_pw A i ≤ 32 ∧ a_py A i + a_ph A i ≤ 24 ∧ 1 ≤ a_pw A i ∧ 1 ≤ a_ph A i
theorem c_D.upd {A : a_A} {σ : q_S} {ι : Nat → Nat → Int32} {f : Nat → Nat} {t : Nat} {r : Nat → Int32} (h : c_D A σ ι f) (h4 : t ≠ 4) (hf : ∀ i, i < a_D A → f i ≠ t) : c_D A σ (va_up ι t r) f := by
  refine ⟨h.1, h.2.1, ?_, fun i hi => ?_⟩
  · rw [up_n (Ne.symm h4)]; exact h.2.2.1
  · have := h.2.2.2 i hi
    rw [up_n (hf i hi)]; exact this
theorem c_E.upd {A : a_A} {σ : q_S} {ι : Nat → Nat → Int32} {f : Nat → Nat} {t : Nat} {r : Nat → Int32} (h : c_E A σ ι f) (h4 : t ≠ 5) (hf : ∀ i, i < a_E A → f i ≠ t) : c_E A σ (va_up ι t r) f := by
  refine ⟨h.1, h.2.1, ?_, fun i hi => ?_⟩
  · rw [up_n (Ne.symm h4)]; exact h.2.2.1
  · have := h.2.2.2 i hi
    rw [up_n (hf i hi)]; exact this
theorem v_takeOffDiscs {σ : q_S} {ι : Nat → Nat → Int32} {κ : Nat → Nat → Int64} {A : a_A} {f : Nat → Nat} {ν t q : Nat} {r : Nat → Int32} (hc : c_S σ) (hD : c_D A σ ι f) (ok : a_okD A) (t4 : t ≠ 4) (tf : ∀ i, i < a_D A → f i ≠ t) (t6 : t ≠ 6) (tν : ν ≠ t) (htK : q_K σ t = 1000) (htZ : q_Z σ t = 24) (hν : q_K σ ν = 6) (hn : ι ν 0 = a_nt A q) (hl : ι ν 1 = a_la A q) (hg : ι 6 0 = nI (a_ru A 0)) (bg : a_ru A 0 ≤ 5) {R : q_O → q_S → Prop}
    (h : R (.inl none) (q_put σ (va_up ι t (z_rws (fun x y => z_in r x y ∧ ¬ z_db A q x y) r)) κ)) : V_PF_takeOffDiscs 1 ν t (q_put σ (va_up ι t r) κ) R := by
  intro P2 P57 P92 h2 h57 h92
  obtain ⟨b0, b1⟩ := ok
  have H : ∀ (d k : Nat), k + d = a_D A → P2 1 ν t (nI k) (q_put σ (va_up ι t (z_rws (fun x y => z_in r x y ∧ ¬ ∃ i, i < k ∧ a_dl A i = a_la A q ∧ ¬ a_dn A i = a_nt A q ∧ z_ds (a_dx A i) (a_dy A i) (a_dr A i) (a_ru A 0) x y) r)) κ) := by
    intro d
    induction d with
    | zero =>
      intro k hk
      have hk : k = a_D A := by omega
      subst hk
      have hD' := hD.upd (r := z_rws (fun x y => z_in r x y ∧ ¬ ∃ i, i < a_D A ∧ a_dl A i = a_la A q ∧ ¬ a_dn A i = a_nt A q ∧ z_ds (a_dx A i) (a_dy A i) (a_dr A i) (a_ru A 0) x y) r) t4 tf
      refine h2 _ _ _ _ _ ⟨hc.k, ?_⟩
      simp only [q_put_P, q_put_K, hc.p3]
      refine ⟨hD.1.1, v_sizeL hD.1.1 hD'.2.2.1 ?_⟩
      exact br_t (nI_le (Nat.le_refl _) (by omega)) h
    | succ d ih =>
      intro k hk
      generalize hr1 : z_rws (fun x y => z_in r x y ∧ ¬ ∃ i, i < k ∧ a_dl A i = a_la A q ∧ ¬ a_dn A i = a_nt A q ∧ z_ds (a_dx A i) (a_dy A i) (a_dr A i) (a_ru A 0) x y) r = r1
      have hD' := hD.upd (r := r1) t4 tf
      obtain ⟨f1, f2, f3, f4, f5, f6⟩ := hD.2.2.2 k (by omega)
      obtain ⟨g1, g2, g3⟩ := b1 k (by omega)
      have hr1in : ∀ x y, z_in r1 x y ↔ z_in r x y ∧ ¬ ∃ i, i < k ∧ a_dl A i = a_la A q ∧ ¬ a_dn A i = a_nt A q ∧ z_ds (a_dx A i) (a_dy A i) (a_dr A i) (a_ru A 0) x y := fun x y => by
        rw [← hr1, z_rws_in]
        exact ⟨fun c => c.2.2, fun c => ⟨b_lt c.1.2, c.1.1, c⟩⟩
      have hnext : ∀ r2 : Nat → Int32, r2 = z_rws (fun x y => z_in r1 x y ∧ ¬ (a_dl A k = a_la A q ∧ ¬ a_dn A k = a_nt A q ∧ z_ds (a_dx A k) (a_dy A k) (a_dr A k) (a_ru A 0) x y)) r1 → P92 1 ν t (nI k) (q_put σ (va_up ι t r2) κ) := fun r2 e2 => by
        refine h92 _ _ _ _ _ fun v1 e1 => ?_
        rw [e1, nI_1]
        have : r2 = z_rws (fun x y => z_in r x y ∧ ¬ ∃ i, i < k + 1 ∧ a_dl A i = a_la A q ∧ ¬ a_dn A i = a_nt A q ∧ z_ds (a_dx A i) (a_dy A i) (a_dr A i) (a_ru A 0) x y) r := by
          rw [e2]
          conv => lhs; arg 2; rw [← hr1]
          rw [z_rws_rws]
          refine z_rws_congr _ fun x y _ _ => ?_
          rw [hr1in]
          constructor
          · rintro ⟨⟨c1, c2⟩, c3⟩
            refine ⟨c1, ?_⟩
            rintro ⟨i, hi, c⟩
            rcases Nat.lt_or_ge i k with c4 | c4
            · exact c2 ⟨i, c4, c⟩
            · have : i = k := by omega
              subst this; exact c3 c
          · rintro ⟨c1, c2⟩
            refine ⟨⟨c1, ?_⟩, fun c => c2 ⟨k, by omega, c⟩⟩
            rintro ⟨i, hi, c⟩
            exact c2 ⟨i, by omega, c⟩
        rw [this]
        exact ih (k + 1) (by omega)
      have hsame : ¬ (a_dl A k = a_la A q ∧ ¬ a_dn A k = a_nt A q) → P92 1 ν t (nI k) (q_put σ (va_up ι t r1) κ) := fun c => hnext r1 (by
        conv => lhs; rw [← z_rws_id r1]
        refine z_rws_congr _ fun x y _ _ => ?_
        exact ⟨fun c1 => ⟨c1, fun c2 => c ⟨c2.1, c2.2.1⟩⟩, fun c1 => c1.1⟩)
      refine h2 _ _ _ _ _ ⟨hc.k, ?_⟩
      simp only [q_put_P, q_put_K, hc.p3]
      refine ⟨hD.1.1, v_sizeL hD.1.1 hD'.2.2.1 ?_⟩
      refine br_f (nI_ge (by omega) (by omega)) ?_
      simp only [q_put_P, q_put_K, hc.p3, hc.k, hD.1.1, true_and]
      refine v_getL hD.1 hD'.2.2.1 (by omega) (by omega) hD.2.1 ?_
      have tf1 := tf k (by omega)
      simp only [q_cr, q_put_P, q_put_K, q_put_I, f1, hν, up_n tf1, up_n tν, f2, f3, hn, hl, true_and]
      refine br_c (fun c => hsame fun c2 => c c2.1) (fun c => br_c (fun c2 => hsame fun c3 => c3.2 c2) (fun c2 => ?_))
      have c := Decidable.not_not.mp c
      suffices Hy : ∀ (e y : Nat), y + e = 24 → P57 1 ν t (nI k) (f k) (nI y) (q_put σ (va_up ι t (z_mix (fun y => r1 y &&& (z_rw (fun x => z_ds (a_dx A k) (a_dy A k) (a_dr A k) (a_ru A 0) x y) ^^^ (-1))) r1 y)) κ) by
        have := Hy 24 0 rfl
        rwa [z_mix0] at this
      intro e
      induction e with
      | zero =>
        intro y hy
        have hy : y = 24 := by omega
        subst hy
        refine h57 _ _ _ _ _ _ _ (br_t (nI_le (a := 24) (Nat.le_refl _) (by omega)) (hnext _ (funext fun y => ?_)))
        rcases Nat.lt_or_ge y 24 with hy | hy
        · rw [z_mix_lo hy, z_rws_at hy]
          refine z_rw_of fun x hx => ?_
          rw [b_an, z_rw_iff]
          constructor
          · rintro ⟨d1, d2⟩; exact ⟨⟨hy, d1⟩, fun d3 => d2 ⟨hx, d3.2.2⟩⟩
          · rintro ⟨d1, d2⟩; exact ⟨d1.2, fun d3 => d2 ⟨c, c2, d3.2⟩⟩
        · unfold z_rws; rw [z_mix_hi hy, z_mix_hi hy]
      | succ e ih2 =>
        intro y hy
        refine h57 _ _ _ _ _ _ _ (br_f (nI_ge (b := 24) (by omega) (by omega)) ?_)
        have cy : (nI y).toNatClampNeg = y := nI_clamp (by omega)
        have vy : vp_in (nI y) 24 := vp_in_nI (by omega) (by omega)
        have v5 : vp_in 0 4 := vp_in_nI (n := 0) (by omega) (by omega)
        have d0 : (0 : Int32).toNatClampNeg = 0 := by decide
        simp only [q_put_P, q_put_K, q_put_Z, q_put_I, htK, htZ, hc.k, hc.p5, hc.k6, hc.z6, vy, v5, d0, cy, f1, true_or, true_and, up_n t6.symm, hg, up_s]
        refine v_near (y := y) (show q_K (q_put σ _ κ) (f k) = 3 from f1) ?_ ?_ ?_ g1 g2 g3 bg (by omega) ?_
        · rw [q_put_I, up_n tf1]; exact f4
        · rw [q_put_I, up_n tf1]; exact f5
        · rw [q_put_I, up_n tf1]; exact f6
        simp only [q_ci, q_put_K, q_put_Z, htK, htZ, vy, true_and, forall_eq]
        rw [q_putw, nI_1, z_mix_hi (Nat.le_refl y), z_mix_up (fun y => r1 y &&& (z_rw (fun x => z_ds (a_dx A k) (a_dy A k) (a_dr A k) (a_ru A 0) x y) ^^^ (-1)))]
        exact ih2 (y + 1) (by omega)
  have := H (a_D A) 0 (by omega)
  rwa [show z_rws (fun x y => z_in r x y ∧ ¬ ∃ i, i < 0 ∧ a_dl A i = a_la A q ∧ ¬ a_dn A i = a_nt A q ∧ z_ds (a_dx A i) (a_dy A i) (a_dr A i) (a_ru A 0) x y) r = r by
    conv => rhs; rw [← z_rws_id r]
    exact z_rws_congr _ fun x y _ _ => ⟨fun c => c.1, fun c => ⟨c, by rintro ⟨i, hi, -⟩; omega⟩⟩] at this
/-- barred by pads -/
def z_eb (A : a_A) (q x y : Nat) : Prop := ∃ i, i < a_E A ∧ z_pb (a_pl A i = a_la A q) (a_pn A i = a_nt A q) (a_px A i) (a_py A i) (a_pw A i) (a_ph A i) (a_ru A 0) (a_ru A 1) x y
theorem v_takeOffPads {σ : q_S} {ι : Nat → Nat → Int32} {κ : Nat → Nat → Int64} {A : a_A} {f : Nat → Nat} {ν t q : Nat} {r : Nat → Int32} (hc : c_S σ) (hE : c_E A σ ι f) (ok : a_okE A) (t5 : t ≠ 5) (tf : ∀ i, i < a_E A → f i ≠ t) (t6 : t ≠ 6) (tν : ν ≠ t) (htK : q_K σ t = 1000) (htZ : q_Z σ t = 24) (hν : q_K σ ν = 6) (hn : ι ν 0 = a_nt A q) (hl : ι ν 1 = a_la A q) (hg : ι 6 0 = nI (a_ru A 0)) (hmo : ι 6 1 = nI (a_ru A 1)) (bg : a_ru A 0 ≤ 5) (bm : a_ru A 1 ≤ 4) {R : q_O → q_S → Prop}
    (h : R (.inl none) (q_put σ (va_up ι t (z_rws (fun x y => z_in r x y ∧ ¬ z_eb A q x y) r)) κ)) : V_PF_takeOffPads 1 ν t (q_put σ (va_up ι t r) κ) R := by
  intro P2 P45 P98 P108 h2 h45 h98 h108
  obtain ⟨b0, b1⟩ := ok
  have H : ∀ (d k : Nat), k + d = a_E A → P2 1 ν t (nI k) (q_put σ (va_up ι t (z_rws (fun x y => z_in r x y ∧ ¬ ∃ i, i < k ∧ z_pb (a_pl A i = a_la A q) (a_pn A i = a_nt A q) (a_px A i) (a_py A i) (a_pw A i) (a_ph A i) (a_ru A 0) (a_ru A 1) x y) r)) κ) := by
    intro d
    induction d with
    | zero =>
      intro k hk
      have hk : k = a_E A := by omega
      subst hk
      have hE' := hE.upd (r := z_rws (fun x y => z_in r x y ∧ ¬ ∃ i, i < a_E A ∧ z_pb (a_pl A i = a_la A q) (a_pn A i = a_nt A q) (a_px A i) (a_py A i) (a_pw A i) (a_ph A i) (a_ru A 0) (a_ru A 1) x y) r) t5 tf
      refine h2 _ _ _ _ _ ⟨hc.k, ?_⟩
      simp only [q_put_P, q_put_K, hc.p4]
      refine ⟨hE.1.1, v_sizeL hE.1.1 hE'.2.2.1 ?_⟩
      exact br_t (nI_le (Nat.le_refl _) (by omega)) h
    | succ d ih =>
      intro k hk
      generalize hr1 : z_rws (fun x y => z_in r x y ∧ ¬ ∃ i, i < k ∧ z_pb (a_pl A i = a_la A q) (a_pn A i = a_nt A q) (a_px A i) (a_py A i) (a_pw A i) (a_ph A i) (a_ru A 0) (a_ru A 1) x y) r = r1
      have hE' := hE.upd (r := r1) t5 tf
      obtain ⟨f1, f2, f3, f4, f5, f6, f7⟩ := hE.2.2.2 k (by omega)
      obtain ⟨g1, g2, g3, g4⟩ := b1 k (by omega)
      have hr1in : ∀ x y, z_in r1 x y ↔ z_in r x y ∧ ¬ ∃ i, i < k ∧ z_pb (a_pl A i = a_la A q) (a_pn A i = a_nt A q) (a_px A i) (a_py A i) (a_pw A i) (a_ph A i) (a_ru A 0) (a_ru A 1) x y := fun x y => by
        rw [← hr1, z_rws_in]
        exact ⟨fun c => c.2.2, fun c => ⟨b_lt c.1.2, c.1.1, c⟩⟩
      have hnext : ∀ r2 : Nat → Int32, r2 = z_rws (fun x y => z_in r1 x y ∧ ¬ z_pb (a_pl A k = a_la A q) (a_pn A k = a_nt A q) (a_px A k) (a_py A k) (a_pw A k) (a_ph A k) (a_ru A 0) (a_ru A 1) x y) r1 → P108 1 ν t (nI k) (q_put σ (va_up ι t r2) κ) := fun r2 e2 => by
        refine h108 _ _ _ _ _ fun v1 e1 => ?_
        rw [e1, nI_1]
        have : r2 = z_rws (fun x y => z_in r x y ∧ ¬ ∃ i, i < k + 1 ∧ z_pb (a_pl A i = a_la A q) (a_pn A i = a_nt A q) (a_px A i) (a_py A i) (a_pw A i) (a_ph A i) (a_ru A 0) (a_ru A 1) x y) r := by
          rw [e2]
          conv => lhs; arg 2; rw [← hr1]
          rw [z_rws_rws]
          refine z_rws_congr _ fun x y _ _ => ?_
          rw [hr1in]
          constructor
          · rintro ⟨⟨c1, c2⟩, c3⟩
            refine ⟨c1, ?_⟩
            rintro ⟨i, hi, c⟩
            rcases Nat.lt_or_ge i k with c4 | c4
            · exact c2 ⟨i, c4, c⟩
            · have : i = k := by omega
              subst this; exact c3 c
          · rintro ⟨c1, c2⟩
            refine ⟨⟨c1, ?_⟩, fun c => c2 ⟨k, by omega, c⟩⟩
            rintro ⟨i, hi, c⟩
            exact c2 ⟨i, by omega, c⟩
        rw [this]
        exact ih (k + 1) (by omega)
      refine h2 _ _ _ _ _ ⟨hc.k, ?_⟩
      simp only [q_put_P, q_put_K, hc.p4]
      refine ⟨hE.1.1, v_sizeL hE.1.1 hE'.2.2.1 ?_⟩
      refine br_f (nI_ge (by omega) (by omega)) ?_
      simp only [q_put_P, q_put_K, hc.p4, hc.k, hE.1.1, true_and]
      refine v_getL hE.1 hE'.2.2.1 (by omega) (by omega) hE.2.1 ?_
      have tf1 := tf k (by omega)
      simp only [q_cr, q_put_P, q_put_K, q_put_I, f1, hν, up_n tf1, up_n tν, f2, f3, hn, hl, true_and]
      refine br_c (fun c => hnext r1 ?_) (fun c => ?_)
      · conv => lhs; rw [← z_rws_id r1]
        exact z_rws_congr _ fun x y _ _ => ⟨fun c1 => ⟨c1, fun c2 => c c2.1⟩, fun c1 => c1.1⟩
      have c := Decidable.not_not.mp c
      have gd : ∀ (r9 : Nat → Int32), q_I (q_put σ (va_up ι t r9) κ) (f k) 2 = nI (a_px A k) ∧ q_I (q_put σ (va_up ι t r9) κ) (f k) 3 = nI (a_py A k) ∧ q_I (q_put σ (va_up ι t r9) κ) (f k) 4 = nI (a_pw A k) ∧ q_I (q_put σ (va_up ι t r9) κ) (f k) 5 = nI (a_ph A k) := fun r9 => by
        rw [q_put_I, up_n tf1]; exact ⟨f4, f5, f6, f7⟩
      suffices Hy : ∀ (e y : Nat), y + e = 24 → P45 1 ν t (nI k) (f k) (nI y) (q_put σ (va_up ι t (z_mix (fun y => r1 y &&& (z_rw (fun x => z_pb (a_pl A k = a_la A q) (a_pn A k = a_nt A q) (a_px A k) (a_py A k) (a_pw A k) (a_ph A k) (a_ru A 0) (a_ru A 1) x y) ^^^ (-1))) r1 y)) κ) by
        have := Hy 24 0 rfl
        rwa [z_mix0] at this
      intro e
      induction e with
      | zero =>
        intro y hy
        have hy : y = 24 := by omega
        subst hy
        refine h45 _ _ _ _ _ _ _ (br_t (nI_le (a := 24) (Nat.le_refl _) (by omega)) (hnext _ (funext fun y => ?_)))
        rcases Nat.lt_or_ge y 24 with hy | hy
        · rw [z_mix_lo hy, z_rws_at hy]
          refine z_rw_of fun x hx => ?_
          rw [b_an, z_rw_iff]
          constructor
          · rintro ⟨d1, d2⟩; exact ⟨⟨hy, d1⟩, fun d3 => d2 ⟨hx, d3⟩⟩
          · rintro ⟨d1, d2⟩; exact ⟨d1.2, fun d3 => d2 d3.2⟩
        · unfold z_rws; rw [z_mix_hi hy, z_mix_hi hy]
      | succ e ih2 =>
        intro y hy
        refine h45 _ _ _ _ _ _ _ (br_f (nI_ge (b := 24) (by omega) (by omega)) ?_)
        have cy : (nI y).toNatClampNeg = y := nI_clamp (by omega)
        have vy : vp_in (nI y) 24 := vp_in_nI (by omega) (by omega)
        have v5 : vp_in 0 4 := vp_in_nI (n := 0) (by omega) (by omega)
        have v6 : vp_in 1 4 := vp_in_nI (n := 1) (by omega) (by omega)
        have d0 : (0 : Int32).toNatClampNeg = 0 := by decide
        have d1 : (1 : Int32).toNatClampNeg = 1 := by decide
        simp only [q_put_P, q_put_K, q_put_Z, q_put_I, htK, htZ, hc.k, hc.p5, hc.k6, hc.z6, vy, v5, v6, d0, d1, cy, f1, f2, hν, hn, true_or, true_and, up_n t6.symm, hg, hmo, up_s, up_n tf1, up_n tν]
        obtain ⟨u1, u2, u3, u4⟩ := gd (z_mix (fun y => r1 y &&& (z_rw (fun x => z_pb (a_pl A k = a_la A q) (a_pn A k = a_nt A q) (a_px A k) (a_py A k) (a_pw A k) (a_ph A k) (a_ru A 0) (a_ru A 1) x y) ^^^ (-1))) r1 y)
        have fin : ∀ v : Int32, (∀ x, bt v x = true ↔ z_pb (a_pl A k = a_la A q) (a_pn A k = a_nt A q) (a_px A k) (a_py A k) (a_pw A k) (a_ph A k) (a_ru A 0) (a_ru A 1) x y) → P98 1 ν t (nI k) (f k) (nI y) v (z_mix (fun y => r1 y &&& (z_rw (fun x => z_pb (a_pl A k = a_la A q) (a_pn A k = a_nt A q) (a_px A k) (a_py A k) (a_pw A k) (a_ph A k) (a_ru A 0) (a_ru A 1) x y) ^^^ (-1))) r1 y y) (nI y) t (q_put σ (va_up ι t (z_mix (fun y => r1 y &&& (z_rw (fun x => z_pb (a_pl A k = a_la A q) (a_pn A k = a_nt A q) (a_px A k) (a_py A k) (a_pw A k) (a_ph A k) (a_ru A 0) (a_ru A 1) x y) ^^^ (-1))) r1 y)) κ) := fun v hv => by
          refine h98 _ _ _ _ _ _ _ _ _ _ _ ?_
          simp only [q_put_K, q_put_Z, htK, htZ, vy, cy, true_and, forall_eq]
          rw [show v = z_rw (fun x => z_pb (a_pl A k = a_la A q) (a_pn A k = a_nt A q) (a_px A k) (a_py A k) (a_pw A k) (a_ph A k) (a_ru A 0) (a_ru A 1) x y) from z_rw_of fun x _ => hv x]
          rw [q_putw, nI_1, z_mix_hi (Nat.le_refl y), z_mix_up (fun y => r1 y &&& (z_rw (fun x => z_pb (a_pl A k = a_la A q) (a_pn A k = a_nt A q) (a_px A k) (a_py A k) (a_pw A k) (a_ph A k) (a_ru A 0) (a_ru A 1) x y) ^^^ (-1)))]
          exact ih2 (y + 1) (by omega)
        refine br_c (fun c2 => fin _ fun x => ?_) (fun c2 => fin _ fun x => ?_)
        · rw [z_near u1 u2 u3 u4 g1 g2 (by omega) (by omega)]
          exact ⟨fun c3 => ⟨c, Or.inl ⟨c2, c3⟩⟩, fun c3 => c3.2.elim (fun c4 => c4.2) (fun c4 => absurd c4.1 c2)⟩
        · have c2 := Decidable.not_not.mp c2
          rw [z_moat u1 u2 u3 u4 g1 g2 g3 g4 (by omega) (by omega)]
          exact ⟨fun c3 => ⟨c, Or.inr ⟨c2, c3⟩⟩, fun c3 => c3.2.elim (fun c4 => absurd c2 c4.1) (fun c4 => c4.2)⟩
  have := H (a_E A) 0 (by omega)
  rwa [show z_rws (fun x y => z_in r x y ∧ ¬ ∃ i, i < 0 ∧ z_pb (a_pl A i = a_la A q) (a_pn A i = a_nt A q) (a_px A i) (a_py A i) (a_pw A i) (a_ph A i) (a_ru A 0) (a_ru A 1) x y) r = r by
    conv => rhs; rw [← z_rws_id r]
    exact z_rws_congr _ fun x y _ _ => ⟨fun c => c.1, fun c => ⟨c, by rintro ⟨i, hi, -⟩; omega⟩⟩] at this
