/-! NECKS OF THE REFERENCE; HATCHING -/
theorem zx_shr (w : Int32) {i : Nat} (hi : i < 32) : zx w >>> ((nI i).toInt64 &&& 63) = zx (q_ushr w (nI i)) := zx_eq fun j hj => by
  rw [l_shr i hi _ (zx_63 w), l_zx, b_ushr i hi]
theorem zx_shl (w : Int32) {i : Nat} (hi : i < 32) : (zx w <<< ((nI i).toInt64 &&& 63)) &&& (4294967295 : Int64) = zx (w <<< (nI i &&& 31)) := zx_eq fun j hj => by
  rw [l_and, l_shl i hi _ hj, l_all', l_zx]
  rcases Nat.lt_or_ge j 32 with h | h
  · rw [b_shl i hi _ h]; simp [h]
  · rw [b_big h]; simp; omega
theorem zx_m1 : (4294967295 : Int64) = zx (-1) := by decide +kernel
theorem up_1 (κ : Nat → Nat → Int64) (a k : Nat) (x : Int64) (b : Nat) (h : b ≠ a) : va_up κ a (va_up (κ a) k x) b = κ b := up_n h
theorem v_takeNecks {σ : q_S} {ι : Nat → Nat → Int32} {κ : Nat → Nat → Int64} {n : Nat} {r : Nat → Int32} (hm : m_S σ) (hr : z_zr κ 38 r) (hn : ι 30 2 = nI n) (h1 : 1 ≤ n) (h5 : n ≤ 5) {R : q_O → q_S → Prop}
    (h : ∀ (κ' : Nat → Nat → Int64) (fl : Int32), (∀ a, a ≠ 38 → a ≠ 40 → κ' a = κ a) → z_zr κ' 38 (z_rws (z_nk n r) r) → ((fl = 0 ∧ ∀ y, y < 24 → z_rws (z_nk n r) r y = r y) ∨ (fl = 1 ∧ ¬ ∀ y, y < 24 → z_rws (z_nk n r) r y = r y)) → R (.inl (some (.inl fl))) (q_put σ ι κ')) : V_PM_takeNecks 14 (q_put σ ι κ) R := by
  intro P9 P30 P45 P54 P90 P99 P154 P180 P185 p9 p30 p45 p54 p90 p99 p154 p180 p185
  have v2 : vp_in 2 4 := vp_in_nI (n := 2) (by omega) (by omega)
  have d2 : (2 : Int32).toNatClampNeg = 2 := by decide
  simp only [q_put_K, q_put_P, q_put_Z, q_put_I, hm.k, hm.p20, hm.k20, hm.z20, v2, d2, hn, true_or, true_and, forall_eq]
  have L3 : ∀ (s : Nat → Int32), (∀ y, y < 24 → s y = z_rw (fun x => z_nk n r x y)) → ∀ (d k : Nat) (fl : Int32) (κ' : Nat → Nat → Int64), k + d = 24 → (∀ a, a ≠ 38 → a ≠ 40 → κ' a = κ a) → z_zr κ' 38 (z_mix s r k) → z_zr κ' 40 s → ((fl = 0 ∧ ∀ y, y < k → s y = r y) ∨ (fl = 1 ∧ ¬ ∀ y, y < k → s y = r y)) → P154 14 fl (nI k) (q_put σ ι κ') := by
    intro s hs d
    induction d with
    | zero =>
      intro k fl κ' hk hf h38 h40 hfl
      have hk : k = 24 := by omega
      subst hk
      refine p154 _ _ _ _ (br_t (nI_le (a := 24) (Nat.le_refl _) (by omega)) ⟨hfl.elim (fun c => Or.inl c.1) (fun c => Or.inr c.1), ?_⟩)
      have e : z_mix s r 24 = z_rws (z_nk n r) r := funext fun y => by
        rcases Nat.lt_or_ge y 24 with hy | hy
        · rw [z_mix_lo hy, z_rws_at hy, hs y hy]
        · unfold z_rws; rw [z_mix_hi hy, z_mix_hi hy]
      rw [e] at h38
      refine h κ' fl hf h38 (hfl.imp (fun c => ⟨c.1, fun y hy => ?_⟩) (fun c => ⟨c.1, fun c2 => c.2 fun y hy => ?_⟩))
      · rw [z_rws_at hy, ← hs y hy]; exact c.2 y hy
      · rw [hs y hy, ← z_rws_at (P := z_nk n r) (r := r) hy]; exact c2 y hy
    | succ d ih =>
      intro k fl κ' hk hf h38 h40 hfl
      have ck : (nI k).toNatClampNeg = k := nI_clamp (by omega)
      have vk : vp_in (nI k) 24 := vp_in_nI (by omega) (by omega)
      have e38 : κ' 38 k = zx (r k) := by rw [h38 k (by omega), z_mix_hi (Nat.le_refl k)]
      have e40 : κ' 40 k = zx (s k) := h40 k (by omega)
      have fin : ∀ (w : Int32), ((w = 0 ∧ ∀ y, y < k + 1 → s y = r y) ∨ (w = 1 ∧ ¬ ∀ y, y < k + 1 → s y = r y)) → P185 14 (nI k) w (q_put σ ι κ') := fun w hw => by
        refine p185 _ _ _ _ ?_
        simp only [q_put_K, q_put_P, q_put_Z, q_put_L, hm.k, hm.p30, hm.k30, hm.z30, hm.p28, hm.k28, hm.z28, ck, vk, true_or, true_and, forall_eq]
        rw [q_put_wL, nI_1, e40]
        refine ih (k + 1) w _ (by omega) (fun a ha hb => by rw [up_n ha]; exact hf a ha hb) ?_ (h40.other (by omega) _) hw
        have := h38.up k (s k)
        rwa [z_mix_up s] at this
      refine p154 _ _ _ _ (br_f (nI_ge (b := 24) (by omega) (by omega)) ?_)
      simp only [q_put_K, q_put_P, q_put_Z, q_put_L, hm.k, hm.p30, hm.k30, hm.z30, hm.p28, hm.k28, hm.z28, ck, vk, e38, e40, lg_cmp_eq, true_and]
      refine br_c (fun c => p180 _ _ _ (fin 1 (Or.inr ⟨rfl, ?_⟩))) (fun c => br_c (fun c2 => fin 0 (Or.inl ⟨rfl, ?_⟩)) (fun c2 => p180 _ _ _ (fin 1 (Or.inr ⟨rfl, ?_⟩))))
      · rcases hfl with ⟨f0, f1⟩ | ⟨f0, f1⟩
        · exact absurd f0 c
        · exact fun c2 => f1 fun y hy => c2 y (by omega)
      · have c := Decidable.not_not.mp c
        have c2 := zx_inj c2
        intro y hy
        rcases Nat.lt_or_ge y k with c3 | c3
        · rcases hfl with ⟨f0, f1⟩ | ⟨f0, f1⟩
          · exact f1 y c3
          · rw [f0] at c; cases c
        · have : y = k := by omega
          rw [this]; exact c2.symm
      · exact fun c3 => c2 (by rw [c3 k (by omega)])
  have L1 : ∀ (d k : Nat) (s : Nat → Int32) (κ' : Nat → Nat → Int64), k + d = 25 - n → (∀ a, a ≠ 38 → a ≠ 40 → κ' a = κ a) → z_zr κ' 38 r → z_zr κ' 40 s → (∀ y, y < 24 → ∀ x, bt (s y) x = true ↔ x < 32 ∧ ∃ y0, y0 < k ∧ y0 ≤ y ∧ y < y0 + n ∧ ∃ x0, x0 ≤ x ∧ x < x0 + n ∧ z_ws n r y0 x0) → P30 14 (nI n) (nI k) (q_put σ ι κ') := by
    intro d
    induction d with
    | zero =>
      intro k s κ' hk hf h38 h40 hs
      refine p30 _ _ _ _ (br_t (by rw [nI_add]; exact nI_lt (a := 24) (by omega) (by omega)) ?_)
      refine L3 s (fun y hy => b_iff fun x => ?_) 24 0 0 κ' rfl hf (by rw [z_mix0]; exact h38) h40 (Or.inl ⟨rfl, fun y hy => by omega⟩)
      rw [hs y hy, z_rw_iff]
      unfold z_nk
      constructor
      · rintro ⟨c1, y0, c2, c3, c4, c5⟩; exact ⟨c1, y0, by omega, c3, c4, c5⟩
      · rintro ⟨c1, y0, c2, c3, c4, c5⟩; exact ⟨c1, y0, by omega, c3, c4, c5⟩
    | succ d ih =>
      intro k s κ' hk hf h38 h40 hs
      refine p30 _ _ _ _ (br_f (by rw [nI_add]; exact nI_nlt (a := 24) (by omega) (by omega)) ?_)
      have LB : ∀ (w : Int32), (∀ x, bt w x = true ↔ x < 32 ∧ z_ws n r k x) → ∀ (e j : Nat) (s2 : Nat → Int32) (κ2 : Nat → Nat → Int64), j + e = n → (∀ a, a ≠ 38 → a ≠ 40 → κ2 a = κ a) → z_zr κ2 38 r → z_zr κ2 40 s2 → (∀ y, y < 24 → ∀ x, bt (s2 y) x = true ↔ bt (s y) x = true ∨ (k ≤ y ∧ y < k + j ∧ x < 32 ∧ ∃ x0, x0 ≤ x ∧ x < x0 + n ∧ z_ws n r k x0)) → P90 14 (nI n) (nI k) (zx w) (nI j) (q_put σ ι κ2) := by
        intro w hw e
        induction e with
        | zero =>
          intro j s2 κ2 hj hf2 h38' h40' hs2
          refine p90 _ _ _ _ _ _ (pk_le n j (fun _ => fun v2 e2 => ?_) (fun c => by omega))
          rw [e2, nI_1]
          refine ih (k + 1) s2 κ2 (by omega) hf2 h38' h40' fun y hy x => ?_
          rw [hs2 y hy, hs y hy]
          have hj : j = n := by omega
          subst hj
          constructor
          · rintro (⟨c1, y0, c2, c3⟩ | ⟨c1, c2, c3, c4⟩)
            · exact ⟨c1, y0, by omega, c3⟩
            · exact ⟨c3, k, by omega, c1, c2, c4⟩
          · rintro ⟨c1, y0, c2, c3, c4, c5⟩
            rcases Nat.lt_or_ge y0 k with c | c
            · exact Or.inl ⟨c1, y0, c, c3, c4, c5⟩
            · have : y0 = k := by omega
              subst this; exact Or.inr ⟨c3, c4, c1, c5⟩
        | succ e ih2 =>
          intro j s2 κ2 hj hf2 h38' h40' hs2
          refine p90 _ _ _ _ _ _ (pk_le n j (fun c => by omega) (fun _ => ?_))
          have cc : (nI (k + j)).toNatClampNeg = k + j := nI_clamp (by omega)
          have vv : vp_in (nI (k + j)) 24 := vp_in_nI (by omega) (by omega)
          suffices LI : ∀ (e i : Nat) (s3 : Nat → Int32) (κ3 : Nat → Nat → Int64), i + e = n → (∀ a, a ≠ 38 → a ≠ 40 → κ3 a = κ a) → z_zr κ3 38 r → z_zr κ3 40 s3 → (∀ y, y < 24 → ∀ x, bt (s3 y) x = true ↔ bt (s2 y) x = true ∨ (y = k + j ∧ x < 32 ∧ ∃ x0, x0 ≤ x ∧ x < x0 + i ∧ z_ws n r k x0)) → P99 14 (nI n) (nI k) (zx w) (nI j) (nI i) (q_put σ ι κ3) from LI n 0 s2 κ2 (by omega) hf2 h38' h40' fun y hy x => ⟨Or.inl, fun c => c.elim id (by rintro ⟨-, -, x0, c1, c2, -⟩; omega)⟩
          intro e
          induction e with
          | zero =>
            intro i s3 κ3 hi hf3 h38'' h40'' hs3
            refine p99 _ _ _ _ _ _ _ (pk_le n i (fun _ => fun v2 e2 => ?_) (fun c => by omega))
            rw [e2, nI_1]
            refine ih2 (j + 1) s3 κ3 (by omega) hf3 h38'' h40'' fun y hy x => ?_
            have hi : i = n := by omega
            subst hi
            rw [hs3 y hy, hs2 y hy]
            constructor
            · rintro ((c1 | c1) | c1)
              · exact Or.inl c1
              · exact Or.inr ⟨c1.1, by omega, c1.2.2⟩
              · exact Or.inr ⟨by omega, by omega, c1.2⟩
            · rintro (c1 | c1)
              · exact Or.inl (Or.inl c1)
              · rcases Nat.lt_or_ge y (k + j) with c | c
                · exact Or.inl (Or.inr ⟨c1.1, c, c1.2.2⟩)
                · exact Or.inr ⟨by omega, c1.2.2⟩
          | succ e ih3 =>
            intro i s3 κ3 hi hf3 h38'' h40'' hs3
            refine p99 _ _ _ _ _ _ _ (pk_le n i (fun c => by omega) (fun _ => ?_))
            have e40 : κ3 40 (k + j) = zx (s3 (k + j)) := h40'' _ (by omega)
            simp only [q_put_K, q_put_P, q_put_Z, q_put_L, hm.k, hm.p30, hm.k30, hm.z30, nI_add, cc, vv, e40, true_and, forall_eq]
            rw [zx_shl w (by omega), zx_or, q_put_wL, nI_1]
            refine ih3 (i + 1) _ _ (by omega) (fun a ha hb => by rw [up_n hb]; exact hf3 a ha hb) (h38''.other (by omega) _) (h40''.up _ _) fun y hy x => ?_
            by_cases c : y = k + j
            · subst c
              rw [up_s, b_ao, hs3 _ hy]
              rcases Nat.lt_or_ge x 32 with hx | hx
              · rw [b_shl i (by omega) _ hx, Bool.and_eq_true, decide_eq_true_iff, hw]
                constructor
                · rintro ((c1 | ⟨-, -, x0, c2, c3, c4⟩) | ⟨c1, c2, c3⟩)
                  · exact Or.inl c1
                  · exact Or.inr ⟨rfl, hx, x0, c2, by omega, c4⟩
                  · exact Or.inr ⟨rfl, hx, x - i, by omega, by omega, c3⟩
                · rintro (c1 | ⟨-, -, x0, c2, c3, c4⟩)
                  · exact Or.inl (Or.inl c1)
                  · rcases Nat.lt_or_ge x (x0 + i) with c5 | c5
                    · exact Or.inl (Or.inr ⟨rfl, hx, x0, c2, c5, c4⟩)
                    · have : x - i = x0 := by omega
                      exact Or.inr ⟨by omega, by omega, by rw [this]; exact c4⟩
              · rw [b_big hx, b_big hx]
                constructor
                · rintro ((c1 | c1) | c1)
                  · exact Or.inl c1
                  · omega
                  · cases c1
                · rintro (c1 | c1)
                  · cases c1
                  · omega
            · rw [up_n c, hs3 y hy]
              constructor
              · rintro (c1 | c1)
                · exact Or.inl c1
                · exact absurd c1.1 c
              · rintro (c1 | c1)
                · exact Or.inl c1
                · exact absurd c1.1 c
      have LA : ∀ (e j : Nat) (w : Int32), j + e = n → (∀ x, bt w x = true ↔ x < 32 ∧ ∀ i j', i < n → j' < j → bt (r (k + j')) (x + i) = true) → P45 14 (nI n) (nI k) (zx w) (nI j) (q_put σ ι κ') := by
        intro e
        induction e with
        | zero =>
          intro j w hj hw
          refine p45 _ _ _ _ _ _ (pk_le n j (fun _ => ?_) (fun c => by omega))
          have hj : j = n := by omega
          subst hj
          refine LB w (fun x => hw x) j 0 s κ' (by omega) hf h38 h40 fun y hy x => ⟨Or.inl, fun c => c.elim id fun c => by omega⟩
        | succ e ih2 =>
          intro j w hj hw
          refine p45 _ _ _ _ _ _ (pk_le n j (fun c => by omega) (fun _ => ?_))
          have cc : (nI (k + j)).toNatClampNeg = k + j := nI_clamp (by omega)
          have vv : vp_in (nI (k + j)) 24 := vp_in_nI (by omega) (by omega)
          suffices LI : ∀ (e i : Nat) (u : Int32), i + e = n → (∀ x, bt u x = true ↔ bt w x = true ∧ ∀ i', i' < i → bt (r (k + j)) (x + i') = true) → P54 14 (nI n) (nI k) (zx u) (nI j) (nI i) (q_put σ ι κ') from LI n 0 w (by omega) fun x => ⟨fun c => ⟨c, fun i hi => by omega⟩, fun c => c.1⟩
          intro e
          induction e with
          | zero =>
            intro i u hi hu
            refine p54 _ _ _ _ _ _ _ (pk_le n i (fun _ => fun v2 e2 => ?_) (fun c => by omega))
            rw [e2, nI_1]
            refine ih2 (j + 1) u (by omega) fun x => ?_
            have hi : i = n := by omega
            subst hi
            rw [hu, hw]
            constructor
            · rintro ⟨⟨c1, c2⟩, c3⟩
              refine ⟨c1, fun a b ha hb => ?_⟩
              rcases Nat.lt_or_ge b j with c | c
              · exact c2 a b ha c
              · have : b = j := by omega
                subst this; exact c3 a ha
            · rintro ⟨c1, c2⟩
              exact ⟨⟨c1, fun a b ha hb => c2 a b ha (by omega)⟩, fun a ha => c2 a j ha (by omega)⟩
          | succ e ih3 =>
            intro i u hi hu
            refine p54 _ _ _ _ _ _ _ (pk_le n i (fun c => by omega) (fun _ => ?_))
            have e38 : κ' 38 (k + j) = zx (r (k + j)) := h38 _ (by omega)
            simp only [q_put_K, q_put_P, q_put_Z, q_put_L, hm.k, hm.p28, hm.k28, hm.z28, nI_add, cc, vv, e38, true_and, forall_eq]
            rw [zx_shr _ (by omega), zx_and, nI_1]
            refine ih3 (i + 1) _ (by omega) fun x => ?_
            rw [b_ad, hu, b_ushr i (by omega)]
            constructor
            · rintro ⟨⟨c1, c2⟩, c3⟩
              refine ⟨c1, fun a ha => ?_⟩
              rcases Nat.lt_or_ge a i with c | c
              · exact c2 a c
              · have : a = i := by omega
                subst this; rwa [Nat.add_comm x]
            · rintro ⟨c1, c2⟩
              exact ⟨⟨c1, fun a ha => c2 a (by omega)⟩, by rw [Nat.add_comm i]; exact c2 i (by omega)⟩
      rw [zx_m1]
      refine LA n 0 (-1) (by omega) fun x => ?_
      constructor
      · intro c; exact ⟨b_lt c, fun i j _ hj => by omega⟩
      · rintro ⟨c, -⟩; exact b_m1 x c
  have L0 : ∀ (d k : Nat) (κ' : Nat → Nat → Int64), k + d = 24 → (∀ a, a ≠ 38 → a ≠ 40 → κ' a = κ a) → z_zr κ' 38 r → (∀ y, y < k → κ' 40 y = 0) → P9 14 (nI n) (nI k) (q_put σ ι κ') := by
    intro d
    induction d with
    | zero =>
      intro k κ' hk hf h38 h40
      refine p9 _ _ _ _ (pk_le 24 k (fun _ => ?_) (fun c => by omega))
      refine L1 (25 - n) 0 (fun _ => 0) κ' (by omega) hf h38 (fun y hy => by rw [h40 y (by omega), zx_0]) fun y hy x => ?_
      rw [b_0]
      constructor
      · intro c; cases c
      · rintro ⟨-, y0, c, -⟩; omega
    | succ d ih =>
      intro k κ' hk hf h38 h40
      have ck : (nI k).toNatClampNeg = k := nI_clamp (by omega)
      have vk : vp_in (nI k) 24 := vp_in_nI (by omega) (by omega)
      refine p9 _ _ _ _ (pk_le 24 k (fun c => by omega) (fun _ => ?_))
      simp only [q_put_K, q_put_P, q_put_Z, hm.k, hm.p30, hm.k30, hm.z30, ck, vk, true_and, forall_eq]
      rw [q_put_wL, nI_1]
      refine ih (k + 1) _ (by omega) (fun a ha hb => by rw [up_n hb]; exact hf a ha hb) (h38.other (by omega) _) fun y hy => ?_
      rw [up_s]
      by_cases c : y = k
      · rw [c, up_s]
      · rw [up_n c]; exact h40 y (by omega)
  exact L0 24 0 κ rfl (fun _ _ _ => rfl) hr (fun y hy => by omega)
/-- the hatching -/
def z_hc (step width x y : Nat) : Prop := 0 < step → y % step < width ∨ x % step < width
theorem i_rem {a d : Nat} (ha : a < 1000) (hd : 0 < d) (hd2 : d ≤ 16) : nI a - nI a / nI d * nI d = nI (a % d) := by
  have : ∀ d : Nat, d ≤ 16 → 0 < d → ∀ a : Nat, a < 32 → nI a - nI a / nI d * nI d = nI (a % d) := by decide +kernel
  have e : nI a / nI d = nI (a / d) := by
    rw [iI_eq, Int32.toInt_div_of_ne_right _ _ (by
      intro h
      have := nI_toInt (n := d) (by omega)
      rw [h] at this
      have h2 : (-1 : Int32).toInt = -1 := rfl
      omega), nI_toInt (by omega), nI_toInt (by omega), nI_toInt (by have := Nat.div_le_self a d; omega), Int.natCast_ediv, Int.tdiv_eq_ediv_of_nonneg (by omega)]
  have h2 := Nat.div_add_mod a d
  have h3 : a / d * d ≤ a := Nat.div_mul_le_self a d
  rw [e, pk_mul, pk_sub h3]
  congr 1
  rw [Nat.mul_comm] at h2
  omega
theorem v_columnsBelow {σ : q_S} {step width : Nat} (h16 : step ≤ 16) (hw : width ≤ step) (h0 : 0 < step) {R : q_O → q_S → Prop}
    (h : R (.inl (some (.inl (z_rw (fun x => x % step < width))))) σ) : V_PF_columnsBelow (nI step) (nI width) σ R := by
  intro P8 P35 p8 p35
  refine br_f (nI_ge h0 (by omega)) ?_
  suffices H : ∀ (d k : Nat) (v : Int32), k * step + d = 32 + step → (∀ x, bt v x = true ↔ x < 32 ∧ x < k * step ∧ x % step < width) → P8 (nI step) (nI width) v (nI (k * step)) σ by
    have := H (32 + step) 0 0 (by omega) (fun x => by
      rw [b_0]
      constructor
      · intro c; cases c
      · intro c; omega)
    rwa [Nat.zero_mul] at this
  intro d
  induction d using Nat.strongRecOn with
  | ind d ih =>
  intro k v hk hv
  rcases Nat.lt_or_ge (k * step) 32 with c | c
  · refine p8 _ _ _ _ _ (br_f (nI_ge (b := 32) c (by omega)) fun v2 e2 v3 e3 => ?_)
    rw [nI_add, show k * step + step = (k + 1) * step by rw [Nat.add_mul, Nat.one_mul]] at e3
    rw [e2, e3]
    refine ih (d - step) (by omega) (k + 1) _ (by rw [Nat.add_mul, Nat.one_mul]; omega) fun x => ?_
    rw [b_ao, hv, z_span, i2l_t, i2l_t]
    have eb : (nI (k * step) + nI width - 1).toInt = (k * step : Nat) + (width : Int) - 1 := by
      simp only [iI_nI, show (1 : Int32) = iI 1 from rfl, iI_add, iI_sub]
      rw [iI_t (by omega) (by omega)]
    rw [eb, nI_toInt (by omega)]
    have e1 : (k + 1) * step = k * step + step := by rw [Nat.add_mul, Nat.one_mul]
    rw [e1]
    rcases Nat.lt_or_ge x (k * step) with c1 | c1
    · constructor
      · rintro (c2 | c2)
        · exact ⟨c2.1, by omega, c2.2.2⟩
        · omega
      · intro c2; exact Or.inl ⟨c2.1, c1, c2.2.2⟩
    · rcases Nat.lt_or_ge x (k * step + step) with c3 | c3
      · have em : x % step = x - k * step := by
          have : x = (x - k * step) + step * k := by rw [Nat.mul_comm step k]; omega
          rw [this, Nat.add_mul_mod_self_left, Nat.mod_eq_of_lt (by omega)]
          rw [Nat.mul_comm step k]; omega
        rw [em]
        constructor
        · rintro (c2 | c2)
          · omega
          · exact ⟨c2.1, by omega, by omega⟩
        · intro c2; exact Or.inr ⟨c2.1, by omega, by omega⟩
      · constructor
        · rintro (c2 | c2)
          · omega
          · omega
        · intro c2; omega
  · refine p8 _ _ _ _ _ (br_t (nI_le (a := 32) c (by omega)) (p35 _ _ ?_))
    rwa [show v = z_rw (fun x => x % step < width) from b_iff fun x => by
      rw [hv, z_rw_iff]
      constructor
      · rintro ⟨c1, -, c2⟩; exact ⟨c1, c2⟩
      · rintro ⟨c1, c2⟩; exact ⟨c1, by omega, c2⟩]
theorem v_takeOffHatching {σ : q_S} {ι : Nat → Nat → Int32} {κ : Nat → Nat → Int64} {ν t step width : Nat} {r : Nat → Int32} (hν : q_K σ ν = 6) (tν : ν ≠ t) (htK : q_K σ t = 1000) (htZ : q_Z σ t = 24) (h8 : ι ν 8 = nI step) (h9 : ι ν 9 = nI width) (h16 : step ≤ 16) (hw : width ≤ step) {R : q_O → q_S → Prop}
    (h : R (.inl none) (q_put σ (va_up ι t (z_rws (fun x y => z_in r x y ∧ z_hc step width x y) r)) κ)) : V_PF_takeOffHatching ν t (q_put σ (va_up ι t r) κ) R := by
  intro P22 P48 p22 p48
  simp only [q_put_K, q_put_I, hν, up_n tν, h8, h9, true_and, forall_eq]
  refine br_c (fun c => ?_) (fun c => ?_)
  · rw [show (0 : Int32) = nI 0 from rfl, nI_ltI (by omega) (by omega)] at c
    refine v_columnsBelow h16 hw c ?_
    generalize hw2 : z_rw (fun x => x % step < width) = w
    have hwb : ∀ x, bt w x = true ↔ x < 32 ∧ x % step < width := fun x => by rw [← hw2, z_rw_iff]
    suffices H : ∀ (d k : Nat), k + d = 24 → P22 ν t (nI step) w (nI k) (q_put σ (va_up ι t (z_mix (fun y => z_rw (fun x => z_in r x y ∧ z_hc step width x y)) r k)) κ) by
      have := H 24 0 rfl
      rwa [z_mix0] at this
    intro d
    induction d with
    | zero =>
      intro k hk
      have hk : k = 24 := by omega
      subst hk
      exact p22 _ _ _ _ _ _ (br_t (nI_le (a := 24) (Nat.le_refl _) (by omega)) h)
    | succ d ih =>
      intro k hk
      have ck : (nI k).toNatClampNeg = k := nI_clamp (by omega)
      have vk : vp_in (nI k) 24 := vp_in_nI (by omega) (by omega)
      have hk0 : ¬ nI step = 0 := nI_ne0 c (by omega)
      have fin : ∀ u : Int32, u = z_rw (fun x => z_in r x k ∧ z_hc step width x k) → P48 ν t (nI step) w (nI k) (q_put σ (va_up ι t (va_up (z_mix (fun y => z_rw (fun x => z_in r x y ∧ z_hc step width x y)) r k) k u)) κ) := fun u hu => by
        refine p48 _ _ _ _ _ _ fun v1 e1 => ?_
        rw [e1, nI_1, hu, z_mix_up (fun y => z_rw (fun x => z_in r x y ∧ z_hc step width x y))]
        exact ih (k + 1) (by omega)
      refine p22 _ _ _ _ _ _ (br_f (nI_ge (b := 24) (by omega) (by omega)) ⟨hk0, hν, ?_⟩)
      rw [i_rem (by omega) c h16]
      simp only [q_put_K, q_put_Z, q_put_I, htK, htZ, ck, vk, up_n tν, h9, up_s, true_or, true_and, forall_eq]
      refine br_c (fun c2 => ?_) (fun c2 => ?_)
      · rw [nI_ltI (by have := Nat.mod_lt k c; omega) (by omega)] at c2
        have := fin (r k) (z_rw_of fun x hx => ⟨fun c3 => ⟨⟨by omega, c3⟩, fun _ => Or.inl c2⟩, fun c3 => c3.1.2⟩)
        rwa [show va_up (z_mix (fun y => z_rw (fun x => z_in r x y ∧ z_hc step width x y)) r k) k (r k) = z_mix (fun y => z_rw (fun x => z_in r x y ∧ z_hc step width x y)) r k by
          have e := up_id (z_mix (fun y => z_rw (fun x => z_in r x y ∧ z_hc step width x y)) r k) k
          rwa [z_mix_hi (Nat.le_refl k)] at e] at this
      · rw [nI_ltI (by have := Nat.mod_lt k c; omega) (by omega)] at c2
        rw [q_putw, z_mix_hi (Nat.le_refl k)]
        refine fin _ (z_rw_of fun x hx => ?_)
        rw [b_ad, hwb]
        exact ⟨fun c3 => ⟨⟨by omega, c3.1⟩, fun _ => Or.inr c3.2.2⟩, fun c3 => ⟨c3.1.2, hx, (c3.2 c).elim (fun c4 => absurd c4 c2) id⟩⟩
  · rw [show (0 : Int32) = nI 0 from rfl, nI_ltI (by omega) (by omega)] at c
    rwa [show z_rws (fun x y => z_in r x y ∧ z_hc step width x y) r = r by
      conv => rhs; rw [← z_rws_id r]
      exact z_rws_congr _ fun x y _ _ => ⟨fun c => c.1, fun c2 => ⟨c2, fun c3 => absurd c3 c⟩⟩] at h
theorem v_hatchFree {σ : q_S} {ι : Nat → Nat → Int32} {κ : Nat → Nat → Int64} {q step width : Nat} {r : Nat → Int32} (hm : m_S σ) (hq : q < 8) (hr : z_zr κ 38 r) (h8 : ι 22 q = nI step) (h9 : ι 23 q = nI width) (h16 : step ≤ 16) (hw : width ≤ step) {R : q_O → q_S → Prop}
    (h : ∀ κ' : Nat → Nat → Int64, (∀ a, a ≠ 38 → κ' a = κ a) → z_zr κ' 38 (z_rws (fun x y => z_in r x y ∧ z_hc step width x y) r) → R (.inl none) (q_put σ ι κ')) : V_PM_hatchFree 14 (nI q) (q_put σ ι κ) R := by
  intro P17 P47 P58 P94 p17 p47 p58 p94
  have cq : (nI q).toNatClampNeg = q := nI_clamp (by omega)
  have vq : vp_in (nI q) 8 := vp_in_nI (by omega) (by omega)
  simp only [q_put_K, q_put_P, q_put_Z, q_put_I, hm.k, hm.p10, hm.k10, hm.z10, cq, vq, h8, true_or, true_and, forall_eq]
  refine br_c (fun c => ?_) (fun c => ?_)
  · have c0 : 0 < step := by
      rcases Nat.eq_zero_or_pos step with e | e
      · subst e; exact absurd rfl c
      · exact e
    have hm0 : ∀ k, k % step < 2 ^ 31 := fun k => by have := Nat.mod_lt k c0; omega
    have L2 : ∀ (w : Int32), (∀ x, bt w x = true ↔ x < 32 ∧ x % step < width) → ∀ (d k : Nat) (κ' : Nat → Nat → Int64), k + d = 24 → (∀ a, a ≠ 38 → κ' a = κ a) → z_zr κ' 38 (z_mix (fun y => z_rw (fun x => z_in r x y ∧ z_hc step width x y)) r k) → P58 14 (nI q) (nI step) (zx w) (nI k) (q_put σ ι κ') := by
      intro w hwb d
      induction d with
      | zero =>
        intro k κ' hk hf h38
        have hk : k = 24 := by omega
        subst hk
        exact p58 _ _ _ _ _ _ (br_t (nI_le (a := 24) (Nat.le_refl _) (by omega)) (h κ' hf h38))
      | succ d ih =>
        intro k κ' hk hf h38
        have ck : (nI k).toNatClampNeg = k := nI_clamp (by omega)
        have vk : vp_in (nI k) 24 := vp_in_nI (by omega) (by omega)
        have e38 : κ' 38 k = zx (r k) := by rw [h38 k (by omega), z_mix_hi (Nat.le_refl k)]
        refine p58 _ _ _ _ _ _ (br_f (nI_ge (b := 24) (by omega) (by omega)) ⟨c, ?_⟩)
        rw [i_rem (by omega) c0 h16]
        simp only [q_put_K, q_put_P, q_put_Z, q_put_I, q_put_L, hm.k, hm.p11, hm.k11, hm.z11, hm.p28, hm.k28, hm.z28, cq, vq, ck, vk, h9, e38, true_or, true_and, forall_eq]
        refine br_c (fun c2 => ?_) (fun c2 => ?_)
        · rw [nI_ltI (hm0 k) (by omega)] at c2
          refine p94 _ _ _ _ _ _ fun v1 e1 => ?_
          rw [e1, nI_1]
          refine ih (k + 1) κ' (by omega) hf ?_
          rw [← z_mix_up (fun y => z_rw (fun x => z_in r x y ∧ z_hc step width x y)), show z_rw (fun x => z_in r x k ∧ z_hc step width x k) = z_mix (fun y => z_rw (fun x => z_in r x y ∧ z_hc step width x y)) r k k by
            rw [z_mix_hi (Nat.le_refl k)]
            exact (z_rw_of fun x hx => ⟨fun c3 => ⟨⟨by omega, c3⟩, fun _ => Or.inl c2⟩, fun c3 => c3.1.2⟩).symm, up_id]
          exact h38
        · rw [nI_ltI (hm0 k) (by omega)] at c2
          refine p94 _ _ _ _ _ _ fun v1 e1 => ?_
          rw [e1, nI_1, q_put_wL, zx_and]
          refine ih (k + 1) _ (by omega) (fun a ha => by rw [up_n ha]; exact hf a ha) ?_
          have := h38.up k (r k &&& w)
          rw [show r k &&& w = z_rw (fun x => z_in r x k ∧ z_hc step width x k) from z_rw_of fun x hx => by
            rw [b_ad, hwb]
            exact ⟨fun c3 => ⟨⟨by omega, c3.1⟩, fun _ => Or.inr c3.2.2⟩, fun c3 => ⟨c3.1.2, hx, (c3.2 c0).elim (fun c4 => absurd c4 c2) id⟩⟩] at this ⊢
          rwa [z_mix_up (fun y => z_rw (fun x => z_in r x y ∧ z_hc step width x y))] at this
    have L1 : ∀ (d k : Nat) (w : Int32), k + d = 32 → (∀ x, bt w x = true ↔ x < k ∧ x < 32 ∧ x % step < width) → P17 14 (nI q) (nI step) (zx w) (nI k) (q_put σ ι κ) := by
      intro d
      induction d with
      | zero =>
        intro k w hk hwb
        have hk : k = 32 := by omega
        subst hk
        refine p17 _ _ _ _ _ _ (br_t (nI_le (a := 32) (Nat.le_refl _) (by omega)) ?_)
        refine L2 w (fun x => ?_) 24 0 κ rfl (fun _ _ => rfl) (by rw [z_mix0]; exact hr)
        rw [hwb]; constructor
        · intro c; exact c.2
        · intro c; exact ⟨c.1, c⟩
      | succ d ih =>
        intro k w hk hwb
        refine p17 _ _ _ _ _ _ (br_f (nI_ge (b := 32) (by omega) (by omega)) ⟨c, ?_⟩)
        rw [i_rem (by omega) c0 h16]
        simp only [q_put_K, q_put_P, q_put_Z, q_put_I, hm.k, hm.p11, hm.k11, hm.z11, cq, vq, h9, true_or, true_and]
        have fin : ∀ u : Int32, (∀ x, bt u x = true ↔ x = k ∧ x % step < width) → P47 14 (nI q) (nI step) (nI k) (zx u) (zx w) (q_put σ ι κ) := fun u hu => by
          refine p47 _ _ _ _ _ _ _ fun v1 e1 v2 e2 => ?_
          rw [e1, e2, nI_1, zx_or]
          refine ih (k + 1) _ (by omega) fun x => ?_
          rw [b_ao, hwb, hu]
          constructor
          · rintro (c1 | c1)
            · exact ⟨by omega, c1.2⟩
            · exact ⟨by omega, by omega, c1.2⟩
          · rintro ⟨c1, c2, c3⟩
            rcases Nat.lt_or_ge x k with c | c
            · exact Or.inl ⟨c, c2, c3⟩
            · exact Or.inr ⟨by omega, c3⟩
        refine br_c (fun c2 => ?_) (fun c2 => ?_)
        · rw [nI_leI (by omega) (hm0 k)] at c2
          rw [← zx_0]
          refine fin 0 fun x => ?_
          rw [b_0]
          constructor
          · intro c; cases c
          · rintro ⟨rfl, c⟩; omega
        · rw [nI_leI (by omega) (hm0 k)] at c2
          rw [z_bit (by omega)]
          refine fin _ fun x => ?_
          rw [z_span, iL_t (by omega) (by omega)]
          constructor
          · intro c
            have : x = k := by omega
            subst this; exact ⟨rfl, by omega⟩
          · rintro ⟨rfl, c⟩; omega
    have := L1 32 0 0 rfl (fun x => by
      rw [b_0]
      constructor
      · intro c; cases c
      · intro c; omega)
    rwa [zx_0] at this
  · have c := Decidable.not_not.mp c
    have c0 : step = 0 := by
      rw [show (0 : Int32) = nI 0 from rfl, nI_eq (by omega) (by omega)] at c; exact c
    refine h κ (fun _ _ => rfl) ?_
    rwa [show z_rws (fun x y => z_in r x y ∧ z_hc step width x y) r = r by
      conv => rhs; rw [← z_rws_id r]
      exact z_rws_congr _ fun x y _ _ => ⟨fun c => c.1, fun c2 => ⟨c2, fun c3 => by omega⟩⟩]
