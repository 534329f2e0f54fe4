/-! LISTS GROW -/
/-- a list's array is another one, longer -/
def w_gr (σ τ : q_S) (a n : Nat) : Prop := q_K τ a = 8 ∧ q_I τ a = q_I σ a ∧ q_P τ a 0 = q_n σ ∧ q_n τ = q_n σ + 1 ∧ q_K τ (q_n σ) = 1002 ∧ (q_Z τ (q_n σ) = 10 ∨ q_Z τ (q_n σ) = 15 ∨ q_Z τ (q_n σ) = 22) ∧ n < q_Z τ (q_n σ) ∧ (∀ i, i < n → q_P τ (q_n σ) i = q_P σ (q_P σ a 0) i) ∧ ∀ b, b ≠ a → b ≠ q_n σ → w_sm σ τ b
theorem w_gr_of {σ : q_S} {a n z : Nat} {g : Nat → Nat} (ha : a ≠ q_n σ) (hK : q_K σ a = 8) (hz : z = 10 ∨ z = 15 ∨ z = 22) (hn : n < z) (hg : ∀ i, i < n → g i = q_P σ (q_P σ a 0) i) : w_gr σ (q_wP (q_sP (q_new σ 1002 z) (q_n σ) g) a 0 (q_n σ)) a n := by
  have hsm : ∀ b, b ≠ a → b ≠ q_n σ → w_sm σ (q_wP (q_sP (q_new σ 1002 z) (q_n σ) g) a 0 (q_n σ)) b := fun b b1 b2 => by
    have h1 := w_sm_new (σ := σ) (k := 1002) (z := z) b2
    refine ⟨h1.1, h1.2.1, h1.2.2.1, h1.2.2.2.1, ?_⟩
    unfold q_wP
    rw [q_P_sP, if_neg b1, q_P_sP, if_neg b2]
    exact h1.2.2.2.2
  refine ⟨?_, ?_, ?_, rfl, ?_, ?_, ?_, fun i hi => ?_, hsm⟩
  · show q_K (q_new σ 1002 z) a = 8
    rw [q_K_new, if_neg ha]; exact hK
  · show q_I (q_new σ 1002 z) a = _
    rw [q_I_new, if_neg ha]
  · unfold q_wP
    rw [q_P_sP, if_pos rfl, up_s]
  · show q_K (q_new σ 1002 z) (q_n σ) = 1002
    rw [q_K_new, if_pos rfl]
  · show q_Z (q_new σ 1002 z) (q_n σ) = 10 ∨ q_Z (q_new σ 1002 z) (q_n σ) = 15 ∨ q_Z (q_new σ 1002 z) (q_n σ) = 22
    rw [q_Z_new, if_pos rfl]; exact hz
  · show n < q_Z (q_new σ 1002 z) (q_n σ)
    rw [q_Z_new, if_pos rfl]; exact hn
  · unfold q_wP
    rw [q_P_sP, if_neg (Ne.symm ha), q_P_sP, if_pos rfl]
    exact hg i hi
theorem v_copyOf {σ : q_S} {t n z : Nat} {v : Int32} (hK : q_K σ t = 1002) (hZ : q_Z σ t = n) (ht : t ≠ q_n σ) (hn31 : n < 1000) (hv : v = nI z) (hnz : n ≤ z) (hz : z ≤ 32) (hnn : q_n σ < 10000000) (hel : ∀ i, i < n → q_el σ (q_P σ t i) ∧ q_P σ t i < q_n σ) {R : q_O → q_S → Prop} (h : R (.inl (some (.inr (.inr (q_n σ))))) (q_sP (q_new σ 1002 z) (q_n σ) (va_cpy (q_P σ t) (fun _ => 0) 0 0 n))) : V_AR_copyOf2 t v σ R := by
  refine ⟨hK, ?_⟩
  intro P24 p24
  subst hv
  have cz : (nI z).toNatClampNeg = z := nI_clamp (by omega)
  have d0 : (0 : Int32).toNatClampNeg = 0 := by decide
  refine ⟨Or.inl rfl, by decide, br_f (by decide) ⟨nI_pos (by omega), by rw [cz]; exact hz, hnn, fun v7 e7 σ8 e8 => ?_⟩⟩
  subst e7 e8
  have em : f_MT_min (nI (q_Z (q_new σ 1002 z) t)) (nI z) = nI n := by
    rw [q_Z_new, if_neg ht, hZ, iI_eq, z_mn, nI_toInt (by omega), nI_toInt (by omega)]; omega
  have cn : (nI n).toNatClampNeg = n := nI_clamp (by omega)
  rw [cz]
  refine p24 _ _ _ _ ?_
  rw [em]
  simp only [cn, d0]
  have k1 : q_K (q_new σ 1002 z) t = 1002 := by rw [q_K_new, if_neg ht]; exact hK
  have k2 : q_K (q_new σ 1002 z) (q_n σ) = 1002 := by rw [q_K_new, if_pos rfl]
  refine ⟨by rw [k1]; omega, k1, k2, by decide, by decide, nI_pos (by omega), by rw [q_Z_new, if_neg ht, hZ]; omega, by rw [q_Z_new, if_pos rfl]; omega, fun i hi => Or.inr ?_, fun σ10 e10 => ?_⟩
  · rw [q_P_new, if_neg ht, Nat.zero_add]
    obtain ⟨q1, q2⟩ := hel i hi
    unfold q_el at *
    rw [q_K_new, if_neg (by omega)]; exact q1
  · rw [e10, q_P_new, if_neg ht, q_P_new, if_pos rfl]
    exact h
theorem v_grow {σ : q_S} {a n : Nat} (ha : a ≤ 42) (hK : q_K σ a = 8) (hn : q_I σ a 1 = nI n) (hA : c_A σ a n) (hr5 : q_K σ 10000005 = 2001 ∧ q_Z σ 10000005 = 0) (hz : n = q_Z σ (q_P σ a 0)) (hn20 : n ≤ 20) (hnn : 42 < q_n σ) (hnn' : q_n σ < 10000000) (hel : ∀ i, i < n → q_el σ (q_P σ (q_P σ a 0) i) ∧ q_P σ (q_P σ a 0) i < q_n σ) {R : q_O → q_S → Prop} (h : ∀ τ, w_gr σ τ a n → R (.inl (some (.inr (.inr (q_n σ))))) τ) : V_AL_grow a σ R := by
  refine ⟨hK, hK, ?_⟩
  intro P20 p20
  have hkeep : ∀ z g, q_K (q_sP (q_new σ 1002 z) (q_n σ) g) a = 8 := fun z g => by
    show q_K (q_new σ 1002 z) a = 8
    rw [q_K_new, if_neg (by omega)]; exact hK
  rcases hA with ⟨hA1, hA2⟩ | ⟨hA1, hA2, hA3, hA4⟩
  · subst hA2
    refine ⟨hK, by rw [hA1, hr5.1]; omega, fun v1 e1 => ?_⟩
    rw [hA1, hr5.2] at e1
    subst e1
    refine br_f (by decide) ⟨hK, Or.inl hA1, by rw [hA1]; omega, br_t hA1 ?_⟩
    have em : f_MT_max 10 (q_I σ a 1 + 1) = nI 10 := by rw [hn]; decide
    have c10 : (nI 10).toNatClampNeg = 10 := by decide
    rw [em, c10]
    refine ⟨by decide, by omega, hnn', fun v12 e12 σ13 e13 => ?_⟩
    subst e12 e13
    refine ⟨by rw [q_K_new, if_neg (by omega)]; exact hK, fun σ14 e14 => ?_⟩
    subst e14
    have := h _ (w_gr_of (z := 10) (g := fun _ => 0) (n := 0) (σ := σ) (a := a) (by omega) hK (Or.inl rfl) (by omega) (fun i hi => by omega))
    have e9 : q_sP (q_new σ 1002 10) (q_n σ) (fun _ => 0) = q_new σ 1002 10 := by
      unfold q_sP q_new q_n
      simp only [z_rws_up]
    rw [e9] at this
    exact this
  · refine ⟨hK, by rw [hA3]; omega, fun v1 e1 => ?_⟩
    have fin : ∀ z : Nat, (z = 10 ∨ z = 15 ∨ z = 22) → n < z → 0 < n → f_MT_max (nI n + 1 - nI n) (nI n >>> ((1 : Int32) &&& 31)) + nI n = nI z → P20 a (q_I σ a 1 + 1) (nI n) σ := fun z hz1 hz2 hn0 hz3 => by
      refine p20 _ _ _ _ ?_
      rw [hn]
      intro P21 p21 w1 f1
      have ew : w1 = nI z := by rw [f1, Int32.add_comm]; exact hz3
      subst ew
      refine br_f (nI_ge (a := 0) (b := z) (by omega) (by omega)) (br_f ?_ ⟨hK, ?_⟩)
      · rw [iI_lt, nI_toInt (by omega)]
        show ¬ (2147483639 : Int) < z
        omega
      · refine v_copyOf hA3 hz.symm (by omega) (by omega) rfl (by omega) (by omega) hnn' hel ⟨hkeep _ _, fun σ10 e10 => ?_⟩
        subst e10
        exact h _ (w_gr_of (by omega) hK hz1 hz2 (fun i hi => by rw [pk_cpy_in (by omega) (by omega)]; congr 1; omega))
    rw [← hz] at e1
    rw [e1]
    rcases hA4 with h4 | h4 | h4
    · have : n = 10 := by omega
      subst this
      exact br_t (by decide) (fin 15 (Or.inr (Or.inl rfl)) (by omega) (by omega) (by decide +kernel))
    · have : n = 15 := by omega
      subst this
      exact br_t (by decide) (fin 22 (Or.inr (Or.inr rfl)) (by omega) (by omega) (by decide +kernel))
    · omega
/-- a list with one element more -/
def w_ad (σ τ : q_S) (a n : Nat) (f : Nat → Nat) : Prop := q_K τ a = 8 ∧ q_I τ a 1 = nI (n + 1) ∧ ((q_P τ a 0 = q_P σ a 0 ∧ q_n τ = q_n σ ∧ ¬ q_P σ a 0 = 10000005) ∨ (q_P τ a 0 = q_n σ ∧ q_n τ = q_n σ + 1)) ∧ q_K τ (q_P τ a 0) = 1002 ∧ (q_Z τ (q_P τ a 0) = 10 ∨ q_Z τ (q_P τ a 0) = 15 ∨ q_Z τ (q_P τ a 0) = 22) ∧ n < q_Z τ (q_P τ a 0) ∧ (∀ i, i < n + 1 → q_P τ (q_P τ a 0) i = f i) ∧ ∀ b, b ≠ a → b ≠ q_P τ a 0 → w_sm σ τ b
theorem w_ad_of {σ ρ : q_S} {a n t : Nat} {f : Nat → Nat} {g : Nat → Nat} (ha : a ≠ t) (hK : q_K ρ a = 8) (hp : q_P ρ a 0 = t) (hn : (t = q_P σ a 0 ∧ q_n ρ = q_n σ ∧ ¬ q_P σ a 0 = 10000005) ∨ (t = q_n σ ∧ q_n ρ = q_n σ + 1)) (hk : q_K ρ t = 1002) (hz : q_Z ρ t = 10 ∨ q_Z ρ t = 15 ∨ q_Z ρ t = 22) (hnz : n < q_Z ρ t) (hg : ∀ i, i < n + 1 → g i = f i) (hsm : ∀ b, b ≠ a → b ≠ t → w_sm σ ρ b) : w_ad σ (q_wI (q_sP ρ t g) a 1 (nI n + 1)) a n f := by
  have eP : ∀ b, q_P (q_wI (q_sP ρ t g) a 1 (nI n + 1)) b = if b = t then g else q_P ρ b := fun b => by
    show q_P (q_sP ρ t g) b = _
    rw [q_P_sP]
  have ep : q_P (q_wI (q_sP ρ t g) a 1 (nI n + 1)) a 0 = t := by rw [eP, if_neg ha, hp]
  refine ⟨hK, ?_, ?_, ?_, ?_, ?_, fun i hi => ?_, fun b b1 b2 => ?_⟩
  · unfold q_wI
    rw [q_I_sI, if_pos rfl, up_s, nI_1]
  · rw [ep]; exact hn
  · rw [ep]; exact hk
  · rw [ep]; exact hz
  · rw [ep]; exact hnz
  · rw [ep, eP, if_pos rfl]; exact hg i hi
  · rw [ep] at b2
    have h1 := hsm b b1 b2
    refine ⟨h1.1, h1.2.1, ?_, h1.2.2.2.1, ?_⟩
    · unfold q_wI
      rw [q_I_sI, if_neg b1]; exact h1.2.2.1
    · rw [eP, if_neg b2]; exact h1.2.2.2.2
theorem w_mod {σ : q_S} {a : Nat} {v : Int32} : (∀ b, b ≠ a → w_sm σ (q_wI σ a 2 v) b) ∧ q_I (q_wI σ a 2 v) a 1 = q_I σ a 1 := by
  refine ⟨fun b hb => ⟨rfl, rfl, ?_, rfl, rfl⟩, ?_⟩
  · unfold q_wI
    rw [q_I_sI, if_neg hb]
  · unfold q_wI
    rw [q_I_sI, if_pos rfl, up_n (by omega)]
theorem v_add2 {σ : q_S} {a n x : Nat} {f : Nat → Nat} (ha : a ≤ 42) (hL : c_L σ a n f) (hn : q_I σ a 1 = nI n) (hA : c_A σ a n) (hr5 : q_K σ 10000005 = 2001 ∧ q_Z σ 10000005 = 0) (hn20 : n < 20) (hnn : 42 < q_n σ) (hnn' : q_n σ < 10000000) (hel : ∀ i, i < n → q_el σ (f i) ∧ f i < q_n σ) (hx : q_el σ x ∧ x < q_n σ) {R : q_O → q_S → Prop} (h : ∀ τ, w_ad σ τ a n (va_up f n x) → R (.inl (some (.inl 1))) τ) : V_AL_add2 a x σ R := by
  obtain ⟨hK, hK2, hZ, hf⟩ := hL
  refine ⟨hK, hK, fun σ1 e1 => ⟨?_, ?_, ?_, ?_⟩⟩
  · rw [e1]; exact hK
  · rw [e1]; exact hK
  · rw [e1]; exact hK
  obtain ⟨m1, m2⟩ := w_mod (σ := σ) (a := a) (v := q_I σ a 2 + 1)
  rw [← e1] at m1 m2
  have eP : q_P σ1 a = q_P σ a := by rw [e1]; rfl
  have eK : ∀ b, q_K σ1 b = q_K σ b := fun b => by rw [e1]; rfl
  have eZ : ∀ b, q_Z σ1 b = q_Z σ b := fun b => by rw [e1]; rfl
  have ePP : ∀ b, q_P σ1 b = q_P σ b := fun b => by rw [e1]; rfl
  have en : q_n σ1 = q_n σ := by rw [e1]; rfl
  rw [eP, m2, hn]
  intro P11 p11
  have hta : a ≠ q_P σ a 0 := by
    rcases hA with ⟨h1, -⟩ | ⟨h1, -⟩ <;> omega
  have cn : (nI n).toNatClampNeg = n := nI_clamp (by omega)
  have fin : ∀ ρ t, q_K ρ a = 8 → q_P ρ a 0 = t → a ≠ t → ((t = q_P σ a 0 ∧ q_n ρ = q_n σ ∧ ¬ q_P σ a 0 = 10000005) ∨ (t = q_n σ ∧ q_n ρ = q_n σ + 1)) → q_K ρ t = 1002 → (q_Z ρ t = 10 ∨ q_Z ρ t = 15 ∨ q_Z ρ t = 22) → n < q_Z ρ t → (∀ i, i < n → q_P ρ t i = f i) → (∀ b, b ≠ a → b ≠ t → w_sm σ ρ b) → q_el ρ x → P11 a x t (nI n) ρ := fun ρ t r1 r2 r3 r4 r5 r6 r7 r8 r9 r10 => by
    refine p11 _ _ _ _ _ ⟨r5, vp_in_nI r7 (by omega), r10, fun σ4 e4 => ⟨by rw [e4]; exact r1, fun σ5 e5 => ?_⟩⟩
    rw [e5, e4, cn]
    exact h _ (w_ad_of r3 r1 r2 r4 r5 r6 r7 (fun i hi => by
      by_cases c : i = n
      · rw [c, up_s, up_s]
      · rw [up_n c, up_n c]; exact r8 i (by omega)) r9)
  rcases hA with ⟨h1, h2⟩ | ⟨h1, h2, h3, h4⟩
  · subst h2
    refine ⟨by rw [eK, h1, hr5.1]; omega, br_f (by rw [eZ, h1, hr5.2]; exact fun q => q rfl) ⟨by rw [eK]; exact hK, ?_⟩⟩
    refine v_grow (n := 0) ha (by rw [eK]; exact hK) (by rw [m2]; exact hn) (Or.inl ⟨by rw [eP]; exact h1, rfl⟩) ⟨by rw [eK]; exact hr5.1, by rw [eZ]; exact hr5.2⟩ (by rw [eP, eZ, h1, hr5.2]) (by omega) (by rw [en]; exact hnn) (by rw [en]; exact hnn') (fun i hi => by omega) (fun τ hg => ?_)
    obtain ⟨g1, g2, g3, g4, g5, g6, g7, g8, g9⟩ := hg
    rw [en] at g3 g4 g5 g6 g7 g8 g9 ⊢
    refine fin τ (q_n σ) g1 g3 (by omega) (Or.inr ⟨rfl, g4⟩) g5 g6 g7 (fun i hi => by omega) (fun b b1 b2 => (m1 b b1).tr (g9 b b1 b2)) ?_
    have hxa : x ≠ a := fun q => by
      have := hx.1
      unfold q_el at this
      rw [q, hK] at this
      omega
    unfold q_el
    rw [(g9 x hxa (by have := hx.2; omega)).1, eK]; exact hx.1
  · by_cases c : n = q_Z σ (q_P σ a 0)
    · refine ⟨by rw [eK, h3]; omega, br_f (by rw [eZ, ← c]; exact fun q => q rfl) ⟨by rw [eK]; exact hK, ?_⟩⟩
      refine v_grow (n := n) ha (by rw [eK]; exact hK) (by rw [m2]; exact hn) (Or.inr ⟨by rw [eP]; exact h1, by rw [eP, en]; exact h2, by rw [eP, eK]; exact h3, by rw [eP, eZ]; exact h4⟩) ⟨by rw [eK]; exact hr5.1, by rw [eZ]; exact hr5.2⟩ (by rw [eP, eZ]; exact c) (by omega) (by rw [en]; exact hnn) (by rw [en]; exact hnn') (fun i hi => ?_) (fun τ hg => ?_)
      · rw [eP, ePP, hf i hi, en]
        unfold q_el
        rw [eK]; exact hel i hi
      obtain ⟨g1, g2, g3, g4, g5, g6, g7, g8, g9⟩ := hg
      rw [en] at g3 g4 g5 g6 g7 g8 g9 ⊢
      refine fin τ (q_n σ) g1 g3 (by omega) (Or.inr ⟨rfl, g4⟩) g5 g6 g7 (fun i hi => ?_) (fun b b1 b2 => (m1 b b1).tr (g9 b b1 b2)) ?_
      · rw [g8 i hi, eP, ePP]; exact hf i hi
      have hxa : x ≠ a := fun q => by
        have := hx.1
        unfold q_el at this
        rw [q, hK] at this
        omega
      unfold q_el
      rw [(g9 x hxa (by have := hx.2; omega)).1, eK]; exact hx.1
    · refine ⟨by rw [eK, h3]; omega, br_t (by rw [eZ]; exact fun q => c ((nI_eq (by omega) (by omega)).mp q)) ?_⟩
      refine fin σ1 (q_P σ a 0) (by rw [eK]; exact hK) (by rw [eP]) hta (Or.inl ⟨rfl, en, by omega⟩) (by rw [eK]; exact h3) (by rw [eZ]; exact h4) (by rw [eZ]; omega) (fun i hi => by rw [ePP]; exact hf i hi) (fun b b1 _ => m1 b b1) ?_
      unfold q_el
      rw [eK]; exact hx.1
