/-! THE START: a new object of each side -/
def m_k : Nat → Nat := fun j => [1000, 1000, 1000, 1000, 1000, 1001, 1001, 1000, 1000, 1000, 1000, 1001, 1000, 1000, 1000, 1000, 1001, 1001, 1000, 1003, 1000, 1003, 1003, 1001, 1001, 1001, 1001].getD j 0
def m_z : Nat → Nat := fun j => [8, 8, 8, 8, 32, 384, 384, 8, 8, 20, 20, 60, 10, 10, 40, 4, 192, 192, 8, 8, 8, 8, 8, 24, 24, 24, 24].getD j 0
def m_f : Nat → Nat := fun j => [3, 4, 5, 6, 7, 8, 9, 10, 11, 13, 14, 15, 17, 18, 19, 20, 21, 22, 23, 24, 25, 26, 27, 28, 29, 30, 31].getD j 0
theorem m_f_ne : ∀ j, j < 27 → ∀ i, i < j → m_f i ≠ m_f j := by decide +kernel
def s_In (σ τ : q_S) (j : Nat) : Prop := q_n τ = 15 + j ∧ q_K τ 14 = 7 ∧ q_I τ 14 = q_I σ 14 ∧ (∀ a, (a < 14 ∨ 15 + j ≤ a) → w_sm σ τ a) ∧ ∀ i, i < j → q_K τ (15 + i) = m_k i ∧ q_Z τ (15 + i) = m_z i ∧ (∀ k, q_I τ (15 + i) k = 0) ∧ (∀ k, q_L τ (15 + i) k = 0) ∧ q_P τ 14 (m_f i) = 15 + i
theorem s_In.step {σ τ : q_S} {j : Nat} (h : s_In σ τ j) (hj : j < 27) : s_In σ (q_wP (q_new τ (m_k j) (m_z j)) 14 (m_f j) (15 + j)) (j + 1) := by
  obtain ⟨h1, h2, h3, h4, h5⟩ := h
  have eP : ∀ a, a ≠ 14 → q_P (q_wP (q_new τ (m_k j) (m_z j)) 14 (m_f j) (15 + j)) a = q_P (q_new τ (m_k j) (m_z j)) a := fun a ha => by
    unfold q_wP
    rw [q_P_sP, if_neg ha]
  have eP14 : q_P (q_wP (q_new τ (m_k j) (m_z j)) 14 (m_f j) (15 + j)) 14 = va_up (q_P τ 14) (m_f j) (15 + j) := by
    unfold q_wP
    rw [q_P_sP, if_pos rfl, q_P_new, if_neg (by omega)]
  refine ⟨?_, ?_, ?_, fun a ha => ?_, fun i hi => ?_⟩
  · show q_n τ + 1 = _
    omega
  · show q_K (q_new τ (m_k j) (m_z j)) 14 = 7
    rw [q_K_new, if_neg (by omega)]; exact h2
  · show q_I (q_new τ (m_k j) (m_z j)) 14 = _
    rw [q_I_new, if_neg (by omega)]; exact h3
  · refine (h4 a (by omega)).tr ⟨?_, ?_, ?_, ?_, ?_⟩
    · show q_K (q_new τ (m_k j) (m_z j)) a = _
      rw [q_K_new, if_neg (by omega)]
    · show q_Z (q_new τ (m_k j) (m_z j)) a = _
      rw [q_Z_new, if_neg (by omega)]
    · show q_I (q_new τ (m_k j) (m_z j)) a = _
      rw [q_I_new, if_neg (by omega)]
    · show q_L (q_new τ (m_k j) (m_z j)) a = _
      rw [q_L_new, if_neg (by omega)]
    · rw [eP a (by omega), q_P_new, if_neg (by omega)]
  · rw [eP14]
    show q_K (q_new τ (m_k j) (m_z j)) (15 + i) = m_k i ∧ q_Z (q_new τ (m_k j) (m_z j)) (15 + i) = m_z i ∧ (∀ k, q_I (q_new τ (m_k j) (m_z j)) (15 + i) k = 0) ∧ (∀ k, q_L (q_new τ (m_k j) (m_z j)) (15 + i) k = 0) ∧ _
    rw [q_K_new, q_Z_new, q_I_new, q_L_new]
    by_cases c : i = j
    · subst c
      rw [if_pos (by omega), if_pos (by omega), if_pos (by omega), if_pos (by omega), up_s]
      exact ⟨rfl, rfl, fun _ => rfl, fun _ => rfl, rfl⟩
    · rw [if_neg (by omega), if_neg (by omega), if_neg (by omega), if_neg (by omega), up_n (m_f_ne j hj i (by omega))]
      exact h5 i (by omega)
theorem s_st {σ τ : q_S} (j : Nat) {k z f : Nat} {G : q_S → Prop} (h : s_In σ τ j) (hj : j < 27) (ek : m_k j = k) (ez : m_z j = z) (ef : m_f j = f) (hG : ∀ τ', s_In σ τ' (j + 1) → G τ') : q_n τ < 10000000 ∧ ∀ v : Nat, v = q_n τ → ∀ σ4 : q_S, σ4 = q_new τ k z → q_K σ4 14 = 7 ∧ ∀ σ5 : q_S, σ5 = q_wP σ4 14 f v → G σ5 := by
  have h' := h.step hj
  rw [ek, ez, ef] at h'
  obtain ⟨h1, h2, -⟩ := h
  refine ⟨by omega, fun v ev σ4 e4 => ⟨?_, fun σ5 e5 => ?_⟩⟩
  · rw [e4, q_K_new, if_neg (by omega)]; exact h2
  · rw [e5, e4, ev, h1]
    exact hG _ h'
theorem s_PM {σ : q_S} {x : Int32} {R : q_O → q_S → Prop} (hn : q_n σ = 15) (hk : q_K σ 14 = 7) (h : ∀ (τ0 : q_S) (y : Int32) (ι : Nat → Nat → Int32), s_In σ τ0 27 → ((1 ≤ x ∧ x ≤ 4 ∧ y = x) ∨ (1 ≤ x ∧ ¬ x ≤ 4 ∧ y = 4) ∨ (¬ 1 ≤ x ∧ y = 1)) → ι 14 = va_up (q_I σ 14) 1 y → (ι 30 0 = 1 ∧ ι 30 1 = 1 ∧ ι 30 2 = 1 ∧ ι 30 3 = 0) → (∀ a, a ≠ 14 → a ≠ 30 → ι a = q_I τ0 a) → R (.inl none) (q_put τ0 ι (q_L τ0))) : V_PM_init 14 x σ R := by
  intro P243 p243
  have main : ∀ (τ0 : q_S) (y : Int32), s_In σ τ0 27 → ((1 ≤ x ∧ x ≤ 4 ∧ y = x) ∨ (1 ≤ x ∧ ¬ x ≤ 4 ∧ y = 4) ∨ (¬ 1 ≤ x ∧ y = 1)) → P243 14 y 14 τ0 := fun τ0 y h0 hy => by
    have k14 := h0.2.1
    obtain ⟨k30, z30, i30, -, p20⟩ := h0.2.2.2.2 15 (by omega)
    have k30 : q_K τ0 30 = 1000 := k30
    have z30 : q_Z τ0 30 = 4 := z30
    have p20 : q_P τ0 14 20 = 30 := p20
    have v0 : vp_in 0 4 := vp_in_nI (n := 0) (by omega) (by omega)
    have v1 : vp_in 1 4 := vp_in_nI (n := 1) (by omega) (by omega)
    have v2 : vp_in 2 4 := vp_in_nI (n := 2) (by omega) (by omega)
    have c0 : (0 : Int32).toNatClampNeg = 0 := by decide
    have c1 : (1 : Int32).toNatClampNeg = 1 := by decide
    have c2 : (2 : Int32).toNatClampNeg = 2 := by decide
    rw [← q_put_self τ0]
    refine p243 _ _ _ _ ?_
    simp only [q_put_K, q_put_P, q_put_Z, q_put_wI, k14, p20, k30, z30, v0, v1, v2, c0, c1, c2, true_and, forall_eq]
    refine h τ0 y _ h0 hy ?_ ?_ (fun a a1 a2 => ?_)
    · rw [up_n (by omega), up_n (by omega), up_n (by omega), up_s, h0.2.2.1]
    · rw [up_s, up_s, up_s, up_n (show (30 : Nat) ≠ 14 by omega)]
      refine ⟨?_, ?_, ?_, ?_⟩
      · rw [up_n (by omega), up_n (by omega), up_s]
      · rw [up_n (by omega), up_s]
      · rw [up_s]
      · rw [up_n (by omega), up_n (by omega), up_n (by omega)]; exact i30 3
    · rw [up_n a2, up_n a2, up_n a2, up_n a1]
  have h0 : s_In σ σ 0 := ⟨hn, hk, rfl, fun a _ => w_sm.rf σ a, fun i hi => by omega⟩
  refine ⟨by omega, ?_⟩
  refine s_st 0 h0 (by omega) rfl rfl rfl (fun τ1 h1 => ?_)
  refine s_st 1 h1 (by omega) rfl rfl rfl (fun τ2 h2 => ?_)
  refine s_st 2 h2 (by omega) rfl rfl rfl (fun τ3 h3 => ?_)
  refine s_st 3 h3 (by omega) rfl rfl rfl (fun τ4 h4 => ?_)
  refine s_st 4 h4 (by omega) rfl rfl rfl (fun τ5 h5 => ?_)
  refine s_st 5 h5 (by omega) rfl rfl rfl (fun τ6 h6 => ?_)
  refine s_st 6 h6 (by omega) rfl rfl rfl (fun τ7 h7 => ?_)
  refine s_st 7 h7 (by omega) rfl rfl rfl (fun τ8 h8 => ?_)
  refine s_st 8 h8 (by omega) rfl rfl rfl (fun τ9 h9 => ?_)
  refine s_st 9 h9 (by omega) rfl rfl rfl (fun τ10 h10 => ?_)
  refine s_st 10 h10 (by omega) rfl rfl rfl (fun τ11 h11 => ?_)
  refine s_st 11 h11 (by omega) rfl rfl rfl (fun τ12 h12 => ?_)
  refine s_st 12 h12 (by omega) rfl rfl rfl (fun τ13 h13 => ?_)
  refine s_st 13 h13 (by omega) rfl rfl rfl (fun τ14 h14 => ?_)
  refine s_st 14 h14 (by omega) rfl rfl rfl (fun τ15 h15 => ?_)
  refine s_st 15 h15 (by omega) rfl rfl rfl (fun τ16 h16 => ?_)
  refine s_st 16 h16 (by omega) rfl rfl rfl (fun τ17 h17 => ?_)
  refine s_st 17 h17 (by omega) rfl rfl rfl (fun τ18 h18 => ?_)
  refine s_st 18 h18 (by omega) rfl rfl rfl (fun τ19 h19 => ?_)
  refine s_st 19 h19 (by omega) rfl rfl rfl (fun τ20 h20 => ?_)
  refine s_st 20 h20 (by omega) rfl rfl rfl (fun τ21 h21 => ?_)
  refine s_st 21 h21 (by omega) rfl rfl rfl (fun τ22 h22 => ?_)
  refine s_st 22 h22 (by omega) rfl rfl rfl (fun τ23 h23 => ?_)
  refine s_st 23 h23 (by omega) rfl rfl rfl (fun τ24 h24 => ?_)
  refine s_st 24 h24 (by omega) rfl rfl rfl (fun τ25 h25 => ?_)
  refine s_st 25 h25 (by omega) rfl rfl rfl (fun τ26 h26 => ?_)
  refine s_st 26 h26 (by omega) rfl rfl rfl (fun τ27 h27 => ?_)
  exact br_c (fun c => br_c (fun c2 => main _ _ h27 (Or.inl ⟨c, c2, rfl⟩)) (fun c2 => main _ _ h27 (Or.inr (Or.inl ⟨c, c2, rfl⟩)))) (fun c => main _ _ h27 (Or.inr (Or.inr ⟨c, rfl⟩)))
/-! the class's new object -/
def s_C (x : Int32) (L : Nat) (xs : Nat → Int32) (τ : q_S) : Prop := c_S τ ∧ (∀ a, 2 ≤ a → a ≤ 5 → q_K τ a = 8 ∧ q_P τ a 0 = 10000005 ∧ q_I τ a 1 = 0) ∧ (q_I τ 1 0 = x ∧ q_I τ 6 0 = 1 ∧ q_I τ 6 1 = 1 ∧ q_I τ 6 2 = 1 ∧ q_I τ 6 3 = 0) ∧ (q_I τ 7 0 = 0 ∧ q_I τ 10 0 = 1) ∧ w_R L xs τ
theorem s_C.fr {x : Int32} {L : Nat} {xs : Nat → Int32} {σ τ : q_S} (h : s_C x L xs σ) (hs : ∀ a, (a ≤ 13 ∨ 10000000 ≤ a) → w_sm σ τ a) : s_C x L xs τ := by
  obtain ⟨h1, h2, h3, h4, h5⟩ := h
  refine ⟨?_, fun a a1 a2 => ?_, ?_, ?_, h5.fr fun a ha => ?_⟩
  · have s1 := hs 1 (by omega)
    have s6 := hs 6 (by omega)
    have s7 := hs 7 (by omega)
    have s8 := hs 8 (by omega)
    have s9 := hs 9 (by omega)
    have s10 := hs 10 (by omega)
    have s11 := hs 11 (by omega)
    have s12 := hs 12 (by omega)
    have s13 := hs 13 (by omega)
    unfold c_S q_gr
    rw [s1.1, s1.2.2.2.2, s6.1, s6.2.1, s7.1, s7.2.2.2.2, s8.1, s8.2.1, s9.1, s9.2.1, s10.1, s10.2.2.2.2, s11.1, s11.2.1, s12.1, s12.2.1, s13.1, s13.2.1]
    exact h1
  · have s := hs a (by omega)
    rw [s.1, s.2.2.1, s.2.2.2.2]; exact h2 a a1 a2
  · rw [(hs 1 (by omega)).2.2.1, (hs 6 (by omega)).2.2.1]; exact h3
  · rw [(hs 7 (by omega)).2.2.1, (hs 10 (by omega)).2.2.1]; exact h4
  · have s := hs a (by omega)
    exact ⟨s.1, s.2.1, s.2.2.1⟩
theorem s_AL {σ : q_S} {a : Nat} {R : q_O → q_S → Prop} (ha : 0 < a) (hk : q_K σ a = 8) (h : R (.inl none) (q_wP (q_wI σ a 2 0) a 0 10000005)) : V_AL_init a σ R := by
  refine ⟨ha, ha, ha, hk, fun σ6 e6 => ⟨?_, fun σ7 e7 => ?_⟩⟩
  · rw [e6]; exact hk
  · rw [e7, e6]; exact h
theorem s_PG {σ : q_S} {g n : Nat} {x : Int32} {R : q_O → q_S → Prop} (hg : 0 < g) (hn : q_n σ = n) (hlt : n < 1000) (hgn : g < n) (hk : q_K σ g = 4) (hx : x = 0 ∨ x = 1) (h : R (.inl none) (q_wI (q_wP (q_new (q_wP (q_new σ 1000 24) g 1 n) 1000 24) g 2 (n + 1)) g 0 x)) : V_PG_init g x σ R := by
  refine ⟨hg, by omega, fun v3 e3 σ4 e4 => ⟨?_, fun σ5 e5 => ?_⟩⟩
  · rw [e4, q_K_new, if_neg (by omega)]; exact hk
  have n5 : q_n σ5 = n + 1 := by
    rw [e5, e4]
    show q_n σ + 1 = n + 1
    omega
  have k5 : q_K σ5 g = 4 := by
    rw [e5, e4]
    show q_K (q_new σ 1000 24) g = 4
    rw [q_K_new, if_neg (by omega)]; exact hk
  refine ⟨by omega, fun v8 e8 σ9 e9 => ⟨?_, fun σ10 e10 => ⟨hx, ?_, fun σ12 e12 => ?_⟩⟩⟩
  · rw [e9, q_K_new, if_neg (by omega)]; exact k5
  · rw [e10, e9]
    show q_K (q_new σ5 1000 24) g = 4
    rw [q_K_new, if_neg (by omega)]; exact k5
  · rw [e12, e10, e9, e8, n5, e5, e4, e3, hn]; exact h
theorem s_PF {L : Nat} {xs : Nat → Int32} {x : Int32} {R : q_O → q_S → Prop} (h : ∀ τ, q_n τ = 14 → s_C (f_MT_max 1 (f_MT_min 4 x)) L xs τ → R (.inl none) τ) : V_PF_init 1 x (q_new (q_s0 L xs) 1 0) R := by
  have c0 : (0 : Int32).toNatClampNeg = 0 := by decide
  have c1 : (1 : Int32).toNatClampNeg = 1 := by decide
  have c2 : (2 : Int32).toNatClampNeg = 2 := by decide
  have c3 : (3 : Int32).toNatClampNeg = 3 := by decide
  have u0 : vp_in 0 4 := vp_in_nI (n := 0) (by omega) (by omega)
  have u1 : vp_in 1 4 := vp_in_nI (n := 1) (by omega) (by omega)
  have u2 : vp_in 2 4 := vp_in_nI (n := 2) (by omega) (by omega)
  have u3 : vp_in 3 4 := vp_in_nI (n := 3) (by omega) (by omega)
  have lt : ∀ n, n < 1000 → n < 10000000 := fun n hn => by omega
  refine ⟨by omega, lt 2 (by omega), fun v3 e3 σ4 e4 => ?_⟩
  obtain rfl : v3 = 2 := e3
  subst e4
  refine ⟨by omega, s_AL (by omega) rfl ⟨rfl, fun σ10 e10 => ⟨by rw [e10]; exact lt 3 (by omega), fun v13 e13 σ14 e14 => ?_⟩⟩⟩
  subst e10
  obtain rfl : v13 = 3 := e13
  subst e14
  refine ⟨by omega, s_AL (by omega) rfl ⟨rfl, fun σ20 e20 => ⟨by rw [e20]; exact lt 4 (by omega), fun v23 e23 σ24 e24 => ?_⟩⟩⟩
  subst e20
  obtain rfl : v23 = 4 := e23
  subst e24
  refine ⟨by omega, s_AL (by omega) rfl ⟨rfl, fun σ30 e30 => ⟨by rw [e30]; exact lt 5 (by omega), fun v33 e33 σ34 e34 => ?_⟩⟩⟩
  subst e30
  obtain rfl : v33 = 5 := e33
  subst e34
  refine ⟨by omega, s_AL (by omega) rfl ⟨rfl, fun σ40 e40 => ⟨by rw [e40]; exact lt 6 (by omega), fun v43 e43 σ44 e44 => ?_⟩⟩⟩
  subst e40
  obtain rfl : v43 = 6 := e43
  subst e44
  refine ⟨rfl, u0, fun σ45 e45 => ?_⟩
  subst e45
  refine ⟨rfl, u1, fun σ48 e48 => ?_⟩
  subst e48
  refine ⟨rfl, u2, fun σ51 e51 => ?_⟩
  subst e51
  refine ⟨rfl, u3, fun σ54 e54 => ?_⟩
  subst e54
  rw [c0, c1, c2, c3]
  refine ⟨rfl, fun σ57 e57 => ⟨by rw [e57]; exact lt 7 (by omega), fun v60 e60 σ61 e61 => ?_⟩⟩
  subst e57
  obtain rfl : v60 = 7 := e60
  subst e61
  refine ⟨by omega, s_PG (n := 8) (by omega) rfl (by omega) (by omega) rfl (Or.inl rfl) ⟨rfl, fun σ67 e67 => ⟨by rw [e67]; exact lt 10 (by omega), fun v70 e70 σ71 e71 => ?_⟩⟩⟩
  subst e67
  obtain rfl : v70 = 10 := e70
  subst e71
  refine ⟨by omega, s_PG (n := 11) (by omega) rfl (by omega) (by omega) rfl (Or.inr rfl) ⟨rfl, fun σ77 e77 => ⟨by rw [e77]; exact lt 13 (by omega), fun v80 e80 σ81 e81 => ?_⟩⟩⟩
  subst e77
  obtain rfl : v80 = 13 := e80
  subst e81
  refine ⟨rfl, fun σ82 e82 => ?_⟩
  subst e82
  refine ⟨rfl, fun σ84 e84 => ?_⟩
  subst e84
  refine h _ rfl ⟨?_, fun a a1 a2 => ?_, ⟨rfl, rfl, rfl, rfl, rfl⟩, ⟨rfl, rfl⟩, ?_⟩
  · refine ⟨rfl, rfl, rfl, rfl, rfl, rfl, rfl, rfl, rfl, rfl, rfl, ⟨rfl, rfl, rfl, rfl, rfl, rfl, rfl, by omega⟩, ⟨rfl, rfl, rfl, rfl, rfl, rfl, rfl, by omega⟩, rfl, rfl⟩
  · have : a = 2 ∨ a = 3 ∨ a = 4 ∨ a = 5 := by omega
    rcases this with e | e | e | e <;> subst e <;> exact ⟨rfl, rfl, rfl⟩
  · exact ⟨⟨rfl, rfl, rfl⟩, ⟨rfl, rfl, rfl⟩, ⟨rfl, rfl, rfl⟩, ⟨rfl, rfl, rfl⟩, ⟨rfl, rfl, rfl⟩, rfl, rfl⟩
