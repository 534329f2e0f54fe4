/-! A NEW PLANE'S CELLS -/
def w_np (σ ρ : q_S) (n l r : Int32) : Prop := q_n ρ = q_n σ + 8 ∧ c_pl ρ (q_n σ) ∧ q_P ρ (q_n σ) 10 = q_n σ + 4 ∧ (q_I ρ (q_n σ) 0 = n ∧ q_I ρ (q_n σ) 1 = l ∧ q_I ρ (q_n σ) 2 = r ∧ ∀ j, 3 ≤ j → q_I ρ (q_n σ) j = 0) ∧ (∀ k, 1 ≤ k → k < 8 → ∀ j, q_I ρ (q_n σ + k) j = 0) ∧ ∀ b, (b < q_n σ ∨ q_n σ + 8 ≤ b) → w_sm σ ρ b
theorem v_PLinit {σ : q_S} {n l r : Int32} (h42 : 42 < q_n σ) (hn : q_n σ + 8 < 10000000) {R : q_O → q_S → Prop} (h : ∀ ρ, w_np σ ρ n l r → R (.inl none) ρ) : V_PL_init (q_n σ) n l r (q_new σ 6 0) R := by
  generalize hν : q_n σ = ν at *
  have n1 : q_n (q_new σ 6 0) = ν + 1 := by rw [q_n_new, hν]
  have k1 : q_K (q_new σ 6 0) ν = 6 := by rw [q_K_new, if_pos hν.symm]
  have sm1 : ∀ b, b ≠ ν → w_sm σ (q_new σ 6 0) b := fun b hb => w_sm_new (by omega)
  generalize hs1 : q_new σ 6 0 = s1 at *
  refine ⟨by omega, by omega, fun v3 e3 σ4 e4 => ?_⟩
  rw [n1] at e3
  subst e3
  have k4 : q_K σ4 ν = 6 := by rw [e4, q_K_new, if_neg (by omega)]; exact k1
  refine ⟨k4, fun σ5 e5 => ?_⟩
  have n5 : q_n σ5 = ν + 2 := by rw [e5, qn_wP, e4, q_n_new, n1]
  have k5 : q_K σ5 ν = 6 := by rw [e5, qK_wP]; exact k4
  refine ⟨by omega, fun v8 e8 σ9 e9 => ?_⟩
  rw [n5] at e8
  subst e8
  have k9 : q_K σ9 ν = 6 := by rw [e9, q_K_new, if_neg (by omega)]; exact k5
  refine ⟨k9, fun σ10 e10 => ?_⟩
  have n10 : q_n σ10 = ν + 3 := by rw [e10, qn_wP, e9, q_n_new, n5]
  have k10 : q_K σ10 ν = 6 := by rw [e10, qK_wP]; exact k9
  refine ⟨by omega, fun v13 e13 σ14 e14 => ?_⟩
  rw [n10] at e13
  subst e13
  have k14 : q_K σ14 ν = 6 := by rw [e14, q_K_new, if_neg (by omega)]; exact k10
  refine ⟨k14, fun σ15 e15 => ?_⟩
  have n15 : q_n σ15 = ν + 4 := by rw [e15, qn_wP, e14, q_n_new, n10]
  have k15 : q_K σ15 ν = 6 := by rw [e15, qK_wP]; exact k14
  refine ⟨by omega, fun v18 e18 σ19 e19 => ?_⟩
  rw [n15] at e18
  subst e18
  have n19 : q_n σ19 = ν + 5 := by rw [e19, q_n_new, n15]
  have c19 : q_K σ19 (ν + 4) = 2 := by rw [e19, q_K_new, if_pos n15.symm]
  have k19 : q_K σ19 ν = 6 := by rw [e19, q_K_new, if_neg (by omega)]; exact k15
  refine ⟨by omega, by omega, by omega, fun w3 f3 τ4 f4 => ?_⟩
  rw [n19] at f3
  subst f3
  have c4 : q_K τ4 (ν + 4) = 2 := by rw [f4, q_K_new, if_neg (by omega)]; exact c19
  refine ⟨c4, fun σ24 e24 => ?_⟩
  have n24 : q_n σ24 = ν + 6 := by rw [e24, qn_wP, f4, q_n_new, n19]
  have k24 : q_K σ24 ν = 6 := by rw [e24, qK_wP, f4, q_K_new, if_neg (by omega)]; exact k19
  refine ⟨k24, fun σ25 e25 => ?_⟩
  have n25 : q_n σ25 = ν + 6 := by rw [e25, qn_wP, n24]
  have k25 : q_K σ25 ν = 6 := by rw [e25, qK_wP]; exact k24
  refine ⟨by omega, fun v28 e28 σ29 e29 => ?_⟩
  rw [n25] at e28
  subst e28
  have n29 : q_n σ29 = ν + 7 := by rw [e29, q_n_new, n25]
  have c29 : q_K σ29 (ν + 6) = 2 := by rw [e29, q_K_new, if_pos n25.symm]
  have k29 : q_K σ29 ν = 6 := by rw [e29, q_K_new, if_neg (by omega)]; exact k25
  refine ⟨by omega, by omega, by omega, fun w4 g3 τ5 g4 => ?_⟩
  rw [n29] at g3
  subst g3
  have c5 : q_K τ5 (ν + 6) = 2 := by rw [g4, q_K_new, if_neg (by omega)]; exact c29
  refine ⟨c5, fun σ34 e34 => ?_⟩
  have n34 : q_n σ34 = ν + 8 := by rw [e34, qn_wP, g4, q_n_new, n29]
  have k34 : q_K σ34 ν = 6 := by rw [e34, qK_wP, g4, q_K_new, if_neg (by omega)]; exact k29
  refine ⟨k34, fun σ35 e35 => ?_⟩
  have k35 : q_K σ35 ν = 6 := by rw [e35, qK_wP]; exact k34
  refine ⟨k35, fun σ37 e37 => ?_⟩
  have k37 : q_K σ37 ν = 6 := by rw [e37, qK_wI]; exact k35
  refine ⟨k37, fun σ39 e39 => ?_⟩
  have k39 : q_K σ39 ν = 6 := by rw [e39, qK_wI]; exact k37
  refine ⟨k39, fun ρ eρ => ?_⟩
  refine h ρ ?_
  have nρ : q_n ρ = ν + 8 := by rw [eρ, qn_wI, e39, qn_wI, e37, qn_wI, e35, qn_wP, n34]
  -- what each name holds
  have sm : ∀ b, (b < ν ∨ ν + 8 ≤ b) → w_sm σ ρ b := fun b hb => by
    have h1 : w_sm s1 σ4 b := by rw [e4]; exact w_sm_new (by omega)
    have h2 : w_sm σ4 σ5 b := by rw [e5]; exact w_sm_wP (by omega)
    have h3 : w_sm σ5 σ9 b := by rw [e9]; exact w_sm_new (by omega)
    have h4 : w_sm σ9 σ10 b := by rw [e10]; exact w_sm_wP (by omega)
    have h5 : w_sm σ10 σ14 b := by rw [e14]; exact w_sm_new (by omega)
    have h6 : w_sm σ14 σ15 b := by rw [e15]; exact w_sm_wP (by omega)
    have h7 : w_sm σ15 σ19 b := by rw [e19]; exact w_sm_new (by omega)
    have h8 : w_sm σ19 τ4 b := by rw [f4]; exact w_sm_new (by omega)
    have h9 : w_sm τ4 σ24 b := by rw [e24]; exact w_sm_wP (by omega)
    have h10 : w_sm σ24 σ25 b := by rw [e25]; exact w_sm_wP (by omega)
    have h11 : w_sm σ25 σ29 b := by rw [e29]; exact w_sm_new (by omega)
    have h12 : w_sm σ29 τ5 b := by rw [g4]; exact w_sm_new (by omega)
    have h13 : w_sm τ5 σ34 b := by rw [e34]; exact w_sm_wP (by omega)
    have h14 : w_sm σ34 σ35 b := by rw [e35]; exact w_sm_wP (by omega)
    have h15 : w_sm σ35 σ37 b := by rw [e37]; exact w_sm_wI (by omega)
    have h16 : w_sm σ37 σ39 b := by rw [e39]; exact w_sm_wI (by omega)
    have h17 : w_sm σ39 ρ b := by rw [eρ]; exact w_sm_wI (by omega)
    exact (sm1 b (by omega)).tr (h1.tr (h2.tr (h3.tr (h4.tr (h5.tr (h6.tr (h7.tr (h8.tr (h9.tr (h10.tr (h11.tr (h12.tr (h13.tr (h14.tr (h15.tr (h16.tr h17))))))))))))))))
  have eK : ∀ b, q_K ρ b = if b = ν + 7 then 1000 else if b = ν + 6 then 2 else if b = ν + 5 then 1000 else if b = ν + 4 then 2 else if b = ν + 3 then 1000 else if b = ν + 2 then 1000 else if b = ν + 1 then 1000 else q_K s1 b := fun b => by
    rw [eρ, qK_wI, e39, qK_wI, e37, qK_wI, e35, qK_wP, e34, qK_wP, g4, q_K_new, n29, e29, q_K_new, n25, e25, qK_wP, e24, qK_wP, f4, q_K_new, n19, e19, q_K_new, n15, e15, qK_wP, e14, q_K_new, n10, e10, qK_wP, e9, q_K_new, n5, e5, qK_wP, e4, q_K_new, n1]
  have eZ : ∀ b, q_Z ρ b = if b = ν + 7 then 24 else if b = ν + 6 then 0 else if b = ν + 5 then 24 else if b = ν + 4 then 0 else if b = ν + 3 then 12 else if b = ν + 2 then 12 else if b = ν + 1 then 24 else q_Z s1 b := fun b => by
    rw [eρ, qZ_wI, e39, qZ_wI, e37, qZ_wI, e35, qZ_wP, e34, qZ_wP, g4, q_Z_new, n29, e29, q_Z_new, n25, e25, qZ_wP, e24, qZ_wP, f4, q_Z_new, n19, e19, q_Z_new, n15, e15, qZ_wP, e14, q_Z_new, n10, e10, qZ_wP, e9, q_Z_new, n5, e5, qZ_wP, e4, q_Z_new, n1]
  have eI : ∀ b j, q_I ρ b j = if b = ν ∧ j = 2 then r else if b = ν ∧ j = 1 then l else if b = ν ∧ j = 0 then n else if b = ν + 7 then 0 else if b = ν + 6 then 0 else if b = ν + 5 then 0 else if b = ν + 4 then 0 else if b = ν + 3 then 0 else if b = ν + 2 then 0 else if b = ν + 1 then 0 else q_I s1 b j := fun b j => by
    rw [eρ, qI_wI, e39, qI_wI, e37, qI_wI, e35, qI_wP, e34, qI_wP, g4, qI_new1, n29, e29, qI_new1, n25, e25, qI_wP, e24, qI_wP, f4, qI_new1, n19, e19, qI_new1, n15, e15, qI_wP, e14, qI_new1, n10, e10, qI_wP, e9, qI_new1, n5, e5, qI_wP, e4, qI_new1, n1]
  have eP : ∀ b j, q_P ρ b j = if b = ν ∧ j = 11 then ν + 6 else if b = ν + 6 ∧ j = 0 then ν + 7 else if b = ν + 7 then 0 else if b = ν + 6 then 0 else if b = ν ∧ j = 10 then ν + 4 else if b = ν + 4 ∧ j = 0 then ν + 5 else if b = ν + 5 then 0 else if b = ν + 4 then 0 else if b = ν ∧ j = 5 then ν + 3 else if b = ν + 3 then 0 else if b = ν ∧ j = 4 then ν + 2 else if b = ν + 2 then 0 else if b = ν ∧ j = 3 then ν + 1 else if b = ν + 1 then 0 else q_P s1 b j := fun b j => by
    rw [eρ, qP_wI, e39, qP_wI, e37, qP_wI, e35, qP_wP, e34, qP_wP, g4, qP_new1, n29, e29, qP_new1, n25, e25, qP_wP, e24, qP_wP, f4, qP_new1, n19, e19, qP_new1, n15, e15, qP_wP, e14, qP_new1, n10, e10, qP_wP, e9, qP_new1, n5, e5, qP_wP, e4, qP_new1, n1]
  have iν : ∀ j, q_I s1 ν j = 0 := fun j => by rw [← hs1, qI_new1, if_pos hν.symm]
  refine ⟨?_, ?_, ?_, ⟨?_, ?_, ?_, fun j hj => ?_⟩, fun k hk1 hk2 j => ?_, ?_⟩
  · rw [nρ, hν]
  · rw [hν]
    unfold c_pl
    simp only [eK, eZ, eP]
    simp [k1]
  · rw [hν, eP]; simp
  · rw [hν, eI]; simp
  · rw [hν, eI]; simp
  · rw [hν, eI]; simp
  · rw [hν, eI]
    rw [if_neg (by omega), if_neg (by omega), if_neg (by omega), if_neg (by omega), if_neg (by omega), if_neg (by omega), if_neg (by omega), if_neg (by omega), if_neg (by omega), if_neg (by omega)]
    exact iν j
  · rw [hν, eI]
    rcases (show k = 1 ∨ k = 2 ∨ k = 3 ∨ k = 4 ∨ k = 5 ∨ k = 6 ∨ k = 7 by omega) with e | e | e | e | e | e | e <;> subst e <;> simp
  · rw [hν]; exact sm
