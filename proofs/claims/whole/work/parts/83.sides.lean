/-! THE TWO SIDES SIDE BY SIDE -/
theorem a_ok.cor {A : a_A} {i x y : Nat} (ok : a_ok A) (hx : x ≤ 32) (hy : y ≤ 24) (hoc : a_oc A i < 12) (hrc : a_rc A i < 4) : a_ok (a_cor A i x y) := by
  refine ⟨⟨ok.1.1, fun q hq => ?_⟩, ok.2⟩
  have h := ok.1.2 q hq
  show a_hs A q ≤ 16 ∧ a_hw A q ≤ a_hs A q ∧ a_rc A q ≤ 4 ∧ va_up (A.1 3) i (a_oc A i + 1) q ≤ 12 ∧ (a_rc A q = 4 → va_up (A.1 3) i (a_oc A i + 1) q = 0) ∧ ∀ k, k < va_up (A.1 3) i (a_oc A i + 1) q → va_up A.2.2.1 i (va_up (A.2.2.1 i) (a_oc A i) x) q k ≤ 32 ∧ va_up A.2.2.2.1 i (va_up (A.2.2.2.1 i) (a_oc A i) y) q k ≤ 24
  by_cases c : q = i
  · subst c
    rw [up_s, up_s, up_s]
    refine ⟨h.1, h.2.1, h.2.2.1, by omega, fun c => by omega, fun k hk => ?_⟩
    by_cases c2 : k = a_oc A q
    · rw [c2, up_s, up_s]; exact ⟨hx, hy⟩
    · rw [up_n c2, up_n c2]; exact h.2.2.2.2.2 k (by omega)
  · rw [up_n c, up_n c, up_n c]; exact h
theorem a_np.cor {A : a_A} {i x y : Nat} (np : a_np A) : a_np (a_cor A i x y) := np
theorem a_ok.rin {A : a_A} {i : Nat} (ok : a_ok A) (hi : i < a_N A) (hoc : 3 ≤ a_oc A i) : a_ok (a_rin A i) := by
  refine ⟨⟨ok.1.1, fun q hq => ?_⟩, ok.2⟩
  have h := ok.1.2 q hq
  show a_hs A q ≤ 16 ∧ a_hw A q ≤ a_hs A q ∧ va_up (A.1 2) i (a_rc A i + 1) q ≤ 4 ∧ va_up (A.1 3) i 0 q ≤ 12 ∧ (va_up (A.1 2) i (a_rc A i + 1) q = 4 → va_up (A.1 3) i 0 q = 0) ∧ ∀ k, k < va_up (A.1 3) i 0 q → a_ox A q k ≤ 32 ∧ a_oy A q k ≤ 24
  by_cases c : q = i
  · subst c
    rw [up_s, up_s]
    have h4 := h.2.2.2.2.1
    have h3 := h.2.2.1
    refine ⟨h.1, h.2.1, ?_, by omega, fun _ => rfl, fun k hk => by omega⟩
    by_cases c2 : a_rc A q = 4
    · have := h4 c2; omega
    · omega
  · rw [up_n c, up_n c]; exact h
theorem a_np.rin {A : a_A} {i : Nat} (np : a_np A) : a_np (a_rin A i) := np
theorem a_ok.hat {A : a_A} {i s w : Nat} (ok : a_ok A) (hs : s ≤ 16) (hw : w ≤ s) : a_ok (a_hat A i s w) := by
  refine ⟨⟨ok.1.1, fun q hq => ?_⟩, ok.2⟩
  have h := ok.1.2 q hq
  show va_up (A.1 4) i s q ≤ 16 ∧ va_up (A.1 5) i w q ≤ va_up (A.1 4) i s q ∧ a_rc A q ≤ 4 ∧ a_oc A q ≤ 12 ∧ (a_rc A q = 4 → a_oc A q = 0) ∧ ∀ k, k < a_oc A q → a_ox A q k ≤ 32 ∧ a_oy A q k ≤ 24
  by_cases c : q = i
  · subst c
    rw [up_s, up_s]
    exact ⟨hs, hw, h.2.2⟩
  · rw [up_n c, up_n c]; exact h
theorem a_np.hat {A : a_A} {i s w : Nat} (np : a_np A) : a_np (a_hat A i s w) := np
theorem a_ok.rul {A : a_A} {k a : Nat} (ok : a_ok A) (hk : k < 4) (h1 : z_rlo k ≤ a) (h2 : a ≤ z_rhi k) : a_ok (a_rul A k a) := by
  obtain ⟨u0, u1, u2, u3, u4⟩ := ok.2.2.2.1
  refine ⟨ok.1, ok.2.1, ok.2.2.1, ?_, ok.2.2.2.2⟩
  rcases z_k4 hk with e | e | e | e <;> subst e
  · exact ⟨h2, u1, u2, u3, u4⟩
  · exact ⟨u0, h2, u2, u3, u4⟩
  · exact ⟨u0, u1, h1, h2, u4⟩
  · exact ⟨u0, u1, u2, u3, h2⟩
theorem a_np.rul {A : a_A} {k a : Nat} (np : a_np A) : a_np (a_rul A k a) := np
theorem a_ok.obs {A : a_A} {n l : Int32} {x y r : Nat} (ok : a_ok A) (hD : a_D A < 20) (hx : x ≤ 32) (hy : y ≤ 24) (hr : r ≤ 20) : a_ok (a_obs A n l x y r) := by
  refine ⟨ok.1, ⟨?_, fun q hq => ?_⟩, ok.2.2⟩
  · show a_D A + 1 ≤ 20
    omega
  · have hq : q < a_D A + 1 := hq
    show va_up (A.1 8) (a_D A) x q ≤ 32 ∧ va_up (A.1 9) (a_D A) y q ≤ 24 ∧ va_up (A.1 10) (a_D A) r q ≤ 20
    by_cases c : q = a_D A
    · rw [c, up_s, up_s, up_s]; exact ⟨hx, hy, hr⟩
    · rw [up_n c, up_n c, up_n c]; exact ok.2.1.2 q (by omega)
theorem a_np.obs {A : a_A} {n l : Int32} {x y r : Nat} (np : a_np A) : a_np (a_obs A n l x y r) := np
theorem a_ok.pad {A : a_A} {n l : Int32} {x y w v : Nat} (ok : a_ok A) (hE : a_E A < 10) (hx : x + w ≤ 32) (hy : y + v ≤ 24) (hw : 1 ≤ w) (hv : 1 ≤ v) : a_ok (a_pad A n l x y w v) := by
  refine ⟨ok.1, ok.2.1, ⟨?_, fun q hq => ?_⟩, ok.2.2.2⟩
  · show a_E A + 1 ≤ 10
    omega
  · have hq : q < a_E A + 1 := hq
    show va_up (A.1 11) (a_E A) x q + va_up (A.1 13) (a_E A) w q ≤ 32 ∧ va_up (A.1 12) (a_E A) y q + va_up (A.1 14) (a_E A) v q ≤ 24 ∧ 1 ≤ va_up (A.1 13) (a_E A) w q ∧ 1 ≤ va_up (A.1 14) (a_E A) v q
    by_cases c : q = a_E A
    · rw [c, up_s, up_s, up_s, up_s]; exact ⟨hx, hy, hw, hv⟩
    · rw [up_n c, up_n c, up_n c, up_n c]; exact ok.2.2.1.2 q (by omega)
theorem a_np.pad {A : a_A} {n l : Int32} {x y w v : Nat} (np : a_np A) : a_np (a_pad A n l x y w v) := np
theorem a_ok.pln {A : a_A} {n l r : Int32} (ok : a_ok A) (hN : a_N A < 8) : a_ok (a_pln A n l r) := by
  refine ⟨⟨?_, fun q hq => ?_⟩, ok.2⟩
  · show a_N A + 1 ≤ 8
    omega
  · have hq : q < a_N A + 1 := hq
    show va_up (A.1 4) (a_N A) 0 q ≤ 16 ∧ va_up (A.1 5) (a_N A) 0 q ≤ va_up (A.1 4) (a_N A) 0 q ∧ va_up (A.1 2) (a_N A) 0 q ≤ 4 ∧ va_up (A.1 3) (a_N A) 0 q ≤ 12 ∧ (va_up (A.1 2) (a_N A) 0 q = 4 → va_up (A.1 3) (a_N A) 0 q = 0) ∧ ∀ k, k < va_up (A.1 3) (a_N A) 0 q → a_ox A q k ≤ 32 ∧ a_oy A q k ≤ 24
    by_cases c : q = a_N A
    · rw [c, up_s, up_s, up_s, up_s]
      exact ⟨by omega, by omega, by omega, by omega, fun _ => rfl, fun k hk => by omega⟩
    · rw [up_n c, up_n c, up_n c, up_n c]; exact ok.1.2 q (by omega)
theorem a_np.pln {A : a_A} {n l r : Int32} (np : a_np A) : a_np (a_pln A n l r) := by
  intro q hq
  have hq : q < a_N A + 1 := hq
  show z_np (z_in (va_up A.2.2.2.2.2 (a_N A) (fun _ => 0) q)) (va_up (A.1 7) (a_N A) 0 q) ∧ va_up (A.1 7) (a_N A) 0 q ≤ 768 ∧ va_up (A.1 6) (a_N A) 0 q ≤ 768 ∧ (va_up (A.2.1 3) (a_N A) 0 q = 0 ∨ va_up (A.2.1 3) (a_N A) 0 q = 1)
  by_cases c : q = a_N A
  · rw [c, up_s, up_s, up_s, up_s]
    refine ⟨⟨fun j hj => by omega, ?_⟩, by omega, by omega, Or.inl rfl⟩
    rintro ⟨x, y, c2⟩
    have c2 : z_in (fun _ => 0) x y := c2
    have := c2.2
    rw [b_0] at this; cases this
  · rw [up_n c, up_n c, up_n c, up_n c]; exact np q (by omega)
theorem a_ok.fil {A : a_A} {W : Nat → Nat → Int32} {isl pcs : Nat → Nat} {fl : Nat → Int32} (ok : a_ok A) : a_ok (a_fil A W isl pcs fl) := ok
theorem a_np.fil {A : a_A} {W : Nat → Nat → Int32} {isl pcs : Nat → Nat} {fl : Nat → Int32} (hall : z_all A W isl pcs fl) : a_np (a_fil A W isl pcs fl) := fun i hi => (hall i hi).np
/-- other numbers at the reference's places -/
theorem w_C.mo {A : a_A} {σ : q_S} {ι' : Nat → Nat → Int32} {κ' : Nat → Nat → Int64} (h : w_C A σ) (hi : ∀ a, (a < 14 ∨ 41 < a) → ι' a = q_I σ a) : w_C A (q_put σ ι' κ') := by
  obtain ⟨pl, rl, f, g, hc, hP, hD, hE, hX, hU, hS, hB⟩ := h
  refine ⟨pl, rl, f, g, hc, ?_, ?_, ?_, hX, ?_, ?_, hB⟩
  · refine hP.fr (hi 2 (by omega)) (hi 3 (by omega)) (fun i hi2 k hk => ?_) ⟨rfl, rfl⟩ ⟨rfl, rfl⟩ ⟨rfl, rfl, rfl⟩ ⟨rfl, rfl, rfl⟩ (fun i _ k _ => ⟨rfl, rfl, rfl⟩)
    have := (hP.2.2.2.1 i hi2).2.1
    exact hi _ (by omega)
  · exact hD.fr (hi 4 (by omega)) fun i hi2 => by
      have := (hX.1 i hi2).1
      exact hi _ (by omega)
  · exact hE.fr (hi 5 (by omega)) fun i hi2 => by
      have := (hX.2 i hi2).1
      exact hi _ (by omega)
  · show c_U A ι'
    unfold c_U
    rw [hi 1 (by omega), hi 6 (by omega)]; exact hU
  · show ι' 7 0 = 0 ∧ ¬ ι' 10 0 = 0
    rw [hi 7 (by omega), hi 10 (by omega)]; exact hS
/-- what the reference's picture rests on, once more -/
theorem w_m.fr2 {A : a_A} {ι ι' : Nat → Nat → Int32} {κ κ' : Nat → Nat → Int64} (h : w_m A ι κ) (hι : ∀ a, 14 ≤ a → a ≤ 41 → ι' a = ι a) (hκ : ∀ a, 14 ≤ a → a ≤ 41 → κ' a = κ a) : w_m A ι' κ' := by
  have i14 := hι 14 (by omega) (by omega)
  have i15 := hι 15 (by omega) (by omega)
  have i16 := hι 16 (by omega) (by omega)
  have i17 := hι 17 (by omega) (by omega)
  have i18 := hι 18 (by omega) (by omega)
  have i19 := hι 19 (by omega) (by omega)
  have i22 := hι 22 (by omega) (by omega)
  have i23 := hι 23 (by omega) (by omega)
  have i24 := hι 24 (by omega) (by omega)
  have i25 := hι 25 (by omega) (by omega)
  have i27 := hι 27 (by omega) (by omega)
  have i28 := hι 28 (by omega) (by omega)
  have i29 := hι 29 (by omega) (by omega)
  have i30 := hι 30 (by omega) (by omega)
  have i33 := hι 33 (by omega) (by omega)
  have i34 := hι 34 (by omega) (by omega)
  have k20 := hκ 20 (by omega) (by omega)
  have k21 := hκ 21 (by omega) (by omega)
  have k26 := hκ 26 (by omega) (by omega)
  have k31 := hκ 31 (by omega) (by omega)
  unfold w_m m_F m_Z m_0 m_P m_R m_O m_D m_E m_U at *
  simp only [i14, i15, i16, i17, i18, i19, i22, i23, i24, i25, i27, i28, i29, i30, i33, i34, k20, k21, k26, k31]
  exact h
theorem m_S.fr {σ τ : q_S} (h : m_S σ) (hs : ∀ a, 14 ≤ a → a ≤ 41 → w_sm σ τ a) : m_S τ := by
  have p14 := (hs 14 (by omega) (by omega)).2.2.2.2
  have k14 := (hs 14 (by omega) (by omega)).1
  have k15 := (hs 15 (by omega) (by omega)).1
  have k16 := (hs 16 (by omega) (by omega)).1
  have k17 := (hs 17 (by omega) (by omega)).1
  have k18 := (hs 18 (by omega) (by omega)).1
  have k19 := (hs 19 (by omega) (by omega)).1
  have k20 := (hs 20 (by omega) (by omega)).1
  have k21 := (hs 21 (by omega) (by omega)).1
  have k22 := (hs 22 (by omega) (by omega)).1
  have k23 := (hs 23 (by omega) (by omega)).1
  have k24 := (hs 24 (by omega) (by omega)).1
  have k25 := (hs 25 (by omega) (by omega)).1
  have k26 := (hs 26 (by omega) (by omega)).1
  have k27 := (hs 27 (by omega) (by omega)).1
  have k28 := (hs 28 (by omega) (by omega)).1
  have k29 := (hs 29 (by omega) (by omega)).1
  have k30 := (hs 30 (by omega) (by omega)).1
  have k31 := (hs 31 (by omega) (by omega)).1
  have k32 := (hs 32 (by omega) (by omega)).1
  have k33 := (hs 33 (by omega) (by omega)).1
  have k34 := (hs 34 (by omega) (by omega)).1
  have k35 := (hs 35 (by omega) (by omega)).1
  have k36 := (hs 36 (by omega) (by omega)).1
  have k37 := (hs 37 (by omega) (by omega)).1
  have k38 := (hs 38 (by omega) (by omega)).1
  have k39 := (hs 39 (by omega) (by omega)).1
  have k40 := (hs 40 (by omega) (by omega)).1
  have k41 := (hs 41 (by omega) (by omega)).1
  have z15 := (hs 15 (by omega) (by omega)).2.1
  have z16 := (hs 16 (by omega) (by omega)).2.1
  have z17 := (hs 17 (by omega) (by omega)).2.1
  have z18 := (hs 18 (by omega) (by omega)).2.1
  have z19 := (hs 19 (by omega) (by omega)).2.1
  have z20 := (hs 20 (by omega) (by omega)).2.1
  have z21 := (hs 21 (by omega) (by omega)).2.1
  have z22 := (hs 22 (by omega) (by omega)).2.1
  have z23 := (hs 23 (by omega) (by omega)).2.1
  have z24 := (hs 24 (by omega) (by omega)).2.1
  have z25 := (hs 25 (by omega) (by omega)).2.1
  have z26 := (hs 26 (by omega) (by omega)).2.1
  have z27 := (hs 27 (by omega) (by omega)).2.1
  have z28 := (hs 28 (by omega) (by omega)).2.1
  have z29 := (hs 29 (by omega) (by omega)).2.1
  have z30 := (hs 30 (by omega) (by omega)).2.1
  have z31 := (hs 31 (by omega) (by omega)).2.1
  have z32 := (hs 32 (by omega) (by omega)).2.1
  have z33 := (hs 33 (by omega) (by omega)).2.1
  have z34 := (hs 34 (by omega) (by omega)).2.1
  have z35 := (hs 35 (by omega) (by omega)).2.1
  have z36 := (hs 36 (by omega) (by omega)).2.1
  have z37 := (hs 37 (by omega) (by omega)).2.1
  have z38 := (hs 38 (by omega) (by omega)).2.1
  have z39 := (hs 39 (by omega) (by omega)).2.1
  have z40 := (hs 40 (by omega) (by omega)).2.1
  have z41 := (hs 41 (by omega) (by omega)).2.1
  unfold m_S
  simp only [p14, k14, k15, k16, k17, k18, k19, k20, k21, k22, k23, k24, k25, k26, k27, k28, k29, k30, k31, k32, k33, k34, k35, k36, k37, k38, k39, k40, k41, z15, z16, z17, z18, z19, z20, z21, z22, z23, z24, z25, z26, z27, z28, z29, z30, z31, z32, z33, z34, z35, z36, z37, z38, z39, z40, z41]
  exact h
theorem w_R.fr {L : Nat} {xs : Nat → Int32} {σ τ : q_S} (h : w_R L xs σ) (hs : ∀ a, 10000000 ≤ a → q_K τ a = q_K σ a ∧ q_Z τ a = q_Z σ a ∧ q_I τ a = q_I σ a) : w_R L xs τ := by
  have s0 := hs 10000000 (by omega)
  have s1 := hs 10000001 (by omega)
  have s2 := hs 10000002 (by omega)
  have s3 := hs 10000003 (by omega)
  have s4 := hs 10000004 (by omega)
  have s5 := hs 10000005 (by omega)
  unfold w_R
  rw [s0.1, s0.2.1, s0.2.2, s1.1, s1.2.1, s1.2.2, s2.1, s2.2.1, s2.2.2, s3.1, s3.2.1, s3.2.2, s4.1, s4.2.1, s4.2.2, s5.1, s5.2.1]
  exact h
/-- what both sides hold before every call -/
def w_I (A : a_A) (L : Nat) (xs : Nat → Int32) (σ : q_S) : Prop := a_ok A ∧ a_np A ∧ w_C A σ ∧ m_S σ ∧ w_m A (q_I σ) (q_L σ) ∧ w_R L xs σ ∧ q_K σ 42 = 1001 ∧ q_Z σ 42 = 1
/-- after the class's call -/
def w_J (A : a_A) (L : Nat) (xs : Nat → Int32) (σ : q_S) : Prop := m_S σ ∧ w_m A (q_I σ) (q_L σ) ∧ w_R L xs σ ∧ q_K σ 42 = 1001 ∧ q_Z σ 42 = 1
theorem w_I.mid {A : a_A} {L : Nat} {xs : Nat → Int32} {σ τ : q_S} (h : w_I A L xs σ) (hf : w_fo σ τ) : w_J A L xs τ := by
  obtain ⟨-, -, -, h4, h5, h6, h7, h8⟩ := h
  refine ⟨h4.fr fun a h1 h2 => hf.1 a (Or.inl ⟨h1, h2⟩), h5.fr2 (fun a h1 h2 => (hf.1 a (Or.inl ⟨h1, h2⟩)).2.2.1) (fun a h1 h2 => (hf.1 a (Or.inl ⟨h1, h2⟩)).2.2.2.1), h6.fr fun a h1 => ?_, by rw [hf.2.1]; exact h7, by rw [hf.2.2.1]; exact h8⟩
  have := hf.1 a (Or.inr h1)
  exact ⟨this.1, this.2.1, this.2.2.1⟩
theorem w_J.fin {A B : a_A} {L : Nat} {xs : Nat → Int32} {τ : q_S} {ι' : Nat → Nat → Int32} {κ' : Nat → Nat → Int64} (h : w_J A L xs τ) (ok : a_ok B) (np : a_np B) (hC : w_C B τ) (hw : w_m B ι' κ') (hι : ∀ t, (t < 14 ∨ 41 < t) → ι' t = q_I τ t) : w_I B L xs (q_put τ ι' κ') := by
  obtain ⟨h4, h5, h6, h7, h8⟩ := h
  refine ⟨ok, np, hC.mo hι, h4, hw, h6.fr fun a h1 => ⟨rfl, rfl, hι a (by omega)⟩, h7, h8⟩
