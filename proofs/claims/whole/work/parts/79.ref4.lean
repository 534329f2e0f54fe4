/-! PLANES, DISCS AND PADS ARE TOLD TO THE REFERENCE -/
theorem z_isL {A : a_A} {σ : q_S} {ι : Nat → Nat → Int32} {κ : Nat → Nat → Int64} (hw : w_m A ι κ) (ok : a_ok A) (x : Int32) : (f_PM_isLayer (q_put σ ι κ) 14 x = 0 ∧ ¬ (0 ≤ x.toInt ∧ x.toInt < a_ly A)) ∨ (f_PM_isLayer (q_put σ ι κ) 14 x = 1 ∧ (0 ≤ x.toInt ∧ x.toInt < a_ly A)) := by
  have e0 : (0 : Int32).toInt = 0 := rfl
  have hl4 := ok.2.2.2.2.2
  have hly : ι 14 1 = nI (a_ly A) := hw.1.2.2.2.2
  unfold f_PM_isLayer
  rw [q_put_I, hly]
  by_cases c1 : x < 0
  · rw [if_pos c1]
    rw [iI_lt, e0] at c1
    exact Or.inl ⟨rfl, by omega⟩
  · rw [if_neg c1]
    rw [iI_lt, e0] at c1
    by_cases c2 : nI (a_ly A) ≤ x
    · rw [if_pos c2]
      rw [iI_le, nI_toInt (by omega)] at c2
      exact Or.inl ⟨rfl, by omega⟩
    · rw [if_neg c2]
      rw [iI_le, nI_toInt (by omega)] at c2
      exact Or.inr ⟨rfl, by omega, by omega⟩
theorem z_isN (x : Int32) : (f_PM_isNet x = 0 ∧ ¬ (0 ≤ x.toInt ∧ x.toInt ≤ 99)) ∨ (f_PM_isNet x = 1 ∧ (0 ≤ x.toInt ∧ x.toInt ≤ 99)) := by
  have e0 : (0 : Int32).toInt = 0 := rfl
  have e100 : (100 : Int32).toInt = 100 := rfl
  unfold f_PM_isNet
  by_cases c1 : x < 0
  · rw [if_pos c1]
    rw [iI_lt, e0] at c1
    exact Or.inl ⟨rfl, by omega⟩
  · rw [if_neg c1]
    rw [iI_lt, e0] at c1
    by_cases c2 : 100 ≤ x
    · rw [if_pos c2]
      rw [iI_le, e100] at c2
      exact Or.inl ⟨rfl, by omega⟩
    · rw [if_neg c2]
      rw [iI_le, e100] at c2
      exact Or.inr ⟨rfl, by omega, by omega⟩
theorem w_m.pln {A : a_A} {ι ι' : Nat → Nat → Int32} {κ : Nat → Nat → Int64} {n l r : Int32} (hw : w_m A ι κ) (hN : a_N A < 8) (f14 : ∀ j, j ≠ 0 → j ≠ 2 → ι' 14 j = ι 14 j) (fo : ∀ t, (14 < t ∧ t < 35 ∧ t ≠ 15 ∧ t ≠ 16 ∧ t ≠ 17) → ι' t = ι t) (f2 : ι' 14 2 = nI (a_N A + 1)) (f15 : ι' 15 = va_up (ι 15) (a_N A) n) (f16 : ι' 16 = va_up (ι 16) (a_N A) l) (f17 : ι' 17 = va_up (ι 17) (a_N A) r) : w_m (a_pln A n l r) ι' κ := by
  have j1 := f14 1 (by omega) (by omega)
  have j12 := f14 12 (by omega) (by omega)
  have j16 := f14 16 (by omega) (by omega)
  have i18 := fo 18 (by omega)
  have i19 := fo 19 (by omega)
  have i22 := fo 22 (by omega)
  have i23 := fo 23 (by omega)
  have i24 := fo 24 (by omega)
  have i25 := fo 25 (by omega)
  have i27 := fo 27 (by omega)
  have i28 := fo 28 (by omega)
  have i29 := fo 29 (by omega)
  have i30 := fo 30 (by omega)
  have i33 := fo 33 (by omega)
  have i34 := fo 34 (by omega)
  obtain ⟨⟨hP, hD, hE, hU, hly⟩, hF, hZ⟩ := hw
  unfold m_D m_E m_U m_F m_Z at *
  unfold w_m m_0 m_P m_D m_E m_U m_F m_Z
  simp only [j1, j12, j16, i18, i19, i22, i23, i24, i25, i27, i28, i29, i30, i33, i34]
  have hnew := hZ (a_N A) (Nat.le_refl _) hN
  refine ⟨⟨⟨f2, fun q hq => ?_⟩, hD, hE, hU, hly⟩, fun q hq => ?_, fun q h1 h2 => hZ q (by have : a_N A + 1 ≤ q := h1; omega) h2⟩
  · have hq' : q < a_N A + 1 := hq
    by_cases c : q = a_N A
    · subst c
      obtain ⟨z1, z2, z3, z4, z5, z6, z7⟩ := hnew
      have erc : a_rc (a_pln A n l r) (a_N A) = 0 := up_s _ _ _
      have eoc : a_oc (a_pln A n l r) (a_N A) = 0 := up_s _ _ _
      refine ⟨?_, ?_, ?_, ?_, ?_, ?_, ?_⟩
      · rw [f15, up_s]; exact (up_s _ _ _).symm
      · rw [f16, up_s]; exact (up_s _ _ _).symm
      · rw [f17, up_s]; exact (up_s _ _ _).symm
      · rw [z3, show a_hs (a_pln A n l r) (a_N A) = 0 from up_s _ _ _]; rfl
      · rw [z4, show a_hw (a_pln A n l r) (a_N A) = 0 from up_s _ _ _]; rfl
      · unfold m_R
        rw [erc, i18]
        refine ⟨z1, fun _ => 0, fun _ _ => 0, fun _ _ => 0, fun j hj => by omega, fun x y hx hy => ?_⟩
        rw [show a_ou (a_pln A n l r) (a_N A) y = 0 from congrFun (up_s A.2.2.2.2.1 (a_N A) (fun _ => (0 : Int32))) y, b_0]; rfl
      · unfold m_O
        rw [erc, eoc, i19]
        exact ⟨fun j h1 h2 => z2 j h2, fun _ => ⟨z2 0 (by omega), fun k hk => by omega⟩⟩
    · obtain ⟨s1, s2, s3, s4, s5, s6, s7, s8, s9, s10, s11, s12, s13, s14⟩ := a_pln_sp A n l r q c
      obtain ⟨c1, c2, c3, c4, c5, ⟨r1, nn, XX, YY, r2, r3⟩, o1, o2⟩ := hP.2 q (by omega)
      refine ⟨?_, ?_, ?_, ?_, ?_, ?_, ?_⟩
      · rw [f15, up_n c, s1]; exact c1
      · rw [f16, up_n c, s2]; exact c2
      · rw [f17, up_n c, s3]; exact c3
      · rw [s6]; exact c4
      · rw [s7]; exact c5
      · unfold m_R
        rw [s5, i18, i19]
        refine ⟨r1, nn, XX, YY, r2, fun x y hx hy => ?_⟩
        rw [s10]; exact r3 x y hx hy
      · unfold m_O
        simp only [s4, s5, s8, s9]
        rw [i19]
        exact ⟨o1, o2⟩
  · have hq' : q < a_N A + 1 := hq
    by_cases c : q = a_N A
    · subst c
      obtain ⟨z1, z2, z3, z4, z5, z6, z7⟩ := hnew
      refine ⟨fun y hy => ?_, ?_, ?_⟩
      · rw [z7 y hy, show a_fi (a_pln A n l r) (a_N A) y = 0 from congrFun (up_s A.2.2.2.2.2 (a_N A) (fun _ => (0 : Int32))) y, zx_0]
      · rw [z5, show a_is (a_pln A n l r) (a_N A) = 0 from up_s _ _ _]; rfl
      · rw [z6]; exact (up_s _ _ _).symm
    · obtain ⟨s1, s2, s3, s4, s5, s6, s7, s8, s9, s10, s11, s12, s13, s14⟩ := a_pln_sp A n l r q c
      simp only [s11, s13, s14]
      exact hF q (by omega)
theorem w_m.obs {A : a_A} {ι ι' : Nat → Nat → Int32} {κ κ' : Nat → Nat → Int64} {n l : Int32} {x y r : Nat} (hw : w_m A ι κ) (f14 : ∀ j, j ≠ 0 → j ≠ 12 → ι' 14 j = ι 14 j) (fo : ∀ t, (14 < t ∧ t < 35 ∧ t ≠ 24 ∧ t ≠ 25) → ι' t = ι t) (fk : ∀ t, (t < 32 ∧ t ≠ 26) → κ' t = κ t) (f12 : ι' 14 12 = nI (a_D A + 1)) (f24 : ι' 24 = va_up (ι 24) (a_D A) n) (f25 : ι' 25 = va_up (ι 25) (a_D A) l) (g26 : κ' 26 = va_up (va_up (va_up (κ 26) (3 * a_D A) (iL x)) (3 * a_D A + 1) (iL y)) (3 * a_D A + 2) (iL r)) : w_m (a_obs A n l x y r) ι' κ' := by
  have j1 := f14 1 (by omega) (by omega)
  have j2 := f14 2 (by omega) (by omega)
  have j16 := f14 16 (by omega) (by omega)
  have i15 := fo 15 (by omega)
  have i16 := fo 16 (by omega)
  have i17 := fo 17 (by omega)
  have i18 := fo 18 (by omega)
  have i19 := fo 19 (by omega)
  have i22 := fo 22 (by omega)
  have i23 := fo 23 (by omega)
  have i27 := fo 27 (by omega)
  have i28 := fo 28 (by omega)
  have i29 := fo 29 (by omega)
  have i30 := fo 30 (by omega)
  have i33 := fo 33 (by omega)
  have i34 := fo 34 (by omega)
  have k20 := fk 20 (by omega)
  have k21 := fk 21 (by omega)
  have k31 := fk 31 (by omega)
  obtain ⟨⟨hP, hD, hE, hU, hly⟩, hF, hZ⟩ := hw
  unfold m_P m_R m_O m_D m_E m_U m_F m_Z at *
  unfold w_m m_0 m_P m_R m_O m_D m_E m_U m_F m_Z
  simp only [j1, j2, j16, i15, i16, i17, i18, i19, i22, i23, i27, i28, i29, i30, i33, i34, k20, k21, k31]
  refine ⟨⟨hP, ⟨f12, fun i hi => ?_⟩, hE, hU, hly⟩, hF, hZ⟩
  have hi' : i < a_D A + 1 := hi
  show ι' 24 i = va_up (A.2.1 4) (a_D A) n i ∧ ι' 25 i = va_up (A.2.1 5) (a_D A) l i ∧ κ' 26 (3 * i) = iL ((va_up (A.1 8) (a_D A) x i : Nat) : Int) ∧ κ' 26 (3 * i + 1) = iL ((va_up (A.1 9) (a_D A) y i : Nat) : Int) ∧ κ' 26 (3 * i + 2) = iL ((va_up (A.1 10) (a_D A) r i : Nat) : Int)
  rw [f24, f25]
  by_cases c : i = a_D A
  · subst c
    have g0 : κ' 26 (3 * a_D A) = iL x := by rw [g26, up_n (by omega), up_n (by omega), up_s]
    have g1 : κ' 26 (3 * a_D A + 1) = iL y := by rw [g26, up_n (by omega), up_s]
    have g2 : κ' 26 (3 * a_D A + 2) = iL r := by rw [g26, up_s]
    rw [g0, g1, g2, up_s, up_s, up_s, up_s, up_s, up_s, up_s]
    exact ⟨rfl, rfl, rfl, rfl, rfl⟩
  · obtain ⟨d1, d2, d3, d4, d5⟩ := hD.2 i (by omega)
    have g0 : κ' 26 (3 * i) = κ 26 (3 * i) := by rw [g26, up_n (by omega), up_n (by omega), up_n (by omega)]
    have g1 : κ' 26 (3 * i + 1) = κ 26 (3 * i + 1) := by rw [g26, up_n (by omega), up_n (by omega), up_n (by omega)]
    have g2 : κ' 26 (3 * i + 2) = κ 26 (3 * i + 2) := by rw [g26, up_n (by omega), up_n (by omega), up_n (by omega)]
    rw [g0, g1, g2, up_n c, up_n c, up_n c, up_n c, up_n c, up_n c, up_n c]
    exact ⟨d1, d2, d3, d4, d5⟩
theorem w_m.pad {A : a_A} {ι ι' : Nat → Nat → Int32} {κ : Nat → Nat → Int64} {n l : Int32} {x y w v : Nat} (hw : w_m A ι κ) (f14 : ∀ j, j ≠ 0 → j ≠ 16 → ι' 14 j = ι 14 j) (fo : ∀ t, (14 < t ∧ t < 35 ∧ t ≠ 27 ∧ t ≠ 28 ∧ t ≠ 29) → ι' t = ι t) (f16 : ι' 14 16 = nI (a_E A + 1)) (f27 : ι' 27 = va_up (ι 27) (a_E A) n) (f28 : ι' 28 = va_up (ι 28) (a_E A) l) (f29 : ι' 29 = va_up (va_up (va_up (va_up (ι 29) (4 * a_E A) (nI x)) (4 * a_E A + 1) (nI y)) (4 * a_E A + 2) (nI w)) (4 * a_E A + 3) (nI v)) : w_m (a_pad A n l x y w v) ι' κ := by
  have j1 := f14 1 (by omega) (by omega)
  have j2 := f14 2 (by omega) (by omega)
  have j12 := f14 12 (by omega) (by omega)
  have i15 := fo 15 (by omega)
  have i16 := fo 16 (by omega)
  have i17 := fo 17 (by omega)
  have i18 := fo 18 (by omega)
  have i19 := fo 19 (by omega)
  have i22 := fo 22 (by omega)
  have i23 := fo 23 (by omega)
  have i24 := fo 24 (by omega)
  have i25 := fo 25 (by omega)
  have i30 := fo 30 (by omega)
  have i33 := fo 33 (by omega)
  have i34 := fo 34 (by omega)
  obtain ⟨⟨hP, hD, hE, hU, hly⟩, hF, hZ⟩ := hw
  unfold m_P m_R m_O m_D m_E m_U m_F m_Z at *
  unfold w_m m_0 m_P m_R m_O m_D m_E m_U m_F m_Z
  simp only [j1, j2, j12, i15, i16, i17, i18, i19, i22, i23, i24, i25, i30, i33, i34]
  refine ⟨⟨hP, hD, ⟨f16, fun i hi => ?_⟩, hU, hly⟩, hF, hZ⟩
  have hi' : i < a_E A + 1 := hi
  show ι' 27 i = va_up (A.2.1 6) (a_E A) n i ∧ ι' 28 i = va_up (A.2.1 7) (a_E A) l i ∧ ι' 29 (4 * i) = nI (va_up (A.1 11) (a_E A) x i) ∧ ι' 29 (4 * i + 1) = nI (va_up (A.1 12) (a_E A) y i) ∧ ι' 29 (4 * i + 2) = nI (va_up (A.1 13) (a_E A) w i) ∧ ι' 29 (4 * i + 3) = nI (va_up (A.1 14) (a_E A) v i)
  have g : ∀ k, k < 4 → ι' 29 (4 * i + k) = if i = a_E A then (if k = 0 then nI x else if k = 1 then nI y else if k = 2 then nI w else nI v) else ι 29 (4 * i + k) := fun k hk => by
    rw [f29]
    by_cases c : i = a_E A
    · subst c
      rw [if_pos rfl]
      rcases (show k = 0 ∨ k = 1 ∨ k = 2 ∨ k = 3 by omega) with e | e | e | e <;> subst e
      · rw [up_n (by omega), up_n (by omega), up_n (by omega), Nat.add_zero, up_s, if_pos rfl]
      · rw [up_n (by omega), up_n (by omega), up_s, if_neg (by omega), if_pos rfl]
      · rw [up_n (by omega), up_s, if_neg (by omega), if_neg (by omega), if_pos rfl]
      · rw [up_s, if_neg (by omega), if_neg (by omega), if_neg (by omega)]
    · rw [if_neg c, up_n (by omega), up_n (by omega), up_n (by omega), up_n (by omega)]
  have g0 := g 0 (by omega)
  rw [Nat.add_zero] at g0
  rw [f27, f28, g0, g 1 (by omega), g 2 (by omega), g 3 (by omega)]
  by_cases c : i = a_E A
  · subst c
    rw [up_s, up_s, up_s, up_s, up_s, up_s, up_s, up_s]
    exact ⟨rfl, rfl, if_pos rfl, if_pos rfl, if_pos rfl, if_pos rfl⟩
  · rw [up_n c, up_n c, up_n c, up_n c, up_n c, up_n c, up_n c, up_n c, if_neg c, if_neg c, if_neg c, if_neg c]
    exact hE.2 i (by omega)
