/-! CALLS OF THE REFERENCE THAT ASK -/
def m_F (A : a_A) (ι : Nat → Nat → Int32) (κ : Nat → Nat → Int64) : Prop := ∀ i, i < a_N A → (∀ y, y < 24 → κ 31 (24 * i + y) = zx (a_fi A i y)) ∧ ι 33 i = nI (a_is A i) ∧ ι 34 i = a_nw A i
def m_Z (A : a_A) (ι : Nat → Nat → Int32) (κ : Nat → Nat → Int64) : Prop := ∀ q, a_N A ≤ q → q < 8 → ι 18 q = 0 ∧ (∀ j, j < 4 → ι 19 (4 * q + j) = 0) ∧ ι 22 q = 0 ∧ ι 23 q = 0 ∧ ι 33 q = 0 ∧ ι 34 q = 0 ∧ ∀ y, y < 24 → κ 31 (24 * q + y) = 0
def w_m (A : a_A) (ι : Nat → Nat → Int32) (κ : Nat → Nat → Int64) : Prop := m_0 A ι κ ∧ m_F A ι κ ∧ m_Z A ι κ
def m_th (ι : Nat → Nat → Int32) (v : Int32) : Nat → Nat → Int32 := va_up ι 14 (va_up (ι 14) 0 v)
theorem m_th_o {ι : Nat → Nat → Int32} {v : Int32} {a : Nat} (h : a ≠ 14) : m_th ι v a = ι a := up_n h
theorem m_th_n {ι : Nat → Nat → Int32} {v : Int32} {j : Nat} (h : j ≠ 0) : m_th ι v 14 j = ι 14 j := by
  unfold m_th
  rw [up_s, up_n h]
theorem m_th_0 {ι : Nat → Nat → Int32} {v : Int32} : m_th ι v 14 0 = v := by
  unfold m_th
  rw [up_s, up_s]
/-- what the reference's picture rests on -/
theorem w_m.fr {A : a_A} {ι ι' : Nat → Nat → Int32} {κ κ' : Nat → Nat → Int64} (h : w_m A ι κ) (h14 : ∀ j, j ≠ 0 → ι' 14 j = ι 14 j) (hι : ∀ a, 14 < a → a < 35 → ι' a = ι a) (hκ : ∀ a, a < 32 → κ' a = κ a) : w_m A ι' κ' := by
  have i1 := h14 1 (by omega)
  have i2 := h14 2 (by omega)
  have i12 := h14 12 (by omega)
  have i16' := h14 16 (by omega)
  have i15 := hι 15 (by omega) (by omega)
  have i16 := hι 16 (by omega) (by omega)
  have i17 := hι 17 (by omega) (by omega)
  have i18 := hι 18 (by omega) (by omega)
  have i19 := hι 19 (by omega) (by omega)
  have i22 := hι 22 (by omega) (by omega)
  have i23 := hι 23 (by omega) (by omega)
  have i24 := hι 24 (by omega) (by omega)
  have i25 := hι 25 (by omega) (by omega)
  have i27 := hι 27 (by omega) (by omega)
  have i28 := hι 28 (by omega) (by omega)
  have i29 := hι 29 (by omega) (by omega)
  have i30 := hι 30 (by omega) (by omega)
  have i33 := hι 33 (by omega) (by omega)
  have i34 := hι 34 (by omega) (by omega)
  have k20 := hκ 20 (by omega)
  have k21 := hκ 21 (by omega)
  have k26 := hκ 26 (by omega)
  have k31 := hκ 31 (by omega)
  unfold w_m m_F m_Z m_0 m_P m_R m_O m_D m_E m_U at *
  simp only [i1, i2, i12, i16', i15, i16, i17, i18, i19, i22, i23, i24, i25, i27, i28, i29, i30, i33, i34, k20, k21, k26, k31]
  exact h
theorem w_m.th {A : a_A} {ι : Nat → Nat → Int32} {κ : Nat → Nat → Int64} (h : w_m A ι κ) (v : Int32) : w_m A (m_th ι v) κ := h.fr (fun j hj => m_th_n hj) (fun a h1 h2 => m_th_o (by omega)) (fun _ _ => rfl)
theorem z_isP {A : a_A} {σ : q_S} {ι : Nat → Nat → Int32} {κ : Nat → Nat → Int64} (hw : w_m A ι κ) (ok : a_ok A) (x : Int32) : (f_PM_isPlane (q_put σ ι κ) 14 x = 0 ∧ (x < 0 ∨ nI (a_N A) ≤ x)) ∨ (f_PM_isPlane (q_put σ ι κ) 14 x = 1 ∧ ∃ i, i < a_N A ∧ x = nI i) := z_isPlane hw.1.1.1 ok.1.1
theorem m_islands {A : a_A} {σ : q_S} {ι : Nat → Nat → Int32} {κ : Nat → Nat → Int64} {x : Int32} (hm : m_S σ) (hw : w_m A ι κ) (ok : a_ok A) {R : q_O → q_S → Prop}
    (h1 : (x < 0 ∨ nI (a_N A) ≤ x) → R (.inl (some (.inl 0))) (q_put σ (m_th ι 1) κ)) (h0 : ∀ i, i < a_N A → x = nI i → R (.inl (some (.inl (nI (a_is A i))))) (q_put σ (m_th ι 0) κ)) : V_PM_islands 14 x (q_put σ ι κ) R := by
  intro P14 P34 p14 p34
  have hN8 := ok.1.1
  refine ⟨hm.k, ?_⟩
  rcases z_isP (σ := σ) hw ok x with ⟨e, c⟩ | ⟨e, i, hi, rfl⟩
  · refine br_t e (p14 _ _ _ _ _ ⟨hm.k, fun σ1 e1 => ?_⟩)
    rw [e1, q_put_wI]
    refine ⟨hm.k, br_t ?_ (p34 _ _ (h1 c))⟩
    show ¬ m_th ι 1 14 0 = 0
    rw [m_th_0]; decide
  · refine br_f (by rw [e]; decide) (p14 _ _ _ _ _ ⟨hm.k, fun σ1 e1 => ?_⟩)
    rw [e1, q_put_wI]
    refine ⟨hm.k, br_f ?_ ?_⟩
    · show ¬ ¬ m_th ι 0 14 0 = 0
      rw [m_th_0]; decide
    · have ci : (nI i).toNatClampNeg = i := nI_clamp (by omega)
      have vi : vp_in (nI i) 8 := vp_in_nI (by omega) (by omega)
      have iv : va_up ι 14 (va_up (ι 14) 0 0) 33 i = nI (a_is A i) := by rw [up_n (by omega)]; exact (hw.2.1 i hi).2.1
      simp only [q_put_K, q_put_P, q_put_Z, q_put_I, hm.k, hm.p23, hm.k23, hm.z23, ci, vi, iv, true_or, true_and]
      exact p34 _ _ (h0 i hi rfl)
theorem m_narrow {A : a_A} {σ : q_S} {ι : Nat → Nat → Int32} {κ : Nat → Nat → Int64} {x : Int32} (hm : m_S σ) (hw : w_m A ι κ) (ok : a_ok A) {R : q_O → q_S → Prop}
    (h1 : (x < 0 ∨ nI (a_N A) ≤ x) → R (.inl (some (.inl 0))) (q_put σ (m_th ι 1) κ)) (h0 : ∀ i, i < a_N A → x = nI i → ∀ v : Int32, ((a_nw A i = 0 ∧ v = 0) ∨ (¬ a_nw A i = 0 ∧ v = 1)) → R (.inl (some (.inl v))) (q_put σ (m_th ι 0) κ)) : V_PM_narrow 14 x (q_put σ ι κ) R := by
  intro P14 P37 P38 p14 p37 p38
  have hN8 := ok.1.1
  refine ⟨hm.k, ?_⟩
  rcases z_isP (σ := σ) hw ok x with ⟨e, c⟩ | ⟨e, i, hi, rfl⟩
  · refine br_t e (p14 _ _ _ _ _ ⟨hm.k, fun σ1 e1 => ?_⟩)
    rw [e1, q_put_wI]
    refine ⟨hm.k, br_t ?_ (p37 _ (p38 _ _ ⟨Or.inl rfl, h1 c⟩))⟩
    show ¬ m_th ι 1 14 0 = 0
    rw [m_th_0]; decide
  · refine br_f (by rw [e]; decide) (p14 _ _ _ _ _ ⟨hm.k, fun σ1 e1 => ?_⟩)
    rw [e1, q_put_wI]
    refine ⟨hm.k, br_f ?_ ?_⟩
    · show ¬ ¬ m_th ι 0 14 0 = 0
      rw [m_th_0]; decide
    · have ci : (nI i).toNatClampNeg = i := nI_clamp (by omega)
      have vi : vp_in (nI i) 8 := vp_in_nI (by omega) (by omega)
      have iv : va_up ι 14 (va_up (ι 14) 0 0) 34 i = a_nw A i := by rw [up_n (by omega)]; exact (hw.2.1 i hi).2.2
      simp only [q_put_K, q_put_P, q_put_Z, q_put_I, hm.k, hm.p24, hm.k24, hm.z24, ci, vi, iv, true_or, true_and]
      exact br_c (fun c => p37 _ (p38 _ _ ⟨Or.inl rfl, h0 i hi rfl 0 (Or.inl ⟨c, rfl⟩)⟩)) (fun c => p38 _ _ ⟨Or.inr rfl, h0 i hi rfl 1 (Or.inr ⟨c, rfl⟩)⟩)
theorem m_in {A : a_A} {σ : q_S} {ι : Nat → Nat → Int32} {κ : Nat → Nat → Int64} {x : Int32} {X Y : Int64} (hm : m_S σ) (hw : w_m A ι κ) (ok : a_ok A) {R : q_O → q_S → Prop}
    (h1 : (x < 0 ∨ nI (a_N A) ≤ x) → R (.inl (some (.inl 0))) (q_put σ (m_th ι 1) κ)) (h0 : ∀ i, i < a_N A → x = nI i → ∀ v : Int32, (((∃ a b : Nat, X.toInt = a ∧ Y.toInt = b ∧ z_in (a_fi A i) a b) ∧ v = 1) ∨ ((¬ ∃ a b : Nat, X.toInt = a ∧ Y.toInt = b ∧ z_in (a_fi A i) a b) ∧ v = 0)) → R (.inl (some (.inl v))) (q_put σ (m_th ι 0) κ)) : V_PM_in 14 x X Y (q_put σ ι κ) R := by
  intro P14 P54 P85 p14 p54 p85
  have hN8 := ok.1.1
  have e0 : (0 : Int64).toInt = 0 := rfl
  have e32 : (32 : Int64).toInt = 32 := rfl
  have e24 : (24 : Int64).toInt = 24 := rfl
  refine ⟨hm.k, ?_⟩
  rcases z_isP (σ := σ) hw ok x with ⟨e, c⟩ | ⟨e, i, hi, rfl⟩
  · refine br_t e (p14 _ _ _ _ _ _ _ ⟨hm.k, fun σ1 e1 => ?_⟩)
    rw [e1, q_put_wI]
    refine ⟨hm.k, br_t ?_ (p54 _ (h1 c))⟩
    show ¬ m_th ι 1 14 0 = 0
    rw [m_th_0]; decide
  · refine br_f (by rw [e]; decide) (p14 _ _ _ _ _ _ _ ⟨hm.k, fun σ1 e1 => ?_⟩)
    rw [e1, q_put_wI]
    refine ⟨hm.k, br_f ?_ ?_⟩
    · show ¬ ¬ m_th ι 0 14 0 = 0
      rw [m_th_0]; decide
    have hno : ¬ (0 ≤ X.toInt ∧ X.toInt < 32 ∧ 0 ≤ Y.toInt ∧ Y.toInt < 24) → P54 (q_put σ (va_up ι 14 (va_up (ι 14) 0 0)) κ) := fun c => p54 _ (h0 i hi rfl 0 (Or.inr ⟨by
      rintro ⟨a, b, c1, c2, c3⟩
      have := b_lt c3.2
      have := c3.1
      omega, rfl⟩))
    simp only [lg_cmp_lt, lg_cmp_ge, iL_lt, iL_le, e0, e32, e24]
    refine br_c (fun c => hno (by omega)) (fun c => br_c (fun c2 => hno (by omega)) (fun c2 => br_c (fun c3 => hno (by omega)) (fun c3 => br_c (fun c4 => ?_) (fun c4 => hno (by omega)))))
    obtain ⟨b, hb⟩ : ∃ b : Nat, Y.toInt = b := ⟨Y.toInt.toNat, by omega⟩
    obtain ⟨a, ha⟩ : ∃ a : Nat, X.toInt = a := ⟨X.toInt.toNat, by omega⟩
    have ea : X.toInt32 = nI a := by rw [iL_of X, ha, l2i, iI_nI]
    have eb : Y.toInt32 = nI b := by rw [iL_of Y, hb, l2i, iI_nI]
    have e24' : (24 : Int32) * nI i + nI b = nI (24 * i + b) := by rw [show (24 : Int32) = nI 24 from rfl, pk_mul, nI_add]
    have cc : (nI (24 * i + b)).toNatClampNeg = 24 * i + b := nI_clamp (by omega)
    have vv : vp_in (nI (24 * i + b)) 192 := vp_in_nI (by omega) (by omega)
    have kv : κ 31 (24 * i + b) = zx (a_fi A i b) := (hw.2.1 i hi).1 b (by omega)
    simp only [q_put_K, q_put_P, q_put_Z, q_put_L, hm.k, hm.p21, hm.k21, hm.z21, ea, eb, e24', cc, vv, kv, true_and, lg_cmp_eq, z_bit_iff (show a < 32 by omega)]
    refine br_c (fun c5 => p85 _ _ ⟨Or.inl rfl, h0 i hi rfl 0 (Or.inr ⟨?_, rfl⟩)⟩) (fun c5 => p85 _ _ ⟨Or.inr rfl, h0 i hi rfl 1 (Or.inl ⟨⟨a, b, ha, hb, by omega, Decidable.not_not.mp c5⟩, rfl⟩)⟩)
    rintro ⟨a', b', d1, d2, d3⟩
    have q1 : a' = a := by omega
    have q2 : b' = b := by omega
    subst q1 q2
    exact c5 d3.2
theorem m_rings {A : a_A} {σ : q_S} {ι : Nat → Nat → Int32} {κ : Nat → Nat → Int64} {x p : Int32} (hm : m_S σ) (hw : w_m A ι κ) (ok : a_ok A) (np : a_np A) {R : q_O → q_S → Prop}
    (h1 : ((x < 0 ∨ nI (a_N A) ≤ x) ∨ ∃ i, i < a_N A ∧ x = nI i ∧ (p < 0 ∨ nI (a_pc A i) ≤ p)) → ∀ κ' : Nat → Nat → Int64, (∀ a, a ≠ 39 → a ≠ 41 → κ' a = κ a) → R (.inl (some (.inl 0))) (q_put σ (m_th ι 1) κ'))
    (h0 : ∀ i j c, i < a_N A → x = nI i → p = nI j → j < a_pc A i → z_he (z_co (z_gp (z_in (a_fi A i)) j)) c → ∀ κ' : Nat → Nat → Int64, (∀ a, a ≠ 39 → a ≠ 41 → κ' a = κ a) → R (.inl (some (.inl (nI (c + 1))))) (q_put σ (m_th ι 0) κ')) : V_PM_rings 14 x p (q_put σ ι κ) R := by
  have hN8 := ok.1.1
  refine v_ringsM (F := a_fi A) (M := a_pc A) hm.mp ⟨hm.p21, hm.k21, hm.z21⟩ (by omega) hw.1.1.1 hN8 (fun i hi y hy => (hw.2.1 i hi).1 y hy) (fun i hi => ⟨(np i hi).1, (np i hi).2.1⟩) (fun κ' c f => ?_) (fun i j c e1 hi e2 hj hc κ' f => h0 i j c hi e1 e2 hj hc κ' f)
  refine h1 ?_ κ' f
  rcases c with (c | c) | ⟨i, j, e1, hi, e2, hj, hM⟩
  · exact Or.inl c
  · rcases Classical.em (x < 0 ∨ nI (a_N A) ≤ x) with q | q
    · exact Or.inl q
    · have q1 : ¬ x < 0 := fun q2 => q (Or.inl q2)
      obtain ⟨i, hi31, rfl⟩ := nI_of q1
      have hi : i < a_N A := by
        rcases Nat.lt_or_ge i (a_N A) with q2 | q2
        · exact q2
        · exact absurd (Or.inr (nI_le q2 hi31)) q
      exact Or.inr ⟨i, hi, rfl, Or.inl c⟩
  · refine Or.inr ⟨i, hi, e1, Or.inr ?_⟩
    rw [e2]; exact nI_le hM hj
