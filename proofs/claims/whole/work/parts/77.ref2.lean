/-! CALLS OF THE REFERENCE THAT CHANGE A PLANE OR A RULE -/
theorem a_hat_id (A : a_A) (i : Nat) : a_hat A i (a_hs A i) (a_hw A i) = A := by
  unfold a_hat
  show (va_up (va_up A.1 4 (va_up (A.1 4) i (A.1 4 i))) 5 (va_up (A.1 5) i (A.1 5 i)), A.2) = A
  rw [up_id (A.1 4), up_id A.1, up_id (A.1 5), up_id A.1]
theorem a_rul_id (A : a_A) (k : Nat) : a_rul A k (a_ru A k) = A := by
  unfold a_rul
  show (va_up A.1 1 (va_up (A.1 1) k (A.1 1 k)), A.2) = A
  rw [up_id (A.1 1), up_id A.1]

theorem w_m.hat {A : a_A} {ι ι' : Nat → Nat → Int32} {κ : Nat → Nat → Int64} {i a b : Nat} (hw : w_m A ι κ) (hi : i < a_N A) (f14 : ∀ j, j ≠ 0 → ι' 14 j = ι 14 j) (fo : ∀ t, (14 < t ∧ t < 35 ∧ t ≠ 22 ∧ t ≠ 23) → ι' t = ι t) (f22 : ι' 22 = va_up (ι 22) i (nI a)) (f23 : ι' 23 = va_up (ι 23) i (nI b)) : w_m (a_hat A i a b) ι' κ := by
  have j1 := f14 1 (by omega)
  have j2 := f14 2 (by omega)
  have j12 := f14 12 (by omega)
  have j16 := f14 16 (by omega)
  have i15 := fo 15 (by omega)
  have i16 := fo 16 (by omega)
  have i17 := fo 17 (by omega)
  have i18 := fo 18 (by omega)
  have i19 := fo 19 (by omega)
  have i24 := fo 24 (by omega)
  have i25 := fo 25 (by omega)
  have i27 := fo 27 (by omega)
  have i28 := fo 28 (by omega)
  have i29 := fo 29 (by omega)
  have i30 := fo 30 (by omega)
  have i33 := fo 33 (by omega)
  have i34 := fo 34 (by omega)




  obtain ⟨⟨hP, hD, hE, hU, hly⟩, hF, hZ⟩ := hw
  unfold m_P m_R m_O m_D m_E m_U m_F m_Z at *
  unfold w_m m_0 m_P m_R m_O m_D m_E m_U m_F m_Z
  simp only [j1, j2, j12, j16, i15, i16, i17, i18, i19, i24, i25, i27, i28, i29, i30, i33, i34]
  refine ⟨⟨⟨hP.1, fun q hq => ?_⟩, hD, hE, hU, hly⟩, hF, fun q h1 h2 => ?_⟩
  · obtain ⟨c1, c2, c3, c4, c5, c6⟩ := hP.2 q hq
    refine ⟨c1, c2, c3, ?_, ?_, c6⟩
    · rw [f22]
      show _ = nI (va_up (A.1 4) i a q)
      by_cases c : q = i
      · rw [c, up_s, up_s]
      · rw [up_n c, up_n c]; exact c4
    · rw [f23]
      show _ = nI (va_up (A.1 5) i b q)
      by_cases c : q = i
      · rw [c, up_s, up_s]
      · rw [up_n c, up_n c]; exact c5
  · have h1' : a_N A ≤ q := h1
    rw [f22, f23, up_n (by omega), up_n (by omega)]
    exact hZ q h1 h2

theorem w_m.rul {A : a_A} {ι ι' : Nat → Nat → Int32} {κ : Nat → Nat → Int64} {k a : Nat} (hw : w_m A ι κ) (f14 : ∀ j, j ≠ 0 → ι' 14 j = ι 14 j) (fo : ∀ t, (14 < t ∧ t < 35 ∧ t ≠ 30) → ι' t = ι t) (f30 : ι' 30 = va_up (ι 30) k (nI a)) : w_m (a_rul A k a) ι' κ := by
  have j1 := f14 1 (by omega)
  have j2 := f14 2 (by omega)
  have j12 := f14 12 (by omega)
  have j16 := f14 16 (by omega)
  have i15 := fo 15 (by omega)
  have i16 := fo 16 (by omega)
  have i17 := fo 17 (by omega)
  have i18 := fo 18 (by omega)
  have i19 := fo 19 (by omega)
  have i22 := fo 22 (by omega)
  have i23 := fo 23 (by omega)
  have i24 := fo 24 (by omega)
  have i25 := fo 25 (by omega)
  have i27 := fo 27 (by omega)
  have i28 := fo 28 (by omega)
  have i29 := fo 29 (by omega)
  have i33 := fo 33 (by omega)
  have i34 := fo 34 (by omega)
  obtain ⟨⟨hP, hD, hE, hU, hly⟩, hF, hZ⟩ := hw
  unfold m_P m_R m_O m_D m_E m_U m_F m_Z at *
  unfold w_m m_0 m_P m_R m_O m_D m_E m_U m_F m_Z
  simp only [j1, j2, j12, j16, i15, i16, i17, i18, i19, i22, i23, i24, i25, i27, i28, i29, i33, i34]
  refine ⟨⟨hP, hD, hE, fun j hj => ?_, hly⟩, hF, hZ⟩
  rw [f30]
  show _ = nI (va_up (A.1 1) k a j)
  by_cases c : j = k
  · rw [c, up_s, up_s]
  · rw [up_n c, up_n c]; exact hU j hj
theorem m_hatch {A : a_A} {σ : q_S} {ι : Nat → Nat → Int32} {κ : Nat → Nat → Int64} {x : Int32} {X Y : Int64} (hm : m_S σ) (hw : w_m A ι κ) (ok : a_ok A) {R : q_O → q_S → Prop}
    (h1 : (x < 0 ∨ nI (a_N A) ≤ x) → R (.inl (some (.inl 0))) (q_put σ (m_th ι 1) κ))
    (h2 : ∀ i, i < a_N A → x = nI i → ¬ (0 ≤ X.toInt ∧ X.toInt ≤ 16 ∧ 0 ≤ Y.toInt ∧ Y.toInt ≤ X.toInt) → R (.inl (some (.inl 0))) (q_put σ (m_th ι 2) κ))
    (h4 : ∀ i (a b : Nat), i < a_N A → x = nI i → X.toInt = a → Y.toInt = b → a ≤ 16 → b ≤ a → ∀ (ι' : Nat → Nat → Int32) (v : Int32), w_m (a_hat A i a b) ι' κ → (∀ t, (t < 14 ∨ 41 < t) → ι' t = ι t) → ι' 14 0 = 0 → ((a_hs A i = a ∧ a_hw A i = b ∧ v = 0) ∨ (¬ (a_hs A i = a ∧ a_hw A i = b) ∧ v = 1)) → R (.inl (some (.inl v))) (q_put σ ι' κ)) : V_PM_hatch 14 x X Y (q_put σ ι κ) R := by
  intro P41 P46 P81 P83 p41 p46 p81 p83
  have hN8 := ok.1.1
  have e0 : (0 : Int64).toInt = 0 := rfl
  have e16 : (16 : Int64).toInt = 16 := rfl
  refine ⟨hm.k, ?_⟩
  rcases z_isP (σ := σ) hw ok x with ⟨e, c⟩ | ⟨e, i, hi, rfl⟩
  · refine br_f (by rw [e]; decide) (p46 _ _ _ _ _ _ _ ⟨hm.k, fun σ1 e1 => ?_⟩)
    rw [e1, q_put_wI]
    refine ⟨hm.k, br_t ?_ (p81 _ (h1 c))⟩
    show ¬ m_th ι 1 14 0 = 0
    rw [m_th_0]; decide
  · have ht : ¬ (0 ≤ X.toInt ∧ X.toInt ≤ 16 ∧ 0 ≤ Y.toInt ∧ Y.toInt ≤ X.toInt) → P41 14 (nI i) X Y 14 (q_put σ ι κ) := fun c => by
      refine p41 _ _ _ _ _ _ (p46 _ _ _ _ _ _ _ ⟨hm.k, fun σ1 e1 => ?_⟩)
      rw [e1, q_put_wI]
      refine ⟨hm.k, br_t ?_ (p81 _ (h2 i hi rfl c))⟩
      show ¬ m_th ι 2 14 0 = 0
      rw [m_th_0]; decide
    refine br_t (by rw [e]; decide) ?_
    simp only [lg_cmp_lt, lg_cmp_gt, lg_cmp_le, iL_lt, iL_le, e0, e16]
    refine br_c (fun c => ht (by omega)) (fun c => br_c (fun c2 => ht (by omega)) (fun c2 => br_c (fun c3 => ht (by omega)) (fun c3 => br_c (fun c4 => ?_) (fun c4 => ht (by omega)))))
    obtain ⟨a, ha⟩ : ∃ a : Nat, X.toInt = a := ⟨X.toInt.toNat, by omega⟩
    obtain ⟨b, hb⟩ : ∃ b : Nat, Y.toInt = b := ⟨Y.toInt.toNat, by omega⟩
    have ea : X.toInt32 = nI a := by rw [iL_of X, ha, l2i, iI_nI]
    have eb : Y.toInt32 = nI b := by rw [iL_of Y, hb, l2i, iI_nI]
    obtain ⟨o1, o2, -⟩ := ok.1.2 i hi
    obtain ⟨-, -, -, n4, n5, -⟩ := hw.1.1.2 i hi
    have q8 : (nI (a_hs A i)).toInt64 = X ↔ a_hs A i = a := by
      rw [iL_eq, i2l_t, nI_toInt (by omega), ha]; omega
    have q9 : (nI (a_hw A i)).toInt64 = Y ↔ a_hw A i = b := by
      rw [iL_eq, i2l_t, nI_toInt (by omega), hb]; omega
    have ci : (nI i).toNatClampNeg = i := nI_clamp (by omega)
    have vi : vp_in (nI i) 8 := vp_in_nI (by omega) (by omega)
    refine p46 _ _ _ _ _ _ _ ⟨hm.k, fun σ1 e1 => ?_⟩
    rw [e1, q_put_wI, show va_up ι 14 (va_up (ι 14) 0 0) = m_th ι 0 from rfl]
    have d0 : m_th ι 0 14 0 = 0 := m_th_0
    have d22 : m_th ι 0 22 = ι 22 := m_th_o (by omega)
    have d23 : m_th ι 0 23 = ι 23 := m_th_o (by omega)
    refine ⟨hm.k, br_f (by rw [q_put_I]; exact fun q => q d0) ?_⟩
    have fin : ¬ (a_hs A i = a ∧ a_hw A i = b) → P83 14 (nI i) X Y (q_put σ (m_th ι 0) κ) := fun c5 => by
      refine p83 _ _ _ _ _ ?_
      simp only [q_put_K, q_put_P, q_put_Z, q_put_wI, hm.k, hm.p10, hm.k10, hm.z10, hm.p11, hm.k11, hm.z11, ci, vi, ea, eb, true_and, forall_eq, d22, up_n (show (23 : Nat) ≠ 22 by omega), d23]
      refine h4 i a b hi rfl ha hb (by omega) (by omega) _ 1 (hw.hat hi (fun j hj => ?_) (fun t ht => ?_) ?_ ?_) (fun t ht => ?_) ?_ (Or.inr ⟨c5, rfl⟩)
      · rw [up_n (by omega), up_n (by omega)]; exact m_th_n hj
      · rw [up_n (by omega), up_n (by omega)]; exact m_th_o (by omega)
      · rw [up_n (by omega), up_s]
      · rw [up_s]
      · rw [up_n (by omega), up_n (by omega)]; exact m_th_o (by omega)
      · rw [up_n (by omega), up_n (by omega)]; exact m_th_0
    simp only [q_put_K, q_put_P, q_put_Z, q_put_I, hm.k, hm.p10, hm.k10, hm.z10, hm.p11, hm.k11, hm.z11, ci, vi, d22, d23, n4, n5, lg_cmp_eq, q8, q9, true_or, true_and]
    refine br_c (fun c5 => fin (fun q => c5 q.1)) (fun c5 => br_c (fun c6 => fin (fun q => c6 q.2)) (fun c6 => p81 _ ?_))
    have c5 := Decidable.not_not.mp c5
    have c6 := Decidable.not_not.mp c6
    refine h4 i a b hi rfl ha hb (by omega) (by omega) _ 0 ?_ (fun t ht => m_th_o (by omega)) m_th_0 (Or.inl ⟨c5, c6, rfl⟩)
    rw [← c5, ← c6, a_hat_id]; exact hw.th 0
theorem m_rule {A : a_A} {σ : q_S} {ι : Nat → Nat → Int32} {κ : Nat → Nat → Int64} {x : Int32} {V : Int64} (hm : m_S σ) (hw : w_m A ι κ) (ok : a_ok A) {R : q_O → q_S → Prop}
    (h1 : (x < 0 ∨ nI 4 ≤ x) → R (.inl (some (.inl 0))) (q_put σ (m_th ι 1) κ))
    (h2 : ∀ k, k < 4 → x = nI k → ¬ ((z_rlo k : Int) ≤ V.toInt ∧ V.toInt ≤ z_rhi k) → R (.inl (some (.inl 0))) (q_put σ (m_th ι 2) κ))
    (h4 : ∀ k (a : Nat), k < 4 → x = nI k → V.toInt = a → z_rlo k ≤ a → a ≤ z_rhi k → ∀ (ι' : Nat → Nat → Int32) (v : Int32), w_m (a_rul A k a) ι' κ → (∀ t, (t < 14 ∨ 41 < t) → ι' t = ι t) → ι' 14 0 = 0 → ((a_ru A k = a ∧ v = 0) ∨ (¬ a_ru A k = a ∧ v = 1)) → R (.inl (some (.inl v))) (q_put σ ι' κ)) : V_PM_rule 14 x V (q_put σ ι κ) R := by
  intro P10 P21 P41 P53 P71 P76 P98 p10 p21 p41 p53 p71 p76 p98
  obtain ⟨u0, u1, u2, u3, u4⟩ := ok.2.2.2.1
  have hU := hw.1.2.2.2.1
  have h53 : (x < 0 ∨ nI 4 ≤ x) → P53 14 x V 14 (q_put σ ι κ) := fun c => by
    refine p53 _ _ _ _ _ (p76 _ _ _ _ _ _ ⟨hm.k, fun σ1 e1 => ?_⟩)
    rw [e1, q_put_wI]
    refine ⟨hm.k, br_t ?_ (p98 _ (h1 c))⟩
    show ¬ m_th ι 1 14 0 = 0
    rw [m_th_0]; decide
  have h41 : ∀ lo hi : Int64, (∀ k, k < 4 → x = nI k → lo.toInt = z_rlo k ∧ hi.toInt = z_rhi k) → P41 14 x V lo hi (q_put σ ι κ) := fun lo hi hlh => by
    refine p41 _ _ _ _ _ _ (br_c (fun c => h53 (Or.inl c)) (fun c => ?_))
    obtain ⟨k, hk31, rfl⟩ := nI_of c
    refine pk_le k 3 (fun c2 => ?_) (fun c2 => h53 (Or.inr (nI_le (by omega) hk31)))
    obtain ⟨el, eh⟩ := hlh k (by omega) rfl
    have h71 : ¬ ((z_rlo k : Int) ≤ V.toInt ∧ V.toInt ≤ z_rhi k) → P71 14 (nI k) V 14 (q_put σ ι κ) := fun c3 => by
      refine p71 _ _ _ _ _ (p76 _ _ _ _ _ _ ⟨hm.k, fun σ1 e1 => ?_⟩)
      rw [e1, q_put_wI]
      refine ⟨hm.k, br_t ?_ (p98 _ (h2 k (by omega) rfl c3))⟩
      show ¬ m_th ι 2 14 0 = 0
      rw [m_th_0]; decide
    simp only [lg_cmp_lt, lg_cmp_le, iL_lt, iL_le, el, eh]
    refine br_c (fun c3 => h71 (by omega)) (fun c3 => br_c (fun c4 => ?_) (fun c4 => h71 (by omega)))
    obtain ⟨a, ha⟩ : ∃ a : Nat, V.toInt = a := ⟨V.toInt.toNat, by omega⟩
    have ea : V.toInt32 = nI a := by rw [iL_of V, ha, l2i, iI_nI]
    have ck : (nI k).toNatClampNeg = k := nI_clamp (by omega)
    have vk : vp_in (nI k) 4 := vp_in_nI (by omega) (by omega)
    have ruk : a_ru A k ≤ 1000 := by
      rcases (show k = 0 ∨ k = 1 ∨ k = 2 ∨ k = 3 by omega) with e | e | e | e <;> rw [e] <;> omega
    have l1 := z_rhi_le k
    have q8 : (nI (a_ru A k)).toInt64 = V ↔ a_ru A k = a := by
      rw [iL_eq, i2l_t, nI_toInt (by omega), ha]; omega
    have d0 : m_th ι 0 14 0 = 0 := m_th_0
    have d30 : m_th ι 0 30 = ι 30 := m_th_o (by omega)
    have i30 : ι 30 k = nI (a_ru A k) := hU k (by omega)
    refine p76 _ _ _ _ _ _ ⟨hm.k, fun σ1 e1 => ?_⟩
    rw [e1, q_put_wI, show va_up ι 14 (va_up (ι 14) 0 0) = m_th ι 0 from rfl]
    refine ⟨hm.k, br_f (by rw [q_put_I]; exact fun q => q d0) ?_⟩
    simp only [q_put_K, q_put_P, q_put_Z, q_put_I, q_put_wI, hm.k, hm.p20, hm.k20, hm.z20, ck, vk, ea, d30, i30, lg_cmp_eq, q8, true_or, true_and, forall_eq]
    refine br_c (fun c5 => ?_) (fun c5 => p98 _ ?_)
    · refine h4 k a (by omega) rfl ha (by omega) (by omega) _ 1 (hw.rul (fun j hj => ?_) (fun t ht => ?_) ?_) (fun t ht => ?_) ?_ (Or.inr ⟨c5, rfl⟩)
      · rw [up_n (by omega)]; exact m_th_n hj
      · rw [up_n (by omega)]; exact m_th_o (by omega)
      · rw [up_s]
      · rw [up_n (by omega)]; exact m_th_o (by omega)
      · rw [up_n (by omega)]; exact m_th_0
    · have c5 := Decidable.not_not.mp c5
      refine h4 k a (by omega) rfl ha (by omega) (by omega) _ 0 ?_ (fun t ht => m_th_o (by omega)) m_th_0 (Or.inl ⟨c5, rfl⟩)
      rw [← c5, a_rul_id]; exact hw.th 0
  have nk : ∀ a b : Nat, a < 4 → b < 4 → x = nI a → x = nI b → a = b := fun a b h1 h2 h3 h4 => (nI_eq (by omega) (by omega)).mp (h3.symm.trans h4)
  have h10 : ∀ lo : Int64, (∀ k, k < 4 → x = nI k → lo.toInt = z_rlo k) → P10 14 x V lo (q_put σ ι κ) := fun lo hlo => by
    refine p10 _ _ _ _ _ (br_c (fun c => p21 _ _ _ _ _ (h41 _ _ (fun k hk e => ⟨hlo k hk e, ?_⟩))) (fun c => br_c (fun c2 => br_c (fun c3 => h41 _ _ (fun k hk e => ⟨hlo k hk e, ?_⟩)) (fun c3 => h41 _ _ (fun k hk e => ⟨hlo k hk e, ?_⟩))) (fun c2 => p21 _ _ _ _ _ (h41 _ _ (fun k hk e => ⟨hlo k hk e, ?_⟩)))))
    · have : k = 0 := nk k 0 hk (by omega) e c
      subst this; rfl
    · rcases (show k = 0 ∨ k = 1 ∨ k = 2 ∨ k = 3 by omega) with q | q | q | q <;> subst q
      · exact absurd e c
      · exact absurd e c3
      · exact absurd e c2
      · rfl
    · have : k = 1 := nk k 1 hk (by omega) e (Decidable.not_not.mp c3)
      subst this; rfl
    · have : k = 2 := nk k 2 hk (by omega) e (Decidable.not_not.mp c2)
      subst this; rfl
  refine br_c (fun c => h10 0 (fun k hk e => ?_)) (fun c => h10 1 (fun k hk e => ?_))
  · have : k ≠ 2 := fun q => by subst q; exact c e
    unfold z_rlo
    rw [if_neg this]; rfl
  · have : k = 2 := nk k 2 hk (by omega) e (Decidable.not_not.mp c)
    subst this; rfl
