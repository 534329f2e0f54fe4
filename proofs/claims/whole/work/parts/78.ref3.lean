/-! CORNERS AND RINGS, BY THE REFERENCE -/
theorem w_m.cor {A : a_A} {ι ι' : Nat → Nat → Int32} {κ κ' : Nat → Nat → Int64} {i a b : Nat} (hw : w_m A ι κ) (ok : a_ok A) (hi : i < a_N A) (hrc : a_rc A i < 4) (hoc : a_oc A i < 12) (f14 : ∀ j, j ≠ 0 → ι' 14 j = ι 14 j) (fo : ∀ t, (14 < t ∧ t < 35 ∧ t ≠ 19) → ι' t = ι t) (fk : ∀ t, (t < 32 ∧ t ≠ 20 ∧ t ≠ 21) → κ' t = κ t) (f19 : ι' 19 = va_up (ι 19) (4 * i + a_rc A i) (nI (a_oc A i + 1))) (g20 : κ' 20 = va_up (κ 20) (12 * (4 * i + a_rc A i) + a_oc A i) (iL a)) (g21 : κ' 21 = va_up (κ 21) (12 * (4 * i + a_rc A i) + a_oc A i) (iL b)) : w_m (a_cor A i a b) ι' κ' := by
  have j1 := f14 1 (by omega)
  have j2 := f14 2 (by omega)
  have j12 := f14 12 (by omega)
  have j16 := f14 16 (by omega)
  have i15 := fo 15 (by omega)
  have i16 := fo 16 (by omega)
  have i17 := fo 17 (by omega)
  have i18 := fo 18 (by omega)
  have i22 := fo 22 (by omega)
  have i23 := fo 23 (by omega)
  have i24 := fo 24 (by omega)
  have i25 := fo 25 (by omega)
  have i27 := fo 27 (by omega)
  have i28 := fo 28 (by omega)
  have i29 := fo 29 (by omega)
  have i30 := fo 30 (by omega)
  have i33 := fo 33 (by omega)
  have i34 := fo 34 (by omega)
  have k26 := fk 26 (by omega)
  have k31 := fk 31 (by omega)
  obtain ⟨⟨hP, hD, hE, hU, hly⟩, hF, hZ⟩ := hw
  have hP0 := hP
  unfold m_D m_E m_U m_F m_Z at *
  unfold w_m m_0 m_P m_D m_E m_U m_F m_Z
  simp only [j1, j2, j12, j16, i15, i16, i17, i18, i22, i23, i24, i25, i27, i28, i29, i30, i33, i34, k26, k31]
  refine ⟨⟨⟨hP.1, fun q hq => ?_⟩, hD, hE, hU, hly⟩, hF, fun q h1 h2 => ?_⟩
  · have hq' : q < a_N A := hq
    obtain ⟨c1, c2, c3, c4, c5, ⟨r1, nn, XX, YY, r2, r3⟩, o1, o2⟩ := hP.2 q hq
    have rc4 := (ok.1.2 q hq').2.2.1
    refine ⟨c1, c2, c3, c4, c5, ⟨by rw [i18]; exact r1, nn, XX, YY, fun j hj => ?_, r3⟩, fun j hj1 hj2 => ?_, fun hr4 => ?_⟩
    · have hj' : j < a_rc A q := hj
      obtain ⟨d1, d2, d3, d4⟩ := r2 j hj
      have hne : 4 * q + j ≠ 4 * i + a_rc A i := fun e => by
        have : q = i := by omega
        subst this
        omega
      refine ⟨by rw [f19, up_n hne]; exact d1, d2, d3, fun k hk => ?_⟩
      rw [g20, g21, up_n (by omega), up_n (by omega)]
      exact d4 k hk
    · have hj1' : a_rc A q < j := hj1
      rw [f19, up_n (fun e => by
        have : q = i := by omega
        subst this
        omega)]
      exact o1 j hj1 hj2
    · have hr4' : a_rc A q < 4 := hr4
      obtain ⟨d1, d2⟩ := o2 hr4
      show ι' 19 (4 * q + a_rc A q) = nI (va_up (A.1 3) i (a_oc A i + 1) q) ∧ ∀ k, k < va_up (A.1 3) i (a_oc A i + 1) q → κ' 20 (12 * (4 * q + a_rc A q) + k) = iL (va_up A.2.2.1 i (va_up (A.2.2.1 i) (a_oc A i) a) q k) ∧ κ' 21 (12 * (4 * q + a_rc A q) + k) = iL (va_up A.2.2.2.1 i (va_up (A.2.2.2.1 i) (a_oc A i) b) q k)
      by_cases c : q = i
      · subst c
        rw [f19, up_s, up_s, up_s, up_s]
        refine ⟨rfl, fun k hk => ?_⟩
        rw [g20, g21]
        by_cases c7 : k = a_oc A q
        · subst c7
          rw [up_s, up_s, up_s, up_s]; exact ⟨rfl, rfl⟩
        · rw [up_n (by omega), up_n (by omega), up_n (by omega), up_n (by omega)]
          exact d2 k (by omega)
      · rw [up_n c, up_n c, up_n c, f19, up_n (by omega)]
        refine ⟨d1, fun k hk => ?_⟩
        have oc12 := (ok.1.2 q hq').2.2.2.1
        have hk' : k < a_oc A q := hk
        rw [g20, g21, up_n (by omega), up_n (by omega)]
        exact d2 k hk
  · have h1' : a_N A ≤ q := h1
    obtain ⟨d1, d2, d3⟩ := hZ q h1 h2
    refine ⟨d1, fun j hj => ?_, d3⟩
    rw [f19, up_n (by omega)]
    exact d2 j hj
theorem w_m.rin {A : a_A} {ι ι' : Nat → Nat → Int32} {κ : Nat → Nat → Int64} {i : Nat} (hw : w_m A ι κ) (ok : a_ok A) (hi : i < a_N A) (hrc : a_rc A i < 4) (hoc : 3 ≤ a_oc A i) (f14 : ∀ j, j ≠ 0 → ι' 14 j = ι 14 j) (fo : ∀ t, (14 < t ∧ t < 35 ∧ t ≠ 18) → ι' t = ι t) (f18 : ι' 18 = va_up (ι 18) i (nI (a_rc A i + 1))) : w_m (a_rin A i) ι' κ := by
  have j1 := f14 1 (by omega)
  have j2 := f14 2 (by omega)
  have j12 := f14 12 (by omega)
  have j16 := f14 16 (by omega)
  have i15 := fo 15 (by omega)
  have i16 := fo 16 (by omega)
  have i17 := fo 17 (by omega)
  have i19 := fo 19 (by omega)
  have i22 := fo 22 (by omega)
  have i23 := fo 23 (by omega)
  have i24 := fo 24 (by omega)
  have i25 := fo 25 (by omega)
  have i27 := fo 27 (by omega)
  have i28 := fo 28 (by omega)
  have i29 := fo 29 (by omega)
  have i30 := fo 30 (by omega)
  have i33 := fo 33 (by omega)
  have i34 := fo 34 (by omega)
  obtain ⟨⟨hP, hD, hE, hU, hly⟩, hF, hZ⟩ := hw
  unfold m_D m_E m_U m_F m_Z at *
  unfold w_m m_0 m_P m_D m_E m_U m_F m_Z
  simp only [j1, j2, j12, j16, i15, i16, i17, i19, i22, i23, i24, i25, i27, i28, i29, i30, i33, i34]
  refine ⟨⟨⟨hP.1, fun q hq => ?_⟩, hD, hE, hU, hly⟩, hF, fun q h1 h2 => ?_⟩
  · have hq' : q < a_N A := hq
    obtain ⟨c1, c2, c3, c4, c5, ⟨r1, nn, XX, YY, r2, r3⟩, o1, o2⟩ := hP.2 q hq
    obtain ⟨-, -, rc4, oc12, -, obd⟩ := ok.1.2 q hq'
    refine ⟨c1, c2, c3, c4, c5, ?_, ?_⟩
    · by_cases c : q = i
      · subst c
        obtain ⟨d1, d2⟩ := o2 hrc
        have erc : a_rc (a_rin A q) q = a_rc A q + 1 := up_s _ _ _
        unfold m_R
        rw [erc, i19]
        refine ⟨by rw [f18, up_s], va_up nn (a_rc A q) (a_oc A q), va_up XX (a_rc A q) (a_ox A q), va_up YY (a_rc A q) (a_oy A q), fun j hj => ?_, fun x y hx hy => ?_⟩
        · by_cases c7 : j = a_rc A q
          · subst c7
            rw [up_s, up_s, up_s]
            exact ⟨d1, by omega, oc12, fun k hk => ⟨(d2 k hk).1, (d2 k hk).2, obd k hk⟩⟩
          · rw [up_n c7, up_n c7, up_n c7]
            exact r2 j (by omega)
        · show bt (va_up A.2.2.2.2.1 q (z_tb (z_rp (a_oc A q) (a_ox A q) (a_oy A q)) (A.2.2.2.2.1 q)) q y) x = (z_par (fun j => z_rp (va_up nn (a_rc A q) (a_oc A q) j) (va_up XX (a_rc A q) (a_ox A q) j) (va_up YY (a_rc A q) (a_oy A q) j) x y) (a_rc A q) ^^ z_rp (va_up nn (a_rc A q) (a_oc A q) (a_rc A q)) (va_up XX (a_rc A q) (a_ox A q) (a_rc A q)) (va_up YY (a_rc A q) (a_oy A q) (a_rc A q)) x y)
          rw [up_s, up_s, up_s, up_s, z_tb_at hx hy]
          congr 1
          rw [show A.2.2.2.2.1 q y = a_ou A q y from rfl, r3 x y hx hy]
          refine z_par_congr fun j hj => ?_
          rw [up_n (by omega), up_n (by omega), up_n (by omega)]
      · have erc : a_rc (a_rin A i) q = a_rc A q := up_n c
        have eou : ∀ y, a_ou (a_rin A i) q y = a_ou A q y := fun y => congrFun (up_n c) y
        unfold m_R
        rw [erc, i19, f18, up_n c]
        refine ⟨r1, nn, XX, YY, r2, fun x y hx hy => ?_⟩
        rw [eou]; exact r3 x y hx hy
    · by_cases c : q = i
      · subst c
        have erc : a_rc (a_rin A q) q = a_rc A q + 1 := up_s _ _ _
        have eoc : a_oc (a_rin A q) q = 0 := up_s _ _ _
        unfold m_O
        rw [erc, eoc, i19]
        refine ⟨fun j hj1 hj2 => o1 j (by omega) hj2, fun h9 => ⟨o1 (a_rc A q + 1) (by omega) h9, fun k hk => by omega⟩⟩
      · have erc : a_rc (a_rin A i) q = a_rc A q := up_n c
        have eoc : a_oc (a_rin A i) q = a_oc A q := up_n c
        unfold m_O
        rw [erc, eoc, i19]
        exact ⟨o1, o2⟩
  · have h1' : a_N A ≤ q := h1
    rw [f18, up_n (by omega)]
    exact hZ q h1 h2
theorem z_isC (X Y : Int64) : (f_PM_isCorner X Y = 0 ∧ ¬ (0 ≤ X.toInt ∧ X.toInt ≤ 32 ∧ 0 ≤ Y.toInt ∧ Y.toInt ≤ 24)) ∨ (f_PM_isCorner X Y = 1 ∧ (0 ≤ X.toInt ∧ X.toInt ≤ 32 ∧ 0 ≤ Y.toInt ∧ Y.toInt ≤ 24)) := by
  have e0 : (0 : Int64).toInt = 0 := rfl
  have e32 : (32 : Int64).toInt = 32 := rfl
  have e24 : (24 : Int64).toInt = 24 := rfl
  unfold f_PM_isCorner
  by_cases c1 : X < 0
  · rw [if_pos ((lg_cmp_lt X 0).mpr c1)]
    rw [iL_lt, e0] at c1
    exact Or.inl ⟨rfl, by omega⟩
  · rw [if_neg (fun q => c1 ((lg_cmp_lt X 0).mp q))]
    rw [iL_lt, e0] at c1
    by_cases c2 : 32 < X
    · rw [if_pos ((lg_cmp_gt X 32).mpr c2)]
      rw [iL_lt, e32] at c2
      exact Or.inl ⟨rfl, by omega⟩
    · rw [if_neg (fun q => c2 ((lg_cmp_gt X 32).mp q))]
      rw [iL_lt, e32] at c2
      by_cases c3 : Y < 0
      · rw [if_pos ((lg_cmp_lt Y 0).mpr c3)]
        rw [iL_lt, e0] at c3
        exact Or.inl ⟨rfl, by omega⟩
      · rw [if_neg (fun q => c3 ((lg_cmp_lt Y 0).mp q))]
        rw [iL_lt, e0] at c3
        by_cases c4 : 24 < Y
        · rw [if_pos ((lg_cmp_gt Y 24).mpr c4)]
          rw [iL_lt, e24] at c4
          exact Or.inl ⟨rfl, by omega⟩
        · rw [if_neg (fun q => c4 ((lg_cmp_gt Y 24).mp q))]
          rw [iL_lt, e24] at c4
          exact Or.inr ⟨rfl, by omega, by omega, by omega, by omega⟩
theorem m_corner {A : a_A} {σ : q_S} {ι : Nat → Nat → Int32} {κ : Nat → Nat → Int64} {x : Int32} {X Y : Int64} (hm : m_S σ) (hw : w_m A ι κ) (ok : a_ok A) {R : q_O → q_S → Prop}
    (h1 : (x < 0 ∨ nI (a_N A) ≤ x) → R (.inl (some (.inl 0))) (q_put σ (m_th ι 1) κ))
    (h2 : ∀ i, i < a_N A → x = nI i → ¬ (0 ≤ X.toInt ∧ X.toInt ≤ 32 ∧ 0 ≤ Y.toInt ∧ Y.toInt ≤ 24) → R (.inl (some (.inl 0))) (q_put σ (m_th ι 2) κ))
    (h3 : ∀ i, i < a_N A → x = nI i → (0 ≤ X.toInt ∧ X.toInt ≤ 32 ∧ 0 ≤ Y.toInt ∧ Y.toInt ≤ 24) → (a_oc A i = 12 ∨ a_rc A i = 4) → R (.inl (some (.inl 0))) (q_put σ (m_th ι 0) κ))
    (h4 : ∀ i (a b : Nat), i < a_N A → x = nI i → X.toInt = a → Y.toInt = b → a ≤ 32 → b ≤ 24 → a_oc A i < 12 → a_rc A i < 4 → ∀ (ι' : Nat → Nat → Int32) (κ' : Nat → Nat → Int64), w_m (a_cor A i a b) ι' κ' → (∀ t, (t < 14 ∨ 41 < t) → ι' t = ι t ∧ κ' t = κ t) → ι' 14 0 = 0 → R (.inl (some (.inl 1))) (q_put σ ι' κ')) : V_PM_corner 14 x X Y (q_put σ ι κ) R := by
  intro P27 P47 p27 p47
  have hN8 := ok.1.1
  refine ⟨hm.k, ?_⟩
  rcases z_isP (σ := σ) hw ok x with ⟨e, c⟩ | ⟨e, i, hi, rfl⟩
  · refine br_f (by rw [e]; decide) (p27 _ _ _ _ _ _ _ ⟨hm.k, fun σ1 e1 => ?_⟩)
    rw [e1, q_put_wI]
    refine ⟨hm.k, br_t ?_ (p47 _ (h1 c))⟩
    show ¬ m_th ι 1 14 0 = 0
    rw [m_th_0]; decide
  · refine br_t (by rw [e]; decide) ?_
    rcases z_isC X Y with ⟨o1, o2⟩ | ⟨o1, o2⟩
    · refine br_t o1 (p27 _ _ _ _ _ _ _ ⟨hm.k, fun σ1 e1 => ?_⟩)
      rw [e1, q_put_wI]
      refine ⟨hm.k, br_t ?_ (p47 _ (h2 i hi rfl o2))⟩
      show ¬ m_th ι 2 14 0 = 0
      rw [m_th_0]; decide
    · refine br_f (by rw [o1]; decide) (p27 _ _ _ _ _ _ _ ⟨hm.k, fun σ1 e1 => ?_⟩)
      rw [e1, q_put_wI, show va_up ι 14 (va_up (ι 14) 0 0) = m_th ι 0 from rfl]
      have d0 : m_th ι 0 14 0 = 0 := m_th_0
      have d18 : m_th ι 0 18 = ι 18 := m_th_o (by omega)
      have d19 : m_th ι 0 19 = ι 19 := m_th_o (by omega)
      obtain ⟨-, -, rc4, oc12, oc0, -⟩ := ok.1.2 i hi
      obtain ⟨-, -, -, -, -, ⟨r1, -⟩, -, r2⟩ := hw.1.1.2 i hi
      have ci : (nI i).toNatClampNeg = i := nI_clamp (by omega)
      have vi : vp_in (nI i) 8 := vp_in_nI (by omega) (by omega)
      refine ⟨hm.k, br_f (by rw [q_put_I]; exact fun q => q d0) ?_⟩
      simp only [q_put_K, q_put_P, q_put_Z, q_put_I, hm.k, hm.p6, hm.k6, hm.z6, ci, vi, d18, r1, true_or, true_and]
      refine br_c (fun c => ?_) (fun c => p47 _ (h3 i hi rfl o2 (Or.inr ((nI_eq (b := 4) (by omega) (by omega)).mp (Decidable.not_not.mp c)))))
      have hrc : a_rc A i < 4 := by
        rcases Nat.lt_or_ge (a_rc A i) 4 with q | q
        · exact q
        · exfalso
          have : a_rc A i = 4 := by omega
          rw [this] at c
          exact c rfl
      have e4 : (4 : Int32) * nI i + nI (a_rc A i) = nI (4 * i + a_rc A i) := by rw [show (4 : Int32) = nI 4 from rfl, pk_mul, nI_add]
      have c4 : (nI (4 * i + a_rc A i)).toNatClampNeg = 4 * i + a_rc A i := nI_clamp (by omega)
      have v4 : vp_in (nI (4 * i + a_rc A i)) 32 := vp_in_nI (by omega) (by omega)
      have i19 : ι 19 (4 * i + a_rc A i) = nI (a_oc A i) := (r2 hrc).1
      simp only [e4, forall_eq, hm.p7, hm.k7, hm.z7, c4, v4, d19, i19, true_or, true_and]
      refine br_c (fun c2 => ?_) (fun c2 => h3 i hi rfl o2 (Or.inl ((nI_eq (b := 12) (by omega) (by omega)).mp (Decidable.not_not.mp c2))))
      have hoc : a_oc A i < 12 := by
        rcases Nat.lt_or_ge (a_oc A i) 12 with q | q
        · exact q
        · exfalso
          have : a_oc A i = 12 := by omega
          rw [this] at c2
          exact c2 rfl
      obtain ⟨a, ha⟩ : ∃ a : Nat, X.toInt = a := ⟨X.toInt.toNat, by omega⟩
      obtain ⟨b, hb⟩ : ∃ b : Nat, Y.toInt = b := ⟨Y.toInt.toNat, by omega⟩
      have eX : X = iL a := by rw [iL_of X, ha]
      have eY : Y = iL b := by rw [iL_of Y, hb]
      have e12 : (12 : Int32) * nI (4 * i + a_rc A i) + nI (a_oc A i) = nI (12 * (4 * i + a_rc A i) + a_oc A i) := by rw [show (12 : Int32) = nI 12 from rfl, pk_mul, nI_add]
      have c12 : (nI (12 * (4 * i + a_rc A i) + a_oc A i)).toNatClampNeg = 12 * (4 * i + a_rc A i) + a_oc A i := nI_clamp (by omega)
      have v12 : vp_in (nI (12 * (4 * i + a_rc A i) + a_oc A i)) 384 := vp_in_nI (by omega) (by omega)
      simp only [q_put_K, q_put_P, q_put_Z, q_put_I, q_put_wI, q_put_wL, hm.k, hm.p7, hm.k7, hm.z7, hm.p8, hm.k8, hm.z8, hm.p9, hm.k9, hm.z9, c4, v4, d19, i19, e12, c12, v12, true_or, true_and, forall_eq, up_n (show (21 : Nat) ≠ 20 by omega), nI_1]
      refine h4 i a b hi rfl ha hb (by omega) (by omega) hoc hrc _ _ (hw.cor ok hi hrc hoc (fun j hj => ?_) (fun t ht => ?_) (fun t ht => ?_) ?_ ?_ ?_) (fun t ht => ⟨?_, ?_⟩) ?_
      · rw [up_n (by omega)]; exact m_th_n hj
      · rw [up_n (by omega)]; exact m_th_o (by omega)
      · rw [up_n (by omega), up_n (by omega)]
      · rw [up_s]
      · rw [up_n (by omega), up_s, eX]
      · rw [up_s, eY]
      · rw [up_n (by omega)]; exact m_th_o (by omega)
      · rw [up_n (by omega), up_n (by omega)]
      · rw [up_n (by omega)]; exact m_th_0
theorem m_ring {A : a_A} {σ : q_S} {ι : Nat → Nat → Int32} {κ : Nat → Nat → Int64} {x : Int32} (hm : m_S σ) (hw : w_m A ι κ) (ok : a_ok A) {R : q_O → q_S → Prop}
    (h1 : (x < 0 ∨ nI (a_N A) ≤ x) → R (.inl (some (.inl 0))) (q_put σ (m_th ι 1) κ))
    (h3 : ∀ i, i < a_N A → x = nI i → a_oc A i < 3 → R (.inl (some (.inl 0))) (q_put σ (m_th ι 0) κ))
    (h4 : ∀ i, i < a_N A → x = nI i → 3 ≤ a_oc A i → a_rc A i < 4 → ∀ (ι' : Nat → Nat → Int32), w_m (a_rin A i) ι' κ → (∀ t, (t < 14 ∨ 41 < t) → ι' t = ι t) → ι' 14 0 = 0 → R (.inl (some (.inl 1))) (q_put σ ι' κ)) : V_PM_ring 14 x (q_put σ ι κ) R := by
  intro P14 P53 p14 p53
  have hN8 := ok.1.1
  refine ⟨hm.k, ?_⟩
  rcases z_isP (σ := σ) hw ok x with ⟨e, c⟩ | ⟨e, i, hi, rfl⟩
  · refine br_t e (p14 _ _ _ _ _ ⟨hm.k, fun σ1 e1 => ?_⟩)
    rw [e1, q_put_wI]
    refine ⟨hm.k, br_t ?_ (p53 _ (h1 c))⟩
    show ¬ m_th ι 1 14 0 = 0
    rw [m_th_0]; decide
  · refine br_f (by rw [e]; decide) (p14 _ _ _ _ _ ⟨hm.k, fun σ1 e1 => ?_⟩)
    rw [e1, q_put_wI, show va_up ι 14 (va_up (ι 14) 0 0) = m_th ι 0 from rfl]
    have d0 : m_th ι 0 14 0 = 0 := m_th_0
    have d18 : m_th ι 0 18 = ι 18 := m_th_o (by omega)
    have d19 : m_th ι 0 19 = ι 19 := m_th_o (by omega)
    obtain ⟨-, -, rc4, oc12, oc0, -⟩ := ok.1.2 i hi
    obtain ⟨-, -, -, -, -, ⟨r1, -⟩, -, r2⟩ := hw.1.1.2 i hi
    have ci : (nI i).toNatClampNeg = i := nI_clamp (by omega)
    have vi : vp_in (nI i) 8 := vp_in_nI (by omega) (by omega)
    refine ⟨hm.k, br_f (by rw [q_put_I]; exact fun q => q d0) ?_⟩
    simp only [q_put_K, q_put_P, q_put_Z, q_put_I, hm.k, hm.p6, hm.k6, hm.z6, ci, vi, d18, r1, true_or, true_and]
    refine br_c (fun c => p53 _ (h3 i hi rfl ?_)) (fun c => ?_)
    · have := oc0 ((nI_eq (b := 4) (by omega) (by omega)).mp c)
      omega
    have hrc : a_rc A i < 4 := by
      rcases Nat.lt_or_ge (a_rc A i) 4 with q | q
      · exact q
      · exfalso
        have : a_rc A i = 4 := by omega
        rw [this] at c
        exact c rfl
    have e4 : (4 : Int32) * nI i + nI (a_rc A i) = nI (4 * i + a_rc A i) := by rw [show (4 : Int32) = nI 4 from rfl, pk_mul, nI_add]
    have c4 : (nI (4 * i + a_rc A i)).toNatClampNeg = 4 * i + a_rc A i := nI_clamp (by omega)
    have v4 : vp_in (nI (4 * i + a_rc A i)) 32 := vp_in_nI (by omega) (by omega)
    have i19 : ι 19 (4 * i + a_rc A i) = nI (a_oc A i) := (r2 hrc).1
    simp only [e4, hm.p7, hm.k7, hm.z7, c4, v4, d19, i19, true_or, true_and, forall_eq, q_put_wI, d18, nI_1]
    refine pk_le 3 (a_oc A i) (fun c2 => ?_) (fun c2 => p53 _ (h3 i hi rfl c2))
    refine h4 i hi rfl c2 hrc _ (hw.rin ok hi hrc c2 (fun j hj => ?_) (fun t ht => ?_) ?_) (fun t ht => ?_) ?_
    · rw [up_n (by omega)]; exact m_th_n hj
    · rw [up_n (by omega)]; exact m_th_o (by omega)
    · rw [up_s]
    · rw [up_n (by omega)]; exact m_th_o (by omega)
    · rw [up_n (by omega)]; exact m_th_0
