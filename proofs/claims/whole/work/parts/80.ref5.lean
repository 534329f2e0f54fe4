/-! PLANES, DISCS AND PADS, calls of the reference -/
theorem m_plane {A : a_A} {σ : q_S} {ι : Nat → Nat → Int32} {κ : Nat → Nat → Int64} {n l r : Int32} (hm : m_S σ) (hw : w_m A ι κ) (ok : a_ok A) {R : q_O → q_S → Prop}
    (h1 : ¬ (0 ≤ l.toInt ∧ l.toInt < a_ly A) → R (.inl (some (.inl 0))) (q_put σ (m_th ι 1) κ))
    (h2 : (0 ≤ l.toInt ∧ l.toInt < a_ly A) → ¬ ((0 ≤ n.toInt ∧ n.toInt ≤ 99) ∧ -100 ≤ r.toInt ∧ r.toInt ≤ 100) → R (.inl (some (.inl 0))) (q_put σ (m_th ι 2) κ))
    (h3 : (0 ≤ l.toInt ∧ l.toInt < a_ly A) → ((0 ≤ n.toInt ∧ n.toInt ≤ 99) ∧ -100 ≤ r.toInt ∧ r.toInt ≤ 100) → a_N A = 8 → R (.inl (some (.inl (-1)))) (q_put σ (m_th ι 0) κ))
    (h4 : (0 ≤ l.toInt ∧ l.toInt < a_ly A) → ((0 ≤ n.toInt ∧ n.toInt ≤ 99) ∧ -100 ≤ r.toInt ∧ r.toInt ≤ 100) → a_N A < 8 → ∀ ι' : Nat → Nat → Int32, w_m (a_pln A n l r) ι' κ → (∀ t, (t < 14 ∨ 41 < t) → ι' t = ι t) → ι' 14 0 = 0 → R (.inl (some (.inl (nI (a_N A))))) (q_put σ ι' κ)) : V_PM_plane 14 n l r (q_put σ ι κ) R := by
  intro P36 P37 p36 p37
  have hN8 := ok.1.1
  have em : (-100 : Int32).toInt = -100 := rfl
  have ep : (100 : Int32).toInt = 100 := rfl
  have h37 : ∀ v : Int32, ¬ v = 0 → R (.inl (some (.inl 0))) (q_put σ (m_th ι v) κ) → P37 14 n l r v 14 (q_put σ ι κ) := fun v hv hR => by
    refine p37 _ _ _ _ _ _ _ ⟨hm.k, fun σ1 e1 => ?_⟩
    rw [e1, q_put_wI, show va_up ι 14 (va_up (ι 14) 0 v) = m_th ι v from rfl]
    exact ⟨hm.k, br_f (by rw [q_put_I, m_th_0]; exact hv) hR⟩
  refine ⟨hm.k, ?_⟩
  rcases z_isL (σ := σ) hw ok l with ⟨e, c⟩ | ⟨e, c0⟩
  · exact br_f (by rw [e]; decide) (h37 1 (by decide) (h1 c))
  · refine br_t (by rw [e]; decide) ?_
    have ht : ¬ ((0 ≤ n.toInt ∧ n.toInt ≤ 99) ∧ -100 ≤ r.toInt ∧ r.toInt ≤ 100) → P36 14 n l r 14 (q_put σ ι κ) := fun c => p36 _ _ _ _ _ _ (h37 2 (by decide) (h2 c0 c))
    rcases z_isN n with ⟨e2, c2⟩ | ⟨e2, c2⟩
    · exact br_t e2 (ht (fun q => c2 q.1))
    · refine br_f (by rw [e2]; decide) ?_
      simp only [iI_lt (x := r), iI_lt (y := r), em, ep]
      refine br_c (fun c3 => ht (by omega)) (fun c3 => br_c (fun c4 => ht (by omega)) (fun c4 => ?_))
      have hcond : (0 ≤ n.toInt ∧ n.toInt ≤ 99) ∧ -100 ≤ r.toInt ∧ r.toInt ≤ 100 := ⟨c2, by omega, by omega⟩
      refine p37 _ _ _ _ _ _ _ ⟨hm.k, fun σ1 e1 => ?_⟩
      rw [e1, q_put_wI, show va_up ι 14 (va_up (ι 14) 0 0) = m_th ι 0 from rfl]
      have d0 : m_th ι 0 14 0 = 0 := m_th_0
      have d2 : m_th ι 0 14 2 = nI (a_N A) := by rw [m_th_n (by omega)]; exact hw.1.1.1
      have d15 : m_th ι 0 15 = ι 15 := m_th_o (by omega)
      have d16 : m_th ι 0 16 = ι 16 := m_th_o (by omega)
      have d17 : m_th ι 0 17 = ι 17 := m_th_o (by omega)
      refine ⟨hm.k, br_t (by rw [q_put_I]; exact d0) ⟨hm.k, ?_⟩⟩
      rw [q_put_I, d2]
      refine br_c (fun c5 => ?_) (fun c5 => h3 c0 hcond ((nI_eq (b := 8) (by omega) (by omega)).mp (Decidable.not_not.mp c5)))
      have hlt : a_N A < 8 := by
        rcases Nat.lt_or_ge (a_N A) 8 with q | q
        · exact q
        · exfalso
          have : a_N A = 8 := by omega
          rw [this] at c5
          exact c5 rfl
      have cN : (nI (a_N A)).toNatClampNeg = a_N A := nI_clamp (by omega)
      have vN : vp_in (nI (a_N A)) 8 := vp_in_nI (by omega) (by omega)
      have eout : nI (a_N A + 1) - 1 = nI (a_N A) := by
        have := pk_sub (a := a_N A + 1) (b := 1) (by omega)
        rwa [Nat.add_sub_cancel] at this
      simp only [q_put_K, q_put_P, q_put_Z, q_put_I, q_put_wI, hm.k, hm.p3, hm.k3, hm.z3, hm.p4, hm.k4, hm.z4, hm.p5, hm.k5, hm.z5, cN, vN, d2, d15, d16, d17, true_and, forall_eq, up_s, up_n (show (14 : Nat) ≠ 15 by omega), up_n (show (14 : Nat) ≠ 16 by omega), up_n (show (14 : Nat) ≠ 17 by omega), up_n (show (16 : Nat) ≠ 15 by omega), up_n (show (17 : Nat) ≠ 15 by omega), up_n (show (17 : Nat) ≠ 16 by omega), nI_1, eout]
      refine h4 c0 hcond hlt _ (hw.pln hlt (fun j j0 j2 => ?_) (fun t ht => ?_) ?_ ?_ ?_ ?_) (fun t ht => ?_) ?_
      · rw [up_s, up_n j2]; exact m_th_n j0
      · rw [up_n (by omega), up_n (by omega), up_n (by omega), up_n (by omega)]; exact m_th_o (by omega)
      · rw [up_s, up_s]
      · rw [up_n (by omega), up_n (by omega), up_n (by omega), up_s]
      · rw [up_n (by omega), up_n (by omega), up_s]
      · rw [up_n (by omega), up_s]
      · rw [up_n (by omega), up_n (by omega), up_n (by omega), up_n (by omega)]; exact m_th_o (by omega)
      · rw [up_s, up_n (by omega)]; exact m_th_0
theorem m_obstacle {A : a_A} {σ : q_S} {ι : Nat → Nat → Int32} {κ : Nat → Nat → Int64} {n l : Int32} {X Y Q : Int64} (hm : m_S σ) (hw : w_m A ι κ) (ok : a_ok A) {R : q_O → q_S → Prop}
    (h1 : ¬ (0 ≤ l.toInt ∧ l.toInt < a_ly A) → R (.inl (some (.inl 0))) (q_put σ (m_th ι 1) κ))
    (h2 : (0 ≤ l.toInt ∧ l.toInt < a_ly A) → ¬ ((0 ≤ n.toInt ∧ n.toInt ≤ 99) ∧ (0 ≤ X.toInt ∧ X.toInt ≤ 32 ∧ 0 ≤ Y.toInt ∧ Y.toInt ≤ 24) ∧ 0 ≤ Q.toInt ∧ Q.toInt ≤ 20) → R (.inl (some (.inl 0))) (q_put σ (m_th ι 2) κ))
    (h3 : (0 ≤ l.toInt ∧ l.toInt < a_ly A) → ((0 ≤ n.toInt ∧ n.toInt ≤ 99) ∧ (0 ≤ X.toInt ∧ X.toInt ≤ 32 ∧ 0 ≤ Y.toInt ∧ Y.toInt ≤ 24) ∧ 0 ≤ Q.toInt ∧ Q.toInt ≤ 20) → a_D A = 20 → R (.inl (some (.inl (-1)))) (q_put σ (m_th ι 0) κ))
    (h4 : ∀ x y r : Nat, (0 ≤ l.toInt ∧ l.toInt < a_ly A) → ((0 ≤ n.toInt ∧ n.toInt ≤ 99) ∧ (0 ≤ X.toInt ∧ X.toInt ≤ 32 ∧ 0 ≤ Y.toInt ∧ Y.toInt ≤ 24) ∧ 0 ≤ Q.toInt ∧ Q.toInt ≤ 20) → X.toInt = x → Y.toInt = y → Q.toInt = r → a_D A < 20 → ∀ (ι' : Nat → Nat → Int32) (κ' : Nat → Nat → Int64), w_m (a_obs A n l x y r) ι' κ' → (∀ t, (t < 14 ∨ 41 < t) → ι' t = ι t ∧ κ' t = κ t) → ι' 14 0 = 0 → R (.inl (some (.inl (nI (a_D A))))) (q_put σ ι' κ')) : V_PM_obstacle 14 n l X Y Q (q_put σ ι κ) R := by
  intro P49 P50 p49 p50
  have hD20 := ok.2.1.1
  have e0 : (0 : Int64).toInt = 0 := rfl
  have e20 : (20 : Int64).toInt = 20 := rfl
  have h50 : ∀ v : Int32, ¬ v = 0 → R (.inl (some (.inl 0))) (q_put σ (m_th ι v) κ) → P50 14 n l X Y Q v 14 (q_put σ ι κ) := fun v hv hR => by
    refine p50 _ _ _ _ _ _ _ _ _ ⟨hm.k, fun σ1 e1 => ?_⟩
    rw [e1, q_put_wI, show va_up ι 14 (va_up (ι 14) 0 v) = m_th ι v from rfl]
    exact ⟨hm.k, br_f (by rw [q_put_I, m_th_0]; exact hv) hR⟩
  refine ⟨hm.k, ?_⟩
  rcases z_isL (σ := σ) hw ok l with ⟨e, c⟩ | ⟨e, c0⟩
  · exact br_f (by rw [e]; decide) (h50 1 (by decide) (h1 c))
  · refine br_t (by rw [e]; decide) ?_
    have ht : ¬ ((0 ≤ n.toInt ∧ n.toInt ≤ 99) ∧ (0 ≤ X.toInt ∧ X.toInt ≤ 32 ∧ 0 ≤ Y.toInt ∧ Y.toInt ≤ 24) ∧ 0 ≤ Q.toInt ∧ Q.toInt ≤ 20) → P49 14 n l X Y Q 14 (q_put σ ι κ) := fun c => p49 _ _ _ _ _ _ _ _ (h50 2 (by decide) (h2 c0 c))
    rcases z_isN n with ⟨e2, c2⟩ | ⟨e2, c2⟩
    · exact br_t e2 (ht (fun q => c2 q.1))
    refine br_f (by rw [e2]; decide) ?_
    rcases z_isC X Y with ⟨e3, c3⟩ | ⟨e3, c3⟩
    · exact br_t e3 (ht (fun q => c3 q.2.1))
    refine br_f (by rw [e3]; decide) ?_
    simp only [lg_cmp_lt, lg_cmp_gt, iL_lt, e0, e20]
    refine br_c (fun c4 => ht (by omega)) (fun c4 => br_c (fun c5 => ht (by omega)) (fun c5 => ?_))
    have hcond : (0 ≤ n.toInt ∧ n.toInt ≤ 99) ∧ (0 ≤ X.toInt ∧ X.toInt ≤ 32 ∧ 0 ≤ Y.toInt ∧ Y.toInt ≤ 24) ∧ 0 ≤ Q.toInt ∧ Q.toInt ≤ 20 := ⟨c2, c3, by omega, by omega⟩
    refine p50 _ _ _ _ _ _ _ _ _ ⟨hm.k, fun σ1 e1 => ?_⟩
    rw [e1, q_put_wI, show va_up ι 14 (va_up (ι 14) 0 0) = m_th ι 0 from rfl]
    have d0 : m_th ι 0 14 0 = 0 := m_th_0
    have d12 : m_th ι 0 14 12 = nI (a_D A) := by rw [m_th_n (by omega)]; exact hw.1.2.1.1
    have d24 : m_th ι 0 24 = ι 24 := m_th_o (by omega)
    have d25 : m_th ι 0 25 = ι 25 := m_th_o (by omega)
    refine ⟨hm.k, br_t (by rw [q_put_I]; exact d0) ⟨hm.k, ?_⟩⟩
    rw [q_put_I, d12]
    refine br_c (fun c6 => ?_) (fun c6 => h3 c0 hcond ((nI_eq (b := 20) (by omega) (by omega)).mp (Decidable.not_not.mp c6)))
    have hlt : a_D A < 20 := by
      rcases Nat.lt_or_ge (a_D A) 20 with q | q
      · exact q
      · exfalso
        have : a_D A = 20 := by omega
        rw [this] at c6
        exact c6 rfl
    obtain ⟨x, hx⟩ : ∃ x : Nat, X.toInt = x := ⟨X.toInt.toNat, by omega⟩
    obtain ⟨y, hy⟩ : ∃ y : Nat, Y.toInt = y := ⟨Y.toInt.toNat, by omega⟩
    obtain ⟨r, hrr⟩ : ∃ r : Nat, Q.toInt = r := ⟨Q.toInt.toNat, by omega⟩
    have eX : X = iL x := by rw [iL_of X, hx]
    have eY : Y = iL y := by rw [iL_of Y, hy]
    have eQ : Q = iL r := by rw [iL_of Q, hrr]
    have cN : (nI (a_D A)).toNatClampNeg = a_D A := nI_clamp (by omega)
    have vN : vp_in (nI (a_D A)) 20 := vp_in_nI (by omega) (by omega)
    have e3' : (3 : Int32) * nI (a_D A) = nI (3 * a_D A) := pk_mul 3 _
    have e31 : nI (3 * a_D A) + 1 = nI (3 * a_D A + 1) := nI_add _ 1
    have e32 : nI (3 * a_D A) + 2 = nI (3 * a_D A + 2) := nI_add _ 2
    have q0 : (nI (3 * a_D A)).toNatClampNeg = 3 * a_D A := nI_clamp (by omega)
    have q1 : (nI (3 * a_D A + 1)).toNatClampNeg = 3 * a_D A + 1 := nI_clamp (by omega)
    have q2 : (nI (3 * a_D A + 2)).toNatClampNeg = 3 * a_D A + 2 := nI_clamp (by omega)
    have w0 : vp_in (nI (3 * a_D A)) 60 := vp_in_nI (by omega) (by omega)
    have w1 : vp_in (nI (3 * a_D A + 1)) 60 := vp_in_nI (by omega) (by omega)
    have w2 : vp_in (nI (3 * a_D A + 2)) 60 := vp_in_nI (by omega) (by omega)
    have eout : nI (a_D A + 1) - 1 = nI (a_D A) := by
      have := pk_sub (a := a_D A + 1) (b := 1) (by omega)
      rwa [Nat.add_sub_cancel] at this
    simp only [q_put_K, q_put_P, q_put_Z, q_put_I, q_put_wI, q_put_wL, hm.k, hm.p13, hm.k13, hm.z13, hm.p14, hm.k14, hm.z14, hm.p15, hm.k15, hm.z15, cN, vN, d12, d24, d25, e3', e31, e32, q0, q1, q2, w0, w1, w2, true_and, forall_eq, up_s, z_rws_up, up_n (show (14 : Nat) ≠ 24 by omega), up_n (show (14 : Nat) ≠ 25 by omega), up_n (show (25 : Nat) ≠ 24 by omega), nI_1, eout]
    refine h4 x y r c0 hcond hx hy hrr hlt _ _ (hw.obs (fun j j0 j2 => ?_) (fun t ht => ?_) (fun t ht => ?_) ?_ ?_ ?_ ?_) (fun t ht => ⟨?_, ?_⟩) ?_
    · rw [up_s, up_n j2]; exact m_th_n j0
    · rw [up_n (by omega), up_n (by omega), up_n (by omega)]; exact m_th_o (by omega)
    · rw [up_n (by omega)]
    · rw [up_s, up_s]
    · rw [up_n (by omega), up_n (by omega), up_s]
    · rw [up_n (by omega), up_s]
    · rw [up_s, eX, eY, eQ]
    · rw [up_n (by omega), up_n (by omega), up_n (by omega)]; exact m_th_o (by omega)
    · rw [up_n (by omega)]
    · rw [up_s, up_n (by omega)]; exact m_th_0
theorem m_pad {A : a_A} {σ : q_S} {ι : Nat → Nat → Int32} {κ : Nat → Nat → Int64} {n l : Int32} {X Y Q S : Int64} (hm : m_S σ) (hw : w_m A ι κ) (ok : a_ok A) {R : q_O → q_S → Prop}
    (h1 : ¬ (0 ≤ l.toInt ∧ l.toInt < a_ly A) → R (.inl (some (.inl 0))) (q_put σ (m_th ι 1) κ))
    (h2 : (0 ≤ l.toInt ∧ l.toInt < a_ly A) → ¬ ((0 ≤ n.toInt ∧ n.toInt ≤ 99) ∧ (0 ≤ X.toInt ∧ X.toInt < 32 ∧ 0 ≤ Y.toInt ∧ Y.toInt < 24) ∧ (1 ≤ Q.toInt ∧ Q.toInt ≤ 32 - X.toInt) ∧ 1 ≤ S.toInt ∧ S.toInt ≤ 24 - Y.toInt) → R (.inl (some (.inl 0))) (q_put σ (m_th ι 2) κ))
    (h3 : (0 ≤ l.toInt ∧ l.toInt < a_ly A) → ((0 ≤ n.toInt ∧ n.toInt ≤ 99) ∧ (0 ≤ X.toInt ∧ X.toInt < 32 ∧ 0 ≤ Y.toInt ∧ Y.toInt < 24) ∧ (1 ≤ Q.toInt ∧ Q.toInt ≤ 32 - X.toInt) ∧ 1 ≤ S.toInt ∧ S.toInt ≤ 24 - Y.toInt) → a_E A = 10 → R (.inl (some (.inl (-1)))) (q_put σ (m_th ι 0) κ))
    (h4 : ∀ x y w v : Nat, (0 ≤ l.toInt ∧ l.toInt < a_ly A) → ((0 ≤ n.toInt ∧ n.toInt ≤ 99) ∧ (0 ≤ X.toInt ∧ X.toInt < 32 ∧ 0 ≤ Y.toInt ∧ Y.toInt < 24) ∧ (1 ≤ Q.toInt ∧ Q.toInt ≤ 32 - X.toInt) ∧ 1 ≤ S.toInt ∧ S.toInt ≤ 24 - Y.toInt) → X.toInt = x → Y.toInt = y → Q.toInt = w → S.toInt = v → a_E A < 10 → ∀ (ι' : Nat → Nat → Int32), w_m (a_pad A n l x y w v) ι' κ → (∀ t, (t < 14 ∨ 41 < t) → ι' t = ι t) → ι' 14 0 = 0 → R (.inl (some (.inl (nI (a_E A))))) (q_put σ ι' κ)) : V_PM_pad 14 n l X Y Q S (q_put σ ι κ) R := by
  intro P45 P46 P96 P97 P133 P134 p45 p46 p96 p97 p133 p134
  have hE10 := ok.2.2.1.1
  have e0 : (0 : Int64).toInt = 0 := rfl
  have e1 : (1 : Int64).toInt = 1 := rfl
  have e32 : (32 : Int64).toInt = 32 := rfl
  have e24 : (24 : Int64).toInt = 24 := rfl
  have bX := iL_rg X
  have bY := iL_rg Y
  have h134 : ∀ v : Int32, ¬ v = 0 → R (.inl (some (.inl 0))) (q_put σ (m_th ι v) κ) → P134 14 n l X Y Q S v 14 (q_put σ ι κ) := fun v hv hR => by
    refine p134 _ _ _ _ _ _ _ _ _ _ ⟨hm.k, fun σ1 e1 => ?_⟩
    rw [e1, q_put_wI, show va_up ι 14 (va_up (ι 14) 0 v) = m_th ι v from rfl]
    exact ⟨hm.k, br_f (by rw [q_put_I, m_th_0]; exact hv) hR⟩
  have h97 : ∀ u w : Int32, ((u = 1 ∧ (0 ≤ X.toInt ∧ X.toInt < 32 ∧ 1 ≤ Q.toInt ∧ Q.toInt ≤ 32 - X.toInt)) ∨ (u = 0 ∧ ¬ (0 ≤ X.toInt ∧ X.toInt < 32 ∧ 1 ≤ Q.toInt ∧ Q.toInt ≤ 32 - X.toInt))) → ((w = 1 ∧ (0 ≤ Y.toInt ∧ Y.toInt < 24 ∧ 1 ≤ S.toInt ∧ S.toInt ≤ 24 - Y.toInt)) ∨ (w = 0 ∧ ¬ (0 ≤ Y.toInt ∧ Y.toInt < 24 ∧ 1 ≤ S.toInt ∧ S.toInt ≤ 24 - Y.toInt))) → P97 14 n l X Y Q S u w (q_put σ ι κ) := fun u w hu hw2 => by
    refine p97 _ _ _ _ _ _ _ _ _ _ ⟨hm.k, ?_⟩
    rcases z_isL (σ := σ) hw ok l with ⟨e, c⟩ | ⟨e, c0⟩
    · exact br_f (by rw [e]; decide) (h134 1 (by decide) (h1 c))
    refine br_t (by rw [e]; decide) ?_
    have ht : ¬ ((0 ≤ n.toInt ∧ n.toInt ≤ 99) ∧ (0 ≤ X.toInt ∧ X.toInt < 32 ∧ 0 ≤ Y.toInt ∧ Y.toInt < 24) ∧ (1 ≤ Q.toInt ∧ Q.toInt ≤ 32 - X.toInt) ∧ 1 ≤ S.toInt ∧ S.toInt ≤ 24 - Y.toInt) → P133 14 n l X Y Q S 14 (q_put σ ι κ) := fun c => p133 _ _ _ _ _ _ _ _ _ (h134 2 (by decide) (h2 c0 c))
    rcases z_isN n with ⟨e2, c2⟩ | ⟨e2, c2⟩
    · exact br_t e2 (ht (fun q => c2 q.1))
    refine br_f (by rw [e2]; decide) ?_
    rcases hu.symm with ⟨u1, u2⟩ | ⟨u1, u2⟩
    · exact br_t u1 (ht (by omega))
    refine br_f (by rw [u1]; decide) ?_
    rcases hw2.symm with ⟨v1, v2⟩ | ⟨v1, v2⟩
    · exact br_t v1 (ht (by omega))
    refine br_f (by rw [v1]; decide) ?_
    have hcond : (0 ≤ n.toInt ∧ n.toInt ≤ 99) ∧ (0 ≤ X.toInt ∧ X.toInt < 32 ∧ 0 ≤ Y.toInt ∧ Y.toInt < 24) ∧ (1 ≤ Q.toInt ∧ Q.toInt ≤ 32 - X.toInt) ∧ 1 ≤ S.toInt ∧ S.toInt ≤ 24 - Y.toInt := ⟨c2, ⟨by omega, by omega, by omega, by omega⟩, ⟨by omega, by omega⟩, by omega, by omega⟩
    refine p134 _ _ _ _ _ _ _ _ _ _ ⟨hm.k, fun σ1 e1 => ?_⟩
    rw [e1, q_put_wI, show va_up ι 14 (va_up (ι 14) 0 0) = m_th ι 0 from rfl]
    have d0 : m_th ι 0 14 0 = 0 := m_th_0
    have d16 : m_th ι 0 14 16 = nI (a_E A) := by rw [m_th_n (by omega)]; exact hw.1.2.2.1.1
    have d27 : m_th ι 0 27 = ι 27 := m_th_o (by omega)
    have d28 : m_th ι 0 28 = ι 28 := m_th_o (by omega)
    have d29 : m_th ι 0 29 = ι 29 := m_th_o (by omega)
    refine ⟨hm.k, br_t (by rw [q_put_I]; exact d0) ⟨hm.k, ?_⟩⟩
    rw [q_put_I, d16]
    refine br_c (fun c6 => ?_) (fun c6 => h3 c0 hcond ((nI_eq (b := 10) (by omega) (by omega)).mp (Decidable.not_not.mp c6)))
    have hlt : a_E A < 10 := by
      rcases Nat.lt_or_ge (a_E A) 10 with q | q
      · exact q
      · exfalso
        have : a_E A = 10 := by omega
        rw [this] at c6
        exact c6 rfl
    obtain ⟨x, hx⟩ : ∃ x : Nat, X.toInt = x := ⟨X.toInt.toNat, by omega⟩
    obtain ⟨y, hy⟩ : ∃ y : Nat, Y.toInt = y := ⟨Y.toInt.toNat, by omega⟩
    obtain ⟨w', hww⟩ : ∃ w : Nat, Q.toInt = w := ⟨Q.toInt.toNat, by omega⟩
    obtain ⟨v', hvv⟩ : ∃ v : Nat, S.toInt = v := ⟨S.toInt.toNat, by omega⟩
    have eX : X.toInt32 = nI x := by rw [iL_of X, hx, l2i, iI_nI]
    have eY : Y.toInt32 = nI y := by rw [iL_of Y, hy, l2i, iI_nI]
    have eQ : Q.toInt32 = nI w' := by rw [iL_of Q, hww, l2i, iI_nI]
    have eS : S.toInt32 = nI v' := by rw [iL_of S, hvv, l2i, iI_nI]
    have cN : (nI (a_E A)).toNatClampNeg = a_E A := nI_clamp (by omega)
    have vN : vp_in (nI (a_E A)) 10 := vp_in_nI (by omega) (by omega)
    have e4 : (4 : Int32) * nI (a_E A) = nI (4 * a_E A) := pk_mul 4 _
    have e41 : nI (4 * a_E A) + 1 = nI (4 * a_E A + 1) := nI_add _ 1
    have e42 : nI (4 * a_E A) + 2 = nI (4 * a_E A + 2) := nI_add _ 2
    have e43 : nI (4 * a_E A) + 3 = nI (4 * a_E A + 3) := nI_add _ 3
    have q0 : (nI (4 * a_E A)).toNatClampNeg = 4 * a_E A := nI_clamp (by omega)
    have q1 : (nI (4 * a_E A + 1)).toNatClampNeg = 4 * a_E A + 1 := nI_clamp (by omega)
    have q2 : (nI (4 * a_E A + 2)).toNatClampNeg = 4 * a_E A + 2 := nI_clamp (by omega)
    have q3 : (nI (4 * a_E A + 3)).toNatClampNeg = 4 * a_E A + 3 := nI_clamp (by omega)
    have w0 : vp_in (nI (4 * a_E A)) 40 := vp_in_nI (by omega) (by omega)
    have w1 : vp_in (nI (4 * a_E A + 1)) 40 := vp_in_nI (by omega) (by omega)
    have w2 : vp_in (nI (4 * a_E A + 2)) 40 := vp_in_nI (by omega) (by omega)
    have w3 : vp_in (nI (4 * a_E A + 3)) 40 := vp_in_nI (by omega) (by omega)
    have eout : nI (a_E A + 1) - 1 = nI (a_E A) := by
      have := pk_sub (a := a_E A + 1) (b := 1) (by omega)
      rwa [Nat.add_sub_cancel] at this
    simp only [q_put_K, q_put_P, q_put_Z, q_put_I, q_put_wI, hm.k, hm.p17, hm.k17, hm.z17, hm.p18, hm.k18, hm.z18, hm.p19, hm.k19, hm.z19, cN, vN, d16, d27, d28, d29, eX, eY, eQ, eS, e4, e41, e42, e43, q0, q1, q2, q3, w0, w1, w2, w3, true_and, forall_eq, up_s, z_rws_up, up_n (show (14 : Nat) ≠ 27 by omega), up_n (show (14 : Nat) ≠ 28 by omega), up_n (show (14 : Nat) ≠ 29 by omega), up_n (show (28 : Nat) ≠ 27 by omega), up_n (show (29 : Nat) ≠ 27 by omega), up_n (show (29 : Nat) ≠ 28 by omega), nI_1, eout]
    refine h4 x y w' v' c0 hcond hx hy hww hvv hlt _ (hw.pad (fun j j0 j2 => ?_) (fun t ht => ?_) ?_ ?_ ?_ ?_) (fun t ht => ?_) ?_
    · rw [up_s, up_n j2]; exact m_th_n j0
    · rw [up_n (by omega), up_n (by omega), up_n (by omega), up_n (by omega)]; exact m_th_o (by omega)
    · rw [up_s, up_s]
    · rw [up_n (by omega), up_n (by omega), up_n (by omega), up_s]
    · rw [up_n (by omega), up_n (by omega), up_s]
    · rw [up_n (by omega), up_s]
    · rw [up_n (by omega), up_n (by omega), up_n (by omega), up_n (by omega)]; exact m_th_o (by omega)
    · rw [up_s, up_n (by omega)]; exact m_th_0
  have h46 : ∀ u : Int32, ((u = 1 ∧ (0 ≤ X.toInt ∧ X.toInt < 32 ∧ 1 ≤ Q.toInt ∧ Q.toInt ≤ 32 - X.toInt)) ∨ (u = 0 ∧ ¬ (0 ≤ X.toInt ∧ X.toInt < 32 ∧ 1 ≤ Q.toInt ∧ Q.toInt ≤ 32 - X.toInt))) → P46 14 n l X Y Q S u (q_put σ ι κ) := fun u hu => by
    refine p46 _ _ _ _ _ _ _ _ _ ?_
    have no : ¬ (0 ≤ Y.toInt ∧ Y.toInt < 24 ∧ 1 ≤ S.toInt ∧ S.toInt ≤ 24 - Y.toInt) → P96 14 n l X Y Q S u (q_put σ ι κ) := fun c => p96 _ _ _ _ _ _ _ _ _ (h97 u 0 hu (Or.inr ⟨rfl, c⟩))
    simp only [lg_cmp_lt, lg_cmp_ge, lg_cmp_gt, iL_lt, iL_le, e0, e1, e24]
    refine br_c (fun c => no (by omega)) (fun c => br_c (fun c2 => no (by omega)) (fun c2 => br_c (fun c3 => no (by omega)) (fun c3 => br_c (fun c4 => no (by omega)) (fun c4 => ?_))))
    have es : (Y + S).toInt = Y.toInt + S.toInt := by
      rw [iL_of Y, iL_of S, iL_add, iL_t (by omega) (by omega), iL_t (by omega) (by omega), iL_t (by omega) (by omega)]
    rw [es]
    exact br_c (fun c5 => no (by omega)) (fun c5 => h97 u 1 hu (Or.inl ⟨rfl, by omega⟩))
  have no : ¬ (0 ≤ X.toInt ∧ X.toInt < 32 ∧ 1 ≤ Q.toInt ∧ Q.toInt ≤ 32 - X.toInt) → P45 14 n l X Y Q S (q_put σ ι κ) := fun c => p45 _ _ _ _ _ _ _ _ (h46 0 (Or.inr ⟨rfl, c⟩))
  simp only [lg_cmp_lt, lg_cmp_ge, lg_cmp_gt, iL_lt, iL_le, e0, e1, e32]
  refine br_c (fun c => no (by omega)) (fun c => br_c (fun c2 => no (by omega)) (fun c2 => br_c (fun c3 => no (by omega)) (fun c3 => br_c (fun c4 => no (by omega)) (fun c4 => ?_))))
  have es : (X + Q).toInt = X.toInt + Q.toInt := by
    rw [iL_of X, iL_of Q, iL_add, iL_t (by omega) (by omega), iL_t (by omega) (by omega), iL_t (by omega) (by omega)]
  rw [es]
  exact br_c (fun c5 => no (by omega)) (fun c5 => h46 1 (Or.inl ⟨rfl, by omega⟩))
