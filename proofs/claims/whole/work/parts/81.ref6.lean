/-! FILL AND CHANGED, BY THE REFERENCE -/
theorem v_fillAllC {σ : q_S} {ι : Nat → Nat → Int32} {κ : Nat → Nat → Int64} {A : a_A} {W : Nat → Nat → Int32} {isl pcs : Nat → Nat} {fl : Nat → Int32} (hm : m_S σ) (h0 : m_0 A ι κ) (ok : a_ok A) (hall : z_all A W isl pcs fl) {R : q_O → q_S → Prop}
    (h : ∀ (ι' : Nat → Nat → Int32) (κ' : Nat → Nat → Int64), (∀ p, p < a_N A → ∀ y, y < 24 → κ' 32 (24 * p + y) = zx (W p y)) → (∀ p, p < a_N A → ι' 35 p = nI (isl p)) → (∀ p, p < a_N A → ι' 36 p = fl p) → (∀ a, a ≠ 35 → a ≠ 36 → a ≠ 37 → ι' a = ι a) → (∀ a, a ≠ 32 → a ≠ 38 → a ≠ 39 → a ≠ 40 → a ≠ 41 → κ' a = κ a) → R (.inl none) (q_put σ ι' κ')) : V_PM_fillAll 14 (q_put σ ι κ) R := by
  refine v_fillAll hm h0 ok (fun ι' κ' V isl' pcs' fl' hV e1 e2 e3 f1 f2 => h ι' κ' (fun p hp y hy => ?_) (fun p hp => ?_) (fun p hp => ?_) f1 f2)
  · rw [e1 p hp y hy, z_in_eq (hV.uniq hall p hp).1 hy]
  · rw [e2 p hp, (hV.uniq hall p hp).2.1]
  · rw [e3 p hp, (hV.uniq hall p hp).2.2.2]
theorem m_changed {A : a_A} {σ : q_S} {ι : Nat → Nat → Int32} {κ : Nat → Nat → Int64} {X0 Y0 X1 Y1 : Int64} {W : Nat → Nat → Int32} {isl pcs : Nat → Nat} {fl : Nat → Int32} (hm : m_S σ) (hw : w_m A ι κ) (ok : a_ok A) (hall : z_all A W isl pcs fl) {R : q_O → q_S → Prop}
    (h0 : ∀ (v : Int32) (ι' : Nat → Nat → Int32) (κ' : Nat → Nat → Int64), ((v = 1 ∧ z_chg A W X0 Y0 X1 Y1) ∨ (v = 0 ∧ ¬ z_chg A W X0 Y0 X1 Y1)) → w_m A ι' κ' → (∀ t, (t < 14 ∨ 41 < t) → ι' t = ι t ∧ κ' t = κ t) → R (.inl (some (.inl v))) (q_put σ ι' κ')) : V_PM_changed 14 X0 Y0 X1 Y1 (q_put σ ι κ) R := by
  intro P12 P24 P34 P79 P80 P127 p12 p24 p34 p79 p80 p127
  have hN8 := ok.1.1
  refine ⟨hm.k, fun σ1 e1 => ⟨by rw [e1]; exact hm.k, ?_⟩⟩
  rw [e1, q_put_wI, show va_up ι 14 (va_up (ι 14) 0 0) = m_th ι 0 from rfl]
  have hw0 := hw.th 0
  refine v_fillAllC hm hw0.1 ok hall (fun ι' κ' e32 e35 e36 f1 f2 => ?_)
  have hw' : w_m A ι' κ' := hw0.fr (fun j _ => by rw [f1 14 (by omega) (by omega) (by omega)]) (fun a h1 h2 => f1 a (by omega) (by omega) (by omega)) (fun a h1 => f2 a (by omega) (by omega) (by omega) (by omega) (by omega))
  have hfr : ∀ t, (t < 14 ∨ 41 < t) → ι' t = ι t ∧ κ' t = κ t := fun t ht => ⟨by rw [f1 t (by omega) (by omega) (by omega)]; exact m_th_o (by omega), f2 t (by omega) (by omega) (by omega) (by omega) (by omega)⟩
  have hN : ι' 14 2 = nI (a_N A) := hw'.1.1.1
  have e31 : ∀ i, i < a_N A → ∀ y, y < 24 → κ' 31 (24 * i + y) = zx (a_fi A i y) := fun i hi y hy => (hw'.2.1 i hi).1 y hy
  suffices L : ∀ (d i : Nat), i + d = a_N A → (∀ j, j < i → ∀ x y : Nat, x < 32 → y < 24 → X0.toInt ≤ x → (x : Int) ≤ X1.toInt → Y0.toInt ≤ y → (y : Int) ≤ Y1.toInt → (z_in (a_fi A j) x y ↔ z_in (W j) x y)) → P12 14 X0 Y0 X1 Y1 (nI i) (q_put σ ι' κ') from L (a_N A) 0 (by omega) (fun j hj => by omega)
  intro d
  induction d with
  | zero =>
    intro i hi hv
    exact p12 _ _ _ _ _ _ _ ⟨hm.k, pk_le (a_N A) i (fun _ => h0 1 ι' κ' (Or.inl ⟨rfl, fun j hj => hv j (by omega)⟩) hw' hfr) (fun c => by omega) hN⟩
  | succ d ih =>
    intro i hi hv
    refine p12 _ _ _ _ _ _ _ ⟨hm.k, pk_le (a_N A) i (fun c => by omega) (fun _ => ?_) hN⟩
    suffices Ly : ∀ (e y : Nat), y + e = 24 → (∀ z x : Nat, z < y → x < 32 → X0.toInt ≤ x → (x : Int) ≤ X1.toInt → Y0.toInt ≤ z → (z : Int) ≤ Y1.toInt → (z_in (a_fi A i) x z ↔ z_in (W i) x z)) → P24 14 X0 Y0 X1 Y1 (nI i) (nI y) (q_put σ ι' κ') from Ly 24 0 rfl (fun z x hz _ _ _ _ _ => by omega)
    intro e
    induction e with
    | zero =>
      intro y hy hv2
      refine p24 _ _ _ _ _ _ _ _ (pk_le 24 y (fun _ v2 ev => ?_) (fun c => by omega))
      rw [ev, nI_1]
      refine ih (i + 1) (by omega) fun j hj x z hx hz a1 a2 a3 a4 => ?_
      rcases Nat.lt_or_ge j i with c | c
      · exact hv j c x z hx hz a1 a2 a3 a4
      · have : j = i := by omega
        subst this
        exact hv2 z x (by omega) hx a1 a2 a3 a4
    | succ e ih2 =>
      intro y hy hv2
      refine p24 _ _ _ _ _ _ _ _ (pk_le 24 y (fun c => by omega) (fun _ => ?_))
      have ey : (nI y).toInt64.toInt = y := by rw [i2l_t, nI_toInt (by omega)]
      have e24 : (24 : Int32) * nI i + nI y = nI (24 * i + y) := by rw [show (24 : Int32) = nI 24 from rfl, pk_mul, nI_add]
      have cc : (nI (24 * i + y)).toNatClampNeg = 24 * i + y := nI_clamp (by omega)
      have vv : vp_in (nI (24 * i + y)) 192 := vp_in_nI (by omega) (by omega)
      suffices Lx : ∀ (g x : Nat), x + g = 32 → (∀ t : Nat, t < x → X0.toInt ≤ t → (t : Int) ≤ X1.toInt → Y0.toInt ≤ y → (y : Int) ≤ Y1.toInt → (z_in (a_fi A i) t y ↔ z_in (W i) t y)) → P34 14 X0 Y0 X1 Y1 (nI i) (nI y) (nI x) (q_put σ ι' κ') from Lx 32 0 rfl (fun t ht _ _ _ _ => by omega)
      intro g
      induction g with
      | zero =>
        intro x hx hv3
        refine p34 _ _ _ _ _ _ _ _ _ (pk_le 32 x (fun _ v2 ev => ?_) (fun c => by omega))
        rw [ev, nI_1]
        refine ih2 (y + 1) (by omega) fun z x' hz hx' a1 a2 a3 a4 => ?_
        rcases Nat.lt_or_ge z y with c | c
        · exact hv2 z x' c hx' a1 a2 a3 a4
        · have : z = y := by omega
          subst this
          exact hv3 x' (by omega) a1 a2 a3 a4
      | succ g ih3 =>
        intro x hx hv3
        have ex : (nI x).toInt64.toInt = x := by rw [i2l_t, nI_toInt (by omega)]
        have hnext : ((X0.toInt ≤ x ∧ (x : Int) ≤ X1.toInt ∧ Y0.toInt ≤ y ∧ (y : Int) ≤ Y1.toInt) → (z_in (a_fi A i) x y ↔ z_in (W i) x y)) → P127 14 X0 Y0 X1 Y1 (nI i) (nI y) (nI x) (q_put σ ι' κ') := fun c => by
          refine p127 _ _ _ _ _ _ _ _ _ fun v1 ev => ?_
          rw [ev, nI_1]
          refine ih3 (x + 1) (by omega) fun t ht a1 a2 a3 a4 => ?_
          rcases Nat.lt_or_ge t x with c2 | c2
          · exact hv3 t c2 a1 a2 a3 a4
          · have : t = x := by omega
            subst this
            exact c ⟨a1, a2, a3, a4⟩
        have h79 : ¬ (X0.toInt ≤ x ∧ (x : Int) ≤ X1.toInt ∧ Y0.toInt ≤ y ∧ (y : Int) ≤ Y1.toInt) → P79 14 X0 Y0 X1 Y1 (nI i) (nI y) (nI x) (q_put σ ι' κ') := fun c => p79 _ _ _ _ _ _ _ _ _ (p80 _ _ _ _ _ _ _ _ _ _ (br_t rfl (hnext fun q => absurd q c)))
        refine p34 _ _ _ _ _ _ _ _ _ (pk_le 32 x (fun c => by omega) (fun _ => ?_))
        simp only [lg_cmp_lt, lg_cmp_gt, iL_lt, ex, ey]
        refine br_c (fun c => h79 (by omega)) (fun c => br_c (fun c2 => h79 (by omega)) (fun c2 => br_c (fun c3 => h79 (by omega)) (fun c3 => br_c (fun c4 => h79 (by omega)) (fun c4 => ?_))))
        refine p80 _ _ _ _ _ _ _ _ _ _ (br_f (by decide) ?_)
        simp only [q_put_K, q_put_P, q_put_Z, q_put_L, hm.k, hm.p21, hm.k21, hm.z21, hm.p22, hm.k22, hm.z22, e24, cc, vv, e31 i (by omega) y (by omega), e32 i (by omega) y (by omega), zx_xor, lg_cmp_eq, z_bit_iff (show x < 32 by omega), true_and, b_xor]
        have hy24 : y < 24 := by omega
        refine br_c (fun c5 => hnext fun _ => ?_) (fun c5 => h0 0 ι' κ' (Or.inr ⟨rfl, fun c6 => ?_⟩) hw' hfr)
        · unfold z_in
          cases h6 : bt (a_fi A i y) x <;> cases h7 : bt (W i y) x <;> rw [h6, h7] at c5 <;> simp at c5 ⊢
        · have c7 := c6 i (by omega) x y (by omega) hy24 (by omega) (by omega) (by omega) (by omega)
          unfold z_in at c7
          simp only [hy24, true_and] at c7
          cases h6 : bt (a_fi A i y) x <;> cases h7 : bt (W i y) x <;> rw [h6, h7] at c5 c7 <;> simp at c5 c7
theorem m_fill {A : a_A} {σ : q_S} {ι : Nat → Nat → Int32} {κ : Nat → Nat → Int64} {W : Nat → Nat → Int32} {isl pcs : Nat → Nat} {fl : Nat → Int32} (hm : m_S σ) (hw : w_m A ι κ) (ok : a_ok A) (hall : z_all A W isl pcs fl) {R : q_O → q_S → Prop}
    (h0 : ∀ (ι' : Nat → Nat → Int32) (κ' : Nat → Nat → Int64), w_m (a_fil A W isl pcs fl) ι' κ' → (∀ t, (t < 14 ∨ 41 < t) → ι' t = ι t ∧ κ' t = κ t) → R (.inl (some (.inl (nI (z_sm pcs (a_N A)))))) (q_put σ ι' κ')) : V_PM_fill 14 (q_put σ ι κ) R := by
  intro P13 P23 P86 p13 p23 p86
  have hN8 := ok.1.1
  refine ⟨hm.k, fun σ1 e1 => ⟨by rw [e1]; exact hm.k, ?_⟩⟩
  rw [e1, q_put_wI, show va_up ι 14 (va_up (ι 14) 0 0) = m_th ι 0 from rfl]
  have hw0 := hw.th 0
  refine v_fillAllC hm hw0.1 ok hall (fun ι1 κ1 e32 e35 e36 f1 f2 => ?_)
  have hle : ∀ i, i < a_N A → pcs i ≤ 768 := fun i hi => (hall i hi).np.2.1
  have hsum : ∀ k, k ≤ a_N A → z_sm pcs k ≤ k * 768 := fun k hk => z_sm_le fun i hi => hle i (by omega)
  have hNi : ι1 14 2 = nI (a_N A) := by rw [f1 14 (by omega) (by omega) (by omega)]; exact hw0.1.1.1
  suffices L : ∀ (d p : Nat) (ι2 : Nat → Nat → Int32) (κ2 : Nat → Nat → Int64), p + d = a_N A → (∀ a, a ≠ 33 → a ≠ 34 → ι2 a = ι1 a) → (∀ q, q < p → ι2 33 q = nI (isl q) ∧ ι2 34 q = fl q) → (∀ q, p ≤ q → ι2 33 q = ι1 33 q ∧ ι2 34 q = ι1 34 q) → (∀ a, a ≠ 31 → a ≠ 39 → a ≠ 41 → κ2 a = κ1 a) → (∀ q, q < p → ∀ y, y < 24 → κ2 31 (24 * q + y) = zx (W q y)) → (∀ k, 24 * p ≤ k → κ2 31 k = κ1 31 k) → P13 14 (nI (z_sm pcs p)) (nI p) (q_put σ ι2 κ2) from L (a_N A) 0 ι1 κ1 (by omega) (fun _ _ _ => rfl) (fun q hq => by omega) (fun _ _ => ⟨rfl, rfl⟩) (fun _ _ _ _ => rfl) (fun q hq => by omega) (fun _ _ => rfl)
  intro d
  induction d with
  | zero =>
    intro p ι2 κ2 hp g1 g2 g3 g4 g5 g6
    have hp : p = a_N A := by omega
    subst hp
    have hN2 : ι2 14 2 = nI (a_N A) := by rw [g1 14 (by omega) (by omega)]; exact hNi
    refine p13 _ _ _ _ ⟨hm.k, pk_le (a_N A) (a_N A) (fun _ => ?_) (fun c => by omega) hN2⟩
    refine h0 ι2 κ2 ⟨?_, fun i hi => ⟨fun y hy => g5 i hi y hy, (g2 i hi).1, (g2 i hi).2⟩, fun q h1 h2 => ?_⟩ (fun t ht => ⟨?_, ?_⟩)
    · have : m_0 A ι2 κ2 := hw0.1.fr (fun a ha => by rw [g1 a (by omega) (by omega), f1 a (by omega) (by omega) (by omega)]) (fun a ha => by rw [g4 a (by omega) (by omega) (by omega), f2 a (by omega) (by omega) (by omega) (by omega) (by omega)])
      exact this
    · have h1' : a_N A ≤ q := h1
      obtain ⟨z1, z2, z3, z4, z5, z6, z7⟩ := hw0.2.2 q h1 h2
      rw [g1 18 (by omega) (by omega), f1 18 (by omega) (by omega) (by omega), g1 19 (by omega) (by omega), f1 19 (by omega) (by omega) (by omega), g1 22 (by omega) (by omega), f1 22 (by omega) (by omega) (by omega), g1 23 (by omega) (by omega), f1 23 (by omega) (by omega) (by omega), (g3 q h1').1, (g3 q h1').2, f1 33 (by omega) (by omega) (by omega), f1 34 (by omega) (by omega) (by omega)]
      refine ⟨z1, z2, z3, z4, z5, z6, fun y hy => ?_⟩
      rw [g6 (24 * q + y) (by omega), f2 31 (by omega) (by omega) (by omega) (by omega) (by omega)]
      exact z7 y hy
    · rw [g1 t (by omega) (by omega), f1 t (by omega) (by omega) (by omega)]; exact m_th_o (by omega)
    · rw [g4 t (by omega) (by omega) (by omega), f2 t (by omega) (by omega) (by omega) (by omega) (by omega)]
  | succ d ih =>
    intro p ι2 κ2 hp g1 g2 g3 g4 g5 g6
    have hpN : p < a_N A := by omega
    have hN2 : ι2 14 2 = nI (a_N A) := by rw [g1 14 (by omega) (by omega)]; exact hNi
    have hs0 := hsum p (by omega)
    have hlp := hle p hpN
    obtain ⟨hnp, -, -, hfl01⟩ := (hall p hpN).np
    have cp : (nI p).toNatClampNeg = p := nI_clamp (by omega)
    have vp : vp_in (nI p) 8 := vp_in_nI (by omega) (by omega)
    have i35 : ι2 35 p = nI (isl p) := by rw [g1 35 (by omega) (by omega)]; exact e35 p hpN
    have i36 : ι2 36 p = fl p := by rw [g1 36 (by omega) (by omega)]; exact e36 p hpN
    refine p13 _ _ _ _ ⟨hm.k, pk_le (a_N A) p (fun c => by omega) (fun _ => ?_) hN2⟩
    suffices Ly : ∀ (e y : Nat) (κ3 : Nat → Nat → Int64), y + e = 24 → (∀ a, a ≠ 31 → a ≠ 39 → a ≠ 41 → κ3 a = κ1 a) → (∀ q, q < p → ∀ y, y < 24 → κ3 31 (24 * q + y) = zx (W q y)) → (∀ j, j < y → κ3 31 (24 * p + j) = zx (W p j)) → (∀ k, 24 * p + 24 ≤ k → κ3 31 k = κ1 31 k) → P23 14 (nI (z_sm pcs p)) (nI p) (nI y) (q_put σ ι2 κ3) from Ly 24 0 κ2 rfl g4 g5 (fun j hj => by omega) (fun k hk => g6 k (by omega))
    intro e
    induction e with
    | zero =>
      intro y κ3 hy k1 k2 k3 k4
      refine p23 _ _ _ _ _ (pk_le 24 y (fun _ => ?_) (fun c => by omega))
      simp only [q_put_K, q_put_P, q_put_Z, q_put_I, q_put_wI, hm.k, hm.p25, hm.k25, hm.z25, hm.p23, hm.k23, hm.z23, hm.p26, hm.k26, hm.z26, hm.p24, hm.k24, hm.z24, cp, vp, i35, i36, hfl01, true_or, true_and, forall_eq, up_n (show (36 : Nat) ≠ 33 by omega), up_n (show (34 : Nat) ≠ 33 by omega)]
      generalize hι3 : va_up (va_up ι2 33 (va_up (ι2 33) p (nI (isl p)))) 34 (va_up (ι2 34) p (fl p)) = ι3
      have o1 : ∀ a, a ≠ 33 → a ≠ 34 → ι3 a = ι1 a := fun a a1 a2 => by rw [← hι3, up_n a2, up_n a1]; exact g1 a a1 a2
      have o33 : ι3 33 = va_up (ι2 33) p (nI (isl p)) := by rw [← hι3, up_n (by omega), up_s]
      have o34 : ι3 34 = va_up (ι2 34) p (fl p) := by rw [← hι3, up_s]
      refine v_look (f := W p) hm.k ⟨hm.p21, hm.k21, hm.z21⟩ ⟨hm.p31, hm.k31, hm.z31⟩ (by omega) (by omega) (fun j hj => k3 j (by omega)) (fun κ4 u1 u2 => ?_)
      suffices Lc : ∀ (g c : Nat) (κ5 : Nat → Nat → Int64) (r : Nat → Int32), c + g = pcs p → (∀ a, a ≠ 31 → a ≠ 39 → a ≠ 41 → κ5 a = κ1 a) → κ5 31 = κ3 31 → z_zr κ5 41 r → z_in r = z_it False c (z_in (W p)) → P86 14 (nI (z_sm pcs p + c)) (nI p) (q_put σ ι3 κ5) from Lc (pcs p) 0 κ4 (W p) (by omega) (fun a a1 a2 a3 => by rw [u1 a a3]; exact k1 a a1 a2 a3) (u1 31 (by omega)) u2 rfl
      intro g
      induction g with
      | zero =>
        intro c κ5 r hc w1 w2 w3 w4
        have hc : c = pcs p := by omega
        subst hc
        refine p86 _ _ _ _ ⟨hm.k, v_nextPiece hm.mp w3 (fun c0 κ6 x1 x2 x3 => br_t rfl fun v7 e7 => ?_) (fun c0 => ?_)⟩
        · rw [e7, nI_1]
          refine ih (p + 1) ι3 κ6 (by omega) o1 (fun q hq => ?_) (fun q hq => ?_) (fun a a1 a2 a3 => by rw [x1 a a2 a3]; exact w1 a a1 a2 a3) (fun q hq y hy => ?_) (fun k hk => ?_)
          · rw [o33, o34]
            by_cases c9 : q = p
            · rw [c9, up_s, up_s]; exact ⟨rfl, rfl⟩
            · rw [up_n c9, up_n c9]; exact g2 q (by omega)
          · rw [o33, o34, up_n (by omega), up_n (by omega)]; exact g3 q (by omega)
          · rw [x1 31 (by omega) (by omega), w2]
            by_cases c9 : q = p
            · rw [c9]; exact k3 y (by omega)
            · exact k2 q (by omega) y hy
          · rw [x1 31 (by omega) (by omega), w2]; exact k4 k (by omega)
        · exfalso
          have := hnp.2
          rw [← w4] at this
          exact this (z_ne_rows.mpr c0)
      | succ g ih3 =>
        intro c κ5 r hc w1 w2 w3 w4
        refine p86 _ _ _ _ ⟨hm.k, v_nextPiece hm.mp w3 (fun c0 => ?_) (fun c0 κ6 q x1 x2 x3 x4 => br_f (by decide) fun v8 e8 => ?_)⟩
        · exfalso
          have := hnp.1 c (by omega)
          rw [← w4] at this
          exact z_ne_rows0.mpr c0 this
        · rw [e8, nI_1]
          refine ih3 (c + 1) κ6 _ (by omega) (fun a a1 a2 a3 => by rw [x1 a a2 a3]; exact w1 a a1 a2 a3) (by rw [x1 31 (by omega) (by omega)]; exact w2) x4 ?_
          rw [z_in_andn x3, w4, z_it_s]
    | succ e ih2 =>
      intro y κ3 hy k1 k2 k3 k4
      have e24 : (24 : Int32) * nI p + nI y = nI (24 * p + y) := by rw [show (24 : Int32) = nI 24 from rfl, pk_mul, nI_add]
      have cc : (nI (24 * p + y)).toNatClampNeg = 24 * p + y := nI_clamp (by omega)
      have vv : vp_in (nI (24 * p + y)) 192 := vp_in_nI (by omega) (by omega)
      have k32 : κ3 32 (24 * p + y) = zx (W p y) := by rw [k1 32 (by omega) (by omega) (by omega)]; exact e32 p hpN y (by omega)
      refine p23 _ _ _ _ _ (pk_le 24 y (fun c => by omega) (fun _ => ?_))
      simp only [q_put_K, q_put_P, q_put_Z, q_put_L, q_put_wL, hm.k, hm.p21, hm.k21, hm.z21, hm.p22, hm.k22, hm.z22, e24, cc, vv, k32, true_and, forall_eq]
      rw [nI_1]
      refine ih2 (y + 1) _ (by omega) (fun a a1 a2 a3 => by rw [up_n a1]; exact k1 a a1 a2 a3) (fun q hq z hz => ?_) (fun j hj => ?_) (fun k hk => ?_)
      · rw [up_s, up_n (by omega)]; exact k2 q hq z hz
      · rw [up_s]
        by_cases c : j = y
        · rw [c, up_s]
        · rw [up_n (by omega)]; exact k3 j (by omega)
      · rw [up_s, up_n (by omega)]; exact k4 k hk
