/-! CALLS OF THE CLASS THAT ASK OR SAY LITTLE, as the law makes them -/
def w_fo (σ τ : q_S) : Prop := (∀ a, ((14 ≤ a ∧ a ≤ 41) ∨ 10000000 ≤ a) → w_sm σ τ a) ∧ q_K τ 42 = q_K σ 42 ∧ q_Z τ 42 = q_Z σ 42 ∧ q_n τ ≤ q_n σ + 60
theorem v_out {σ : q_S} {ι : Nat → Nat → Int32} {κ : Nat → Nat → Int64} {v : Int64} {R : q_S → Prop} (hk : q_K σ 42 = 1001) (hz : q_Z σ 42 = 1) (h : R (q_put σ ι (va_up κ 42 (va_up (κ 42) 0 v)))) : q_K (q_put σ ι κ) 42 = 1001 ∧ vp_in (0 : Int32) (q_Z (q_put σ ι κ) 42) ∧ ∀ σ6 : q_S, σ6 = q_wL (q_put σ ι κ) 42 (0 : Int32).toNatClampNeg v → R σ6 := by
  refine ⟨hk, ?_, fun σ6 e => ?_⟩
  · rw [q_put_Z, hz]; exact vp_in_nI (n := 0) (by omega) (by omega)
  · rw [e, show (0 : Int32).toNatClampNeg = 0 from by decide, q_put_wL]; exact h
theorem w_fo_put {σ : q_S} {ι : Nat → Nat → Int32} {κ : Nat → Nat → Int64} (hi : ∀ a, ((14 ≤ a ∧ a ≤ 41) ∨ 10000000 ≤ a) → ι a = q_I σ a) (hk : ∀ a, a ≠ 42 → κ a = q_L σ a) : w_fo σ (q_put σ ι κ) := ⟨fun a ha => ⟨rfl, rfl, hi a ha, hk a (by omega), rfl⟩, rfl, rfl, Nat.le_add_right _ _⟩
theorem w_fo_new {σ τ : q_S} {k : Nat} (h : w_fo σ τ) (hn : q_n τ + 1 ≤ q_n σ + 60) (h1 : 42 < q_n τ) (h2 : q_n τ < 10000000) : w_fo σ (q_new τ k 0) := by
  refine ⟨fun a ha => (h.1 a ha).tr (w_sm_new (by omega)), ?_, ?_, by rw [q_n_new]; exact hn⟩
  · rw [q_K_new, if_neg (by omega)]; exact h.2.1
  · rw [q_Z_new, if_neg (by omega)]; exact h.2.2.1
theorem up_o {κ : Nat → Nat → Int64} {v : Int64} : va_up κ 42 (va_up (κ 42) 0 v) 42 0 = v := by rw [up_s, up_s]
/-- a throw -/
theorem w_thr {A : a_A} {σ : q_S} {ι : Nat → Nat → Int32} {pl rl f g : Nat → Nat} (k : Nat) (h : w_D A σ ι pl rl f g) (hn : q_n σ < 1000000) (hi : ∀ a, ((14 ≤ a ∧ a ≤ 41) ∨ 10000000 ≤ a) → ι a = q_I σ a) : q_n (q_put σ ι (q_L σ)) < 10000000 ∧ 0 < q_n σ ∧ q_K (q_new (q_put σ ι (q_L σ)) k 0) (q_n σ) = k ∧ w_C A (q_new (q_put σ ι (q_L σ)) k 0) ∧ w_fo σ (q_new (q_put σ ι (q_L σ)) k 0) := by
  have hB := h.2.2.2.2.2.2.2.1
  refine ⟨by rw [q_put_n]; omega, by omega, ?_, w_C.new h.c (by rw [q_put_n]; omega), ?_⟩
  · rw [q_K_new, if_pos (by rw [q_put_n])]
  · exact w_fo_new (w_fo_put hi (fun _ _ => rfl)) (by rw [q_put_n]; omega) (by rw [q_put_n]; omega) (by rw [q_put_n]; omega)
theorem k_islands {A : a_A} {σ : q_S} {x : Int32} (h : w_C A σ) (ok : a_ok A) (hn : q_n σ < 1000000) (hk : q_K σ 42 = 1001) (hz : q_Z σ 42 = 1) {R : q_O → q_S → Prop}
    (h1 : (x < 0 ∨ nI (a_N A) ≤ x) → ∀ τ, w_C A τ → w_fo σ τ → R (.inl (some (.inl 1))) τ)
    (h0 : ∀ i, i < a_N A → x = nI i → ∀ τ, w_C A τ → w_fo σ τ → q_L τ 42 0 = (nI (a_is A i)).toInt64 → R (.inl (some (.inl 0))) τ) : V_LW_islands 1 x 42 σ R := by
  obtain ⟨pl, rl, f, g, hw⟩ := h
  have hc := hw.1
  refine ⟨hc.k, hc.k, ?_⟩
  refine v_knownPlane (κ := q_L σ) hw ok (fun c => ?_) (fun i hi e => ?_)
  · obtain ⟨t1, t2, t3, t4, t5⟩ := w_thr 9 hw hn (fun _ _ => rfl)
    exact ⟨t3, h1 c _ t4 t5⟩
  · have hpl := hw.2.1.2.2.2.1 i hi
    have hl := hpl.1.lat
    refine ⟨hpl.1.1, hl.2.1, ?_⟩
    refine v_out (R := fun τ => R (.inl (some (.inl 0))) τ) hk hz ?_
    refine h0 i hi e _ hw.c (w_fo_put (fun _ _ => rfl) (fun a ha => by rw [up_n ha])) ?_
    rw [q_put_L, up_o]
    show (q_I σ (q_P σ (pl i) 10) 2).toInt64 = _
    rw [hpl.2.2.2.2.2.1]
theorem k_narrow {A : a_A} {σ : q_S} {x : Int32} (h : w_C A σ) (ok : a_ok A) (np : a_np A) (hn : q_n σ < 1000000) (hk : q_K σ 42 = 1001) (hz : q_Z σ 42 = 1) {R : q_O → q_S → Prop}
    (h1 : (x < 0 ∨ nI (a_N A) ≤ x) → ∀ τ, w_C A τ → w_fo σ τ → R (.inl (some (.inl 1))) τ)
    (h0 : ∀ i, i < a_N A → x = nI i → ∀ τ, w_C A τ → w_fo σ τ → ((a_nw A i = 0 ∧ q_L τ 42 0 = 0) ∨ (a_nw A i = 1 ∧ q_L τ 42 0 = 1)) → R (.inl (some (.inl 0))) τ) : V_LW_narrow 1 x 42 σ R := by
  obtain ⟨pl, rl, f, g, hw⟩ := h
  have hc := hw.1
  intro P15 p15
  refine ⟨hc.k, hc.k, ?_⟩
  refine v_knownPlane (κ := q_L σ) hw ok (fun c => ?_) (fun i hi e => ?_)
  · obtain ⟨t1, t2, t3, t4, t5⟩ := w_thr 9 hw hn (fun _ _ => rfl)
    exact ⟨t3, h1 c _ t4 t5⟩
  · have hpl := hw.2.1.2.2.2.1 i hi
    have hl := hpl.1.lat
    have hv : q_I σ (q_P σ (pl i) 10) 3 = a_nw A i := hpl.2.2.2.2.2.2
    have h01 := (np i hi).2.2.2
    refine ⟨hpl.1.1, hl.2.1, ?_⟩
    show ((q_I σ (q_P σ (pl i) 10) 3 = 0 ∨ q_I σ (q_P σ (pl i) 10) 3 = 1) ∧ ((q_I σ (q_P σ (pl i) 10) 3 = 0 → P15 0 0 42 (q_put σ (q_I σ) (q_L σ))) ∧ (¬ q_I σ (q_P σ (pl i) 10) 3 = 0 → P15 1 0 42 (q_put σ (q_I σ) (q_L σ)))))
    rw [hv]
    refine ⟨h01, br_c (fun c => p15 _ _ _ _ (v_out (R := fun τ => R (.inl (some (.inl 0))) τ) hk hz ?_)) (fun c => p15 _ _ _ _ (v_out (R := fun τ => R (.inl (some (.inl 0))) τ) hk hz ?_))⟩
    · exact h0 i hi e _ hw.c (w_fo_put (fun _ _ => rfl) (fun a ha => by rw [up_n ha])) (Or.inl ⟨c, by rw [q_put_L, up_o]⟩)
    · exact h0 i hi e _ hw.c (w_fo_put (fun _ _ => rfl) (fun a ha => by rw [up_n ha])) (Or.inr ⟨h01.resolve_left c, by rw [q_put_L, up_o]⟩)
theorem k_in {A : a_A} {σ : q_S} {x : Int32} {X Y : Int64} (h : w_C A σ) (ok : a_ok A) (hn : q_n σ < 1000000) (hk : q_K σ 42 = 1001) (hz : q_Z σ 42 = 1) {R : q_O → q_S → Prop}
    (h1 : (x < 0 ∨ nI (a_N A) ≤ x) → ∀ τ, w_C A τ → w_fo σ τ → R (.inl (some (.inl 1))) τ)
    (h0 : ∀ i, i < a_N A → x = nI i → ∀ τ, w_C A τ → w_fo σ τ → (((∃ a b : Nat, X.toInt = a ∧ Y.toInt = b ∧ z_in (a_fi A i) a b) ∧ q_L τ 42 0 = 1) ∨ ((¬ ∃ a b : Nat, X.toInt = a ∧ Y.toInt = b ∧ z_in (a_fi A i) a b) ∧ q_L τ 42 0 = 0)) → R (.inl (some (.inl 0))) τ) : V_LW_in 1 x X Y 42 σ R := by
  obtain ⟨pl, rl, f, g, hw⟩ := h
  have hc := hw.1
  intro P19 p19
  refine ⟨hc.k, ?_⟩
  intro P41 P42 p41 p42
  refine ⟨hc.k, ?_⟩
  refine v_knownPlane (κ := q_L σ) hw ok (fun c => ?_) (fun i hi e => ?_)
  · obtain ⟨t1, t2, t3, t4, t5⟩ := w_thr 9 hw hn (fun _ _ => rfl)
    exact ⟨t3, h1 c _ t4 t5⟩
  · have hpl := hw.2.1.2.2.2.1 i hi
    have hl := hpl.1.lat
    have hfo : ∀ v : Int64, w_fo σ (q_put σ (q_I σ) (va_up (q_L σ) 42 (va_up (q_L σ 42) 0 v))) := fun v => w_fo_put (fun _ _ => rfl) (fun a ha => by rw [up_n ha])
    have hno : (¬ ∃ a b : Nat, X.toInt = a ∧ Y.toInt = b ∧ z_in (a_fi A i) a b) → P41 (q_put σ (q_I σ) (q_L σ)) := fun c => by
      refine p41 _ (p42 _ _ ⟨Or.inl rfl, br_t rfl (p19 _ _ _ _ (v_out (R := fun τ => R (.inl (some (.inl 0))) τ) hk hz ?_))⟩)
      exact h0 i hi e _ hw.c (hfo 0) (Or.inr ⟨c, by rw [q_put_L, up_o]⟩)
    rcases z_onBoard X Y with ⟨b0, b1⟩ | ⟨b0, b1, b2, b3, b4⟩
    · refine br_t b0 (hno ?_)
      rintro ⟨a, b, c1, c2, c3⟩
      have := b_lt c3.2
      have := c3.1
      omega
    · refine br_f (by rw [b0]; decide) ?_
      obtain ⟨yy, hy⟩ : ∃ yy : Nat, Y.toInt = yy := ⟨Y.toInt.toNat, by omega⟩
      obtain ⟨xx, hx⟩ : ∃ xx : Nat, X.toInt = xx := ⟨X.toInt.toNat, by omega⟩
      have ey : Y.toInt32 = nI yy := by rw [iL_of Y, hy, l2i, iI_nI]
      have cy : (nI yy).toNatClampNeg = yy := nI_clamp (by omega)
      have vy : vp_in (nI yy) 24 := vp_in_nI (by omega) (by omega)
      have hv : q_I σ (q_P σ (pl i) 10 + 1) yy = a_fi A i yy := hpl.2.2.2.1 yy (by omega)
      simp only [q_put_K, q_put_P, q_put_Z, q_put_I, hpl.1.1, hl.2.1, hl.2.2.1, hl.2.2.2.1, hl.2.2.2.2, ey, cy, vy, hv, true_or, true_and]
      refine br_c (fun c => hno ?_) (fun c => ?_)
      · rintro ⟨a, b, c1, c2, c3⟩
        have ha : a = xx := by omega
        have hb : b = yy := by omega
        subst ha hb
        refine b_z.mp c a (b_ad.mpr ⟨c3.2, (z_span _ _ _).mpr ⟨b_lt c3.2, by omega, by omega⟩⟩)
      · obtain ⟨j, -, hj⟩ := b_ne0.mp c
        obtain ⟨d1, d2⟩ := b_ad.mp hj
        rw [z_span] at d2
        have : j = xx := by omega
        subst this
        refine p42 _ _ ⟨Or.inr rfl, br_f (by decide) (p19 _ _ _ _ (v_out (R := fun τ => R (.inl (some (.inl 0))) τ) hk hz ?_))⟩
        exact h0 i hi e _ hw.c (hfo 1) (Or.inl ⟨⟨j, yy, hx, hy, by omega, d1⟩, by rw [q_put_L, up_o]⟩)
/-- one plane's numbers change -/
def a_sp (A B : a_A) (j : Nat) : Prop := a_nt B j = a_nt A j ∧ a_la B j = a_la A j ∧ a_rk B j = a_rk A j ∧ a_oc B j = a_oc A j ∧ a_rc B j = a_rc A j ∧ a_hs B j = a_hs A j ∧ a_hw B j = a_hw A j ∧ (∀ k, a_ox B j k = a_ox A j k) ∧ (∀ k, a_oy B j k = a_oy A j k) ∧ (∀ y, a_ou B j y = a_ou A j y) ∧ (∀ y, a_fi B j y = a_fi A j y) ∧ a_pc B j = a_pc A j ∧ a_is B j = a_is A j ∧ a_nw B j = a_nw A j
theorem a_sp.pd {A B : a_A} {j ν : Nat} {ι : Nat → Nat → Int32} (h : a_sp A B j) (hp : c_pd A ι ν j) : c_pd B ι ν j := by
  obtain ⟨h1, h2, h3, h4, h5, h6, h7, h8, h9, h10, h11, h12, h13, h14⟩ := h
  unfold c_pd at *
  simp only [h1, h2, h3, h4, h5, h6, h7, h8, h9, h10]
  exact hp
theorem a_sp.cd {A B : a_A} {j c : Nat} {ι : Nat → Nat → Int32} (h : a_sp A B j) (hp : c_cd ι c (a_fi A j) (a_pc A j) (a_is A j) (a_nw A j)) : c_cd ι c (a_fi B j) (a_pc B j) (a_is B j) (a_nw B j) := by
  obtain ⟨h1, h2, h3, h4, h5, h6, h7, h8, h9, h10, h11, h12, h13, h14⟩ := h
  unfold c_cd at *
  simp only [h11, h12, h13, h14]
  exact hp
theorem c_P.one {A B : a_A} {σ : q_S} {ι ι' : Nat → Nat → Int32} {pl rl : Nat → Nat} {i : Nat} (h : c_P A σ ι pl rl) (hi : i < a_N A) (hN : a_N B = a_N A) (hrk : ∀ j, a_rk B j = a_rk A j) (hι : ∀ a, (a < pl i ∨ pl i + 8 ≤ a) → ι' a = ι a) (hsp : ∀ j, j ≠ i → a_sp A B j) (hpd : c_pd B ι' (pl i) i) (hcd : c_cd ι' (q_P σ (pl i) 10) (a_fi B i) (a_pc B i) (a_is B i) (a_nw B i)) : c_P B σ ι' pl rl := by
  obtain ⟨⟨l2, z2, s2⟩, ⟨l3, z3, s3⟩, hord, hpl, hdis⟩ := h
  have h42 := (hpl i hi).2.1
  unfold c_P
  rw [hN]
  refine ⟨⟨l2, z2, by rw [hι 2 (by omega)]; exact s2⟩, ⟨l3, z3, by rw [hι 3 (by omega)]; exact s3⟩, ?_, fun j hj => ?_, hdis⟩
  · obtain ⟨o1, o2, o3⟩ := hord
    refine ⟨by rw [hN]; exact o1, ?_, by rw [hN]; exact o3⟩
    rw [hN]
    intro a b h1 h2
    have := o2 a b h1 h2
    unfold a_ah at *
    rw [hrk, hrk]; exact this
  · obtain ⟨q1, q2, q3, q4⟩ := hpl j hj
    by_cases c : j = i
    · subst c; exact ⟨q1, q2, hpd, hcd⟩
    · have hd := hdis j i hj hi c
      have hl := q1.lat.1
      have e : ∀ k, k < 8 → ι' (pl j + k) = ι (pl j + k) := fun k hk => hι _ (by omega)
      have e0 := e 0 (by omega)
      rw [Nat.add_zero] at e0
      refine ⟨q1, q2, ?_, ?_⟩
      · have := (hsp j c).pd q3
        unfold c_pd at *
        rw [e0, e 1 (by omega), e 2 (by omega), e 3 (by omega)]; exact this
      · have := (hsp j c).cd q4
        unfold c_cd at *
        rw [hι (q_P σ (pl j) 10) (by omega), hι (q_P σ (pl j) 10 + 1) (by omega)]; exact this
/-- the world with one plane's numbers changed -/
theorem w_D.one {A B : a_A} {σ : q_S} {ι ι' : Nat → Nat → Int32} {pl rl f g : Nat → Nat} {i : Nat} (h : w_D A σ ι pl rl f g) (hi : i < a_N A) (hN : a_N B = a_N A) (hly : a_ly B = a_ly A) (hD : ∀ ι'', c_D A σ ι'' f → c_D B σ ι'' f) (hE : ∀ ι'', c_E A σ ι'' g → c_E B σ ι'' g) (hDn : a_D B = a_D A) (hEn : a_E B = a_E A) (hru : ∀ k, a_ru B k = a_ru A k) (hrk : ∀ j, a_rk B j = a_rk A j) (hι : ∀ a, (a < pl i ∨ pl i + 8 ≤ a) → ι' a = ι a) (hsp : ∀ j, j ≠ i → a_sp A B j) (hpd : c_pd B ι' (pl i) i) (hcd : c_cd ι' (q_P σ (pl i) 10) (a_fi B i) (a_pc B i) (a_is B i) (a_nw B i)) : w_D B σ ι' pl rl f g := by
  obtain ⟨hc, hP, hDD, hEE, hX, hU, hS, hB⟩ := h
  have h42 := (hP.2.2.2.1 i hi).2.1
  refine ⟨hc, hP.one hi hN hrk hι hsp hpd hcd, hD _ (hDD.fr (hι 4 (by omega)) fun d hd => hι _ (by have := (hX.1 d hd).2 i hi; omega)), hE _ (hEE.fr (hι 5 (by omega)) fun d hd => hι _ (by have := (hX.2 d hd).2 i hi; omega)), ?_, ?_, ?_, ?_⟩
  · unfold c_X; rw [hN, hDn, hEn]; exact hX
  · unfold c_U; rw [hι 1 (by omega), hι 6 (by omega), hly]; simp only [hru]; exact hU
  · rw [hι 7 (by omega), hι 10 (by omega)]; exact hS
  · unfold c_B; rw [hN, hDn, hEn]; exact hB
