/-! WOULD A FILL CHANGE ANYTHING, BY THE CLASS -/
theorem c_P.fr2 {A : a_A} {σ : q_S} {ι ι' : Nat → Nat → Int32} {pl rl : Nat → Nat} (h : c_P A σ ι pl rl) (h2 : ι' 2 = ι 2) (h3 : ι' 3 = ι 3) (hp : ∀ i, i < a_N A → ∀ k, k < 4 → ι' (pl i + k) = ι (pl i + k)) (hl : ∀ i, i < a_N A → ι' (q_P σ (pl i) 10) = ι (q_P σ (pl i) 10) ∧ ι' (q_P σ (pl i) 10 + 1) = ι (q_P σ (pl i) 10 + 1)) : c_P A σ ι' pl rl := by
  obtain ⟨⟨l2, z2, s2⟩, ⟨l3, z3, s3⟩, hord, hpl, hdis⟩ := h
  refine ⟨⟨l2, z2, by rw [h2]; exact s2⟩, ⟨l3, z3, by rw [h3]; exact s3⟩, hord, fun i hi => ?_, hdis⟩
  obtain ⟨q1, q2, q3, q4⟩ := hpl i hi
  have e0 := hp i hi 0 (by omega)
  rw [Nat.add_zero] at e0
  refine ⟨q1, q2, ?_, ?_⟩
  · unfold c_pd
    rw [e0, hp i hi 1 (by omega), hp i hi 2 (by omega), hp i hi 3 (by omega)]; exact q3
  · unfold c_cd
    rw [(hl i hi).1, (hl i hi).2]; exact q4
/-- trials may be other ones -/
theorem w_D.tri {A : a_A} {σ : q_S} {ι ι' : Nat → Nat → Int32} {pl rl f g : Nat → Nat} (h : w_D A σ ι pl rl f g) (hf : ∀ a, a ≠ 7 → a ≠ 8 → a ≠ 9 → a ≠ 13 → (∀ i, i < a_N A → a ≠ q_P σ (pl i) 11 ∧ a ≠ q_P σ (pl i) 11 + 1) → ι' a = ι a) (h7 : ι' 7 0 = 0) : w_D A σ ι' pl rl f g := by
  obtain ⟨hc, hP, hD, hE, hX, hU, hS, hB⟩ := h
  have hpl := hP.2.2.2.1
  have hdis := hP.2.2.2.2
  have htri : ∀ i, i < a_N A → q_P σ (pl i) 11 = pl i + 4 ∨ q_P σ (pl i) 11 = pl i + 6 := fun i hi => (hpl i hi).1.tri.1
  have hlat : ∀ i, i < a_N A → q_P σ (pl i) 10 = pl i + 4 ∨ q_P σ (pl i) 10 = pl i + 6 := fun i hi => (hpl i hi).1.lat.1
  have lo : ∀ a, a ≤ 42 → a ≠ 7 → a ≠ 8 → a ≠ 9 → a ≠ 13 → ι' a = ι a := fun a a0 a1 a2 a3 a4 => hf a a1 a2 a3 a4 fun i hi => by
    have := htri i hi
    have := (hpl i hi).2.1
    omega
  refine ⟨hc, ?_, ?_, ?_, hX, ?_, ?_, hB⟩
  · refine hP.fr2 (lo 2 (by omega) (by omega) (by omega) (by omega) (by omega)) (lo 3 (by omega) (by omega) (by omega) (by omega) (by omega)) (fun i hi k hk => ?_) (fun i hi => ?_)
    · have h42 := (hpl i hi).2.1
      refine hf _ (by omega) (by omega) (by omega) (by omega) fun j hj => ?_
      have := htri j hj
      by_cases c : i = j
      · subst c; omega
      · have := hdis i j hi hj c
        omega
    · have h42 := (hpl i hi).2.1
      have hne := (hpl i hi).1.ne
      have hl := hlat i hi
      refine ⟨hf _ (by omega) (by omega) (by omega) (by omega) fun j hj => ?_, hf _ (by omega) (by omega) (by omega) (by omega) fun j hj => ?_⟩
      · have := htri j hj
        by_cases c : i = j
        · subst c; omega
        · have := hdis i j hi hj c
          omega
      · have := htri j hj
        by_cases c : i = j
        · subst c; omega
        · have := hdis i j hi hj c
          omega
  · refine hD.fr (lo 4 (by omega) (by omega) (by omega) (by omega) (by omega)) fun d hd => ?_
    have h1 := hX.1 d hd
    exact hf _ (by omega) (by omega) (by omega) (by omega) fun i hi => by
      have := htri i hi
      have := h1.2 i hi
      omega
  · refine hE.fr (lo 5 (by omega) (by omega) (by omega) (by omega) (by omega)) fun d hd => ?_
    have h1 := hX.2 d hd
    exact hf _ (by omega) (by omega) (by omega) (by omega) fun i hi => by
      have := htri i hi
      have := h1.2 i hi
      omega
  · unfold c_U
    rw [lo 1 (by omega) (by omega) (by omega) (by omega) (by omega), lo 6 (by omega) (by omega) (by omega) (by omega) (by omega)]; exact hU
  · rw [lo 10 (by omega) (by omega) (by omega) (by omega) (by omega)]; exact ⟨h7, hS.2⟩
theorem w_tri_fo {A : a_A} {σ : q_S} {ι' : Nat → Nat → Int32} {pl rl f g : Nat → Nat} (h : w_D A σ (q_I σ) pl rl f g) (hf : ∀ a, a ≠ 7 → a ≠ 8 → a ≠ 9 → a ≠ 13 → (∀ i, i < a_N A → a ≠ q_P σ (pl i) 11 ∧ a ≠ q_P σ (pl i) 11 + 1) → ι' a = q_I σ a) : ∀ a, ((14 ≤ a ∧ a ≤ 42) ∨ 10000000 ≤ a) → ι' a = q_I σ a := fun a ha => by
  have hP := h.2.1
  have hB := h.2.2.2.2.2.2.2
  refine hf a (by omega) (by omega) (by omega) (by omega) fun i hi => ?_
  have h1 := (hP.2.2.2.1 i hi).1.tri.1
  have h2 := (hP.2.2.2.1 i hi).2.1
  have h3 := hB.2.1 i hi
  have h4 := hB.1.2
  omega
/-- nothing within the frame would change -/
def z_chg (A : a_A) (W : Nat → Nat → Int32) (X0 Y0 X1 Y1 : Int64) : Prop := ∀ i, i < a_N A → ∀ x y : Nat, x < 32 → y < 24 → X0.toInt ≤ x → (x : Int) ≤ X1.toInt → Y0.toInt ≤ y → (y : Int) ≤ Y1.toInt → (z_in (a_fi A i) x y ↔ z_in (W i) x y)
theorem k_changed {A : a_A} {σ : q_S} {X0 Y0 X1 Y1 : Int64} (h : w_C A σ) (ok : a_ok A) {R : q_O → q_S → Prop}
    (h0 : ∀ W isl pcs fl, z_all A W isl pcs fl → ∀ (v : Int32) τ, ((v = 1 ∧ z_chg A W X0 Y0 X1 Y1) ∨ (v = 0 ∧ ¬ z_chg A W X0 Y0 X1 Y1)) → w_C A τ → w_fo σ τ → R (.inl (some (.inl v))) τ) : V_PF_changed 1 X0 Y0 X1 Y1 σ R := by
  obtain ⟨pl, rl, f, g, hw⟩ := h
  have hw0 := hw
  obtain ⟨hc, hP, hD, hE, hX, hU, hS, hB⟩ := hw
  have hN8 := ok.1.1
  intro P46 P80 p46 p80 v1 e1 v2 e2 v3 e3
  have m0 := z_mx2 0 (f_MT_min2 24 Y0)
  rw [z_mn2] at m0
  have m1 := z_mx2 (-1) (f_MT_min2 23 Y1)
  rw [z_mn2] at m1
  have q0 : (0 : Int64).toInt = 0 := rfl
  have q24 : (24 : Int64).toInt = 24 := rfl
  have q23 : (23 : Int64).toInt = 23 := rfl
  have qm : (-1 : Int64).toInt = -1 := rfl
  rw [q0, q24] at m0
  rw [qm, q23] at m1
  obtain ⟨fs, hfs⟩ : ∃ fs : Nat, (f_MT_max2 0 (f_MT_min2 24 Y0)).toInt = fs := ⟨(f_MT_max2 0 (f_MT_min2 24 Y0)).toInt.toNat, by omega⟩
  have e2' : v2 = nI fs := by rw [e2, iL_of (f_MT_max2 0 (f_MT_min2 24 Y0)), hfs, l2i, iI_nI]
  generalize hls : (f_MT_max2 (-1) (f_MT_min2 23 Y1)).toInt = ls at m1
  have e3' : v3 = iI ls := by rw [e3, iL_of (f_MT_max2 (-1) (f_MT_min2 23 Y1)), hls, l2i]
  rw [hfs] at m0
  subst e1 e2' e3'
  refine ⟨hc.k, ?_⟩
  rw [← q_put_self σ]
  refine v_fillTrials hc hP hD hE hX hU ok hS.1 (fun ι' W isl pcs fl hall hcd hf h7 => ?_)
  have hw' := hw0.tri hf h7
  have hfo : w_fo σ (q_put σ ι' (q_L σ)) := w_fo_put (fun a ha => w_tri_fo hw0 hf a (by omega)) (fun _ _ => rfl)
  obtain ⟨l2, z2, s2⟩ := hw'.2.1.1
  have hpl := hw'.2.1.2.2.2.1
  suffices L : ∀ (d i : Nat), i + d = a_N A → (∀ j, j < i → ∀ x y : Nat, x < 32 → y < 24 → X0.toInt ≤ x → (x : Int) ≤ X1.toInt → Y0.toInt ≤ y → (y : Int) ≤ Y1.toInt → (z_in (a_fi A j) x y ↔ z_in (W j) x y)) → P46 1 (f_PF_span X0 X1) (nI fs) (iI ls) (nI i) (q_put σ ι' (q_L σ)) from L (a_N A) 0 (by omega) (fun j hj => by omega)
  intro d
  induction d with
  | zero =>
    intro i hi hv
    refine p46 _ _ _ _ _ _ ⟨hc.k, ?_⟩
    simp only [q_put_P, q_put_K, hc.p1]
    refine ⟨l2.1, v_sizeL l2.1 s2 (br_t (nI_le (by omega) (by omega)) ?_)⟩
    exact h0 W isl pcs fl hall 1 _ (Or.inl ⟨rfl, fun j hj => hv j (by omega)⟩) hw'.c hfo
  | succ d ih =>
    intro i hi hv
    have hiN : i < a_N A := by omega
    obtain ⟨hcp, h42, hpd, hld⟩ := hpl i hiN
    have hl := hcp.lat
    have ht := hcp.tri
    refine p46 _ _ _ _ _ _ ⟨hc.k, ?_⟩
    simp only [q_put_P, q_put_K, hc.p1]
    refine ⟨l2.1, v_sizeL l2.1 s2 (br_f (nI_ge (by omega) (by omega)) ?_)⟩
    simp only [q_put_P, q_put_K, hc.k, hc.p1, l2.1, true_and]
    refine v_getL l2 s2 hiN (by omega) z2 ⟨hcp.1, ?_⟩
    suffices Ly : ∀ (e y : Nat), y + e = 25 → fs ≤ y → (∀ z x : Nat, z < y → x < 32 → z < 24 → X0.toInt ≤ x → (x : Int) ≤ X1.toInt → Y0.toInt ≤ z → (z : Int) ≤ Y1.toInt → (z_in (a_fi A i) x z ↔ z_in (W i) x z)) → P80 1 (f_PF_span X0 X1) (nI fs) (iI ls) (nI i) (pl i) (nI y) (q_put σ ι' (q_L σ)) from Ly (25 - fs) fs (by omega) (Nat.le_refl _) (fun z x hz _ _ _ _ _ _ => by omega)
    intro e
    have hend : ∀ y, fs ≤ y → ls < (y : Int) → (∀ z x : Nat, z < y → x < 32 → z < 24 → X0.toInt ≤ x → (x : Int) ≤ X1.toInt → Y0.toInt ≤ z → (z : Int) ≤ Y1.toInt → (z_in (a_fi A i) x z ↔ z_in (W i) x z)) → ∀ v2 : Int32, v2 = nI i + 1 → P46 1 (f_PF_span X0 X1) (nI fs) (iI ls) v2 (q_put σ ι' (q_L σ)) := fun y hy1 hy2 hv2 v2 ev => by
      rw [ev, nI_1]
      refine ih (i + 1) (by omega) fun j hj x z hx hz a1 a2 a3 a4 => ?_
      rcases Nat.lt_or_ge j i with c | c
      · exact hv j c x z hx hz a1 a2 a3 a4
      · have : j = i := by omega
        subst this
        exact hv2 z x (by omega) hx hz a1 a2 a3 a4
    induction e with
    | zero =>
      intro y hy hy2 hv2
      refine p80 _ _ _ _ _ _ _ _ (br_t ?_ (hend y hy2 (by omega) hv2))
      rw [iI_lt, iI_t (by omega) (by omega), nI_toInt (by omega)]; omega
    | succ e ih2 =>
      intro y hy hy2 hv2
      refine p80 _ _ _ _ _ _ _ _ (br_c (fun c => ?_) (fun c => ?_))
      · rw [iI_lt, iI_t (by omega) (by omega), nI_toInt (by omega)] at c
        exact hend y hy2 c hv2
      · rw [iI_lt, iI_t (by omega) (by omega), nI_toInt (by omega)] at c
        have cy : (nI y).toNatClampNeg = y := nI_clamp (by omega)
        have vy : vp_in (nI y) 24 := vp_in_nI (by omega) (by omega)
        have r1 : ι' (q_P σ (pl i) 10 + 1) y = a_fi A i y := hld.1 y (by omega)
        have r2 : ι' (q_P σ (pl i) 11 + 1) y = W i y := (hcd i hiN).1 y (by omega)
        simp only [q_put_K, q_put_P, q_put_Z, q_put_I, hcp.1, hl.2.1, hl.2.2.1, hl.2.2.2.1, hl.2.2.2.2, ht.2.1, ht.2.2.1, ht.2.2.2.1, ht.2.2.2.2, cy, vy, r1, r2, true_or, true_and]
        refine br_c (fun c2 v12 e12 => ?_) (fun c2 => ?_)
        · rw [e12, nI_1]
          refine ih2 (y + 1) (by omega) (by omega) fun z x hz hx hz2 a1 a2 a3 a4 => ?_
          rcases Nat.lt_or_ge z y with c3 | c3
          · exact hv2 z x c3 hx hz2 a1 a2 a3 a4
          · have : z = y := by omega
            subst this
            have c4 := b_z.mp c2 x
            rw [b_ad, b_xor, z_span] at c4
            have c5 : ¬ (bt (a_fi A i z) x ^^ bt (W i z) x) = true := fun c6 => c4 ⟨c6, hx, a1, a2⟩
            unfold z_in
            cases h6 : bt (a_fi A i z) x <;> cases h7 : bt (W i z) x <;> rw [h6, h7] at c5 <;> simp at c5 ⊢
        · refine h0 W isl pcs fl hall 0 _ (Or.inr ⟨rfl, fun c3 => ?_⟩) hw'.c hfo
          obtain ⟨x, hx, c4⟩ := b_ne0.mp c2
          rw [b_ad, b_xor, z_span] at c4
          have c5 := c3 i hiN x y hx (by omega) c4.2.2.1 c4.2.2.2 (by omega) (by omega)
          have c6 := c4.1
          unfold z_in at c5
          have hy24 : y < 24 := by omega
          simp only [hy24, true_and] at c5
          cases h6 : bt (a_fi A i y) x <;> cases h7 : bt (W i y) x <;> rw [h6, h7] at c5 c6 <;> simp at c5 c6
