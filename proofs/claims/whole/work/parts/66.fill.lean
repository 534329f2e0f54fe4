/-! A FILL OF THE CLASS -/
def a_fil (A : a_A) (W : Nat → Nat → Int32) (isl pcs : Nat → Nat) (fl : Nat → Int32) : a_A := (va_up (va_up A.1 6 isl) 7 pcs, va_up A.2.1 3 fl, A.2.2.1, A.2.2.2.1, A.2.2.2.2.1, W)
/-- a store with other references -/
def q_pp (σ : q_S) (Q : Nat → Nat → Nat) : q_S := (σ.1, σ.2.1, σ.2.2.1, σ.2.2.2.1, σ.2.2.2.2.1, Q)
theorem q_pp_wP (σ : q_S) (ι : Nat → Nat → Int32) (κ : Nat → Nat → Int64) (Q : Nat → Nat → Nat) (a k x : Nat) : q_wP (q_put (q_pp σ Q) ι κ) a k x = q_put (q_pp σ (va_up Q a (va_up (Q a) k x))) ι κ := rfl
theorem q_pp_P (σ : q_S) (Q : Nat → Nat → Nat) (a : Nat) : q_P (q_pp σ Q) a = Q a := rfl
theorem q_pp_K (σ : q_S) (Q : Nat → Nat → Nat) (a : Nat) : q_K (q_pp σ Q) a = q_K σ a := rfl
theorem q_pp_Z (σ : q_S) (Q : Nat → Nat → Nat) (a : Nat) : q_Z (q_pp σ Q) a = q_Z σ a := rfl
theorem q_pp_n (σ : q_S) (Q : Nat → Nat → Nat) : q_n (q_pp σ Q) = q_n σ := rfl
/-- trial and latest exchanged -/
def q_xc (σ : q_S) (ν : Nat) : Nat → Nat := va_up (va_up (q_P σ ν) 10 (q_P σ ν 11)) 11 (q_P σ ν 10)
theorem c_pl.xc {σ : q_S} {ν : Nat} {Q : Nat → Nat → Nat} (h : c_pl σ ν) (h0 : Q ν = q_xc σ ν) (h4 : Q (ν + 4) = q_P σ (ν + 4)) (h6 : Q (ν + 6) = q_P σ (ν + 6)) : c_pl (q_pp σ Q) ν := by
  obtain ⟨a1, a2, a3, a4, a5, a6, a7, a8, a9, a10, a11, a12, a13⟩ := h
  have e3 : Q ν 3 = q_P σ ν 3 := by rw [h0]; unfold q_xc; rw [up_n (by omega), up_n (by omega)]
  have e4 : Q ν 4 = q_P σ ν 4 := by rw [h0]; unfold q_xc; rw [up_n (by omega), up_n (by omega)]
  have e5 : Q ν 5 = q_P σ ν 5 := by rw [h0]; unfold q_xc; rw [up_n (by omega), up_n (by omega)]
  have e10 : Q ν 10 = q_P σ ν 11 := by rw [h0]; unfold q_xc; rw [up_n (by omega), up_s]
  have e11 : Q ν 11 = q_P σ ν 10 := by rw [h0]; unfold q_xc; rw [up_s]
  unfold c_pl
  simp only [q_pp_P, q_pp_K, q_pp_Z, e3, e4, e5, e10, e11, h4, h6]
  refine ⟨a1, a2, a3, a4, a5, a6, a7, a8, a9, a10, a11, a12, ?_⟩
  rcases a13 with ⟨b1, b2⟩ | ⟨b1, b2⟩
  · exact Or.inr ⟨b2, b1⟩
  · exact Or.inl ⟨b2, b1⟩
theorem k_fill {A : a_A} {σ : q_S} (h : w_C A σ) (ok : a_ok A) {R : q_O → q_S → Prop}
    (h0 : ∀ W isl pcs fl, z_all A W isl pcs fl → ∀ τ, w_C (a_fil A W isl pcs fl) τ → w_fo σ τ → R (.inl (some (.inl (nI (z_sm pcs (a_N A)))))) τ) : V_PF_fill 1 σ R := by
  obtain ⟨pl, rl, f, g, hw⟩ := h
  have hw0 := hw
  obtain ⟨hc, hP, hD, hE, hX, hU, hS, hB⟩ := hw
  have hN8 := ok.1.1
  intro P8 p8
  refine ⟨hc.k, ?_⟩
  rw [← q_put_self σ]
  refine v_fillTrials hc hP hD hE hX hU ok hS.1 (fun ι' W isl pcs fl hall hcd hf h7 => ?_)
  have hw' := hw0.tri hf h7
  have hfo := w_tri_fo hw0 hf
  have hpl := hw'.2.1.2.2.2.1
  have hdis := hw'.2.1.2.2.2.2
  obtain ⟨l2, z2, s2⟩ := hw'.2.1.1
  obtain ⟨⟨b0, b0'⟩, b1, b2, b3, ⟨a2, a3, a4, a5⟩, b5⟩ := hB
  have hinj : ∀ i j, i < a_N A → j < a_N A → pl i = pl j → i = j := fun i j hi hj e => by
    by_cases c : i = j
    · exact c
    · have := hdis i j hi hj c; omega
  have har : ∀ a n, c_A σ a n → ∀ i, i < a_N A → q_P σ a 0 ≠ pl i := fun a n ha i hi e => by
    have hk := (hpl i hi).1.1
    have := b1 i hi
    rcases ha with ⟨c1, -⟩ | ⟨-, -, c1, -⟩
    · omega
    · rw [e, hk] at c1; omega
  have hle : ∀ i, i < a_N A → pcs i ≤ 768 := fun i hi => (hall i hi).np.2.1
  have hsum : ∀ k, k ≤ a_N A → z_sm pcs k ≤ k * 768 := fun k hk => z_sm_le fun i hi => hle i (by omega)
  suffices L : ∀ (d k : Nat) (Q : Nat → Nat → Nat), k + d = a_N A → (∀ a, (∀ i, i < k → a ≠ pl i) → Q a = q_P σ a) → (∀ i, i < k → Q (pl i) = q_xc σ (pl i)) → P8 1 (nI (z_sm pcs k)) (nI k) (q_put (q_pp σ Q) ι' (q_L σ)) from L (a_N A) 0 (q_P σ) (by omega) (fun _ _ => rfl) (fun i hi => by omega)
  intro d
  induction d with
  | zero =>
    intro k Q hk hq hx
    have hk : k = a_N A := by omega
    subst hk
    have q2 : Q 2 = q_P σ 2 := hq 2 fun i hi => by have := (hpl i hi).2.1; omega
    have q3 : Q 3 = q_P σ 3 := hq 3 fun i hi => by have := (hpl i hi).2.1; omega
    have q4 : Q 4 = q_P σ 4 := hq 4 fun i hi => by have := (hpl i hi).2.1; omega
    have q5 : Q 5 = q_P σ 5 := hq 5 fun i hi => by have := (hpl i hi).2.1; omega
    have q1 : Q 1 = q_P σ 1 := hq 1 fun i hi => by have := (hpl i hi).2.1; omega
    have q7 : Q 7 = q_P σ 7 := hq 7 fun i hi => by have := (hpl i hi).2.1; omega
    have q10 : Q 10 = q_P σ 10 := hq 10 fun i hi => by have := (hpl i hi).2.1; omega
    have qa2 : Q (q_P σ 2 0) = q_P σ (q_P σ 2 0) := hq _ (har 2 _ a2)
    have qa3 : Q (q_P σ 3 0) = q_P σ (q_P σ 3 0) := hq _ (har 3 _ a3)
    have qa4 : Q (q_P σ 4 0) = q_P σ (q_P σ 4 0) := hq _ (har 4 _ a4)
    have qa5 : Q (q_P σ 5 0) = q_P σ (q_P σ 5 0) := hq _ (har 5 _ a5)
    have lc : ∀ a n fn, c_L σ a n fn → Q a = q_P σ a → Q (q_P σ a 0) = q_P σ (q_P σ a 0) → c_L (q_pp σ Q) a n fn := fun a n fn hl e1 e2 => by
      unfold c_L
      rw [q_pp_P, e1, q_pp_K, q_pp_K, q_pp_Z, q_pp_P, e2]; exact hl
    refine p8 _ _ _ _ ⟨hc.k, ?_⟩
    simp only [q_put_P, q_put_K, q_pp_P, q_pp_K, q1, hc.p1]
    refine ⟨l2.1, v_sizeL (show q_K (q_pp σ Q) 2 = 8 from l2.1) s2 (br_t (nI_le (Nat.le_refl _) (by omega)) ?_)⟩
    refine h0 W isl pcs fl hall _ ⟨pl, rl, f, g, ?_⟩ ?_
    · obtain ⟨-, hP', hD', hE', -, hU', hS', -⟩ := hw'
      refine ⟨?_, ?_, ?_, ?_, hX, hU', hS', ?_⟩
      · unfold c_S q_gr
        simp only [q_put_K, q_put_P, q_put_Z, q_pp_P, q_pp_K, q_pp_Z, q1, q7, q10]
        exact hc
      · obtain ⟨⟨l2', z2', s2'⟩, ⟨l3', z3', s3'⟩, hord, hpl', hdis'⟩ := hP'
        refine ⟨⟨lc 2 _ _ l2' q2 qa2, ?_, s2'⟩, ⟨lc 3 _ _ l3' q3 qa3, ?_, s3'⟩, hord, fun i hi => ?_, hdis'⟩
        · show q_Z σ (Q 2 0) < 1000
          rw [q2]; exact z2'
        · show q_Z σ (Q 3 0) < 1000
          rw [q3]; exact z3'
        · obtain ⟨p1, p2, p3, p4⟩ := hpl' i hi
          have hx4 : Q (pl i + 4) = q_P σ (pl i + 4) := hq _ fun j hj e => by
            by_cases c : j = i
            · subst c; omega
            · have := hdis j i hj hi c; omega
          have hx6 : Q (pl i + 6) = q_P σ (pl i + 6) := hq _ fun j hj e => by
            by_cases c : j = i
            · subst c; omega
            · have := hdis j i hj hi c; omega
          refine ⟨p1.xc (hx i hi) hx4 hx6, p2, p3, ?_⟩
          show c_cd ι' (Q (pl i) 10) (W i) (pcs i) (isl i) (fl i)
          rw [hx i hi]
          unfold q_xc
          rw [up_n (by omega), up_s]
          exact hcd i hi
      · refine ⟨lc 4 _ _ hD'.1 q4 qa4, ?_, hD'.2.2.1, hD'.2.2.2⟩
        show q_Z σ (Q 4 0) < 1000
        rw [q4]; exact hD'.2.1
      · refine ⟨lc 5 _ _ hE'.1 q5 qa5, ?_, hE'.2.2.1, hE'.2.2.2⟩
        show q_Z σ (Q 5 0) < 1000
        rw [q5]; exact hE'.2.1
      · refine ⟨⟨b0, b0'⟩, b1, b2, b3, ⟨?_, ?_, ?_, ?_⟩, fun a b h1 h2 h3 h4 => ?_⟩
        · unfold c_A
          rw [q_put_P, q_pp_P, q2]; exact a2
        · unfold c_A
          rw [q_put_P, q_pp_P, q3]; exact a3
        · unfold c_A
          rw [q_put_P, q_pp_P, q4]; exact a4
        · unfold c_A
          rw [q_put_P, q_pp_P, q5]; exact a5
        · rw [q_put_P, q_pp_P] at h4 ⊢
          rw [q_put_P, q_pp_P] at h4
          have qa : ∀ t, 2 ≤ t → t ≤ 5 → Q t = q_P σ t := fun t t1 t2 => hq t fun i hi => by have := (hpl i hi).2.1; omega
          rw [qa a (by omega) (by omega)] at h4 ⊢
          rw [qa b (by omega) (by omega)] at h4
          exact b5 a b h1 h2 h3 h4
    · refine ⟨fun a ha => ⟨rfl, rfl, hfo a (by omega), rfl, ?_⟩, rfl, rfl, Nat.le_add_right _ _⟩
      exact hq a fun i hi => by
        have := (hpl i hi).2.1
        have := b1 i hi
        omega
  | succ d ih =>
    intro k Q hk hq hx
    have hkN : k < a_N A := by omega
    obtain ⟨hcp, h42, hpd, hld⟩ := hpl k hkN
    have q2 : Q 2 = q_P σ 2 := hq 2 fun i hi => by have := (hpl i (by omega)).2.1; omega
    have q1 : Q 1 = q_P σ 1 := hq 1 fun i hi => by have := (hpl i (by omega)).2.1; omega
    have qa2 : Q (q_P σ 2 0) = q_P σ (q_P σ 2 0) := hq _ fun i hi => har 2 _ a2 i (by omega)
    have qk : Q (pl k) = q_P σ (pl k) := hq _ fun i hi e => by have := hinj k i hkN (by omega) e; omega
    have l2' : c_L (q_pp σ Q) 2 (a_N A) pl := by
      unfold c_L
      rw [q_pp_P, q2, q_pp_K, q_pp_K, q_pp_Z, q_pp_P, qa2]; exact l2
    have z2' : q_Z (q_pp σ Q) (q_P (q_pp σ Q) 2 0) < 1000 := by
      rw [q_pp_P, q2, q_pp_Z]; exact z2
    have hs1 := hsum (k + 1) (by omega)
    have hs0 := hsum k (by omega)
    refine p8 _ _ _ _ ⟨hc.k, ?_⟩
    simp only [q_put_P, q_put_K, q_pp_P, q_pp_K, q1, hc.p1]
    refine ⟨l2.1, v_sizeL l2'.1 s2 (br_f (nI_ge (by omega) (by omega)) ?_)⟩
    simp only [q_put_P, q_put_K, q_pp_P, q_pp_K, q1, hc.k, hc.p1, l2.1, true_and]
    refine v_getL l2' s2 hkN (by omega) z2' ⟨hcp.1, hcp.1, ?_⟩
    have ht := hcp.tri
    unfold V_PL_takeTrial
    simp only [q_put_P, q_put_K, q_pp_P, q_pp_K, hcp.1, true_and, forall_eq, q_pp_wP, up_s, z_rws_up, qk]
    have eQ : va_up Q (pl k) (va_up (va_up (q_P σ (pl k)) 10 (q_P σ (pl k) 11)) 11 (q_P σ (pl k) 10)) = va_up Q (pl k) (q_xc σ (pl k)) := rfl
    rw [eQ]
    have e10 : q_xc σ (pl k) 10 = q_P σ (pl k) 11 := by unfold q_xc; rw [up_n (by omega), up_s]
    simp only [q_cv, q_put_P, q_put_K, q_put_I, q_pp_P, q_pp_K, hcp.1, up_s, e10, ht.2.1, (hcd k hkN).2.1, true_and, forall_eq, nI_add, nI_1]
    have := ih (k + 1) (va_up Q (pl k) (q_xc σ (pl k))) (by omega) (fun a ha => ?_) (fun i hi => ?_)
    · exact this
    · rw [up_n (ha k (by omega))]
      exact hq a fun i hi => ha i (by omega)
    · rcases Nat.lt_or_ge i k with c | c
      · rw [up_n (fun e => by have := hinj i k (by omega) hkN e; omega)]; exact hx i c
      · have : i = k := by omega
        subst this; rw [up_s]
