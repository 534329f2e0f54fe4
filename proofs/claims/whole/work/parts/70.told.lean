/-! DISCS AND PADS ARE TOLD TO THE CLASS -/
theorem c_S.sm {σ τ : q_S} (hc : c_S σ) (h : ∀ b, (b = 1 ∨ (6 ≤ b ∧ b ≤ 13)) → w_sm σ τ b) : c_S τ := by
  have s1 := h 1 (by omega)
  have s6 := h 6 (by omega)
  have s7 := h 7 (by omega)
  have s8 := h 8 (by omega)
  have s9 := h 9 (by omega)
  have s10 := h 10 (by omega)
  have s11 := h 11 (by omega)
  have s12 := h 12 (by omega)
  have s13 := h 13 (by omega)
  unfold c_S q_gr
  rw [s1.1, s1.2.2.2.2, s6.1, s6.2.1, s7.1, s7.2.2.2.2, s8.1, s8.2.1, s9.1, s9.2.1, s10.1, s10.2.2.2.2, s11.1, s11.2.1, s12.1, s12.2.1, s13.1, s13.2.1]
  exact hc
theorem c_P.sm {A : a_A} {σ τ : q_S} {pl rl : Nat → Nat} (h : c_P A σ (q_I σ) pl rl) (h2 : w_sm σ τ 2) (h3 : w_sm σ τ 3) (a2 : w_sm σ τ (q_P σ 2 0)) (a3 : w_sm σ τ (q_P σ 3 0)) (hp : ∀ i, i < a_N A → ∀ k, k < 8 → w_sm σ τ (pl i + k)) : c_P A τ (q_I τ) pl rl :=
  h.fr h2.2.2.1 h3.2.2.1 (fun i hi k hk => (hp i hi k hk).2.2.1) ⟨h2.1, h2.2.2.2.2⟩ ⟨h3.1, h3.2.2.2.2⟩ ⟨a2.1, a2.2.1, a2.2.2.2.2⟩ ⟨a3.1, a3.2.1, a3.2.2.2.2⟩ (fun i hi k hk => ⟨(hp i hi k hk).1, (hp i hi k hk).2.1, (hp i hi k hk).2.2.2.2⟩)
theorem c_D.sm {A : a_A} {σ τ : q_S} {f : Nat → Nat} (h : c_D A σ (q_I σ) f) (h4 : w_sm σ τ 4) (ha : w_sm σ τ (q_P σ 4 0)) (hf : ∀ i, i < a_D A → w_sm σ τ (f i)) : c_D A τ (q_I τ) f := by
  refine ⟨h.1.fr ⟨h4.1, h4.2.2.2.2⟩ ⟨ha.1, ha.2.1, ha.2.2.2.2⟩, by rw [h4.2.2.2.2, ha.2.1]; exact h.2.1, by rw [h4.2.2.1]; exact h.2.2.1, fun i hi => ?_⟩
  rw [(hf i hi).1, (hf i hi).2.2.1]; exact h.2.2.2 i hi
theorem c_E.sm {A : a_A} {σ τ : q_S} {f : Nat → Nat} (h : c_E A σ (q_I σ) f) (h4 : w_sm σ τ 5) (ha : w_sm σ τ (q_P σ 5 0)) (hf : ∀ i, i < a_E A → w_sm σ τ (f i)) : c_E A τ (q_I τ) f := by
  refine ⟨h.1.fr ⟨h4.1, h4.2.2.2.2⟩ ⟨ha.1, ha.2.1, ha.2.2.2.2⟩, by rw [h4.2.2.2.2, ha.2.1]; exact h.2.1, by rw [h4.2.2.1]; exact h.2.2.1, fun i hi => ?_⟩
  rw [(hf i hi).1, (hf i hi).2.2.1]; exact h.2.2.2 i hi
theorem c_A.sm {σ τ : q_S} {a n : Nat} (h : c_A σ a n) (hp : q_P τ a = q_P σ a) (ha : w_sm σ τ (q_P σ a 0)) (hn : q_n σ ≤ q_n τ) : c_A τ a n := by
  unfold c_A
  rw [hp, ha.1, ha.2.1]
  rcases h with h | ⟨h1, h2, h3⟩
  · exact Or.inl h
  · exact Or.inr ⟨h1, by omega, h3⟩
theorem c_U.sm {A : a_A} {σ τ : q_S} (h : c_U A (q_I σ)) (h1 : w_sm σ τ 1) (h6 : w_sm σ τ 6) : c_U A (q_I τ) := by
  unfold c_U
  rw [h1.2.2.1, h6.2.2.1]; exact h
theorem v_out2 {τ : q_S} {v : Int64} {R : q_S → Prop} (hk : q_K τ 42 = 1001) (hz : q_Z τ 42 = 1) (h : R (q_put τ (q_I τ) (va_up (q_L τ) 42 (va_up (q_L τ 42) 0 v)))) : q_K τ 42 = 1001 ∧ vp_in (0 : Int32) (q_Z τ 42) ∧ R (q_wL τ 42 (0 : Int32).toNatClampNeg v) := by
  obtain ⟨h1, h2, h3⟩ := v_out (σ := τ) (ι := q_I τ) (κ := q_L τ) (v := v) (R := R) hk hz h
  exact ⟨h1, h2, h3 _ rfl⟩
/-- a new thing of a kind, with numbers -/
theorem w_sm_mk {σ : q_S} {k a : Nat} {ι : Nat → Nat → Int32} (h : a ≠ q_n σ) (hi : ι a = q_I (q_new σ k 0) a) : w_sm σ (q_put (q_new σ k 0) ι (q_L (q_new σ k 0))) a := by
  have h1 := w_sm_new (σ := σ) (k := k) (z := 0) h
  exact ⟨h1.1, h1.2.1, hi.trans h1.2.2.1, h1.2.2.2.1, h1.2.2.2.2⟩
theorem v_requireLayer {A : a_A} {σ : q_S} {x : Int32} {pl rl f g : Nat → Nat} (hw : w_D A σ (q_I σ) pl rl f g) (ok : a_ok A) (hn : q_n σ < 10000000) {R : q_O → q_S → Prop}
    (h0 : ¬ (0 ≤ x.toInt ∧ x.toInt < a_ly A) → R (.inr (q_n σ)) (q_new σ 9 0)) (h1 : (0 ≤ x.toInt ∧ x.toInt < a_ly A) → R (.inl none) σ) : V_PF_requireLayer 1 x σ R := by
  intro P12 p12
  have e0 : (0 : Int32).toInt = 0 := rfl
  have hly : q_I σ 1 0 = nI (a_ly A) := hw.2.2.2.2.2.1.1
  have hl4 := ok.2.2.2.2.2
  have hn0 := hw.2.2.2.2.2.2.2.1.1
  have ht : ¬ (0 ≤ x.toInt ∧ x.toInt < a_ly A) → P12 σ := fun c => p12 _ ⟨hn, fun v2 e2 σ3 e3 => ⟨by rw [e2]; omega, by rw [e2, e3]; exact h0 c⟩⟩
  rw [hly]
  simp only [iI_lt, e0]
  rw [nI_toInt (by omega)]
  exact br_c (fun c => ht (by omega)) (fun c => ⟨hw.1.k, br_c (fun c2 => h1 (by omega)) (fun c2 => ht (by omega))⟩)
def a_obs (A : a_A) (n l : Int32) (x y r : Nat) : a_A := (va_up (va_up (va_up (va_up A.1 0 (va_up (A.1 0) 2 (a_D A + 1))) 8 (va_up (A.1 8) (a_D A) x)) 9 (va_up (A.1 9) (a_D A) y)) 10 (va_up (A.1 10) (a_D A) r), va_up (va_up A.2.1 4 (va_up (A.2.1 4) (a_D A) n)) 5 (va_up (A.2.1 5) (a_D A) l), A.2.2)
theorem k_obstacle {A : a_A} {σ : q_S} {n l : Int32} {X Y Q : Int64} {L : Nat} {xs : Nat → Int32} (h : w_C A σ) (ok : a_ok A) (hr : w_R L xs σ) (hn : q_n σ < 1000000) (hk : q_K σ 42 = 1001) (hz : q_Z σ 42 = 1) {R : q_O → q_S → Prop}
    (h1 : ¬ (0 ≤ l.toInt ∧ l.toInt < a_ly A) → ∀ τ, w_C A τ → w_fo σ τ → R (.inl (some (.inl 1))) τ)
    (h2 : (0 ≤ l.toInt ∧ l.toInt < a_ly A) → ¬ ((0 ≤ n.toInt ∧ n.toInt ≤ 99) ∧ (0 ≤ X.toInt ∧ X.toInt ≤ 32 ∧ 0 ≤ Y.toInt ∧ Y.toInt ≤ 24) ∧ 0 ≤ Q.toInt ∧ Q.toInt ≤ 20) → ∀ τ, w_C A τ → w_fo σ τ → R (.inl (some (.inl 2))) τ)
    (h3 : (0 ≤ l.toInt ∧ l.toInt < a_ly A) → ((0 ≤ n.toInt ∧ n.toInt ≤ 99) ∧ (0 ≤ X.toInt ∧ X.toInt ≤ 32 ∧ 0 ≤ Y.toInt ∧ Y.toInt ≤ 24) ∧ 0 ≤ Q.toInt ∧ Q.toInt ≤ 20) → a_D A = 20 → ∀ τ, w_C A τ → w_fo σ τ → q_L τ 42 0 = (-1 : Int32).toInt64 → R (.inl (some (.inl 0))) τ)
    (h4 : ∀ x y r : Nat, (0 ≤ l.toInt ∧ l.toInt < a_ly A) → ((0 ≤ n.toInt ∧ n.toInt ≤ 99) ∧ (0 ≤ X.toInt ∧ X.toInt ≤ 32 ∧ 0 ≤ Y.toInt ∧ Y.toInt ≤ 24) ∧ 0 ≤ Q.toInt ∧ Q.toInt ≤ 20) → X.toInt = x → Y.toInt = y → Q.toInt = r → a_D A < 20 → ∀ τ, w_C (a_obs A n l x y r) τ → w_fo σ τ → q_L τ 42 0 = (nI (a_D A)).toInt64 → R (.inl (some (.inl 0))) τ) : V_LW_obstacle 1 n l X Y Q 42 σ R := by
  obtain ⟨pl, rl, f, g, hw⟩ := h
  have hw0 := hw
  obtain ⟨hc, hP, hD, hE, hX, hU, hS, hB⟩ := hw
  obtain ⟨⟨b0, b0'⟩, b1, b2, b3, ⟨a2, a3, a4, a5⟩, b5⟩ := hB
  have e0 : (0 : Int64).toInt = 0 := rfl
  have e1 : (1 : Int64).toInt = 1 := rfl
  have e20 : (20 : Int64).toInt = 20 := rfl
  have hcnt := ok.2.1.1
  obtain ⟨s1, s2, s3, s4, s5⟩ := w_thr 9 hw0 hn (fun _ _ => rfl)
  obtain ⟨t1, t2, t3, t4, t5⟩ := w_thr 10 hw0 hn (fun _ _ => rfl)
  have ten : (0 ≤ l.toInt ∧ l.toInt < a_ly A) → ¬ ((0 ≤ n.toInt ∧ n.toInt ≤ 99) ∧ (0 ≤ X.toInt ∧ X.toInt ≤ 32 ∧ 0 ≤ Y.toInt ∧ Y.toInt ≤ 24) ∧ 0 ≤ Q.toInt ∧ Q.toInt ≤ 20) → ((q_K (q_new σ 10 0) (q_n σ) = 9 → R (.inl (some (.inl (1 : Int32)))) (q_new σ 10 0)) ∧ (¬ q_K (q_new σ 10 0) (q_n σ) = 9 → q_K (q_new σ 10 0) (q_n σ) = 10 ∧ R (.inl (some (.inl (2 : Int32)))) (q_new σ 10 0))) := fun c0 c => br_f (by rw [show q_K (q_new σ 10 0) (q_n σ) = 10 from t3]; decide) ⟨t3, h2 c0 c _ t4 t5⟩
  refine ⟨hc.k, ?_⟩
  intro PT pT
  refine ⟨hc.k, v_requireLayer hw0 ok (by omega) (fun c => br_t s3 (h1 c _ s4 s5)) (fun c0 => ?_)⟩
  refine v_requireNet (by omega) (by omega) (fun c => ten c0 (fun c2 => c c2.1)) (fun cn => ?_)
  refine v_requireCorner (by omega) (by omega) (fun c => ten c0 (fun c2 => c c2.2.1)) (fun cc => ?_)
  have ht : ¬ (0 ≤ Q.toInt ∧ Q.toInt ≤ 20) → PT σ := fun c => pT _ ⟨t1, fun v2 e2 σ3 e3 => ⟨by rw [e2]; exact t2, by rw [e2, e3]; exact ten c0 (fun c2 => c c2.2.2)⟩⟩
  show (_ ∧ _)
  simp only [lg_cmp_lt, lg_cmp_le, iL_lt, iL_le, e0, e20]
  refine br_c (fun c => ht (by omega)) (fun c4 => br_c (fun c5 => ?_) (fun c => ht (by omega)))
  rw [← q_put_self σ]
  simp only [q_put_P, q_put_K, hc.k, hc.p3, true_and]
  refine ⟨hD.1.1, v_sizeL hD.1.1 hD.2.2.1 (br_c (fun c6 => ?_) (fun c6 => ?_))⟩
  · have hlt : a_D A < 20 := (nI_ltI (b := 20) (by omega) (by omega)).mp c6
    obtain ⟨x, hx⟩ : ∃ x : Nat, X.toInt = x := ⟨X.toInt.toNat, by omega⟩
    obtain ⟨y, hy⟩ : ∃ y : Nat, Y.toInt = y := ⟨Y.toInt.toNat, by omega⟩
    obtain ⟨r, hrr⟩ : ∃ r : Nat, Q.toInt = r := ⟨Q.toInt.toNat, by omega⟩
    have ex : X.toInt32 = nI x := by rw [iL_of X, hx, l2i, iI_nI]
    have ey : Y.toInt32 = nI y := by rw [iL_of Y, hy, l2i, iI_nI]
    have er : Q.toInt32 = nI r := by rw [iL_of Q, hrr, l2i, iI_nI]
    refine ⟨hc.k, by rw [q_put_n]; omega, fun v25 ev σ26 es => ?_⟩
    rw [q_put_n] at ev
    rw [q_put_self] at es
    subst ev es
    refine ⟨by omega, ?_⟩
    unfold V_PD_init
    have kx : q_K (q_new σ 3 0) (q_n σ) = 3 := by rw [q_K_new, if_pos rfl]
    rw [← q_put_self (q_new σ 3 0)]
    simp only [q_put_K, q_put_wI, kx, ex, ey, er, true_and, forall_eq, up_s, z_rws_up]
    refine ⟨by omega, ?_⟩
    have ix : q_I (q_new σ 3 0) (q_n σ) = fun _ => 0 := by rw [q_I_new, if_pos rfl]
    generalize hrow : va_up (va_up (va_up (va_up (va_up (q_I (q_new σ 3 0) (q_n σ)) 0 n) 1 l) 2 (nI x)) 3 (nI y)) 4 (nI r) = row
    generalize hρ : q_put (q_new σ 3 0) (va_up (q_I (q_new σ 3 0)) (q_n σ) row) (q_L (q_new σ 3 0)) = ρ
    have rsm : ∀ b, b ≠ q_n σ → w_sm σ ρ b := fun b hb => by rw [← hρ]; exact w_sm_mk hb (up_n hb)
    have rn : q_n ρ = q_n σ + 1 := by rw [← hρ]; rfl
    have rK : q_K ρ (q_n σ) = 3 := by rw [← hρ]; exact kx
    have rI : q_I ρ (q_n σ) = row := by rw [← hρ, q_put_I, up_s]
    have s4 := rsm 4 (by omega)
    have sA := rsm (q_P σ 4 0) (by rcases a4 with ⟨q1, -⟩ | ⟨q1, q2, -⟩ <;> omega)
    show q_K ρ (q_P σ 1 3) = 8 ∧ V_AL_add2 (q_P σ 1 3) (q_n σ) ρ _
    rw [hc.p3]
    refine ⟨by rw [s4.1]; exact hD.1.1, ?_⟩
    refine v_add2 (f := f) (by omega) (hD.1.fr ⟨s4.1, s4.2.2.2.2⟩ ⟨sA.1, sA.2.1, sA.2.2.2.2⟩) (by rw [s4.2.2.1]; exact hD.2.2.1) (a4.sm s4.2.2.2.2 sA (by omega)) ?_ (by omega) (by omega) (by omega) (fun i hi => ?_) ⟨Or.inl rK, by omega⟩ (fun τ hτ => ?_)
    · have r5 := rsm 10000005 (by omega)
      rw [r5.1, r5.2.1]; exact hr.2.2.2.2.2
    · have hfi := b2 i hi
      refine ⟨?_, by omega⟩
      unfold q_el
      rw [(rsm _ (by omega)).1, (hD.2.2.2 i hi).1]; exact Or.inl rfl
    obtain ⟨w1, w2, w3, w4, w5, w6, w7, w8⟩ := hτ
    have hnP : q_P ρ 4 0 = q_P σ 4 0 := by rw [s4.2.2.2.2]
    rw [hnP, rn] at w3
    generalize hta : q_P τ 4 0 = ta at *
    have tab : 42 < ta ∧ ta < q_n τ ∧ ta ≠ q_n σ := by
      rcases a4 with ⟨q1, q2⟩ | ⟨q1, q2, q3⟩
      · rcases w3 with ⟨q3, q4, q5⟩ | ⟨q3, q4⟩
        · exact absurd q1 q5
        · omega
      · rcases w3 with ⟨q4, q5, q6⟩ | ⟨q4, q5⟩ <;> omega
    have tan : q_n τ ≤ q_n σ + 2 ∧ q_n σ + 1 ≤ q_n τ := by rcases w3 with ⟨q3, q4, q5⟩ | ⟨q3, q4⟩ <;> omega
    have tsm : ∀ b, b ≠ q_n σ → b ≠ 4 → b ≠ ta → w_sm σ τ b := fun b q1 q2 q3 => (rsm b q1).tr (w8 b q2 q3)
    have lowsm : ∀ b, b ≤ 42 → b ≠ 4 → w_sm σ τ b := fun b q1 q2 => tsm b (by omega) q2 (by omega)
    have kta : ∀ b, b < q_n σ → q_K σ b ≠ 1002 → b ≠ ta := fun b q1 q2 q3 => by
      rcases w3 with ⟨q4, -, q5⟩ | ⟨q4, -⟩
      · rcases a4 with ⟨q6, -⟩ | ⟨-, -, q6, -⟩
        · exact q5 q6
        · rw [q3, q4] at q2; exact q2 q6
      · omega
    have arrs : ∀ a m, 2 ≤ a → a ≤ 5 → a ≠ 4 → c_A σ a m → w_sm σ τ (q_P σ a 0) := fun a m q1 q2 q3 q4 => by
      refine tsm _ (by rcases q4 with ⟨q5, -⟩ | ⟨q5, q6, -⟩ <;> omega) (by rcases q4 with ⟨q5, -⟩ | ⟨q5, q6, -⟩ <;> omega) (fun q5 => ?_)
      rcases w3 with ⟨q6, -, q7⟩ | ⟨q6, -⟩
      · rcases Nat.lt_or_ge a 4 with q8 | q8
        · have := b5 a 4 q1 q8 (by omega) (by omega)
          omega
        · have := b5 4 a (by omega) (by omega) q2 (by omega)
          omega
      · rcases q4 with ⟨q8, -⟩ | ⟨q8, q9, -⟩ <;> omega
    have plsm : ∀ i, i < a_N A → ∀ k, k < 8 → w_sm σ τ (pl i + k) := fun i hi k hk => by
      have q1 := b1 i hi
      have q2 := (hP.2.2.2.1 i hi).2.1
      refine tsm _ (by omega) (by omega) (kta _ (by omega) ?_)
      obtain ⟨c1, -, -, -, c5, -, c7, -, c9, -, ⟨d1, -, d3, -⟩, ⟨d5, -, d7, -⟩, -⟩ := (hP.2.2.2.1 i hi).1
      rcases (show k = 0 ∨ k = 1 ∨ k = 2 ∨ k = 3 ∨ k = 4 ∨ k = 5 ∨ k = 6 ∨ k = 7 by omega) with e | e | e | e | e | e | e | e <;> subst e
      · rw [Nat.add_zero, c1]; omega
      · rw [c5]; omega
      · rw [c7]; omega
      · rw [c9]; omega
      · rw [d1]; omega
      · rw [d3]; omega
      · rw [d5]; omega
      · rw [d7]; omega
    have dsm : ∀ i, i < a_D A → w_sm σ τ (f i) := fun i hi => by
      have q1 := b2 i hi
      have q2 := (hX.1 i hi).1
      exact tsm _ (by omega) (by omega) (kta _ q1 (by rw [(hD.2.2.2 i hi).1]; omega))
    have esm : ∀ i, i < a_E A → w_sm σ τ (g i) := fun i hi => by
      have q1 := b3 i hi
      have q2 := (hX.2 i hi).1
      exact tsm _ (by omega) (by omega) (kta _ q1 (by rw [(hE.2.2.2 i hi).1]; omega))
    have nsm : w_sm ρ τ (q_n σ) := w8 _ (by omega) (by omega)
    show q_K τ 1 = 1 ∧ q_K τ (q_P τ 1 3) = 8 ∧ V_AL_size (q_P τ 1 3) τ _
    have t1s := lowsm 1 (by omega) (by omega)
    rw [t1s.1, t1s.2.2.2.2, hc.p3]
    refine ⟨hc.k, w1, w1, ?_⟩
    rw [w2]
    simp only [q_ci]
    have eout : nI (a_D A + 1) - 1 = nI (a_D A) := by
      have := pk_sub (a := a_D A + 1) (b := 1) (by omega)
      rwa [Nat.add_sub_cancel] at this
    rw [eout]
    have hwτ : w_D (a_obs A n l x y r) τ (q_I τ) pl rl (va_up f (a_D A) (q_n σ)) g := by
      refine ⟨hc.sm (fun b q => lowsm b (by omega) (by omega)), ?_, ?_, ?_, ?_, ?_, ?_, ?_⟩
      · have : c_P A τ (q_I τ) pl rl := hP.sm (lowsm 2 (by omega) (by omega)) (lowsm 3 (by omega) (by omega)) (arrs 2 _ (by omega) (by omega) (by omega) a2) (arrs 3 _ (by omega) (by omega) (by omega) a3) plsm
        exact this
      · refine ⟨?_, ?_, ?_, fun i hi => ?_⟩
        · refine ⟨w1, fun _ => by rw [hta]; exact w4, by rw [hta]; exact w6, fun i hi => ?_⟩
          rw [hta]; exact w7 i hi
        · rw [hta]; omega
        · exact w2
        · by_cases c7 : i = a_D A
          · subst c7
            rw [up_s, nsm.1, rK, nsm.2.2.1, rI, ← hrow]
            refine ⟨rfl, ?_, ?_, ?_, ?_, ?_⟩
            · show _ = va_up (A.2.1 4) (a_D A) n (a_D A)
              rw [up_s, up_n (by omega), up_n (by omega), up_n (by omega), up_n (by omega), up_s]
            · show _ = va_up (A.2.1 5) (a_D A) l (a_D A)
              rw [up_s, up_n (by omega), up_n (by omega), up_n (by omega), up_s]
            · show _ = nI (va_up (A.1 8) (a_D A) x (a_D A))
              rw [up_s, up_n (by omega), up_n (by omega), up_s]
            · show _ = nI (va_up (A.1 9) (a_D A) y (a_D A))
              rw [up_s, up_n (by omega), up_s]
            · show _ = nI (va_up (A.1 10) (a_D A) r (a_D A))
              rw [up_s, up_s]
          · have hi2 : i < a_D A := by
              have : i < a_D A + 1 := hi
              omega
            rw [up_n c7, (dsm i hi2).1, (dsm i hi2).2.2.1]
            show q_K σ (f i) = 3 ∧ q_I σ (f i) 0 = va_up (A.2.1 4) (a_D A) n i ∧ q_I σ (f i) 1 = va_up (A.2.1 5) (a_D A) l i ∧ q_I σ (f i) 2 = nI (va_up (A.1 8) (a_D A) x i) ∧ q_I σ (f i) 3 = nI (va_up (A.1 9) (a_D A) y i) ∧ q_I σ (f i) 4 = nI (va_up (A.1 10) (a_D A) r i)
            rw [up_n c7, up_n c7, up_n c7, up_n c7, up_n c7]
            exact hD.2.2.2 i hi2
      · have : c_E A τ (q_I τ) g := hE.sm (lowsm 5 (by omega) (by omega)) (arrs 5 _ (by omega) (by omega) (by omega) a5) esm
        exact this
      · refine ⟨fun i hi => ?_, hX.2⟩
        by_cases c7 : i = a_D A
        · subst c7
          rw [up_s]
          exact ⟨by omega, fun j hj => Or.inr (b1 j hj)⟩
        · have hi2 : i < a_D A := by
            have : i < a_D A + 1 := hi
            omega
          rw [up_n c7]; exact hX.1 i hi2
      · have : c_U A (q_I τ) := hU.sm (lowsm 1 (by omega) (by omega)) (lowsm 6 (by omega) (by omega))
        exact this
      · rw [(lowsm 7 (by omega) (by omega)).2.2.1, (lowsm 10 (by omega) (by omega)).2.2.1]; exact hS
      · refine ⟨⟨by omega, by omega⟩, fun i hi => by have := b1 i hi; omega, fun i hi => (by
          by_cases c7 : i = a_D A
          · subst c7; rw [up_s]; omega
          · have hi2 : i < a_D A := by
              have : i < a_D A + 1 := hi
              omega
            rw [up_n c7]
            have := b2 i hi2
            omega), fun i hi => (by have := b3 i hi; omega), ⟨a2.sm (lowsm 2 (by omega) (by omega)).2.2.2.2 (arrs 2 _ (by omega) (by omega) (by omega) a2) (by omega), a3.sm (lowsm 3 (by omega) (by omega)).2.2.2.2 (arrs 3 _ (by omega) (by omega) (by omega) a3) (by omega), Or.inr ⟨by rw [hta]; omega, by rw [hta]; omega, by rw [hta]; exact w4, by rw [hta]; exact w5⟩, a5.sm (lowsm 5 (by omega) (by omega)).2.2.2.2 (arrs 5 _ (by omega) (by omega) (by omega) a5) (by omega)⟩, fun a b q1 q2 q3 q4 => ?_⟩
        have newA : q_P τ 4 0 = ta := hta
        have oth : ∀ c, 2 ≤ c → c ≤ 5 → c ≠ 4 → q_P τ c 0 = q_P σ c 0 ∧ q_P σ c 0 ≠ ta := fun c c1 c2 c3 => by
          refine ⟨by rw [(lowsm c (by omega) c3).2.2.2.2], fun c4 => ?_⟩
          rcases w3 with ⟨q6, -, q7⟩ | ⟨q6, -⟩
          · rcases Nat.lt_or_ge c 4 with q8 | q8
            · have := b5 c 4 c1 q8 (by omega) (by omega)
              omega
            · have := b5 4 c (by omega) (by omega) c2 (by omega)
              omega
          · have hcA : c_A σ c (if c = 4 then a_D A else if c = 5 then a_E A else a_N A) := by
              rcases (show c = 2 ∨ c = 3 ∨ c = 4 ∨ c = 5 by omega) with e | e | e | e <;> subst e
              · exact a2
              · exact a3
              · exact a4
              · exact a5
            rcases hcA with ⟨q8, -⟩ | ⟨q8, q9, -⟩ <;> omega
        by_cases c1 : a = 4
        · subst c1
          have := oth b (by omega) q3 (by omega)
          rw [newA, this.1] at q4
          exact absurd q4.symm this.2
        · by_cases c2 : b = 4
          · subst c2
            have := oth a q1 (by omega) c1
            rw [newA, this.1] at q4
            exact absurd q4 this.2
          · rw [(oth a q1 (by omega) c1).1] at q4 ⊢
            rw [(oth b (by omega) q3 c2).1] at q4
            exact b5 a b q1 q2 q3 q4
    have hk42 := lowsm 42 (by omega) (by omega)
    refine v_out2 (R := fun τ => R (.inl (some (.inl 0))) τ) (by rw [hk42.1]; exact hk) (by rw [hk42.2.1]; exact hz) ?_
    refine h4 x y r c0 ⟨cn, cc, by omega, by omega⟩ hx hy hrr hlt _ hwτ.c ?_ (by rw [q_put_L, up_o])
    refine ⟨fun a ha => ?_, by rw [q_put_K, hk42.1], by rw [q_put_Z, hk42.2.1], by rw [q_put_n]; omega⟩
    have q1 := tsm a (by omega) (by omega) (by omega)
    exact ⟨q1.1, q1.2.1, q1.2.2.1, by rw [q_put_L, up_n (by omega)]; exact q1.2.2.2.1, q1.2.2.2.2⟩
  · refine v_out (R := fun τ => R (.inl (some (.inl 0))) τ) hk hz ?_
    refine h3 c0 ⟨cn, cc, by omega, by omega⟩ ?_ _ hw0.c (w_fo_put (fun _ _ => rfl) (fun t ht => by rw [up_n ht])) (by rw [q_put_L, up_o])
    rw [show ((20 : Int32)) = nI 20 from rfl, nI_ltI (by omega) (by omega)] at c6
    omega
