/-! PADS ARE TOLD TO THE CLASS -/
def a_pad (A : a_A) (n l : Int32) (x y w v : Nat) : a_A := (va_up (va_up (va_up (va_up (va_up A.1 0 (va_up (A.1 0) 3 (a_E A + 1))) 11 (va_up (A.1 11) (a_E A) x)) 12 (va_up (A.1 12) (a_E A) y)) 13 (va_up (A.1 13) (a_E A) w)) 14 (va_up (A.1 14) (a_E A) v), va_up (va_up A.2.1 6 (va_up (A.2.1 6) (a_E A) n)) 7 (va_up (A.2.1 7) (a_E A) l), A.2.2)
theorem k_pad {A : a_A} {σ : q_S} {n l : Int32} {X Y Q S : Int64} {L : Nat} {xs : Nat → Int32} (h : w_C A σ) (ok : a_ok A) (hr : w_R L xs σ) (hn : q_n σ < 1000000) (hk : q_K σ 42 = 1001) (hz : q_Z σ 42 = 1) {R : q_O → q_S → Prop}
    (h1 : ¬ (0 ≤ l.toInt ∧ l.toInt < a_ly A) → ∀ τ, w_C A τ → w_fo σ τ → R (.inl (some (.inl 1))) τ)
    (h2 : (0 ≤ l.toInt ∧ l.toInt < a_ly A) → ¬ ((0 ≤ n.toInt ∧ n.toInt ≤ 99) ∧ (0 ≤ X.toInt ∧ X.toInt < 32 ∧ 0 ≤ Y.toInt ∧ Y.toInt < 24) ∧ (1 ≤ Q.toInt ∧ Q.toInt ≤ 32 - X.toInt) ∧ 1 ≤ S.toInt ∧ S.toInt ≤ 24 - Y.toInt) → ∀ τ, w_C A τ → w_fo σ τ → R (.inl (some (.inl 2))) τ)
    (h3 : (0 ≤ l.toInt ∧ l.toInt < a_ly A) → ((0 ≤ n.toInt ∧ n.toInt ≤ 99) ∧ (0 ≤ X.toInt ∧ X.toInt < 32 ∧ 0 ≤ Y.toInt ∧ Y.toInt < 24) ∧ (1 ≤ Q.toInt ∧ Q.toInt ≤ 32 - X.toInt) ∧ 1 ≤ S.toInt ∧ S.toInt ≤ 24 - Y.toInt) → a_E A = 10 → ∀ τ, w_C A τ → w_fo σ τ → q_L τ 42 0 = (-1 : Int32).toInt64 → R (.inl (some (.inl 0))) τ)
    (h4 : ∀ x y w v : Nat, (0 ≤ l.toInt ∧ l.toInt < a_ly A) → ((0 ≤ n.toInt ∧ n.toInt ≤ 99) ∧ (0 ≤ X.toInt ∧ X.toInt < 32 ∧ 0 ≤ Y.toInt ∧ Y.toInt < 24) ∧ (1 ≤ Q.toInt ∧ Q.toInt ≤ 32 - X.toInt) ∧ 1 ≤ S.toInt ∧ S.toInt ≤ 24 - Y.toInt) → X.toInt = x → Y.toInt = y → Q.toInt = w → S.toInt = v → a_E A < 10 → ∀ τ, w_C (a_pad A n l x y w v) τ → w_fo σ τ → q_L τ 42 0 = (nI (a_E A)).toInt64 → R (.inl (some (.inl 0))) τ) : V_LW_pad 1 n l X Y Q S 42 σ R := by
  obtain ⟨pl, rl, f, g, hw⟩ := h
  have hw0 := hw
  obtain ⟨hc, hP, hD, hE, hX, hU, hS, hB⟩ := hw
  obtain ⟨⟨b0, b0'⟩, b1, b2, b3, ⟨a2, a3, a4, a5⟩, b5⟩ := hB
  have e0 : (0 : Int64).toInt = 0 := rfl
  have e1 : (1 : Int64).toInt = 1 := rfl
  have e20 : (20 : Int64).toInt = 20 := rfl
  have hcnt := ok.2.2.1.1
  obtain ⟨s1, s2, s3, s4, s5⟩ := w_thr 9 hw0 hn (fun _ _ => rfl)
  obtain ⟨t1, t2, t3, t4, t5⟩ := w_thr 10 hw0 hn (fun _ _ => rfl)
  have ten : (0 ≤ l.toInt ∧ l.toInt < a_ly A) → ¬ ((0 ≤ n.toInt ∧ n.toInt ≤ 99) ∧ (0 ≤ X.toInt ∧ X.toInt < 32 ∧ 0 ≤ Y.toInt ∧ Y.toInt < 24) ∧ (1 ≤ Q.toInt ∧ Q.toInt ≤ 32 - X.toInt) ∧ 1 ≤ S.toInt ∧ S.toInt ≤ 24 - Y.toInt) → ((q_K (q_new σ 10 0) (q_n σ) = 9 → R (.inl (some (.inl (1 : Int32)))) (q_new σ 10 0)) ∧ (¬ q_K (q_new σ 10 0) (q_n σ) = 9 → q_K (q_new σ 10 0) (q_n σ) = 10 ∧ R (.inl (some (.inl (2 : Int32)))) (q_new σ 10 0))) := fun c0 c => br_f (by rw [show q_K (q_new σ 10 0) (q_n σ) = 10 from t3]; decide) ⟨t3, h2 c0 c _ t4 t5⟩
  refine ⟨hc.k, ?_⟩
  intro PT pT
  refine ⟨hc.k, v_requireLayer hw0 ok (by omega) (fun c => br_t s3 (h1 c _ s4 s5)) (fun c0 => ?_)⟩
  refine v_requireNet (by omega) (by omega) (fun c => ten c0 (fun c2 => c c2.1)) (fun cn => ?_)
  have ht : ¬ ((0 ≤ X.toInt ∧ X.toInt < 32 ∧ 0 ≤ Y.toInt ∧ Y.toInt < 24) ∧ (1 ≤ Q.toInt ∧ Q.toInt ≤ 32 - X.toInt) ∧ 1 ≤ S.toInt ∧ S.toInt ≤ 24 - Y.toInt) → PT σ := fun c => pT _ ⟨t1, fun v2 e2 σ3 e3 => ⟨by rw [e2]; exact t2, by rw [e2, e3]; exact ten c0 (fun c2 => c c2.2)⟩⟩
  rcases z_onBoard X Y with ⟨o1, o2⟩ | ⟨o1, o2, o3, o4, o5⟩
  · exact br_t o1 (ht (by omega))
  refine br_f (by rw [o1]; decide) ?_
  have eX : ((32 : Int64) - X).toInt = 32 - X.toInt := by
    rw [iL_of X, show (32 : Int64) = iL 32 from rfl, iL_sub, iL_t (by omega) (by omega), iL_t (by omega) (by omega)]
  have eY : ((24 : Int64) - Y).toInt = 24 - Y.toInt := by
    rw [iL_of Y, show (24 : Int64) = iL 24 from rfl, iL_sub, iL_t (by omega) (by omega), iL_t (by omega) (by omega)]
  simp only [lg_cmp_lt, lg_cmp_le, lg_cmp_gt, iL_lt, iL_le, e1, eX, eY]
  refine br_c (fun c => ht (by omega)) (fun c4 => br_c (fun c => ht (by omega)) (fun c5 => br_c (fun c => ht (by omega)) (fun c7 => br_c (fun c8 => ?_) (fun c => ht (by omega)))))
  rw [← q_put_self σ]
  simp only [q_put_P, q_put_K, hc.k, hc.p4, true_and]
  refine ⟨hE.1.1, v_sizeL hE.1.1 hE.2.2.1 (br_c (fun c6 => ?_) (fun c6 => ?_))⟩
  · have hlt : a_E A < 10 := (nI_ltI (b := 10) (by omega) (by omega)).mp c6
    obtain ⟨x, hx⟩ : ∃ x : Nat, X.toInt = x := ⟨X.toInt.toNat, by omega⟩
    obtain ⟨y, hy⟩ : ∃ y : Nat, Y.toInt = y := ⟨Y.toInt.toNat, by omega⟩
    obtain ⟨w, hww⟩ : ∃ w : Nat, Q.toInt = w := ⟨Q.toInt.toNat, by omega⟩
    obtain ⟨v, hvv⟩ : ∃ v : Nat, S.toInt = v := ⟨S.toInt.toNat, by omega⟩
    have ex : X.toInt32 = nI x := by rw [iL_of X, hx, l2i, iI_nI]
    have ey : Y.toInt32 = nI y := by rw [iL_of Y, hy, l2i, iI_nI]
    have er : Q.toInt32 = nI w := by rw [iL_of Q, hww, l2i, iI_nI]
    have ev2 : S.toInt32 = nI v := by rw [iL_of S, hvv, l2i, iI_nI]
    refine ⟨hc.k, by rw [q_put_n]; omega, fun v25 ev σ26 es => ?_⟩
    rw [q_put_n] at ev
    rw [q_put_self] at es
    subst ev es
    refine ⟨by omega, ?_⟩
    unfold V_PP_init
    have kx : q_K (q_new σ 5 0) (q_n σ) = 5 := by rw [q_K_new, if_pos rfl]
    rw [← q_put_self (q_new σ 5 0)]
    simp only [q_put_K, q_put_wI, kx, ex, ey, er, ev2, true_and, forall_eq, up_s, z_rws_up]
    refine ⟨by omega, ?_⟩
    have ix : q_I (q_new σ 5 0) (q_n σ) = fun _ => 0 := by rw [q_I_new, if_pos rfl]
    generalize hrow : va_up (va_up (va_up (va_up (va_up (va_up (q_I (q_new σ 5 0) (q_n σ)) 0 n) 1 l) 2 (nI x)) 3 (nI y)) 4 (nI w)) 5 (nI v) = row
    generalize hρ : q_put (q_new σ 5 0) (va_up (q_I (q_new σ 5 0)) (q_n σ) row) (q_L (q_new σ 5 0)) = ρ
    have rsm : ∀ b, b ≠ q_n σ → w_sm σ ρ b := fun b hb => by rw [← hρ]; exact w_sm_mk hb (up_n hb)
    have rn : q_n ρ = q_n σ + 1 := by rw [← hρ]; rfl
    have rK : q_K ρ (q_n σ) = 5 := by rw [← hρ]; exact kx
    have rI : q_I ρ (q_n σ) = row := by rw [← hρ, q_put_I, up_s]
    have s5 := rsm 5 (by omega)
    have sA := rsm (q_P σ 5 0) (by rcases a5 with ⟨q1, -⟩ | ⟨q1, q2, -⟩ <;> omega)
    show q_K ρ (q_P σ 1 4) = 8 ∧ V_AL_add2 (q_P σ 1 4) (q_n σ) ρ _
    rw [hc.p4]
    refine ⟨by rw [s5.1]; exact hE.1.1, ?_⟩
    refine v_add2 (f := g) (by omega) (hE.1.fr ⟨s5.1, s5.2.2.2.2⟩ ⟨sA.1, sA.2.1, sA.2.2.2.2⟩) (by rw [s5.2.2.1]; exact hE.2.2.1) (a5.sm s5.2.2.2.2 sA (by omega)) ?_ (by omega) (by omega) (by omega) (fun i hi => ?_) ⟨Or.inr (Or.inl rK), by omega⟩ (fun τ hτ => ?_)
    · have r5 := rsm 10000005 (by omega)
      rw [r5.1, r5.2.1]; exact hr.2.2.2.2.2
    · have hfi := b3 i hi
      refine ⟨?_, by omega⟩
      unfold q_el
      rw [(rsm _ (by omega)).1, (hE.2.2.2 i hi).1]; exact Or.inr (Or.inl rfl)
    obtain ⟨w1, w2, w3, w4, w5, w6, w7, w8⟩ := hτ
    have hnP : q_P ρ 5 0 = q_P σ 5 0 := by rw [s5.2.2.2.2]
    rw [hnP, rn] at w3
    generalize hta : q_P τ 5 0 = ta at *
    have tab : 42 < ta ∧ ta < q_n τ ∧ ta ≠ q_n σ := by
      rcases a5 with ⟨q1, q2⟩ | ⟨q1, q2, q3⟩
      · rcases w3 with ⟨q3, q4, q5⟩ | ⟨q3, q4⟩
        · exact absurd q1 q5
        · omega
      · rcases w3 with ⟨q4, q5, q6⟩ | ⟨q4, q5⟩ <;> omega
    have tan : q_n τ ≤ q_n σ + 2 ∧ q_n σ + 1 ≤ q_n τ := by rcases w3 with ⟨q3, q4, q5⟩ | ⟨q3, q4⟩ <;> omega
    have tsm : ∀ b, b ≠ q_n σ → b ≠ 5 → b ≠ ta → w_sm σ τ b := fun b q1 q2 q3 => (rsm b q1).tr (w8 b q2 q3)
    have lowsm : ∀ b, b ≤ 42 → b ≠ 5 → w_sm σ τ b := fun b q1 q2 => tsm b (by omega) q2 (by omega)
    have kta : ∀ b, b < q_n σ → q_K σ b ≠ 1002 → b ≠ ta := fun b q1 q2 q3 => by
      rcases w3 with ⟨q4, -, q5⟩ | ⟨q4, -⟩
      · rcases a5 with ⟨q6, -⟩ | ⟨-, -, q6, -⟩
        · exact q5 q6
        · rw [q3, q4] at q2; exact q2 q6
      · omega
    have arrs : ∀ a m, 2 ≤ a → a ≤ 5 → a ≠ 5 → c_A σ a m → w_sm σ τ (q_P σ a 0) := fun a m q1 q2 q3 q4 => by
      refine tsm _ (by rcases q4 with ⟨q5, -⟩ | ⟨q5, q6, -⟩ <;> omega) (by rcases q4 with ⟨q5, -⟩ | ⟨q5, q6, -⟩ <;> omega) (fun q5 => ?_)
      rcases w3 with ⟨q6, -, q7⟩ | ⟨q6, -⟩
      · rcases Nat.lt_or_ge a 5 with q8 | q8
        · have := b5 a 5 q1 q8 (by omega) (by omega)
          omega
        · have := b5 5 a (by omega) (by omega) q2 (by omega)
          omega
      · rcases q4 with ⟨q8, -⟩ | ⟨q8, q9, -⟩ <;> omega
    have plsm : ∀ i, i < a_N A → ∀ k, k < 8 → w_sm σ τ (pl i + k) := fun i hi k hk => by
      have q1 := b1 i hi
      have q2 := (hP.2.2.2.1 i hi).2.1
      refine tsm _ (by omega) (by omega) (kta _ (by omega) ?_)
      obtain ⟨c1, -, -, -, c5, -, c7, -, c9, -, ⟨d1, -, d3, -⟩, ⟨d5, -, d7, -⟩, -⟩ := (hP.2.2.2.1 i hi).1
      rcases (show k = 0 ∨ k = 1 ∨ k = 2 ∨ k = 3 ∨ k = 4 ∨ k = 5 ∨ k = 6 ∨ k = 7 by omega) with e | e | e | e | e | e | e | e <;> subst e
      · rw [Nat.add_zero, c1]; omega
      · rw [c5]; omega
      · rw [c7]; omega
      · rw [c9]; omega
      · rw [d1]; omega
      · rw [d3]; omega
      · rw [d5]; omega
      · rw [d7]; omega
    have dsm : ∀ i, i < a_D A → w_sm σ τ (f i) := fun i hi => by
      have q1 := b2 i hi
      have q2 := (hX.1 i hi).1
      exact tsm _ (by omega) (by omega) (kta _ q1 (by rw [(hD.2.2.2 i hi).1]; omega))
    have esm : ∀ i, i < a_E A → w_sm σ τ (g i) := fun i hi => by
      have q1 := b3 i hi
      have q2 := (hX.2 i hi).1
      exact tsm _ (by omega) (by omega) (kta _ q1 (by rw [(hE.2.2.2 i hi).1]; omega))
    have nsm : w_sm ρ τ (q_n σ) := w8 _ (by omega) (by omega)
    show q_K τ 1 = 1 ∧ q_K τ (q_P τ 1 4) = 8 ∧ V_AL_size (q_P τ 1 4) τ _
    have t1s := lowsm 1 (by omega) (by omega)
    rw [t1s.1, t1s.2.2.2.2, hc.p4]
    refine ⟨hc.k, w1, w1, ?_⟩
    rw [w2]
    simp only [q_ci]
    have eout : nI (a_E A + 1) - 1 = nI (a_E A) := by
      have := pk_sub (a := a_E A + 1) (b := 1) (by omega)
      rwa [Nat.add_sub_cancel] at this
    rw [eout]
    have hwτ : w_D (a_pad A n l x y w v) τ (q_I τ) pl rl f (va_up g (a_E A) (q_n σ)) := by
      refine ⟨hc.sm (fun b q => lowsm b (by omega) (by omega)), ?_, ?_, ?_, ?_, ?_, ?_, ?_⟩
      · have : c_P A τ (q_I τ) pl rl := hP.sm (lowsm 2 (by omega) (by omega)) (lowsm 3 (by omega) (by omega)) (arrs 2 _ (by omega) (by omega) (by omega) a2) (arrs 3 _ (by omega) (by omega) (by omega) a3) plsm
        exact this
      · have : c_D A τ (q_I τ) f := hD.sm (lowsm 4 (by omega) (by omega)) (arrs 4 _ (by omega) (by omega) (by omega) a4) dsm
        exact this
      · refine ⟨?_, ?_, ?_, fun i hi => ?_⟩
        · refine ⟨w1, fun _ => by rw [hta]; exact w4, by rw [hta]; exact w6, fun i hi => ?_⟩
          rw [hta]; exact w7 i hi
        · rw [hta]; omega
        · exact w2
        · by_cases c7 : i = a_E A
          · subst c7
            rw [up_s, nsm.1, rK, nsm.2.2.1, rI, ← hrow]
            refine ⟨rfl, ?_, ?_, ?_, ?_, ?_, ?_⟩
            · show _ = va_up (A.2.1 6) (a_E A) n (a_E A)
              rw [up_s, up_n (by omega), up_n (by omega), up_n (by omega), up_n (by omega), up_n (by omega), up_s]
            · show _ = va_up (A.2.1 7) (a_E A) l (a_E A)
              rw [up_s, up_n (by omega), up_n (by omega), up_n (by omega), up_n (by omega), up_s]
            · show _ = nI (va_up (A.1 11) (a_E A) x (a_E A))
              rw [up_s, up_n (by omega), up_n (by omega), up_n (by omega), up_s]
            · show _ = nI (va_up (A.1 12) (a_E A) y (a_E A))
              rw [up_s, up_n (by omega), up_n (by omega), up_s]
            · show _ = nI (va_up (A.1 13) (a_E A) w (a_E A))
              rw [up_s, up_n (by omega), up_s]
            · show _ = nI (va_up (A.1 14) (a_E A) v (a_E A))
              rw [up_s, up_s]
          · have hi2 : i < a_E A := by
              have : i < a_E A + 1 := hi
              omega
            rw [up_n c7, (esm i hi2).1, (esm i hi2).2.2.1]
            show q_K σ (g i) = 5 ∧ q_I σ (g i) 0 = va_up (A.2.1 6) (a_E A) n i ∧ q_I σ (g i) 1 = va_up (A.2.1 7) (a_E A) l i ∧ q_I σ (g i) 2 = nI (va_up (A.1 11) (a_E A) x i) ∧ q_I σ (g i) 3 = nI (va_up (A.1 12) (a_E A) y i) ∧ q_I σ (g i) 4 = nI (va_up (A.1 13) (a_E A) w i) ∧ q_I σ (g i) 5 = nI (va_up (A.1 14) (a_E A) v i)
            rw [up_n c7, up_n c7, up_n c7, up_n c7, up_n c7, up_n c7]
            exact hE.2.2.2 i hi2
      · refine ⟨hX.1, fun i hi => ?_⟩
        by_cases c7 : i = a_E A
        · subst c7
          rw [up_s]
          exact ⟨by omega, fun j hj => Or.inr (b1 j hj)⟩
        · have hi2 : i < a_E A := by
            have : i < a_E A + 1 := hi
            omega
          rw [up_n c7]; exact hX.2 i hi2
      · have : c_U A (q_I τ) := hU.sm (lowsm 1 (by omega) (by omega)) (lowsm 6 (by omega) (by omega))
        exact this
      · rw [(lowsm 7 (by omega) (by omega)).2.2.1, (lowsm 10 (by omega) (by omega)).2.2.1]; exact hS
      · refine ⟨⟨by omega, by omega⟩, fun i hi => by have := b1 i hi; omega, fun i hi => (by have := b2 i hi; omega), fun i hi => (by
          by_cases c7 : i = a_E A
          · subst c7; rw [up_s]; omega
          · have hi2 : i < a_E A := by
              have : i < a_E A + 1 := hi
              omega
            rw [up_n c7]
            have := b3 i hi2
            omega), ⟨a2.sm (lowsm 2 (by omega) (by omega)).2.2.2.2 (arrs 2 _ (by omega) (by omega) (by omega) a2) (by omega), a3.sm (lowsm 3 (by omega) (by omega)).2.2.2.2 (arrs 3 _ (by omega) (by omega) (by omega) a3) (by omega), a4.sm (lowsm 4 (by omega) (by omega)).2.2.2.2 (arrs 4 _ (by omega) (by omega) (by omega) a4) (by omega), Or.inr ⟨by rw [hta]; omega, by rw [hta]; omega, by rw [hta]; exact w4, by rw [hta]; exact w5⟩⟩, fun a b q1 q2 q3 q4 => ?_⟩
        have newA : q_P τ 5 0 = ta := hta
        have oth : ∀ c, 2 ≤ c → c ≤ 5 → c ≠ 5 → q_P τ c 0 = q_P σ c 0 ∧ q_P σ c 0 ≠ ta := fun c c1 c2 c3 => by
          refine ⟨by rw [(lowsm c (by omega) c3).2.2.2.2], fun c4 => ?_⟩
          rcases w3 with ⟨q6, -, q7⟩ | ⟨q6, -⟩
          · rcases Nat.lt_or_ge c 5 with q8 | q8
            · have := b5 c 5 c1 q8 (by omega) (by omega)
              omega
            · have := b5 5 c (by omega) (by omega) c2 (by omega)
              omega
          · have hcA : c_A σ c (if c = 4 then a_D A else if c = 5 then a_E A else a_N A) := by
              rcases (show c = 2 ∨ c = 3 ∨ c = 4 ∨ c = 5 by omega) with e | e | e | e <;> subst e
              · exact a2
              · exact a3
              · exact a4
              · exact a5
            rcases hcA with ⟨q8, -⟩ | ⟨q8, q9, -⟩ <;> omega
        by_cases c1 : a = 5
        · subst c1
          have := oth b (by omega) q3 (by omega)
          rw [newA, this.1] at q4
          exact absurd q4.symm this.2
        · by_cases c2 : b = 5
          · subst c2
            have := oth a q1 (by omega) c1
            rw [newA, this.1] at q4
            exact absurd q4 this.2
          · rw [(oth a q1 (by omega) c1).1] at q4 ⊢
            rw [(oth b (by omega) q3 c2).1] at q4
            exact b5 a b q1 q2 q3 q4
    have hk42 := lowsm 42 (by omega) (by omega)
    refine v_out2 (R := fun τ => R (.inl (some (.inl 0))) τ) (by rw [hk42.1]; exact hk) (by rw [hk42.2.1]; exact hz) ?_
    refine h4 x y w v c0 ⟨cn, ⟨o2, o3, o4, o5⟩, ⟨by omega, by omega⟩, by omega, by omega⟩ hx hy hww hvv hlt _ hwτ.c ?_ (by rw [q_put_L, up_o])
    refine ⟨fun a ha => ?_, by rw [q_put_K, hk42.1], by rw [q_put_Z, hk42.2.1], by rw [q_put_n]; omega⟩
    have q1 := tsm a (by omega) (by omega) (by omega)
    exact ⟨q1.1, q1.2.1, q1.2.2.1, by rw [q_put_L, up_n (by omega)]; exact q1.2.2.2.1, q1.2.2.2.2⟩
  · refine v_out (R := fun τ => R (.inl (some (.inl 0))) τ) hk hz ?_
    refine h3 c0 ⟨cn, ⟨o2, o3, o4, o5⟩, ⟨by omega, by omega⟩, by omega, by omega⟩ ?_ _ hw0.c (w_fo_put (fun _ _ => rfl) (fun t ht => by rw [up_n ht])) (by rw [q_put_L, up_o])
    rw [show ((10 : Int32)) = nI 10 from rfl, nI_ltI (by omega) (by omega)] at c6
    omega
