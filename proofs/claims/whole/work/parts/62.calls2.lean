/-! CALLS OF THE CLASS THAT CHANGE A PLANE OR A RULE -/
def a_cor (A : a_A) (i x y : Nat) : a_A := (va_up A.1 3 (va_up (A.1 3) i (a_oc A i + 1)), A.2.1, va_up A.2.2.1 i (va_up (A.2.2.1 i) (a_oc A i) x), va_up A.2.2.2.1 i (va_up (A.2.2.2.1 i) (a_oc A i) y), A.2.2.2.2.1, A.2.2.2.2.2)
theorem a_cor_sp (A : a_A) (i x y j : Nat) (h : j ≠ i) : a_sp A (a_cor A i x y) j := ⟨rfl, rfl, rfl, up_n h, rfl, rfl, rfl, fun k => congrFun (up_n h) k, fun k => congrFun (up_n h) k, fun _ => rfl, fun _ => rfl, rfl, rfl, rfl⟩
theorem v_requireCorner {σ : q_S} {X Y : Int64} {R : q_O → q_S → Prop} (hn : q_n σ < 10000000) (hn0 : 0 < q_n σ)
    (h0 : ¬ (0 ≤ X.toInt ∧ X.toInt ≤ 32 ∧ 0 ≤ Y.toInt ∧ Y.toInt ≤ 24) → R (.inr (q_n σ)) (q_new σ 10 0)) (h1 : (0 ≤ X.toInt ∧ X.toInt ≤ 32 ∧ 0 ≤ Y.toInt ∧ Y.toInt ≤ 24) → R (.inl none) σ) : V_PF_requireCorner X Y σ R := by
  intro P28 p28
  have e0 : (0 : Int64).toInt = 0 := rfl
  have e32 : (32 : Int64).toInt = 32 := rfl
  have e24 : (24 : Int64).toInt = 24 := rfl
  have ht : ¬ (0 ≤ X.toInt ∧ X.toInt ≤ 32 ∧ 0 ≤ Y.toInt ∧ Y.toInt ≤ 24) → P28 σ := fun c => p28 _ ⟨hn, fun v2 e2 σ3 e3 => ⟨by rw [e2]; exact hn0, by rw [e2, e3]; exact h0 c⟩⟩
  simp only [lg_cmp_lt, lg_cmp_gt, lg_cmp_le, iL_lt, iL_le, e0, e32, e24]
  exact br_c (fun c => ht (by omega)) (fun c => br_c (fun c2 => ht (by omega)) (fun c2 => br_c (fun c3 => ht (by omega)) (fun c3 => br_c (fun c4 => h1 (by omega)) (fun c4 => ht (by omega)))))
theorem k_corner {A : a_A} {σ : q_S} {x : Int32} {X Y : Int64} (h : w_C A σ) (ok : a_ok A) (hn : q_n σ < 1000000) (hk : q_K σ 42 = 1001) (hz : q_Z σ 42 = 1) {R : q_O → q_S → Prop}
    (h1 : (x < 0 ∨ nI (a_N A) ≤ x) → ∀ τ, w_C A τ → w_fo σ τ → R (.inl (some (.inl 1))) τ)
    (h2 : ∀ i, i < a_N A → x = nI i → ¬ (0 ≤ X.toInt ∧ X.toInt ≤ 32 ∧ 0 ≤ Y.toInt ∧ Y.toInt ≤ 24) → ∀ τ, w_C A τ → w_fo σ τ → R (.inl (some (.inl 2))) τ)
    (h3 : ∀ i, i < a_N A → x = nI i → (0 ≤ X.toInt ∧ X.toInt ≤ 32 ∧ 0 ≤ Y.toInt ∧ Y.toInt ≤ 24) → (a_oc A i = 12 ∨ a_rc A i = 4) → ∀ τ, w_C A τ → w_fo σ τ → q_L τ 42 0 = 0 → R (.inl (some (.inl 0))) τ)
    (h4 : ∀ i (a b : Nat), i < a_N A → x = nI i → X.toInt = a → Y.toInt = b → a ≤ 32 → b ≤ 24 → a_oc A i < 12 → a_rc A i < 4 → ∀ τ, w_C (a_cor A i a b) τ → w_fo σ τ → q_L τ 42 0 = 1 → R (.inl (some (.inl 0))) τ) : V_LW_corner 1 x X Y 42 σ R := by
  obtain ⟨pl, rl, f, g, hw⟩ := h
  have hc := hw.1
  have hB := hw.2.2.2.2.2.2.2
  intro P19 p19
  refine ⟨hc.k, hc.k, ?_⟩
  refine v_knownPlane (κ := q_L σ) hw ok (fun c => ?_) (fun i hi e => ?_)
  · obtain ⟨t1, t2, t3, t4, t5⟩ := w_thr 9 hw hn (fun _ _ => rfl)
    exact br_t t3 (h1 c _ t4 t5)
  · refine v_requireCorner (by rw [q_put_n]; omega) (by rw [q_put_n]; have := hB.1.1; omega) (fun c => ?_) (fun c => ?_)
    · obtain ⟨t1, t2, t3, t4, t5⟩ := w_thr 10 hw hn (fun _ _ => rfl)
      exact br_f (by rw [show q_n (q_put σ (q_I σ) (q_L σ)) = q_n σ from rfl, t3]; decide) ⟨t3, h2 i hi e c _ t4 t5⟩
    · have hpl := hw.2.1.2.2.2.1 i hi
      have hcp := hpl.1
      have hpd := hpl.2.2.1
      have h42 := hpl.2.1
      obtain ⟨-, -, o3, o4, -, -⟩ := ok.1.2 i hi
      refine ⟨hcp.1, ?_⟩
      intro P17 p17
      obtain ⟨a, ha⟩ : ∃ a : Nat, X.toInt = a := ⟨X.toInt.toNat, by omega⟩
      obtain ⟨b, hb⟩ : ∃ b : Nat, Y.toInt = b := ⟨Y.toInt.toNat, by omega⟩
      have ea : X.toInt32 = nI a := by rw [iL_of X, ha, l2i, iI_nI]
      have eb : Y.toInt32 = nI b := by rw [iL_of Y, hb, l2i, iI_nI]
      have i6 : q_I σ (pl i) 6 = nI (a_oc A i) := hpd.2.2.2.1
      have i7 : q_I σ (pl i) 7 = nI (a_rc A i) := hpd.2.2.2.2.1
      have hno : (a_oc A i = 12 ∨ a_rc A i = 4) → P17 (q_put σ (q_I σ) (q_L σ)) := fun c2 => by
        refine p17 _ ⟨Or.inl rfl, br_t rfl (p19 _ _ _ _ (v_out (R := fun τ => R (.inl (some (.inl 0))) τ) hk hz ?_))⟩
        exact h3 i hi e c c2 _ hw.c (w_fo_put (fun _ _ => rfl) (fun a ha => by rw [up_n ha])) (by rw [q_put_L, up_o])
      refine ⟨hcp.1, ?_⟩
      rw [q_put_I, i6]
      refine pk_le 12 (a_oc A i) (fun c2 => hno (Or.inl (by omega))) (fun c2 => ⟨hcp.1, ?_⟩)
      rw [i7]
      refine pk_lt (a_rc A i) 4 (fun c3 => ?_) (fun c3 => hno (Or.inr (by omega)))
      have cc : (nI (a_oc A i)).toNatClampNeg = a_oc A i := nI_clamp (by omega)
      have vv : vp_in (nI (a_oc A i)) 12 := vp_in_nI (by omega) (by omega)
      have p4 := hcp.2.2.1
      have p5 := hcp.2.2.2.1
      have k4 := hcp.2.2.2.2.2.2.1
      have z4 := hcp.2.2.2.2.2.2.2.1
      have k5 := hcp.2.2.2.2.2.2.2.2.1
      have z5 := hcp.2.2.2.2.2.2.2.2.2.1
      simp only [q_put_K, q_put_P, q_put_Z, q_put_I, q_put_wI, hcp.1, p4, p5, k4, z4, k5, z5, i6, cc, vv, ea, eb, true_and, forall_eq, up_n (show pl i ≠ pl i + 2 by omega), up_n (show pl i ≠ pl i + 3 by omega), up_n (show pl i + 3 ≠ pl i + 2 by omega), nI_1]
      refine ⟨Or.inr rfl, br_f (by decide) (p19 _ _ _ _ (v_out (R := fun τ => R (.inl (some (.inl 0))) τ) hk hz ?_))⟩
      generalize hι : va_up (va_up (va_up (q_I σ) (pl i + 2) (va_up (q_I σ (pl i + 2)) (a_oc A i) (nI a))) (pl i + 3) (va_up (q_I σ (pl i + 3)) (a_oc A i) (nI b))) (pl i) (va_up (q_I σ (pl i)) 6 (nI (a_oc A i + 1))) = ι'
      have fo : ∀ t, t ≠ pl i → t ≠ pl i + 2 → t ≠ pl i + 3 → ι' t = q_I σ t := fun t t1 t2 t3 => by rw [← hι, up_n t1, up_n t3, up_n t2]
      have f0 : ι' (pl i) = va_up (q_I σ (pl i)) 6 (nI (a_oc A i + 1)) := by rw [← hι, up_s]
      have f2 : ι' (pl i + 2) = va_up (q_I σ (pl i + 2)) (a_oc A i) (nI a) := by rw [← hι, up_n (by omega), up_n (by omega), up_s]
      have f3 : ι' (pl i + 3) = va_up (q_I σ (pl i + 3)) (a_oc A i) (nI b) := by rw [← hι, up_n (by omega), up_s]
      have hw' : w_D (a_cor A i a b) σ ι' pl rl f g := by
        refine hw.one hi rfl rfl (fun _ q => q) (fun _ q => q) rfl rfl (fun _ => rfl) (fun _ => rfl) (fun t ht => fo t (by omega) (by omega) (by omega)) (fun j hj => a_cor_sp A i a b j hj) ?_ ?_
        · obtain ⟨q0, q1, q2, q3, q4, q5, q6, q7, q8⟩ := hpd
          have eoc : a_oc (a_cor A i a b) i = a_oc A i + 1 := up_s _ _ _
          have eox : ∀ k, a_ox (a_cor A i a b) i k = va_up (A.2.2.1 i) (a_oc A i) a k := fun k => congrFun (up_s _ _ _) k
          have eoy : ∀ k, a_oy (a_cor A i a b) i k = va_up (A.2.2.2.1 i) (a_oc A i) b k := fun k => congrFun (up_s _ _ _) k
          refine ⟨?_, ?_, ?_, ?_, ?_, ?_, ?_, ?_, ?_⟩
          · rw [f0, up_n (by omega)]; exact q0
          · rw [f0, up_n (by omega)]; exact q1
          · rw [f0, up_n (by omega)]; exact q2
          · rw [f0, up_s, eoc]
          · rw [f0, up_n (by omega)]; exact q4
          · rw [f0, up_n (by omega)]; exact q5
          · rw [f0, up_n (by omega)]; exact q6
          · intro y hy
            rw [fo (pl i + 1) (by omega) (by omega) (by omega)]; exact q7 y hy
          · rw [eoc]
            intro k hk2
            rw [eox, eoy, f2, f3]
            by_cases c4 : k = a_oc A i
            · rw [c4, up_s, up_s, up_s, up_s]; exact ⟨rfl, rfl⟩
            · rw [up_n c4, up_n c4, up_n c4, up_n c4]; exact q8 k (by omega)
        · have hl := hcp.lat.1
          unfold c_cd
          rw [fo (q_P σ (pl i) 10) (by omega) (by omega) (by omega), fo (q_P σ (pl i) 10 + 1) (by omega) (by omega) (by omega)]
          exact hpl.2.2.2
      have hpl8 := hB.2.1 i hi
      have hBn := hB.1.2
      exact h4 i a b hi e ha hb (by omega) (by omega) (by omega) c3 _ hw'.c (w_fo_put (fun t ht => fo t (by omega) (by omega) (by omega)) (fun t ht => by rw [up_n ht])) (by rw [q_put_L, up_o])
noncomputable def a_rin (A : a_A) (i : Nat) : a_A := (va_up (va_up A.1 3 (va_up (A.1 3) i 0)) 2 (va_up (A.1 2) i (a_rc A i + 1)), A.2.1, A.2.2.1, A.2.2.2.1, va_up A.2.2.2.2.1 i (z_tb (z_rp (a_oc A i) (a_ox A i) (a_oy A i)) (A.2.2.2.2.1 i)), A.2.2.2.2.2)
theorem a_rin_sp (A : a_A) (i j : Nat) (h : j ≠ i) : a_sp A (a_rin A i) j := ⟨rfl, rfl, rfl, up_n h, up_n h, rfl, rfl, fun _ => rfl, fun _ => rfl, fun k => congrFun (up_n h) k, fun _ => rfl, rfl, rfl, rfl⟩
theorem z_tb_congr {c : Nat → Nat → Bool} {r s : Nat → Int32} {y : Nat} (hy : y < 24) (h : r y = s y) : z_tb c r y = z_tb c s y := by
  unfold z_tb z_tn
  rw [z_mix_lo hy, z_mix_lo hy, h]
theorem k_ring {A : a_A} {σ : q_S} {x : Int32} (h : w_C A σ) (ok : a_ok A) (hn : q_n σ < 1000000) (hk : q_K σ 42 = 1001) (hz : q_Z σ 42 = 1) {R : q_O → q_S → Prop}
    (h1 : (x < 0 ∨ nI (a_N A) ≤ x) → ∀ τ, w_C A τ → w_fo σ τ → R (.inl (some (.inl 1))) τ)
    (h3 : ∀ i, i < a_N A → x = nI i → a_oc A i < 3 → ∀ τ, w_C A τ → w_fo σ τ → q_L τ 42 0 = 0 → R (.inl (some (.inl 0))) τ)
    (h4 : ∀ i, i < a_N A → x = nI i → 3 ≤ a_oc A i → ∀ τ, w_C (a_rin A i) τ → w_fo σ τ → q_L τ 42 0 = 1 → R (.inl (some (.inl 0))) τ) : V_LW_ring 1 x 42 σ R := by
  obtain ⟨pl, rl, f, g, hw⟩ := h
  have hc := hw.1
  have hB := hw.2.2.2.2.2.2.2
  intro P15 p15
  refine ⟨hc.k, hc.k, ?_⟩
  refine v_knownPlane (κ := q_L σ) hw ok (fun c => ?_) (fun i hi e => ?_)
  · obtain ⟨t1, t2, t3, t4, t5⟩ := w_thr 9 hw hn (fun _ _ => rfl)
    exact ⟨t3, h1 c _ t4 t5⟩
  · have hpl := hw.2.1.2.2.2.1 i hi
    have hcp := hpl.1
    have hpd := hpl.2.2.1
    have h42 := hpl.2.1
    obtain ⟨-, -, o3, o4, -, o6⟩ := ok.1.2 i hi
    obtain ⟨k0, p3, p4, p5, k3, z3, k4, z4, k5, z5, -⟩ := hcp
    have hcp := hpl.1
    refine ⟨k0, ?_⟩
    refine v_closeRing (X := a_ox A i) (Y := a_oy A i) k0 p3 p4 p5 k3 z3 k4 z4 k5 z5 (by omega) (by omega) (by omega) hpd.2.2.2.1 o4 (fun k hk2 => ⟨(hpd.2.2.2.2.2.2.2.2 k hk2).1, (o6 k hk2).1⟩) (fun k hk2 => ⟨(hpd.2.2.2.2.2.2.2.2 k hk2).2, (o6 k hk2).2⟩) (fun c => ?_) (fun c => ?_)
    · refine ⟨Or.inl rfl, br_t rfl (p15 _ _ _ _ (v_out (R := fun τ => R (.inl (some (.inl 0))) τ) hk hz ?_))⟩
      exact h3 i hi e c _ hw.c (w_fo_put (fun _ _ => rfl) (fun a ha => by rw [up_n ha])) (by rw [q_put_L, up_o])
    · refine ⟨Or.inr rfl, br_f (by decide) (p15 _ _ _ _ (v_out (R := fun τ => R (.inl (some (.inl 0))) τ) hk hz ?_))⟩
      generalize hι : va_up (va_up (q_I σ) (pl i + 1) (z_tb (z_rp (a_oc A i) (a_ox A i) (a_oy A i)) (q_I σ (pl i + 1)))) (pl i) (va_up (va_up (q_I σ (pl i)) 6 0) 7 (q_I σ (pl i) 7 + 1)) = ι'
      have fo : ∀ t, t ≠ pl i → t ≠ pl i + 1 → ι' t = q_I σ t := fun t t1 t2 => by rw [← hι, up_n t1, up_n t2]
      have f0 : ι' (pl i) = va_up (va_up (q_I σ (pl i)) 6 0) 7 (q_I σ (pl i) 7 + 1) := by rw [← hι, up_s]
      have f1 : ι' (pl i + 1) = z_tb (z_rp (a_oc A i) (a_ox A i) (a_oy A i)) (q_I σ (pl i + 1)) := by rw [← hι, up_n (by omega), up_s]
      have hw' : w_D (a_rin A i) σ ι' pl rl f g := by
        refine hw.one hi rfl rfl (fun _ q => q) (fun _ q => q) rfl rfl (fun _ => rfl) (fun _ => rfl) (fun t ht => fo t (by omega) (by omega)) (fun j hj => a_rin_sp A i j hj) ?_ ?_
        · obtain ⟨q0, q1, q2, q3, q4, q5, q6, q7, q8⟩ := hpd
          have eoc : a_oc (a_rin A i) i = 0 := up_s _ _ _
          have erc : a_rc (a_rin A i) i = a_rc A i + 1 := up_s _ _ _
          have eou : ∀ k, a_ou (a_rin A i) i k = z_tb (z_rp (a_oc A i) (a_ox A i) (a_oy A i)) (A.2.2.2.2.1 i) k := fun k => congrFun (up_s _ _ _) k
          refine ⟨?_, ?_, ?_, ?_, ?_, ?_, ?_, ?_, ?_⟩
          · rw [f0, up_n (by omega), up_n (by omega)]; exact q0
          · rw [f0, up_n (by omega), up_n (by omega)]; exact q1
          · rw [f0, up_n (by omega), up_n (by omega)]; exact q2
          · rw [f0, up_n (by omega), up_s, eoc]; rfl
          · rw [f0, up_s, q4, erc, nI_1]
          · rw [f0, up_n (by omega), up_n (by omega)]; exact q5
          · rw [f0, up_n (by omega), up_n (by omega)]; exact q6
          · intro y hy
            rw [f1, eou]
            exact z_tb_congr hy (q7 y hy)
          · rw [eoc]
            intro k hk2
            omega
        · have hl := hcp.lat.1
          unfold c_cd
          rw [fo (q_P σ (pl i) 10) (by omega) (by omega), fo (q_P σ (pl i) 10 + 1) (by omega) (by omega)]
          exact hpl.2.2.2
      have hpl8 := hB.2.1 i hi
      have hBn := hB.1.2
      exact h4 i hi e c _ hw'.c (w_fo_put (fun t ht => fo t (by omega) (by omega)) (fun t ht => by rw [up_n ht])) (by rw [q_put_L, up_o])
def a_hat (A : a_A) (i s w : Nat) : a_A := (va_up (va_up A.1 4 (va_up (A.1 4) i s)) 5 (va_up (A.1 5) i w), A.2)
theorem a_hat_sp (A : a_A) (i s w j : Nat) (h : j ≠ i) : a_sp A (a_hat A i s w) j := ⟨rfl, rfl, rfl, rfl, rfl, up_n h, up_n h, fun _ => rfl, fun _ => rfl, fun _ => rfl, fun _ => rfl, rfl, rfl, rfl⟩
theorem k_hatch {A : a_A} {σ : q_S} {x : Int32} {X Y : Int64} (h : w_C A σ) (ok : a_ok A) (hn : q_n σ < 1000000) (hk : q_K σ 42 = 1001) (hz : q_Z σ 42 = 1) {R : q_O → q_S → Prop}
    (h1 : (x < 0 ∨ nI (a_N A) ≤ x) → ∀ τ, w_C A τ → w_fo σ τ → R (.inl (some (.inl 1))) τ)
    (h2 : ∀ i, i < a_N A → x = nI i → ¬ (0 ≤ X.toInt ∧ X.toInt ≤ 16 ∧ 0 ≤ Y.toInt ∧ Y.toInt ≤ X.toInt) → ∀ τ, w_C A τ → w_fo σ τ → R (.inl (some (.inl 2))) τ)
    (h4 : ∀ i (a b : Nat), i < a_N A → x = nI i → X.toInt = a → Y.toInt = b → a ≤ 16 → b ≤ a → ∀ τ, w_C (a_hat A i a b) τ → w_fo σ τ → ((a_hs A i = a ∧ a_hw A i = b ∧ q_L τ 42 0 = 0) ∨ (¬ (a_hs A i = a ∧ a_hw A i = b) ∧ q_L τ 42 0 = 1)) → R (.inl (some (.inl 0))) τ) : V_LW_hatch 1 x X Y 42 σ R := by
  obtain ⟨pl, rl, f, g, hw⟩ := h
  have hc := hw.1
  have hB := hw.2.2.2.2.2.2.2
  have e0 : (0 : Int64).toInt = 0 := rfl
  have e16 : (16 : Int64).toInt = 16 := rfl
  intro P19 p19
  refine ⟨hc.k, ?_⟩
  intro P35 P68 P73 p35 p68 p73
  refine ⟨hc.k, ?_⟩
  refine v_knownPlane (κ := q_L σ) hw ok (fun c => ?_) (fun i hi e => ?_)
  · obtain ⟨t1, t2, t3, t4, t5⟩ := w_thr 9 hw hn (fun _ _ => rfl)
    exact br_t t3 (h1 c _ t4 t5)
  · have ht : ¬ (0 ≤ X.toInt ∧ X.toInt ≤ 16 ∧ 0 ≤ Y.toInt ∧ Y.toInt ≤ X.toInt) → P35 (q_put σ (q_I σ) (q_L σ)) := fun c => by
      obtain ⟨t1, t2, t3, t4, t5⟩ := w_thr 10 hw hn (fun _ _ => rfl)
      refine p35 _ ⟨t1, fun v2 e2 σ3 e3 => ⟨by rw [e2]; exact t2, ?_⟩⟩
      rw [e2, e3]
      exact br_f (by rw [show q_n (q_put σ (q_I σ) (q_L σ)) = q_n σ from rfl, t3]; decide) ⟨t3, h2 i hi e c _ t4 t5⟩
    have hpl := hw.2.1.2.2.2.1 i hi
    have hcp := hpl.1
    have hpd := hpl.2.2.1
    have h42 := hpl.2.1
    obtain ⟨o1, o2, -⟩ := ok.1.2 i hi
    show (_ ∧ _)
    simp only [lg_cmp_lt, lg_cmp_gt, lg_cmp_le, lg_cmp_eq, iL_lt, iL_le, e0, e16]
    refine br_c (fun c => ht (by omega)) (fun c => br_c (fun c2 => ht (by omega)) (fun c2 => br_c (fun c3 => ht (by omega)) (fun c3 => br_c (fun c4 => ?_) (fun c4 => ht (by omega)))))
    obtain ⟨a, ha⟩ : ∃ a : Nat, X.toInt = a := ⟨X.toInt.toNat, by omega⟩
    obtain ⟨b, hb⟩ : ∃ b : Nat, Y.toInt = b := ⟨Y.toInt.toNat, by omega⟩
    have ea : X.toInt32 = nI a := by rw [iL_of X, ha, l2i, iI_nI]
    have eb : Y.toInt32 = nI b := by rw [iL_of Y, hb, l2i, iI_nI]
    have i8 : q_I σ (pl i) 8 = nI (a_hs A i) := hpd.2.2.2.2.2.1
    have i9 : q_I σ (pl i) 9 = nI (a_hw A i) := hpd.2.2.2.2.2.2.1
    have q8 : (nI (a_hs A i)).toInt64 = X ↔ a_hs A i = a := by
      rw [iL_eq, i2l_t, nI_toInt (by omega), ha]; omega
    have q9 : (nI (a_hw A i)).toInt64 = Y ↔ a_hw A i = b := by
      rw [iL_eq, i2l_t, nI_toInt (by omega), hb]; omega
    have fin : ∀ v : Int32, ((v = 0 ∧ a_hs A i = a ∧ a_hw A i = b) ∨ (v = 1 ∧ ¬ (a_hs A i = a ∧ a_hw A i = b))) → P73 X Y (pl i) v (q_put σ (q_I σ) (q_L σ)) := fun v hv => by
      refine p73 _ _ _ _ _ ?_
      simp only [q_put_K, q_put_wI, hcp.1, ea, eb, true_and, forall_eq, up_s, z_rws_up]
      generalize hι : va_up (q_I σ) (pl i) (va_up (va_up (q_I σ (pl i)) 8 (nI a)) 9 (nI b)) = ι'
      have fo : ∀ t, t ≠ pl i → ι' t = q_I σ t := fun t t1 => by rw [← hι, up_n t1]
      have f0 : ι' (pl i) = va_up (va_up (q_I σ (pl i)) 8 (nI a)) 9 (nI b) := by rw [← hι, up_s]
      have hw' : w_D (a_hat A i a b) σ ι' pl rl f g := by
        refine hw.one hi rfl rfl (fun _ q => q) (fun _ q => q) rfl rfl (fun _ => rfl) (fun _ => rfl) (fun t ht => fo t (by omega)) (fun j hj => a_hat_sp A i a b j hj) ?_ ?_
        · obtain ⟨q0, q1, q2, q3, q4, q5, q6, q7, q8⟩ := hpd
          have ehs : a_hs (a_hat A i a b) i = a := up_s _ _ _
          have ehw : a_hw (a_hat A i a b) i = b := up_s _ _ _
          refine ⟨?_, ?_, ?_, ?_, ?_, ?_, ?_, ?_, ?_⟩
          · rw [f0, up_n (by omega), up_n (by omega)]; exact q0
          · rw [f0, up_n (by omega), up_n (by omega)]; exact q1
          · rw [f0, up_n (by omega), up_n (by omega)]; exact q2
          · rw [f0, up_n (by omega), up_n (by omega)]; exact q3
          · rw [f0, up_n (by omega), up_n (by omega)]; exact q4
          · rw [f0, up_n (by omega), up_s, ehs]
          · rw [f0, up_s, ehw]
          · intro y hy
            rw [fo (pl i + 1) (by omega)]; exact q7 y hy
          · intro k hk2
            rw [fo (pl i + 2) (by omega), fo (pl i + 3) (by omega)]; exact q8 k hk2
        · have hl := hcp.lat.1
          unfold c_cd
          rw [fo (q_P σ (pl i) 10) (by omega), fo (q_P σ (pl i) 10 + 1) (by omega)]
          exact hpl.2.2.2
      have hpl8 := hB.2.1 i hi
      have hBn := hB.1.2
      have hfo : ∀ v : Int64, w_fo σ (q_put σ ι' (va_up (q_L σ) 42 (va_up (q_L σ 42) 0 v))) := fun v => w_fo_put (fun t ht => fo t (by omega)) (fun t ht => by rw [up_n ht])
      rcases hv with ⟨v0, v1⟩ | ⟨v0, v1⟩
      · subst v0
        refine ⟨Or.inl rfl, br_t rfl (p19 _ _ _ _ (v_out (R := fun τ => R (.inl (some (.inl 0))) τ) hk hz ?_))⟩
        exact h4 i a b hi e ha hb (by omega) (by omega) _ hw'.c (hfo 0) (Or.inl ⟨v1.1, v1.2, by rw [q_put_L, up_o]⟩)
      · subst v0
        refine ⟨Or.inr rfl, br_f (by decide) (p19 _ _ _ _ (v_out (R := fun τ => R (.inl (some (.inl 0))) τ) hk hz ?_))⟩
        exact h4 i a b hi e ha hb (by omega) (by omega) _ hw'.c (hfo 1) (Or.inr ⟨v1, by rw [q_put_L, up_o]⟩)
    simp only [q_put_K, q_put_I, hcp.1, i8, i9, q8, q9, true_and]
    exact br_c (fun c5 => p68 _ _ _ _ (fin 1 (Or.inr ⟨rfl, fun c6 => c5 c6.1⟩))) (fun c5 => br_c (fun c6 => fin 0 (Or.inl ⟨rfl, Decidable.not_not.mp c5, c6⟩)) (fun c6 => p68 _ _ _ _ (fin 1 (Or.inr ⟨rfl, fun c7 => c6 c7.2⟩))))
