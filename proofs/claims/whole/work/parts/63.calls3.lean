/-! RULES; RINGS AND THEIR CELLS, BY THE CLASS -/
def w_R (L : Nat) (xs : Nat → Int32) (σ : q_S) : Prop := (q_K σ 10000000 = 2000 ∧ q_Z σ 10000000 = L ∧ q_I σ 10000000 = xs) ∧ (q_K σ 10000001 = 2000 ∧ q_Z σ 10000001 = 4 ∧ q_I σ 10000001 = q_a1) ∧ (q_K σ 10000002 = 2000 ∧ q_Z σ 10000002 = 4 ∧ q_I σ 10000002 = q_a2) ∧ (q_K σ 10000003 = 2000 ∧ q_Z σ 10000003 = 4 ∧ q_I σ 10000003 = q_a3) ∧ (q_K σ 10000004 = 2000 ∧ q_Z σ 10000004 = 4 ∧ q_I σ 10000004 = q_a4) ∧ q_K σ 10000005 = 2001 ∧ q_Z σ 10000005 = 0
def z_rlo (k : Nat) : Nat := if k = 2 then 1 else 0
def z_rhi (k : Nat) : Nat := if k = 0 then 5 else if k = 1 then 4 else if k = 2 then 5 else 1000
theorem q_a1_lo : ∀ k, k < 4 → q_a1 k = nI (z_rlo k) := by decide +kernel
theorem q_a2_hi : ∀ k, k < 4 → q_a2 k = nI (z_rhi k) := by decide +kernel
theorem z_rhi_le (k : Nat) : z_rhi k ≤ 1000 := by
  unfold z_rhi
  by_cases c0 : k = 0
  · rw [if_pos c0]; omega
  · rw [if_neg c0]
    by_cases c1 : k = 1
    · rw [if_pos c1]; omega
    · rw [if_neg c1]
      by_cases c2 : k = 2
      · rw [if_pos c2]; omega
      · rw [if_neg c2]; omega
theorem z_rlo_le (k : Nat) : z_rlo k ≤ 1 := by unfold z_rlo; split <;> omega
def a_rul (A : a_A) (k a : Nat) : a_A := (va_up A.1 1 (va_up (A.1 1) k a), A.2)
theorem k_rule {A : a_A} {σ : q_S} {x : Int32} {V : Int64} {L : Nat} {xs : Nat → Int32} (h : w_C A σ) (ok : a_ok A) (hr : w_R L xs σ) (hn : q_n σ < 1000000) (hk : q_K σ 42 = 1001) (hz : q_Z σ 42 = 1) {R : q_O → q_S → Prop}
    (h1 : (x < 0 ∨ nI 4 ≤ x) → ∀ τ, w_C A τ → w_fo σ τ → R (.inl (some (.inl 1))) τ)
    (h2 : ∀ k, k < 4 → x = nI k → ¬ ((z_rlo k : Int) ≤ V.toInt ∧ V.toInt ≤ z_rhi k) → ∀ τ, w_C A τ → w_fo σ τ → R (.inl (some (.inl 2))) τ)
    (h4 : ∀ k (a : Nat), k < 4 → x = nI k → V.toInt = a → z_rlo k ≤ a → a ≤ z_rhi k → ∀ τ, w_C (a_rul A k a) τ → w_fo σ τ → ((a_ru A k = a ∧ q_L τ 42 0 = 0) ∨ (¬ a_ru A k = a ∧ q_L τ 42 0 = 1)) → R (.inl (some (.inl 0))) τ) : V_LW_rule 1 x V 42 σ R := by
  obtain ⟨pl, rl, f, g, hw⟩ := h
  have hc := hw.1
  have hB := hw.2.2.2.2.2.2.2
  obtain ⟨u0, u1, u2, u3, u4⟩ := ok.2.2.2.1
  intro P17 p17
  refine ⟨hc.k, ?_⟩
  intro P9 P41 P68 p9 p41 p68
  have ht9 : (x < 0 ∨ nI 4 ≤ x) → P9 σ := fun c => by
    obtain ⟨t1, t2, t3, t4, t5⟩ := w_thr 9 hw hn (fun _ _ => rfl)
    refine p9 _ ⟨t1, fun v2 e2 σ3 e3 => ⟨by rw [e2]; exact t2, ?_⟩⟩
    rw [e2, e3]
    exact br_t t3 (h1 c _ t4 t5)
  refine br_c (fun c => ht9 (Or.inl c)) (fun c => ?_)
  obtain ⟨k, hk31, rfl⟩ := nI_of c
  refine pk_lt k 4 (fun c2 => ?_) (fun c2 => ht9 (Or.inr (nI_le c2 hk31)))
  have ht10 : ¬ ((z_rlo k : Int) ≤ V.toInt ∧ V.toInt ≤ z_rhi k) → P41 σ := fun c => by
    obtain ⟨t1, t2, t3, t4, t5⟩ := w_thr 10 hw hn (fun _ _ => rfl)
    refine p41 _ ⟨t1, fun v2 e2 σ3 e3 => ⟨by rw [e2]; exact t2, ?_⟩⟩
    rw [e2, e3]
    exact br_f (by rw [show q_n σ = q_n σ from rfl]; rw [show q_K (q_new σ 10 0) (q_n σ) = 10 from t3]; decide) ⟨t3, h2 k c2 rfl c _ t4 t5⟩
  have ck : (nI k).toNatClampNeg = k := nI_clamp (by omega)
  have vk : vp_in (nI k) 4 := vp_in_nI (by omega) (by omega)
  have r1 := hr.2.1
  have r2 := hr.2.2.1
  have l1 := z_rlo_le k
  have l2 := z_rhi_le k
  have t1 : (nI (z_rlo k)).toInt64.toInt = z_rlo k := by rw [i2l_t, nI_toInt (by omega)]
  have t2 : (nI (z_rhi k)).toInt64.toInt = z_rhi k := by rw [i2l_t, nI_toInt (by omega)]
  have i6 : q_I σ 6 k = nI (a_ru A k) := hw.2.2.2.2.2.1.2 k c2
  have ruk : a_ru A k ≤ 1000 := by
    rcases (show k = 0 ∨ k = 1 ∨ k = 2 ∨ k = 3 by omega) with e | e | e | e <;> rw [e] <;> omega
  have t3 : (nI (a_ru A k)).toInt64.toInt = a_ru A k := by rw [i2l_t, nI_toInt (by omega)]
  simp only [r1.1, r1.2.1, r1.2.2, r2.1, r2.2.1, r2.2.2, ck, vk, q_a1_lo k c2, q_a2_hi k c2, hc.k, hc.p5, hc.k6, hc.z6, i6, lg_cmp_lt, lg_cmp_le, lg_cmp_eq, iL_lt, iL_le, iL_eq, t1, t2, t3, or_true, true_or, true_and]
  refine br_c (fun c3 => ht10 (by omega)) (fun c3 => br_c (fun c4 => ?_) (fun c4 => ht10 (by omega)))
  obtain ⟨a, ha⟩ : ∃ a : Nat, V.toInt = a := ⟨V.toInt.toNat, by omega⟩
  have ea : V.toInt32 = nI a := by rw [iL_of V, ha, l2i, iI_nI]
  have fin : ∀ v : Int32, ((v = 0 ∧ a_ru A k = a) ∨ (v = 1 ∧ ¬ a_ru A k = a)) → P68 1 (nI k) V v σ := fun v hv => by
    refine p68 _ _ _ _ _ ?_
    rw [← q_put_self σ]
    simp only [q_put_K, q_put_P, q_put_Z, hc.k, hc.p5, hc.k6, hc.z6, ck, vk, ea, q_put_wI, true_and, forall_eq]
    have hw' : w_D (a_rul A k a) σ (va_up (q_I σ) 6 (va_up (q_I σ 6) k (nI a))) pl rl f g := by
      obtain ⟨-, hP, hD, hE, hX, hU, hS, -⟩ := hw
      refine ⟨hc, ?_, ?_, ?_, hX, ?_, ?_, hB⟩
      · have : c_P A σ (va_up (q_I σ) 6 (va_up (q_I σ 6) k (nI a))) pl rl := hP.fr (up_n (by omega)) (up_n (by omega)) (fun i hi j hj => up_n (by have := (hP.2.2.2.1 i hi).2.1; omega)) ⟨rfl, rfl⟩ ⟨rfl, rfl⟩ ⟨rfl, rfl, rfl⟩ ⟨rfl, rfl, rfl⟩ (fun _ _ _ _ => ⟨rfl, rfl, rfl⟩)
        exact this
      · have : c_D A σ (va_up (q_I σ) 6 (va_up (q_I σ 6) k (nI a))) f := hD.fr (up_n (by omega)) fun i hi => up_n (by have := (hX.1 i hi).1; omega)
        exact this
      · have : c_E A σ (va_up (q_I σ) 6 (va_up (q_I σ 6) k (nI a))) g := hE.fr (up_n (by omega)) fun i hi => up_n (by have := (hX.2 i hi).1; omega)
        exact this
      · refine ⟨by rw [up_n (by omega)]; exact hU.1, fun j hj => ?_⟩
        rw [up_s]
        show va_up (q_I σ 6) k (nI a) j = nI (va_up (A.1 1) k a j)
        by_cases c5 : j = k
        · rw [c5, up_s, up_s]
        · rw [up_n c5, up_n c5]; exact hU.2 j hj
      · rw [up_n (by omega), up_n (by omega)]; exact hS
    have hfo : ∀ v : Int64, w_fo σ (q_put σ (va_up (q_I σ) 6 (va_up (q_I σ 6) k (nI a))) (va_up (q_L σ) 42 (va_up (q_L σ 42) 0 v))) := fun v => w_fo_put (fun t ht => up_n (by omega)) (fun t ht => by rw [up_n ht])
    rcases hv with ⟨v0, v1⟩ | ⟨v0, v1⟩
    · subst v0
      refine ⟨Or.inl rfl, br_t rfl (p17 _ _ _ _ (v_out (R := fun τ => R (.inl (some (.inl 0))) τ) hk hz ?_))⟩
      exact h4 k a c2 rfl ha (by omega) (by omega) _ hw'.c (hfo 0) (Or.inl ⟨v1, by rw [q_put_L, up_o]⟩)
    · subst v0
      refine ⟨Or.inr rfl, br_f (by decide) (p17 _ _ _ _ (v_out (R := fun τ => R (.inl (some (.inl 0))) τ) hk hz ?_))⟩
      exact h4 k a c2 rfl ha (by omega) (by omega) _ hw'.c (hfo 1) (Or.inr ⟨v1, by rw [q_put_L, up_o]⟩)
  refine br_c (fun c5 => fin 0 (Or.inl ⟨rfl, by omega⟩)) (fun c5 => fin 1 (Or.inr ⟨rfl, by omega⟩))
/-- only what is at hand for pieces and holes has changed -/
theorem w_D.pg {A : a_A} {σ : q_S} {ι ι' : Nat → Nat → Int32} {pl rl f g : Nat → Nat} (h : w_D A σ ι pl rl f g) (h1 : z_fr ι ι' 7 8 9) : w_D A σ ι' pl rl f g := by
  refine h.scr (fun a a1 a2 a3 _ _ _ _ => h1.1 a a1 a2 a3) ?_ ?_
  · rw [h1.2 0 (by omega) (by omega)]; exact h.2.2.2.2.2.2.1.1
  · rw [h1.1 10 (by omega) (by omega) (by omega)]; exact h.2.2.2.2.2.2.1.2
theorem w_D.hg {A : a_A} {σ : q_S} {ι ι' : Nat → Nat → Int32} {pl rl f g : Nat → Nat} (h : w_D A σ ι pl rl f g) (h1 : z_fr ι ι' 10 11 12) : w_D A σ ι' pl rl f g := by
  refine h.scr (fun a _ _ _ a1 a2 a3 _ => h1.1 a a1 a2 a3) ?_ ?_
  · rw [h1.1 7 (by omega) (by omega) (by omega)]; exact h.2.2.2.2.2.2.1.1
  · rw [h1.2 0 (by omega) (by omega)]; exact h.2.2.2.2.2.2.1.2
theorem w_D.sp {A : a_A} {σ : q_S} {ι ι' : Nat → Nat → Int32} {pl rl f g : Nat → Nat} (h : w_D A σ ι pl rl f g) (h1 : ∀ a, a ≠ 13 → ι' a = ι a) : w_D A σ ι' pl rl f g := by
  refine h.scr (fun a _ _ _ _ _ _ a1 => h1 a a1) ?_ ?_
  · rw [h1 7 (by omega)]; exact h.2.2.2.2.2.2.1.1
  · rw [h1 10 (by omega)]; exact h.2.2.2.2.2.2.1.2
theorem v_takePieceD {A : a_A} {σ : q_S} {ι : Nat → Nat → Int32} {κ : Nat → Nat → Int64} {pl rl f g : Nat → Nat} {i : Nat} {p : Int32} (hw : w_D A σ ι pl rl f g) (np : a_np A) (hi : i < a_N A) {R : q_O → q_S → Prop}
    (h0 : (p < 0 ∨ nI (a_pc A i) ≤ p) → R (.inl (some (.inl 0))) (q_put σ ι κ))
    (h1 : ∀ j, p = nI j → j < a_pc A i → ∀ ι' : Nat → Nat → Int32, z_fr ι ι' 7 8 9 → z_in (ι' 9) = z_gp (z_in (a_fi A i)) j → R (.inl (some (.inl 1))) (q_put σ ι' κ)) : V_PF_takePiece 1 (pl i) p (q_put σ ι κ) R := by
  have hc := hw.1
  have hpl := hw.2.1.2.2.2.1 i hi
  have hl := hpl.1.lat
  have hcd := hpl.2.2.2
  have e : z_in (ι (q_P σ (pl i) 10 + 1)) = z_in (a_fi A i) := z_in_congr fun y hy => hcd.1 y hy
  refine v_takePiece (N := a_pc A i) hc.k hc.p6 hc.g7 hpl.1.1 rfl hl.2.1 hl.2.2.1 hl.2.2.2.1 hl.2.2.2.2 hw.2.2.2.2.2.2.1.1 hcd.2.1 (by rw [e]; exact (np i hi).1) (np i hi).2.1 h0 (fun j e1 e2 ι' f1 e3 => h1 j e1 e2 ι' f1 ?_)
  rw [e3, e]; rfl
theorem k_rings {A : a_A} {σ : q_S} {x p : Int32} (h : w_C A σ) (ok : a_ok A) (np : a_np A) (hn : q_n σ < 1000000) (hk : q_K σ 42 = 1001) (hz : q_Z σ 42 = 1) {R : q_O → q_S → Prop}
    (h1 : ((x < 0 ∨ nI (a_N A) ≤ x) ∨ ∃ i, i < a_N A ∧ x = nI i ∧ (p < 0 ∨ nI (a_pc A i) ≤ p)) → ∀ τ, w_C A τ → w_fo σ τ → R (.inl (some (.inl 1))) τ)
    (h0 : ∀ i j c, i < a_N A → x = nI i → p = nI j → j < a_pc A i → z_he (z_co (z_gp (z_in (a_fi A i)) j)) c → ∀ τ, w_C A τ → w_fo σ τ → q_L τ 42 0 = (nI (c + 1)).toInt64 → R (.inl (some (.inl 0))) τ) : V_LW_rings 1 x p 42 σ R := by
  obtain ⟨pl, rl, f, g, hw⟩ := h
  have hc := hw.1
  refine ⟨hc.k, ?_⟩
  intro P42 P66 p42 p66
  refine ⟨hc.k, ?_⟩
  refine v_knownPlane (κ := q_L σ) hw ok (fun c => ?_) (fun i hi e => ?_)
  · obtain ⟨t1, t2, t3, t4, t5⟩ := w_thr 9 hw hn (fun _ _ => rfl)
    exact ⟨t3, h1 (Or.inl c) _ t4 t5⟩
  · refine ⟨hc.k, v_takePieceD hw np hi (fun c => ?_) (fun j e1 e2 ι1 f1 e3 => ?_)⟩
    · refine br_f (by decide) ?_
      obtain ⟨t1, t2, t3, t4, t5⟩ := w_thr 9 hw hn (fun _ _ => rfl)
      refine ⟨t1, fun v2 e2 σ3 e3 => ⟨by rw [e2]; exact t2, ?_⟩⟩
      rw [e2, e3]
      exact ⟨t3, h1 (Or.inr ⟨i, hi, e, c⟩) _ t4 t5⟩
    · refine br_t (by decide) ?_
      have hw1 := hw.pg f1
      simp only [q_put_K, q_put_P, hc.k, hc.p6, hc.p7, hc.g7.1, hc.g7.2.2.1, hc.g10.1, true_and]
      refine v_startAround hc.g10 hc.g7.2.2.2.2.1 hc.g7.2.2.2.2.2.2.1 (by omega) (fun ι2 f2 s2 e4 => ?_)
      have hS : z_in (ι2 11) = z_co (z_gp (z_in (a_fi A i)) j) := by
        rw [← e3, ← z_in_not]
        exact z_in_congr fun y hy => e4 y hy
      have hfin : ∀ (ι3 : Nat → Nat → Int32) (c : Nat), z_fr ι1 ι3 10 11 12 → z_he (z_co (z_gp (z_in (a_fi A i)) j)) c → P66 (nI (c + 1)) (q_put σ ι3 (q_L σ)) := fun ι3 c f3 hc2 => by
        refine p66 _ _ (v_out (R := fun τ => R (.inl (some (.inl 0))) τ) hk hz ?_)
        refine h0 i j c hi e e1 e2 hc2 _ (hw1.hg f3).c (w_fo_put (fun t ht => ?_) (fun t ht => by rw [up_n ht])) (by rw [q_put_L, up_o])
        rw [f3.1 t (by omega) (by omega) (by omega), f1.1 t (by omega) (by omega) (by omega)]
      suffices L : ∀ (d k : Nat) (ι3 : Nat → Nat → Int32), k + d = 768 → z_fr ι1 ι3 10 11 12 → z_GS ι3 10 11 12 → z_hk (z_co (z_gp (z_in (a_fi A i)) j)) k (z_in (ι3 11)) → z_ca (ι3 11) + k ≤ 768 → P42 1 (nI (k + 1)) (nI k) (q_put σ ι3 (q_L σ)) from L 768 0 ι2 (by omega) f2 s2 hS (by have := z_ca_le (ι2 11); omega)
      intro d
      induction d with
      | zero =>
        intro k ι3 hk2 f3 s3 hh hca
        refine p42 _ _ _ _ (pk_le 768 k (fun _ => hfin ι3 k f3 ⟨_, hh, 0, fun i hi => by omega, ?_⟩) (fun c => by omega))
        exact z_ca0 (by omega)
      | succ d ih =>
        intro k ι3 hk2 f3 s3 hh hca
        refine p42 _ _ _ _ (pk_le 768 k (fun c => by omega) (fun _ => ⟨hc.k, ?_⟩))
        refine v_takeNextHole hc.k hc.p7 hc.g10 s3 (hw1.hg f3).2.2.2.2.2.2.1.2 (fun c ι4 f4 => br_t rfl (hfin ι4 k (f3.tr f4) ⟨_, hh, c⟩)) (fun n ι4 c1 f4 s4 c2 c3 c4 => br_f (by decide) fun v8 e8 v9 e9 => ?_)
        rw [e8, e9, nI_1, nI_1]
        exact ih (k + 1) ι4 (by omega) (f3.tr f4) s4 ⟨_, n, hh, c1, c3⟩ (by omega)
