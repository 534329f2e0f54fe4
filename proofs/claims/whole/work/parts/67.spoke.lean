/-! SPOKES AND STITCHES, BY THE CLASS -/
/-- filled by a plane of the net on the layer -/
def z_fw (A : a_A) (n l : Int32) (x y : Nat) : Prop := ∃ i, i < a_N A ∧ a_nt A i = n ∧ a_la A i = l ∧ z_in (a_fi A i) x y
theorem v_filledRow {A : a_A} {σ : q_S} {ι : Nat → Nat → Int32} {κ : Nat → Nat → Int64} {pl rl f g : Nat → Nat} {n l : Int32} {y : Nat} (hw : w_D A σ ι pl rl f g) (ok : a_ok A) (hy : y < 24) {R : q_O → q_S → Prop}
    (h : R (.inl (some (.inl (z_rw (fun x => z_fw A n l x y))))) (q_put σ ι κ)) : V_PF_filledRow 1 n l (nI y) (q_put σ ι κ) R := by
  intro P6 P69 p6 p69
  have hc := hw.1
  have hN8 := ok.1.1
  obtain ⟨l2, z2, s2⟩ := hw.2.1.1
  have hpl := hw.2.1.2.2.2.1
  have cy : (nI y).toNatClampNeg = y := nI_clamp (by omega)
  have vy : vp_in (nI y) 24 := vp_in_nI (by omega) (by omega)
  suffices L : ∀ (d k : Nat) (v : Int32), k + d = a_N A → (∀ x, bt v x = true ↔ ∃ i, i < k ∧ a_nt A i = n ∧ a_la A i = l ∧ z_in (a_fi A i) x y) → P6 1 n l (nI y) v (nI k) (q_put σ ι κ) from L (a_N A) 0 0 (by omega) (fun x => by
    rw [b_0]
    constructor
    · intro c; cases c
    · rintro ⟨i, hi, -⟩; omega)
  intro d
  induction d with
  | zero =>
    intro k v hk hv
    refine p6 _ _ _ _ _ _ _ ⟨hc.k, ?_⟩
    simp only [q_put_P, q_put_K, hc.p1]
    refine ⟨l2.1, v_sizeL l2.1 s2 (br_t (nI_le (by omega) (by omega)) ?_)⟩
    have hk : k = a_N A := by omega
    subst hk
    rwa [show z_rw (fun x => z_fw A n l x y) = v from (z_rw_of fun x _ => hv x).symm] at h
  | succ d ih =>
    intro k v hk hv
    have hkN : k < a_N A := by omega
    obtain ⟨hcp, h42, hpd, hld⟩ := hpl k hkN
    have hl := hcp.lat
    have n0 : ι (pl k) 0 = a_nt A k := hpd.1
    have n1 : ι (pl k) 1 = a_la A k := hpd.2.1
    have r1 : ι (q_P σ (pl k) 10 + 1) y = a_fi A k y := hld.1 y hy
    have hnext : ∀ u : Int32, (∀ x, bt u x = true ↔ bt v x = true ∨ (a_nt A k = n ∧ a_la A k = l ∧ z_in (a_fi A k) x y)) → P69 1 n l (nI y) u (nI k) (q_put σ ι κ) := fun u hu => by
      refine p69 _ _ _ _ _ _ _ fun v1 e1 => ?_
      rw [e1, nI_1]
      refine ih (k + 1) u (by omega) fun x => ?_
      rw [hu, hv]
      constructor
      · rintro (⟨i, c1, c2⟩ | c)
        · exact ⟨i, by omega, c2⟩
        · exact ⟨k, by omega, c⟩
      · rintro ⟨i, c1, c2⟩
        rcases Nat.lt_or_ge i k with c | c
        · exact Or.inl ⟨i, c, c2⟩
        · have : i = k := by omega
          subst this; exact Or.inr c2
    have hsame : ¬ (a_nt A k = n ∧ a_la A k = l) → P69 1 n l (nI y) v (nI k) (q_put σ ι κ) := fun c => hnext v fun x => ⟨Or.inl, fun c2 => c2.elim id fun c3 => absurd ⟨c3.1, c3.2.1⟩ c⟩
    refine p6 _ _ _ _ _ _ _ ⟨hc.k, ?_⟩
    simp only [q_put_P, q_put_K, hc.p1]
    refine ⟨l2.1, v_sizeL l2.1 s2 (br_f (nI_ge (by omega) (by omega)) ?_)⟩
    simp only [q_put_P, q_put_K, hc.k, hc.p1, l2.1, true_and]
    refine v_getL l2 s2 hkN (by omega) z2 ?_
    simp only [q_cr, q_put_P, q_put_K, q_put_Z, q_put_I, hcp.1, n0, n1, hl.2.1, hl.2.2.1, hl.2.2.2.1, hl.2.2.2.2, cy, vy, r1, true_or, true_and, forall_eq]
    refine br_c (fun c => hsame fun c2 => c c2.1) (fun c => br_c (fun c2 => hsame fun c3 => c2 c3.2) (fun c2 => hnext _ fun x => ?_))
    have c := Decidable.not_not.mp c
    have c2 := Decidable.not_not.mp c2
    rw [b_ao]
    exact ⟨fun c3 => c3.imp id fun c4 => ⟨c, c2, hy, c4⟩, fun c3 => c3.imp id fun c4 => c4.2.2.2⟩
/-- filled on two layers -/
def z_two (A : a_A) (n : Int32) (x y : Nat) : Prop := ∃ i j : Nat, i < j ∧ j < a_ly A ∧ z_fw A n (nI i) x y ∧ z_fw A n (nI j) x y
theorem v_onTwoLayers {A : a_A} {σ : q_S} {ι : Nat → Nat → Int32} {κ : Nat → Nat → Int64} {pl rl f g : Nat → Nat} {n : Int32} {y : Nat} (hw : w_D A σ ι pl rl f g) (ok : a_ok A) (hy : y < 24) {R : q_O → q_S → Prop}
    (h : R (.inl (some (.inl (z_rw (fun x => z_two A n x y))))) (q_put σ ι κ)) : V_PF_onTwoLayers 1 n (nI y) (q_put σ ι κ) R := by
  intro P8 p8
  have hc := hw.1
  have hly : ι 1 0 = nI (a_ly A) := hw.2.2.2.2.2.1.1
  have hl4 := ok.2.2.2.2.2
  suffices L : ∀ (d k : Nat) (u v : Int32), k + d = a_ly A → (∀ x, bt u x = true ↔ x < 32 ∧ ∃ i, i < k ∧ z_fw A n (nI i) x y) → (∀ x, bt v x = true ↔ x < 32 ∧ ∃ i j, i < j ∧ j < k ∧ z_fw A n (nI i) x y ∧ z_fw A n (nI j) x y) → P8 1 n (nI y) u v (nI k) (q_put σ ι κ) from L (a_ly A) 0 0 0 (by omega) (fun x => by
      rw [b_0]
      constructor
      · intro c; cases c
      · rintro ⟨-, i, hi, -⟩; omega) (fun x => by
      rw [b_0]
      constructor
      · intro c; cases c
      · rintro ⟨-, i, j, -, hi, -⟩; omega)
  intro d
  induction d with
  | zero =>
    intro k u v hk hu hv
    refine p8 _ _ _ _ _ _ _ ⟨hc.k, pk_le (a_ly A) k (fun _ => ?_) (fun c => by omega) hly⟩
    have hk : k = a_ly A := by omega
    subst hk
    rwa [show z_rw (fun x => z_two A n x y) = v from (z_rw_of fun x hx => by
      rw [hv]; exact ⟨fun c => c.2, fun c => ⟨hx, c⟩⟩).symm] at h
  | succ d ih =>
    intro k u v hk hu hv
    refine p8 _ _ _ _ _ _ _ ⟨hc.k, pk_le (a_ly A) k (fun c => by omega) (fun _ => ⟨hc.k, ?_⟩) hly⟩
    refine v_filledRow hw ok hy fun v8 e8 v9 e9 v10 e10 => ?_
    rw [e8, e9, e10, nI_1]
    refine ih (k + 1) _ _ (by omega) (fun x => ?_) (fun x => ?_)
    · rw [b_ao, hu, z_rw_iff]
      constructor
      · rintro (⟨c1, i, c2, c3⟩ | c)
        · exact ⟨c1, i, by omega, c3⟩
        · exact ⟨c.1, k, by omega, c.2⟩
      · rintro ⟨c1, i, c2, c3⟩
        rcases Nat.lt_or_ge i k with c | c
        · exact Or.inl ⟨c1, i, c, c3⟩
        · have : i = k := by omega
          subst this; exact Or.inr ⟨c1, c3⟩
    · rw [b_ao, b_ad, hv, hu, z_rw_iff]
      constructor
      · rintro (⟨c1, i, j, c2, c3, c4⟩ | ⟨⟨c1, i, c2, c3⟩, c4⟩)
        · exact ⟨c1, i, j, c2, by omega, c4⟩
        · exact ⟨c1, i, k, c2, by omega, c3, c4.2⟩
      · rintro ⟨c1, i, j, c2, c3, c4, c5⟩
        rcases Nat.lt_or_ge j k with c | c
        · exact Or.inl ⟨c1, i, j, c2, c, c4, c5⟩
        · have : j = k := by omega
          subst this; exact Or.inr ⟨⟨c1, i, c2, c4⟩, c1, c5⟩
/-- stitches of one row -/
noncomputable def z_str (A : a_A) (n : Int32) (s k : Nat) : Nat := z_pc (z_rw (fun x => x % s < 1 ∧ z_two A n x (k * s)))
theorem v_requireNet {σ : q_S} {x : Int32} {R : q_O → q_S → Prop} (hn : q_n σ < 10000000) (hn0 : 0 < q_n σ)
    (h0 : ¬ (0 ≤ x.toInt ∧ x.toInt ≤ 99) → R (.inr (q_n σ)) (q_new σ 10 0)) (h1 : (0 ≤ x.toInt ∧ x.toInt ≤ 99) → R (.inl none) σ) : V_PF_requireNet x σ R := by
  intro P10 p10
  have e0 : (0 : Int32).toInt = 0 := rfl
  have e99 : (99 : Int32).toInt = 99 := rfl
  have ht : ¬ (0 ≤ x.toInt ∧ x.toInt ≤ 99) → P10 σ := fun c => p10 _ ⟨hn, fun v2 e2 σ3 e3 => ⟨by rw [e2]; exact hn0, by rw [e2, e3]; exact h0 c⟩⟩
  simp only [iI_lt, iI_le, e0, e99]
  exact br_c (fun c => ht (by omega)) (fun c => br_c (fun c2 => h1 (by omega)) (fun c2 => ht (by omega)))
theorem k_stitch {A : a_A} {σ : q_S} {x : Int32} {S : Int64} (h : w_C A σ) (ok : a_ok A) (hn : q_n σ < 1000000) (hk : q_K σ 42 = 1001) (hz : q_Z σ 42 = 1) {R : q_O → q_S → Prop}
    (h1 : ¬ ((0 ≤ x.toInt ∧ x.toInt ≤ 99) ∧ 1 ≤ S.toInt ∧ S.toInt ≤ 16) → ∀ τ, w_C A τ → w_fo σ τ → R (.inl (some (.inl 1))) τ)
    (h0 : ∀ s K : Nat, (0 ≤ x.toInt ∧ x.toInt ≤ 99) → S.toInt = s → 1 ≤ s → s ≤ 16 → (∀ k, k < K → k * s < 24) → 24 ≤ K * s → ∀ τ, w_C A τ → w_fo σ τ → q_L τ 42 0 = (nI (z_sm (z_str A x s) K)).toInt64 → R (.inl (some (.inl 0))) τ) : V_LW_stitch 1 x S 42 σ R := by
  obtain ⟨pl, rl, f, g, hw⟩ := h
  have hc := hw.1
  have hB := hw.2.2.2.2.2.2.2.1
  have e1 : (1 : Int64).toInt = 1 := rfl
  have e16 : (16 : Int64).toInt = 16 := rfl
  obtain ⟨t1, t2, t3, t4, t5⟩ := w_thr 10 hw hn (fun _ _ => rfl)
  refine ⟨hc.k, ?_⟩
  intro P18 P46 p18 p46
  refine v_requireNet (by omega) (by omega) (fun c => ⟨t3, h1 (fun c2 => c c2.1) _ t4 t5⟩) (fun c => ?_)
  have ht : ¬ (1 ≤ S.toInt ∧ S.toInt ≤ 16) → P18 σ := fun c2 => p18 _ ⟨t1, fun v2 e2 σ3 e3 => ⟨by rw [e2]; exact t2, by rw [e2, e3]; exact ⟨t3, h1 (fun c3 => c2 c3.2) _ t4 t5⟩⟩⟩
  show (_ ∧ _)
  simp only [lg_cmp_lt, lg_cmp_le, iL_lt, iL_le, e1, e16]
  refine br_c (fun c2 => ht (by omega)) (fun c2 => br_c (fun c3 => ?_) (fun c3 => ht (by omega)))
  obtain ⟨s, hs⟩ : ∃ s : Nat, S.toInt = s := ⟨S.toInt.toNat, by omega⟩
  have es : S.toInt32 = nI s := by rw [iL_of S, hs, l2i, iI_nI]
  intro v7 e7
  rw [es] at e7
  subst e7
  refine v_columnsBelow (width := 1) (by omega) (by omega) (by omega) ?_
  rw [← q_put_self σ]
  suffices L : ∀ (d k : Nat), k * s + d = 24 + s → (∀ j, j < k → j * s < 24) → P46 1 x (nI s) (z_rw (fun x => x % s < 1)) (nI (z_sm (z_str A x s) k)) (nI (k * s)) (q_put σ (q_I σ) (q_L σ)) by
    have := L (24 + s) 0 (by omega) (fun j hj => by omega)
    rw [Nat.zero_mul] at this
    exact this
  intro d
  induction d using Nat.strongRecOn with
  | ind d ih =>
  intro k hk2 hv
  rcases Nat.lt_or_ge (k * s) 24 with c4 | c4
  · refine p46 _ _ _ _ _ _ _ (pk_le 24 (k * s) (fun c => by omega) (fun _ => ⟨hc.k, ?_⟩))
    refine v_onTwoLayers hw ok c4 fun v7 e7 v8 e8 => ?_
    have em : (k + 1) * s = k * s + s := by rw [Nat.add_mul, Nat.one_mul]
    have er : z_rw (fun x => x % s < 1) &&& z_rw (fun z => z_two A x z (k * s)) = z_rw (fun z => z % s < 1 ∧ z_two A x z (k * s)) := z_rw_of fun z hz2 => by
      rw [b_ad, z_rw_iff, z_rw_iff]
      exact ⟨fun c => ⟨c.1.2, c.2.2⟩, fun c => ⟨⟨hz2, c.1⟩, hz2, c.2⟩⟩
    rw [er, z_bits, nI_add] at e7
    rw [nI_add, ← em] at e8
    rw [e7, e8]
    refine ih (d - s) (by omega) (k + 1) (by rw [em]; omega) fun j hj => ?_
    rcases Nat.lt_or_ge j k with c5 | c5
    · exact hv j c5
    · have : j = k := by omega
      rw [this]; exact c4
  · refine p46 _ _ _ _ _ _ _ (pk_le 24 (k * s) (fun _ => ?_) (fun c => by omega))
    refine v_out (R := fun τ => R (.inl (some (.inl 0))) τ) hk hz ?_
    exact h0 s k c hs (by omega) (by omega) hv c4 _ hw.c (w_fo_put (fun _ _ => rfl) (fun t ht => by rw [up_n ht])) (by rw [q_put_L, up_o])
