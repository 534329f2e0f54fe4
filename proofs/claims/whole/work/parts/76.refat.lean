/-! A CELL OF A RING, BY THE REFERENCE -/
theorem m_at {A : a_A} {σ : q_S} {ι : Nat → Nat → Int32} {κ : Nat → Nat → Int64} {x0 p r k w : Int32} (hm : m_S σ) (hw : w_m A ι κ) (ok : a_ok A) (np : a_np A) {R : q_O → q_S → Prop}
    (h1 : (∀ a y, ¬ z_suc A x0 p r k w a y) → ∀ κ' : Nat → Nat → Int64, (∀ a, a ≠ 39 → a ≠ 41 → a ≠ 40 → κ' a = κ a) → R (.inl (some (.inr (.inl 0)))) (q_put σ (m_th ι 1) κ'))
    (h0 : ∀ a y, z_suc A x0 p r k w a y → a < 32 → y < 24 → ∀ κ' : Nat → Nat → Int64, (∀ a, a ≠ 39 → a ≠ 41 → a ≠ 40 → κ' a = κ a) → R (.inl (some (.inr (.inl (if w = 0 then (nI a).toInt64 else (nI y).toInt64))))) (q_put σ (m_th ι 0) κ')) : V_PM_at 14 x0 p r k w (q_put σ ι κ) R := by
  intro P26 P30 P31 P40 P55 P107 P111 P123 p26 p30 p31 p40 p55 p107 p111 p123
  have hN8 := ok.1.1
  have h123 : ∀ κ' : Nat → Nat → Int64, (∀ a, a ≠ 39 → a ≠ 41 → a ≠ 40 → κ' a = κ a) → (∀ a y, ¬ z_suc A x0 p r k w a y) → P123 14 (q_put σ ι κ') := fun κ' f c => by
    refine p123 _ _ ⟨hm.k, fun σ1 e1 => ?_⟩
    rw [e1, q_put_wI]
    exact h1 c κ' f
  have h30 : ∀ κ' : Nat → Nat → Int64, (∀ a, a ≠ 39 → a ≠ 41 → a ≠ 40 → κ' a = κ a) → (∀ a y, ¬ z_suc A x0 p r k w a y) → P30 14 k w (q_put σ ι κ') := fun κ' f c => p30 _ _ _ _ (p31 _ _ _ _ _ (p40 _ _ _ _ _ _ (br_f (by decide) (br_t rfl (h123 κ' f c)))))
  refine ⟨hm.k, ?_⟩
  refine v_findRing (F := a_fi A) (M := a_pc A) hm.mp ⟨hm.p21, hm.k21, hm.z21⟩ ⟨hm.p30, hm.k30, hm.z30⟩ (by omega) (by omega) hw.1.1.1 hN8 (fun i hi y hy => (hw.2.1 i hi).1 y hy) (fun i hi => ⟨(np i hi).1, (np i hi).2.1⟩) (fun c κ' f => br_t rfl (h30 κ' f (fun a y q => ?_))) (fun i j m e1 hi e2 hj e3 hm31 κ' G f hG hrr => br_f (by decide) ?_)
  · obtain ⟨i, j, m, kk, H, q1, q2, q3, q4, q5, q6, q7, -⟩ := q
    have h768 := (np i q2).2.1
    rcases c with (c | c) | c | ⟨i', j', d1, d2, d3, d4, d5⟩ | ⟨i', j', m', d1, d2, d3, d4, d5, d6, d7, q, d8, d9⟩
    · rw [q1] at c
      rcases c with c | c
      · exact nI_pos (by omega) c
      · exact nI_ge q2 (by omega) c
    · rw [q3] at c
      exact nI_pos (by omega) c
    · rw [q5] at c
      exact nI_pos q6 c
    · have ei : i = i' := (nI_eq (by omega) (by omega)).mp (q1.symm.trans d1)
      subst ei
      have ej : j = j' := (nI_eq (by omega) (by omega)).mp (q3.symm.trans d3)
      subst ej
      omega
    · have ei : i = i' := (nI_eq (by omega) (by omega)).mp (q1.symm.trans d1)
      subst ei
      have ej : j = j' := (nI_eq (by omega) (by omega)).mp (q3.symm.trans d3)
      subst ej
      have em : m = m' := (nI_eq (by omega) (by omega)).mp (q5.symm.trans d5)
      subst em
      rcases q7 with ⟨r0, -⟩ | ⟨r0, r1⟩
      · omega
      · exact r1.ne d9 (by omega)
  · have hrr' : z_rr A i j m G := hrr
    refine br_c (fun c => h30 κ' f (fun a y q => ?_)) (fun c => ?_)
    · obtain ⟨kk, s1, s2, -⟩ := q.inv ok np e1 hi e2 hj e3 hm31 hrr'
      rw [s1] at c
      exact nI_pos s2 c
    obtain ⟨kk, hkk, rfl⟩ := nI_of c
    have hle : z_sm (fun y => z_pc (G y)) 24 ≤ 768 := z_ca_le G
    have main : (w = 0 ∨ w = 1) → P26 14 (nI kk) w (q_put σ ι κ') := fun hw01 => by
      refine p26 _ _ _ _ (p31 _ _ _ _ _ ?_)
      suffices Ly : ∀ (d y : Nat), y + d = 24 → z_sm (fun y => z_pc (G y)) y ≤ kk → P40 14 w 1 (nI (kk - z_sm (fun y => z_pc (G y)) y)) (nI y) (q_put σ ι κ') from Ly 24 0 rfl (Nat.zero_le _)
      intro d
      induction d with
      | zero =>
        intro y hy hc
        have hy : y = 24 := by omega
        subst hy
        refine p40 _ _ _ _ _ _ (br_t (nI_le (a := 24) (Nat.le_refl _) (by omega)) (h123 κ' f (fun a y q => ?_)))
        obtain ⟨k2, s1, s2, s3, -⟩ := q.inv ok np e1 hi e2 hj e3 hm31 hrr'
        have ek : kk = k2 := (nI_eq hkk s2).mp s1
        subst ek
        have := s3.lt
        have h9 := z_sm_monoN (g := fun y => z_pc (G y)) (n := y + 1) (m := 24) (by have := s3.1; omega)
        omega
      | succ d ih =>
        intro y hy hc
        have cy : (nI y).toNatClampNeg = y := nI_clamp (by omega)
        have vy : vp_in (nI y) 24 := vp_in_nI (by omega) (by omega)
        have gy : κ' 39 y = zx (G y) := hG y (by omega)
        have hs1 : z_sm (fun y => z_pc (G y)) (y + 1) = z_sm (fun y => z_pc (G y)) y + z_pc (G y) := rfl
        refine p40 _ _ _ _ _ _ (br_f (nI_ge (b := 24) (by omega) (by omega)) (br_f (by decide) ?_))
        suffices Lx : ∀ (e x : Nat), x + e = 32 → z_sm (fun y => z_pc (G y)) y + z_cn (bt (G y)) x ≤ kk → P55 14 w 1 (nI (kk - (z_sm (fun y => z_pc (G y)) y + z_cn (bt (G y)) x))) (nI y) (nI x) (q_put σ ι κ') from Lx 32 0 rfl hc
        intro e
        induction e with
        | zero =>
          intro x hx hcx
          have hx : x = 32 := by omega
          subst hx
          refine p55 _ _ _ _ _ _ _ (br_t (nI_le (a := 32) (Nat.le_refl _) (by omega)) fun v2 ev => ?_)
          rw [ev, nI_1]
          exact ih (y + 1) (by omega) hcx
        | succ e ih2 =>
          intro x hx hcx
          have hcn : z_cn (bt (G y)) (x + 1) = z_cn (bt (G y)) x + (if bt (G y) x = true then 1 else 0) := rfl
          refine p55 _ _ _ _ _ _ _ (br_f (nI_ge (b := 32) (by omega) (by omega)) ?_)
          simp only [q_put_K, q_put_P, q_put_Z, q_put_L, hm.k, hm.p29, hm.k29, hm.z29, cy, vy, gy, lg_cmp_eq, z_bit_iff (show x < 32 by omega), true_and]
          refine br_c (fun c2 => br_c (fun c3 v8 ev8 => ?_) (fun c3 => ?_)) (fun c2 => ?_)
          · have c2 := Decidable.not_not.mp c2
            refine p111 _ _ _ _ _ _ _ fun v1 ev1 => ?_
            rw [ev1, nI_1]
            have hpos : kk - (z_sm (fun y => z_pc (G y)) y + z_cn (bt (G y)) x) ≠ 0 := fun q => by rw [q] at c3; exact c3 rfl
            have e9 : v8 = nI (kk - (z_sm (fun y => z_pc (G y)) y + z_cn (bt (G y)) (x + 1))) := by
              rw [ev8, hcn, if_pos c2]
              have := pk_m1 (kk - (z_sm (fun y => z_pc (G y)) y + z_cn (bt (G y)) x) - 1)
              rw [show kk - (z_sm (fun y => z_pc (G y)) y + z_cn (bt (G y)) x) - 1 + 1 = kk - (z_sm (fun y => z_pc (G y)) y + z_cn (bt (G y)) x) by omega] at this
              rw [this]; congr 1
            rw [e9]
            exact ih2 (x + 1) (by omega) (by rw [hcn, if_pos c2]; omega)
          · have c2 := Decidable.not_not.mp c2
            have c3 := Decidable.not_not.mp c3
            have hz : kk - (z_sm (fun y => z_pc (G y)) y + z_cn (bt (G y)) x) = 0 := (nI_eq (by omega) (by omega)).mp c3
            have hs : z_suc A x0 p r (nI kk) w x y := ⟨i, j, m, kk, G, e1, hi, e2, hj, e3, hm31, hrr', rfl, hkk, ⟨by omega, c2, by omega⟩, hw01⟩
            intro σ9 e9
            rw [e9, q_put_wI]
            have := h0 x y hs (by omega) (by omega) κ' f
            refine br_c (fun c4 => p107 _ _ ?_) (fun c4 => p107 _ _ ?_)
            · rw [if_neg c4] at this; exact this
            · rw [if_pos (Decidable.not_not.mp c4)] at this; exact this
          · have c2 := Decidable.not_not.mp c2
            refine p111 _ _ _ _ _ _ _ fun v1 ev1 => ?_
            rw [ev1, nI_1]
            have := ih2 (x + 1) (by omega) (by rw [hcn, if_neg c2]; omega)
            rw [hcn, if_neg c2, Nat.add_zero] at this
            exact this
    have noW : (¬ (w = 0 ∨ w = 1)) → P30 14 (nI kk) w (q_put σ ι κ') := fun q => h30 κ' f (fun a y s => by
      obtain ⟨k2, s1, s2, s3, s4⟩ := s.inv ok np e1 hi e2 hj e3 hm31 hrr'
      exact q s4)
    exact br_c (fun c2 => main (Or.inl c2)) (fun c2 => br_c (fun c3 => noW (fun q => q.elim c2 c3)) (fun c3 => main (Or.inr (Decidable.not_not.mp c3))))
