/-! SPOKES AND STITCHES, BY THE REFERENCE -/
theorem z_mid {a b : Nat} (h1 : 1 ≤ b) (h2 : b ≤ 32) : nI a + (nI b - 1) / 2 = iI ((a + (b - 1) / 2 : Nat) : Int) := by
  simp only [iI_nI, show (1 : Int32) = iI 1 from rfl, iI_sub]
  rw [show ((b : Int) - 1) = ((b - 1 : Nat) : Int) by omega, iI_div2 (by omega), iI_add]; congr 1
theorem m_spoke {A : a_A} {σ : q_S} {ι : Nat → Nat → Int32} {κ : Nat → Nat → Int64} {x k w : Int32} (hm : m_S σ) (hw : w_m A ι κ) (ok : a_ok A) {R : q_O → q_S → Prop}
    (h1 : (¬ ∃ e kk ww : Nat, x = nI e ∧ e < a_E A ∧ k = nI kk ∧ kk < 4 ∧ w = nI ww ∧ ww < 3) → R (.inl (some (.inl 0))) (q_put σ (m_th ι 1) κ))
    (h0 : ∀ e kk ww : Nat, x = nI e → e < a_E A → k = nI kk → kk < 4 → w = nI ww → ww < 3 → ∀ v : Int32, ((ww = 0 ∧ z_spk A e kk ∧ v = 1) ∨ (ww = 0 ∧ ¬ z_spk A e kk ∧ v = 0) ∨ (ww = 1 ∧ v = iI (z_cx (a_px A e) (a_pw A e) kk 0)) ∨ (ww = 2 ∧ v = iI (z_cy (a_py A e) (a_ph A e) kk 0))) → R (.inl (some (.inl v))) (q_put σ (m_th ι 0) κ)) : V_PM_spoke 14 x k w (q_put σ ι κ) R := by
  intro P35 P36 P124 P139 P184 P191 P220 P225 P230 P293 P324 p35 p36 p124 p139 p184 p191 p220 p225 p230 p293 p324
  have hE10 := ok.2.2.1.1
  have hN8 := ok.1.1
  have iE : ι 14 16 = nI (a_E A) := hw.1.2.2.1.1
  have ht : (¬ ∃ e kk ww : Nat, x = nI e ∧ e < a_E A ∧ k = nI kk ∧ kk < 4 ∧ w = nI ww ∧ ww < 3) → P35 14 x k w 14 (q_put σ ι κ) := fun c => by
    refine p35 _ _ _ _ _ _ (p36 _ _ _ _ _ _ _ ⟨hm.k, fun σ1 e1 => ?_⟩)
    rw [e1, q_put_wI]
    refine ⟨hm.k, br_f ?_ (h1 c)⟩
    show ¬ m_th ι 1 14 0 = 0
    rw [m_th_0]; decide
  refine br_c (fun c => ht ?_) (fun c => ⟨hm.k, br_c (fun c2 => ht ?_) (fun c2 => br_c (fun c3 => ht ?_) (fun c3 => br_c (fun c4 => ht ?_) (fun c4 => br_c (fun c5 => ht ?_) (fun c5 => br_c (fun c6 => ht ?_) (fun c6 => ?_)))))⟩)
  · rintro ⟨e, kk, ww, q1, q2, -⟩
    rw [q1] at c
    exact nI_pos (by omega) c
  · rintro ⟨e, kk, ww, q1, q2, -⟩
    have c2 : nI (a_E A) ≤ x := by rw [← iE]; exact c2
    rw [q1] at c2
    exact nI_ge q2 (by omega) c2
  · rintro ⟨e, kk, ww, q1, q2, q3, q4, -⟩
    rw [q3] at c3
    exact nI_pos (by omega) c3
  · rintro ⟨e, kk, ww, q1, q2, q3, q4, -⟩
    rw [q3] at c4
    exact nI_ge (b := 4) q4 (by omega) c4
  · rintro ⟨e, kk, ww, q1, q2, q3, q4, q5, q6⟩
    rw [q5] at c5
    exact nI_pos (by omega) c5
  · rintro ⟨e, kk, ww, q1, q2, q3, q4, q5, q6⟩
    rw [q5] at c6
    exact nI_ge (b := 3) q6 (by omega) c6
  have c2 : ¬ nI (a_E A) ≤ x := by rw [← iE]; exact c2
  obtain ⟨e, e31, rfl⟩ := nI_of c
  obtain ⟨kk, k31, rfl⟩ := nI_of c3
  obtain ⟨ww, w31, rfl⟩ := nI_of c5
  have he : e < a_E A := by
    rcases Nat.lt_or_ge e (a_E A) with q | q
    · exact q
    · exact absurd (nI_le q e31) c2
  have hkk : kk < 4 := by
    rcases Nat.lt_or_ge kk 4 with q | q
    · exact q
    · exact absurd (nI_le (a := 4) q k31) c4
  have hww : ww < 3 := by
    rcases Nat.lt_or_ge ww 3 with q | q
    · exact q
    · exact absurd (nI_le (a := 3) q w31) c6
  obtain ⟨g1, g2, g3, g4⟩ := ok.2.2.1.2 e he
  have u1 := ok.2.2.2.1.2.1
  refine p36 _ _ _ _ _ _ _ ⟨hm.k, fun σ1 e1 => ?_⟩
  rw [e1, q_put_wI, show va_up ι 14 (va_up (ι 14) 0 0) = m_th ι 0 from rfl]
  have hw0 := hw.th 0
  have out := h0 e kk ww rfl he rfl hkk rfl hww
  have t0 : m_th ι 0 14 0 = 0 := m_th_0
  generalize m_th ι 0 = η at *
  obtain ⟨f1, f2, f3, f4, f5, f6⟩ := hw0.1.2.2.1.2 e he
  have iN : η 14 2 = nI (a_N A) := hw0.1.1.1
  have i30 : η 30 1 = nI (a_ru A 1) := hw0.1.2.2.2.1 1 (by omega)
  refine ⟨hm.k, br_t t0 ?_⟩
  have e0 : (4 : Int32) * nI e = nI (4 * e) := pk_mul 4 e
  have ea : nI (4 * e) + 1 = nI (4 * e + 1) := nI_add (4 * e) 1
  have eb : nI (4 * e) + 2 = nI (4 * e + 2) := nI_add (4 * e) 2
  have ec : nI (4 * e) + 3 = nI (4 * e + 3) := nI_add (4 * e) 3
  have c0 : (nI (4 * e)).toNatClampNeg = 4 * e := nI_clamp (by omega)
  have ca : (nI (4 * e + 1)).toNatClampNeg = 4 * e + 1 := nI_clamp (by omega)
  have cb : (nI (4 * e + 2)).toNatClampNeg = 4 * e + 2 := nI_clamp (by omega)
  have cd : (nI (4 * e + 3)).toNatClampNeg = 4 * e + 3 := nI_clamp (by omega)
  have v0 : vp_in (nI (4 * e)) 40 := vp_in_nI (by omega) (by omega)
  have va : vp_in (nI (4 * e + 1)) 40 := vp_in_nI (by omega) (by omega)
  have vb : vp_in (nI (4 * e + 2)) 40 := vp_in_nI (by omega) (by omega)
  have vd : vp_in (nI (4 * e + 3)) 40 := vp_in_nI (by omega) (by omega)
  have d2 : ¬ (2 : Int32) = 0 := by decide
  simp only [q_put_K, q_put_P, q_put_Z, q_put_I, hm.k, hm.p19, hm.k19, hm.z19, e0, ea, eb, ec, c0, ca, cb, cd, v0, va, vb, vd, d2, f3, f4, f5, f6, not_false_eq_true, true_or, true_and, forall_eq]
  have k2 : kk = 0 ∨ kk = 2 ∨ kk = 1 ∨ kk = 3 := by omega
  refine br_c (fun c7 => br_c (fun c8 => ?_) (fun c8 => ?_)) (fun c7 => ?_)
  · have w0 : ww = 0 := by
      have q1 : ww ≠ 1 := fun q => by subst q; exact c7 rfl
      have q2 : ww ≠ 2 := fun q => by subst q; exact c8 rfl
      omega
    subst w0
    have yes : z_spk A e kk → R (.inl (some (.inl 1))) (q_put σ η κ) := fun q => out 1 (Or.inl ⟨rfl, q, rfl⟩)
    have no : ¬ z_spk A e kk → R (.inl (some (.inl 0))) (q_put σ η κ) := fun q => out 0 (Or.inr (Or.inl ⟨rfl, q, rfl⟩))
    suffices L : ∀ (d y : Nat) (b : Int32), y + d = 24 → ((b = 0 ∧ ∀ x z, z < y → ¬ z_sk (a_px A e) (a_py A e) (a_pw A e) (a_ph A e) (a_ru A 1) kk x z) ∨ (b = 1 ∧ ∃ x z, z < 24 ∧ z_sk (a_px A e) (a_py A e) (a_pw A e) (a_ph A e) (a_ru A 1) kk x z)) → (∀ x z, z < y → z_sk (a_px A e) (a_py A e) (a_pw A e) (a_ph A e) (a_ru A 1) kk x z → z_fw A (a_pn A e) (a_pl A e) x z) → P191 14 (nI e) (nI kk) b (nI y) (q_put σ η κ) from L 24 0 0 rfl (Or.inl ⟨rfl, fun x z hz => by omega⟩) (fun x z hz => by omega)
    intro d
    induction d with
    | zero =>
      intro y b hy hb hf
      have hy : y = 24 := by omega
      subst hy
      refine p191 _ _ _ _ _ _ (pk_le 24 24 (fun _ => ?_) (fun c => by omega))
      rcases hb with ⟨rfl, hb⟩ | ⟨rfl, hb⟩
      · exact br_t rfl (p324 _ _ (no (by
          rintro ⟨⟨x, z, q1, q2⟩, -⟩
          exact hb x z q1 q2)))
      · exact br_f (by decide) (p324 _ _ (yes ⟨hb, hf⟩))
    | succ d ih =>
      intro y b hy hb hf
      have hy24 : y < 24 := by omega
      refine p191 _ _ _ _ _ _ (pk_le 24 y (fun c => by omega) (fun _ => ⟨hm.k, ?_⟩))
      refine v_spokeBits hm (by omega) f3 f4 f5 f6 i30 g1 g2 g3 g4 (by omega) (by omega) hkk (fun v hv => ?_)
      have next : ∀ b' : Int32, ((b' = 0 ∧ ∀ x z, z < y + 1 → ¬ z_sk (a_px A e) (a_py A e) (a_pw A e) (a_ph A e) (a_ru A 1) kk x z) ∨ (b' = 1 ∧ ∃ x z, z < 24 ∧ z_sk (a_px A e) (a_py A e) (a_pw A e) (a_ph A e) (a_ru A 1) kk x z)) → P225 14 (nI e) (nI kk) (nI y) (zx v) b' (q_put σ η κ) := fun b' hb' => by
        refine p225 _ _ _ _ _ _ _ ?_
        suffices Lp : ∀ (g p : Nat) (u : Int32), p + g = a_N A → (∀ x, bt u x = true ↔ z_sk (a_px A e) (a_py A e) (a_pw A e) (a_ph A e) (a_ru A 1) kk x y ∧ ¬ ∃ i, i < p ∧ a_nt A i = a_pn A e ∧ a_la A i = a_pl A e ∧ z_in (a_fi A i) x y) → P230 14 (nI e) (nI kk) b' (nI y) (zx u) (nI p) (q_put σ η κ) from Lp (a_N A) 0 v (by omega) (fun x => by
          rw [hv]
          exact ⟨fun q => ⟨q, fun ⟨i, q1, _⟩ => by omega⟩, fun q => q.1⟩)
        intro g
        induction g with
        | zero =>
          intro p u hp hu
          have hp : p = a_N A := by omega
          subst hp
          refine p230 _ _ _ _ _ _ _ _ ⟨hm.k, pk_le (a_N A) (a_N A) (fun _ => ?_) (fun c => by omega) iN⟩
          simp only [lg_cmp_eq, zx_eq0]
          refine br_c (fun c9 v4 e4 => ?_) (fun c9 => no ?_)
          · rw [e4, nI_1]
            refine ih (y + 1) b' (by omega) hb' fun x z hz hs => ?_
            rcases Nat.lt_or_ge z y with q | q
            · exact hf x z q hs
            · have : z = y := by omega
              subst this
              have hb0 : bt u x = false := by rw [c9, b_0]
              refine Classical.byContradiction fun q2 => ?_
              have := (hu x).mpr ⟨hs, q2⟩
              rw [hb0] at this; cases this
          · rintro ⟨-, q⟩
            obtain ⟨j, -, hj⟩ := b_ne0.mp c9
            have := (hu j).mp hj
            exact this.2 (q j y hy24 this.1)
        | succ g ihp =>
          intro p u hp hu
          have hpN : p < a_N A := by omega
          have cp : (nI p).toNatClampNeg = p := nI_clamp (by omega)
          have vp : vp_in (nI p) 8 := vp_in_nI (by omega) (by omega)
          have ce : (nI e).toNatClampNeg = e := nI_clamp (by omega)
          have ve : vp_in (nI e) 10 := vp_in_nI (by omega) (by omega)
          have e24 : (24 : Int32) * nI p + nI y = nI (24 * p + y) := by rw [show (24 : Int32) = nI 24 from rfl, pk_mul, nI_add]
          have cc : (nI (24 * p + y)).toNatClampNeg = 24 * p + y := nI_clamp (by omega)
          have vv : vp_in (nI (24 * p + y)) 192 := vp_in_nI (by omega) (by omega)
          obtain ⟨n1, n2, -⟩ := hw0.1.1.2 p hpN
          have kf : κ 31 (24 * p + y) = zx (a_fi A p y) := (hw0.2.1 p hpN).1 y hy24
          have hnext : ∀ u' : Int32, (∀ x, bt u' x = true ↔ bt u x = true ∧ ¬ (a_nt A p = a_pn A e ∧ a_la A p = a_pl A e ∧ z_in (a_fi A p) x y)) → P293 14 (nI e) (nI kk) b' (nI y) (zx u') (nI p) (q_put σ η κ) := fun u' hu' => by
            refine p293 _ _ _ _ _ _ _ _ fun v1 ev => ?_
            rw [ev, nI_1]
            refine ihp (p + 1) u' (by omega) fun x => ?_
            rw [hu', hu]
            constructor
            · rintro ⟨⟨q1, q2⟩, q3⟩
              refine ⟨q1, fun ⟨i, r1, r2⟩ => ?_⟩
              rcases Nat.lt_or_ge i p with q | q
              · exact q2 ⟨i, q, r2⟩
              · have : i = p := by omega
                subst this
                exact q3 r2
            · rintro ⟨q1, q2⟩
              exact ⟨⟨q1, fun ⟨i, r1, r2⟩ => q2 ⟨i, by omega, r2⟩⟩, fun q3 => q2 ⟨p, by omega, q3⟩⟩
          have hsame : ¬ (a_nt A p = a_pn A e ∧ a_la A p = a_pl A e) → P293 14 (nI e) (nI kk) b' (nI y) (zx u) (nI p) (q_put σ η κ) := fun q => hnext u fun x => ⟨fun q2 => ⟨q2, fun q3 => q ⟨q3.1, q3.2.1⟩⟩, fun q2 => q2.1⟩
          refine p230 _ _ _ _ _ _ _ _ ⟨hm.k, pk_le (a_N A) p (fun c => by omega) (fun _ => ?_) iN⟩
          simp only [q_put_K, q_put_P, q_put_Z, q_put_I, q_put_L, hm.k, hm.p3, hm.k3, hm.z3, hm.p4, hm.k4, hm.z4, hm.p17, hm.k17, hm.z17, hm.p18, hm.k18, hm.z18, hm.p21, hm.k21, hm.z21, e24, cc, vv, cp, vp, ce, ve, n1, n2, f1, f2, kf, zx_andn, true_or, true_and, forall_eq]
          refine br_c (fun q1 => hsame fun q => q1 q.1) (fun q1 => br_c (fun q2 => hsame fun q => q2 q.2) (fun q2 => hnext _ fun x => ?_))
          have q1 := Decidable.not_not.mp q1
          have q2 := Decidable.not_not.mp q2
          rw [b_and, b_not]
          unfold z_in
          constructor
          · intro q
            simp only [Bool.and_eq_true, Bool.not_eq_true', decide_eq_true_eq] at q
            refine ⟨q.1, fun q3 => ?_⟩
            rw [q.2.2] at q3
            cases q3.2.2.2
          · rintro ⟨q3, q4⟩
            have := b_lt q3
            rw [q3]
            cases q5 : bt (a_fi A p y) x
            · simp [this]
            · exact absurd ⟨q1, q2, hy24, q5⟩ q4
      rcases hb with ⟨rfl, hb⟩ | ⟨rfl, hb⟩
      · refine br_f (by decide) ?_
        simp only [lg_cmp_eq, zx_eq0]
        refine br_c (fun c9 => next 0 (Or.inl ⟨rfl, fun x z hz hs => ?_⟩)) (fun c9 => p220 _ _ _ _ _ _ (next 1 (Or.inr ⟨rfl, ?_⟩)))
        · rcases Nat.lt_or_ge z y with q | q
          · exact hb x z q hs
          · have : z = y := by omega
            subst this
            have := (hv x).mpr hs
            rw [c9, b_0] at this; cases this
        · obtain ⟨j, -, hj⟩ := b_ne0.mp c9
          exact ⟨j, y, hy24, (hv j).mp hj⟩
      · exact br_t (by decide) (p220 _ _ _ _ _ _ (next 1 (Or.inr ⟨rfl, hb⟩)))
  · have w2 : ww = 2 := (nI_eq w31 (by omega)).mp (Decidable.not_not.mp c8)
    subst w2
    have out2 : ∀ v : Int32, v = iI (z_cy (a_py A e) (a_ph A e) kk 0) → R (.inl (some (.inl v))) (q_put σ η κ) := fun v hv => out v (Or.inr (Or.inr (Or.inr ⟨rfl, hv⟩)))
    have h139 : (kk = 0 ∨ kk = 2) → P139 14 (nI e) (nI (a_py A e)) (q_put σ η κ) := fun q => by
      refine p139 _ _ _ _ ?_
      simp only [q_put_K, q_put_P, q_put_Z, q_put_I, hm.k, hm.p19, hm.k19, hm.z19, e0, ec, cd, vd, d2, f6, not_false_eq_true, true_or, true_and]
      refine p184 _ _ (out2 _ ?_)
      rw [z_mid g4 (by omega)]
      rcases q with q | q <;> subst q
      · rw [z_cy0]
      · rw [z_cy2]
    refine br_c (fun c9 => h139 (Or.inl ((nI_eq k31 (by omega)).mp c9))) (fun c9 => br_c (fun ca => br_c (fun cb => p184 _ _ (out2 _ ?_)) (fun cb => p184 _ _ (out2 _ ?_))) (fun ca => h139 (Or.inr ((nI_eq k31 (by omega)).mp (Decidable.not_not.mp ca)))))
    · have q0 : kk ≠ 0 := fun q => by subst q; exact c9 rfl
      have q1 : kk ≠ 2 := fun q => by subst q; exact ca rfl
      have q2 : kk ≠ 1 := fun q => by subst q; exact cb rfl
      have : kk = 3 := by omega
      subst this
      rw [z_cy3, iI_nI, show (1 : Int32) = iI 1 from rfl, iI_sub]; congr 1 <;> omega
    · have : kk = 1 := (nI_eq k31 (by omega)).mp (Decidable.not_not.mp cb)
      subst this
      rw [z_cy1, iI_nI, iI_nI, iI_add]; congr 1 <;> omega
  · have w1 : ww = 1 := (nI_eq w31 (by omega)).mp (Decidable.not_not.mp c7)
    subst w1
    have out1 : ∀ v : Int32, v = iI (z_cx (a_px A e) (a_pw A e) kk 0) → R (.inl (some (.inl v))) (q_put σ η κ) := fun v hv => out v (Or.inr (Or.inr (Or.inl ⟨rfl, hv⟩)))
    refine br_c (fun c9 => br_c (fun ca => p124 _ _ (out1 _ ?_)) (fun ca => p124 _ _ (out1 _ ?_))) (fun c9 => p124 _ _ (out1 _ ?_))
    · have q0 : kk ≠ 0 := fun q => by subst q; exact c9 rfl
      have q1 : kk ≠ 2 := fun q => by subst q; exact ca rfl
      rw [z_mid g3 (by omega)]
      have : kk = 1 ∨ kk = 3 := by omega
      rcases this with q | q <;> subst q
      · rw [z_cx1]
      · rw [z_cx3]
    · have : kk = 2 := (nI_eq k31 (by omega)).mp (Decidable.not_not.mp ca)
      subst this
      rw [z_cx2, iI_nI, show (1 : Int32) = iI 1 from rfl, iI_sub]; congr 1 <;> omega
    · have : kk = 0 := (nI_eq k31 (by omega)).mp (Decidable.not_not.mp c9)
      subst this
      rw [z_cx0, iI_nI, iI_nI, iI_add]; congr 1 <;> omega
theorem m_stitch {A : a_A} {σ : q_S} {ι : Nat → Nat → Int32} {κ : Nat → Nat → Int64} {x : Int32} {S : Int64} (hm : m_S σ) (hw : w_m A ι κ) (ok : a_ok A) {R : q_O → q_S → Prop}
    (h1 : ¬ ((0 ≤ x.toInt ∧ x.toInt ≤ 99) ∧ 1 ≤ S.toInt ∧ S.toInt ≤ 16) → R (.inl (some (.inl 0))) (q_put σ (m_th ι 1) κ))
    (h0 : ∀ s K : Nat, (0 ≤ x.toInt ∧ x.toInt ≤ 99) → S.toInt = s → 1 ≤ s → s ≤ 16 → (∀ k, k < K → k * s < 24) → 24 ≤ K * s → R (.inl (some (.inl (nI (z_sm (z_str A x s) K))))) (q_put σ (m_th ι 0) κ)) : V_PM_stitch 14 x S (q_put σ ι κ) R := by
  intro P26 P27 P45 P61 P76 P127 P129 P163 P190 p26 p27 p45 p61 p76 p127 p129 p163 p190
  have hN8 := ok.1.1
  have hl4 := ok.2.2.2.2.2
  have e1 : (1 : Int64).toInt = 1 := rfl
  have e16 : (16 : Int64).toInt = 16 := rfl
  have ht : ¬ ((0 ≤ x.toInt ∧ x.toInt ≤ 99) ∧ 1 ≤ S.toInt ∧ S.toInt ≤ 16) → P26 14 x S 14 (q_put σ ι κ) := fun c => by
    refine p26 _ _ _ _ _ (p27 _ _ _ _ _ _ ⟨hm.k, fun σ1 e1 => ?_⟩)
    rw [e1, q_put_wI]
    refine ⟨hm.k, br_f ?_ (h1 c)⟩
    show ¬ m_th ι 1 14 0 = 0
    rw [m_th_0]; decide
  rcases z_isN x with ⟨ei, c⟩ | ⟨ei, c⟩
  · exact br_t ei (ht fun q => c q.1)
  refine br_f (by rw [ei]; decide) ?_
  simp only [lg_cmp_lt, lg_cmp_gt, iL_lt, e1, e16]
  refine br_c (fun c2 => ht (by omega)) (fun c2 => br_c (fun c3 => ht (by omega)) (fun c3 => ?_))
  obtain ⟨s, hs⟩ : ∃ s : Nat, S.toInt = s := ⟨S.toInt.toNat, by omega⟩
  have es : S.toInt32 = nI s := by rw [iL_of S, hs, l2i, iI_nI]
  refine p27 _ _ _ _ _ _ ⟨hm.k, fun σ1 e1 => ?_⟩
  rw [e1, q_put_wI, show va_up ι 14 (va_up (ι 14) 0 0) = m_th ι 0 from rfl]
  have hw0 := hw.th 0
  have out := fun K => h0 s K c hs (by omega) (by omega)
  have t0 : m_th ι 0 14 0 = 0 := m_th_0
  generalize m_th ι 0 = η at *
  have iN : η 14 2 = nI (a_N A) := hw0.1.1.1
  have iL : η 14 1 = nI (a_ly A) := hw0.1.2.2.2.2
  refine ⟨hm.k, br_t t0 ?_⟩
  suffices L : ∀ (d k : Nat), k * s + d = 24 + s → (∀ j, j < k → j * s < 24) → P45 14 x S (nI (z_sm (z_str A x s) k)) (nI (k * s)) (q_put σ η κ) by
    have := L (24 + s) 0 (by omega) (fun j hj => by omega)
    rw [Nat.zero_mul] at this
    exact this
  intro d
  induction d using Nat.strongRecOn with
  | ind d ih =>
  intro k hk2 hv
  rcases Nat.lt_or_ge (k * s) 24 with c4 | c4
  · refine p45 _ _ _ _ _ _ (pk_le 24 (k * s) (fun c => by omega) (fun _ => ?_))
    have em : (k + 1) * s = k * s + s := by rw [Nat.add_mul, Nat.one_mul]
    -- the cells of the row, one by one
    have hx : ∀ v : Int32, (∀ z, bt v z = true ↔ z < 32 ∧ z_two A x z (k * s)) → P163 14 x S (nI (z_sm (z_str A x s) k)) (nI (k * s)) (zx v) 0 (q_put σ η κ) := fun v hv2 => by
      have hf : ∀ z, bt (z_rw (fun z => z % s < 1 ∧ z_two A x z (k * s))) z = true ↔ (z < 32 ∧ z % s < 1 ∧ z_two A x z (k * s)) := fun z => z_rw_iff _ z
      suffices Lx : ∀ (g j : Nat), j * s + g = 32 + s → P163 14 x S (nI (z_sm (z_str A x s) k + z_cn (bt (z_rw (fun z => z % s < 1 ∧ z_two A x z (k * s)))) (j * s))) (nI (k * s)) (zx v) (nI (j * s)) (q_put σ η κ) by
        have := Lx (32 + s) 0 (by omega)
        rw [Nat.zero_mul] at this
        exact this
      intro g
      induction g using Nat.strongRecOn with
      | ind g ihx =>
      intro j hj
      have emj : (j + 1) * s = j * s + s := by rw [Nat.add_mul, Nat.one_mul]
      rcases Nat.lt_or_ge (j * s) 32 with c5 | c5
      · refine p163 _ _ _ _ _ _ _ _ (pk_le 32 (j * s) (fun c => by omega) (fun _ => ?_))
        have hstep : z_cn (bt (z_rw (fun z => z % s < 1 ∧ z_two A x z (k * s)))) ((j + 1) * s) = z_cn (bt (z_rw (fun z => z % s < 1 ∧ z_two A x z (k * s)))) (j * s) + (if bt (z_rw (fun z => z % s < 1 ∧ z_two A x z (k * s))) (j * s) = true then 1 else 0) := by
          rw [z_cn_ext (n := j * s + 1) (m := (j + 1) * s) (by omega) (fun i i1 i2 => ?_)]
          · rfl
          · cases q : bt (z_rw (fun z => z % s < 1 ∧ z_two A x z (k * s))) i
            · rfl
            · exfalso
              have := ((hf i).mp q).2.1
              obtain ⟨r, hr⟩ : ∃ r, i = r + j * s := ⟨i - j * s, by omega⟩
              rw [hr, Nat.add_mul_mod_self_right, Nat.mod_eq_of_lt (by omega)] at this
              omega
        have hmod : (j * s) % s < 1 := by rw [Nat.mul_mod_left]; omega
        have go : ∀ b : Int32, b = nI (if bt (z_rw (fun z => z % s < 1 ∧ z_two A x z (k * s))) (j * s) = true then 1 else 0) → P190 14 x S (nI (k * s)) (zx v) (nI (j * s)) b (nI (z_sm (z_str A x s) k + z_cn (bt (z_rw (fun z => z % s < 1 ∧ z_two A x z (k * s)))) (j * s))) (q_put σ η κ) := fun b hb => by
          refine p190 _ _ _ _ _ _ _ _ _ fun v1 ev1 v2 ev2 => ?_
          rw [hb, nI_add, Nat.add_assoc, ← hstep] at ev1
          rw [es, nI_add, ← emj] at ev2
          rw [ev1, ev2]
          exact ihx (g - s) (by omega) (j + 1) (by rw [emj]; omega)
        simp only [lg_cmp_eq, z_bit_iff c5]
        refine br_c (fun c6 => go 0 ?_) (fun c6 => go 1 ?_)
        · rw [if_neg (fun q => c6 ((hv2 _).mpr ⟨c5, ((hf _).mp q).2.2⟩))]; rfl
        · have c6 := Decidable.not_not.mp c6
          rw [if_pos ((hf _).mpr ⟨c5, hmod, ((hv2 _).mp c6).2⟩)]; rfl
      · refine p163 _ _ _ _ _ _ _ _ (pk_le 32 (j * s) (fun _ v2 ev2 => ?_) (fun c => by omega))
        have hpc : z_cn (bt (z_rw (fun z => z % s < 1 ∧ z_two A x z (k * s)))) (j * s) = z_str A x s k := z_cn_ext (n := 32) (m := j * s) c5 (fun i i1 _ => b_big i1)
        rw [hpc, ev2, es, nI_add, ← em]
        refine ih (d - s) (by omega) (k + 1) (by rw [em]; omega) fun i hi => ?_
        rcases Nat.lt_or_ge i k with c6 | c6
        · exact hv i c6
        · have : i = k := by omega
          rw [this]; exact c4
    -- the layers
    suffices Ll : ∀ (g l : Nat) (u v : Int32), l + g = a_ly A → (∀ z, bt u z = true ↔ z < 32 ∧ ∃ i, i < l ∧ z_fw A x (nI i) z (k * s)) → (∀ z, bt v z = true ↔ z < 32 ∧ ∃ i j, i < j ∧ j < l ∧ z_fw A x (nI i) z (k * s) ∧ z_fw A x (nI j) z (k * s)) → P61 14 x S (nI (z_sm (z_str A x s) k)) (nI (k * s)) (zx u) (zx v) (nI l) (q_put σ η κ) by
      have := Ll (a_ly A) 0 0 0 (by omega) (fun z => by
        rw [b_0]
        constructor
        · intro c; cases c
        · rintro ⟨-, i, hi, -⟩; omega) (fun z => by
        rw [b_0]
        constructor
        · intro c; cases c
        · rintro ⟨-, i, j, -, hi, -⟩; omega)
      rw [zx_0] at this
      exact this
    intro g
    induction g with
    | zero =>
      intro l u v hl hu hv2
      have hl : l = a_ly A := by omega
      subst hl
      exact p61 _ _ _ _ _ _ _ _ _ ⟨hm.k, pk_le (a_ly A) (a_ly A) (fun _ => hx v hv2) (fun c => by omega) iL⟩
    | succ g ihl =>
      intro l u v hl hu hv2
      refine p61 _ _ _ _ _ _ _ _ _ ⟨hm.k, pk_le (a_ly A) l (fun c => by omega) (fun _ => ?_) iL⟩
      suffices Lp : ∀ (q p : Nat) (w : Int32), p + q = a_N A → (∀ z, bt w z = true ↔ ∃ i, i < p ∧ a_nt A i = x ∧ a_la A i = nI l ∧ z_in (a_fi A i) z (k * s)) → P76 14 x S (nI (z_sm (z_str A x s) k)) (nI (k * s)) (zx u) (zx v) (nI l) (zx w) (nI p) (q_put σ η κ) by
        have := Lp (a_N A) 0 0 (by omega) (fun z => by
          rw [b_0]
          constructor
          · intro c; cases c
          · rintro ⟨i, hi, -⟩; omega)
        rw [zx_0] at this
        exact this
      intro q
      induction q with
      | zero =>
        intro p w hp hw2
        have hp : p = a_N A := by omega
        subst hp
        refine p76 _ _ _ _ _ _ _ _ _ _ _ ⟨hm.k, pk_le (a_N A) (a_N A) (fun _ v3 ev3 v4 ev4 v5 ev5 => ?_) (fun c => by omega) iN⟩
        rw [ev3, ev4, ev5, nI_1, zx_and, zx_or, zx_or]
        have hw3 : ∀ z, bt w z = true ↔ z < 32 ∧ z_fw A x (nI l) z (k * s) := fun z => ⟨fun q => ⟨b_lt q, (hw2 z).mp q⟩, fun q => (hw2 z).mpr q.2⟩
        refine ihl (l + 1) _ _ (by omega) (fun z => ?_) (fun z => ?_)
        · rw [b_ao, hu, hw3]
          constructor
          · rintro (⟨c1, i, c2, c3⟩ | c)
            · exact ⟨c1, i, by omega, c3⟩
            · exact ⟨c.1, l, by omega, c.2⟩
          · rintro ⟨c1, i, c2, c3⟩
            rcases Nat.lt_or_ge i l with c | c
            · exact Or.inl ⟨c1, i, c, c3⟩
            · have : i = l := by omega
              subst this; exact Or.inr ⟨c1, c3⟩
        · rw [b_ao, b_ad, hv2, hu, hw3]
          constructor
          · rintro (⟨c1, i, j, c2, c3, c4⟩ | ⟨⟨c1, i, c2, c3⟩, c4⟩)
            · exact ⟨c1, i, j, c2, by omega, c4⟩
            · exact ⟨c1, i, l, c2, by omega, c3, c4.2⟩
          · rintro ⟨c1, i, j, c2, c3, c4, c5⟩
            rcases Nat.lt_or_ge j l with c | c
            · exact Or.inl ⟨c1, i, j, c2, c, c4, c5⟩
            · have : j = l := by omega
              subst this; exact Or.inr ⟨⟨c1, i, c2, c4⟩, c1, c5⟩
      | succ q ihp =>
        intro p w hp hw2
        have hpN : p < a_N A := by omega
        have cp : (nI p).toNatClampNeg = p := nI_clamp (by omega)
        have vp : vp_in (nI p) 8 := vp_in_nI (by omega) (by omega)
        have e24 : (24 : Int32) * nI p + nI (k * s) = nI (24 * p + k * s) := by rw [show (24 : Int32) = nI 24 from rfl, pk_mul, nI_add]
        have cc : (nI (24 * p + k * s)).toNatClampNeg = 24 * p + k * s := nI_clamp (by omega)
        have vv : vp_in (nI (24 * p + k * s)) 192 := vp_in_nI (by omega) (by omega)
        obtain ⟨n1, n2, -⟩ := hw0.1.1.2 p hpN
        have kf : κ 31 (24 * p + k * s) = zx (a_fi A p (k * s)) := (hw0.2.1 p hpN).1 (k * s) c4
        have hnext : ∀ w' : Int32, (∀ z, bt w' z = true ↔ bt w z = true ∨ (a_nt A p = x ∧ a_la A p = nI l ∧ z_in (a_fi A p) z (k * s))) → P129 14 x S (nI (z_sm (z_str A x s) k)) (nI (k * s)) (zx u) (zx v) (nI l) (nI p) (zx w') (q_put σ η κ) := fun w' hw' => by
          refine p129 _ _ _ _ _ _ _ _ _ _ _ fun v1 ev1 => ?_
          rw [ev1, nI_1]
          refine ihp (p + 1) w' (by omega) fun z => ?_
          rw [hw', hw2]
          constructor
          · rintro (⟨i, c1, c2⟩ | c)
            · exact ⟨i, by omega, c2⟩
            · exact ⟨p, by omega, c⟩
          · rintro ⟨i, c1, c2⟩
            rcases Nat.lt_or_ge i p with c | c
            · exact Or.inl ⟨i, c, c2⟩
            · have : i = p := by omega
              subst this; exact Or.inr c2
        have hsame : ¬ (a_nt A p = x ∧ a_la A p = nI l) → P127 14 x S (nI (z_sm (z_str A x s) k)) (nI (k * s)) (zx u) (zx v) (nI l) (zx w) (nI p) (q_put σ η κ) := fun q => p127 _ _ _ _ _ _ _ _ _ _ _ (hnext w fun z => ⟨Or.inl, fun q2 => q2.elim id fun q3 => absurd ⟨q3.1, q3.2.1⟩ q⟩)
        refine p76 _ _ _ _ _ _ _ _ _ _ _ ⟨hm.k, pk_le (a_N A) p (fun c => by omega) (fun _ => ?_) iN⟩
        simp only [q_put_K, q_put_P, q_put_Z, q_put_I, q_put_L, hm.k, hm.p3, hm.k3, hm.z3, hm.p4, hm.k4, hm.z4, hm.p21, hm.k21, hm.z21, e24, cc, vv, cp, vp, n1, n2, kf, zx_or, true_or, true_and, forall_eq]
        refine br_c (fun q1 => hsame fun q => q1 q.1) (fun q1 => br_c (fun q2 => hsame fun q => q2 q.2) (fun q2 => hnext _ fun z => ?_))
        have q1 := Decidable.not_not.mp q1
        have q2 := Decidable.not_not.mp q2
        rw [b_ao]
        exact ⟨fun c3 => c3.imp id fun c5 => ⟨q1, q2, c4, c5⟩, fun c3 => c3.imp id fun c5 => c5.2.2.2⟩
  · refine p45 _ _ _ _ _ _ (pk_le 24 (k * s) (fun _ => ?_) (fun c => by omega))
    exact out k hv c4
