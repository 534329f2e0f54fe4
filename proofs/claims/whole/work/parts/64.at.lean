/-! A CELL OF A RING, BY BOTH -/
def z_rr (A : a_A) (i j m : Nat) (G : Nat → Int32) : Prop := (m = 0 ∧ ∃ q : Nat → Int32, z_in q = z_gp (z_in (a_fi A i)) j ∧ ∀ y, y < 24 → G y = z_eg q y) ∨ (0 < m ∧ z_hp (z_co (z_gp (z_in (a_fi A i)) j)) (m - 1) (z_in G))
theorem z_eg_congr {q r : Nat → Int32} (h : ∀ y, y < 24 → q y = r y) {y : Nat} (hy : y < 24) : z_eg q y = z_eg r y := by
  unfold z_eg
  rw [h y hy]
  have e1 : (if y < 23 then q (y + 1) else 0) = (if y < 23 then r (y + 1) else 0) := by
    by_cases c : y < 23
    · rw [if_pos c, if_pos c, h (y + 1) (by omega)]
    · rw [if_neg c, if_neg c]
  have e2 : (if 0 < y then q (y - 1) else 0) = (if 0 < y then r (y - 1) else 0) := by
    by_cases c : 0 < y
    · rw [if_pos c, if_pos c, h (y - 1) (by omega)]
    · rw [if_neg c, if_neg c]
  rw [e1, e2]
theorem z_rr.uniq {A : a_A} {i j m : Nat} {G H : Nat → Int32} (h : z_rr A i j m G) (h' : z_rr A i j m H) : ∀ y, y < 24 → G y = H y := by
  rcases h with ⟨h0, q, h1, h2⟩ | ⟨h0, h1⟩
  · rcases h' with ⟨k0, r, k1, k2⟩ | ⟨k0, k1⟩
    · intro y hy
      rw [h2 y hy, k2 y hy]
      exact z_eg_congr (fun z hz => z_in_eq (h1.trans k1.symm) hz) hy
    · omega
  · rcases h' with ⟨k0, r, k1, k2⟩ | ⟨k0, k1⟩
    · omega
    · intro y hy
      exact z_in_eq (h1.uniq k1) hy
theorem z_nc_congr {G H : Nat → Int32} (h : ∀ y, y < 24 → G y = H y) {k a y : Nat} (hk : z_nc G k a y) : z_nc H k a y := by
  obtain ⟨h1, h2, h3⟩ := hk
  refine ⟨h1, by rw [← h y h1]; exact h2, ?_⟩
  rw [← h y h1, ← h3]
  congr 1
  exact z_sm_congr fun z hz => by rw [h z (by omega)]
/-- there is such a cell: a, y -/
def z_suc (A : a_A) (x p r k w : Int32) (a y : Nat) : Prop := ∃ (i j m kk : Nat) (G : Nat → Int32), x = nI i ∧ i < a_N A ∧ p = nI j ∧ j < a_pc A i ∧ r = nI m ∧ m < 2 ^ 31 ∧ z_rr A i j m G ∧ k = nI kk ∧ kk < 2 ^ 31 ∧ z_nc G kk a y ∧ (w = 0 ∨ w = 1)
theorem z_suc.inv {A : a_A} (ok : a_ok A) (np : a_np A) {x p r k w : Int32} {a y i j m : Nat} {G : Nat → Int32} (h : z_suc A x p r k w a y) (e1 : x = nI i) (hi : i < a_N A) (e2 : p = nI j) (hj : j < a_pc A i) (e3 : r = nI m) (hm : m < 2 ^ 31) (hG : z_rr A i j m G) : ∃ kk, k = nI kk ∧ kk < 2 ^ 31 ∧ z_nc G kk a y ∧ (w = 0 ∨ w = 1) := by
  obtain ⟨i', j', m', kk, H, q1, q2, q3, q4, q5, q6, q7, q8, q9, q10, q11⟩ := h
  have hN8 := ok.1.1
  have ei : i = i' := (nI_eq (by omega) (by omega)).mp (e1.symm.trans q1)
  subst ei
  have h768 := (np i hi).2.1
  have ej : j = j' := (nI_eq (by omega) (by omega)).mp (e2.symm.trans q3)
  subst ej
  have em : m = m' := (nI_eq hm q6).mp (e3.symm.trans q5)
  subst em
  exact ⟨kk, q8, q9, z_nc_congr (q7.uniq hG) q10, q11⟩
theorem z_suc.uniq {A : a_A} (ok : a_ok A) (np : a_np A) {x p r k w : Int32} {a y b z : Nat} (h : z_suc A x p r k w a y) (h' : z_suc A x p r k w b z) : a = b ∧ y = z := by
  have h'' := h'
  obtain ⟨i, j, m, kk, G, q1, q2, q3, q4, q5, q6, q7, q8, q9, q10, q11⟩ := h''
  obtain ⟨k1, s1, s2, s3, -⟩ := h.inv ok np q1 q2 q3 q4 q5 q6 q7
  have ek : kk = k1 := (nI_eq q9 s2).mp (q8.symm.trans s1)
  subst ek
  exact s3.uniq q10
theorem z_d32 : ∀ n, n < 768 → nI n / 32 = nI (n / 32) ∧ nI n - nI n / 32 * 32 = nI (n % 32) := by decide +kernel
theorem k_at {A : a_A} {σ : q_S} {x p r k w : Int32} (h : w_C A σ) (ok : a_ok A) (np : a_np A) (hn : q_n σ < 1000000) (hk : q_K σ 42 = 1001) (hz : q_Z σ 42 = 1) {R : q_O → q_S → Prop}
    (h1 : (∀ a y, ¬ z_suc A x p r k w a y) → ∀ τ, w_C A τ → w_fo σ τ → R (.inl (some (.inl 1))) τ)
    (h0 : ∀ a y, z_suc A x p r k w a y → a < 32 → y < 24 → ∀ τ, w_C A τ → w_fo σ τ → q_L τ 42 0 = (if w = 0 then (nI a).toInt64 else (nI y).toInt64) → R (.inl (some (.inl 0))) τ) : V_LW_at 1 x p r k w 42 σ R := by
  obtain ⟨pl, rl, f, g, hw⟩ := h
  have hc := hw.1
  have hN8 := ok.1.1
  refine ⟨hc.k, ?_⟩
  intro P18 P46 P103 p18 p46 p103
  refine ⟨hc.k, ?_⟩
  refine v_knownPlane (κ := q_L σ) hw ok (fun c => ?_) (fun i hi e => ?_)
  · obtain ⟨t1, t2, t3, t4, t5⟩ := w_thr 9 hw hn (fun _ _ => rfl)
    refine ⟨t3, h1 (fun a y q => ?_) _ t4 t5⟩
    obtain ⟨i', j', m', kk, H, q1, q2, -⟩ := q
    rw [q1] at c
    rcases c with c | c
    · exact nI_pos (by omega) c
    · exact nI_ge q2 (by omega) c
  · have ht18 : (¬ (w = 0 ∨ w = 1)) → P18 (q_put σ (q_I σ) (q_L σ)) := fun c => by
      obtain ⟨t1, t2, t3, t4, t5⟩ := w_thr 9 hw hn (fun _ _ => rfl)
      refine p18 _ ⟨t1, fun v2 e2 σ3 e3 => ⟨by rw [e2]; exact t2, ?_⟩⟩
      rw [e2, e3]
      refine ⟨t3, h1 (fun a y q => ?_) _ t4 t5⟩
      obtain ⟨i', j', m', kk, H, q1, q2, q3, q4, q5, q6, q7, q8, q9, q10, q11⟩ := q
      exact c q11
    have ht46 : ∀ ι' : Nat → Nat → Int32, w_D A σ ι' pl rl f g → (∀ a, ((14 ≤ a ∧ a ≤ 41) ∨ 10000000 ≤ a) → ι' a = q_I σ a) → (∀ a y, ¬ z_suc A x p r k w a y) → P46 (q_put σ ι' (q_L σ)) := fun ι' hw' hf c => by
      obtain ⟨t1, t2, t3, t4, t5⟩ := w_thr 9 hw' hn hf
      refine p46 _ ⟨t1, fun v2 e2 σ3 e3 => ⟨by rw [e2]; exact t2, ?_⟩⟩
      rw [e2, e3]
      exact ⟨t3, h1 c _ t4 t5⟩
    refine br_c (fun c => ht18 (fun c2 => ?_)) (fun c => br_c (fun c2 => ⟨hc.k, ?_⟩) (fun c2 => ht18 (fun c3 => ?_)))
    · rcases c2 with c2 | c2 <;> rw [c2] at c <;> exact absurd c (by decide)
    · have h768 := (np i hi).2.1
      refine v_takePieceD hw np hi (fun c3 => br_t rfl (ht46 _ hw (fun _ _ => rfl) (fun a y q => ?_))) (fun j e1 e2 ι1 f1 e3 => br_f (by decide) ⟨hc.k, ?_⟩)
      · obtain ⟨i', j', m', kk, H, q1, q2, q3, q4, -⟩ := q
        have ei : i = i' := (nI_eq (by omega) (by omega)).mp (e.symm.trans q1)
        subst ei
        rw [q3] at c3
        rcases c3 with c3 | c3
        · exact nI_pos (by omega) c3
        · exact nI_ge q4 (by omega) c3
      have hw1 := hw.pg f1
      have hf1 : ∀ a, ((14 ≤ a ∧ a ≤ 41) ∨ 10000000 ≤ a) → ι1 a = q_I σ a := fun a ha => f1.1 a (by omega) (by omega) (by omega)
      have fin : ∀ (m : Nat) (ι2 : Nat → Nat → Int32), r = nI m → m < 2 ^ 31 → w_D A σ ι2 pl rl f g → (∀ a, ((14 ≤ a ∧ a ≤ 41) ∨ 10000000 ≤ a) → ι2 a = q_I σ a) → z_rr A i j m (ι2 13) → V_PF_numberedCell 13 k (q_put σ ι2 (q_L σ)) (q_ci (fun v23 σ24 => ((¬ v23 = (-1 : Int32) → ((¬ w = (0 : Int32) → ¬ (32 : Int32) = 0 ∧ P103 ((v23 / (32 : Int32)).toInt64) σ24) ∧ (¬ (¬ w = (0 : Int32)) → ¬ (32 : Int32) = 0 ∧ P103 ((v23 - v23 / (32 : Int32) * (32 : Int32)).toInt64) σ24))) ∧ (¬ (¬ v23 = (-1 : Int32)) → q_n σ24 < 10000000 ∧ ∀ v30 : Nat, v30 = q_n σ24 → ∀ σ31 : q_S, σ31 = q_new σ24 9 0 → 0 < v30 ∧ (q_cl' (fun v4 σ5 => q_K σ5 42 = 1001 ∧ vp_in (0 : Int32) (q_Z σ5 42) ∧ ∀ σ6 : q_S, σ6 = q_wL σ5 42 (0 : Int32).toNatClampNeg v4 → R (.inl (some (.inl (0 : Int32)))) σ6) (fun n2 σ3 => q_K σ3 n2 = 9 ∧ R (.inl (some (.inl (1 : Int32)))) σ3)) (.inr v30) σ31))) (fun n9 σ9 => (q_cl' (fun v4 σ5 => q_K σ5 42 = 1001 ∧ vp_in (0 : Int32) (q_Z σ5 42) ∧ ∀ σ6 : q_S, σ6 = q_wL σ5 42 (0 : Int32).toNatClampNeg v4 → R (.inl (some (.inl (0 : Int32)))) σ6) (fun n2 σ3 => q_K σ3 n2 = 9 ∧ R (.inl (some (.inl (1 : Int32)))) σ3)) (.inr n9) σ9)) := by
        intro m ι2 em hm hw2 hf2 hrr
        refine v_numberedCell hc.k13 hc.z13 (fun c3 => ?_) (fun kk a y ek ha hnc => ?_)
        · refine br_f (by decide) ?_
          obtain ⟨t1, t2, t3, t4, t5⟩ := w_thr 9 hw2 hn hf2
          refine ⟨t1, fun v2 z2 σ3 z3 => ⟨by rw [z2]; exact t2, ?_⟩⟩
          rw [z2, z3]
          refine ⟨t3, h1 (fun a y q => ?_) _ t4 t5⟩
          obtain ⟨kk, s1, s2, s3, -⟩ := q.inv ok np e hi e1 e2 em hm hrr
          rw [s1] at c3
          have hle := z_ca_le (ι2 13)
          have hlt : kk < z_ca (ι2 13) := Nat.lt_of_lt_of_le s3.lt (z_sm_monoN (by have := s3.1; omega))
          rcases c3 with c3 | c3
          · exact nI_pos (by omega) c3
          · exact nI_ge hlt (by omega) c3
        · have hy := hnc.1
          have hle := z_ca_le (ι2 13)
          have hlt : kk < z_ca (ι2 13) := Nat.lt_of_lt_of_le hnc.lt (z_sm_monoN (by omega))
          have hw01 : w = 0 ∨ w = 1 := by
            rw [iI_lt] at c
            rw [iI_le] at c2
            have q0 : (0 : Int32).toInt = 0 := rfl
            have q1 : (1 : Int32).toInt = 1 := rfl
            rw [iI_eq, iI_eq]
            omega
          have hs : z_suc A x p r k w a y := ⟨i, j, m, kk, ι2 13, e, hi, e1, e2, em, hm, hrr, ek, by omega, hnc, hw01⟩
          have d32 := z_d32 (y * 32 + a) (by omega)
          rw [show (y * 32 + a) / 32 = y by omega, show (y * 32 + a) % 32 = a by omega] at d32
          have hne : ¬ nI (y * 32 + a) = -1 := by
            rw [iI_eq, nI_toInt (by omega)]
            show ¬ ((y * 32 + a : Nat) : Int) = -1
            omega
          refine br_t hne ?_
          rw [d32.2, d32.1]
          have out : ∀ v : Int64, v = (if w = 0 then (nI a).toInt64 else (nI y).toInt64) → P103 v (q_put σ ι2 (q_L σ)) := fun v hv => by
            refine p103 _ _ (v_out (R := fun τ => R (.inl (some (.inl 0))) τ) hk hz ?_)
            exact h0 a y hs ha hy _ hw2.c (w_fo_put hf2 (fun t ht => by rw [up_n ht])) (by rw [q_put_L, up_o, hv])
          refine br_c (fun c5 => ⟨by decide, out _ (by rw [if_neg c5])⟩) (fun c5 => ⟨by decide, out _ (by rw [if_pos (Decidable.not_not.mp c5)])⟩)
      refine v_takeRing hc.k hc.p6 hc.g7 hc.p7 hc.g10 hc.p8 hc.k13 hc.z13 (by omega) (by omega) hw1.2.2.2.2.2.2.1.2 (fun c3 => ?_) (fun c3 ι2 f2 g2 => ?_) (fun m em m0 m31 hex ι2 ι3 f2 f3 => ?_) (fun m em m0 m31 ι2 ι3 f2 f3 g3 => ?_)
      · refine br_f (by decide) (ht46 _ hw1 hf1 (fun a y q => ?_))
        obtain ⟨i', j', m', kk, H, q1, q2, q3, q4, q5, q6, -⟩ := q
        rw [q5] at c3
        exact nI_pos q6 c3
      · refine br_t (by decide) ⟨hc.k, ?_⟩
        show V_PF_numberedCell (q_P σ 1 8) k (q_put σ ι2 (q_L σ)) _
        rw [hc.p8]
        exact fin 0 ι2 c3 (by omega) (hw1.sp f2) (fun a ha => by rw [f2 a (by omega)]; exact hf1 a ha) (Or.inl ⟨rfl, ι1 9, e3, g2⟩)
      · refine br_f (by decide) (ht46 _ ((hw1.hg f2).sp f3) (fun a ha => ?_) (fun a y q => ?_))
        · rw [f3 a (by omega), f2.1 a (by omega) (by omega) (by omega)]; exact hf1 a ha
        · obtain ⟨i', j', m', kk, H, q1, q2, q3, q4, q5, q6, q7, -⟩ := q
          have ei : i = i' := (nI_eq (by omega) (by omega)).mp (e.symm.trans q1)
          subst ei
          have ej : j = j' := (nI_eq (by omega) (by omega)).mp (e1.symm.trans q3)
          subst ej
          have em2 : m = m' := (nI_eq m31 q6).mp (em.symm.trans q5)
          subst em2
          obtain ⟨q, q8, q9⟩ := hex
          rcases q7 with ⟨r0, -⟩ | ⟨r0, r1⟩
          · omega
          · rw [e3] at q9
            exact r1.ne q9 (by omega)
      · refine br_t (by decide) ⟨hc.k, ?_⟩
        show V_PF_numberedCell (q_P σ 1 8) k (q_put σ ι3 (q_L σ)) _
        rw [hc.p8]
        rw [e3] at g3
        exact fin m ι3 em m31 ((hw1.hg f2).sp f3) (fun a ha => by rw [f3 a (by omega), f2.1 a (by omega) (by omega) (by omega)]; exact hf1 a ha) (Or.inr ⟨m0, g3⟩)
    · rcases c3 with c3 | c3 <;> rw [c3] at c2 <;> exact absurd c2 (by decide)
