/-! THE WORLD OF THE CLASS -/
def c_A (σ : q_S) (a n : Nat) : Prop := (q_P σ a 0 = 10000005 ∧ n = 0) ∨ (42 < q_P σ a 0 ∧ q_P σ a 0 < q_n σ ∧ q_K σ (q_P σ a 0) = 1002 ∧ (q_Z σ (q_P σ a 0) = 10 ∨ q_Z σ (q_P σ a 0) = 15 ∨ q_Z σ (q_P σ a 0) = 22))
def c_B (A : a_A) (σ : q_S) (pl f g : Nat → Nat) : Prop := (42 < q_n σ ∧ q_n σ < 10000000) ∧ (∀ i, i < a_N A → pl i + 8 ≤ q_n σ) ∧ (∀ d, d < a_D A → f d < q_n σ) ∧ (∀ e, e < a_E A → g e < q_n σ) ∧ (c_A σ 2 (a_N A) ∧ c_A σ 3 (a_N A) ∧ c_A σ 4 (a_D A) ∧ c_A σ 5 (a_E A)) ∧ ∀ a b, 2 ≤ a → a < b → b ≤ 5 → q_P σ a 0 = q_P σ b 0 → q_P σ a 0 = 10000005
def w_D (A : a_A) (σ : q_S) (ι : Nat → Nat → Int32) (pl rl f g : Nat → Nat) : Prop := c_S σ ∧ c_P A σ ι pl rl ∧ c_D A σ ι f ∧ c_E A σ ι g ∧ c_X A pl f g ∧ c_U A ι ∧ (ι 7 0 = 0 ∧ ¬ ι 10 0 = 0) ∧ c_B A σ pl f g
def w_C (A : a_A) (σ : q_S) : Prop := ∃ pl rl f g, w_D A σ (q_I σ) pl rl f g
/-- the pieces of what is filled are counted -/
def a_np (A : a_A) : Prop := ∀ i, i < a_N A → z_np (z_in (a_fi A i)) (a_pc A i) ∧ a_pc A i ≤ 768 ∧ a_is A i ≤ 768 ∧ (a_nw A i = 0 ∨ a_nw A i = 1)
def w_sm (σ τ : q_S) (a : Nat) : Prop := q_K τ a = q_K σ a ∧ q_Z τ a = q_Z σ a ∧ q_I τ a = q_I σ a ∧ q_L τ a = q_L σ a ∧ q_P τ a = q_P σ a
/-- what a call of the class leaves -/
def w_fc (σ τ : q_S) : Prop := ∀ a, ((14 ≤ a ∧ a ≤ 42) ∨ 10000000 ≤ a) → w_sm σ τ a
theorem w_sm.rf (σ : q_S) (a : Nat) : w_sm σ σ a := ⟨rfl, rfl, rfl, rfl, rfl⟩
theorem w_fc.rf (σ : q_S) : w_fc σ σ := fun a _ => w_sm.rf σ a
theorem w_sm.tr {σ τ υ : q_S} {a : Nat} (h : w_sm σ τ a) (h' : w_sm τ υ a) : w_sm σ υ a := ⟨h'.1.trans h.1, h'.2.1.trans h.2.1, h'.2.2.1.trans h.2.2.1, h'.2.2.2.1.trans h.2.2.2.1, h'.2.2.2.2.trans h.2.2.2.2⟩
theorem w_fc.tr {σ τ υ : q_S} (h : w_fc σ τ) (h' : w_fc τ υ) : w_fc σ υ := fun a ha => (h a ha).tr (h' a ha)
theorem w_sm_new {σ : q_S} {k z a : Nat} (h : a ≠ q_n σ) : w_sm σ (q_new σ k z) a := by
  refine ⟨?_, ?_, ?_, ?_, ?_⟩
  · rw [q_K_new, if_neg h]
  · rw [q_Z_new, if_neg h]
  · rw [q_I_new, if_neg h]
  · rw [q_L_new, if_neg h]
  · rw [q_P_new, if_neg h]
theorem w_fc_new {σ : q_S} {k z : Nat} (h1 : 42 < q_n σ) (h2 : q_n σ < 10000000) : w_fc σ (q_new σ k z) := fun a ha => w_sm_new (by omega)
theorem w_fc_put {σ : q_S} {ι : Nat → Nat → Int32} {κ : Nat → Nat → Int64} (h : ∀ a, ((14 ≤ a ∧ a ≤ 42) ∨ 10000000 ≤ a) → ι a = q_I σ a ∧ κ a = q_L σ a) : w_fc σ (q_put σ ι κ) := fun a ha => ⟨rfl, rfl, (h a ha).1, (h a ha).2, rfl⟩
/-- what the class's picture rests on -/
theorem c_P.fr {A : a_A} {σ τ : q_S} {ι ι' : Nat → Nat → Int32} {pl rl : Nat → Nat} (h : c_P A σ ι pl rl) (h2 : ι' 2 = ι 2) (h3 : ι' 3 = ι 3) (hp : ∀ i, i < a_N A → ∀ k, k < 8 → ι' (pl i + k) = ι (pl i + k)) (hs2 : q_K τ 2 = q_K σ 2 ∧ q_P τ 2 = q_P σ 2) (hs3 : q_K τ 3 = q_K σ 3 ∧ q_P τ 3 = q_P σ 3) (ha2 : q_K τ (q_P σ 2 0) = q_K σ (q_P σ 2 0) ∧ q_Z τ (q_P σ 2 0) = q_Z σ (q_P σ 2 0) ∧ q_P τ (q_P σ 2 0) = q_P σ (q_P σ 2 0)) (ha3 : q_K τ (q_P σ 3 0) = q_K σ (q_P σ 3 0) ∧ q_Z τ (q_P σ 3 0) = q_Z σ (q_P σ 3 0) ∧ q_P τ (q_P σ 3 0) = q_P σ (q_P σ 3 0)) (hsp : ∀ i, i < a_N A → ∀ k, k < 8 → q_K τ (pl i + k) = q_K σ (pl i + k) ∧ q_Z τ (pl i + k) = q_Z σ (pl i + k) ∧ q_P τ (pl i + k) = q_P σ (pl i + k)) : c_P A τ ι' pl rl := by
  obtain ⟨⟨l2, z2, s2⟩, ⟨l3, z3, s3⟩, hord, hpl, hdis⟩ := h
  refine ⟨⟨?_, ?_, by rw [h2]; exact s2⟩, ⟨?_, ?_, by rw [h3]; exact s3⟩, hord, fun i hi => ?_, hdis⟩
  · unfold c_L
    rw [hs2.1, hs2.2, ha2.1, ha2.2.1, ha2.2.2]; exact l2
  · rw [hs2.2, ha2.2.1]; exact z2
  · unfold c_L
    rw [hs3.1, hs3.2, ha3.1, ha3.2.1, ha3.2.2]; exact l3
  · rw [hs3.2, ha3.2.1]; exact z3
  · obtain ⟨q1, q2, q3, q4⟩ := hpl i hi
    have e0 := hp i hi 0 (by omega)
    have e1 := hp i hi 1 (by omega)
    have e2 := hp i hi 2 (by omega)
    have e3 := hp i hi 3 (by omega)
    have t0 := hsp i hi 0 (by omega)
    have t1 := hsp i hi 1 (by omega)
    have t2 := hsp i hi 2 (by omega)
    have t3 := hsp i hi 3 (by omega)
    have t4 := hsp i hi 4 (by omega)
    have t5 := hsp i hi 5 (by omega)
    have t6 := hsp i hi 6 (by omega)
    have t7 := hsp i hi 7 (by omega)
    rw [Nat.add_zero] at e0 t0
    have hl := q1.lat.1
    have ec : ∀ k, k < 2 → ι' (q_P σ (pl i) 10 + k) = ι (q_P σ (pl i) 10 + k) := fun k hk => by
      rcases hl with c | c
      · rw [c, Nat.add_assoc]; exact hp i hi (4 + k) (by omega)
      · rw [c, Nat.add_assoc]; exact hp i hi (6 + k) (by omega)
    have ec0 := ec 0 (by omega)
    have ec1 := ec 1 (by omega)
    rw [Nat.add_zero] at ec0
    refine ⟨?_, q2, ?_, ?_⟩
    · unfold c_pl
      rw [t0.1, t0.2.2, t1.1, t1.2.1, t2.1, t2.2.1, t3.1, t3.2.1, t4.1, t4.2.2, t5.1, t5.2.1, t6.1, t6.2.2, t7.1, t7.2.1]; exact q1
    · unfold c_pd
      rw [e0, e1, e2, e3]; exact q3
    · unfold c_cd
      rw [t0.2.2, ec0, ec1]; exact q4
theorem c_L.fr {σ τ : q_S} {a n : Nat} {f : Nat → Nat} (h : c_L σ a n f) (hs : q_K τ a = q_K σ a ∧ q_P τ a = q_P σ a) (ha : q_K τ (q_P σ a 0) = q_K σ (q_P σ a 0) ∧ q_Z τ (q_P σ a 0) = q_Z σ (q_P σ a 0) ∧ q_P τ (q_P σ a 0) = q_P σ (q_P σ a 0)) : c_L τ a n f := by
  unfold c_L
  rw [hs.1, hs.2, ha.1, ha.2.1, ha.2.2]; exact h
/-- a new thing elsewhere -/
theorem w_C.new {A : a_A} {σ : q_S} {k z : Nat} (h : w_C A σ) (hn : q_n σ + 1 < 10000000) : w_C A (q_new σ k z) := by
  obtain ⟨pl, rl, f, g, hc, hP, hD, hE, hX, hU, hS, hB⟩ := h
  obtain ⟨⟨b0, b0'⟩, b1, b2, b3, ⟨a2, a3, a4, a5⟩, b5⟩ := hB
  have sm : ∀ a, a ≠ q_n σ → w_sm σ (q_new σ k z) a := fun a ha => w_sm_new ha
  have lo : ∀ a, a ≤ 42 → w_sm σ (q_new σ k z) a := fun a ha => sm a (by omega)
  have la : ∀ a n, c_A σ a n → q_P σ a 0 ≠ q_n σ := fun a n ha => by
    rcases ha with ⟨h1, -⟩ | ⟨h1, h2, -⟩ <;> omega
  have smA : ∀ a n, a ≤ 42 → c_A σ a n → c_A (q_new σ k z) a n := fun a n ha h9 => by
    have e := (lo a ha).2.2.2.2
    have e2 := sm _ (la a n h9)
    unfold c_A
    rw [e, e2.1, e2.2.1, q_n_new]
    rcases h9 with h9 | ⟨h1, h2, h3⟩
    · exact Or.inl h9
    · exact Or.inr ⟨h1, by omega, h3⟩
  have eI : ∀ a, a ≠ q_n σ → q_I (q_new σ k z) a = q_I σ a := fun a ha => (sm a ha).2.2.1
  refine ⟨pl, rl, f, g, ?_, ?_, ?_, ?_, hX, ?_, ?_, ?_⟩
  · have s1 := lo 1 (by omega)
    have s6 := lo 6 (by omega)
    have s7 := lo 7 (by omega)
    have s8 := lo 8 (by omega)
    have s9 := lo 9 (by omega)
    have s10 := lo 10 (by omega)
    have s11 := lo 11 (by omega)
    have s12 := lo 12 (by omega)
    have s13 := lo 13 (by omega)
    unfold c_S q_gr
    rw [s1.1, s1.2.2.2.2, s6.1, s6.2.1, s7.1, s7.2.2.2.2, s8.1, s8.2.1, s9.1, s9.2.1, s10.1, s10.2.2.2.2, s11.1, s11.2.1, s12.1, s12.2.1, s13.1, s13.2.1]
    exact hc
  · refine hP.fr (eI 2 (by omega)) (eI 3 (by omega)) (fun i hi j hj => eI _ (by have := b1 i hi; omega)) ⟨(lo 2 (by omega)).1, (lo 2 (by omega)).2.2.2.2⟩ ⟨(lo 3 (by omega)).1, (lo 3 (by omega)).2.2.2.2⟩ ?_ ?_ ?_
    · have := sm _ (la 2 _ a2); exact ⟨this.1, this.2.1, this.2.2.2.2⟩
    · have := sm _ (la 3 _ a3); exact ⟨this.1, this.2.1, this.2.2.2.2⟩
    · intro i hi j hj
      have := sm (pl i + j) (by have := b1 i hi; omega); exact ⟨this.1, this.2.1, this.2.2.2.2⟩
  · have s4 := lo 4 (by omega)
    have sa := sm _ (la 4 _ a4)
    refine ⟨hD.1.fr ⟨s4.1, s4.2.2.2.2⟩ ⟨sa.1, sa.2.1, sa.2.2.2.2⟩, by rw [s4.2.2.2.2, sa.2.1]; exact hD.2.1, by rw [s4.2.2.1]; exact hD.2.2.1, fun i hi => ?_⟩
    have sf := sm (f i) (by have := b2 i hi; omega)
    rw [sf.1, sf.2.2.1]; exact hD.2.2.2 i hi
  · have s4 := lo 5 (by omega)
    have sa := sm _ (la 5 _ a5)
    refine ⟨hE.1.fr ⟨s4.1, s4.2.2.2.2⟩ ⟨sa.1, sa.2.1, sa.2.2.2.2⟩, by rw [s4.2.2.2.2, sa.2.1]; exact hE.2.1, by rw [s4.2.2.1]; exact hE.2.2.1, fun i hi => ?_⟩
    have sf := sm (g i) (by have := b3 i hi; omega)
    rw [sf.1, sf.2.2.1]; exact hE.2.2.2 i hi
  · unfold c_U
    rw [eI 1 (by omega), eI 6 (by omega)]; exact hU
  · rw [eI 7 (by omega), eI 10 (by omega)]; exact hS
  · refine ⟨⟨by rw [q_n_new]; omega, by rw [q_n_new]; exact hn⟩, fun i hi => by have := b1 i hi; rw [q_n_new]; omega, fun i hi => by have := b2 i hi; rw [q_n_new]; omega, fun i hi => by have := b3 i hi; rw [q_n_new]; omega, ⟨smA 2 _ (by omega) a2, smA 3 _ (by omega) a3, smA 4 _ (by omega) a4, smA 5 _ (by omega) a5⟩, fun a b h1 h2 h3 h4 => ?_⟩
    rw [(lo a (by omega)).2.2.2.2] at h4 ⊢
    rw [(lo b (by omega)).2.2.2.2] at h4
    exact b5 a b h1 h2 h3 h4
/-- other numbers at places that the picture does not rest on -/
theorem w_D.scr {A : a_A} {σ : q_S} {ι ι' : Nat → Nat → Int32} {pl rl f g : Nat → Nat} (h : w_D A σ ι pl rl f g) (hi : ∀ a, a ≠ 7 → a ≠ 8 → a ≠ 9 → a ≠ 10 → a ≠ 11 → a ≠ 12 → a ≠ 13 → ι' a = ι a) (h7 : ι' 7 0 = 0) (h10 : ¬ ι' 10 0 = 0) : w_D A σ ι' pl rl f g := by
  obtain ⟨hc, hP, hD, hE, hX, hU, hS, hB⟩ := h
  refine ⟨hc, ?_, ?_, ?_, hX, ?_, ⟨h7, h10⟩, hB⟩
  · refine hP.fr (hi 2 (by omega) (by omega) (by omega) (by omega) (by omega) (by omega) (by omega)) (hi 3 (by omega) (by omega) (by omega) (by omega) (by omega) (by omega) (by omega)) (fun i hi2 k hk => ?_) ⟨rfl, rfl⟩ ⟨rfl, rfl⟩ ⟨rfl, rfl, rfl⟩ ⟨rfl, rfl, rfl⟩ (fun i _ k _ => ⟨rfl, rfl, rfl⟩)
    have := (hP.2.2.2.1 i hi2).2.1
    exact hi _ (by omega) (by omega) (by omega) (by omega) (by omega) (by omega) (by omega)
  · exact hD.fr (hi 4 (by omega) (by omega) (by omega) (by omega) (by omega) (by omega) (by omega)) fun i hi2 => by
      have := (hX.1 i hi2).1
      exact hi _ (by omega) (by omega) (by omega) (by omega) (by omega) (by omega) (by omega)
  · exact hE.fr (hi 5 (by omega) (by omega) (by omega) (by omega) (by omega) (by omega) (by omega)) fun i hi2 => by
      have := (hX.2 i hi2).1
      exact hi _ (by omega) (by omega) (by omega) (by omega) (by omega) (by omega) (by omega)
  · unfold c_U
    rw [hi 1 (by omega) (by omega) (by omega) (by omega) (by omega) (by omega) (by omega), hi 6 (by omega) (by omega) (by omega) (by omega) (by omega) (by omega) (by omega)]; exact hU
theorem w_D.c {A : a_A} {σ : q_S} {ι : Nat → Nat → Int32} {κ : Nat → Nat → Int64} {pl rl f g : Nat → Nat} (h : w_D A σ ι pl rl f g) : w_C A (q_put σ ι κ) := ⟨pl, rl, f, g, h⟩
/-- a plane that is known, or none such -/
theorem v_knownPlane {A : a_A} {σ : q_S} {ι : Nat → Nat → Int32} {κ : Nat → Nat → Int64} {pl rl f g : Nat → Nat} {x : Int32} (h : w_D A σ ι pl rl f g) (ok : a_ok A) {R : q_O → q_S → Prop}
    (h0 : (x < 0 ∨ nI (a_N A) ≤ x) → R (.inr (q_n σ)) (q_new (q_put σ ι κ) 9 0)) (h1 : ∀ i, i < a_N A → x = nI i → R (.inl (some (.inr (.inr (pl i))))) (q_put σ ι κ)) : V_PF_knownPlane 1 x (q_put σ ι κ) R := by
  obtain ⟨hc, hP, hD, hE, hX, hU, hS, hB⟩ := h
  obtain ⟨l2, z2, s2⟩ := hP.1
  have hN8 := ok.1.1
  intro P17 p17
  have hthrow : (x < 0 ∨ nI (a_N A) ≤ x) → P17 (q_put σ ι κ) := fun c => p17 _ ⟨hB.1.2, fun v2 e2 σ3 e3 => ⟨by rw [e2]; have := hB.1.1; exact Nat.lt_trans (by omega) this, by rw [e2, e3]; exact h0 c⟩⟩
  refine br_c (fun c => hthrow (Or.inl c)) (fun c => ⟨hc.k, ?_⟩)
  simp only [q_put_P, q_put_K, hc.p1]
  refine ⟨l2.1, v_sizeL l2.1 s2 ?_⟩
  obtain ⟨j, hj, rfl⟩ := nI_of c
  refine br_c (fun c2 => ?_) (fun c2 => hthrow (Or.inr ?_))
  · have hjN : j < a_N A := (nI_ltI hj (by omega)).mp c2
    simp only [q_put_P, q_put_K, hc.p1, hc.k, l2.1, true_and]
    refine v_getL l2 s2 hjN (by omega) z2 ⟨(hP.2.2.2.1 j hjN).1.1, h1 j hjN rfl⟩
  · rw [iI_lt] at c2
    rw [iI_le]; omega
theorem z_onBoard (a b : Int64) : (f_PF_onBoard a b = 0 ∧ ¬ (0 ≤ a.toInt ∧ a.toInt < 32 ∧ 0 ≤ b.toInt ∧ b.toInt < 24)) ∨ (f_PF_onBoard a b = 1 ∧ 0 ≤ a.toInt ∧ a.toInt < 32 ∧ 0 ≤ b.toInt ∧ b.toInt < 24) := by
  have e0 : (0 : Int64).toInt = 0 := rfl
  have e32 : (32 : Int64).toInt = 32 := rfl
  have e24 : (24 : Int64).toInt = 24 := rfl
  unfold f_PF_onBoard
  by_cases c1 : a < 0
  · rw [if_pos ((lg_cmp_lt a 0).mpr c1)]
    rw [iL_lt, e0] at c1
    exact Or.inl ⟨rfl, by omega⟩
  · rw [if_neg (fun q => c1 ((lg_cmp_lt a 0).mp q))]
    rw [iL_lt, e0] at c1
    by_cases c2 : 32 ≤ a
    · rw [if_pos ((lg_cmp_ge a 32).mpr c2)]
      rw [iL_le, e32] at c2
      exact Or.inl ⟨rfl, by omega⟩
    · rw [if_neg (fun q => c2 ((lg_cmp_ge a 32).mp q))]
      rw [iL_le, e32] at c2
      by_cases c3 : b < 0
      · rw [if_pos ((lg_cmp_lt b 0).mpr c3)]
        rw [iL_lt, e0] at c3
        exact Or.inl ⟨rfl, by omega⟩
      · rw [if_neg (fun q => c3 ((lg_cmp_lt b 0).mp q))]
        rw [iL_lt, e0] at c3
        by_cases c4 : 24 ≤ b
        · rw [if_pos ((lg_cmp_ge b 24).mpr c4)]
          rw [iL_le, e24] at c4
          exact Or.inl ⟨rfl, by omega⟩
        · rw [if_neg (fun q => c4 ((lg_cmp_ge b 24).mp q))]
          rw [iL_le, e24] at c4
          exact Or.inr ⟨rfl, by omega, by omega, by omega, by omega⟩
