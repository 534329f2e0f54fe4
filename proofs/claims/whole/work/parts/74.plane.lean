/-! A PLANE IS TOLD TO THE CLASS -/
def a_pln (A : a_A) (n l r : Int32) : a_A := (va_up (va_up (va_up (va_up (va_up (va_up (va_up A.1 0 (va_up (A.1 0) 1 (a_N A + 1))) 2 (va_up (A.1 2) (a_N A) 0)) 3 (va_up (A.1 3) (a_N A) 0)) 4 (va_up (A.1 4) (a_N A) 0)) 5 (va_up (A.1 5) (a_N A) 0)) 6 (va_up (A.1 6) (a_N A) 0)) 7 (va_up (A.1 7) (a_N A) 0), va_up (va_up (va_up (va_up A.2.1 0 (va_up (A.2.1 0) (a_N A) n)) 1 (va_up (A.2.1 1) (a_N A) l)) 2 (va_up (A.2.1 2) (a_N A) r)) 3 (va_up (A.2.1 3) (a_N A) 0), A.2.2.1, A.2.2.2.1, va_up A.2.2.2.2.1 (a_N A) (fun _ => 0), va_up A.2.2.2.2.2 (a_N A) (fun _ => 0))
theorem a_pln_sp (A : a_A) (n l r : Int32) (j : Nat) (h : j ≠ a_N A) : a_sp A (a_pln A n l r) j := ⟨up_n h, up_n h, up_n h, up_n h, up_n h, up_n h, up_n h, fun _ => rfl, fun _ => rfl, fun k => congrFun (up_n h) k, fun k => congrFun (up_n h) k, up_n h, up_n h, up_n h⟩
theorem c_ord.ins {A B : a_A} {rl : Nat → Nat} {p : Nat} (h : c_ord A rl) (hN : a_N B = a_N A + 1) (hrk : ∀ q, q ≠ a_N A → a_rk B q = a_rk A q) (hp : p ≤ a_N A) (hlo : ∀ i, i < p → a_rk B (a_N A) ≤ a_rk A (rl i)) (hhi : p < a_N A → a_rk A (rl p) < a_rk B (a_N A)) : c_ord B (z_ins rl p (a_N A)) := by
  obtain ⟨o1, o2, o3⟩ := h
  unfold c_ord
  rw [hN]
  refine ⟨fun j hj => ?_, fun i j hij hj => ?_, fun q hq => ?_⟩
  · unfold z_ins
    by_cases c : j < p
    · rw [if_pos c]; have := o1 j (by omega); omega
    · rw [if_neg c]
      by_cases c2 : j = p
      · rw [if_pos c2]; omega
      · rw [if_neg c2]; have := o1 (j - 1) (by omega); omega
  · have ah : ∀ a b, a < b → b < a_N A → a_ah B (rl a) (rl b) := fun a b h1 h2 => by
      have q1 := o2 a b h1 h2
      have q2 := o1 a (by omega)
      have q3 := o1 b h2
      unfold a_ah at *
      rw [hrk _ (by omega), hrk _ (by omega)]; exact q1
    unfold z_ins
    by_cases c1 : j < p
    · rw [if_pos (show i < p by omega), if_pos c1]; exact ah i j hij (by omega)
    · rw [if_neg c1]
      by_cases c2 : j = p
      · rw [if_pos c2, if_pos (show i < p by omega)]
        have q2 := o1 i (by omega)
        have q3 := hlo i (by omega)
        unfold a_ah
        rw [hrk (rl i) (by omega)]
        rw [iI_le] at q3
        rw [iI_lt, iI_eq]
        omega
      · rw [if_neg c2]
        by_cases c3 : i < p
        · rw [if_pos c3]; exact ah i (j - 1) (by omega) (by omega)
        · rw [if_neg c3]
          by_cases c4 : i = p
          · rw [if_pos c4]
            have q2 := o1 (j - 1) (by omega)
            have q3 := hhi (by omega)
            have q4 : a_rk A (rl (j - 1)) ≤ a_rk A (rl p) := by
              by_cases c5 : j - 1 = p
              · rw [c5, iI_le]; exact Int.le_refl _
              · have q5 := o2 p (j - 1) (by omega) (by omega)
                unfold a_ah at q5
                rw [iI_lt, iI_eq] at q5
                rw [iI_le]; omega
            unfold a_ah
            rw [hrk (rl (j - 1)) (by omega)]
            rw [iI_lt] at q3
            rw [iI_le] at q4
            rw [iI_lt]
            omega
          · rw [if_neg c4]; exact ah (i - 1) (j - 1) (by omega) (by omega)
  · by_cases c : q = a_N A
    · refine ⟨p, by omega, ?_⟩
      unfold z_ins
      rw [if_neg (by omega), if_pos rfl, c]
    · obtain ⟨j, hj, e⟩ := o3 q (by omega)
      by_cases c2 : j < p
      · refine ⟨j, by omega, ?_⟩
        unfold z_ins
        rw [if_pos c2]; exact e
      · refine ⟨j + 1, by omega, ?_⟩
        unfold z_ins
        rw [if_neg (by omega), if_neg (by omega), Nat.add_sub_cancel]; exact e
theorem c_pl.sm {σ τ : q_S} {ν : Nat} (h : c_pl σ ν) (hs : ∀ k, k < 8 → w_sm σ τ (ν + k)) : c_pl τ ν := by
  have t0 := hs 0 (by omega)
  rw [Nat.add_zero] at t0
  have t1 := hs 1 (by omega)
  have t2 := hs 2 (by omega)
  have t3 := hs 3 (by omega)
  have t4 := hs 4 (by omega)
  have t5 := hs 5 (by omega)
  have t6 := hs 6 (by omega)
  have t7 := hs 7 (by omega)
  unfold c_pl
  rw [t0.1, t0.2.2.2.2, t1.1, t1.2.1, t2.1, t2.2.1, t3.1, t3.2.1, t4.1, t4.2.2.2.2, t5.1, t5.2.1, t6.1, t6.2.2.2.2, t7.1, t7.2.1]
  exact h
theorem k_plane {A : a_A} {σ : q_S} {n l r : Int32} {L : Nat} {xs : Nat → Int32} (h : w_C A σ) (ok : a_ok A) (hr : w_R L xs σ) (hn : q_n σ < 1000000) (hk : q_K σ 42 = 1001) (hz : q_Z σ 42 = 1) {R : q_O → q_S → Prop}
    (h1 : ¬ (0 ≤ l.toInt ∧ l.toInt < a_ly A) → ∀ τ, w_C A τ → w_fo σ τ → R (.inl (some (.inl 1))) τ)
    (h2 : (0 ≤ l.toInt ∧ l.toInt < a_ly A) → ¬ ((0 ≤ n.toInt ∧ n.toInt ≤ 99) ∧ -100 ≤ r.toInt ∧ r.toInt ≤ 100) → ∀ τ, w_C A τ → w_fo σ τ → R (.inl (some (.inl 2))) τ)
    (h3 : (0 ≤ l.toInt ∧ l.toInt < a_ly A) → ((0 ≤ n.toInt ∧ n.toInt ≤ 99) ∧ -100 ≤ r.toInt ∧ r.toInt ≤ 100) → a_N A = 8 → ∀ τ, w_C A τ → w_fo σ τ → q_L τ 42 0 = (-1 : Int32).toInt64 → R (.inl (some (.inl 0))) τ)
    (h4 : (0 ≤ l.toInt ∧ l.toInt < a_ly A) → ((0 ≤ n.toInt ∧ n.toInt ≤ 99) ∧ -100 ≤ r.toInt ∧ r.toInt ≤ 100) → a_N A < 8 → ∀ τ, w_C (a_pln A n l r) τ → w_fo σ τ → q_L τ 42 0 = (nI (a_N A)).toInt64 → R (.inl (some (.inl 0))) τ) : V_LW_plane 1 n l r 42 σ R := by
  obtain ⟨pl, rl, f, g, hw⟩ := h
  have hw0 := hw
  obtain ⟨hc, hP, hD, hE, hX, hU, hS, hB⟩ := hw
  obtain ⟨⟨b0, b0'⟩, b1, b2, b3, ⟨a2, a3, a4, a5⟩, b5⟩ := hB
  have em : (-100 : Int32).toInt = -100 := rfl
  have ep : (100 : Int32).toInt = 100 := rfl
  have hN8 := ok.1.1
  obtain ⟨⟨l2, z2, s2⟩, ⟨l3, z3, s3⟩, hord, hpl, hdis⟩ := hP
  obtain ⟨i1, i2, i3, i4, i5⟩ := w_thr 9 hw0 hn (fun _ _ => rfl)
  obtain ⟨t1, t2, t3, t4, t5⟩ := w_thr 10 hw0 hn (fun _ _ => rfl)
  have ten : (0 ≤ l.toInt ∧ l.toInt < a_ly A) → ¬ ((0 ≤ n.toInt ∧ n.toInt ≤ 99) ∧ -100 ≤ r.toInt ∧ r.toInt ≤ 100) → ((q_K (q_new σ 10 0) (q_n σ) = 9 → R (.inl (some (.inl (1 : Int32)))) (q_new σ 10 0)) ∧ (¬ q_K (q_new σ 10 0) (q_n σ) = 9 → q_K (q_new σ 10 0) (q_n σ) = 10 ∧ R (.inl (some (.inl (2 : Int32)))) (q_new σ 10 0))) := fun c0 c => br_f (by rw [show q_K (q_new σ 10 0) (q_n σ) = 10 from t3]; decide) ⟨t3, h2 c0 c _ t4 t5⟩
  refine ⟨hc.k, ?_⟩
  intro P21 p21
  have ht : (0 ≤ l.toInt ∧ l.toInt < a_ly A) → ¬ (-100 ≤ r.toInt ∧ r.toInt ≤ 100) → P21 σ := fun c0 c => p21 _ ⟨t1, fun v2 e2 σ3 e3 => ⟨by rw [e2]; exact t2, by rw [e2, e3]; exact ten c0 (fun c2 => c c2.2)⟩⟩
  refine ⟨hc.k, v_requireLayer hw0 ok (by omega) (fun c => br_t i3 (h1 c _ i4 i5)) (fun c0 => ?_)⟩
  refine v_requireNet (by omega) (by omega) (fun c => ten c0 (fun c2 => c c2.1)) (fun cn => ?_)
  show (_ ∧ _)
  simp only [iI_lt (x := r), iI_le (x := r), em, ep]
  refine br_c (fun c => ht c0 (by omega)) (fun c4 => br_c (fun c5 => ?_) (fun c => ht c0 (by omega)))
  rw [← q_put_self σ]
  simp only [q_put_P, q_put_K, hc.k, hc.p1, true_and]
  refine ⟨l2.1, v_sizeL l2.1 s2 (br_c (fun c6 => ?_) (fun c6 => ?_))⟩
  · have hlt : a_N A < 8 := (nI_ltI (b := 8) (by omega) (by omega)).mp c6
    refine ⟨by rw [q_put_n]; omega, fun v20 ev σ21 es => ⟨by rw [ev, q_put_n]; omega, ?_⟩⟩
    rw [q_put_n] at ev
    rw [q_put_self] at es
    subst ev es
    refine v_PLinit b0 (by omega) (fun ρ hρ => ?_)
    obtain ⟨r1, r2, r3, ⟨r4, r5, r6, r7⟩, r8, r9⟩ := hρ
    generalize hν : q_n σ = ν at *
    have rlo : ∀ b, b ≤ 42 → w_sm σ ρ b := fun b hb => r9 b (Or.inl (by omega))
    have q1 := rlo 1 (by omega)
    have q2 := rlo 2 (by omega)
    have q3 := rlo 3 (by omega)
    have arrb : ∀ a m, c_A σ a m → (q_P σ a 0 < ν ∨ ν + 8 ≤ q_P σ a 0) := fun a m ha => by
      rcases ha with ⟨c1, -⟩ | ⟨c1, c2, -⟩ <;> omega
    have q2a := r9 _ (arrb 2 _ a2)
    have q3a := r9 _ (arrb 3 _ a3)
    have plo : ∀ i, i < a_N A → ∀ k, k < 8 → w_sm σ ρ (pl i + k) := fun i hi k hk => r9 _ (Or.inl (by have := b1 i hi; omega))
    have l3ρ : c_L ρ 3 (a_N A) (fun j => pl (rl j)) := l3.fr ⟨q3.1, q3.2.2.2.2⟩ ⟨q3a.1, q3a.2.1, q3a.2.2.2.2⟩
    have kρ : q_K ρ 1 = 1 := by rw [q1.1]; exact hc.k
    have pρ : q_P ρ 1 2 = 3 := by rw [q1.2.2.2.2]; exact hc.p2
    show q_K ρ 1 = 1 ∧ q_K ρ 1 = 1 ∧ V_PF_placeOfRank 1 r ρ _
    refine ⟨kρ, kρ, ?_⟩
    have hk6 : ∀ i, i < a_N A → q_K σ (pl i) = 6 ∧ q_I σ (pl i) 2 = a_rk A i := fun i hi => ⟨(hpl i hi).1.1, (hpl i hi).2.2.1.2.2.1⟩
    have p0 : ∀ i, i < a_N A → w_sm σ ρ (pl i) := fun i hi => by have := plo i hi 0 (by omega); rwa [Nat.add_zero] at this
    rw [← q_put_self ρ]
    refine v_placeOfRank (A := A) (pl := pl) (rl := rl) kρ pρ l3ρ (by rw [q3.2.2.2.2, q3a.2.1]; exact z3) (by rw [q3.2.2.1]; exact s3) hN8 (fun j hj => ?_) (fun p hp hlo hhi => ?_)
    · have := p0 _ (hord.1 j hj)
      rw [this.1, this.2.2.1]; exact hk6 _ (hord.1 j hj)
    show q_K ρ (q_P ρ 1 2) = 8 ∧ V_AL_add (q_P ρ 1 2) (nI p) ν ρ _
    rw [pρ]
    refine ⟨l3ρ.1, ?_⟩
    have hr5 := hr.2.2.2.2.2
    have r5' := r9 10000005 (by omega)
    refine v_addAt (f := fun j => pl (rl j)) (by omega) l3ρ (by rw [q3.2.2.1]; exact s3) (a3.sm q3.2.2.2.2 q3a (by rw [r1, hν]; omega)) ⟨by rw [r5'.1]; exact hr5.1, by rw [r5'.2.1]; exact hr5.2⟩ (by omega) hp (by omega) (by omega) (fun i hi => ?_) ⟨Or.inr (Or.inr r2.1), by omega⟩ (fun τ1 hτ1 => ?_)
    · have hi2 := hord.1 i hi
      have := b1 _ hi2
      refine ⟨?_, by show pl (rl i) < q_n ρ; omega⟩
      show q_el ρ (pl (rl i))
      unfold q_el
      rw [(p0 _ hi2).1, (hk6 _ hi2).1]; exact Or.inr (Or.inr rfl)
    obtain ⟨w1, w2, w3, w4, w5, w6, w7, w8⟩ := hτ1
    rw [q3.2.2.2.2, r1] at w3
    generalize hta : q_P τ1 3 0 = ta at *
    have tab : 42 < ta ∧ ta < q_n τ1 ∧ (ta < ν ∨ ta = ν + 8) ∧ q_n τ1 ≤ ν + 9 ∧ ν + 8 ≤ q_n τ1 ∧ (ta < ν → q_K σ ta = 1002 ∧ ta = q_P σ 3 0 ∧ ¬ q_P σ 3 0 = 10000005) := by
      rcases a3 with ⟨c1, c2⟩ | ⟨c1, c2, c3, -⟩
      · rcases w3 with ⟨d3, d4, d5⟩ | ⟨d3, d4⟩
        · exact absurd c1 d5
        · exact ⟨by omega, by omega, by omega, by omega, by omega, fun d => by omega⟩
      · rcases w3 with ⟨d4, d5, d6⟩ | ⟨d4, d5⟩
        · exact ⟨by omega, by omega, by omega, by omega, by omega, fun d => ⟨by rw [d4]; exact c3, d4, d6⟩⟩
        · exact ⟨by omega, by omega, by omega, by omega, by omega, fun d => by omega⟩
    obtain ⟨tb1, tb2, tb3, tb4, tb5, tb6⟩ := tab
    have tsm : ∀ b, (b < ν ∨ ν + 8 ≤ b) → b ≠ 3 → b ≠ ta → w_sm σ τ1 b := fun b d1 d2 d3 => (r9 b d1).tr (w8 b d2 d3)
    have k1τ := tsm 1 (by omega) (by omega) (by omega)
    have k2τ := tsm 2 (by omega) (by omega) (by omega)
    have a2ne : q_P σ 2 0 ≠ ta := fun d => by
      rcases tb3 with d1 | d1
      · have := tb6 d1
        have := b5 2 3 (by omega) (by omega) (by omega) (by omega)
        omega
      · rcases a2 with ⟨c1, -⟩ | ⟨c1, c2, -⟩ <;> omega
    have a2τ := tsm _ (arrb 2 _ a2) (by rcases a2 with ⟨c1, -⟩ | ⟨c1, c2, -⟩ <;> omega) a2ne
    show q_K τ1 1 = 1 ∧ q_K τ1 (q_P τ1 1 1) = 8 ∧ V_AL_add2 (q_P τ1 1 1) ν τ1 _
    rw [k1τ.1, k1τ.2.2.2.2, hc.p1]
    refine ⟨hc.k, by rw [k2τ.1]; exact l2.1, ?_⟩
    have plτ1 : ∀ i, i < a_N A → w_sm σ τ1 (pl i) := fun i hi => by
      have d1 := b1 i hi
      have d2 := (hpl i hi).2.1
      refine tsm _ (Or.inl (by omega)) (by omega) (fun d3 => ?_)
      have := (tb6 (by omega)).1
      rw [← d3, (hk6 i hi).1] at this
      omega
    have ντ1 : w_sm ρ τ1 ν := w8 ν (by omega) (by omega)
    have r5'' := tsm 10000005 (by omega) (by omega) (by omega)
    refine v_add2 (f := pl) (by omega) (l2.fr ⟨k2τ.1, k2τ.2.2.2.2⟩ ⟨a2τ.1, a2τ.2.1, a2τ.2.2.2.2⟩) (by rw [k2τ.2.2.1]; exact s2) (a2.sm k2τ.2.2.2.2 a2τ (by omega)) ⟨by rw [r5''.1]; exact hr5.1, by rw [r5''.2.1]; exact hr5.2⟩ (by omega) (by omega) (by omega) (fun i hi => ?_) ⟨Or.inr (Or.inr (by rw [ντ1.1]; exact r2.1)), by omega⟩ (fun τ hτ => ?_)
    · have := b1 i hi
      refine ⟨?_, by omega⟩
      unfold q_el
      rw [(plτ1 i hi).1, (hk6 i hi).1]; exact Or.inr (Or.inr rfl)
    obtain ⟨x1, x2, x3, x4, x5, x6, x7, x8⟩ := hτ
    rw [k2τ.2.2.2.2] at x3
    generalize htb : q_P τ 2 0 = tb at *
    have tbb : 42 < tb ∧ tb < q_n τ ∧ (tb < ν ∨ (ν + 8 ≤ tb ∧ tb ≤ ν + 9)) ∧ q_n τ ≤ ν + 10 ∧ q_n τ1 ≤ q_n τ ∧ tb ≠ ta ∧ (tb < ν → q_K σ tb = 1002 ∧ tb = q_P σ 2 0 ∧ ¬ q_P σ 2 0 = 10000005) := by
      rcases a2 with ⟨c1, c2⟩ | ⟨c1, c2, c3, -⟩
      · rcases x3 with ⟨d3, d4, d5⟩ | ⟨d3, d4⟩
        · exact absurd c1 d5
        · exact ⟨by omega, by omega, by omega, by omega, by omega, by omega, fun d => by omega⟩
      · rcases x3 with ⟨d4, d5, d6⟩ | ⟨d4, d5⟩
        · exact ⟨by omega, by omega, by omega, by omega, by omega, by rw [d4]; exact a2ne, fun d => ⟨by rw [d4]; exact c3, d4, d6⟩⟩
        · exact ⟨by omega, by omega, by omega, by omega, by omega, by omega, fun d => by omega⟩
    obtain ⟨ub1, ub2, ub3, ub4, ub5, ub6, ub7⟩ := tbb
    have usm : ∀ b, (b < ν ∨ ν + 8 ≤ b) → b ≠ 3 → b ≠ ta → b ≠ 2 → b ≠ tb → w_sm σ τ b := fun b d1 d2 d3 d4 d5 => (tsm b d1 d2 d3).tr (x8 b d4 d5)
    have lowsm : ∀ b, b ≤ 42 → b ≠ 3 → b ≠ 2 → w_sm σ τ b := fun b d1 d2 d3 => usm b (Or.inl (by omega)) d2 (by omega) d3 (by omega)
    have ksm : ∀ b, 42 < b → b < ν → q_K σ b ≠ 1002 → w_sm σ τ b := fun b d0 d1 d2 => usm b (Or.inl d1) (by omega) (fun d3 => by rw [d3] at d1 d2; exact d2 (tb6 d1).1) (by omega) (fun d3 => by rw [d3] at d1 d2; exact d2 (ub7 d1).1)
    have newsm : ∀ k, k < 8 → w_sm ρ τ (ν + k) := fun k hk => (w8 (ν + k) (by omega) (by omega)).tr (x8 (ν + k) (by omega) (by omega))
    have plsm : ∀ i, i < a_N A → ∀ k, k < 8 → w_sm σ τ (pl i + k) := fun i hi k hk => by
      have d1 := b1 i hi
      have d2 := (hpl i hi).2.1
      refine ksm _ (by omega) (by omega) ?_
      obtain ⟨c1, -, -, -, c5, -, c7, -, c9, -, ⟨d1, -, d3, -⟩, ⟨d5, -, d7, -⟩, -⟩ := (hpl i hi).1
      rcases (show k = 0 ∨ k = 1 ∨ k = 2 ∨ k = 3 ∨ k = 4 ∨ k = 5 ∨ k = 6 ∨ k = 7 by omega) with e | e | e | e | e | e | e | e <;> subst e
      · rw [Nat.add_zero, c1]; omega
      · rw [c5]; omega
      · rw [c7]; omega
      · rw [c9]; omega
      · rw [d1]; omega
      · rw [d3]; omega
      · rw [d5]; omega
      · rw [d7]; omega
    have arr45 : ∀ a m, (a = 4 ∨ a = 5) → c_A σ a m → w_sm σ τ (q_P σ a 0) := fun a m ha hA => by
      refine usm _ (arrb a m hA) (by rcases hA with ⟨c1, -⟩ | ⟨c1, c2, -⟩ <;> omega) (fun d => ?_) (by rcases hA with ⟨c1, -⟩ | ⟨c1, c2, -⟩ <;> omega) (fun d => ?_)
      · rcases tb3 with d1 | d1
        · have := tb6 d1
          have := b5 3 a (by omega) (by omega) (by omega) (by omega)
          omega
        · rcases hA with ⟨c1, -⟩ | ⟨c1, c2, -⟩ <;> omega
      · rcases ub3 with d1 | d1
        · have := ub7 d1
          have := b5 2 a (by omega) (by omega) (by omega) (by omega)
          omega
        · rcases hA with ⟨c1, -⟩ | ⟨c1, c2, -⟩ <;> omega
    show q_K τ 1 = 1 ∧ q_K τ (q_P τ 1 1) = 8 ∧ V_AL_size (q_P τ 1 1) τ _
    have t1s := lowsm 1 (by omega) (by omega) (by omega)
    rw [t1s.1, t1s.2.2.2.2, hc.p1]
    refine ⟨hc.k, x1, x1, ?_⟩
    rw [x2]
    simp only [q_ci]
    have eout : nI (a_N A + 1) - 1 = nI (a_N A) := by
      have := pk_sub (a := a_N A + 1) (b := 1) (by omega)
      rwa [Nat.add_sub_cancel] at this
    rw [eout]
    have s3τ : w_sm τ1 τ 3 := x8 3 (by omega) (by omega)
    have taτ : w_sm τ1 τ ta := x8 ta (by omega) (Ne.symm ub6)
    have hwτ : w_D (a_pln A n l r) τ (q_I τ) (va_up pl (a_N A) ν) (z_ins rl p (a_N A)) f g := by
      refine ⟨hc.sm (fun b q => lowsm b (by omega) (by omega) (by omega)), ⟨⟨⟨x1, fun _ => by rw [htb]; exact x4, by rw [htb]; exact x6, fun i hi => ?_⟩, by rw [htb]; omega, x2⟩, ⟨⟨?_, fun _ => ?_, ?_, fun i hi => ?_⟩, ?_, ?_⟩, ?_, fun i hi => ?_, fun i j hi hj hij => ?_⟩, ?_, ?_, ⟨fun d hd => ?_, fun d hd => ?_⟩, ?_, ?_, ?_⟩
      · rw [htb]; exact x7 i hi
      · rw [s3τ.1]; exact w1
      · rw [s3τ.2.2.2.2, hta, taτ.1]; exact w4
      · rw [s3τ.2.2.2.2, hta, taτ.2.1]; exact w6
      · rw [s3τ.2.2.2.2, hta, taτ.2.2.2.2, w7 i hi]
        show z_ins (fun j => pl (rl j)) p ν i = va_up pl (a_N A) ν (z_ins rl p (a_N A) i)
        unfold z_ins
        by_cases c7 : i < p
        · rw [if_pos c7, if_pos c7, up_n (by have := hord.1 i (by omega); omega)]
        · rw [if_neg c7, if_neg c7]
          by_cases c8 : i = p
          · rw [if_pos c8, if_pos c8, up_s]
          · have hi9 : i < a_N A + 1 := hi
            rw [if_neg c8, if_neg c8, up_n (by have := hord.1 (i - 1) (by omega); omega)]
      · rw [s3τ.2.2.2.2, hta, taτ.2.1]; omega
      · rw [s3τ.2.2.1]; exact w2
      · refine hord.ins rfl (fun q hq => up_n hq) hp (fun i hi => ?_) (fun hpN => ?_)
        · rw [show a_rk (a_pln A n l r) (a_N A) = r from up_s _ _ _]; exact hlo i hi
        · rw [show a_rk (a_pln A n l r) (a_N A) = r from up_s _ _ _]; exact hhi hpN
      · by_cases c7 : i = a_N A
        · subst c7
          rw [up_s]
          have c10 := newsm 0 (by omega)
          rw [Nat.add_zero] at c10
          refine ⟨r2.sm newsm, by omega, ?_, ?_⟩
          · refine ⟨?_, ?_, ?_, ?_, ?_, ?_, ?_, fun y hy => ?_, fun k hk9 => ?_⟩
            · rw [c10.2.2.1, r4]; exact (up_s _ _ _).symm
            · rw [c10.2.2.1, r5]; exact (up_s _ _ _).symm
            · rw [c10.2.2.1, r6]; exact (up_s _ _ _).symm
            · rw [c10.2.2.1, r7 6 (by omega), show a_oc (a_pln A n l r) (a_N A) = 0 from up_s _ _ _]; rfl
            · rw [c10.2.2.1, r7 7 (by omega), show a_rc (a_pln A n l r) (a_N A) = 0 from up_s _ _ _]; rfl
            · rw [c10.2.2.1, r7 8 (by omega), show a_hs (a_pln A n l r) (a_N A) = 0 from up_s _ _ _]; rfl
            · rw [c10.2.2.1, r7 9 (by omega), show a_hw (a_pln A n l r) (a_N A) = 0 from up_s _ _ _]; rfl
            · rw [(newsm 1 (by omega)).2.2.1, r8 1 (by omega) (by omega)]
              exact (congrFun (up_s A.2.2.2.2.1 (a_N A) (fun _ => (0 : Int32))) y).symm
            · rw [show a_oc (a_pln A n l r) (a_N A) = 0 from up_s _ _ _] at hk9
              omega
          · rw [c10.2.2.2.2, r3]
            refine ⟨fun y hy => ?_, ?_, ?_, ?_⟩
            · rw [show ν + 4 + 1 = ν + 5 by omega, (newsm 5 (by omega)).2.2.1, r8 5 (by omega) (by omega)]
              exact (congrFun (up_s A.2.2.2.2.2 (a_N A) (fun _ => (0 : Int32))) y).symm
            · rw [(newsm 4 (by omega)).2.2.1, r8 4 (by omega) (by omega), show a_pc (a_pln A n l r) (a_N A) = 0 from up_s _ _ _]; rfl
            · rw [(newsm 4 (by omega)).2.2.1, r8 4 (by omega) (by omega), show a_is (a_pln A n l r) (a_N A) = 0 from up_s _ _ _]; rfl
            · rw [(newsm 4 (by omega)).2.2.1, r8 4 (by omega) (by omega)]; exact (up_s _ _ _).symm
        · have hi2 : i < a_N A := by
            have : i < a_N A + 1 := hi
            omega
          rw [up_n c7]
          obtain ⟨d1, d2, d3, d4⟩ := hpl i hi2
          have hl := d1.lat.1
          have e0 := plsm i hi2 0 (by omega)
          rw [Nat.add_zero] at e0
          refine ⟨d1.sm (plsm i hi2), d2, ?_, ?_⟩
          · have := (a_pln_sp A n l r i c7).pd d3
            unfold c_pd at *
            rw [e0.2.2.1, (plsm i hi2 1 (by omega)).2.2.1, (plsm i hi2 2 (by omega)).2.2.1, (plsm i hi2 3 (by omega)).2.2.1]; exact this
          · have := (a_pln_sp A n l r i c7).cd d4
            unfold c_cd at *
            have g1 : w_sm σ τ (q_P σ (pl i) 10) := by
              rcases hl with c8 | c8
              · rw [c8]; exact plsm i hi2 4 (by omega)
              · rw [c8]; exact plsm i hi2 6 (by omega)
            have g2 : w_sm σ τ (q_P σ (pl i) 10 + 1) := by
              rcases hl with c8 | c8
              · rw [c8]; exact plsm i hi2 5 (by omega)
              · rw [c8]; exact plsm i hi2 7 (by omega)
            rw [e0.2.2.2.2, g1.2.2.1, g2.2.2.1]; exact this
      · have hi1 : i < a_N A + 1 := hi
        have hj1 : j < a_N A + 1 := hj
        by_cases c7 : i = a_N A
        · subst c7
          rw [up_s, up_n (Ne.symm hij)]
          exact Or.inr (b1 j (by omega))
        · by_cases c8 : j = a_N A
          · subst c8
            rw [up_s, up_n c7]
            exact Or.inl (b1 i (by omega))
          · rw [up_n c7, up_n c8]; exact hdis i j (by omega) (by omega) hij
      · have : c_D A τ (q_I τ) f := hD.sm (lowsm 4 (by omega) (by omega) (by omega)) (arr45 4 _ (by omega) a4) (fun i hi => ksm _ (by have := (hX.1 i hi).1; omega) (b2 i hi) (by rw [(hD.2.2.2 i hi).1]; omega))
        exact this
      · have : c_E A τ (q_I τ) g := hE.sm (lowsm 5 (by omega) (by omega) (by omega)) (arr45 5 _ (by omega) a5) (fun i hi => ksm _ (by have := (hX.2 i hi).1; omega) (b3 i hi) (by rw [(hE.2.2.2 i hi).1]; omega))
        exact this
      · refine ⟨(hX.1 d hd).1, fun i hi => ?_⟩
        have hi1 : i < a_N A + 1 := hi
        by_cases c7 : i = a_N A
        · subst c7
          rw [up_s]; exact Or.inl (b2 d hd)
        · rw [up_n c7]; exact (hX.1 d hd).2 i (by omega)
      · refine ⟨(hX.2 d hd).1, fun i hi => ?_⟩
        have hi1 : i < a_N A + 1 := hi
        by_cases c7 : i = a_N A
        · subst c7
          rw [up_s]; exact Or.inl (b3 d hd)
        · rw [up_n c7]; exact (hX.2 d hd).2 i (by omega)
      · have : c_U A (q_I τ) := hU.sm (lowsm 1 (by omega) (by omega) (by omega)) (lowsm 6 (by omega) (by omega) (by omega))
        exact this
      · rw [(lowsm 7 (by omega) (by omega) (by omega)).2.2.1, (lowsm 10 (by omega) (by omega) (by omega)).2.2.1]; exact hS
      · refine ⟨⟨by omega, by omega⟩, fun i hi => ?_, fun d hd => by have := b2 d hd; omega, fun d hd => by have := b3 d hd; omega, ⟨Or.inr ⟨by rw [htb]; omega, by rw [htb]; omega, by rw [htb]; exact x4, by rw [htb]; exact x5⟩, Or.inr ⟨by rw [s3τ.2.2.2.2, hta]; omega, by rw [s3τ.2.2.2.2, hta]; omega, by rw [s3τ.2.2.2.2, hta, taτ.1]; exact w4, by rw [s3τ.2.2.2.2, hta, taτ.2.1]; exact w5⟩, a4.sm (lowsm 4 (by omega) (by omega) (by omega)).2.2.2.2 (arr45 4 _ (by omega) a4) (by omega), a5.sm (lowsm 5 (by omega) (by omega) (by omega)).2.2.2.2 (arr45 5 _ (by omega) a5) (by omega)⟩, fun a b d1 d2 d3 d4 => ?_⟩
        · have hi1 : i < a_N A + 1 := hi
          by_cases c7 : i = a_N A
          · subst c7; rw [up_s]; omega
          · rw [up_n c7]; have := b1 i (by omega); omega
        · have e2 : q_P τ 2 0 = tb := htb
          have e3 : q_P τ 3 0 = ta := by rw [s3τ.2.2.2.2, hta]
          have e4 : q_P τ 4 0 = q_P σ 4 0 := by rw [(lowsm 4 (by omega) (by omega) (by omega)).2.2.2.2]
          have e5 : q_P τ 5 0 = q_P σ 5 0 := by rw [(lowsm 5 (by omega) (by omega) (by omega)).2.2.2.2]
          have ne : ∀ c m, (c = 4 ∨ c = 5) → c_A σ c m → q_P σ c 0 ≠ ta ∧ q_P σ c 0 ≠ tb := fun c m hc9 hA => by
            constructor
            · intro d
              rcases tb3 with d1 | d1
              · have := tb6 d1
                have := b5 3 c (by omega) (by omega) (by omega) (by omega)
                omega
              · rcases hA with ⟨c1, -⟩ | ⟨c1, c2, -⟩ <;> omega
            · intro d
              rcases ub3 with d1 | d1
              · have := ub7 d1
                have := b5 2 c (by omega) (by omega) (by omega) (by omega)
                omega
              · rcases hA with ⟨c1, -⟩ | ⟨c1, c2, -⟩ <;> omega
          have ne4 := ne 4 _ (Or.inl rfl) a4
          have ne5 := ne 5 _ (Or.inr rfl) a5
          have b45 := b5 4 5 (by omega) (by omega) (by omega)
          rcases (show (a = 2 ∧ b = 3) ∨ (a = 2 ∧ b = 4) ∨ (a = 2 ∧ b = 5) ∨ (a = 3 ∧ b = 4) ∨ (a = 3 ∧ b = 5) ∨ (a = 4 ∧ b = 5) by omega) with ⟨u, v⟩ | ⟨u, v⟩ | ⟨u, v⟩ | ⟨u, v⟩ | ⟨u, v⟩ | ⟨u, v⟩ <;> subst u v
          · rw [e2, e3] at d4; exact absurd d4 ub6
          · rw [e2, e4] at d4; exact absurd d4.symm ne4.2
          · rw [e2, e5] at d4; exact absurd d4.symm ne5.2
          · rw [e3, e4] at d4; exact absurd d4.symm ne4.1
          · rw [e3, e5] at d4; exact absurd d4.symm ne5.1
          · rw [e4, e5] at d4; rw [e4]; exact b45 d4
    have hk42 := lowsm 42 (by omega) (by omega) (by omega)
    refine v_out (σ := τ) (ι := q_I τ) (κ := q_L τ) (R := fun τ => R (.inl (some (.inl 0))) τ) (by rw [hk42.1]; exact hk) (by rw [hk42.2.1]; exact hz) ?_
    refine h4 c0 ⟨cn, by omega, by omega⟩ hlt _ hwτ.c ?_ (by rw [q_put_L, up_o])
    refine ⟨fun a ha => ?_, by rw [q_put_K, hk42.1], by rw [q_put_Z, hk42.2.1], by rw [q_put_n]; omega⟩
    have q1 := usm a (by omega) (by omega) (by omega) (by omega) (by omega)
    exact ⟨q1.1, q1.2.1, q1.2.2.1, by rw [q_put_L, up_n (by omega)]; exact q1.2.2.2.1, q1.2.2.2.2⟩
  · refine v_out (R := fun τ => R (.inl (some (.inl 0))) τ) hk hz ?_
    refine h3 c0 ⟨cn, by omega, by omega⟩ ?_ _ hw0.c (w_fo_put (fun _ _ => rfl) (fun t ht => by rw [up_n ht])) (by rw [q_put_L, up_o])
    rw [show ((8 : Int32)) = nI 8 from rfl, nI_ltI (by omega) (by omega)] at c6
    omega
