/-! THE WHOLE -/
def a_0 (ly : Nat) : a_A := (fun f i => if f = 0 then (if i = 0 then ly else 0) else if f = 1 then (if i < 3 then 1 else 0) else 0, fun _ _ => 0, fun _ _ => 0, fun _ _ => 0, fun _ _ => 0, fun _ _ => 0)
theorem a_0_ok {ly : Nat} (h1 : 1 ≤ ly) (h4 : ly ≤ 4) : a_ok (a_0 ly) := by
  refine ⟨⟨Nat.zero_le _, fun q hq => absurd hq (Nat.not_lt_zero q)⟩, ⟨Nat.zero_le _, fun q hq => absurd hq (Nat.not_lt_zero q)⟩, ⟨Nat.zero_le _, fun q hq => absurd hq (Nat.not_lt_zero q)⟩, ?_, h1, h4⟩
  show (1 ≤ 5 ∧ 1 ≤ 4 ∧ 1 ≤ 1 ∧ 1 ≤ 5 ∧ 0 ≤ 1000)
  omega
theorem a_0_np {ly : Nat} : a_np (a_0 ly) := fun i hi => absurd hi (Nat.not_lt_zero i)
noncomputable def s_v (L : Nat) (xs : Nat → Int32) : Int32 := if L = 0 then 0 else xs 0
theorem s_cell {L : Nat} {xs : Nat → Int32} {σ : q_S} {R : q_O → q_S → Prop} (hR : w_R L xs σ) (hL : L ≤ 5633) (h : R (.inl (some (.inl (s_v L xs)))) σ) : V_LW_cell 10000000 0 σ R := by
  intro P13 p13
  obtain ⟨r1, r2, r3⟩ := hR.1
  refine ⟨by rw [r1]; omega, ?_⟩
  rw [r2, r3]
  refine br_c (fun c => p13 _ _ ?_) (fun c => ⟨Or.inr r1, ?_, p13 _ _ ?_⟩)
  · have : L = 0 := by
      rcases Nat.eq_zero_or_pos L with q | q
      · exact q
      · exact absurd c (nI_ge (a := 0) (b := L) q (by omega))
    unfold s_v at h
    rwa [if_pos this] at h
  · have : ¬ L = 0 := fun q => by
      rw [q] at c
      exact c (nI_le (a := 0) (b := 0) (Nat.le_refl 0) (by omega))
    exact vp_in_nI (n := 0) (by omega) (by omega)
  · have : ¬ L = 0 := fun q => by
      rw [q] at c
      exact c (nI_le (a := 0) (b := 0) (Nat.le_refl 0) (by omega))
    unfold s_v at h
    rwa [if_neg this] at h
theorem s_ly {x y : Int32} (h : (1 ≤ x ∧ x ≤ 4 ∧ y = x) ∨ (1 ≤ x ∧ ¬ x ≤ 4 ∧ y = 4) ∨ (¬ 1 ≤ x ∧ y = 1)) : ∃ ly : Nat, 1 ≤ ly ∧ ly ≤ 4 ∧ f_MT_max 1 (f_MT_min 4 x) = nI ly ∧ y = nI ly := by
  have e1 : (1 : Int32).toInt = 1 := rfl
  have e4 : (4 : Int32).toInt = 4 := rfl
  have e0 : (0 : Int32).toInt = 0 := rfl
  rcases h with ⟨h1, h2, rfl⟩ | ⟨h1, h2, rfl⟩ | ⟨h1, rfl⟩
  · have c : ¬ y < 0 := fun q => by
      rw [iI_lt, e0] at q
      rw [iI_le, e1] at h1
      omega
    obtain ⟨n, hn, rfl⟩ := nI_of c
    have h1 : 1 ≤ n := by
      rw [iI_le, e1, nI_toInt hn] at h1
      omega
    have h2 : n ≤ 4 := by
      rw [iI_le, e4, nI_toInt hn] at h2
      omega
    refine ⟨n, h1, h2, ?_, rfl⟩
    have : n = 1 ∨ n = 2 ∨ n = 3 ∨ n = 4 := by omega
    rcases this with q | q | q | q <;> subst q <;> decide
  · refine ⟨4, by omega, by omega, ?_, rfl⟩
    rw [iI_le, e4] at h2
    have hm : f_MT_min 4 x = 4 := by
      unfold f_MT_min
      exact if_neg (fun q => by rw [iI_lt, e4] at q; omega)
    rw [hm]
    decide
  · refine ⟨1, by omega, by omega, ?_, rfl⟩
    rw [iI_le, e1] at h1
    have hm : f_MT_min 4 x = x := by
      unfold f_MT_min
      exact if_pos (by rw [iI_lt, e4]; omega)
    rw [hm]
    unfold f_MT_max
    exact if_neg (fun q => by rw [iI_lt, e1] at q; omega)
theorem s_all {x y : Int32} {L ly : Nat} {xs : Nat → Int32} {τ τ0 : q_S} {ι : Nat → Nat → Int32} (h1 : 1 ≤ ly) (h4 : ly ≤ 4) (ex : x = nI ly) (ey : y = nI ly) (hn : q_n τ = 14) (hC : s_C x L xs τ) (h0 : s_In (q_new τ 7 0) τ0 27) (i14 : ι 14 = va_up (q_I (q_new τ 7 0) 14) 1 y) (i30 : ι 30 0 = 1 ∧ ι 30 1 = 1 ∧ ι 30 2 = 1 ∧ ι 30 3 = 0) (io : ∀ a, a ≠ 14 → a ≠ 30 → ι a = q_I τ0 a) : w_I (a_0 ly) L xs (q_new (q_put τ0 ι (q_L τ0)) 1001 1) := by
  have n0 : q_n (q_put τ0 ι (q_L τ0)) = 42 := h0.1
  have eK : ∀ a, a ≠ 42 → q_K (q_new (q_put τ0 ι (q_L τ0)) 1001 1) a = q_K τ0 a := fun a ha => by rw [q_K_new, if_neg (by omega)]; rfl
  have eZ : ∀ a, a ≠ 42 → q_Z (q_new (q_put τ0 ι (q_L τ0)) 1001 1) a = q_Z τ0 a := fun a ha => by rw [q_Z_new, if_neg (by omega)]; rfl
  have eP : ∀ a, a ≠ 42 → q_P (q_new (q_put τ0 ι (q_L τ0)) 1001 1) a = q_P τ0 a := fun a ha => by rw [q_P_new, if_neg (by omega)]; rfl
  have eI : ∀ a, a ≠ 42 → q_I (q_new (q_put τ0 ι (q_L τ0)) 1001 1) a = ι a := fun a ha => by rw [q_I_new, if_neg (by omega)]; rfl
  have eL : ∀ a, a ≠ 42 → q_L (q_new (q_put τ0 ι (q_L τ0)) 1001 1) a = q_L τ0 a := fun a ha => by rw [q_L_new, if_neg (by omega)]; rfl
  have hs : ∀ a, (a ≤ 13 ∨ 10000000 ≤ a) → w_sm τ (q_new (q_put τ0 ι (q_L τ0)) 1001 1) a := fun a ha => by
    refine ((w_sm_new (k := 7) (z := 0) (show a ≠ q_n τ by omega)).tr (h0.2.2.2.1 a (by omega))).tr ⟨eK a (by omega), eZ a (by omega), ?_, eL a (by omega), eP a (by omega)⟩
    rw [eI a (by omega), io a (by omega) (by omega)]
  have n1 : q_n (q_new (q_put τ0 ι (q_L τ0)) 1001 1) = 43 := by rw [q_n_new, n0]
  have k42 : q_K (q_new (q_put τ0 ι (q_L τ0)) 1001 1) 42 = 1001 := by rw [q_K_new, if_pos n0.symm]
  have z42 : q_Z (q_new (q_put τ0 ι (q_L τ0)) 1001 1) 42 = 1 := by rw [q_Z_new, if_pos n0.symm]
  have kk : ∀ i, i < 27 → q_K (q_new (q_put τ0 ι (q_L τ0)) 1001 1) (15 + i) = m_k i := fun i hi => by rw [eK _ (by omega)]; exact (h0.2.2.2.2 i hi).1
  have zz : ∀ i, i < 27 → q_Z (q_new (q_put τ0 ι (q_L τ0)) 1001 1) (15 + i) = m_z i := fun i hi => by rw [eZ _ (by omega)]; exact (h0.2.2.2.2 i hi).2.1
  have pp : ∀ i, i < 27 → q_P (q_new (q_put τ0 ι (q_L τ0)) 1001 1) 14 (m_f i) = 15 + i := fun i hi => by rw [eP _ (by omega)]; exact (h0.2.2.2.2 i hi).2.2.2.2
  have ii : ∀ i, i < 27 → i ≠ 15 → ∀ k, q_I (q_new (q_put τ0 ι (q_L τ0)) 1001 1) (15 + i) k = 0 := fun i hi h15 k => by rw [eI _ (by omega), io _ (by omega) (by omega)]; exact (h0.2.2.2.2 i hi).2.2.1 k
  have ll : ∀ i, i < 27 → ∀ k, q_L (q_new (q_put τ0 ι (q_L τ0)) 1001 1) (15 + i) k = 0 := fun i hi k => by rw [eL _ (by omega)]; exact (h0.2.2.2.2 i hi).2.2.2.1 k
  have k14 : q_K (q_new (q_put τ0 ι (q_L τ0)) 1001 1) 14 = 7 := by rw [eK _ (by omega)]; exact h0.2.1
  have j14 : q_I (q_new (q_put τ0 ι (q_L τ0)) 1001 1) 14 = va_up (fun _ => 0) 1 y := by
    rw [eI _ (by omega), i14, q_I_new, if_pos hn.symm]
  have j30 : q_I (q_new (q_put τ0 ι (q_L τ0)) 1001 1) 30 = ι 30 := eI _ (by omega)
  have hC := hC.fr hs
  generalize q_new (q_put τ0 ι (q_L τ0)) 1001 1 = υ at *
  obtain ⟨c1, c2, c3, c4, c5⟩ := hC
  have z5 : q_Z υ 10000005 = 0 := c5.2.2.2.2.2.2
  refine ⟨a_0_ok h1 h4, a_0_np, ?_, ?_, ?_, c5, k42, z42⟩
  · have d2 := c2 2 (by omega) (by omega)
    have d3 := c2 3 (by omega) (by omega)
    have d4 := c2 4 (by omega) (by omega)
    have d5 := c2 5 (by omega) (by omega)
    refine ⟨fun _ => 0, fun _ => 0, fun _ => 0, fun _ => 0, c1, ⟨⟨⟨d2.1, fun q => absurd q (Nat.lt_irrefl 0), Nat.zero_le _, fun i hi => absurd hi (Nat.not_lt_zero i)⟩, by rw [d2.2.1, z5]; omega, d2.2.2⟩, ⟨⟨d3.1, fun q => absurd q (Nat.lt_irrefl 0), Nat.zero_le _, fun i hi => absurd hi (Nat.not_lt_zero i)⟩, by rw [d3.2.1, z5]; omega, d3.2.2⟩, ⟨fun j hj => absurd hj (Nat.not_lt_zero j), fun i j _ hj => absurd hj (Nat.not_lt_zero j), fun p hp => absurd hp (Nat.not_lt_zero p)⟩, fun i hi => absurd hi (Nat.not_lt_zero i), fun i j hi => absurd hi (Nat.not_lt_zero i)⟩, ⟨⟨d4.1, fun q => absurd q (Nat.lt_irrefl 0), Nat.zero_le _, fun i hi => absurd hi (Nat.not_lt_zero i)⟩, by rw [d4.2.1, z5]; omega, d4.2.2, fun i hi => absurd hi (Nat.not_lt_zero i)⟩, ⟨⟨d5.1, fun q => absurd q (Nat.lt_irrefl 0), Nat.zero_le _, fun i hi => absurd hi (Nat.not_lt_zero i)⟩, by rw [d5.2.1, z5]; omega, d5.2.2, fun i hi => absurd hi (Nat.not_lt_zero i)⟩, ⟨fun i hi => absurd hi (Nat.not_lt_zero i), fun i hi => absurd hi (Nat.not_lt_zero i)⟩, ⟨c3.1.trans ex, fun j hj => ?_⟩, ⟨c4.1, by rw [c4.2]; decide⟩, ⟨⟨by omega, by omega⟩, fun i hi => absurd hi (Nat.not_lt_zero i), fun i hi => absurd hi (Nat.not_lt_zero i), fun i hi => absurd hi (Nat.not_lt_zero i), ⟨Or.inl ⟨d2.2.1, rfl⟩, Or.inl ⟨d3.2.1, rfl⟩, Or.inl ⟨d4.2.1, rfl⟩, Or.inl ⟨d5.2.1, rfl⟩⟩, fun a b h1 h2 h3 _ => (c2 a h1 (by omega)).2.1⟩⟩
    have : j = 0 ∨ j = 1 ∨ j = 2 ∨ j = 3 := by omega
    rcases this with q | q | q | q <;> subst q
    · exact c3.2.1
    · exact c3.2.2.1
    · exact c3.2.2.2.1
    · exact c3.2.2.2.2
  · exact ⟨k14, ⟨pp 0 (by omega), kk 0 (by omega), zz 0 (by omega)⟩, ⟨pp 1 (by omega), kk 1 (by omega), zz 1 (by omega)⟩, ⟨pp 2 (by omega), kk 2 (by omega), zz 2 (by omega)⟩, ⟨pp 3 (by omega), kk 3 (by omega), zz 3 (by omega)⟩, ⟨pp 4 (by omega), kk 4 (by omega), zz 4 (by omega)⟩, ⟨pp 5 (by omega), kk 5 (by omega), zz 5 (by omega)⟩, ⟨pp 6 (by omega), kk 6 (by omega), zz 6 (by omega)⟩, ⟨pp 7 (by omega), kk 7 (by omega), zz 7 (by omega)⟩, ⟨pp 8 (by omega), kk 8 (by omega), zz 8 (by omega)⟩, ⟨pp 9 (by omega), kk 9 (by omega), zz 9 (by omega)⟩, ⟨pp 10 (by omega), kk 10 (by omega), zz 10 (by omega)⟩, ⟨pp 11 (by omega), kk 11 (by omega), zz 11 (by omega)⟩, ⟨pp 12 (by omega), kk 12 (by omega), zz 12 (by omega)⟩, ⟨pp 13 (by omega), kk 13 (by omega), zz 13 (by omega)⟩, ⟨pp 14 (by omega), kk 14 (by omega), zz 14 (by omega)⟩, ⟨pp 15 (by omega), kk 15 (by omega), zz 15 (by omega)⟩, ⟨pp 16 (by omega), kk 16 (by omega), zz 16 (by omega)⟩, ⟨pp 17 (by omega), kk 17 (by omega), zz 17 (by omega)⟩, ⟨pp 18 (by omega), kk 18 (by omega), zz 18 (by omega)⟩, ⟨pp 19 (by omega), kk 19 (by omega), zz 19 (by omega)⟩, ⟨pp 20 (by omega), kk 20 (by omega), zz 20 (by omega)⟩, ⟨pp 21 (by omega), kk 21 (by omega), zz 21 (by omega)⟩, ⟨pp 22 (by omega), kk 22 (by omega), zz 22 (by omega)⟩, ⟨pp 23 (by omega), kk 23 (by omega), zz 23 (by omega)⟩, ⟨pp 24 (by omega), kk 24 (by omega), zz 24 (by omega)⟩, ⟨pp 25 (by omega), kk 25 (by omega), zz 25 (by omega)⟩, pp 26 (by omega), kk 26 (by omega), zz 26 (by omega)⟩
  · refine ⟨⟨⟨?_, fun q hq => absurd hq (Nat.not_lt_zero q)⟩, ⟨?_, fun q hq => absurd hq (Nat.not_lt_zero q)⟩, ⟨?_, fun q hq => absurd hq (Nat.not_lt_zero q)⟩, fun j hj => ?_, ?_⟩, fun q hq => absurd hq (Nat.not_lt_zero q), fun q _ h8 => ⟨ii 3 (by omega) (by omega) _, fun j _ => ii 4 (by omega) (by omega) _, ii 7 (by omega) (by omega) _, ii 8 (by omega) (by omega) _, ii 18 (by omega) (by omega) _, ii 19 (by omega) (by omega) _, fun y _ => ll 16 (by omega) _⟩⟩
    · rw [j14, up_n (by omega)]; rfl
    · rw [j14, up_n (by omega)]; rfl
    · rw [j14, up_n (by omega)]; rfl
    · rw [j30]
      have : j = 0 ∨ j = 1 ∨ j = 2 ∨ j = 3 := by omega
      rcases this with q | q | q | q <;> subst q
      · exact i30.1
      · exact i30.2.1
      · exact i30.2.2.1
      · exact i30.2.2.2
    · rw [j14, up_s]; exact ey
theorem lw_done : lw_asks := by
  intro L xs hL
  intro P33 P128 P205 P208 P350 P356 P359 P413 P419 P422 P625 P628 P726 P732 P735 P986 P989 P1002 P1067 P1070 P1170 P1173 P1315 P1321 P1324 P1377 P1380 P1457 P1460 P1557 P1560 P1702 P1708 P1711 P1906 P1960 P1966 P1969 p33 p128 p205 p208 p350 p356 p359 p413 p419 p422 p625 p628 p726 p732 p735 p986 p989 p1002 p1067 p1070 p1170 p1173 p1315 p1321 p1324 p1377 p1380 p1457 p1460 p1557 p1560 p1702 p1708 p1711 p1906 p1960 p1966 p1969
  have hloop := fun A σ => l_loop (R := fun o _ => o = .inl (some (.inl 1))) (fun _ => rfl) p33 p128 p205 p208 p350 p356 p359 p413 p419 p422 p625 p628 p726 p732 p735 p986 p989 p1002 p1067 p1070 p1170 p1173 p1315 p1321 p1324 p1377 p1380 p1457 p1460 p1557 p1560 p1702 p1708 p1711 p1906 p1960 p1966 p1969 (xs := xs) hL 599 0 A σ rfl
  have hR0 : w_R L xs (q_new (q_s0 L xs) 1 0) := ⟨⟨rfl, rfl, rfl⟩, ⟨rfl, rfl, rfl⟩, ⟨rfl, rfl, rfl⟩, ⟨rfl, rfl, rfl⟩, ⟨rfl, rfl, rfl⟩, rfl, rfl⟩
  refine ⟨show (1 : Nat) < 10000000 by omega, fun v2 e2 σ3 e3 => ?_⟩
  obtain rfl : v2 = 1 := e2
  subst e3
  refine s_cell hR0 hL ⟨by omega, s_PF fun τ hn hC => ⟨by omega, fun v14 e14 σ15 e15 => ?_⟩⟩
  obtain rfl : v14 = 14 := e14.trans hn
  subst e15
  have hR1 : w_R L xs (q_new τ 7 0) := hC.2.2.2.2.fr fun a ha => by
    have s := w_sm_new (σ := τ) (k := 7) (z := 0) (show a ≠ q_n τ by omega)
    exact ⟨s.1, s.2.1, s.2.2.1⟩
  refine s_cell hR1 hL ⟨by omega, s_PM (by rw [q_n_new, hn]) (by rw [q_K_new, if_pos hn.symm]) (fun τ0 y ι h0 hy i14 i30 io => ?_)⟩
  have n0 : q_n (q_put τ0 ι (q_L τ0)) = 42 := h0.1
  refine ⟨by omega, fun v26 e26 σ27 e27 => ?_⟩
  obtain rfl : v26 = 42 := e26.trans n0
  subst e27
  obtain ⟨ly, g1, g4, g5, g6⟩ := s_ly hy
  exact hloop _ _ (s_all g1 g4 g5 g6 hn hC h0 i14 i30 io) (by rw [q_n_new, n0]; omega)
