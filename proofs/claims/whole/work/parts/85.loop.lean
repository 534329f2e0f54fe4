/-! THE LAW'S LOOP -/
theorem l_15 (w : Int32) : ∃ n : Nat, n < 16 ∧ w &&& 15 = nI n := by
  refine ⟨(w &&& 15).toBitVec.toNat, ?_, ?_⟩
  · rw [Int32.toBitVec_and, BitVec.toNat_and]
    exact Nat.lt_of_le_of_lt Nat.and_le_right (by decide)
  · apply Int32.toBitVec_inj.1
    show (w &&& 15).toBitVec = BitVec.ofNat 32 (w &&& 15).toBitVec.toNat
    rw [BitVec.ofNat_toNat, BitVec.setWidth_eq]
theorem l_end {L i : Nat} (hL : L ≤ 5633) (hi : i ≤ 10000) : (nI L - 11 < nI i) ↔ L < i + 11 := by
  rw [iI_nI, iI_nI, show (11 : Int32) = iI 11 from rfl, iI_sub, iI_lt, iI_t (by omega) (by omega), iI_t (by omega) (by omega)]
  omega
theorem l_loop {R : q_O → q_S → Prop} {P33 P128 P205 P208 P356 P359 P419 P422 P625 P628 P732 P735 P986 P989 P1002 P1067 P1070 P1170 P1173 P1321 P1324 P1377 P1380 P1457 P1460 P1557 P1560 P1708 P1711 P1906 P1966 P1969 : Nat → Nat → Nat → Nat → Nat → Int32 → q_S → Prop} {P350 P413 P726 P1315 P1702 P1960 : Nat → Nat → Nat → Nat → Nat → Int32 → Int64 → Int64 → q_S → Prop} (hR1 : ∀ σ, R (.inl (some (.inl 1))) σ) (p33 : V_LW_law_33 R P33 P128 P208 P359 P422 P628 P735 P989 P1002 P1070 P1173 P1324 P1380 P1460 P1560 P1711 P1906 P1969) (p128 : V_LW_law_128 R P128 P205) (p205 : V_LW_law_205 R P205 P1969) (p208 : V_LW_law_208 R P208 P350 P356) (p350 : V_LW_law_350 R P350 P356) (p356 : V_LW_law_356 R P356 P1969) (p359 : V_LW_law_359 R P359 P413 P419) (p413 : V_LW_law_413 R P413 P419) (p419 : V_LW_law_419 R P419 P1969) (p422 : V_LW_law_422 R P422 P625) (p625 : V_LW_law_625 R P625 P1969) (p628 : V_LW_law_628 R P628 P726 P732) (p726 : V_LW_law_726 R P726 P732) (p732 : V_LW_law_732 R P732 P1969) (p735 : V_LW_law_735 R P735 P986) (p986 : V_LW_law_986 R P986 P1969) (p989 : V_LW_law_989 R P989 P1969) (p1002 : V_LW_law_1002 R P1002 P1067) (p1067 : V_LW_law_1067 R P1067 P1969) (p1070 : V_LW_law_1070 R P1070 P1170) (p1170 : V_LW_law_1170 R P1170 P1969) (p1173 : V_LW_law_1173 R P1173 P1315 P1321) (p1315 : V_LW_law_1315 R P1315 P1321) (p1321 : V_LW_law_1321 R P1321 P1969) (p1324 : V_LW_law_1324 R P1324 P1377) (p1377 : V_LW_law_1377 R P1377 P1969) (p1380 : V_LW_law_1380 R P1380 P1457) (p1457 : V_LW_law_1457 R P1457 P1969) (p1460 : V_LW_law_1460 R P1460 P1557) (p1557 : V_LW_law_1557 R P1557 P1969) (p1560 : V_LW_law_1560 R P1560 P1702 P1708) (p1702 : V_LW_law_1702 R P1702 P1708) (p1708 : V_LW_law_1708 R P1708 P1969) (p1711 : V_LW_law_1711 R P1711 P1969) (p1906 : V_LW_law_1906 R P1906 P1960 P1966) (p1960 : V_LW_law_1960 R P1960 P1966) (p1966 : V_LW_law_1966 R P1966 P1969) (p1969 : V_LW_law_1969 R P33 P1969) {L : Nat} {xs : Nat → Int32} (hL : L ≤ 5633) : ∀ (d t : Nat) (A : a_A) (σ : q_S), d + t = 599 → w_I A L xs σ → q_n σ ≤ 43 + 60 * t → P33 (d + 1) 10000000 1 14 42 (nI (1 + 11 * t)) σ := by
  intro d
  induction d with
  | zero =>
    intro t A σ ht hI hn
    obtain ⟨r1, r2, r3⟩ := hI.2.2.2.2.2.1.1
    refine p33 _ _ _ _ _ _ _ ⟨by rw [r1]; omega, fun _ => hR1 _, fun c => ?_⟩
    exfalso
    rw [r2, l_end hL (by omega)] at c
    omega
  | succ d ih =>
    intro t A σ ht hI hn
    obtain ⟨r1, r2, r3⟩ := hI.2.2.2.2.2.1.1
    refine p33 _ _ _ _ _ _ _ ⟨by rw [r1]; omega, fun _ => hR1 _, fun c => ?_⟩
    rw [r2, l_end hL (by omega)] at c
    have hi : 1 + 11 * t + 11 ≤ L := by omega
    have hn6 : q_n σ < 1000000 := by omega
    have nx : ∀ B τ, w_I B L xs τ → q_n τ ≤ q_n σ + 60 → P1969 (d + 1) 10000000 1 14 42 (nI (1 + 11 * t)) τ := fun B τ hB hn' => p1969 _ _ _ _ _ _ _ (fun v1 e1 => by
      rw [e1, show (11 : Int32) = nI 11 from rfl, nI_add, show 1 + 11 * t + 11 = 1 + 11 * (t + 1) by omega]
      exact ih (t + 1) B τ (by omega) hB (by omega))
    refine ⟨Or.inr r1, by rw [r2]; exact vp_in_nI (by omega) (by omega), ?_⟩
    obtain ⟨n, hn16, e⟩ := l_15 (q_I σ 10000000 (nI (1 + 11 * t)).toNatClampNeg)
    rw [e]
    refine ⟨fun _ => l_plane p128 p205 hI hn6 hi hL nx, fun c0 => ⟨fun _ => l_corner p208 p350 p356 hI hn6 hi hL nx, fun c1 => ⟨fun _ => l_ring p359 p413 p419 hI hn6 hi hL nx, fun c2 => ⟨fun _ => l_obstacle p422 p625 hI hn6 hi hL nx, fun c3 => ⟨fun _ => l_rule p628 p726 p732 hI hn6 hi hL nx, fun c4 => ⟨fun _ => l_pad p735 p986 hI hn6 hi hL nx, fun c5 => ⟨fun _ => l_fill p989 hI hn6 hi hL nx, fun c6 => ⟨fun _ => l_rings p1002 p1067 hI hn6 hi hL nx, fun c7 => ⟨fun _ => l_at p1070 p1170 hI hn6 hi hL nx, fun c8 => ⟨fun _ => l_in p1173 p1315 p1321 hI hn6 hi hL nx, fun c9 => ⟨fun _ => l_islands p1324 p1377 hI hn6 hi hL nx, fun c10 => ⟨fun _ => l_spoke p1380 p1457 hI hn6 hi hL nx, fun c11 => ⟨fun _ => l_stitch p1460 p1557 hI hn6 hi hL nx, fun c12 => ⟨fun _ => l_hatch p1560 p1702 p1708 hI hn6 hi hL nx, fun c13 => ⟨fun _ => l_changed p1711 hI hn6 hi hL nx, fun c14 => ⟨fun _ => l_narrow p1906 p1960 p1966 hI hn6 hi hL nx, fun c15 => ?_⟩⟩⟩⟩⟩⟩⟩⟩⟩⟩⟩⟩⟩⟩⟩⟩
    exfalso
    have h16 : n = 0 ∨ n = 1 ∨ n = 2 ∨ n = 3 ∨ n = 4 ∨ n = 5 ∨ n = 6 ∨ n = 7 ∨ n = 8 ∨ n = 9 ∨ n = 10 ∨ n = 11 ∨ n = 12 ∨ n = 13 ∨ n = 14 ∨ n = 15 := by omega
    rcases h16 with h | h | h | h | h | h | h | h | h | h | h | h | h | h | h | h
    · rw [h] at c0; exact c0 rfl
    · rw [h] at c1; exact c1 rfl
    · rw [h] at c2; exact c2 rfl
    · rw [h] at c3; exact c3 rfl
    · rw [h] at c4; exact c4 rfl
    · rw [h] at c5; exact c5 rfl
    · rw [h] at c6; exact c6 rfl
    · rw [h] at c7; exact c7 rfl
    · rw [h] at c8; exact c8 rfl
    · rw [h] at c9; exact c9 rfl
    · rw [h] at c10; exact c10 rfl
    · rw [h] at c11; exact c11 rfl
    · rw [h] at c12; exact c12 rfl
    · rw [h] at c13; exact c13 rfl
    · rw [h] at c14; exact c14 rfl
    · rw [h] at c15; exact c15 rfl
