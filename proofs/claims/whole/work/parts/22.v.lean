/-! WHAT METHODS ASK, further (by program) -/
def V_PF_placeOfRank (x0 : Nat) (x1 : Int32) (σ : q_S) (R : q_O → q_S → Prop) : Prop :=
  ∀ (P2 : Nat → Int32 → Int32 → q_S → Prop),
  ∀ (P41 : Int32 → q_S → Prop),
  (∀ (x0 : Nat) (x1 : Int32) (x2 : Int32) (σ : q_S), (q_K σ x0 = 1 ∧ q_K σ (q_P σ x0 2) = 8 ∧ V_AL_size (q_P σ x0 2) σ (q_ci (fun v5 σ6 => ((v5 ≤ x2 → P41 x2 σ6) ∧ (¬ (v5 ≤ x2) → q_K σ6 x0 = 1 ∧ q_K σ6 (q_P σ6 x0 2) = 8 ∧ V_AL_get (q_P σ6 x0 2) x2 σ6 (q_cr (fun v12 σ13 => q_K σ13 v12 = 6 ∧ q_K σ13 v12 = 6 ∧ (((q_I σ13 v12 2) < x1 → P41 x2 σ13) ∧ (¬ ((q_I σ13 v12 2) < x1) → ∀ v17 : Int32, v17 = x2 + (1 : Int32) → P2 x0 x1 v17 σ13))) (fun n9 σ9 => R (.inr n9) σ9))))) (fun n9 σ9 => R (.inr n9) σ9))) → P2 x0 x1 x2 σ) →
  (∀ (x2 : Int32) (σ : q_S), (R (.inl (some (.inl x2))) σ) → P41 x2 σ) →
  P2 x0 x1 (0 : Int32) σ
set_option maxRecDepth 100000 in
theorem t_PF_placeOfRank {l : Launch} {cx : q_C} {x0 : Nat} {x1 : Int32} {σ : q_S} {R : q_O → q_S → Prop} (hV : V_PF_placeOfRank x0 x1 σ R) : q_Ct l cx M_PF_placeOfRank 3 192 0 0 [q_r x0, q_i x1] σ R := by
  refine q_Ct.of p_PF_placeOfRank c_PF_placeOfRank rfl (Nat.le_of_ble_eq_true rfl) ?_
  have hV := hV (fun (x0 : Nat) (x1 : Int32) (x2 : Int32) (σ : q_S) => q_G l cx M_PF_placeOfRank 3 192 0 0 2 [(0, .inr (.inr x0)), (1, .inl x1), (2, .inl x2)] [] σ R) (fun (x2 : Int32) (σ : q_S) => q_G l cx M_PF_placeOfRank 3 192 0 0 41 [(2, .inl x2)] [] σ R)
  have hV := hV (by
      intro x0 x1 x2 σ hV
      show q_G l cx M_PF_placeOfRank 3 192 0 0 2 [(0, .inr (.inr x0)), (1, .inl x1), (2, .inl x2)] [] σ R
      refine q_run k_PF_placeOfRank 2 3 7 rfl ?_
      show q_K σ x0 = 1 ∧ q_G l cx M_PF_placeOfRank 3 192 0 0 7 [(0, .inr (.inr x0)), (1, .inl x1), (2, .inl x2)] [.inr (.inr (q_P σ x0 2)), .inl x2] σ R
      obtain ⟨s1, hV⟩ := hV
      refine ⟨s1, ?_⟩
      obtain ⟨s2, hV⟩ := hV
      refine q_callF (st := [.inl x2]) (as := []) (x := ⟨"java/util/List", "size", "()I"⟩) (t_AL_size (l := l) (cx := cx)  hV) (q_dc k_PF_placeOfRank 5 rfl) (List.mem_of_getElem? (i := 172) (by decide +kernel)) w_AL_size n_AL_size (ci := 7) rfl (List.mem_of_getElem? (i := 173) (by decide +kernel)) (List.mem_of_getElem? (i := 0) rfl) (by decide) a_AL_size (q_wt (Nat.le_of_ble_eq_true rfl)) ⟨Nat.le_of_ble_eq_true rfl, Nat.le_of_ble_eq_true rfl⟩ s2 (fun v9 τ9 q9 => ?_) (fun n9 τ9 q9 => q_T.leave rfl q9)
      obtain ⟨v5, rfl, hV⟩ := q_ci_elim q9
      clear q9
      have hV := hV
      revert hV
      generalize τ9 = σ6
      intro hV
      show q_G l cx M_PF_placeOfRank 3 192 0 0 12 [(0, .inr (.inr x0)), (1, .inl x1), (2, .inl x2)] [.inl v5, .inl x2] σ6 R
      refine q_icmp (q_dc k_PF_placeOfRank 6 rfl) rfl (fun h7 => ?_) (fun h7 => ?_)
      · have hV := hV.1 h7
        exact q_less (Nat.le_of_ble_eq_true rfl) (Nat.le_of_ble_eq_true rfl) (q_subk [2] rfl hV)
      · have hV := hV.2 h7
        refine q_run k_PF_placeOfRank 7 3 20 rfl ?_
        show q_K σ6 x0 = 1 ∧ q_G l cx M_PF_placeOfRank 3 192 0 0 20 [(0, .inr (.inr x0)), (1, .inl x1), (2, .inl x2)] [.inl x2, .inr (.inr (q_P σ6 x0 2))] σ6 R
        obtain ⟨s8, hV⟩ := hV
        refine ⟨s8, ?_⟩
        obtain ⟨s9, hV⟩ := hV
        refine q_callF (st := []) (as := [.inl x2]) (x := ⟨"java/util/List", "get", "(I)Ljava/lang/Object;"⟩) (t_AL_get (l := l) (cx := cx)  hV) (q_dc k_PF_placeOfRank 10 rfl) (List.mem_of_getElem? (i := 176) (by decide +kernel)) w_AL_get n_AL_get (ci := 7) rfl (List.mem_of_getElem? (i := 177) (by decide +kernel)) (List.mem_of_getElem? (i := 1) rfl) (by decide) a_AL_get (q_wt (Nat.le_of_ble_eq_true rfl)) ⟨Nat.le_of_ble_eq_true rfl, Nat.le_of_ble_eq_true rfl⟩ s9 (fun v9 τ9 q9 => ?_) (fun n9 τ9 q9 => q_T.leave rfl q9)
        obtain ⟨v12, rfl, hV⟩ := q_cr_elim q9
        clear q9
        have hV := hV
        revert hV
        generalize τ9 = σ13
        intro hV
        show q_G l cx M_PF_placeOfRank 3 192 0 0 25 [(0, .inr (.inr x0)), (1, .inl x1), (2, .inl x2)] [.inr (.inr v12)] σ13 R
        obtain ⟨s14, hV⟩ := hV
        refine q_cast1 (ci := 5) (q_dc k_PF_placeOfRank 11 rfl) rfl s14 (List.mem_of_getElem? (i := 3) rfl) (List.mem_of_getElem? (i := 190) (by decide +kernel)) ?_
        show q_G l cx M_PF_placeOfRank 3 192 0 0 28 [(0, .inr (.inr x0)), (1, .inl x1), (2, .inl x2)] [.inr (.inr v12)] σ13 R
        refine q_run k_PF_placeOfRank 12 2 32 rfl ?_
        show q_K σ13 v12 = 6 ∧ q_G l cx M_PF_placeOfRank 3 192 0 0 32 [(0, .inr (.inr x0)), (1, .inl x1), (2, .inl x2)] [.inl x1, .inl (q_I σ13 v12 2)] σ13 R
        obtain ⟨s15, hV⟩ := hV
        refine ⟨s15, ?_⟩
        refine q_icmp (q_dc k_PF_placeOfRank 14 rfl) rfl (fun h16 => ?_) (fun h16 => ?_)
        · have hV := hV.1 h16
          exact q_less (Nat.le_of_ble_eq_true rfl) (Nat.le_of_ble_eq_true rfl) (q_subk [2] rfl hV)
        · have hV := hV.2 h16
          refine q_run k_PF_placeOfRank 15 1 38 rfl ?_
          show q_G l cx M_PF_placeOfRank 3 192 0 0 38 [(2, .inl (x2 + (1 : Int32))), (0, .inr (.inr x0)), (1, .inl x1)] [] σ13 R
          refine q_let (fun v17 => q_G l cx M_PF_placeOfRank 3 192 0 0 38 [(2, .inl v17), (0, .inr (.inr x0)), (1, .inl x1)] [] σ13 R) (x2 + (1 : Int32)) (fun v17 e_v17 => ?_)
          have hV := hV v17 e_v17
          refine q_goto (q_dc k_PF_placeOfRank 16 rfl) rfl ?_
          exact q_less (Nat.le_of_ble_eq_true rfl) (Nat.le_of_ble_eq_true rfl) (q_subk [1, 2, 0] rfl hV))
  have hV := hV (by
      intro x2 σ hV
      show q_G l cx M_PF_placeOfRank 3 192 0 0 41 [(2, .inl x2)] [] σ R
      refine q_run k_PF_placeOfRank 17 1 42 rfl ?_
      show q_G l cx M_PF_placeOfRank 3 192 0 0 42 [(2, .inl x2)] [.inl x2] σ R
      exact q_ireturn (q_dc k_PF_placeOfRank 18 rfl) rfl hV)
  refine q_run k_PF_placeOfRank 0 2 2 rfl ?_
  show q_G l cx M_PF_placeOfRank 3 192 0 0 2 [(2, .inl (0 : Int32)), (0, .inr (.inr x0)), (1, .inl x1)] [] σ R
  exact q_less (Nat.le_of_ble_eq_true rfl) (Nat.le_of_ble_eq_true rfl) (q_subk [1, 2, 0] rfl hV)
def V_PF_takeOffDiscs (x0 : Nat) (x1 : Nat) (x2 : Nat) (σ : q_S) (R : q_O → q_S → Prop) : Prop :=
  ∀ (P2 : Nat → Nat → Nat → Int32 → q_S → Prop),
  ∀ (P57 : Nat → Nat → Nat → Int32 → Nat → Int32 → q_S → Prop),
  ∀ (P92 : Nat → Nat → Nat → Int32 → q_S → Prop),
  (∀ (x0 : Nat) (x1 : Nat) (x2 : Nat) (x3 : Int32) (σ : q_S), (q_K σ x0 = 1 ∧ q_K σ (q_P σ x0 3) = 8 ∧ V_AL_size (q_P σ x0 3) σ (q_ci (fun v5 σ6 => ((v5 ≤ x3 → R (.inl none) σ6) ∧ (¬ (v5 ≤ x3) → q_K σ6 x0 = 1 ∧ q_K σ6 (q_P σ6 x0 3) = 8 ∧ V_AL_get (q_P σ6 x0 3) x3 σ6 (q_cr (fun v12 σ13 => q_K σ13 v12 = 3 ∧ q_K σ13 v12 = 3 ∧ q_K σ13 x1 = 6 ∧ ((¬ (q_I σ13 v12 1) = (q_I σ13 x1 1) → P92 x0 x1 x2 x3 σ13) ∧ (¬ (¬ (q_I σ13 v12 1) = (q_I σ13 x1 1)) → q_K σ13 v12 = 3 ∧ q_K σ13 x1 = 6 ∧ (((q_I σ13 v12 0) = (q_I σ13 x1 0) → P92 x0 x1 x2 x3 σ13) ∧ (¬ ((q_I σ13 v12 0) = (q_I σ13 x1 0)) → P57 x0 x1 x2 x3 v12 (0 : Int32) σ13))))) (fun n9 σ9 => R (.inr n9) σ9))))) (fun n9 σ9 => R (.inr n9) σ9))) → P2 x0 x1 x2 x3 σ) →
  (∀ (x0 : Nat) (x1 : Nat) (x2 : Nat) (x3 : Int32) (x4 : Nat) (x5 : Int32) (σ : q_S), ((((24 : Int32) ≤ x5 → P92 x0 x1 x2 x3 σ) ∧ (¬ ((24 : Int32) ≤ x5) → (q_K σ x2 = 1000 ∨ q_K σ x2 = 2000) ∧ vp_in x5 (q_Z σ x2) ∧ q_K σ x0 = 1 ∧ (q_K σ (q_P σ x0 5) = 1000 ∨ q_K σ (q_P σ x0 5) = 2000) ∧ vp_in (0 : Int32) (q_Z σ (q_P σ x0 5)) ∧ q_K σ x4 = 3 ∧ V_PD_near x4 x5 (q_I σ (q_P σ x0 5) (0 : Int32).toNatClampNeg) σ (q_ci (fun v10 σ11 => q_K σ11 x2 = 1000 ∧ vp_in x5 (q_Z σ11 x2) ∧ ∀ σ12 : q_S, σ12 = q_wI σ11 x2 x5.toNatClampNeg ((q_I σ x2 x5.toNatClampNeg) &&& (v10 ^^^ (-1 : Int32))) → ∀ v15 : Int32, v15 = x5 + (1 : Int32) → P57 x0 x1 x2 x3 x4 v15 σ12) (fun n9 σ9 => R (.inr n9) σ9))))) → P57 x0 x1 x2 x3 x4 x5 σ) →
  (∀ (x0 : Nat) (x1 : Nat) (x2 : Nat) (x3 : Int32) (σ : q_S), (∀ v1 : Int32, v1 = x3 + (1 : Int32) → P2 x0 x1 x2 v1 σ) → P92 x0 x1 x2 x3 σ) →
  P2 x0 x1 x2 (0 : Int32) σ
set_option maxRecDepth 100000 in
theorem t_PF_takeOffDiscs {l : Launch} {cx : q_C} {x0 : Nat} {x1 : Nat} {x2 : Nat} {σ : q_S} {R : q_O → q_S → Prop} (hV : V_PF_takeOffDiscs x0 x1 x2 σ R) : q_Ct l cx M_PF_takeOffDiscs 3 192 0 0 [q_r x0, q_r x1, q_r x2] σ R := by
  refine q_Ct.of p_PF_takeOffDiscs c_PF_takeOffDiscs rfl (Nat.le_of_ble_eq_true rfl) ?_
  have hV := hV (fun (x0 : Nat) (x1 : Nat) (x2 : Nat) (x3 : Int32) (σ : q_S) => q_G l cx M_PF_takeOffDiscs 3 192 0 0 2 [(0, .inr (.inr x0)), (1, .inr (.inr x1)), (2, .inr (.inr x2)), (3, .inl x3)] [] σ R) (fun (x0 : Nat) (x1 : Nat) (x2 : Nat) (x3 : Int32) (x4 : Nat) (x5 : Int32) (σ : q_S) => q_G l cx M_PF_takeOffDiscs 3 192 0 0 57 [(0, .inr (.inr x0)), (1, .inr (.inr x1)), (2, .inr (.inr x2)), (3, .inl x3), (4, .inr (.inr x4)), (5, .inl x5)] [] σ R) (fun (x0 : Nat) (x1 : Nat) (x2 : Nat) (x3 : Int32) (σ : q_S) => q_G l cx M_PF_takeOffDiscs 3 192 0 0 92 [(0, .inr (.inr x0)), (1, .inr (.inr x1)), (2, .inr (.inr x2)), (3, .inl x3)] [] σ R)
  have hV := hV (by
      intro x0 x1 x2 x3 σ hV
      show q_G l cx M_PF_takeOffDiscs 3 192 0 0 2 [(0, .inr (.inr x0)), (1, .inr (.inr x1)), (2, .inr (.inr x2)), (3, .inl x3)] [] σ R
      refine q_run k_PF_takeOffDiscs 2 3 7 rfl ?_
      show q_K σ x0 = 1 ∧ q_G l cx M_PF_takeOffDiscs 3 192 0 0 7 [(0, .inr (.inr x0)), (1, .inr (.inr x1)), (2, .inr (.inr x2)), (3, .inl x3)] [.inr (.inr (q_P σ x0 3)), .inl x3] σ R
      obtain ⟨s1, hV⟩ := hV
      refine ⟨s1, ?_⟩
      obtain ⟨s2, hV⟩ := hV
      refine q_callF (st := [.inl x3]) (as := []) (x := ⟨"java/util/List", "size", "()I"⟩) (t_AL_size (l := l) (cx := cx)  hV) (q_dc k_PF_takeOffDiscs 5 rfl) (List.mem_of_getElem? (i := 172) (by decide +kernel)) w_AL_size n_AL_size (ci := 7) rfl (List.mem_of_getElem? (i := 173) (by decide +kernel)) (List.mem_of_getElem? (i := 0) rfl) (by decide) a_AL_size (q_wt (Nat.le_of_ble_eq_true rfl)) ⟨Nat.le_of_ble_eq_true rfl, Nat.le_of_ble_eq_true rfl⟩ s2 (fun v9 τ9 q9 => ?_) (fun n9 τ9 q9 => q_T.leave rfl q9)
      obtain ⟨v5, rfl, hV⟩ := q_ci_elim q9
      clear q9
      have hV := hV
      revert hV
      generalize τ9 = σ6
      intro hV
      show q_G l cx M_PF_takeOffDiscs 3 192 0 0 12 [(0, .inr (.inr x0)), (1, .inr (.inr x1)), (2, .inr (.inr x2)), (3, .inl x3)] [.inl v5, .inl x3] σ6 R
      refine q_icmp (q_dc k_PF_takeOffDiscs 6 rfl) rfl (fun h7 => ?_) (fun h7 => ?_)
      · have hV := hV.1 h7
        exact q_vreturn (q_dc k_PF_takeOffDiscs 47 rfl) rfl hV
      · have hV := hV.2 h7
        refine q_run k_PF_takeOffDiscs 7 3 20 rfl ?_
        show q_K σ6 x0 = 1 ∧ q_G l cx M_PF_takeOffDiscs 3 192 0 0 20 [(0, .inr (.inr x0)), (1, .inr (.inr x1)), (2, .inr (.inr x2)), (3, .inl x3)] [.inl x3, .inr (.inr (q_P σ6 x0 3))] σ6 R
        obtain ⟨s8, hV⟩ := hV
        refine ⟨s8, ?_⟩
        obtain ⟨s9, hV⟩ := hV
        refine q_callF (st := []) (as := [.inl x3]) (x := ⟨"java/util/List", "get", "(I)Ljava/lang/Object;"⟩) (t_AL_get (l := l) (cx := cx)  hV) (q_dc k_PF_takeOffDiscs 10 rfl) (List.mem_of_getElem? (i := 176) (by decide +kernel)) w_AL_get n_AL_get (ci := 7) rfl (List.mem_of_getElem? (i := 177) (by decide +kernel)) (List.mem_of_getElem? (i := 1) rfl) (by decide) a_AL_get (q_wt (Nat.le_of_ble_eq_true rfl)) ⟨Nat.le_of_ble_eq_true rfl, Nat.le_of_ble_eq_true rfl⟩ s9 (fun v9 τ9 q9 => ?_) (fun n9 τ9 q9 => q_T.leave rfl q9)
        obtain ⟨v12, rfl, hV⟩ := q_cr_elim q9
        clear q9
        have hV := hV
        revert hV
        generalize τ9 = σ13
        intro hV
        show q_G l cx M_PF_takeOffDiscs 3 192 0 0 25 [(0, .inr (.inr x0)), (1, .inr (.inr x1)), (2, .inr (.inr x2)), (3, .inl x3)] [.inr (.inr v12)] σ13 R
        obtain ⟨s14, hV⟩ := hV
        refine q_cast1 (ci := 2) (q_dc k_PF_takeOffDiscs 11 rfl) rfl s14 (List.mem_of_getElem? (i := 4) rfl) (List.mem_of_getElem? (i := 197) (by decide +kernel)) ?_
        show q_G l cx M_PF_takeOffDiscs 3 192 0 0 28 [(0, .inr (.inr x0)), (1, .inr (.inr x1)), (2, .inr (.inr x2)), (3, .inl x3)] [.inr (.inr v12)] σ13 R
        refine q_run k_PF_takeOffDiscs 12 5 39 rfl ?_
        show q_K σ13 v12 = 3 ∧ q_K σ13 x1 = 6 ∧ q_G l cx M_PF_takeOffDiscs 3 192 0 0 39 [(4, .inr (.inr v12)), (0, .inr (.inr x0)), (1, .inr (.inr x1)), (2, .inr (.inr x2)), (3, .inl x3)] [.inl (q_I σ13 x1 1), .inl (q_I σ13 v12 1)] σ13 R
        obtain ⟨s15, s16, hV⟩ := hV
        refine ⟨s15, s16, ?_⟩
        refine q_icmp (q_dc k_PF_takeOffDiscs 17 rfl) rfl (fun h17 => ?_) (fun h17 => ?_)
        · have hV := hV.1 h17
          exact q_less (Nat.le_of_ble_eq_true rfl) (Nat.le_of_ble_eq_true rfl) (q_subk [1, 2, 3, 4] rfl hV)
        · have hV := hV.2 h17
          refine q_run k_PF_takeOffDiscs 18 4 51 rfl ?_
          show q_K σ13 v12 = 3 ∧ q_K σ13 x1 = 6 ∧ q_G l cx M_PF_takeOffDiscs 3 192 0 0 51 [(4, .inr (.inr v12)), (0, .inr (.inr x0)), (1, .inr (.inr x1)), (2, .inr (.inr x2)), (3, .inl x3)] [.inl (q_I σ13 x1 0), .inl (q_I σ13 v12 0)] σ13 R
          obtain ⟨s18, s19, hV⟩ := hV
          refine ⟨s18, s19, ?_⟩
          refine q_icmp (q_dc k_PF_takeOffDiscs 22 rfl) rfl (fun h20 => ?_) (fun h20 => ?_)
          · have hV := hV.1 h20
            exact q_less (Nat.le_of_ble_eq_true rfl) (Nat.le_of_ble_eq_true rfl) (q_subk [1, 2, 3, 4] rfl hV)
          · have hV := hV.2 h20
            refine q_run k_PF_takeOffDiscs 23 2 57 rfl ?_
            show q_G l cx M_PF_takeOffDiscs 3 192 0 0 57 [(5, .inl (0 : Int32)), (4, .inr (.inr v12)), (0, .inr (.inr x0)), (1, .inr (.inr x1)), (2, .inr (.inr x2)), (3, .inl x3)] [] σ13 R
            exact q_less (Nat.le_of_ble_eq_true rfl) (Nat.le_of_ble_eq_true rfl) (q_subk [2, 3, 4, 5, 1, 0] rfl hV))
  have hV := hV (by
      intro x0 x1 x2 x3 x4 x5 σ hV
      show q_G l cx M_PF_takeOffDiscs 3 192 0 0 57 [(0, .inr (.inr x0)), (1, .inr (.inr x1)), (2, .inr (.inr x2)), (3, .inl x3), (4, .inr (.inr x4)), (5, .inl x5)] [] σ R
      refine q_run k_PF_takeOffDiscs 25 2 61 rfl ?_
      show q_G l cx M_PF_takeOffDiscs 3 192 0 0 61 [(0, .inr (.inr x0)), (1, .inr (.inr x1)), (2, .inr (.inr x2)), (3, .inl x3), (4, .inr (.inr x4)), (5, .inl x5)] [.inl (24 : Int32), .inl x5] σ R
      refine q_icmp (q_dc k_PF_takeOffDiscs 27 rfl) rfl (fun h1 => ?_) (fun h1 => ?_)
      · have hV := hV.1 h1
        exact q_less (Nat.le_of_ble_eq_true rfl) (Nat.le_of_ble_eq_true rfl) (q_subk [0, 1, 2, 3] rfl hV)
      · have hV := hV.2 h1
        refine q_run k_PF_takeOffDiscs 28 10 79 rfl ?_
        show (q_K σ x2 = 1000 ∨ q_K σ x2 = 2000) ∧ vp_in x5 (q_Z σ x2) ∧ q_K σ x0 = 1 ∧ (q_K σ (q_P σ x0 5) = 1000 ∨ q_K σ (q_P σ x0 5) = 2000) ∧ vp_in (0 : Int32) (q_Z σ (q_P σ x0 5)) ∧ q_G l cx M_PF_takeOffDiscs 3 192 0 0 79 [(0, .inr (.inr x0)), (1, .inr (.inr x1)), (2, .inr (.inr x2)), (3, .inl x3), (4, .inr (.inr x4)), (5, .inl x5)] [.inl (q_I σ (q_P σ x0 5) (0 : Int32).toNatClampNeg), .inl x5, .inr (.inr x4), .inl (q_I σ x2 x5.toNatClampNeg), .inl x5, .inr (.inr x2)] σ R
        obtain ⟨s2, s3, s4, s5, s6, hV⟩ := hV
        refine ⟨s2, s3, s4, s5, s6, ?_⟩
        obtain ⟨s7, hV⟩ := hV
        refine q_callV (st := [.inl (q_I σ x2 x5.toNatClampNeg), .inl x5, .inr (.inr x2)]) (as := [.inl x5, .inl (q_I σ (q_P σ x0 5) (0 : Int32).toNatClampNeg)]) (t_PD_near (l := l) (cx := cx)  hV) (q_dc k_PF_takeOffDiscs 38 rfl) (Or.inr ⟨"PlaneFills", List.mem_of_getElem? (i := 1) (by decide +kernel)⟩) w_PD_near n_PD_near (ci := 2) rfl e_PD_near a_PD_near (q_wt (Nat.le_of_ble_eq_true rfl)) ⟨Nat.le_of_ble_eq_true rfl, Nat.le_of_ble_eq_true rfl⟩ s7 (fun v9 τ9 q9 => ?_) (fun n9 τ9 q9 => q_T.leave rfl q9)
        obtain ⟨v10, rfl, hV⟩ := q_ci_elim q9
        clear q9
        have hV := hV
        revert hV
        generalize τ9 = σ11
        intro hV
        show q_G l cx M_PF_takeOffDiscs 3 192 0 0 82 [(0, .inr (.inr x0)), (1, .inr (.inr x1)), (2, .inr (.inr x2)), (3, .inl x3), (4, .inr (.inr x4)), (5, .inl x5)] [.inl v10, .inl (q_I σ x2 x5.toNatClampNeg), .inl x5, .inr (.inr x2)] σ11 R
        refine q_run k_PF_takeOffDiscs 39 4 86 rfl ?_
        show q_K σ11 x2 = 1000 ∧ vp_in x5 (q_Z σ11 x2) ∧ q_G l cx M_PF_takeOffDiscs 3 192 0 0 86 [(0, .inr (.inr x0)), (1, .inr (.inr x1)), (2, .inr (.inr x2)), (3, .inl x3), (4, .inr (.inr x4)), (5, .inl x5)] [] (q_wI σ11 x2 x5.toNatClampNeg ((q_I σ x2 x5.toNatClampNeg) &&& (v10 ^^^ (-1 : Int32)))) R
        obtain ⟨s13, s14, hV⟩ := hV
        refine ⟨s13, s14, ?_⟩
        refine q_let (fun σ12 => q_G l cx M_PF_takeOffDiscs 3 192 0 0 86 [(0, .inr (.inr x0)), (1, .inr (.inr x1)), (2, .inr (.inr x2)), (3, .inl x3), (4, .inr (.inr x4)), (5, .inl x5)] [] σ12 R) (q_wI σ11 x2 x5.toNatClampNeg ((q_I σ x2 x5.toNatClampNeg) &&& (v10 ^^^ (-1 : Int32)))) (fun σ12 e_σ12 => ?_)
        have hV := hV σ12 e_σ12
        refine q_run k_PF_takeOffDiscs 43 1 89 rfl ?_
        show q_G l cx M_PF_takeOffDiscs 3 192 0 0 89 [(5, .inl (x5 + (1 : Int32))), (0, .inr (.inr x0)), (1, .inr (.inr x1)), (2, .inr (.inr x2)), (3, .inl x3), (4, .inr (.inr x4))] [] σ12 R
        refine q_let (fun v15 => q_G l cx M_PF_takeOffDiscs 3 192 0 0 89 [(5, .inl v15), (0, .inr (.inr x0)), (1, .inr (.inr x1)), (2, .inr (.inr x2)), (3, .inl x3), (4, .inr (.inr x4))] [] σ12 R) (x5 + (1 : Int32)) (fun v15 e_v15 => ?_)
        have hV := hV v15 e_v15
        refine q_goto (q_dc k_PF_takeOffDiscs 44 rfl) rfl ?_
        exact q_less (Nat.le_of_ble_eq_true rfl) (Nat.le_of_ble_eq_true rfl) (q_subk [1, 2, 3, 4, 5, 0] rfl hV))
  have hV := hV (by
      intro x0 x1 x2 x3 σ hV
      show q_G l cx M_PF_takeOffDiscs 3 192 0 0 92 [(0, .inr (.inr x0)), (1, .inr (.inr x1)), (2, .inr (.inr x2)), (3, .inl x3)] [] σ R
      refine q_run k_PF_takeOffDiscs 45 1 95 rfl ?_
      show q_G l cx M_PF_takeOffDiscs 3 192 0 0 95 [(3, .inl (x3 + (1 : Int32))), (0, .inr (.inr x0)), (1, .inr (.inr x1)), (2, .inr (.inr x2))] [] σ R
      refine q_let (fun v1 => q_G l cx M_PF_takeOffDiscs 3 192 0 0 95 [(3, .inl v1), (0, .inr (.inr x0)), (1, .inr (.inr x1)), (2, .inr (.inr x2))] [] σ R) (x3 + (1 : Int32)) (fun v1 e_v1 => ?_)
      have hV := hV v1 e_v1
      refine q_goto (q_dc k_PF_takeOffDiscs 46 rfl) rfl ?_
      exact q_less (Nat.le_of_ble_eq_true rfl) (Nat.le_of_ble_eq_true rfl) (q_subk [1, 2, 3, 0] rfl hV))
  refine q_run k_PF_takeOffDiscs 0 2 2 rfl ?_
  show q_G l cx M_PF_takeOffDiscs 3 192 0 0 2 [(3, .inl (0 : Int32)), (0, .inr (.inr x0)), (1, .inr (.inr x1)), (2, .inr (.inr x2))] [] σ R
  exact q_less (Nat.le_of_ble_eq_true rfl) (Nat.le_of_ble_eq_true rfl) (q_subk [1, 2, 3, 0] rfl hV)
def V_PF_takeOffPads (x0 : Nat) (x1 : Nat) (x2 : Nat) (σ : q_S) (R : q_O → q_S → Prop) : Prop :=
  ∀ (P2 : Nat → Nat → Nat → Int32 → q_S → Prop),
  ∀ (P45 : Nat → Nat → Nat → Int32 → Nat → Int32 → q_S → Prop),
  ∀ (P98 : Nat → Nat → Nat → Int32 → Nat → Int32 → Int32 → Int32 → Int32 → Nat → q_S → Prop),
  ∀ (P108 : Nat → Nat → Nat → Int32 → q_S → Prop),
  (∀ (x0 : Nat) (x1 : Nat) (x2 : Nat) (x3 : Int32) (σ : q_S), (q_K σ x0 = 1 ∧ q_K σ (q_P σ x0 4) = 8 ∧ V_AL_size (q_P σ x0 4) σ (q_ci (fun v5 σ6 => ((v5 ≤ x3 → R (.inl none) σ6) ∧ (¬ (v5 ≤ x3) → q_K σ6 x0 = 1 ∧ q_K σ6 (q_P σ6 x0 4) = 8 ∧ V_AL_get (q_P σ6 x0 4) x3 σ6 (q_cr (fun v12 σ13 => q_K σ13 v12 = 5 ∧ q_K σ13 v12 = 5 ∧ q_K σ13 x1 = 6 ∧ ((¬ (q_I σ13 v12 1) = (q_I σ13 x1 1) → P108 x0 x1 x2 x3 σ13) ∧ (¬ (¬ (q_I σ13 v12 1) = (q_I σ13 x1 1)) → P45 x0 x1 x2 x3 v12 (0 : Int32) σ13))) (fun n9 σ9 => R (.inr n9) σ9))))) (fun n9 σ9 => R (.inr n9) σ9))) → P2 x0 x1 x2 x3 σ) →
  (∀ (x0 : Nat) (x1 : Nat) (x2 : Nat) (x3 : Int32) (x4 : Nat) (x5 : Int32) (σ : q_S), ((((24 : Int32) ≤ x5 → P108 x0 x1 x2 x3 σ) ∧ (¬ ((24 : Int32) ≤ x5) → (q_K σ x2 = 1000 ∨ q_K σ x2 = 2000) ∧ vp_in x5 (q_Z σ x2) ∧ q_K σ x4 = 5 ∧ q_K σ x1 = 6 ∧ ((¬ (q_I σ x4 0) = (q_I σ x1 0) → q_K σ x0 = 1 ∧ (q_K σ (q_P σ x0 5) = 1000 ∨ q_K σ (q_P σ x0 5) = 2000) ∧ vp_in (0 : Int32) (q_Z σ (q_P σ x0 5)) ∧ q_K σ x4 = 5 ∧ P98 x0 x1 x2 x3 x4 x5 (f_PP_near σ x4 x5 (q_I σ (q_P σ x0 5) (0 : Int32).toNatClampNeg)) (q_I σ x2 x5.toNatClampNeg) x5 x2 σ) ∧ (¬ (¬ (q_I σ x4 0) = (q_I σ x1 0)) → q_K σ x0 = 1 ∧ (q_K σ (q_P σ x0 5) = 1000 ∨ q_K σ (q_P σ x0 5) = 2000) ∧ vp_in (1 : Int32) (q_Z σ (q_P σ x0 5)) ∧ q_K σ x4 = 5 ∧ P98 x0 x1 x2 x3 x4 x5 (f_PP_moat σ x4 x5 (q_I σ (q_P σ x0 5) (1 : Int32).toNatClampNeg)) (q_I σ x2 x5.toNatClampNeg) x5 x2 σ))))) → P45 x0 x1 x2 x3 x4 x5 σ) →
  (∀ (x0 : Nat) (x1 : Nat) (x2 : Nat) (x3 : Int32) (x4 : Nat) (x5 : Int32) (y0 : Int32) (y1 : Int32) (y2 : Int32) (y3 : Nat) (σ : q_S), (q_K σ y3 = 1000 ∧ vp_in y2 (q_Z σ y3) ∧ ∀ σ1 : q_S, σ1 = q_wI σ y3 y2.toNatClampNeg (y1 &&& (y0 ^^^ (-1 : Int32))) → ∀ v4 : Int32, v4 = x5 + (1 : Int32) → P45 x0 x1 x2 x3 x4 v4 σ1) → P98 x0 x1 x2 x3 x4 x5 y0 y1 y2 y3 σ) →
  (∀ (x0 : Nat) (x1 : Nat) (x2 : Nat) (x3 : Int32) (σ : q_S), (∀ v1 : Int32, v1 = x3 + (1 : Int32) → P2 x0 x1 x2 v1 σ) → P108 x0 x1 x2 x3 σ) →
  P2 x0 x1 x2 (0 : Int32) σ
set_option maxRecDepth 100000 in
theorem t_PF_takeOffPads {l : Launch} {cx : q_C} {x0 : Nat} {x1 : Nat} {x2 : Nat} {σ : q_S} {R : q_O → q_S → Prop} (hV : V_PF_takeOffPads x0 x1 x2 σ R) : q_Ct l cx M_PF_takeOffPads 4 256 0 0 [q_r x0, q_r x1, q_r x2] σ R := by
  refine q_Ct.of p_PF_takeOffPads c_PF_takeOffPads rfl (Nat.le_of_ble_eq_true rfl) ?_
  have hV := hV (fun (x0 : Nat) (x1 : Nat) (x2 : Nat) (x3 : Int32) (σ : q_S) => q_G l cx M_PF_takeOffPads 4 256 0 0 2 [(0, .inr (.inr x0)), (1, .inr (.inr x1)), (2, .inr (.inr x2)), (3, .inl x3)] [] σ R) (fun (x0 : Nat) (x1 : Nat) (x2 : Nat) (x3 : Int32) (x4 : Nat) (x5 : Int32) (σ : q_S) => q_G l cx M_PF_takeOffPads 4 256 0 0 45 [(0, .inr (.inr x0)), (1, .inr (.inr x1)), (2, .inr (.inr x2)), (3, .inl x3), (4, .inr (.inr x4)), (5, .inl x5)] [] σ R) (fun (x0 : Nat) (x1 : Nat) (x2 : Nat) (x3 : Int32) (x4 : Nat) (x5 : Int32) (y0 : Int32) (y1 : Int32) (y2 : Int32) (y3 : Nat) (σ : q_S) => q_G l cx M_PF_takeOffPads 4 256 0 0 98 [(0, .inr (.inr x0)), (1, .inr (.inr x1)), (2, .inr (.inr x2)), (3, .inl x3), (4, .inr (.inr x4)), (5, .inl x5)] [.inl y0, .inl y1, .inl y2, .inr (.inr y3)] σ R) (fun (x0 : Nat) (x1 : Nat) (x2 : Nat) (x3 : Int32) (σ : q_S) => q_G l cx M_PF_takeOffPads 4 256 0 0 108 [(0, .inr (.inr x0)), (1, .inr (.inr x1)), (2, .inr (.inr x2)), (3, .inl x3)] [] σ R)
  have hV := hV (by
      intro x0 x1 x2 x3 σ hV
      show q_G l cx M_PF_takeOffPads 4 256 0 0 2 [(0, .inr (.inr x0)), (1, .inr (.inr x1)), (2, .inr (.inr x2)), (3, .inl x3)] [] σ R
      refine q_run k_PF_takeOffPads 2 3 7 rfl ?_
      show q_K σ x0 = 1 ∧ q_G l cx M_PF_takeOffPads 4 256 0 0 7 [(0, .inr (.inr x0)), (1, .inr (.inr x1)), (2, .inr (.inr x2)), (3, .inl x3)] [.inr (.inr (q_P σ x0 4)), .inl x3] σ R
      obtain ⟨s1, hV⟩ := hV
      refine ⟨s1, ?_⟩
      obtain ⟨s2, hV⟩ := hV
      refine q_callF (st := [.inl x3]) (as := []) (x := ⟨"java/util/List", "size", "()I"⟩) (t_AL_size (l := l) (cx := cx)  hV) (q_dc k_PF_takeOffPads 5 rfl) (List.mem_of_getElem? (i := 172) (by decide +kernel)) w_AL_size n_AL_size (ci := 7) rfl (List.mem_of_getElem? (i := 173) (by decide +kernel)) (List.mem_of_getElem? (i := 0) rfl) (by decide) a_AL_size (q_wt (Nat.le_of_ble_eq_true rfl)) ⟨Nat.le_of_ble_eq_true rfl, Nat.le_of_ble_eq_true rfl⟩ s2 (fun v9 τ9 q9 => ?_) (fun n9 τ9 q9 => q_T.leave rfl q9)
      obtain ⟨v5, rfl, hV⟩ := q_ci_elim q9
      clear q9
      have hV := hV
      revert hV
      generalize τ9 = σ6
      intro hV
      show q_G l cx M_PF_takeOffPads 4 256 0 0 12 [(0, .inr (.inr x0)), (1, .inr (.inr x1)), (2, .inr (.inr x2)), (3, .inl x3)] [.inl v5, .inl x3] σ6 R
      refine q_icmp (q_dc k_PF_takeOffPads 6 rfl) rfl (fun h7 => ?_) (fun h7 => ?_)
      · have hV := hV.1 h7
        exact q_vreturn (q_dc k_PF_takeOffPads 55 rfl) rfl hV
      · have hV := hV.2 h7
        refine q_run k_PF_takeOffPads 7 3 20 rfl ?_
        show q_K σ6 x0 = 1 ∧ q_G l cx M_PF_takeOffPads 4 256 0 0 20 [(0, .inr (.inr x0)), (1, .inr (.inr x1)), (2, .inr (.inr x2)), (3, .inl x3)] [.inl x3, .inr (.inr (q_P σ6 x0 4))] σ6 R
        obtain ⟨s8, hV⟩ := hV
        refine ⟨s8, ?_⟩
        obtain ⟨s9, hV⟩ := hV
        refine q_callF (st := []) (as := [.inl x3]) (x := ⟨"java/util/List", "get", "(I)Ljava/lang/Object;"⟩) (t_AL_get (l := l) (cx := cx)  hV) (q_dc k_PF_takeOffPads 10 rfl) (List.mem_of_getElem? (i := 176) (by decide +kernel)) w_AL_get n_AL_get (ci := 7) rfl (List.mem_of_getElem? (i := 177) (by decide +kernel)) (List.mem_of_getElem? (i := 1) rfl) (by decide) a_AL_get (q_wt (Nat.le_of_ble_eq_true rfl)) ⟨Nat.le_of_ble_eq_true rfl, Nat.le_of_ble_eq_true rfl⟩ s9 (fun v9 τ9 q9 => ?_) (fun n9 τ9 q9 => q_T.leave rfl q9)
        obtain ⟨v12, rfl, hV⟩ := q_cr_elim q9
        clear q9
        have hV := hV
        revert hV
        generalize τ9 = σ13
        intro hV
        show q_G l cx M_PF_takeOffPads 4 256 0 0 25 [(0, .inr (.inr x0)), (1, .inr (.inr x1)), (2, .inr (.inr x2)), (3, .inl x3)] [.inr (.inr v12)] σ13 R
        obtain ⟨s14, hV⟩ := hV
        refine q_cast1 (ci := 4) (q_dc k_PF_takeOffPads 11 rfl) rfl s14 (List.mem_of_getElem? (i := 5) rfl) (List.mem_of_getElem? (i := 213) (by decide +kernel)) ?_
        show q_G l cx M_PF_takeOffPads 4 256 0 0 28 [(0, .inr (.inr x0)), (1, .inr (.inr x1)), (2, .inr (.inr x2)), (3, .inl x3)] [.inr (.inr v12)] σ13 R
        refine q_run k_PF_takeOffPads 12 5 39 rfl ?_
        show q_K σ13 v12 = 5 ∧ q_K σ13 x1 = 6 ∧ q_G l cx M_PF_takeOffPads 4 256 0 0 39 [(4, .inr (.inr v12)), (0, .inr (.inr x0)), (1, .inr (.inr x1)), (2, .inr (.inr x2)), (3, .inl x3)] [.inl (q_I σ13 x1 1), .inl (q_I σ13 v12 1)] σ13 R
        obtain ⟨s15, s16, hV⟩ := hV
        refine ⟨s15, s16, ?_⟩
        refine q_icmp (q_dc k_PF_takeOffPads 17 rfl) rfl (fun h17 => ?_) (fun h17 => ?_)
        · have hV := hV.1 h17
          exact q_less (Nat.le_of_ble_eq_true rfl) (Nat.le_of_ble_eq_true rfl) (q_subk [1, 2, 3, 4] rfl hV)
        · have hV := hV.2 h17
          refine q_run k_PF_takeOffPads 18 2 45 rfl ?_
          show q_G l cx M_PF_takeOffPads 4 256 0 0 45 [(5, .inl (0 : Int32)), (4, .inr (.inr v12)), (0, .inr (.inr x0)), (1, .inr (.inr x1)), (2, .inr (.inr x2)), (3, .inl x3)] [] σ13 R
          exact q_less (Nat.le_of_ble_eq_true rfl) (Nat.le_of_ble_eq_true rfl) (q_subk [2, 3, 4, 5, 1, 0] rfl hV))
  have hV := hV (by
      intro x0 x1 x2 x3 x4 x5 σ hV
      show q_G l cx M_PF_takeOffPads 4 256 0 0 45 [(0, .inr (.inr x0)), (1, .inr (.inr x1)), (2, .inr (.inr x2)), (3, .inl x3), (4, .inr (.inr x4)), (5, .inl x5)] [] σ R
      refine q_run k_PF_takeOffPads 20 2 49 rfl ?_
      show q_G l cx M_PF_takeOffPads 4 256 0 0 49 [(0, .inr (.inr x0)), (1, .inr (.inr x1)), (2, .inr (.inr x2)), (3, .inl x3), (4, .inr (.inr x4)), (5, .inl x5)] [.inl (24 : Int32), .inl x5] σ R
      refine q_icmp (q_dc k_PF_takeOffPads 22 rfl) rfl (fun h1 => ?_) (fun h1 => ?_)
      · have hV := hV.1 h1
        exact q_less (Nat.le_of_ble_eq_true rfl) (Nat.le_of_ble_eq_true rfl) (q_subk [0, 1, 2, 3] rfl hV)
      · have hV := hV.2 h1
        refine q_run k_PF_takeOffPads 23 8 66 rfl ?_
        show (q_K σ x2 = 1000 ∨ q_K σ x2 = 2000) ∧ vp_in x5 (q_Z σ x2) ∧ q_K σ x4 = 5 ∧ q_K σ x1 = 6 ∧ q_G l cx M_PF_takeOffPads 4 256 0 0 66 [(0, .inr (.inr x0)), (1, .inr (.inr x1)), (2, .inr (.inr x2)), (3, .inl x3), (4, .inr (.inr x4)), (5, .inl x5)] [.inl (q_I σ x1 0), .inl (q_I σ x4 0), .inl (q_I σ x2 x5.toNatClampNeg), .inl x5, .inr (.inr x2)] σ R
        obtain ⟨s2, s3, s4, s5, hV⟩ := hV
        refine ⟨s2, s3, s4, s5, ?_⟩
        refine q_icmp (q_dc k_PF_takeOffPads 31 rfl) rfl (fun h6 => ?_) (fun h6 => ?_)
        · have hV := hV.1 h6
          refine q_run k_PF_takeOffPads 40 6 95 rfl ?_
          show q_K σ x0 = 1 ∧ (q_K σ (q_P σ x0 5) = 1000 ∨ q_K σ (q_P σ x0 5) = 2000) ∧ vp_in (0 : Int32) (q_Z σ (q_P σ x0 5)) ∧ q_G l cx M_PF_takeOffPads 4 256 0 0 95 [(0, .inr (.inr x0)), (1, .inr (.inr x1)), (2, .inr (.inr x2)), (3, .inl x3), (4, .inr (.inr x4)), (5, .inl x5)] [.inl (q_I σ (q_P σ x0 5) (0 : Int32).toNatClampNeg), .inl x5, .inr (.inr x4), .inl (q_I σ x2 x5.toNatClampNeg), .inl x5, .inr (.inr x2)] σ R
          obtain ⟨s7, s8, s9, hV⟩ := hV
          refine ⟨s7, s8, s9, ?_⟩
          obtain ⟨s10, hV⟩ := hV
          refine q_callV (st := [.inl (q_I σ x2 x5.toNatClampNeg), .inl x5, .inr (.inr x2)]) (as := [.inl x5, .inl (q_I σ (q_P σ x0 5) (0 : Int32).toNatClampNeg)]) (t_PP_near (l := l) (cx := cx) (σ := σ) x4 x5 (q_I σ (q_P σ x0 5) (0 : Int32).toNatClampNeg) s10) (q_dc k_PF_takeOffPads 46 rfl) (Or.inr ⟨"PlaneFills", List.mem_of_getElem? (i := 5) (by decide +kernel)⟩) w_PP_near n_PP_near (ci := 4) rfl e_PP_near a_PP_near (q_wt (Nat.le_of_ble_eq_true rfl)) ⟨Nat.le_of_ble_eq_true rfl, Nat.le_of_ble_eq_true rfl⟩ s10 (fun v9 τ9 q9 => ?_) (fun n9 τ9 q9 => by cases q9.1)
          obtain ⟨q8, q7⟩ := q9
          cases q8
          rw [q7]
          show q_G l cx M_PF_takeOffPads 4 256 0 0 98 [(0, .inr (.inr x0)), (1, .inr (.inr x1)), (2, .inr (.inr x2)), (3, .inl x3), (4, .inr (.inr x4)), (5, .inl x5)] [.inl (f_PP_near σ x4 x5 (q_I σ (q_P σ x0 5) (0 : Int32).toNatClampNeg)), .inl (q_I σ x2 x5.toNatClampNeg), .inl x5, .inr (.inr x2)] σ R
          exact q_less (Nat.le_of_ble_eq_true rfl) (Nat.le_of_ble_eq_true rfl) (q_subk [0, 1, 2, 3, 4, 5] rfl hV)
        · have hV := hV.2 h6
          refine q_run k_PF_takeOffPads 32 6 79 rfl ?_
          show q_K σ x0 = 1 ∧ (q_K σ (q_P σ x0 5) = 1000 ∨ q_K σ (q_P σ x0 5) = 2000) ∧ vp_in (1 : Int32) (q_Z σ (q_P σ x0 5)) ∧ q_G l cx M_PF_takeOffPads 4 256 0 0 79 [(0, .inr (.inr x0)), (1, .inr (.inr x1)), (2, .inr (.inr x2)), (3, .inl x3), (4, .inr (.inr x4)), (5, .inl x5)] [.inl (q_I σ (q_P σ x0 5) (1 : Int32).toNatClampNeg), .inl x5, .inr (.inr x4), .inl (q_I σ x2 x5.toNatClampNeg), .inl x5, .inr (.inr x2)] σ R
          obtain ⟨s11, s12, s13, hV⟩ := hV
          refine ⟨s11, s12, s13, ?_⟩
          obtain ⟨s14, hV⟩ := hV
          refine q_callV (st := [.inl (q_I σ x2 x5.toNatClampNeg), .inl x5, .inr (.inr x2)]) (as := [.inl x5, .inl (q_I σ (q_P σ x0 5) (1 : Int32).toNatClampNeg)]) (t_PP_moat (l := l) (cx := cx) (σ := σ) x4 x5 (q_I σ (q_P σ x0 5) (1 : Int32).toNatClampNeg) s14) (q_dc k_PF_takeOffPads 38 rfl) (Or.inr ⟨"PlaneFills", List.mem_of_getElem? (i := 3) (by decide +kernel)⟩) w_PP_moat n_PP_moat (ci := 4) rfl e_PP_moat a_PP_moat (q_wt (Nat.le_of_ble_eq_true rfl)) ⟨Nat.le_of_ble_eq_true rfl, Nat.le_of_ble_eq_true rfl⟩ s14 (fun v9 τ9 q9 => ?_) (fun n9 τ9 q9 => by cases q9.1)
          obtain ⟨q8, q7⟩ := q9
          cases q8
          rw [q7]
          show q_G l cx M_PF_takeOffPads 4 256 0 0 82 [(0, .inr (.inr x0)), (1, .inr (.inr x1)), (2, .inr (.inr x2)), (3, .inl x3), (4, .inr (.inr x4)), (5, .inl x5)] [.inl (f_PP_moat σ x4 x5 (q_I σ (q_P σ x0 5) (1 : Int32).toNatClampNeg)), .inl (q_I σ x2 x5.toNatClampNeg), .inl x5, .inr (.inr x2)] σ R
          refine q_goto (q_dc k_PF_takeOffPads 39 rfl) rfl ?_
          exact q_less (Nat.le_of_ble_eq_true rfl) (Nat.le_of_ble_eq_true rfl) (q_subk [0, 1, 2, 3, 4, 5] rfl hV))
  have hV := hV (by
      intro x0 x1 x2 x3 x4 x5 y0 y1 y2 y3 σ hV
      show q_G l cx M_PF_takeOffPads 4 256 0 0 98 [(0, .inr (.inr x0)), (1, .inr (.inr x1)), (2, .inr (.inr x2)), (3, .inl x3), (4, .inr (.inr x4)), (5, .inl x5)] [.inl y0, .inl y1, .inl y2, .inr (.inr y3)] σ R
      refine q_run k_PF_takeOffPads 47 4 102 rfl ?_
      show q_K σ y3 = 1000 ∧ vp_in y2 (q_Z σ y3) ∧ q_G l cx M_PF_takeOffPads 4 256 0 0 102 [(0, .inr (.inr x0)), (1, .inr (.inr x1)), (2, .inr (.inr x2)), (3, .inl x3), (4, .inr (.inr x4)), (5, .inl x5)] [] (q_wI σ y3 y2.toNatClampNeg (y1 &&& (y0 ^^^ (-1 : Int32)))) R
      obtain ⟨s2, s3, hV⟩ := hV
      refine ⟨s2, s3, ?_⟩
      refine q_let (fun σ1 => q_G l cx M_PF_takeOffPads 4 256 0 0 102 [(0, .inr (.inr x0)), (1, .inr (.inr x1)), (2, .inr (.inr x2)), (3, .inl x3), (4, .inr (.inr x4)), (5, .inl x5)] [] σ1 R) (q_wI σ y3 y2.toNatClampNeg (y1 &&& (y0 ^^^ (-1 : Int32)))) (fun σ1 e_σ1 => ?_)
      have hV := hV σ1 e_σ1
      refine q_run k_PF_takeOffPads 51 1 105 rfl ?_
      show q_G l cx M_PF_takeOffPads 4 256 0 0 105 [(5, .inl (x5 + (1 : Int32))), (0, .inr (.inr x0)), (1, .inr (.inr x1)), (2, .inr (.inr x2)), (3, .inl x3), (4, .inr (.inr x4))] [] σ1 R
      refine q_let (fun v4 => q_G l cx M_PF_takeOffPads 4 256 0 0 105 [(5, .inl v4), (0, .inr (.inr x0)), (1, .inr (.inr x1)), (2, .inr (.inr x2)), (3, .inl x3), (4, .inr (.inr x4))] [] σ1 R) (x5 + (1 : Int32)) (fun v4 e_v4 => ?_)
      have hV := hV v4 e_v4
      refine q_goto (q_dc k_PF_takeOffPads 52 rfl) rfl ?_
      exact q_less (Nat.le_of_ble_eq_true rfl) (Nat.le_of_ble_eq_true rfl) (q_subk [1, 2, 3, 4, 5, 0] rfl hV))
  have hV := hV (by
      intro x0 x1 x2 x3 σ hV
      show q_G l cx M_PF_takeOffPads 4 256 0 0 108 [(0, .inr (.inr x0)), (1, .inr (.inr x1)), (2, .inr (.inr x2)), (3, .inl x3)] [] σ R
      refine q_run k_PF_takeOffPads 53 1 111 rfl ?_
      show q_G l cx M_PF_takeOffPads 4 256 0 0 111 [(3, .inl (x3 + (1 : Int32))), (0, .inr (.inr x0)), (1, .inr (.inr x1)), (2, .inr (.inr x2))] [] σ R
      refine q_let (fun v1 => q_G l cx M_PF_takeOffPads 4 256 0 0 111 [(3, .inl v1), (0, .inr (.inr x0)), (1, .inr (.inr x1)), (2, .inr (.inr x2))] [] σ R) (x3 + (1 : Int32)) (fun v1 e_v1 => ?_)
      have hV := hV v1 e_v1
      refine q_goto (q_dc k_PF_takeOffPads 54 rfl) rfl ?_
      exact q_less (Nat.le_of_ble_eq_true rfl) (Nat.le_of_ble_eq_true rfl) (q_subk [1, 2, 3, 0] rfl hV))
  refine q_run k_PF_takeOffPads 0 2 2 rfl ?_
  show q_G l cx M_PF_takeOffPads 4 256 0 0 2 [(3, .inl (0 : Int32)), (0, .inr (.inr x0)), (1, .inr (.inr x1)), (2, .inr (.inr x2))] [] σ R
  exact q_less (Nat.le_of_ble_eq_true rfl) (Nat.le_of_ble_eq_true rfl) (q_subk [1, 2, 3, 0] rfl hV)
def V_PF_takeOffAhead (x0 : Nat) (x1 : Nat) (x2 : Nat) (x3 : Nat) (σ : q_S) (R : q_O → q_S → Prop) : Prop :=
  ∀ (P22 : q_S → Prop),
  ∀ (P34 : Nat → Nat → Int32 → Int32 → q_S → Prop),
  ∀ (P56 : Nat → Nat → Int32 → Int32 → Int32 → Int32 → q_S → Prop),
  ∀ (P106 : Nat → Nat → Int32 → Int32 → Int32 → Int32 → Int32 → q_S → Prop),
  (∀ (σ : q_S), (R (.inl none) σ) → P22 σ) →
  (∀ (x1 : Nat) (x3 : Nat) (x4 : Int32) (x5 : Int32) (σ : q_S), ((((24 : Int32) ≤ x5 → R (.inl none) σ) ∧ (¬ ((24 : Int32) ≤ x5) → q_K σ x1 = 6 ∧ q_K σ (q_P σ x1 11) = 2 ∧ (q_K σ (q_P σ (q_P σ x1 11) 0) = 1000 ∨ q_K σ (q_P σ (q_P σ x1 11) 0) = 2000) ∧ vp_in x5 (q_Z σ (q_P σ (q_P σ x1 11) 0)) ∧ ∀ v2 : Int32, v2 = q_I σ (q_P σ (q_P σ x1 11) 0) x5.toNatClampNeg → P56 x1 x3 x4 x5 v2 (0 : Int32) σ))) → P34 x1 x3 x4 x5 σ) →
  (∀ (x1 : Nat) (x3 : Nat) (x4 : Int32) (x5 : Int32) (x6 : Int32) (x7 : Int32) (σ : q_S), (((x4 ≤ x7 → ∀ v2 : Int32, v2 = f_MT_min (23 : Int32) (x5 + x4) → ∀ v3 : Int32, v3 = f_MT_max (0 : Int32) (x5 - x4) → P106 x1 x3 x4 x5 x6 v2 v3 σ) ∧ (¬ (x4 ≤ x7) → ∀ v4 : Int32, v4 = x6 ||| ((x6 <<< ((1 : Int32) &&& 31)) ||| (q_ushr x6 (1 : Int32))) → ∀ v5 : Int32, v5 = x7 + (1 : Int32) → P56 x1 x3 x4 x5 v4 v5 σ))) → P56 x1 x3 x4 x5 x6 x7 σ) →
  (∀ (x1 : Nat) (x3 : Nat) (x4 : Int32) (x5 : Int32) (x6 : Int32) (x7 : Int32) (x8 : Int32) (σ : q_S), (((x7 < x8 → ∀ v2 : Int32, v2 = x5 + (1 : Int32) → P34 x1 x3 x4 v2 σ) ∧ (¬ (x7 < x8) → (q_K σ x3 = 1000 ∨ q_K σ x3 = 2000) ∧ vp_in x8 (q_Z σ x3) ∧ q_K σ x3 = 1000 ∧ vp_in x8 (q_Z σ x3) ∧ ∀ σ3 : q_S, σ3 = q_wI σ x3 x8.toNatClampNeg ((q_I σ x3 x8.toNatClampNeg) &&& (x6 ^^^ (-1 : Int32))) → ∀ v8 : Int32, v8 = x8 + (1 : Int32) → P106 x1 x3 x4 x5 x6 x7 v8 σ3))) → P106 x1 x3 x4 x5 x6 x7 x8 σ) →
  q_K σ x1 = 6 ∧ q_K σ x2 = 6 ∧ ((¬ (q_I σ x1 1) = (q_I σ x2 1) → P22  σ) ∧ (¬ (¬ (q_I σ x1 1) = (q_I σ x2 1)) → q_K σ x1 = 6 ∧ q_K σ x2 = 6 ∧ ((¬ (q_I σ x1 0) = (q_I σ x2 0) → q_K σ x0 = 1 ∧ (q_K σ (q_P σ x0 5) = 1000 ∨ q_K σ (q_P σ x0 5) = 2000) ∧ vp_in (0 : Int32) (q_Z σ (q_P σ x0 5)) ∧ ∀ v7 : Int32, v7 = q_I σ (q_P σ x0 5) (0 : Int32).toNatClampNeg → P34 x1 x3 v7 (0 : Int32) σ) ∧ (¬ (¬ (q_I σ x1 0) = (q_I σ x2 0)) → P22  σ))))
set_option maxRecDepth 100000 in
theorem t_PF_takeOffAhead {l : Launch} {cx : q_C} {x0 : Nat} {x1 : Nat} {x2 : Nat} {x3 : Nat} {σ : q_S} {R : q_O → q_S → Prop} (hV : V_PF_takeOffAhead x0 x1 x2 x3 σ R) : q_Ct l cx M_PF_takeOffAhead 1 64 0 0 [q_r x0, q_r x1, q_r x2, q_r x3] σ R := by
  refine q_Ct.of p_PF_takeOffAhead c_PF_takeOffAhead rfl (Nat.le_of_ble_eq_true rfl) ?_
  have hV := hV (fun (σ : q_S) => q_G l cx M_PF_takeOffAhead 1 64 0 0 22 [] [] σ R) (fun (x1 : Nat) (x3 : Nat) (x4 : Int32) (x5 : Int32) (σ : q_S) => q_G l cx M_PF_takeOffAhead 1 64 0 0 34 [(1, .inr (.inr x1)), (3, .inr (.inr x3)), (4, .inl x4), (5, .inl x5)] [] σ R) (fun (x1 : Nat) (x3 : Nat) (x4 : Int32) (x5 : Int32) (x6 : Int32) (x7 : Int32) (σ : q_S) => q_G l cx M_PF_takeOffAhead 1 64 0 0 56 [(1, .inr (.inr x1)), (3, .inr (.inr x3)), (4, .inl x4), (5, .inl x5), (6, .inl x6), (7, .inl x7)] [] σ R) (fun (x1 : Nat) (x3 : Nat) (x4 : Int32) (x5 : Int32) (x6 : Int32) (x7 : Int32) (x8 : Int32) (σ : q_S) => q_G l cx M_PF_takeOffAhead 1 64 0 0 106 [(1, .inr (.inr x1)), (3, .inr (.inr x3)), (4, .inl x4), (5, .inl x5), (6, .inl x6), (7, .inl x7), (8, .inl x8)] [] σ R)
  have hV := hV (by
      intro σ hV
      show q_G l cx M_PF_takeOffAhead 1 64 0 0 22 [] [] σ R
      exact q_vreturn (q_dc k_PF_takeOffAhead 10 rfl) rfl hV)
  have hV := hV (by
      intro x1 x3 x4 x5 σ hV
      show q_G l cx M_PF_takeOffAhead 1 64 0 0 34 [(1, .inr (.inr x1)), (3, .inr (.inr x3)), (4, .inl x4), (5, .inl x5)] [] σ R
      refine q_run k_PF_takeOffAhead 18 2 38 rfl ?_
      show q_G l cx M_PF_takeOffAhead 1 64 0 0 38 [(1, .inr (.inr x1)), (3, .inr (.inr x3)), (4, .inl x4), (5, .inl x5)] [.inl (24 : Int32), .inl x5] σ R
      refine q_icmp (q_dc k_PF_takeOffAhead 20 rfl) rfl (fun h1 => ?_) (fun h1 => ?_)
      · have hV := hV.1 h1
        exact q_vreturn (q_dc k_PF_takeOffAhead 72 rfl) rfl hV
      · have hV := hV.2 h1
        refine q_run k_PF_takeOffAhead 21 6 53 rfl ?_
        show q_K σ x1 = 6 ∧ q_K σ (q_P σ x1 11) = 2 ∧ (q_K σ (q_P σ (q_P σ x1 11) 0) = 1000 ∨ q_K σ (q_P σ (q_P σ x1 11) 0) = 2000) ∧ vp_in x5 (q_Z σ (q_P σ (q_P σ x1 11) 0)) ∧ q_G l cx M_PF_takeOffAhead 1 64 0 0 53 [(6, .inl (q_I σ (q_P σ (q_P σ x1 11) 0) x5.toNatClampNeg)), (1, .inr (.inr x1)), (3, .inr (.inr x3)), (4, .inl x4), (5, .inl x5)] [] σ R
        obtain ⟨s3, s4, s5, s6, hV⟩ := hV
        refine ⟨s3, s4, s5, s6, ?_⟩
        refine q_let (fun v2 => q_G l cx M_PF_takeOffAhead 1 64 0 0 53 [(6, .inl v2), (1, .inr (.inr x1)), (3, .inr (.inr x3)), (4, .inl x4), (5, .inl x5)] [] σ R) (q_I σ (q_P σ (q_P σ x1 11) 0) x5.toNatClampNeg) (fun v2 e_v2 => ?_)
        have hV := hV v2 e_v2
        refine q_run k_PF_takeOffAhead 27 2 56 rfl ?_
        show q_G l cx M_PF_takeOffAhead 1 64 0 0 56 [(7, .inl (0 : Int32)), (6, .inl v2), (1, .inr (.inr x1)), (3, .inr (.inr x3)), (4, .inl x4), (5, .inl x5)] [] σ R
        exact q_less (Nat.le_of_ble_eq_true rfl) (Nat.le_of_ble_eq_true rfl) (q_subk [2, 3, 4, 5, 1, 0] rfl hV))
  have hV := hV (by
      intro x1 x3 x4 x5 x6 x7 σ hV
      show q_G l cx M_PF_takeOffAhead 1 64 0 0 56 [(1, .inr (.inr x1)), (3, .inr (.inr x3)), (4, .inl x4), (5, .inl x5), (6, .inl x6), (7, .inl x7)] [] σ R
      refine q_run k_PF_takeOffAhead 29 2 60 rfl ?_
      show q_G l cx M_PF_takeOffAhead 1 64 0 0 60 [(1, .inr (.inr x1)), (3, .inr (.inr x3)), (4, .inl x4), (5, .inl x5), (6, .inl x6), (7, .inl x7)] [.inl x4, .inl x7] σ R
      refine q_icmp (q_dc k_PF_takeOffAhead 31 rfl) rfl (fun h1 => ?_) (fun h1 => ?_)
      · have hV := hV.1 h1
        refine q_run k_PF_takeOffAhead 44 4 90 rfl ?_
        show q_G l cx M_PF_takeOffAhead 1 64 0 0 90 [(1, .inr (.inr x1)), (3, .inr (.inr x3)), (4, .inl x4), (5, .inl x5), (6, .inl x6), (7, .inl x7)] [.inl (x5 + x4), .inl (23 : Int32)] σ R
        refine q_callS (st := []) (t_MT_min (l := l) (cx := cx) (σ := σ) (23 : Int32) (x5 + x4)) (q_dc k_PF_takeOffAhead 48 rfl) (Or.inl (List.mem_of_getElem? (i := 140) (by decide +kernel))) w_MT_min s_MT_min a_MT_min (q_wt (Nat.le_of_ble_eq_true rfl)) ⟨Nat.le_of_ble_eq_true rfl, Nat.le_of_ble_eq_true rfl⟩ (fun v9 τ9 q9 => ?_) (fun n9 τ9 q9 => by cases q9.1)
        obtain ⟨q8, q7⟩ := q9
        cases q8
        rw [q7]
        show q_G l cx M_PF_takeOffAhead 1 64 0 0 93 [(1, .inr (.inr x1)), (3, .inr (.inr x3)), (4, .inl x4), (5, .inl x5), (6, .inl x6), (7, .inl x7)] [.inl (f_MT_min (23 : Int32) (x5 + x4))] σ R
        refine q_run k_PF_takeOffAhead 49 1 95 rfl ?_
        show q_G l cx M_PF_takeOffAhead 1 64 0 0 95 [(7, .inl (f_MT_min (23 : Int32) (x5 + x4))), (1, .inr (.inr x1)), (3, .inr (.inr x3)), (4, .inl x4), (5, .inl x5), (6, .inl x6)] [] σ R
        refine q_let (fun v2 => q_G l cx M_PF_takeOffAhead 1 64 0 0 95 [(7, .inl v2), (1, .inr (.inr x1)), (3, .inr (.inr x3)), (4, .inl x4), (5, .inl x5), (6, .inl x6)] [] σ R) (f_MT_min (23 : Int32) (x5 + x4)) (fun v2 e_v2 => ?_)
        have hV := hV v2 e_v2
        refine q_run k_PF_takeOffAhead 50 4 101 rfl ?_
        show q_G l cx M_PF_takeOffAhead 1 64 0 0 101 [(7, .inl v2), (1, .inr (.inr x1)), (3, .inr (.inr x3)), (4, .inl x4), (5, .inl x5), (6, .inl x6)] [.inl (x5 - x4), .inl (0 : Int32)] σ R
        refine q_callS (st := []) (t_MT_max (l := l) (cx := cx) (σ := σ) (0 : Int32) (x5 - x4)) (q_dc k_PF_takeOffAhead 54 rfl) (Or.inl (List.mem_of_getElem? (i := 143) (by decide +kernel))) w_MT_max s_MT_max a_MT_max (q_wt (Nat.le_of_ble_eq_true rfl)) ⟨Nat.le_of_ble_eq_true rfl, Nat.le_of_ble_eq_true rfl⟩ (fun v9 τ9 q9 => ?_) (fun n9 τ9 q9 => by cases q9.1)
        obtain ⟨q8, q7⟩ := q9
        cases q8
        rw [q7]
        show q_G l cx M_PF_takeOffAhead 1 64 0 0 104 [(7, .inl v2), (1, .inr (.inr x1)), (3, .inr (.inr x3)), (4, .inl x4), (5, .inl x5), (6, .inl x6)] [.inl (f_MT_max (0 : Int32) (x5 - x4))] σ R
        refine q_run k_PF_takeOffAhead 55 1 106 rfl ?_
        show q_G l cx M_PF_takeOffAhead 1 64 0 0 106 [(8, .inl (f_MT_max (0 : Int32) (x5 - x4))), (7, .inl v2), (1, .inr (.inr x1)), (3, .inr (.inr x3)), (4, .inl x4), (5, .inl x5), (6, .inl x6)] [] σ R
        refine q_let (fun v3 => q_G l cx M_PF_takeOffAhead 1 64 0 0 106 [(8, .inl v3), (7, .inl v2), (1, .inr (.inr x1)), (3, .inr (.inr x3)), (4, .inl x4), (5, .inl x5), (6, .inl x6)] [] σ R) (f_MT_max (0 : Int32) (x5 - x4)) (fun v3 e_v3 => ?_)
        have hV := hV v3 e_v3
        exact q_less (Nat.le_of_ble_eq_true rfl) (Nat.le_of_ble_eq_true rfl) (q_subk [2, 3, 4, 5, 6, 1, 0] rfl hV)
      · have hV := hV.2 h1
        refine q_run k_PF_takeOffAhead 32 10 77 rfl ?_
        show q_G l cx M_PF_takeOffAhead 1 64 0 0 77 [(6, .inl (x6 ||| ((x6 <<< ((1 : Int32) &&& 31)) ||| (q_ushr x6 (1 : Int32))))), (1, .inr (.inr x1)), (3, .inr (.inr x3)), (4, .inl x4), (5, .inl x5), (7, .inl x7)] [] σ R
        refine q_let (fun v4 => q_G l cx M_PF_takeOffAhead 1 64 0 0 77 [(6, .inl v4), (1, .inr (.inr x1)), (3, .inr (.inr x3)), (4, .inl x4), (5, .inl x5), (7, .inl x7)] [] σ R) (x6 ||| ((x6 <<< ((1 : Int32) &&& 31)) ||| (q_ushr x6 (1 : Int32)))) (fun v4 e_v4 => ?_)
        have hV := hV v4 e_v4
        refine q_run k_PF_takeOffAhead 42 1 80 rfl ?_
        show q_G l cx M_PF_takeOffAhead 1 64 0 0 80 [(7, .inl (x7 + (1 : Int32))), (6, .inl v4), (1, .inr (.inr x1)), (3, .inr (.inr x3)), (4, .inl x4), (5, .inl x5)] [] σ R
        refine q_let (fun v5 => q_G l cx M_PF_takeOffAhead 1 64 0 0 80 [(7, .inl v5), (6, .inl v4), (1, .inr (.inr x1)), (3, .inr (.inr x3)), (4, .inl x4), (5, .inl x5)] [] σ R) (x7 + (1 : Int32)) (fun v5 e_v5 => ?_)
        have hV := hV v5 e_v5
        refine q_goto (q_dc k_PF_takeOffAhead 43 rfl) rfl ?_
        exact q_less (Nat.le_of_ble_eq_true rfl) (Nat.le_of_ble_eq_true rfl) (q_subk [2, 3, 4, 5, 1, 0] rfl hV))
  have hV := hV (by
      intro x1 x3 x4 x5 x6 x7 x8 σ hV
      show q_G l cx M_PF_takeOffAhead 1 64 0 0 106 [(1, .inr (.inr x1)), (3, .inr (.inr x3)), (4, .inl x4), (5, .inl x5), (6, .inl x6), (7, .inl x7), (8, .inl x8)] [] σ R
      refine q_run k_PF_takeOffAhead 56 2 110 rfl ?_
      show q_G l cx M_PF_takeOffAhead 1 64 0 0 110 [(1, .inr (.inr x1)), (3, .inr (.inr x3)), (4, .inl x4), (5, .inl x5), (6, .inl x6), (7, .inl x7), (8, .inl x8)] [.inl x7, .inl x8] σ R
      refine q_icmp (q_dc k_PF_takeOffAhead 58 rfl) rfl (fun h1 => ?_) (fun h1 => ?_)
      · have hV := hV.1 h1
        refine q_run k_PF_takeOffAhead 70 1 133 rfl ?_
        show q_G l cx M_PF_takeOffAhead 1 64 0 0 133 [(5, .inl (x5 + (1 : Int32))), (1, .inr (.inr x1)), (3, .inr (.inr x3)), (4, .inl x4), (6, .inl x6), (7, .inl x7), (8, .inl x8)] [] σ R
        refine q_let (fun v2 => q_G l cx M_PF_takeOffAhead 1 64 0 0 133 [(5, .inl v2), (1, .inr (.inr x1)), (3, .inr (.inr x3)), (4, .inl x4), (6, .inl x6), (7, .inl x7), (8, .inl x8)] [] σ R) (x5 + (1 : Int32)) (fun v2 e_v2 => ?_)
        have hV := hV v2 e_v2
        refine q_goto (q_dc k_PF_takeOffAhead 71 rfl) rfl ?_
        exact q_less (Nat.le_of_ble_eq_true rfl) (Nat.le_of_ble_eq_true rfl) (q_subk [1, 2, 3, 0] rfl hV)
      · have hV := hV.2 h1
        refine q_run k_PF_takeOffAhead 59 9 124 rfl ?_
        show (q_K σ x3 = 1000 ∨ q_K σ x3 = 2000) ∧ vp_in x8 (q_Z σ x3) ∧ q_K σ x3 = 1000 ∧ vp_in x8 (q_Z σ x3) ∧ q_G l cx M_PF_takeOffAhead 1 64 0 0 124 [(1, .inr (.inr x1)), (3, .inr (.inr x3)), (4, .inl x4), (5, .inl x5), (6, .inl x6), (7, .inl x7), (8, .inl x8)] [] (q_wI σ x3 x8.toNatClampNeg ((q_I σ x3 x8.toNatClampNeg) &&& (x6 ^^^ (-1 : Int32)))) R
        obtain ⟨s4, s5, s6, s7, hV⟩ := hV
        refine ⟨s4, s5, s6, s7, ?_⟩
        refine q_let (fun σ3 => q_G l cx M_PF_takeOffAhead 1 64 0 0 124 [(1, .inr (.inr x1)), (3, .inr (.inr x3)), (4, .inl x4), (5, .inl x5), (6, .inl x6), (7, .inl x7), (8, .inl x8)] [] σ3 R) (q_wI σ x3 x8.toNatClampNeg ((q_I σ x3 x8.toNatClampNeg) &&& (x6 ^^^ (-1 : Int32)))) (fun σ3 e_σ3 => ?_)
        have hV := hV σ3 e_σ3
        refine q_run k_PF_takeOffAhead 68 1 127 rfl ?_
        show q_G l cx M_PF_takeOffAhead 1 64 0 0 127 [(8, .inl (x8 + (1 : Int32))), (1, .inr (.inr x1)), (3, .inr (.inr x3)), (4, .inl x4), (5, .inl x5), (6, .inl x6), (7, .inl x7)] [] σ3 R
        refine q_let (fun v8 => q_G l cx M_PF_takeOffAhead 1 64 0 0 127 [(8, .inl v8), (1, .inr (.inr x1)), (3, .inr (.inr x3)), (4, .inl x4), (5, .inl x5), (6, .inl x6), (7, .inl x7)] [] σ3 R) (x8 + (1 : Int32)) (fun v8 e_v8 => ?_)
        have hV := hV v8 e_v8
        refine q_goto (q_dc k_PF_takeOffAhead 69 rfl) rfl ?_
        exact q_less (Nat.le_of_ble_eq_true rfl) (Nat.le_of_ble_eq_true rfl) (q_subk [1, 2, 3, 4, 5, 6, 0] rfl hV))
  refine q_run k_PF_takeOffAhead 0 4 8 rfl ?_
  show q_K σ x1 = 6 ∧ q_K σ x2 = 6 ∧ q_G l cx M_PF_takeOffAhead 1 64 0 0 8 [(0, .inr (.inr x0)), (1, .inr (.inr x1)), (2, .inr (.inr x2)), (3, .inr (.inr x3))] [.inl (q_I σ x2 1), .inl (q_I σ x1 1)] σ R
  obtain ⟨s1, s2, hV⟩ := hV
  refine ⟨s1, s2, ?_⟩
  refine q_icmp (q_dc k_PF_takeOffAhead 4 rfl) rfl (fun h3 => ?_) (fun h3 => ?_)
  · have hV := hV.1 h3
    exact q_less (Nat.le_of_ble_eq_true rfl) (Nat.le_of_ble_eq_true rfl) (q_subk [] rfl hV)
  · have hV := hV.2 h3
    refine q_run k_PF_takeOffAhead 5 4 19 rfl ?_
    show q_K σ x1 = 6 ∧ q_K σ x2 = 6 ∧ q_G l cx M_PF_takeOffAhead 1 64 0 0 19 [(0, .inr (.inr x0)), (1, .inr (.inr x1)), (2, .inr (.inr x2)), (3, .inr (.inr x3))] [.inl (q_I σ x2 0), .inl (q_I σ x1 0)] σ R
    obtain ⟨s4, s5, hV⟩ := hV
    refine ⟨s4, s5, ?_⟩
    refine q_icmp (q_dc k_PF_takeOffAhead 9 rfl) rfl (fun h6 => ?_) (fun h6 => ?_)
    · have hV := hV.1 h6
      refine q_run k_PF_takeOffAhead 11 5 31 rfl ?_
      show q_K σ x0 = 1 ∧ (q_K σ (q_P σ x0 5) = 1000 ∨ q_K σ (q_P σ x0 5) = 2000) ∧ vp_in (0 : Int32) (q_Z σ (q_P σ x0 5)) ∧ q_G l cx M_PF_takeOffAhead 1 64 0 0 31 [(4, .inl (q_I σ (q_P σ x0 5) (0 : Int32).toNatClampNeg)), (0, .inr (.inr x0)), (1, .inr (.inr x1)), (2, .inr (.inr x2)), (3, .inr (.inr x3))] [] σ R
      obtain ⟨s8, s9, s10, hV⟩ := hV
      refine ⟨s8, s9, s10, ?_⟩
      refine q_let (fun v7 => q_G l cx M_PF_takeOffAhead 1 64 0 0 31 [(4, .inl v7), (0, .inr (.inr x0)), (1, .inr (.inr x1)), (2, .inr (.inr x2)), (3, .inr (.inr x3))] [] σ R) (q_I σ (q_P σ x0 5) (0 : Int32).toNatClampNeg) (fun v7 e_v7 => ?_)
      have hV := hV v7 e_v7
      refine q_run k_PF_takeOffAhead 16 2 34 rfl ?_
      show q_G l cx M_PF_takeOffAhead 1 64 0 0 34 [(5, .inl (0 : Int32)), (4, .inl v7), (0, .inr (.inr x0)), (1, .inr (.inr x1)), (2, .inr (.inr x2)), (3, .inr (.inr x3))] [] σ R
      exact q_less (Nat.le_of_ble_eq_true rfl) (Nat.le_of_ble_eq_true rfl) (q_subk [3, 5, 1, 0] rfl hV)
    · have hV := hV.2 h6
      exact q_less (Nat.le_of_ble_eq_true rfl) (Nat.le_of_ble_eq_true rfl) (q_subk [] rfl hV)
def V_PF_cellsOfSquares (x0 : Nat) (x1 : Int32) (x2 : Int32) (σ : q_S) (R : q_O → q_S → Prop) : Prop :=
  ∀ (P5 : Nat → Int32 → Int32 → Int32 → Int32 → q_S → Prop),
  ∀ (P35 : Int32 → Int32 → q_S → Prop),
  ∀ (P41 : Int32 → Int32 → Int32 → Int32 → q_S → Prop),
  ∀ (P69 : Int32 → Int32 → Int32 → Int32 → q_S → Prop),
  (∀ (x0 : Nat) (x1 : Int32) (x2 : Int32) (x3 : Int32) (x4 : Int32) (σ : q_S), (((x2 ≤ x4 → P35 x2 x3 σ) ∧ (¬ (x2 ≤ x4) → (((24 : Int32) ≤ (x1 + x4) → P35 x2 x3 σ) ∧ (¬ ((24 : Int32) ≤ (x1 + x4)) → (q_K σ x0 = 1000 ∨ q_K σ x0 = 2000) ∧ vp_in (x1 + x4) (q_Z σ x0) ∧ ∀ v3 : Int32, v3 = x3 &&& (q_I σ x0 (x1 + x4).toNatClampNeg) → ∀ v6 : Int32, v6 = x4 + (1 : Int32) → P5 x0 x1 x2 v3 v6 σ))))) → P5 x0 x1 x2 x3 x4 σ) →
  (∀ (x2 : Int32) (x3 : Int32) (σ : q_S), (P41 x2 x3 x3 (1 : Int32) σ) → P35 x2 x3 σ) →
  (∀ (x2 : Int32) (x3 : Int32) (x4 : Int32) (x5 : Int32) (σ : q_S), (((x2 ≤ x5 → P69 x2 x4 x4 (1 : Int32) σ) ∧ (¬ (x2 ≤ x5) → ∀ v2 : Int32, v2 = x4 &&& (q_ushr x3 x5) → ∀ v3 : Int32, v3 = x5 + (1 : Int32) → P41 x2 x3 v2 v3 σ))) → P41 x2 x3 x4 x5 σ) →
  (∀ (x2 : Int32) (x4 : Int32) (x5 : Int32) (x6 : Int32) (σ : q_S), (((x2 ≤ x6 → R (.inl (some (.inl x5))) σ) ∧ (¬ (x2 ≤ x6) → ∀ v2 : Int32, v2 = x5 ||| (x4 <<< (x6 &&& 31)) → ∀ v3 : Int32, v3 = x6 + (1 : Int32) → P69 x2 x4 v2 v3 σ))) → P69 x2 x4 x5 x6 σ) →
  P5 x0 x1 x2 (-1 : Int32) (0 : Int32) σ
set_option maxRecDepth 100000 in
theorem t_PF_cellsOfSquares {l : Launch} {cx : q_C} {x0 : Nat} {x1 : Int32} {x2 : Int32} {σ : q_S} {R : q_O → q_S → Prop} (hV : V_PF_cellsOfSquares x0 x1 x2 σ R) : q_Ct l cx M_PF_cellsOfSquares 0 0 0 0 [q_r x0, q_i x1, q_i x2] σ R := by
  refine q_Ct.of p_PF_cellsOfSquares c_PF_cellsOfSquares rfl (Nat.le_of_ble_eq_true rfl) ?_
  have hV := hV (fun (x0 : Nat) (x1 : Int32) (x2 : Int32) (x3 : Int32) (x4 : Int32) (σ : q_S) => q_G l cx M_PF_cellsOfSquares 0 0 0 0 5 [(0, .inr (.inr x0)), (1, .inl x1), (2, .inl x2), (3, .inl x3), (4, .inl x4)] [] σ R) (fun (x2 : Int32) (x3 : Int32) (σ : q_S) => q_G l cx M_PF_cellsOfSquares 0 0 0 0 35 [(2, .inl x2), (3, .inl x3)] [] σ R) (fun (x2 : Int32) (x3 : Int32) (x4 : Int32) (x5 : Int32) (σ : q_S) => q_G l cx M_PF_cellsOfSquares 0 0 0 0 41 [(2, .inl x2), (3, .inl x3), (4, .inl x4), (5, .inl x5)] [] σ R) (fun (x2 : Int32) (x4 : Int32) (x5 : Int32) (x6 : Int32) (σ : q_S) => q_G l cx M_PF_cellsOfSquares 0 0 0 0 69 [(2, .inl x2), (4, .inl x4), (5, .inl x5), (6, .inl x6)] [] σ R)
  have hV := hV (by
      intro x0 x1 x2 x3 x4 σ hV
      show q_G l cx M_PF_cellsOfSquares 0 0 0 0 5 [(0, .inr (.inr x0)), (1, .inl x1), (2, .inl x2), (3, .inl x3), (4, .inl x4)] [] σ R
      refine q_run k_PF_cellsOfSquares 4 2 8 rfl ?_
      show q_G l cx M_PF_cellsOfSquares 0 0 0 0 8 [(0, .inr (.inr x0)), (1, .inl x1), (2, .inl x2), (3, .inl x3), (4, .inl x4)] [.inl x2, .inl x4] σ R
      refine q_icmp (q_dc k_PF_cellsOfSquares 6 rfl) rfl (fun h1 => ?_) (fun h1 => ?_)
      · have hV := hV.1 h1
        exact q_less (Nat.le_of_ble_eq_true rfl) (Nat.le_of_ble_eq_true rfl) (q_subk [2, 3] rfl hV)
      · have hV := hV.2 h1
        refine q_run k_PF_cellsOfSquares 7 4 17 rfl ?_
        show q_G l cx M_PF_cellsOfSquares 0 0 0 0 17 [(0, .inr (.inr x0)), (1, .inl x1), (2, .inl x2), (3, .inl x3), (4, .inl x4)] [.inl (24 : Int32), .inl (x1 + x4)] σ R
        refine q_icmp (q_dc k_PF_cellsOfSquares 11 rfl) rfl (fun h2 => ?_) (fun h2 => ?_)
        · have hV := hV.1 h2
          exact q_less (Nat.le_of_ble_eq_true rfl) (Nat.le_of_ble_eq_true rfl) (q_subk [2, 3] rfl hV)
        · have hV := hV.2 h2
          refine q_run k_PF_cellsOfSquares 12 8 29 rfl ?_
          show (q_K σ x0 = 1000 ∨ q_K σ x0 = 2000) ∧ vp_in (x1 + x4) (q_Z σ x0) ∧ q_G l cx M_PF_cellsOfSquares 0 0 0 0 29 [(3, .inl (x3 &&& (q_I σ x0 (x1 + x4).toNatClampNeg))), (0, .inr (.inr x0)), (1, .inl x1), (2, .inl x2), (4, .inl x4)] [] σ R
          obtain ⟨s4, s5, hV⟩ := hV
          refine ⟨s4, s5, ?_⟩
          refine q_let (fun v3 => q_G l cx M_PF_cellsOfSquares 0 0 0 0 29 [(3, .inl v3), (0, .inr (.inr x0)), (1, .inl x1), (2, .inl x2), (4, .inl x4)] [] σ R) (x3 &&& (q_I σ x0 (x1 + x4).toNatClampNeg)) (fun v3 e_v3 => ?_)
          have hV := hV v3 e_v3
          refine q_run k_PF_cellsOfSquares 20 1 32 rfl ?_
          show q_G l cx M_PF_cellsOfSquares 0 0 0 0 32 [(4, .inl (x4 + (1 : Int32))), (3, .inl v3), (0, .inr (.inr x0)), (1, .inl x1), (2, .inl x2)] [] σ R
          refine q_let (fun v6 => q_G l cx M_PF_cellsOfSquares 0 0 0 0 32 [(4, .inl v6), (3, .inl v3), (0, .inr (.inr x0)), (1, .inl x1), (2, .inl x2)] [] σ R) (x4 + (1 : Int32)) (fun v6 e_v6 => ?_)
          have hV := hV v6 e_v6
          refine q_goto (q_dc k_PF_cellsOfSquares 21 rfl) rfl ?_
          exact q_less (Nat.le_of_ble_eq_true rfl) (Nat.le_of_ble_eq_true rfl) (q_subk [2, 3, 4, 1, 0] rfl hV))
  have hV := hV (by
      intro x2 x3 σ hV
      show q_G l cx M_PF_cellsOfSquares 0 0 0 0 35 [(2, .inl x2), (3, .inl x3)] [] σ R
      refine q_run k_PF_cellsOfSquares 22 4 41 rfl ?_
      show q_G l cx M_PF_cellsOfSquares 0 0 0 0 41 [(5, .inl (1 : Int32)), (4, .inl x3), (2, .inl x2), (3, .inl x3)] [] σ R
      exact q_less (Nat.le_of_ble_eq_true rfl) (Nat.le_of_ble_eq_true rfl) (q_subk [2, 3, 1, 0] rfl hV))
  have hV := hV (by
      intro x2 x3 x4 x5 σ hV
      show q_G l cx M_PF_cellsOfSquares 0 0 0 0 41 [(2, .inl x2), (3, .inl x3), (4, .inl x4), (5, .inl x5)] [] σ R
      refine q_run k_PF_cellsOfSquares 26 2 44 rfl ?_
      show q_G l cx M_PF_cellsOfSquares 0 0 0 0 44 [(2, .inl x2), (3, .inl x3), (4, .inl x4), (5, .inl x5)] [.inl x2, .inl x5] σ R
      refine q_icmp (q_dc k_PF_cellsOfSquares 28 rfl) rfl (fun h1 => ?_) (fun h1 => ?_)
      · have hV := hV.1 h1
        refine q_run k_PF_cellsOfSquares 37 4 69 rfl ?_
        show q_G l cx M_PF_cellsOfSquares 0 0 0 0 69 [(6, .inl (1 : Int32)), (5, .inl x4), (2, .inl x2), (3, .inl x3), (4, .inl x4)] [] σ R
        exact q_less (Nat.le_of_ble_eq_true rfl) (Nat.le_of_ble_eq_true rfl) (q_subk [2, 4, 1, 0] rfl hV)
      · have hV := hV.2 h1
        refine q_run k_PF_cellsOfSquares 29 6 56 rfl ?_
        show q_G l cx M_PF_cellsOfSquares 0 0 0 0 56 [(4, .inl (x4 &&& (q_ushr x3 x5))), (2, .inl x2), (3, .inl x3), (5, .inl x5)] [] σ R
        refine q_let (fun v2 => q_G l cx M_PF_cellsOfSquares 0 0 0 0 56 [(4, .inl v2), (2, .inl x2), (3, .inl x3), (5, .inl x5)] [] σ R) (x4 &&& (q_ushr x3 x5)) (fun v2 e_v2 => ?_)
        have hV := hV v2 e_v2
        refine q_run k_PF_cellsOfSquares 35 1 59 rfl ?_
        show q_G l cx M_PF_cellsOfSquares 0 0 0 0 59 [(5, .inl (x5 + (1 : Int32))), (4, .inl v2), (2, .inl x2), (3, .inl x3)] [] σ R
        refine q_let (fun v3 => q_G l cx M_PF_cellsOfSquares 0 0 0 0 59 [(5, .inl v3), (4, .inl v2), (2, .inl x2), (3, .inl x3)] [] σ R) (x5 + (1 : Int32)) (fun v3 e_v3 => ?_)
        have hV := hV v3 e_v3
        refine q_goto (q_dc k_PF_cellsOfSquares 36 rfl) rfl ?_
        exact q_less (Nat.le_of_ble_eq_true rfl) (Nat.le_of_ble_eq_true rfl) (q_subk [2, 3, 1, 0] rfl hV))
  have hV := hV (by
      intro x2 x4 x5 x6 σ hV
      show q_G l cx M_PF_cellsOfSquares 0 0 0 0 69 [(2, .inl x2), (4, .inl x4), (5, .inl x5), (6, .inl x6)] [] σ R
      refine q_run k_PF_cellsOfSquares 41 2 72 rfl ?_
      show q_G l cx M_PF_cellsOfSquares 0 0 0 0 72 [(2, .inl x2), (4, .inl x4), (5, .inl x5), (6, .inl x6)] [.inl x2, .inl x6] σ R
      refine q_icmp (q_dc k_PF_cellsOfSquares 43 rfl) rfl (fun h1 => ?_) (fun h1 => ?_)
      · have hV := hV.1 h1
        refine q_run k_PF_cellsOfSquares 52 1 93 rfl ?_
        show q_G l cx M_PF_cellsOfSquares 0 0 0 0 93 [(2, .inl x2), (4, .inl x4), (5, .inl x5), (6, .inl x6)] [.inl x5] σ R
        exact q_ireturn (q_dc k_PF_cellsOfSquares 53 rfl) rfl hV
      · have hV := hV.2 h1
        refine q_run k_PF_cellsOfSquares 44 6 85 rfl ?_
        show q_G l cx M_PF_cellsOfSquares 0 0 0 0 85 [(5, .inl (x5 ||| (x4 <<< (x6 &&& 31)))), (2, .inl x2), (4, .inl x4), (6, .inl x6)] [] σ R
        refine q_let (fun v2 => q_G l cx M_PF_cellsOfSquares 0 0 0 0 85 [(5, .inl v2), (2, .inl x2), (4, .inl x4), (6, .inl x6)] [] σ R) (x5 ||| (x4 <<< (x6 &&& 31))) (fun v2 e_v2 => ?_)
        have hV := hV v2 e_v2
        refine q_run k_PF_cellsOfSquares 50 1 88 rfl ?_
        show q_G l cx M_PF_cellsOfSquares 0 0 0 0 88 [(6, .inl (x6 + (1 : Int32))), (5, .inl v2), (2, .inl x2), (4, .inl x4)] [] σ R
        refine q_let (fun v3 => q_G l cx M_PF_cellsOfSquares 0 0 0 0 88 [(6, .inl v3), (5, .inl v2), (2, .inl x2), (4, .inl x4)] [] σ R) (x6 + (1 : Int32)) (fun v3 e_v3 => ?_)
        have hV := hV v3 e_v3
        refine q_goto (q_dc k_PF_cellsOfSquares 51 rfl) rfl ?_
        exact q_less (Nat.le_of_ble_eq_true rfl) (Nat.le_of_ble_eq_true rfl) (q_subk [2, 3, 1, 0] rfl hV))
  refine q_run k_PF_cellsOfSquares 0 4 5 rfl ?_
  show q_G l cx M_PF_cellsOfSquares 0 0 0 0 5 [(4, .inl (0 : Int32)), (3, .inl (-1 : Int32)), (0, .inr (.inr x0)), (1, .inl x1), (2, .inl x2)] [] σ R
  exact q_less (Nat.le_of_ble_eq_true rfl) (Nat.le_of_ble_eq_true rfl) (q_subk [2, 3, 4, 1, 0] rfl hV)
def V_PF_takeOffNecks (x0 : Nat) (x1 : Nat) (σ : q_S) (R : q_O → q_S → Prop) : Prop :=
  ∀ (P17 : Nat → Nat → Int32 → Int32 → q_S → Prop),
  ∀ (P36 : Nat → Nat → Int32 → Int32 → Int32 → Int32 → q_S → Prop),
  ∀ (P73 : Nat → Nat → Int32 → Int32 → q_S → Prop),
  ∀ (P100 : Nat → Nat → Int32 → Int32 → Int32 → q_S → Prop),
  (∀ (x0 : Nat) (x1 : Nat) (x2 : Int32) (x3 : Int32) (σ : q_S), ((((24 : Int32) < (x3 + x2) → P73 x0 x1 (0 : Int32) (0 : Int32) σ) ∧ (¬ ((24 : Int32) < (x3 + x2)) → V_PF_cellsOfSquares x1 x3 x2 σ (q_ci (fun v4 σ5 => P36 x0 x1 x2 x3 v4 (0 : Int32) σ5) (fun n9 σ9 => R (.inr n9) σ9))))) → P17 x0 x1 x2 x3 σ) →
  (∀ (x0 : Nat) (x1 : Nat) (x2 : Int32) (x3 : Int32) (x4 : Int32) (x5 : Int32) (σ : q_S), (((x2 ≤ x5 → ∀ v2 : Int32, v2 = x3 + (1 : Int32) → P17 x0 x1 x2 v2 σ) ∧ (¬ (x2 ≤ x5) → q_K σ x0 = 1 ∧ (q_K σ (q_P σ x0 8) = 1000 ∨ q_K σ (q_P σ x0 8) = 2000) ∧ vp_in (x3 + x5) (q_Z σ (q_P σ x0 8)) ∧ q_K σ (q_P σ x0 8) = 1000 ∧ vp_in (x3 + x5) (q_Z σ (q_P σ x0 8)) ∧ ∀ σ3 : q_S, σ3 = q_wI σ (q_P σ x0 8) (x3 + x5).toNatClampNeg ((q_I σ (q_P σ x0 8) (x3 + x5).toNatClampNeg) ||| x4) → ∀ v9 : Int32, v9 = x5 + (1 : Int32) → P36 x0 x1 x2 x3 x4 v9 σ3))) → P36 x0 x1 x2 x3 x4 x5 σ) →
  (∀ (x0 : Nat) (x1 : Nat) (x3 : Int32) (x4 : Int32) (σ : q_S), ((((24 : Int32) ≤ x4 → ((x3 = 0 ∨ x3 = 1) ∧ R (.inl (some (.inl x3))) σ)) ∧ (¬ ((24 : Int32) ≤ x4) → (q_K σ x1 = 1000 ∨ q_K σ x1 = 2000) ∧ vp_in x4 (q_Z σ x1) ∧ q_K σ x0 = 1 ∧ (q_K σ (q_P σ x0 8) = 1000 ∨ q_K σ (q_P σ x0 8) = 2000) ∧ vp_in x4 (q_Z σ (q_P σ x0 8)) ∧ (((q_I σ x1 x4.toNatClampNeg) = (q_I σ (q_P σ x0 8) x4.toNatClampNeg) → P100 x0 x1 x4 (0 : Int32) x3 σ) ∧ (¬ ((q_I σ x1 x4.toNatClampNeg) = (q_I σ (q_P σ x0 8) x4.toNatClampNeg)) → P100 x0 x1 x4 (1 : Int32) x3 σ))))) → P73 x0 x1 x3 x4 σ) →
  (∀ (x0 : Nat) (x1 : Nat) (x4 : Int32) (y0 : Int32) (y1 : Int32) (σ : q_S), (∀ v1 : Int32, v1 = y1 ||| y0 → q_K σ x0 = 1 ∧ (q_K σ (q_P σ x0 8) = 1000 ∨ q_K σ (q_P σ x0 8) = 2000) ∧ vp_in x4 (q_Z σ (q_P σ x0 8)) ∧ q_K σ x1 = 1000 ∧ vp_in x4 (q_Z σ x1) ∧ ∀ σ2 : q_S, σ2 = q_wI σ x1 x4.toNatClampNeg (q_I σ (q_P σ x0 8) x4.toNatClampNeg) → ∀ v8 : Int32, v8 = x4 + (1 : Int32) → P73 x0 x1 v1 v8 σ2) → P100 x0 x1 x4 y0 y1 σ) →
  q_K σ x0 = 1 ∧ (q_K σ (q_P σ x0 5) = 1000 ∨ q_K σ (q_P σ x0 5) = 2000) ∧ vp_in (2 : Int32) (q_Z σ (q_P σ x0 5)) ∧ ∀ v1 : Int32, v1 = q_I σ (q_P σ x0 5) (2 : Int32).toNatClampNeg → q_K σ x0 = 1 ∧ V_AR_fill (q_P σ x0 8) (0 : Int32) σ (q_cv (fun σ9 => P17 x0 x1 v1 (0 : Int32) σ9) (fun n9 σ9 => R (.inr n9) σ9))
set_option maxRecDepth 100000 in
theorem t_PF_takeOffNecks {l : Launch} {cx : q_C} {x0 : Nat} {x1 : Nat} {σ : q_S} {R : q_O → q_S → Prop} (hV : V_PF_takeOffNecks x0 x1 σ R) : q_Ct l cx M_PF_takeOffNecks 1 64 0 0 [q_r x0, q_r x1] σ R := by
  refine q_Ct.of p_PF_takeOffNecks c_PF_takeOffNecks rfl (Nat.le_of_ble_eq_true rfl) ?_
  have hV := hV (fun (x0 : Nat) (x1 : Nat) (x2 : Int32) (x3 : Int32) (σ : q_S) => q_G l cx M_PF_takeOffNecks 1 64 0 0 17 [(0, .inr (.inr x0)), (1, .inr (.inr x1)), (2, .inl x2), (3, .inl x3)] [] σ R) (fun (x0 : Nat) (x1 : Nat) (x2 : Int32) (x3 : Int32) (x4 : Int32) (x5 : Int32) (σ : q_S) => q_G l cx M_PF_takeOffNecks 1 64 0 0 36 [(0, .inr (.inr x0)), (1, .inr (.inr x1)), (2, .inl x2), (3, .inl x3), (4, .inl x4), (5, .inl x5)] [] σ R) (fun (x0 : Nat) (x1 : Nat) (x3 : Int32) (x4 : Int32) (σ : q_S) => q_G l cx M_PF_takeOffNecks 1 64 0 0 73 [(0, .inr (.inr x0)), (1, .inr (.inr x1)), (3, .inl x3), (4, .inl x4)] [] σ R) (fun (x0 : Nat) (x1 : Nat) (x4 : Int32) (y0 : Int32) (y1 : Int32) (σ : q_S) => q_G l cx M_PF_takeOffNecks 1 64 0 0 100 [(0, .inr (.inr x0)), (1, .inr (.inr x1)), (4, .inl x4)] [.inl y0, .inl y1] σ R)
  have hV := hV (by
      intro x0 x1 x2 x3 σ hV
      show q_G l cx M_PF_takeOffNecks 1 64 0 0 17 [(0, .inr (.inr x0)), (1, .inr (.inr x1)), (2, .inl x2), (3, .inl x3)] [] σ R
      refine q_run k_PF_takeOffNecks 11 4 22 rfl ?_
      show q_G l cx M_PF_takeOffNecks 1 64 0 0 22 [(0, .inr (.inr x0)), (1, .inr (.inr x1)), (2, .inl x2), (3, .inl x3)] [.inl (24 : Int32), .inl (x3 + x2)] σ R
      refine q_icmp (q_dc k_PF_takeOffNecks 15 rfl) rfl (fun h1 => ?_) (fun h1 => ?_)
      · have hV := hV.1 h1
        refine q_run k_PF_takeOffNecks 40 4 73 rfl ?_
        show q_G l cx M_PF_takeOffNecks 1 64 0 0 73 [(4, .inl (0 : Int32)), (3, .inl (0 : Int32)), (0, .inr (.inr x0)), (1, .inr (.inr x1)), (2, .inl x2)] [] σ R
        exact q_less (Nat.le_of_ble_eq_true rfl) (Nat.le_of_ble_eq_true rfl) (q_subk [2, 3, 1, 0] rfl hV)
      · have hV := hV.2 h1
        refine q_run k_PF_takeOffNecks 16 3 28 rfl ?_
        show q_G l cx M_PF_takeOffNecks 1 64 0 0 28 [(0, .inr (.inr x0)), (1, .inr (.inr x1)), (2, .inl x2), (3, .inl x3)] [.inl x2, .inl x3, .inr (.inr x1)] σ R
        refine q_callS (st := []) (t_PF_cellsOfSquares (l := l) (cx := cx)  hV) (q_dc k_PF_takeOffNecks 19 rfl) (Or.inl (List.mem_of_getElem? (i := 235) (by decide +kernel))) w_PF_cellsOfSquares s_PF_cellsOfSquares a_PF_cellsOfSquares (q_wt (Nat.le_of_ble_eq_true rfl)) ⟨Nat.le_of_ble_eq_true rfl, Nat.le_of_ble_eq_true rfl⟩ (fun v9 τ9 q9 => ?_) (fun n9 τ9 q9 => q_T.leave rfl q9)
        obtain ⟨v4, rfl, hV⟩ := q_ci_elim q9
        clear q9
        have hV := hV
        revert hV
        generalize τ9 = σ5
        intro hV
        show q_G l cx M_PF_takeOffNecks 1 64 0 0 31 [(0, .inr (.inr x0)), (1, .inr (.inr x1)), (2, .inl x2), (3, .inl x3)] [.inl v4] σ5 R
        refine q_run k_PF_takeOffNecks 20 3 36 rfl ?_
        show q_G l cx M_PF_takeOffNecks 1 64 0 0 36 [(5, .inl (0 : Int32)), (4, .inl v4), (0, .inr (.inr x0)), (1, .inr (.inr x1)), (2, .inl x2), (3, .inl x3)] [] σ5 R
        exact q_less (Nat.le_of_ble_eq_true rfl) (Nat.le_of_ble_eq_true rfl) (q_subk [2, 3, 4, 5, 1, 0] rfl hV))
  have hV := hV (by
      intro x0 x1 x2 x3 x4 x5 σ hV
      show q_G l cx M_PF_takeOffNecks 1 64 0 0 36 [(0, .inr (.inr x0)), (1, .inr (.inr x1)), (2, .inl x2), (3, .inl x3), (4, .inl x4), (5, .inl x5)] [] σ R
      refine q_run k_PF_takeOffNecks 23 2 39 rfl ?_
      show q_G l cx M_PF_takeOffNecks 1 64 0 0 39 [(0, .inr (.inr x0)), (1, .inr (.inr x1)), (2, .inl x2), (3, .inl x3), (4, .inl x4), (5, .inl x5)] [.inl x2, .inl x5] σ R
      refine q_icmp (q_dc k_PF_takeOffNecks 25 rfl) rfl (fun h1 => ?_) (fun h1 => ?_)
      · have hV := hV.1 h1
        refine q_run k_PF_takeOffNecks 38 1 65 rfl ?_
        show q_G l cx M_PF_takeOffNecks 1 64 0 0 65 [(3, .inl (x3 + (1 : Int32))), (0, .inr (.inr x0)), (1, .inr (.inr x1)), (2, .inl x2), (4, .inl x4), (5, .inl x5)] [] σ R
        refine q_let (fun v2 => q_G l cx M_PF_takeOffNecks 1 64 0 0 65 [(3, .inl v2), (0, .inr (.inr x0)), (1, .inr (.inr x1)), (2, .inl x2), (4, .inl x4), (5, .inl x5)] [] σ R) (x3 + (1 : Int32)) (fun v2 e_v2 => ?_)
        have hV := hV v2 e_v2
        refine q_goto (q_dc k_PF_takeOffNecks 39 rfl) rfl ?_
        exact q_less (Nat.le_of_ble_eq_true rfl) (Nat.le_of_ble_eq_true rfl) (q_subk [1, 2, 3, 0] rfl hV)
      · have hV := hV.2 h1
        refine q_run k_PF_takeOffNecks 26 10 56 rfl ?_
        show q_K σ x0 = 1 ∧ (q_K σ (q_P σ x0 8) = 1000 ∨ q_K σ (q_P σ x0 8) = 2000) ∧ vp_in (x3 + x5) (q_Z σ (q_P σ x0 8)) ∧ q_K σ (q_P σ x0 8) = 1000 ∧ vp_in (x3 + x5) (q_Z σ (q_P σ x0 8)) ∧ q_G l cx M_PF_takeOffNecks 1 64 0 0 56 [(0, .inr (.inr x0)), (1, .inr (.inr x1)), (2, .inl x2), (3, .inl x3), (4, .inl x4), (5, .inl x5)] [] (q_wI σ (q_P σ x0 8) (x3 + x5).toNatClampNeg ((q_I σ (q_P σ x0 8) (x3 + x5).toNatClampNeg) ||| x4)) R
        obtain ⟨s4, s5, s6, s7, s8, hV⟩ := hV
        refine ⟨s4, s5, s6, s7, s8, ?_⟩
        refine q_let (fun σ3 => q_G l cx M_PF_takeOffNecks 1 64 0 0 56 [(0, .inr (.inr x0)), (1, .inr (.inr x1)), (2, .inl x2), (3, .inl x3), (4, .inl x4), (5, .inl x5)] [] σ3 R) (q_wI σ (q_P σ x0 8) (x3 + x5).toNatClampNeg ((q_I σ (q_P σ x0 8) (x3 + x5).toNatClampNeg) ||| x4)) (fun σ3 e_σ3 => ?_)
        have hV := hV σ3 e_σ3
        refine q_run k_PF_takeOffNecks 36 1 59 rfl ?_
        show q_G l cx M_PF_takeOffNecks 1 64 0 0 59 [(5, .inl (x5 + (1 : Int32))), (0, .inr (.inr x0)), (1, .inr (.inr x1)), (2, .inl x2), (3, .inl x3), (4, .inl x4)] [] σ3 R
        refine q_let (fun v9 => q_G l cx M_PF_takeOffNecks 1 64 0 0 59 [(5, .inl v9), (0, .inr (.inr x0)), (1, .inr (.inr x1)), (2, .inl x2), (3, .inl x3), (4, .inl x4)] [] σ3 R) (x5 + (1 : Int32)) (fun v9 e_v9 => ?_)
        have hV := hV v9 e_v9
        refine q_goto (q_dc k_PF_takeOffNecks 37 rfl) rfl ?_
        exact q_less (Nat.le_of_ble_eq_true rfl) (Nat.le_of_ble_eq_true rfl) (q_subk [1, 2, 3, 4, 5, 0] rfl hV))
  have hV := hV (by
      intro x0 x1 x3 x4 σ hV
      show q_G l cx M_PF_takeOffNecks 1 64 0 0 73 [(0, .inr (.inr x0)), (1, .inr (.inr x1)), (3, .inl x3), (4, .inl x4)] [] σ R
      refine q_run k_PF_takeOffNecks 44 2 77 rfl ?_
      show q_G l cx M_PF_takeOffNecks 1 64 0 0 77 [(0, .inr (.inr x0)), (1, .inr (.inr x1)), (3, .inl x3), (4, .inl x4)] [.inl (24 : Int32), .inl x4] σ R
      refine q_icmp (q_dc k_PF_takeOffNecks 46 rfl) rfl (fun h1 => ?_) (fun h1 => ?_)
      · have hV := hV.1 h1
        refine q_run k_PF_takeOffNecks 70 1 120 rfl ?_
        show q_G l cx M_PF_takeOffNecks 1 64 0 0 120 [(0, .inr (.inr x0)), (1, .inr (.inr x1)), (3, .inl x3), (4, .inl x4)] [.inl x3] σ R
        exact q_zreturn (q_dc k_PF_takeOffNecks 71 rfl) rfl hV.1 hV.2
      · have hV := hV.2 h1
        refine q_run k_PF_takeOffNecks 47 8 92 rfl ?_
        show (q_K σ x1 = 1000 ∨ q_K σ x1 = 2000) ∧ vp_in x4 (q_Z σ x1) ∧ q_K σ x0 = 1 ∧ (q_K σ (q_P σ x0 8) = 1000 ∨ q_K σ (q_P σ x0 8) = 2000) ∧ vp_in x4 (q_Z σ (q_P σ x0 8)) ∧ q_G l cx M_PF_takeOffNecks 1 64 0 0 92 [(0, .inr (.inr x0)), (1, .inr (.inr x1)), (3, .inl x3), (4, .inl x4)] [.inl (q_I σ (q_P σ x0 8) x4.toNatClampNeg), .inl (q_I σ x1 x4.toNatClampNeg), .inl x3] σ R
        obtain ⟨s2, s3, s4, s5, s6, hV⟩ := hV
        refine ⟨s2, s3, s4, s5, s6, ?_⟩
        refine q_icmp (q_dc k_PF_takeOffNecks 55 rfl) rfl (fun h7 => ?_) (fun h7 => ?_)
        · have hV := hV.1 h7
          refine q_run k_PF_takeOffNecks 58 1 100 rfl ?_
          show q_G l cx M_PF_takeOffNecks 1 64 0 0 100 [(0, .inr (.inr x0)), (1, .inr (.inr x1)), (3, .inl x3), (4, .inl x4)] [.inl (0 : Int32), .inl x3] σ R
          exact q_less (Nat.le_of_ble_eq_true rfl) (Nat.le_of_ble_eq_true rfl) (q_subk [0, 1, 3] rfl hV)
        · have hV := hV.2 h7
          refine q_run k_PF_takeOffNecks 56 1 96 rfl ?_
          show q_G l cx M_PF_takeOffNecks 1 64 0 0 96 [(0, .inr (.inr x0)), (1, .inr (.inr x1)), (3, .inl x3), (4, .inl x4)] [.inl (1 : Int32), .inl x3] σ R
          refine q_goto (q_dc k_PF_takeOffNecks 57 rfl) rfl ?_
          exact q_less (Nat.le_of_ble_eq_true rfl) (Nat.le_of_ble_eq_true rfl) (q_subk [0, 1, 3] rfl hV))
  have hV := hV (by
      intro x0 x1 x4 y0 y1 σ hV
      show q_G l cx M_PF_takeOffNecks 1 64 0 0 100 [(0, .inr (.inr x0)), (1, .inr (.inr x1)), (4, .inl x4)] [.inl y0, .inl y1] σ R
      refine q_run k_PF_takeOffNecks 59 2 102 rfl ?_
      show q_G l cx M_PF_takeOffNecks 1 64 0 0 102 [(3, .inl (y1 ||| y0)), (0, .inr (.inr x0)), (1, .inr (.inr x1)), (4, .inl x4)] [] σ R
      refine q_let (fun v1 => q_G l cx M_PF_takeOffNecks 1 64 0 0 102 [(3, .inl v1), (0, .inr (.inr x0)), (1, .inr (.inr x1)), (4, .inl x4)] [] σ R) (y1 ||| y0) (fun v1 e_v1 => ?_)
      have hV := hV v1 e_v1
      refine q_run k_PF_takeOffNecks 61 7 113 rfl ?_
      show q_K σ x0 = 1 ∧ (q_K σ (q_P σ x0 8) = 1000 ∨ q_K σ (q_P σ x0 8) = 2000) ∧ vp_in x4 (q_Z σ (q_P σ x0 8)) ∧ q_K σ x1 = 1000 ∧ vp_in x4 (q_Z σ x1) ∧ q_G l cx M_PF_takeOffNecks 1 64 0 0 113 [(3, .inl v1), (0, .inr (.inr x0)), (1, .inr (.inr x1)), (4, .inl x4)] [] (q_wI σ x1 x4.toNatClampNeg (q_I σ (q_P σ x0 8) x4.toNatClampNeg)) R
      obtain ⟨s3, s4, s5, s6, s7, hV⟩ := hV
      refine ⟨s3, s4, s5, s6, s7, ?_⟩
      refine q_let (fun σ2 => q_G l cx M_PF_takeOffNecks 1 64 0 0 113 [(3, .inl v1), (0, .inr (.inr x0)), (1, .inr (.inr x1)), (4, .inl x4)] [] σ2 R) (q_wI σ x1 x4.toNatClampNeg (q_I σ (q_P σ x0 8) x4.toNatClampNeg)) (fun σ2 e_σ2 => ?_)
      have hV := hV σ2 e_σ2
      refine q_run k_PF_takeOffNecks 68 1 116 rfl ?_
      show q_G l cx M_PF_takeOffNecks 1 64 0 0 116 [(4, .inl (x4 + (1 : Int32))), (3, .inl v1), (0, .inr (.inr x0)), (1, .inr (.inr x1))] [] σ2 R
      refine q_let (fun v8 => q_G l cx M_PF_takeOffNecks 1 64 0 0 116 [(4, .inl v8), (3, .inl v1), (0, .inr (.inr x0)), (1, .inr (.inr x1))] [] σ2 R) (x4 + (1 : Int32)) (fun v8 e_v8 => ?_)
      have hV := hV v8 e_v8
      refine q_goto (q_dc k_PF_takeOffNecks 69 rfl) rfl ?_
      exact q_less (Nat.le_of_ble_eq_true rfl) (Nat.le_of_ble_eq_true rfl) (q_subk [2, 3, 1, 0] rfl hV))
  refine q_run k_PF_takeOffNecks 0 5 7 rfl ?_
  show q_K σ x0 = 1 ∧ (q_K σ (q_P σ x0 5) = 1000 ∨ q_K σ (q_P σ x0 5) = 2000) ∧ vp_in (2 : Int32) (q_Z σ (q_P σ x0 5)) ∧ q_G l cx M_PF_takeOffNecks 1 64 0 0 7 [(2, .inl (q_I σ (q_P σ x0 5) (2 : Int32).toNatClampNeg)), (0, .inr (.inr x0)), (1, .inr (.inr x1))] [] σ R
  obtain ⟨s2, s3, s4, hV⟩ := hV
  refine ⟨s2, s3, s4, ?_⟩
  refine q_let (fun v1 => q_G l cx M_PF_takeOffNecks 1 64 0 0 7 [(2, .inl v1), (0, .inr (.inr x0)), (1, .inr (.inr x1))] [] σ R) (q_I σ (q_P σ x0 5) (2 : Int32).toNatClampNeg) (fun v1 e_v1 => ?_)
  have hV := hV v1 e_v1
  refine q_run k_PF_takeOffNecks 5 3 12 rfl ?_
  show q_K σ x0 = 1 ∧ q_G l cx M_PF_takeOffNecks 1 64 0 0 12 [(2, .inl v1), (0, .inr (.inr x0)), (1, .inr (.inr x1))] [.inl (0 : Int32), .inr (.inr (q_P σ x0 8))] σ R
  obtain ⟨s5, hV⟩ := hV
  refine ⟨s5, ?_⟩
  refine q_callS (st := []) (t_AR_fill (l := l) (cx := cx)  hV) (q_dc k_PF_takeOffNecks 8 rfl) (Or.inl (List.mem_of_getElem? (i := 232) (by decide +kernel))) w_AR_fill s_AR_fill a_AR_fill (q_wt (Nat.le_of_ble_eq_true rfl)) ⟨Nat.le_of_ble_eq_true rfl, Nat.le_of_ble_eq_true rfl⟩ (fun v9 τ9 q9 => ?_) (fun n9 τ9 q9 => q_T.leave rfl q9)
  obtain ⟨rfl, hV⟩ := q_cv_elim q9
  clear q9
  have hV := hV
  revert hV
  generalize τ9 = σ9
  intro hV
  show q_G l cx M_PF_takeOffNecks 1 64 0 0 15 [(2, .inl v1), (0, .inr (.inr x0)), (1, .inr (.inr x1))] [] σ9 R
  refine q_run k_PF_takeOffNecks 9 2 17 rfl ?_
  show q_G l cx M_PF_takeOffNecks 1 64 0 0 17 [(3, .inl (0 : Int32)), (2, .inl v1), (0, .inr (.inr x0)), (1, .inr (.inr x1))] [] σ9 R
  exact q_less (Nat.le_of_ble_eq_true rfl) (Nat.le_of_ble_eq_true rfl) (q_subk [2, 3, 1, 0] rfl hV)
def V_PF_takeOffHatching (x0 : Nat) (x1 : Nat) (σ : q_S) (R : q_O → q_S → Prop) : Prop :=
  ∀ (P22 : Nat → Nat → Int32 → Int32 → Int32 → q_S → Prop),
  ∀ (P48 : Nat → Nat → Int32 → Int32 → Int32 → q_S → Prop),
  (∀ (x0 : Nat) (x1 : Nat) (x2 : Int32) (x3 : Int32) (x4 : Int32) (σ : q_S), ((((24 : Int32) ≤ x4 → R (.inl none) σ) ∧ (¬ ((24 : Int32) ≤ x4) → ¬ x2 = 0 ∧ q_K σ x0 = 6 ∧ (((x4 - x4 / x2 * x2) < (q_I σ x0 9) → P48 x0 x1 x2 x3 x4 σ) ∧ (¬ ((x4 - x4 / x2 * x2) < (q_I σ x0 9)) → (q_K σ x1 = 1000 ∨ q_K σ x1 = 2000) ∧ vp_in x4 (q_Z σ x1) ∧ q_K σ x1 = 1000 ∧ vp_in x4 (q_Z σ x1) ∧ ∀ σ5 : q_S, σ5 = q_wI σ x1 x4.toNatClampNeg ((q_I σ x1 x4.toNatClampNeg) &&& x3) → P48 x0 x1 x2 x3 x4 σ5))))) → P22 x0 x1 x2 x3 x4 σ) →
  (∀ (x0 : Nat) (x1 : Nat) (x2 : Int32) (x3 : Int32) (x4 : Int32) (σ : q_S), (∀ v1 : Int32, v1 = x4 + (1 : Int32) → P22 x0 x1 x2 x3 v1 σ) → P48 x0 x1 x2 x3 x4 σ) →
  q_K σ x0 = 6 ∧ ∀ v1 : Int32, v1 = q_I σ x0 8 → (((0 : Int32) < v1 → q_K σ x0 = 6 ∧ V_PF_columnsBelow v1 (q_I σ x0 9) σ (q_ci (fun v7 σ8 => P22 x0 x1 v1 v7 (0 : Int32) σ8) (fun n9 σ9 => R (.inr n9) σ9))) ∧ (¬ ((0 : Int32) < v1) → R (.inl none) σ))
set_option maxRecDepth 100000 in
theorem t_PF_takeOffHatching {l : Launch} {cx : q_C} {x0 : Nat} {x1 : Nat} {σ : q_S} {R : q_O → q_S → Prop} (hV : V_PF_takeOffHatching x0 x1 σ R) : q_Ct l cx M_PF_takeOffHatching 3 192 0 0 [q_r x0, q_r x1] σ R := by
  refine q_Ct.of p_PF_takeOffHatching c_PF_takeOffHatching rfl (Nat.le_of_ble_eq_true rfl) ?_
  have hV := hV (fun (x0 : Nat) (x1 : Nat) (x2 : Int32) (x3 : Int32) (x4 : Int32) (σ : q_S) => q_G l cx M_PF_takeOffHatching 3 192 0 0 22 [(0, .inr (.inr x0)), (1, .inr (.inr x1)), (2, .inl x2), (3, .inl x3), (4, .inl x4)] [] σ R) (fun (x0 : Nat) (x1 : Nat) (x2 : Int32) (x3 : Int32) (x4 : Int32) (σ : q_S) => q_G l cx M_PF_takeOffHatching 3 192 0 0 48 [(0, .inr (.inr x0)), (1, .inr (.inr x1)), (2, .inl x2), (3, .inl x3), (4, .inl x4)] [] σ R)
  have hV := hV (by
      intro x0 x1 x2 x3 x4 σ hV
      show q_G l cx M_PF_takeOffHatching 3 192 0 0 22 [(0, .inr (.inr x0)), (1, .inr (.inr x1)), (2, .inl x2), (3, .inl x3), (4, .inl x4)] [] σ R
      refine q_run k_PF_takeOffHatching 13 2 26 rfl ?_
      show q_G l cx M_PF_takeOffHatching 3 192 0 0 26 [(0, .inr (.inr x0)), (1, .inr (.inr x1)), (2, .inl x2), (3, .inl x3), (4, .inl x4)] [.inl (24 : Int32), .inl x4] σ R
      refine q_icmp (q_dc k_PF_takeOffHatching 15 rfl) rfl (fun h1 => ?_) (fun h1 => ?_)
      · have hV := hV.1 h1
        exact q_vreturn (q_dc k_PF_takeOffHatching 31 rfl) rfl hV
      · have hV := hV.2 h1
        refine q_run k_PF_takeOffHatching 16 5 37 rfl ?_
        show ¬ x2 = 0 ∧ q_K σ x0 = 6 ∧ q_G l cx M_PF_takeOffHatching 3 192 0 0 37 [(0, .inr (.inr x0)), (1, .inr (.inr x1)), (2, .inl x2), (3, .inl x3), (4, .inl x4)] [.inl (q_I σ x0 9), .inl (x4 - x4 / x2 * x2)] σ R
        obtain ⟨s2, s3, hV⟩ := hV
        refine ⟨s2, s3, ?_⟩
        refine q_icmp (q_dc k_PF_takeOffHatching 21 rfl) rfl (fun h4 => ?_) (fun h4 => ?_)
        · have hV := hV.1 h4
          exact q_less (Nat.le_of_ble_eq_true rfl) (Nat.le_of_ble_eq_true rfl) (q_subk [0, 1, 2, 3, 4] rfl hV)
        · have hV := hV.2 h4
          refine q_run k_PF_takeOffHatching 22 7 48 rfl ?_
          show (q_K σ x1 = 1000 ∨ q_K σ x1 = 2000) ∧ vp_in x4 (q_Z σ x1) ∧ q_K σ x1 = 1000 ∧ vp_in x4 (q_Z σ x1) ∧ q_G l cx M_PF_takeOffHatching 3 192 0 0 48 [(0, .inr (.inr x0)), (1, .inr (.inr x1)), (2, .inl x2), (3, .inl x3), (4, .inl x4)] [] (q_wI σ x1 x4.toNatClampNeg ((q_I σ x1 x4.toNatClampNeg) &&& x3)) R
          obtain ⟨s6, s7, s8, s9, hV⟩ := hV
          refine ⟨s6, s7, s8, s9, ?_⟩
          refine q_let (fun σ5 => q_G l cx M_PF_takeOffHatching 3 192 0 0 48 [(0, .inr (.inr x0)), (1, .inr (.inr x1)), (2, .inl x2), (3, .inl x3), (4, .inl x4)] [] σ5 R) (q_wI σ x1 x4.toNatClampNeg ((q_I σ x1 x4.toNatClampNeg) &&& x3)) (fun σ5 e_σ5 => ?_)
          have hV := hV σ5 e_σ5
          exact q_less (Nat.le_of_ble_eq_true rfl) (Nat.le_of_ble_eq_true rfl) (q_subk [0, 1, 2, 3, 4] rfl hV))
  have hV := hV (by
      intro x0 x1 x2 x3 x4 σ hV
      show q_G l cx M_PF_takeOffHatching 3 192 0 0 48 [(0, .inr (.inr x0)), (1, .inr (.inr x1)), (2, .inl x2), (3, .inl x3), (4, .inl x4)] [] σ R
      refine q_run k_PF_takeOffHatching 29 1 51 rfl ?_
      show q_G l cx M_PF_takeOffHatching 3 192 0 0 51 [(4, .inl (x4 + (1 : Int32))), (0, .inr (.inr x0)), (1, .inr (.inr x1)), (2, .inl x2), (3, .inl x3)] [] σ R
      refine q_let (fun v1 => q_G l cx M_PF_takeOffHatching 3 192 0 0 51 [(4, .inl v1), (0, .inr (.inr x0)), (1, .inr (.inr x1)), (2, .inl x2), (3, .inl x3)] [] σ R) (x4 + (1 : Int32)) (fun v1 e_v1 => ?_)
      have hV := hV v1 e_v1
      refine q_goto (q_dc k_PF_takeOffHatching 30 rfl) rfl ?_
      exact q_less (Nat.le_of_ble_eq_true rfl) (Nat.le_of_ble_eq_true rfl) (q_subk [1, 2, 3, 4, 0] rfl hV))
  refine q_run k_PF_takeOffHatching 0 3 5 rfl ?_
  show q_K σ x0 = 6 ∧ q_G l cx M_PF_takeOffHatching 3 192 0 0 5 [(2, .inl (q_I σ x0 8)), (0, .inr (.inr x0)), (1, .inr (.inr x1))] [] σ R
  obtain ⟨s2, hV⟩ := hV
  refine ⟨s2, ?_⟩
  refine q_let (fun v1 => q_G l cx M_PF_takeOffHatching 3 192 0 0 5 [(2, .inl v1), (0, .inr (.inr x0)), (1, .inr (.inr x1))] [] σ R) (q_I σ x0 8) (fun v1 e_v1 => ?_)
  have hV := hV v1 e_v1
  refine q_run k_PF_takeOffHatching 3 1 6 rfl ?_
  show q_G l cx M_PF_takeOffHatching 3 192 0 0 6 [(2, .inl v1), (0, .inr (.inr x0)), (1, .inr (.inr x1))] [.inl v1] σ R
  refine q_ifz (q_dc k_PF_takeOffHatching 4 rfl) rfl (fun h3 => ?_) (fun h3 => ?_)
  · have hV := hV.1 h3
    refine q_run k_PF_takeOffHatching 6 3 15 rfl ?_
    show q_K σ x0 = 6 ∧ q_G l cx M_PF_takeOffHatching 3 192 0 0 15 [(2, .inl v1), (0, .inr (.inr x0)), (1, .inr (.inr x1))] [.inl (q_I σ x0 9), .inl v1] σ R
    obtain ⟨s4, hV⟩ := hV
    refine ⟨s4, ?_⟩
    refine q_callS (st := []) (t_PF_columnsBelow (l := l) (cx := cx)  hV) (q_dc k_PF_takeOffHatching 9 rfl) (Or.inl (List.mem_of_getElem? (i := 241) (by decide +kernel))) w_PF_columnsBelow s_PF_columnsBelow a_PF_columnsBelow (q_wt (Nat.le_of_ble_eq_true rfl)) ⟨Nat.le_of_ble_eq_true rfl, Nat.le_of_ble_eq_true rfl⟩ (fun v9 τ9 q9 => ?_) (fun n9 τ9 q9 => q_T.leave rfl q9)
    obtain ⟨v7, rfl, hV⟩ := q_ci_elim q9
    clear q9
    have hV := hV
    revert hV
    generalize τ9 = σ8
    intro hV
    show q_G l cx M_PF_takeOffHatching 3 192 0 0 18 [(2, .inl v1), (0, .inr (.inr x0)), (1, .inr (.inr x1))] [.inl v7] σ8 R
    refine q_run k_PF_takeOffHatching 10 3 22 rfl ?_
    show q_G l cx M_PF_takeOffHatching 3 192 0 0 22 [(4, .inl (0 : Int32)), (3, .inl v7), (2, .inl v1), (0, .inr (.inr x0)), (1, .inr (.inr x1))] [] σ8 R
    exact q_less (Nat.le_of_ble_eq_true rfl) (Nat.le_of_ble_eq_true rfl) (q_subk [3, 4, 2, 1, 0] rfl hV)
  · have hV := hV.2 h3
    exact q_vreturn (q_dc k_PF_takeOffHatching 5 rfl) rfl hV
def V_PF_pieceHasPad (x0 : Nat) (x1 : Nat) (σ : q_S) (R : q_O → q_S → Prop) : Prop :=
  ∀ (P2 : Nat → Nat → Int32 → q_S → Prop),
  ∀ (P64 : Nat → Nat → Int32 → q_S → Prop),
  (∀ (x0 : Nat) (x1 : Nat) (x2 : Int32) (σ : q_S), (q_K σ x0 = 1 ∧ q_K σ (q_P σ x0 4) = 8 ∧ V_AL_size (q_P σ x0 4) σ (q_ci (fun v5 σ6 => ((v5 ≤ x2 → R (.inl (some (.inl (0 : Int32)))) σ6) ∧ (¬ (v5 ≤ x2) → q_K σ6 x0 = 1 ∧ q_K σ6 (q_P σ6 x0 4) = 8 ∧ V_AL_get (q_P σ6 x0 4) x2 σ6 (q_cr (fun v12 σ13 => q_K σ13 v12 = 5 ∧ q_K σ13 v12 = 5 ∧ q_K σ13 x1 = 6 ∧ ((¬ (q_I σ13 v12 1) = (q_I σ13 x1 1) → P64 x0 x1 x2 σ13) ∧ (¬ (¬ (q_I σ13 v12 1) = (q_I σ13 x1 1)) → q_K σ13 v12 = 5 ∧ q_K σ13 x1 = 6 ∧ ((¬ (q_I σ13 v12 0) = (q_I σ13 x1 0) → P64 x0 x1 x2 σ13) ∧ (¬ (¬ (q_I σ13 v12 0) = (q_I σ13 x1 0)) → q_K σ13 x0 = 1 ∧ q_K σ13 (q_P σ13 x0 6) = 4 ∧ V_PG_meets (q_P σ13 x0 6) v12 σ13 (q_ci (fun v25 σ26 => ((v25 = (0 : Int32) → P64 x0 x1 x2 σ26) ∧ (¬ (v25 = (0 : Int32)) → R (.inl (some (.inl (1 : Int32)))) σ26))) (fun n9 σ9 => R (.inr n9) σ9))))))) (fun n9 σ9 => R (.inr n9) σ9))))) (fun n9 σ9 => R (.inr n9) σ9))) → P2 x0 x1 x2 σ) →
  (∀ (x0 : Nat) (x1 : Nat) (x2 : Int32) (σ : q_S), (∀ v1 : Int32, v1 = x2 + (1 : Int32) → P2 x0 x1 v1 σ) → P64 x0 x1 x2 σ) →
  P2 x0 x1 (0 : Int32) σ
set_option maxRecDepth 100000 in
theorem t_PF_pieceHasPad {l : Launch} {cx : q_C} {x0 : Nat} {x1 : Nat} {σ : q_S} {R : q_O → q_S → Prop} (hV : V_PF_pieceHasPad x0 x1 σ R) : q_Ct l cx M_PF_pieceHasPad 4 256 0 0 [q_r x0, q_r x1] σ R := by
  refine q_Ct.of p_PF_pieceHasPad c_PF_pieceHasPad rfl (Nat.le_of_ble_eq_true rfl) ?_
  have hV := hV (fun (x0 : Nat) (x1 : Nat) (x2 : Int32) (σ : q_S) => q_G l cx M_PF_pieceHasPad 4 256 0 0 2 [(0, .inr (.inr x0)), (1, .inr (.inr x1)), (2, .inl x2)] [] σ R) (fun (x0 : Nat) (x1 : Nat) (x2 : Int32) (σ : q_S) => q_G l cx M_PF_pieceHasPad 4 256 0 0 64 [(0, .inr (.inr x0)), (1, .inr (.inr x1)), (2, .inl x2)] [] σ R)
  have hV := hV (by
      intro x0 x1 x2 σ hV
      show q_G l cx M_PF_pieceHasPad 4 256 0 0 2 [(0, .inr (.inr x0)), (1, .inr (.inr x1)), (2, .inl x2)] [] σ R
      refine q_run k_PF_pieceHasPad 2 3 7 rfl ?_
      show q_K σ x0 = 1 ∧ q_G l cx M_PF_pieceHasPad 4 256 0 0 7 [(0, .inr (.inr x0)), (1, .inr (.inr x1)), (2, .inl x2)] [.inr (.inr (q_P σ x0 4)), .inl x2] σ R
      obtain ⟨s1, hV⟩ := hV
      refine ⟨s1, ?_⟩
      obtain ⟨s2, hV⟩ := hV
      refine q_callF (st := [.inl x2]) (as := []) (x := ⟨"java/util/List", "size", "()I"⟩) (t_AL_size (l := l) (cx := cx)  hV) (q_dc k_PF_pieceHasPad 5 rfl) (List.mem_of_getElem? (i := 172) (by decide +kernel)) w_AL_size n_AL_size (ci := 7) rfl (List.mem_of_getElem? (i := 173) (by decide +kernel)) (List.mem_of_getElem? (i := 0) rfl) (by decide) a_AL_size (q_wt (Nat.le_of_ble_eq_true rfl)) ⟨Nat.le_of_ble_eq_true rfl, Nat.le_of_ble_eq_true rfl⟩ s2 (fun v9 τ9 q9 => ?_) (fun n9 τ9 q9 => q_T.leave rfl q9)
      obtain ⟨v5, rfl, hV⟩ := q_ci_elim q9
      clear q9
      have hV := hV
      revert hV
      generalize τ9 = σ6
      intro hV
      show q_G l cx M_PF_pieceHasPad 4 256 0 0 12 [(0, .inr (.inr x0)), (1, .inr (.inr x1)), (2, .inl x2)] [.inl v5, .inl x2] σ6 R
      refine q_icmp (q_dc k_PF_pieceHasPad 6 rfl) rfl (fun h7 => ?_) (fun h7 => ?_)
      · have hV := hV.1 h7
        refine q_run k_PF_pieceHasPad 32 1 71 rfl ?_
        show q_G l cx M_PF_pieceHasPad 4 256 0 0 71 [(0, .inr (.inr x0)), (1, .inr (.inr x1)), (2, .inl x2)] [.inl (0 : Int32)] σ6 R
        exact q_zreturn (q_dc k_PF_pieceHasPad 33 rfl) rfl (by decide) hV
      · have hV := hV.2 h7
        refine q_run k_PF_pieceHasPad 7 3 20 rfl ?_
        show q_K σ6 x0 = 1 ∧ q_G l cx M_PF_pieceHasPad 4 256 0 0 20 [(0, .inr (.inr x0)), (1, .inr (.inr x1)), (2, .inl x2)] [.inl x2, .inr (.inr (q_P σ6 x0 4))] σ6 R
        obtain ⟨s8, hV⟩ := hV
        refine ⟨s8, ?_⟩
        obtain ⟨s9, hV⟩ := hV
        refine q_callF (st := []) (as := [.inl x2]) (x := ⟨"java/util/List", "get", "(I)Ljava/lang/Object;"⟩) (t_AL_get (l := l) (cx := cx)  hV) (q_dc k_PF_pieceHasPad 10 rfl) (List.mem_of_getElem? (i := 176) (by decide +kernel)) w_AL_get n_AL_get (ci := 7) rfl (List.mem_of_getElem? (i := 177) (by decide +kernel)) (List.mem_of_getElem? (i := 1) rfl) (by decide) a_AL_get (q_wt (Nat.le_of_ble_eq_true rfl)) ⟨Nat.le_of_ble_eq_true rfl, Nat.le_of_ble_eq_true rfl⟩ s9 (fun v9 τ9 q9 => ?_) (fun n9 τ9 q9 => q_T.leave rfl q9)
        obtain ⟨v12, rfl, hV⟩ := q_cr_elim q9
        clear q9
        have hV := hV
        revert hV
        generalize τ9 = σ13
        intro hV
        show q_G l cx M_PF_pieceHasPad 4 256 0 0 25 [(0, .inr (.inr x0)), (1, .inr (.inr x1)), (2, .inl x2)] [.inr (.inr v12)] σ13 R
        obtain ⟨s14, hV⟩ := hV
        refine q_cast1 (ci := 4) (q_dc k_PF_pieceHasPad 11 rfl) rfl s14 (List.mem_of_getElem? (i := 5) rfl) (List.mem_of_getElem? (i := 213) (by decide +kernel)) ?_
        show q_G l cx M_PF_pieceHasPad 4 256 0 0 28 [(0, .inr (.inr x0)), (1, .inr (.inr x1)), (2, .inl x2)] [.inr (.inr v12)] σ13 R
        refine q_run k_PF_pieceHasPad 12 5 37 rfl ?_
        show q_K σ13 v12 = 5 ∧ q_K σ13 x1 = 6 ∧ q_G l cx M_PF_pieceHasPad 4 256 0 0 37 [(3, .inr (.inr v12)), (0, .inr (.inr x0)), (1, .inr (.inr x1)), (2, .inl x2)] [.inl (q_I σ13 x1 1), .inl (q_I σ13 v12 1)] σ13 R
        obtain ⟨s15, s16, hV⟩ := hV
        refine ⟨s15, s16, ?_⟩
        refine q_icmp (q_dc k_PF_pieceHasPad 17 rfl) rfl (fun h17 => ?_) (fun h17 => ?_)
        · have hV := hV.1 h17
          exact q_less (Nat.le_of_ble_eq_true rfl) (Nat.le_of_ble_eq_true rfl) (q_subk [1, 2, 3] rfl hV)
        · have hV := hV.2 h17
          refine q_run k_PF_pieceHasPad 18 4 48 rfl ?_
          show q_K σ13 v12 = 5 ∧ q_K σ13 x1 = 6 ∧ q_G l cx M_PF_pieceHasPad 4 256 0 0 48 [(3, .inr (.inr v12)), (0, .inr (.inr x0)), (1, .inr (.inr x1)), (2, .inl x2)] [.inl (q_I σ13 x1 0), .inl (q_I σ13 v12 0)] σ13 R
          obtain ⟨s18, s19, hV⟩ := hV
          refine ⟨s18, s19, ?_⟩
          refine q_icmp (q_dc k_PF_pieceHasPad 22 rfl) rfl (fun h20 => ?_) (fun h20 => ?_)
          · have hV := hV.1 h20
            exact q_less (Nat.le_of_ble_eq_true rfl) (Nat.le_of_ble_eq_true rfl) (q_subk [1, 2, 3] rfl hV)
          · have hV := hV.2 h20
            refine q_run k_PF_pieceHasPad 23 3 56 rfl ?_
            show q_K σ13 x0 = 1 ∧ q_G l cx M_PF_pieceHasPad 4 256 0 0 56 [(3, .inr (.inr v12)), (0, .inr (.inr x0)), (1, .inr (.inr x1)), (2, .inl x2)] [.inr (.inr v12), .inr (.inr (q_P σ13 x0 6))] σ13 R
            obtain ⟨s21, hV⟩ := hV
            refine ⟨s21, ?_⟩
            obtain ⟨s22, hV⟩ := hV
            refine q_callV (st := []) (as := [.inr (.inr v12)]) (t_PG_meets (l := l) (cx := cx)  hV) (q_dc k_PF_pieceHasPad 26 rfl) (Or.inr ⟨"PlaneFills", List.mem_of_getElem? (i := 9) (by decide +kernel)⟩) w_PG_meets n_PG_meets (ci := 3) rfl e_PG_meets a_PG_meets (q_wt (Nat.le_of_ble_eq_true rfl)) ⟨Nat.le_of_ble_eq_true rfl, Nat.le_of_ble_eq_true rfl⟩ s22 (fun v9 τ9 q9 => ?_) (fun n9 τ9 q9 => q_T.leave rfl q9)
            obtain ⟨v25, rfl, hV⟩ := q_ci_elim q9
            clear q9
            have hV := hV
            revert hV
            generalize τ9 = σ26
            intro hV
            show q_G l cx M_PF_pieceHasPad 4 256 0 0 59 [(3, .inr (.inr v12)), (0, .inr (.inr x0)), (1, .inr (.inr x1)), (2, .inl x2)] [.inl v25] σ26 R
            refine q_ifz (q_dc k_PF_pieceHasPad 27 rfl) rfl (fun h27 => ?_) (fun h27 => ?_)
            · have hV := hV.1 h27
              exact q_less (Nat.le_of_ble_eq_true rfl) (Nat.le_of_ble_eq_true rfl) (q_subk [1, 2, 3] rfl hV)
            · have hV := hV.2 h27
              refine q_run k_PF_pieceHasPad 28 1 63 rfl ?_
              show q_G l cx M_PF_pieceHasPad 4 256 0 0 63 [(3, .inr (.inr v12)), (0, .inr (.inr x0)), (1, .inr (.inr x1)), (2, .inl x2)] [.inl (1 : Int32)] σ26 R
              exact q_zreturn (q_dc k_PF_pieceHasPad 29 rfl) rfl (by decide) hV)
  have hV := hV (by
      intro x0 x1 x2 σ hV
      show q_G l cx M_PF_pieceHasPad 4 256 0 0 64 [(0, .inr (.inr x0)), (1, .inr (.inr x1)), (2, .inl x2)] [] σ R
      refine q_run k_PF_pieceHasPad 30 1 67 rfl ?_
      show q_G l cx M_PF_pieceHasPad 4 256 0 0 67 [(2, .inl (x2 + (1 : Int32))), (0, .inr (.inr x0)), (1, .inr (.inr x1))] [] σ R
      refine q_let (fun v1 => q_G l cx M_PF_pieceHasPad 4 256 0 0 67 [(2, .inl v1), (0, .inr (.inr x0)), (1, .inr (.inr x1))] [] σ R) (x2 + (1 : Int32)) (fun v1 e_v1 => ?_)
      have hV := hV v1 e_v1
      refine q_goto (q_dc k_PF_pieceHasPad 31 rfl) rfl ?_
      exact q_less (Nat.le_of_ble_eq_true rfl) (Nat.le_of_ble_eq_true rfl) (q_subk [1, 2, 0] rfl hV))
  refine q_run k_PF_pieceHasPad 0 2 2 rfl ?_
  show q_G l cx M_PF_pieceHasPad 4 256 0 0 2 [(2, .inl (0 : Int32)), (0, .inr (.inr x0)), (1, .inr (.inr x1))] [] σ R
  exact q_less (Nat.le_of_ble_eq_true rfl) (Nat.le_of_ble_eq_true rfl) (q_subk [1, 2, 0] rfl hV)
def V_PF_takeOffIslands (x0 : Nat) (x1 : Nat) (σ : q_S) (R : q_O → q_S → Prop) : Prop :=
  ∀ (P28 : Nat → Nat → Nat → Int32 → q_S → Prop),
  ∀ (P93 : Nat → Nat → Nat → Int32 → q_S → Prop),
  ∀ (P103 : Nat → Nat → Nat → Int32 → q_S → Prop),
  ∀ (P109 : q_S → Prop),
  (∀ (x0 : Nat) (x1 : Nat) (x2 : Nat) (x3 : Int32) (σ : q_S), ((((768 : Int32) ≤ x3 → P109  σ) ∧ (¬ ((768 : Int32) ≤ x3) → q_K σ x0 = 1 ∧ q_K σ (q_P σ x0 6) = 4 ∧ V_PG_next (q_P σ x0 6) σ (q_ci (fun v6 σ7 => ((v6 = (0 : Int32) → P109  σ7) ∧ (¬ (v6 = (0 : Int32)) → q_K σ7 x0 = 1 ∧ q_K σ7 (q_P σ7 x0 6) = 4 ∧ V_PG_size (q_P σ7 x0 6) σ7 (q_ci (fun v13 σ14 => q_K σ14 x0 = 1 ∧ (q_K σ14 (q_P σ14 x0 5) = 1000 ∨ q_K σ14 (q_P σ14 x0 5) = 2000) ∧ vp_in (3 : Int32) (q_Z σ14 (q_P σ14 x0 5)) ∧ (((q_I σ14 (q_P σ14 x0 5) (3 : Int32).toNatClampNeg) ≤ v13 → P93 x0 x1 x2 x3 σ14) ∧ (¬ ((q_I σ14 (q_P σ14 x0 5) (3 : Int32).toNatClampNeg) ≤ v13) → q_K σ14 x0 = 1 ∧ V_PF_pieceHasPad x0 x1 σ14 (q_ci (fun v22 σ23 => ((¬ v22 = (0 : Int32) → P93 x0 x1 x2 x3 σ23) ∧ (¬ (¬ v22 = (0 : Int32)) → q_K σ23 x2 = 2 ∧ q_K σ23 x2 = 2 ∧ ∀ σ25 : q_S, σ25 = q_wI σ23 x2 2 ((q_I σ23 x2 2) + (1 : Int32)) → q_K σ25 x0 = 1 ∧ q_K σ25 x2 = 2 ∧ q_K σ25 (q_P σ25 x0 6) = 4 ∧ V_PG_takeOff (q_P σ25 x0 6) (q_P σ25 x2 0) σ25 (q_cv (fun σ34 => P103 x0 x1 x2 x3 σ34) (fun n9 σ9 => R (.inr n9) σ9))))) (fun n9 σ9 => R (.inr n9) σ9))))) (fun n9 σ9 => R (.inr n9) σ9))))) (fun n9 σ9 => R (.inr n9) σ9))))) → P28 x0 x1 x2 x3 σ) →
  (∀ (x0 : Nat) (x1 : Nat) (x2 : Nat) (x3 : Int32) (σ : q_S), (q_K σ x2 = 2 ∧ q_K σ x2 = 2 ∧ ∀ σ1 : q_S, σ1 = q_wI σ x2 1 ((q_I σ x2 1) + (1 : Int32)) → P103 x0 x1 x2 x3 σ1) → P93 x0 x1 x2 x3 σ) →
  (∀ (x0 : Nat) (x1 : Nat) (x2 : Nat) (x3 : Int32) (σ : q_S), (∀ v1 : Int32, v1 = x3 + (1 : Int32) → P28 x0 x1 x2 v1 σ) → P103 x0 x1 x2 x3 σ) →
  (∀ (σ : q_S), (R (.inl none) σ) → P109 σ) →
  q_K σ x1 = 6 ∧ ∀ v1 : Nat, v1 = q_P σ x1 11 → q_K σ v1 = 2 ∧ ∀ σ3 : q_S, σ3 = q_wI σ v1 1 (0 : Int32) → q_K σ3 v1 = 2 ∧ ∀ σ5 : q_S, σ5 = q_wI σ3 v1 2 (0 : Int32) → q_K σ5 x0 = 1 ∧ q_K σ5 v1 = 2 ∧ q_K σ5 (q_P σ5 x0 6) = 4 ∧ V_PG_start (q_P σ5 x0 6) (q_P σ5 v1 0) σ5 (q_cv (fun σ13 => P28 x0 x1 v1 (0 : Int32) σ13) (fun n9 σ9 => R (.inr n9) σ9))
set_option maxRecDepth 100000 in
theorem t_PF_takeOffIslands {l : Launch} {cx : q_C} {x0 : Nat} {x1 : Nat} {σ : q_S} {R : q_O → q_S → Prop} (hV : V_PF_takeOffIslands x0 x1 σ R) : q_Ct l cx M_PF_takeOffIslands 5 320 0 0 [q_r x0, q_r x1] σ R := by
  refine q_Ct.of p_PF_takeOffIslands c_PF_takeOffIslands rfl (Nat.le_of_ble_eq_true rfl) ?_
  have hV := hV (fun (x0 : Nat) (x1 : Nat) (x2 : Nat) (x3 : Int32) (σ : q_S) => q_G l cx M_PF_takeOffIslands 5 320 0 0 28 [(0, .inr (.inr x0)), (1, .inr (.inr x1)), (2, .inr (.inr x2)), (3, .inl x3)] [] σ R) (fun (x0 : Nat) (x1 : Nat) (x2 : Nat) (x3 : Int32) (σ : q_S) => q_G l cx M_PF_takeOffIslands 5 320 0 0 93 [(0, .inr (.inr x0)), (1, .inr (.inr x1)), (2, .inr (.inr x2)), (3, .inl x3)] [] σ R) (fun (x0 : Nat) (x1 : Nat) (x2 : Nat) (x3 : Int32) (σ : q_S) => q_G l cx M_PF_takeOffIslands 5 320 0 0 103 [(0, .inr (.inr x0)), (1, .inr (.inr x1)), (2, .inr (.inr x2)), (3, .inl x3)] [] σ R) (fun (σ : q_S) => q_G l cx M_PF_takeOffIslands 5 320 0 0 109 [] [] σ R)
  have hV := hV (by
      intro x0 x1 x2 x3 σ hV
      show q_G l cx M_PF_takeOffIslands 5 320 0 0 28 [(0, .inr (.inr x0)), (1, .inr (.inr x1)), (2, .inr (.inr x2)), (3, .inl x3)] [] σ R
      refine q_run k_PF_takeOffIslands 16 2 32 rfl ?_
      show q_G l cx M_PF_takeOffIslands 5 320 0 0 32 [(0, .inr (.inr x0)), (1, .inr (.inr x1)), (2, .inr (.inr x2)), (3, .inl x3)] [.inl (768 : Int32), .inl x3] σ R
      refine q_icmp (q_dc k_PF_takeOffIslands 18 rfl) rfl (fun h1 => ?_) (fun h1 => ?_)
      · have hV := hV.1 h1
        exact q_less (Nat.le_of_ble_eq_true rfl) (Nat.le_of_ble_eq_true rfl) (q_subk [] rfl hV)
      · have hV := hV.2 h1
        refine q_run k_PF_takeOffIslands 19 2 39 rfl ?_
        show q_K σ x0 = 1 ∧ q_G l cx M_PF_takeOffIslands 5 320 0 0 39 [(0, .inr (.inr x0)), (1, .inr (.inr x1)), (2, .inr (.inr x2)), (3, .inl x3)] [.inr (.inr (q_P σ x0 6))] σ R
        obtain ⟨s2, hV⟩ := hV
        refine ⟨s2, ?_⟩
        obtain ⟨s3, hV⟩ := hV
        refine q_callV (st := []) (as := []) (t_PG_next (l := l) (cx := cx)  hV) (q_dc k_PF_takeOffIslands 21 rfl) (Or.inr ⟨"PlaneFills", List.mem_of_getElem? (i := 7) (by decide +kernel)⟩) w_PG_next n_PG_next (ci := 3) rfl e_PG_next a_PG_next (q_wt (Nat.le_of_ble_eq_true rfl)) ⟨Nat.le_of_ble_eq_true rfl, Nat.le_of_ble_eq_true rfl⟩ s3 (fun v9 τ9 q9 => ?_) (fun n9 τ9 q9 => q_T.leave rfl q9)
        obtain ⟨v6, rfl, hV⟩ := q_ci_elim q9
        clear q9
        have hV := hV
        revert hV
        generalize τ9 = σ7
        intro hV
        show q_G l cx M_PF_takeOffIslands 5 320 0 0 42 [(0, .inr (.inr x0)), (1, .inr (.inr x1)), (2, .inr (.inr x2)), (3, .inl x3)] [.inl v6] σ7 R
        refine q_ifz (q_dc k_PF_takeOffIslands 22 rfl) rfl (fun h8 => ?_) (fun h8 => ?_)
        · have hV := hV.1 h8
          exact q_less (Nat.le_of_ble_eq_true rfl) (Nat.le_of_ble_eq_true rfl) (q_subk [] rfl hV)
        · have hV := hV.2 h8
          refine q_run k_PF_takeOffIslands 23 2 49 rfl ?_
          show q_K σ7 x0 = 1 ∧ q_G l cx M_PF_takeOffIslands 5 320 0 0 49 [(0, .inr (.inr x0)), (1, .inr (.inr x1)), (2, .inr (.inr x2)), (3, .inl x3)] [.inr (.inr (q_P σ7 x0 6))] σ7 R
          obtain ⟨s9, hV⟩ := hV
          refine ⟨s9, ?_⟩
          obtain ⟨s10, hV⟩ := hV
          refine q_callV (st := []) (as := []) (t_PG_size (l := l) (cx := cx)  hV) (q_dc k_PF_takeOffIslands 25 rfl) (Or.inr ⟨"PlaneFills", List.mem_of_getElem? (i := 8) (by decide +kernel)⟩) w_PG_size n_PG_size (ci := 3) rfl e_PG_size a_PG_size (q_wt (Nat.le_of_ble_eq_true rfl)) ⟨Nat.le_of_ble_eq_true rfl, Nat.le_of_ble_eq_true rfl⟩ s10 (fun v9 τ9 q9 => ?_) (fun n9 τ9 q9 => q_T.leave rfl q9)
          obtain ⟨v13, rfl, hV⟩ := q_ci_elim q9
          clear q9
          have hV := hV
          revert hV
          generalize τ9 = σ14
          intro hV
          show q_G l cx M_PF_takeOffIslands 5 320 0 0 52 [(0, .inr (.inr x0)), (1, .inr (.inr x1)), (2, .inr (.inr x2)), (3, .inl x3)] [.inl v13] σ14 R
          refine q_run k_PF_takeOffIslands 26 4 58 rfl ?_
          show q_K σ14 x0 = 1 ∧ (q_K σ14 (q_P σ14 x0 5) = 1000 ∨ q_K σ14 (q_P σ14 x0 5) = 2000) ∧ vp_in (3 : Int32) (q_Z σ14 (q_P σ14 x0 5)) ∧ q_G l cx M_PF_takeOffIslands 5 320 0 0 58 [(0, .inr (.inr x0)), (1, .inr (.inr x1)), (2, .inr (.inr x2)), (3, .inl x3)] [.inl (q_I σ14 (q_P σ14 x0 5) (3 : Int32).toNatClampNeg), .inl v13] σ14 R
          obtain ⟨s15, s16, s17, hV⟩ := hV
          refine ⟨s15, s16, s17, ?_⟩
          refine q_icmp (q_dc k_PF_takeOffIslands 30 rfl) rfl (fun h18 => ?_) (fun h18 => ?_)
          · have hV := hV.1 h18
            exact q_less (Nat.le_of_ble_eq_true rfl) (Nat.le_of_ble_eq_true rfl) (q_subk [0, 1, 2, 3] rfl hV)
          · have hV := hV.2 h18
            refine q_run k_PF_takeOffIslands 31 2 63 rfl ?_
            show q_G l cx M_PF_takeOffIslands 5 320 0 0 63 [(0, .inr (.inr x0)), (1, .inr (.inr x1)), (2, .inr (.inr x2)), (3, .inl x3)] [.inr (.inr x1), .inr (.inr x0)] σ14 R
            obtain ⟨s19, hV⟩ := hV
            refine q_callV (st := []) (as := [.inr (.inr x1)]) (t_PF_pieceHasPad (l := l) (cx := cx)  hV) (q_dc k_PF_takeOffIslands 33 rfl) (Or.inl (List.mem_of_getElem? (i := 274) (by decide +kernel))) w_PF_pieceHasPad n_PF_pieceHasPad (ci := 0) rfl e_PF_pieceHasPad a_PF_pieceHasPad (q_wt (Nat.le_of_ble_eq_true rfl)) ⟨Nat.le_of_ble_eq_true rfl, Nat.le_of_ble_eq_true rfl⟩ s19 (fun v9 τ9 q9 => ?_) (fun n9 τ9 q9 => q_T.leave rfl q9)
            obtain ⟨v22, rfl, hV⟩ := q_ci_elim q9
            clear q9
            have hV := hV
            revert hV
            generalize τ9 = σ23
            intro hV
            show q_G l cx M_PF_takeOffIslands 5 320 0 0 66 [(0, .inr (.inr x0)), (1, .inr (.inr x1)), (2, .inr (.inr x2)), (3, .inl x3)] [.inl v22] σ23 R
            refine q_ifz (q_dc k_PF_takeOffIslands 34 rfl) rfl (fun h24 => ?_) (fun h24 => ?_)
            · have hV := hV.1 h24
              exact q_less (Nat.le_of_ble_eq_true rfl) (Nat.le_of_ble_eq_true rfl) (q_subk [0, 1, 2, 3] rfl hV)
            · have hV := hV.2 h24
              refine q_run k_PF_takeOffIslands 35 6 79 rfl ?_
              show q_K σ23 x2 = 2 ∧ q_K σ23 x2 = 2 ∧ q_G l cx M_PF_takeOffIslands 5 320 0 0 79 [(0, .inr (.inr x0)), (1, .inr (.inr x1)), (2, .inr (.inr x2)), (3, .inl x3)] [] (q_wI σ23 x2 2 ((q_I σ23 x2 2) + (1 : Int32))) R
              obtain ⟨s26, s27, hV⟩ := hV
              refine ⟨s26, s27, ?_⟩
              refine q_let (fun σ25 => q_G l cx M_PF_takeOffIslands 5 320 0 0 79 [(0, .inr (.inr x0)), (1, .inr (.inr x1)), (2, .inr (.inr x2)), (3, .inl x3)] [] σ25 R) (q_wI σ23 x2 2 ((q_I σ23 x2 2) + (1 : Int32))) (fun σ25 e_σ25 => ?_)
              have hV := hV σ25 e_σ25
              refine q_run k_PF_takeOffIslands 41 4 87 rfl ?_
              show q_K σ25 x0 = 1 ∧ q_K σ25 x2 = 2 ∧ q_G l cx M_PF_takeOffIslands 5 320 0 0 87 [(0, .inr (.inr x0)), (1, .inr (.inr x1)), (2, .inr (.inr x2)), (3, .inl x3)] [.inr (.inr (q_P σ25 x2 0)), .inr (.inr (q_P σ25 x0 6))] σ25 R
              obtain ⟨s28, s29, hV⟩ := hV
              refine ⟨s28, s29, ?_⟩
              obtain ⟨s30, hV⟩ := hV
              refine q_callV (st := []) (as := [.inr (.inr (q_P σ25 x2 0))]) (t_PG_takeOff (l := l) (cx := cx)  hV) (q_dc k_PF_takeOffIslands 45 rfl) (Or.inr ⟨"PlaneFills", List.mem_of_getElem? (i := 11) (by decide +kernel)⟩) w_PG_takeOff n_PG_takeOff (ci := 3) rfl e_PG_takeOff a_PG_takeOff (q_wt (Nat.le_of_ble_eq_true rfl)) ⟨Nat.le_of_ble_eq_true rfl, Nat.le_of_ble_eq_true rfl⟩ s30 (fun v9 τ9 q9 => ?_) (fun n9 τ9 q9 => q_T.leave rfl q9)
              obtain ⟨rfl, hV⟩ := q_cv_elim q9
              clear q9
              have hV := hV
              revert hV
              generalize τ9 = σ34
              intro hV
              show q_G l cx M_PF_takeOffIslands 5 320 0 0 90 [(0, .inr (.inr x0)), (1, .inr (.inr x1)), (2, .inr (.inr x2)), (3, .inl x3)] [] σ34 R
              refine q_goto (q_dc k_PF_takeOffIslands 46 rfl) rfl ?_
              exact q_less (Nat.le_of_ble_eq_true rfl) (Nat.le_of_ble_eq_true rfl) (q_subk [0, 1, 2, 3] rfl hV))
  have hV := hV (by
      intro x0 x1 x2 x3 σ hV
      show q_G l cx M_PF_takeOffIslands 5 320 0 0 93 [(0, .inr (.inr x0)), (1, .inr (.inr x1)), (2, .inr (.inr x2)), (3, .inl x3)] [] σ R
      refine q_run k_PF_takeOffIslands 47 6 103 rfl ?_
      show q_K σ x2 = 2 ∧ q_K σ x2 = 2 ∧ q_G l cx M_PF_takeOffIslands 5 320 0 0 103 [(0, .inr (.inr x0)), (1, .inr (.inr x1)), (2, .inr (.inr x2)), (3, .inl x3)] [] (q_wI σ x2 1 ((q_I σ x2 1) + (1 : Int32))) R
      obtain ⟨s2, s3, hV⟩ := hV
      refine ⟨s2, s3, ?_⟩
      refine q_let (fun σ1 => q_G l cx M_PF_takeOffIslands 5 320 0 0 103 [(0, .inr (.inr x0)), (1, .inr (.inr x1)), (2, .inr (.inr x2)), (3, .inl x3)] [] σ1 R) (q_wI σ x2 1 ((q_I σ x2 1) + (1 : Int32))) (fun σ1 e_σ1 => ?_)
      have hV := hV σ1 e_σ1
      exact q_less (Nat.le_of_ble_eq_true rfl) (Nat.le_of_ble_eq_true rfl) (q_subk [0, 1, 2, 3] rfl hV))
  have hV := hV (by
      intro x0 x1 x2 x3 σ hV
      show q_G l cx M_PF_takeOffIslands 5 320 0 0 103 [(0, .inr (.inr x0)), (1, .inr (.inr x1)), (2, .inr (.inr x2)), (3, .inl x3)] [] σ R
      refine q_run k_PF_takeOffIslands 53 1 106 rfl ?_
      show q_G l cx M_PF_takeOffIslands 5 320 0 0 106 [(3, .inl (x3 + (1 : Int32))), (0, .inr (.inr x0)), (1, .inr (.inr x1)), (2, .inr (.inr x2))] [] σ R
      refine q_let (fun v1 => q_G l cx M_PF_takeOffIslands 5 320 0 0 106 [(3, .inl v1), (0, .inr (.inr x0)), (1, .inr (.inr x1)), (2, .inr (.inr x2))] [] σ R) (x3 + (1 : Int32)) (fun v1 e_v1 => ?_)
      have hV := hV v1 e_v1
      refine q_goto (q_dc k_PF_takeOffIslands 54 rfl) rfl ?_
      exact q_less (Nat.le_of_ble_eq_true rfl) (Nat.le_of_ble_eq_true rfl) (q_subk [1, 2, 3, 0] rfl hV))
  have hV := hV (by
      intro σ hV
      show q_G l cx M_PF_takeOffIslands 5 320 0 0 109 [] [] σ R
      exact q_vreturn (q_dc k_PF_takeOffIslands 55 rfl) rfl hV)
  refine q_run k_PF_takeOffIslands 0 3 5 rfl ?_
  show q_K σ x1 = 6 ∧ q_G l cx M_PF_takeOffIslands 5 320 0 0 5 [(2, .inr (.inr (q_P σ x1 11))), (0, .inr (.inr x0)), (1, .inr (.inr x1))] [] σ R
  obtain ⟨s2, hV⟩ := hV
  refine ⟨s2, ?_⟩
  refine q_let (fun v1 => q_G l cx M_PF_takeOffIslands 5 320 0 0 5 [(2, .inr (.inr v1)), (0, .inr (.inr x0)), (1, .inr (.inr x1))] [] σ R) (q_P σ x1 11) (fun v1 e_v1 => ?_)
  have hV := hV v1 e_v1
  refine q_run k_PF_takeOffIslands 3 3 10 rfl ?_
  show q_K σ v1 = 2 ∧ q_G l cx M_PF_takeOffIslands 5 320 0 0 10 [(2, .inr (.inr v1)), (0, .inr (.inr x0)), (1, .inr (.inr x1))] [] (q_wI σ v1 1 (0 : Int32)) R
  obtain ⟨s4, hV⟩ := hV
  refine ⟨s4, ?_⟩
  refine q_let (fun σ3 => q_G l cx M_PF_takeOffIslands 5 320 0 0 10 [(2, .inr (.inr v1)), (0, .inr (.inr x0)), (1, .inr (.inr x1))] [] σ3 R) (q_wI σ v1 1 (0 : Int32)) (fun σ3 e_σ3 => ?_)
  have hV := hV σ3 e_σ3
  refine q_run k_PF_takeOffIslands 6 3 15 rfl ?_
  show q_K σ3 v1 = 2 ∧ q_G l cx M_PF_takeOffIslands 5 320 0 0 15 [(2, .inr (.inr v1)), (0, .inr (.inr x0)), (1, .inr (.inr x1))] [] (q_wI σ3 v1 2 (0 : Int32)) R
  obtain ⟨s6, hV⟩ := hV
  refine ⟨s6, ?_⟩
  refine q_let (fun σ5 => q_G l cx M_PF_takeOffIslands 5 320 0 0 15 [(2, .inr (.inr v1)), (0, .inr (.inr x0)), (1, .inr (.inr x1))] [] σ5 R) (q_wI σ3 v1 2 (0 : Int32)) (fun σ5 e_σ5 => ?_)
  have hV := hV σ5 e_σ5
  refine q_run k_PF_takeOffIslands 9 4 23 rfl ?_
  show q_K σ5 x0 = 1 ∧ q_K σ5 v1 = 2 ∧ q_G l cx M_PF_takeOffIslands 5 320 0 0 23 [(2, .inr (.inr v1)), (0, .inr (.inr x0)), (1, .inr (.inr x1))] [.inr (.inr (q_P σ5 v1 0)), .inr (.inr (q_P σ5 x0 6))] σ5 R
  obtain ⟨s7, s8, hV⟩ := hV
  refine ⟨s7, s8, ?_⟩
  obtain ⟨s9, hV⟩ := hV
  refine q_callV (st := []) (as := [.inr (.inr (q_P σ5 v1 0))]) (t_PG_start (l := l) (cx := cx)  hV) (q_dc k_PF_takeOffIslands 13 rfl) (Or.inr ⟨"PlaneFills", List.mem_of_getElem? (i := 6) (by decide +kernel)⟩) w_PG_start n_PG_start (ci := 3) rfl e_PG_start a_PG_start (q_wt (Nat.le_of_ble_eq_true rfl)) ⟨Nat.le_of_ble_eq_true rfl, Nat.le_of_ble_eq_true rfl⟩ s9 (fun v9 τ9 q9 => ?_) (fun n9 τ9 q9 => q_T.leave rfl q9)
  obtain ⟨rfl, hV⟩ := q_cv_elim q9
  clear q9
  have hV := hV
  revert hV
  generalize τ9 = σ13
  intro hV
  show q_G l cx M_PF_takeOffIslands 5 320 0 0 26 [(2, .inr (.inr v1)), (0, .inr (.inr x0)), (1, .inr (.inr x1))] [] σ13 R
  refine q_run k_PF_takeOffIslands 14 2 28 rfl ?_
  show q_G l cx M_PF_takeOffIslands 5 320 0 0 28 [(3, .inl (0 : Int32)), (2, .inr (.inr v1)), (0, .inr (.inr x0)), (1, .inr (.inr x1))] [] σ13 R
  exact q_less (Nat.le_of_ble_eq_true rfl) (Nat.le_of_ble_eq_true rfl) (q_subk [2, 3, 1, 0] rfl hV)
def V_PF_fillTrials (x0 : Nat) (σ : q_S) (R : q_O → q_S → Prop) : Prop :=
  ∀ (P2 : Nat → Int32 → q_S → Prop),
  ∀ (P64 : Nat → Int32 → Nat → Nat → Int32 → q_S → Prop),
  (∀ (x0 : Nat) (x1 : Int32) (σ : q_S), (q_K σ x0 = 1 ∧ q_K σ (q_P σ x0 2) = 8 ∧ V_AL_size (q_P σ x0 2) σ (q_ci (fun v5 σ6 => ((v5 ≤ x1 → R (.inl none) σ6) ∧ (¬ (v5 ≤ x1) → q_K σ6 x0 = 1 ∧ q_K σ6 (q_P σ6 x0 2) = 8 ∧ V_AL_get (q_P σ6 x0 2) x1 σ6 (q_cr (fun v12 σ13 => q_K σ13 v12 = 6 ∧ q_K σ13 v12 = 6 ∧ q_K σ13 (q_P σ13 v12 11) = 2 ∧ ∀ v15 : Nat, v15 = q_P σ13 (q_P σ13 v12 11) 0 → q_K σ13 v12 = 6 ∧ q_K σ13 (q_P σ13 v12 3) = 1000 ∧ q_K σ13 v15 = 1000 ∧ ¬ (0 : Int32) < 0 ∧ ¬ (0 : Int32) < 0 ∧ ¬ (24 : Int32) < 0 ∧ (0 : Int32).toNatClampNeg + (24 : Int32).toNatClampNeg ≤ q_Z σ13 (q_P σ13 v12 3) ∧ (0 : Int32).toNatClampNeg + (24 : Int32).toNatClampNeg ≤ q_Z σ13 v15 ∧ ∀ σ26 : q_S, σ26 = q_sI σ13 v15 (va_cpy (q_I σ13 (q_P σ13 v12 3)) (q_I σ13 v15) (0 : Int32).toNatClampNeg (0 : Int32).toNatClampNeg (24 : Int32).toNatClampNeg) → q_K σ26 x0 = 1 ∧ V_PF_takeOffDiscs x0 v12 v15 σ26 (q_cv (fun σ31 => q_K σ31 x0 = 1 ∧ V_PF_takeOffPads x0 v12 v15 σ31 (q_cv (fun σ36 => P64 x0 x1 v12 v15 (0 : Int32) σ36) (fun n9 σ9 => R (.inr n9) σ9))) (fun n9 σ9 => R (.inr n9) σ9))) (fun n9 σ9 => R (.inr n9) σ9))))) (fun n9 σ9 => R (.inr n9) σ9))) → P2 x0 x1 σ) →
  (∀ (x0 : Nat) (x1 : Int32) (x2 : Nat) (x3 : Nat) (x4 : Int32) (σ : q_S), (((x1 ≤ x4 → q_K σ x2 = 6 ∧ q_K σ x0 = 1 ∧ V_PF_takeOffNecks x0 x3 σ (q_ci (fun v6 σ7 => (v6 = 0 ∨ v6 = 1) ∧ q_K σ7 (q_P σ x2 11) = 2 ∧ ∀ σ8 : q_S, σ8 = q_wI σ7 (q_P σ x2 11) 3 v6 → V_PF_takeOffHatching x2 x3 σ8 (q_cv (fun σ14 => q_K σ14 x0 = 1 ∧ V_PF_takeOffIslands x0 x2 σ14 (q_cv (fun σ19 => ∀ v20 : Int32, v20 = x1 + (1 : Int32) → P2 x0 v20 σ19) (fun n9 σ9 => R (.inr n9) σ9))) (fun n9 σ9 => R (.inr n9) σ9))) (fun n9 σ9 => R (.inr n9) σ9))) ∧ (¬ (x1 ≤ x4) → q_K σ x0 = 1 ∧ q_K σ (q_P σ x0 2) = 8 ∧ V_AL_get (q_P σ x0 2) x4 σ (q_cr (fun v25 σ26 => q_K σ26 v25 = 6 ∧ q_K σ26 x0 = 1 ∧ V_PF_takeOffAhead x0 v25 x2 x3 σ26 (q_cv (fun σ32 => ∀ v33 : Int32, v33 = x4 + (1 : Int32) → P64 x0 x1 x2 x3 v33 σ32) (fun n9 σ9 => R (.inr n9) σ9))) (fun n9 σ9 => R (.inr n9) σ9))))) → P64 x0 x1 x2 x3 x4 σ) →
  P2 x0 (0 : Int32) σ
set_option maxRecDepth 100000 in
theorem t_PF_fillTrials {l : Launch} {cx : q_C} {x0 : Nat} {σ : q_S} {R : q_O → q_S → Prop} (hV : V_PF_fillTrials x0 σ R) : q_Ct l cx M_PF_fillTrials 6 384 0 0 [q_r x0] σ R := by
  refine q_Ct.of p_PF_fillTrials c_PF_fillTrials rfl (Nat.le_of_ble_eq_true rfl) ?_
  have hV := hV (fun (x0 : Nat) (x1 : Int32) (σ : q_S) => q_G l cx M_PF_fillTrials 6 384 0 0 2 [(0, .inr (.inr x0)), (1, .inl x1)] [] σ R) (fun (x0 : Nat) (x1 : Int32) (x2 : Nat) (x3 : Nat) (x4 : Int32) (σ : q_S) => q_G l cx M_PF_fillTrials 6 384 0 0 64 [(0, .inr (.inr x0)), (1, .inl x1), (2, .inr (.inr x2)), (3, .inr (.inr x3)), (4, .inl x4)] [] σ R)
  have hV := hV (by
      intro x0 x1 σ hV
      show q_G l cx M_PF_fillTrials 6 384 0 0 2 [(0, .inr (.inr x0)), (1, .inl x1)] [] σ R
      refine q_run k_PF_fillTrials 2 3 7 rfl ?_
      show q_K σ x0 = 1 ∧ q_G l cx M_PF_fillTrials 6 384 0 0 7 [(0, .inr (.inr x0)), (1, .inl x1)] [.inr (.inr (q_P σ x0 2)), .inl x1] σ R
      obtain ⟨s1, hV⟩ := hV
      refine ⟨s1, ?_⟩
      obtain ⟨s2, hV⟩ := hV
      refine q_callF (st := [.inl x1]) (as := []) (x := ⟨"java/util/List", "size", "()I"⟩) (t_AL_size (l := l) (cx := cx)  hV) (q_dc k_PF_fillTrials 5 rfl) (List.mem_of_getElem? (i := 172) (by decide +kernel)) w_AL_size n_AL_size (ci := 7) rfl (List.mem_of_getElem? (i := 173) (by decide +kernel)) (List.mem_of_getElem? (i := 0) rfl) (by decide) a_AL_size (q_wt (Nat.le_of_ble_eq_true rfl)) ⟨Nat.le_of_ble_eq_true rfl, Nat.le_of_ble_eq_true rfl⟩ s2 (fun v9 τ9 q9 => ?_) (fun n9 τ9 q9 => q_T.leave rfl q9)
      obtain ⟨v5, rfl, hV⟩ := q_ci_elim q9
      clear q9
      have hV := hV
      revert hV
      generalize τ9 = σ6
      intro hV
      show q_G l cx M_PF_fillTrials 6 384 0 0 12 [(0, .inr (.inr x0)), (1, .inl x1)] [.inl v5, .inl x1] σ6 R
      refine q_icmp (q_dc k_PF_fillTrials 6 rfl) rfl (fun h7 => ?_) (fun h7 => ?_)
      · have hV := hV.1 h7
        exact q_vreturn (q_dc k_PF_fillTrials 62 rfl) rfl hV
      · have hV := hV.2 h7
        refine q_run k_PF_fillTrials 7 3 20 rfl ?_
        show q_K σ6 x0 = 1 ∧ q_G l cx M_PF_fillTrials 6 384 0 0 20 [(0, .inr (.inr x0)), (1, .inl x1)] [.inl x1, .inr (.inr (q_P σ6 x0 2))] σ6 R
        obtain ⟨s8, hV⟩ := hV
        refine ⟨s8, ?_⟩
        obtain ⟨s9, hV⟩ := hV
        refine q_callF (st := []) (as := [.inl x1]) (x := ⟨"java/util/List", "get", "(I)Ljava/lang/Object;"⟩) (t_AL_get (l := l) (cx := cx)  hV) (q_dc k_PF_fillTrials 10 rfl) (List.mem_of_getElem? (i := 176) (by decide +kernel)) w_AL_get n_AL_get (ci := 7) rfl (List.mem_of_getElem? (i := 177) (by decide +kernel)) (List.mem_of_getElem? (i := 1) rfl) (by decide) a_AL_get (q_wt (Nat.le_of_ble_eq_true rfl)) ⟨Nat.le_of_ble_eq_true rfl, Nat.le_of_ble_eq_true rfl⟩ s9 (fun v9 τ9 q9 => ?_) (fun n9 τ9 q9 => q_T.leave rfl q9)
        obtain ⟨v12, rfl, hV⟩ := q_cr_elim q9
        clear q9
        have hV := hV
        revert hV
        generalize τ9 = σ13
        intro hV
        show q_G l cx M_PF_fillTrials 6 384 0 0 25 [(0, .inr (.inr x0)), (1, .inl x1)] [.inr (.inr v12)] σ13 R
        obtain ⟨s14, hV⟩ := hV
        refine q_cast1 (ci := 5) (q_dc k_PF_fillTrials 11 rfl) rfl s14 (List.mem_of_getElem? (i := 3) rfl) (List.mem_of_getElem? (i := 190) (by decide +kernel)) ?_
        show q_G l cx M_PF_fillTrials 6 384 0 0 28 [(0, .inr (.inr x0)), (1, .inl x1)] [.inr (.inr v12)] σ13 R
        refine q_run k_PF_fillTrials 12 5 37 rfl ?_
        show q_K σ13 v12 = 6 ∧ q_K σ13 (q_P σ13 v12 11) = 2 ∧ q_G l cx M_PF_fillTrials 6 384 0 0 37 [(3, .inr (.inr (q_P σ13 (q_P σ13 v12 11) 0))), (2, .inr (.inr v12)), (0, .inr (.inr x0)), (1, .inl x1)] [] σ13 R
        obtain ⟨s16, s17, hV⟩ := hV
        refine ⟨s16, s17, ?_⟩
        refine q_let (fun v15 => q_G l cx M_PF_fillTrials 6 384 0 0 37 [(3, .inr (.inr v15)), (2, .inr (.inr v12)), (0, .inr (.inr x0)), (1, .inl x1)] [] σ13 R) (q_P σ13 (q_P σ13 v12 11) 0) (fun v15 e_v15 => ?_)
        have hV := hV v15 e_v15
        refine q_run k_PF_fillTrials 17 6 46 rfl ?_
        show q_K σ13 v12 = 6 ∧ q_G l cx M_PF_fillTrials 6 384 0 0 46 [(3, .inr (.inr v15)), (2, .inr (.inr v12)), (0, .inr (.inr x0)), (1, .inl x1)] [.inl (24 : Int32), .inl (0 : Int32), .inr (.inr v15), .inl (0 : Int32), .inr (.inr (q_P σ13 v12 3))] σ13 R
        obtain ⟨s18, hV⟩ := hV
        refine ⟨s18, ?_⟩
        obtain ⟨s19, s20, s21, s22, s23, s24, s25, hV⟩ := hV
        refine q_copyI (q_dc k_PF_fillTrials 23 rfl) (List.mem_of_getElem? (i := 191) (by decide +kernel)) (List.mem_of_getElem? (i := 193) (by decide +kernel)) (List.mem_of_getElem? (i := 192) (by decide +kernel)) (List.mem_of_getElem? (i := 88) (by decide +kernel)) (Nat.le_of_ble_eq_true rfl) ⟨Nat.le_of_ble_eq_true rfl, by decide +kernel⟩ s19 s20 s21 s22 s23 s24 s25 ?_
        refine q_let (fun σ26 => q_G l cx M_PF_fillTrials 6 384 0 0 49 [(3, .inr (.inr v15)), (2, .inr (.inr v12)), (0, .inr (.inr x0)), (1, .inl x1)] [] σ26 R) (q_sI σ13 v15 (va_cpy (q_I σ13 (q_P σ13 v12 3)) (q_I σ13 v15) (0 : Int32).toNatClampNeg (0 : Int32).toNatClampNeg (24 : Int32).toNatClampNeg)) (fun σ26 e_σ26 => ?_)
        have hV := hV σ26 e_σ26
        refine q_run k_PF_fillTrials 24 3 52 rfl ?_
        show q_G l cx M_PF_fillTrials 6 384 0 0 52 [(3, .inr (.inr v15)), (2, .inr (.inr v12)), (0, .inr (.inr x0)), (1, .inl x1)] [.inr (.inr v15), .inr (.inr v12), .inr (.inr x0)] σ26 R
        obtain ⟨s27, hV⟩ := hV
        refine q_callV (st := []) (as := [.inr (.inr v12), .inr (.inr v15)]) (t_PF_takeOffDiscs (l := l) (cx := cx)  hV) (q_dc k_PF_fillTrials 27 rfl) (Or.inl (List.mem_of_getElem? (i := 194) (by decide +kernel))) w_PF_takeOffDiscs n_PF_takeOffDiscs (ci := 0) rfl e_PF_takeOffDiscs a_PF_takeOffDiscs (q_wt (Nat.le_of_ble_eq_true rfl)) ⟨Nat.le_of_ble_eq_true rfl, Nat.le_of_ble_eq_true rfl⟩ s27 (fun v9 τ9 q9 => ?_) (fun n9 τ9 q9 => q_T.leave rfl q9)
        obtain ⟨rfl, hV⟩ := q_cv_elim q9
        clear q9
        have hV := hV
        revert hV
        generalize τ9 = σ31
        intro hV
        show q_G l cx M_PF_fillTrials 6 384 0 0 55 [(3, .inr (.inr v15)), (2, .inr (.inr v12)), (0, .inr (.inr x0)), (1, .inl x1)] [] σ31 R
        refine q_run k_PF_fillTrials 28 3 58 rfl ?_
        show q_G l cx M_PF_fillTrials 6 384 0 0 58 [(3, .inr (.inr v15)), (2, .inr (.inr v12)), (0, .inr (.inr x0)), (1, .inl x1)] [.inr (.inr v15), .inr (.inr v12), .inr (.inr x0)] σ31 R
        obtain ⟨s32, hV⟩ := hV
        refine q_callV (st := []) (as := [.inr (.inr v12), .inr (.inr v15)]) (t_PF_takeOffPads (l := l) (cx := cx)  hV) (q_dc k_PF_fillTrials 31 rfl) (Or.inl (List.mem_of_getElem? (i := 210) (by decide +kernel))) w_PF_takeOffPads n_PF_takeOffPads (ci := 0) rfl e_PF_takeOffPads a_PF_takeOffPads (q_wt (Nat.le_of_ble_eq_true rfl)) ⟨Nat.le_of_ble_eq_true rfl, Nat.le_of_ble_eq_true rfl⟩ s32 (fun v9 τ9 q9 => ?_) (fun n9 τ9 q9 => q_T.leave rfl q9)
        obtain ⟨rfl, hV⟩ := q_cv_elim q9
        clear q9
        have hV := hV
        revert hV
        generalize τ9 = σ36
        intro hV
        show q_G l cx M_PF_fillTrials 6 384 0 0 61 [(3, .inr (.inr v15)), (2, .inr (.inr v12)), (0, .inr (.inr x0)), (1, .inl x1)] [] σ36 R
        refine q_run k_PF_fillTrials 32 2 64 rfl ?_
        show q_G l cx M_PF_fillTrials 6 384 0 0 64 [(4, .inl (0 : Int32)), (3, .inr (.inr v15)), (2, .inr (.inr v12)), (0, .inr (.inr x0)), (1, .inl x1)] [] σ36 R
        exact q_less (Nat.le_of_ble_eq_true rfl) (Nat.le_of_ble_eq_true rfl) (q_subk [3, 4, 2, 1, 0] rfl hV))
  have hV := hV (by
      intro x0 x1 x2 x3 x4 σ hV
      show q_G l cx M_PF_fillTrials 6 384 0 0 64 [(0, .inr (.inr x0)), (1, .inl x1), (2, .inr (.inr x2)), (3, .inr (.inr x3)), (4, .inl x4)] [] σ R
      refine q_run k_PF_fillTrials 34 2 67 rfl ?_
      show q_G l cx M_PF_fillTrials 6 384 0 0 67 [(0, .inr (.inr x0)), (1, .inl x1), (2, .inr (.inr x2)), (3, .inr (.inr x3)), (4, .inl x4)] [.inl x1, .inl x4] σ R
      refine q_icmp (q_dc k_PF_fillTrials 36 rfl) rfl (fun h1 => ?_) (fun h1 => ?_)
      · have hV := hV.1 h1
        refine q_run k_PF_fillTrials 48 4 102 rfl ?_
        show q_K σ x2 = 6 ∧ q_G l cx M_PF_fillTrials 6 384 0 0 102 [(0, .inr (.inr x0)), (1, .inl x1), (2, .inr (.inr x2)), (3, .inr (.inr x3)), (4, .inl x4)] [.inr (.inr x3), .inr (.inr x0), .inr (.inr (q_P σ x2 11))] σ R
        obtain ⟨s2, hV⟩ := hV
        refine ⟨s2, ?_⟩
        obtain ⟨s3, hV⟩ := hV
        refine q_callV (st := [.inr (.inr (q_P σ x2 11))]) (as := [.inr (.inr x3)]) (t_PF_takeOffNecks (l := l) (cx := cx)  hV) (q_dc k_PF_fillTrials 52 rfl) (Or.inl (List.mem_of_getElem? (i := 229) (by decide +kernel))) w_PF_takeOffNecks n_PF_takeOffNecks (ci := 0) rfl e_PF_takeOffNecks a_PF_takeOffNecks (q_wt (Nat.le_of_ble_eq_true rfl)) ⟨Nat.le_of_ble_eq_true rfl, Nat.le_of_ble_eq_true rfl⟩ s3 (fun v9 τ9 q9 => ?_) (fun n9 τ9 q9 => q_T.leave rfl q9)
        obtain ⟨v6, rfl, hV⟩ := q_ci_elim q9
        clear q9
        have hV := hV
        revert hV
        generalize τ9 = σ7
        intro hV
        show q_G l cx M_PF_fillTrials 6 384 0 0 105 [(0, .inr (.inr x0)), (1, .inl x1), (2, .inr (.inr x2)), (3, .inr (.inr x3)), (4, .inl x4)] [.inl v6, .inr (.inr (q_P σ x2 11))] σ7 R
        refine q_run k_PF_fillTrials 53 1 108 rfl ?_
        show (v6 = 0 ∨ v6 = 1) ∧ q_K σ7 (q_P σ x2 11) = 2 ∧ q_G l cx M_PF_fillTrials 6 384 0 0 108 [(0, .inr (.inr x0)), (1, .inl x1), (2, .inr (.inr x2)), (3, .inr (.inr x3)), (4, .inl x4)] [] (q_wI σ7 (q_P σ x2 11) 3 v6) R
        obtain ⟨s9, s10, hV⟩ := hV
        refine ⟨s9, s10, ?_⟩
        refine q_let (fun σ8 => q_G l cx M_PF_fillTrials 6 384 0 0 108 [(0, .inr (.inr x0)), (1, .inl x1), (2, .inr (.inr x2)), (3, .inr (.inr x3)), (4, .inl x4)] [] σ8 R) (q_wI σ7 (q_P σ x2 11) 3 v6) (fun σ8 e_σ8 => ?_)
        have hV := hV σ8 e_σ8
        refine q_run k_PF_fillTrials 54 2 110 rfl ?_
        show q_G l cx M_PF_fillTrials 6 384 0 0 110 [(0, .inr (.inr x0)), (1, .inl x1), (2, .inr (.inr x2)), (3, .inr (.inr x3)), (4, .inl x4)] [.inr (.inr x3), .inr (.inr x2)] σ8 R
        refine q_callS (st := []) (t_PF_takeOffHatching (l := l) (cx := cx)  hV) (q_dc k_PF_fillTrials 56 rfl) (Or.inl (List.mem_of_getElem? (i := 238) (by decide +kernel))) w_PF_takeOffHatching s_PF_takeOffHatching a_PF_takeOffHatching (q_wt (Nat.le_of_ble_eq_true rfl)) ⟨Nat.le_of_ble_eq_true rfl, Nat.le_of_ble_eq_true rfl⟩ (fun v9 τ9 q9 => ?_) (fun n9 τ9 q9 => q_T.leave rfl q9)
        obtain ⟨rfl, hV⟩ := q_cv_elim q9
        clear q9
        have hV := hV
        revert hV
        generalize τ9 = σ14
        intro hV
        show q_G l cx M_PF_fillTrials 6 384 0 0 113 [(0, .inr (.inr x0)), (1, .inl x1), (2, .inr (.inr x2)), (3, .inr (.inr x3)), (4, .inl x4)] [] σ14 R
        refine q_run k_PF_fillTrials 57 2 115 rfl ?_
        show q_G l cx M_PF_fillTrials 6 384 0 0 115 [(0, .inr (.inr x0)), (1, .inl x1), (2, .inr (.inr x2)), (3, .inr (.inr x3)), (4, .inl x4)] [.inr (.inr x2), .inr (.inr x0)] σ14 R
        obtain ⟨s15, hV⟩ := hV
        refine q_callV (st := []) (as := [.inr (.inr x2)]) (t_PF_takeOffIslands (l := l) (cx := cx)  hV) (q_dc k_PF_fillTrials 59 rfl) (Or.inl (List.mem_of_getElem? (i := 245) (by decide +kernel))) w_PF_takeOffIslands n_PF_takeOffIslands (ci := 0) rfl e_PF_takeOffIslands a_PF_takeOffIslands (q_wt (Nat.le_of_ble_eq_true rfl)) ⟨Nat.le_of_ble_eq_true rfl, Nat.le_of_ble_eq_true rfl⟩ s15 (fun v9 τ9 q9 => ?_) (fun n9 τ9 q9 => q_T.leave rfl q9)
        obtain ⟨rfl, hV⟩ := q_cv_elim q9
        clear q9
        have hV := hV
        revert hV
        generalize τ9 = σ19
        intro hV
        show q_G l cx M_PF_fillTrials 6 384 0 0 118 [(0, .inr (.inr x0)), (1, .inl x1), (2, .inr (.inr x2)), (3, .inr (.inr x3)), (4, .inl x4)] [] σ19 R
        refine q_run k_PF_fillTrials 60 1 121 rfl ?_
        show q_G l cx M_PF_fillTrials 6 384 0 0 121 [(1, .inl (x1 + (1 : Int32))), (0, .inr (.inr x0)), (2, .inr (.inr x2)), (3, .inr (.inr x3)), (4, .inl x4)] [] σ19 R
        refine q_let (fun v20 => q_G l cx M_PF_fillTrials 6 384 0 0 121 [(1, .inl v20), (0, .inr (.inr x0)), (2, .inr (.inr x2)), (3, .inr (.inr x3)), (4, .inl x4)] [] σ19 R) (x1 + (1 : Int32)) (fun v20 e_v20 => ?_)
        have hV := hV v20 e_v20
        refine q_goto (q_dc k_PF_fillTrials 61 rfl) rfl ?_
        exact q_less (Nat.le_of_ble_eq_true rfl) (Nat.le_of_ble_eq_true rfl) (q_subk [1, 0] rfl hV)
      · have hV := hV.2 h1
        refine q_run k_PF_fillTrials 37 4 77 rfl ?_
        show q_K σ x0 = 1 ∧ q_G l cx M_PF_fillTrials 6 384 0 0 77 [(0, .inr (.inr x0)), (1, .inl x1), (2, .inr (.inr x2)), (3, .inr (.inr x3)), (4, .inl x4)] [.inl x4, .inr (.inr (q_P σ x0 2)), .inr (.inr x0)] σ R
        obtain ⟨s21, hV⟩ := hV
        refine ⟨s21, ?_⟩
        obtain ⟨s22, hV⟩ := hV
        refine q_callF (st := [.inr (.inr x0)]) (as := [.inl x4]) (x := ⟨"java/util/List", "get", "(I)Ljava/lang/Object;"⟩) (t_AL_get (l := l) (cx := cx)  hV) (q_dc k_PF_fillTrials 41 rfl) (List.mem_of_getElem? (i := 176) (by decide +kernel)) w_AL_get n_AL_get (ci := 7) rfl (List.mem_of_getElem? (i := 177) (by decide +kernel)) (List.mem_of_getElem? (i := 1) rfl) (by decide) a_AL_get (q_wt (Nat.le_of_ble_eq_true rfl)) ⟨Nat.le_of_ble_eq_true rfl, Nat.le_of_ble_eq_true rfl⟩ s22 (fun v9 τ9 q9 => ?_) (fun n9 τ9 q9 => q_T.leave rfl q9)
        obtain ⟨v25, rfl, hV⟩ := q_cr_elim q9
        clear q9
        have hV := hV
        revert hV
        generalize τ9 = σ26
        intro hV
        show q_G l cx M_PF_fillTrials 6 384 0 0 82 [(0, .inr (.inr x0)), (1, .inl x1), (2, .inr (.inr x2)), (3, .inr (.inr x3)), (4, .inl x4)] [.inr (.inr v25), .inr (.inr x0)] σ26 R
        obtain ⟨s27, hV⟩ := hV
        refine q_cast1 (ci := 5) (q_dc k_PF_fillTrials 42 rfl) rfl s27 (List.mem_of_getElem? (i := 3) rfl) (List.mem_of_getElem? (i := 190) (by decide +kernel)) ?_
        show q_G l cx M_PF_fillTrials 6 384 0 0 85 [(0, .inr (.inr x0)), (1, .inl x1), (2, .inr (.inr x2)), (3, .inr (.inr x3)), (4, .inl x4)] [.inr (.inr v25), .inr (.inr x0)] σ26 R
        refine q_run k_PF_fillTrials 43 2 87 rfl ?_
        show q_G l cx M_PF_fillTrials 6 384 0 0 87 [(0, .inr (.inr x0)), (1, .inl x1), (2, .inr (.inr x2)), (3, .inr (.inr x3)), (4, .inl x4)] [.inr (.inr x3), .inr (.inr x2), .inr (.inr v25), .inr (.inr x0)] σ26 R
        obtain ⟨s28, hV⟩ := hV
        refine q_callV (st := []) (as := [.inr (.inr v25), .inr (.inr x2), .inr (.inr x3)]) (t_PF_takeOffAhead (l := l) (cx := cx)  hV) (q_dc k_PF_fillTrials 45 rfl) (Or.inl (List.mem_of_getElem? (i := 226) (by decide +kernel))) w_PF_takeOffAhead n_PF_takeOffAhead (ci := 0) rfl e_PF_takeOffAhead a_PF_takeOffAhead (q_wt (Nat.le_of_ble_eq_true rfl)) ⟨Nat.le_of_ble_eq_true rfl, Nat.le_of_ble_eq_true rfl⟩ s28 (fun v9 τ9 q9 => ?_) (fun n9 τ9 q9 => q_T.leave rfl q9)
        obtain ⟨rfl, hV⟩ := q_cv_elim q9
        clear q9
        have hV := hV
        revert hV
        generalize τ9 = σ32
        intro hV
        show q_G l cx M_PF_fillTrials 6 384 0 0 90 [(0, .inr (.inr x0)), (1, .inl x1), (2, .inr (.inr x2)), (3, .inr (.inr x3)), (4, .inl x4)] [] σ32 R
        refine q_run k_PF_fillTrials 46 1 93 rfl ?_
        show q_G l cx M_PF_fillTrials 6 384 0 0 93 [(4, .inl (x4 + (1 : Int32))), (0, .inr (.inr x0)), (1, .inl x1), (2, .inr (.inr x2)), (3, .inr (.inr x3))] [] σ32 R
        refine q_let (fun v33 => q_G l cx M_PF_fillTrials 6 384 0 0 93 [(4, .inl v33), (0, .inr (.inr x0)), (1, .inl x1), (2, .inr (.inr x2)), (3, .inr (.inr x3))] [] σ32 R) (x4 + (1 : Int32)) (fun v33 e_v33 => ?_)
        have hV := hV v33 e_v33
        refine q_goto (q_dc k_PF_fillTrials 47 rfl) rfl ?_
        exact q_less (Nat.le_of_ble_eq_true rfl) (Nat.le_of_ble_eq_true rfl) (q_subk [1, 2, 3, 4, 0] rfl hV))
  refine q_run k_PF_fillTrials 0 2 2 rfl ?_
  show q_G l cx M_PF_fillTrials 6 384 0 0 2 [(1, .inl (0 : Int32)), (0, .inr (.inr x0))] [] σ R
  exact q_less (Nat.le_of_ble_eq_true rfl) (Nat.le_of_ble_eq_true rfl) (q_subk [1, 0] rfl hV)
def V_PF_fill (x0 : Nat) (σ : q_S) (R : q_O → q_S → Prop) : Prop :=
  ∀ (P8 : Nat → Int32 → Int32 → q_S → Prop),
  (∀ (x0 : Nat) (x1 : Int32) (x2 : Int32) (σ : q_S), (q_K σ x0 = 1 ∧ q_K σ (q_P σ x0 1) = 8 ∧ V_AL_size (q_P σ x0 1) σ (q_ci (fun v5 σ6 => ((v5 ≤ x2 → R (.inl (some (.inl x1))) σ6) ∧ (¬ (v5 ≤ x2) → q_K σ6 x0 = 1 ∧ q_K σ6 (q_P σ6 x0 1) = 8 ∧ V_AL_get (q_P σ6 x0 1) x2 σ6 (q_cr (fun v12 σ13 => q_K σ13 v12 = 6 ∧ q_K σ13 v12 = 6 ∧ V_PL_takeTrial v12 σ13 (q_cv (fun σ19 => q_K σ19 v12 = 6 ∧ q_K σ19 (q_P σ19 v12 10) = 2 ∧ ∀ v20 : Int32, v20 = x1 + (q_I σ19 (q_P σ19 v12 10) 1) → ∀ v23 : Int32, v23 = x2 + (1 : Int32) → P8 x0 v20 v23 σ19) (fun n9 σ9 => R (.inr n9) σ9))) (fun n9 σ9 => R (.inr n9) σ9))))) (fun n9 σ9 => R (.inr n9) σ9))) → P8 x0 x1 x2 σ) →
  q_K σ x0 = 1 ∧ V_PF_fillTrials x0 σ (q_cv (fun σ5 => P8 x0 (0 : Int32) (0 : Int32) σ5) (fun n9 σ9 => R (.inr n9) σ9))
set_option maxRecDepth 100000 in
theorem t_PF_fill {l : Launch} {cx : q_C} {x0 : Nat} {σ : q_S} {R : q_O → q_S → Prop} (hV : V_PF_fill x0 σ R) : q_Ct l cx M_PF_fill 7 448 0 0 [q_r x0] σ R := by
  refine q_Ct.of p_PF_fill c_PF_fill rfl (Nat.le_of_ble_eq_true rfl) ?_
  have hV := hV (fun (x0 : Nat) (x1 : Int32) (x2 : Int32) (σ : q_S) => q_G l cx M_PF_fill 7 448 0 0 8 [(0, .inr (.inr x0)), (1, .inl x1), (2, .inl x2)] [] σ R)
  have hV := hV (by
      intro x0 x1 x2 σ hV
      show q_G l cx M_PF_fill 7 448 0 0 8 [(0, .inr (.inr x0)), (1, .inl x1), (2, .inl x2)] [] σ R
      refine q_run k_PF_fill 6 3 13 rfl ?_
      show q_K σ x0 = 1 ∧ q_G l cx M_PF_fill 7 448 0 0 13 [(0, .inr (.inr x0)), (1, .inl x1), (2, .inl x2)] [.inr (.inr (q_P σ x0 1)), .inl x2] σ R
      obtain ⟨s1, hV⟩ := hV
      refine ⟨s1, ?_⟩
      obtain ⟨s2, hV⟩ := hV
      refine q_callF (st := [.inl x2]) (as := []) (x := ⟨"java/util/List", "size", "()I"⟩) (t_AL_size (l := l) (cx := cx)  hV) (q_dc k_PF_fill 9 rfl) (List.mem_of_getElem? (i := 172) (by decide +kernel)) w_AL_size n_AL_size (ci := 7) rfl (List.mem_of_getElem? (i := 173) (by decide +kernel)) (List.mem_of_getElem? (i := 0) rfl) (by decide) a_AL_size (q_wt (Nat.le_of_ble_eq_true rfl)) ⟨Nat.le_of_ble_eq_true rfl, Nat.le_of_ble_eq_true rfl⟩ s2 (fun v9 τ9 q9 => ?_) (fun n9 τ9 q9 => q_T.leave rfl q9)
      obtain ⟨v5, rfl, hV⟩ := q_ci_elim q9
      clear q9
      have hV := hV
      revert hV
      generalize τ9 = σ6
      intro hV
      show q_G l cx M_PF_fill 7 448 0 0 18 [(0, .inr (.inr x0)), (1, .inl x1), (2, .inl x2)] [.inl v5, .inl x2] σ6 R
      refine q_icmp (q_dc k_PF_fill 10 rfl) rfl (fun h7 => ?_) (fun h7 => ?_)
      · have hV := hV.1 h7
        refine q_run k_PF_fill 27 1 56 rfl ?_
        show q_G l cx M_PF_fill 7 448 0 0 56 [(0, .inr (.inr x0)), (1, .inl x1), (2, .inl x2)] [.inl x1] σ6 R
        exact q_ireturn (q_dc k_PF_fill 28 rfl) rfl hV
      · have hV := hV.2 h7
        refine q_run k_PF_fill 11 3 26 rfl ?_
        show q_K σ6 x0 = 1 ∧ q_G l cx M_PF_fill 7 448 0 0 26 [(0, .inr (.inr x0)), (1, .inl x1), (2, .inl x2)] [.inl x2, .inr (.inr (q_P σ6 x0 1))] σ6 R
        obtain ⟨s8, hV⟩ := hV
        refine ⟨s8, ?_⟩
        obtain ⟨s9, hV⟩ := hV
        refine q_callF (st := []) (as := [.inl x2]) (x := ⟨"java/util/List", "get", "(I)Ljava/lang/Object;"⟩) (t_AL_get (l := l) (cx := cx)  hV) (q_dc k_PF_fill 14 rfl) (List.mem_of_getElem? (i := 176) (by decide +kernel)) w_AL_get n_AL_get (ci := 7) rfl (List.mem_of_getElem? (i := 177) (by decide +kernel)) (List.mem_of_getElem? (i := 1) rfl) (by decide) a_AL_get (q_wt (Nat.le_of_ble_eq_true rfl)) ⟨Nat.le_of_ble_eq_true rfl, Nat.le_of_ble_eq_true rfl⟩ s9 (fun v9 τ9 q9 => ?_) (fun n9 τ9 q9 => q_T.leave rfl q9)
        obtain ⟨v12, rfl, hV⟩ := q_cr_elim q9
        clear q9
        have hV := hV
        revert hV
        generalize τ9 = σ13
        intro hV
        show q_G l cx M_PF_fill 7 448 0 0 31 [(0, .inr (.inr x0)), (1, .inl x1), (2, .inl x2)] [.inr (.inr v12)] σ13 R
        obtain ⟨s14, hV⟩ := hV
        refine q_cast1 (ci := 5) (q_dc k_PF_fill 15 rfl) rfl s14 (List.mem_of_getElem? (i := 3) rfl) (List.mem_of_getElem? (i := 190) (by decide +kernel)) ?_
        show q_G l cx M_PF_fill 7 448 0 0 34 [(0, .inr (.inr x0)), (1, .inl x1), (2, .inl x2)] [.inr (.inr v12)] σ13 R
        refine q_run k_PF_fill 16 2 36 rfl ?_
        show q_G l cx M_PF_fill 7 448 0 0 36 [(3, .inr (.inr v12)), (0, .inr (.inr x0)), (1, .inl x1), (2, .inl x2)] [.inr (.inr v12)] σ13 R
        obtain ⟨s15, hV⟩ := hV
        refine q_callV (st := []) (as := []) (t_PL_takeTrial (l := l) (cx := cx)  hV) (q_dc k_PF_fill 18 rfl) (Or.inr ⟨"PlaneFills", List.mem_of_getElem? (i := 12) (by decide +kernel)⟩) w_PL_takeTrial n_PL_takeTrial (ci := 5) rfl e_PL_takeTrial a_PL_takeTrial (q_wt (Nat.le_of_ble_eq_true rfl)) ⟨Nat.le_of_ble_eq_true rfl, Nat.le_of_ble_eq_true rfl⟩ s15 (fun v9 τ9 q9 => ?_) (fun n9 τ9 q9 => q_T.leave rfl q9)
        obtain ⟨rfl, hV⟩ := q_cv_elim q9
        clear q9
        have hV := hV
        revert hV
        generalize τ9 = σ19
        intro hV
        show q_G l cx M_PF_fill 7 448 0 0 39 [(3, .inr (.inr v12)), (0, .inr (.inr x0)), (1, .inl x1), (2, .inl x2)] [] σ19 R
        refine q_run k_PF_fill 19 6 49 rfl ?_
        show q_K σ19 v12 = 6 ∧ q_K σ19 (q_P σ19 v12 10) = 2 ∧ q_G l cx M_PF_fill 7 448 0 0 49 [(1, .inl (x1 + (q_I σ19 (q_P σ19 v12 10) 1))), (3, .inr (.inr v12)), (0, .inr (.inr x0)), (2, .inl x2)] [] σ19 R
        obtain ⟨s21, s22, hV⟩ := hV
        refine ⟨s21, s22, ?_⟩
        refine q_let (fun v20 => q_G l cx M_PF_fill 7 448 0 0 49 [(1, .inl v20), (3, .inr (.inr v12)), (0, .inr (.inr x0)), (2, .inl x2)] [] σ19 R) (x1 + (q_I σ19 (q_P σ19 v12 10) 1)) (fun v20 e_v20 => ?_)
        have hV := hV v20 e_v20
        refine q_run k_PF_fill 25 1 52 rfl ?_
        show q_G l cx M_PF_fill 7 448 0 0 52 [(2, .inl (x2 + (1 : Int32))), (1, .inl v20), (3, .inr (.inr v12)), (0, .inr (.inr x0))] [] σ19 R
        refine q_let (fun v23 => q_G l cx M_PF_fill 7 448 0 0 52 [(2, .inl v23), (1, .inl v20), (3, .inr (.inr v12)), (0, .inr (.inr x0))] [] σ19 R) (x2 + (1 : Int32)) (fun v23 e_v23 => ?_)
        have hV := hV v23 e_v23
        refine q_goto (q_dc k_PF_fill 26 rfl) rfl ?_
        exact q_less (Nat.le_of_ble_eq_true rfl) (Nat.le_of_ble_eq_true rfl) (q_subk [3, 1, 0] rfl hV))
  refine q_run k_PF_fill 0 1 1 rfl ?_
  show q_G l cx M_PF_fill 7 448 0 0 1 [(0, .inr (.inr x0))] [.inr (.inr x0)] σ R
  obtain ⟨s1, hV⟩ := hV
  refine q_callV (st := []) (as := []) (t_PF_fillTrials (l := l) (cx := cx)  hV) (q_dc k_PF_fill 1 rfl) (Or.inl (List.mem_of_getElem? (i := 169) (by decide +kernel))) w_PF_fillTrials n_PF_fillTrials (ci := 0) rfl e_PF_fillTrials a_PF_fillTrials (q_wt (Nat.le_of_ble_eq_true rfl)) ⟨Nat.le_of_ble_eq_true rfl, Nat.le_of_ble_eq_true rfl⟩ s1 (fun v9 τ9 q9 => ?_) (fun n9 τ9 q9 => q_T.leave rfl q9)
  obtain ⟨rfl, hV⟩ := q_cv_elim q9
  clear q9
  have hV := hV
  revert hV
  generalize τ9 = σ5
  intro hV
  show q_G l cx M_PF_fill 7 448 0 0 4 [(0, .inr (.inr x0))] [] σ5 R
  refine q_run k_PF_fill 2 4 8 rfl ?_
  show q_G l cx M_PF_fill 7 448 0 0 8 [(2, .inl (0 : Int32)), (1, .inl (0 : Int32)), (0, .inr (.inr x0))] [] σ5 R
  exact q_less (Nat.le_of_ble_eq_true rfl) (Nat.le_of_ble_eq_true rfl) (q_subk [2, 1, 0] rfl hV)
def V_PF_takePiece (x0 : Nat) (x1 : Nat) (x2 : Int32) (σ : q_S) (R : q_O → q_S → Prop) : Prop :=
  ∀ (P15 : q_S → Prop),
  ∀ (P36 : Nat → Int32 → Int32 → Int32 → q_S → Prop),
  ∀ (P60 : Int32 → q_S → Prop),
  (∀ (σ : q_S), (R (.inl (some (.inl (0 : Int32)))) σ) → P15 σ) →
  (∀ (x0 : Nat) (x2 : Int32) (x3 : Int32) (x4 : Int32) (σ : q_S), (((x2 < x4 → P60 x3 σ) ∧ (¬ (x2 < x4) → ((x3 = (0 : Int32) → P60 x3 σ) ∧ (¬ (x3 = (0 : Int32)) → q_K σ x0 = 1 ∧ q_K σ (q_P σ x0 6) = 4 ∧ V_PG_next (q_P σ x0 6) σ (q_ci (fun v7 σ8 => ∀ v9 : Int32, v9 = x4 + (1 : Int32) → P36 x0 x2 v7 v9 σ8) (fun n9 σ9 => R (.inr n9) σ9))))))) → P36 x0 x2 x3 x4 σ) →
  (∀ (x3 : Int32) (σ : q_S), (((x3 = 0 ∨ x3 = 1) ∧ R (.inl (some (.inl x3))) σ)) → P60 x3 σ) →
  ((x2 < (0 : Int32) → P15  σ) ∧ (¬ (x2 < (0 : Int32)) → q_K σ x1 = 6 ∧ q_K σ (q_P σ x1 10) = 2 ∧ ((x2 < (q_I σ (q_P σ x1 10) 1) → q_K σ x0 = 1 ∧ q_K σ x1 = 6 ∧ q_K σ (q_P σ x1 10) = 2 ∧ q_K σ (q_P σ x0 6) = 4 ∧ V_PG_start (q_P σ x0 6) (q_P σ (q_P σ x1 10) 0) σ (q_cv (fun σ12 => P36 x0 x2 (1 : Int32) (0 : Int32) σ12) (fun n9 σ9 => R (.inr n9) σ9))) ∧ (¬ (x2 < (q_I σ (q_P σ x1 10) 1)) → P15  σ))))
set_option maxRecDepth 100000 in
theorem t_PF_takePiece {l : Launch} {cx : q_C} {x0 : Nat} {x1 : Nat} {x2 : Int32} {σ : q_S} {R : q_O → q_S → Prop} (hV : V_PF_takePiece x0 x1 x2 σ R) : q_Ct l cx M_PF_takePiece 4 256 0 0 [q_r x0, q_r x1, q_i x2] σ R := by
  refine q_Ct.of p_PF_takePiece c_PF_takePiece rfl (Nat.le_of_ble_eq_true rfl) ?_
  have hV := hV (fun (σ : q_S) => q_G l cx M_PF_takePiece 4 256 0 0 15 [] [] σ R) (fun (x0 : Nat) (x2 : Int32) (x3 : Int32) (x4 : Int32) (σ : q_S) => q_G l cx M_PF_takePiece 4 256 0 0 36 [(0, .inr (.inr x0)), (2, .inl x2), (3, .inl x3), (4, .inl x4)] [] σ R) (fun (x3 : Int32) (σ : q_S) => q_G l cx M_PF_takePiece 4 256 0 0 60 [(3, .inl x3)] [] σ R)
  have hV := hV (by
      intro σ hV
      show q_G l cx M_PF_takePiece 4 256 0 0 15 [] [] σ R
      refine q_run k_PF_takePiece 7 1 16 rfl ?_
      show q_G l cx M_PF_takePiece 4 256 0 0 16 [] [.inl (0 : Int32)] σ R
      exact q_zreturn (q_dc k_PF_takePiece 8 rfl) rfl (by decide) hV)
  have hV := hV (by
      intro x0 x2 x3 x4 σ hV
      show q_G l cx M_PF_takePiece 4 256 0 0 36 [(0, .inr (.inr x0)), (2, .inl x2), (3, .inl x3), (4, .inl x4)] [] σ R
      refine q_run k_PF_takePiece 19 2 39 rfl ?_
      show q_G l cx M_PF_takePiece 4 256 0 0 39 [(0, .inr (.inr x0)), (2, .inl x2), (3, .inl x3), (4, .inl x4)] [.inl x2, .inl x4] σ R
      refine q_icmp (q_dc k_PF_takePiece 21 rfl) rfl (fun h1 => ?_) (fun h1 => ?_)
      · have hV := hV.1 h1
        exact q_less (Nat.le_of_ble_eq_true rfl) (Nat.le_of_ble_eq_true rfl) (q_subk [2] rfl hV)
      · have hV := hV.2 h1
        refine q_run k_PF_takePiece 22 1 43 rfl ?_
        show q_G l cx M_PF_takePiece 4 256 0 0 43 [(0, .inr (.inr x0)), (2, .inl x2), (3, .inl x3), (4, .inl x4)] [.inl x3] σ R
        refine q_ifz (q_dc k_PF_takePiece 23 rfl) rfl (fun h2 => ?_) (fun h2 => ?_)
        · have hV := hV.1 h2
          exact q_less (Nat.le_of_ble_eq_true rfl) (Nat.le_of_ble_eq_true rfl) (q_subk [2] rfl hV)
        · have hV := hV.2 h2
          refine q_run k_PF_takePiece 24 2 50 rfl ?_
          show q_K σ x0 = 1 ∧ q_G l cx M_PF_takePiece 4 256 0 0 50 [(0, .inr (.inr x0)), (2, .inl x2), (3, .inl x3), (4, .inl x4)] [.inr (.inr (q_P σ x0 6))] σ R
          obtain ⟨s3, hV⟩ := hV
          refine ⟨s3, ?_⟩
          obtain ⟨s4, hV⟩ := hV
          refine q_callV (st := []) (as := []) (t_PG_next (l := l) (cx := cx)  hV) (q_dc k_PF_takePiece 26 rfl) (Or.inr ⟨"PlaneFills", List.mem_of_getElem? (i := 7) (by decide +kernel)⟩) w_PG_next n_PG_next (ci := 3) rfl e_PG_next a_PG_next (q_wt (Nat.le_of_ble_eq_true rfl)) ⟨Nat.le_of_ble_eq_true rfl, Nat.le_of_ble_eq_true rfl⟩ s4 (fun v9 τ9 q9 => ?_) (fun n9 τ9 q9 => q_T.leave rfl q9)
          obtain ⟨v7, rfl, hV⟩ := q_ci_elim q9
          clear q9
          have hV := hV
          revert hV
          generalize τ9 = σ8
          intro hV
          show q_G l cx M_PF_takePiece 4 256 0 0 53 [(0, .inr (.inr x0)), (2, .inl x2), (3, .inl x3), (4, .inl x4)] [.inl v7] σ8 R
          refine q_run k_PF_takePiece 27 2 57 rfl ?_
          show q_G l cx M_PF_takePiece 4 256 0 0 57 [(4, .inl (x4 + (1 : Int32))), (3, .inl v7), (0, .inr (.inr x0)), (2, .inl x2)] [] σ8 R
          refine q_let (fun v9 => q_G l cx M_PF_takePiece 4 256 0 0 57 [(4, .inl v9), (3, .inl v7), (0, .inr (.inr x0)), (2, .inl x2)] [] σ8 R) (x4 + (1 : Int32)) (fun v9 e_v9 => ?_)
          have hV := hV v9 e_v9
          refine q_goto (q_dc k_PF_takePiece 29 rfl) rfl ?_
          exact q_less (Nat.le_of_ble_eq_true rfl) (Nat.le_of_ble_eq_true rfl) (q_subk [2, 3, 1, 0] rfl hV))
  have hV := hV (by
      intro x3 σ hV
      show q_G l cx M_PF_takePiece 4 256 0 0 60 [(3, .inl x3)] [] σ R
      refine q_run k_PF_takePiece 30 1 61 rfl ?_
      show q_G l cx M_PF_takePiece 4 256 0 0 61 [(3, .inl x3)] [.inl x3] σ R
      exact q_zreturn (q_dc k_PF_takePiece 31 rfl) rfl hV.1 hV.2)
  refine q_run k_PF_takePiece 0 1 1 rfl ?_
  show q_G l cx M_PF_takePiece 4 256 0 0 1 [(0, .inr (.inr x0)), (1, .inr (.inr x1)), (2, .inl x2)] [.inl x2] σ R
  refine q_ifz (q_dc k_PF_takePiece 1 rfl) rfl (fun h1 => ?_) (fun h1 => ?_)
  · have hV := hV.1 h1
    exact q_less (Nat.le_of_ble_eq_true rfl) (Nat.le_of_ble_eq_true rfl) (q_subk [] rfl hV)
  · have hV := hV.2 h1
    refine q_run k_PF_takePiece 2 4 12 rfl ?_
    show q_K σ x1 = 6 ∧ q_K σ (q_P σ x1 10) = 2 ∧ q_G l cx M_PF_takePiece 4 256 0 0 12 [(0, .inr (.inr x0)), (1, .inr (.inr x1)), (2, .inl x2)] [.inl (q_I σ (q_P σ x1 10) 1), .inl x2] σ R
    obtain ⟨s2, s3, hV⟩ := hV
    refine ⟨s2, s3, ?_⟩
    refine q_icmp (q_dc k_PF_takePiece 6 rfl) rfl (fun h4 => ?_) (fun h4 => ?_)
    · have hV := hV.1 h4
      refine q_run k_PF_takePiece 9 5 28 rfl ?_
      show q_K σ x0 = 1 ∧ q_K σ x1 = 6 ∧ q_K σ (q_P σ x1 10) = 2 ∧ q_G l cx M_PF_takePiece 4 256 0 0 28 [(0, .inr (.inr x0)), (1, .inr (.inr x1)), (2, .inl x2)] [.inr (.inr (q_P σ (q_P σ x1 10) 0)), .inr (.inr (q_P σ x0 6))] σ R
      obtain ⟨s5, s6, s7, hV⟩ := hV
      refine ⟨s5, s6, s7, ?_⟩
      obtain ⟨s8, hV⟩ := hV
      refine q_callV (st := []) (as := [.inr (.inr (q_P σ (q_P σ x1 10) 0))]) (t_PG_start (l := l) (cx := cx)  hV) (q_dc k_PF_takePiece 14 rfl) (Or.inr ⟨"PlaneFills", List.mem_of_getElem? (i := 6) (by decide +kernel)⟩) w_PG_start n_PG_start (ci := 3) rfl e_PG_start a_PG_start (q_wt (Nat.le_of_ble_eq_true rfl)) ⟨Nat.le_of_ble_eq_true rfl, Nat.le_of_ble_eq_true rfl⟩ s8 (fun v9 τ9 q9 => ?_) (fun n9 τ9 q9 => q_T.leave rfl q9)
      obtain ⟨rfl, hV⟩ := q_cv_elim q9
      clear q9
      have hV := hV
      revert hV
      generalize τ9 = σ12
      intro hV
      show q_G l cx M_PF_takePiece 4 256 0 0 31 [(0, .inr (.inr x0)), (1, .inr (.inr x1)), (2, .inl x2)] [] σ12 R
      refine q_run k_PF_takePiece 15 4 36 rfl ?_
      show q_G l cx M_PF_takePiece 4 256 0 0 36 [(4, .inl (0 : Int32)), (3, .inl (1 : Int32)), (0, .inr (.inr x0)), (1, .inr (.inr x1)), (2, .inl x2)] [] σ12 R
      exact q_less (Nat.le_of_ble_eq_true rfl) (Nat.le_of_ble_eq_true rfl) (q_subk [2, 4, 1, 0] rfl hV)
    · have hV := hV.2 h4
      exact q_less (Nat.le_of_ble_eq_true rfl) (Nat.le_of_ble_eq_true rfl) (q_subk [] rfl hV)
def V_PF_takeEdge (x0 : Nat) (σ : q_S) (R : q_O → q_S → Prop) : Prop :=
  ∀ (P10 : Nat → Nat → Int32 → q_S → Prop),
  ∀ (P35 : Nat → Nat → Int32 → Int32 → Int32 → q_S → Prop),
  ∀ (P50 : Nat → Nat → Int32 → Int32 → Int32 → Int32 → q_S → Prop),
  (∀ (x0 : Nat) (x1 : Nat) (x2 : Int32) (σ : q_S), ((((24 : Int32) ≤ x2 → R (.inl none) σ) ∧ (¬ ((24 : Int32) ≤ x2) → (q_K σ x1 = 1000 ∨ q_K σ x1 = 2000) ∧ vp_in x2 (q_Z σ x1) ∧ ∀ v2 : Int32, v2 = q_I σ x1 x2.toNatClampNeg → (((23 : Int32) ≤ x2 → P35 x0 x1 x2 v2 (0 : Int32) σ) ∧ (¬ ((23 : Int32) ≤ x2) → (q_K σ x1 = 1000 ∨ q_K σ x1 = 2000) ∧ vp_in (x2 + (1 : Int32)) (q_Z σ x1) ∧ P35 x0 x1 x2 v2 (q_I σ x1 (x2 + (1 : Int32)).toNatClampNeg) σ))))) → P10 x0 x1 x2 σ) →
  (∀ (x0 : Nat) (x1 : Nat) (x2 : Int32) (x3 : Int32) (y0 : Int32) (σ : q_S), (((x2 ≤ (0 : Int32) → P50 x0 x1 x2 x3 y0 (0 : Int32) σ) ∧ (¬ (x2 ≤ (0 : Int32)) → (q_K σ x1 = 1000 ∨ q_K σ x1 = 2000) ∧ vp_in (x2 - (1 : Int32)) (q_Z σ x1) ∧ P50 x0 x1 x2 x3 y0 (q_I σ x1 (x2 - (1 : Int32)).toNatClampNeg) σ))) → P35 x0 x1 x2 x3 y0 σ) →
  (∀ (x0 : Nat) (x1 : Nat) (x2 : Int32) (x3 : Int32) (x4 : Int32) (y0 : Int32) (σ : q_S), (q_K σ x0 = 1 ∧ q_K σ (q_P σ x0 8) = 1000 ∧ vp_in x2 (q_Z σ (q_P σ x0 8)) ∧ ∀ σ1 : q_S, σ1 = q_wI σ (q_P σ x0 8) x2.toNatClampNeg (x3 &&& (((((x3 <<< ((1 : Int32) &&& 31)) &&& (q_ushr x3 (1 : Int32))) &&& x4) &&& y0) ^^^ (-1 : Int32))) → ∀ v5 : Int32, v5 = x2 + (1 : Int32) → P10 x0 x1 v5 σ1) → P50 x0 x1 x2 x3 x4 y0 σ) →
  q_K σ x0 = 1 ∧ q_K σ (q_P σ x0 6) = 4 ∧ ∀ v1 : Nat, v1 = q_P σ (q_P σ x0 6) 2 → P10 x0 v1 (0 : Int32) σ
set_option maxRecDepth 100000 in
theorem t_PF_takeEdge {l : Launch} {cx : q_C} {x0 : Nat} {σ : q_S} {R : q_O → q_S → Prop} (hV : V_PF_takeEdge x0 σ R) : q_Ct l cx M_PF_takeEdge 0 0 0 0 [q_r x0] σ R := by
  refine q_Ct.of p_PF_takeEdge c_PF_takeEdge rfl (Nat.le_of_ble_eq_true rfl) ?_
  have hV := hV (fun (x0 : Nat) (x1 : Nat) (x2 : Int32) (σ : q_S) => q_G l cx M_PF_takeEdge 0 0 0 0 10 [(0, .inr (.inr x0)), (1, .inr (.inr x1)), (2, .inl x2)] [] σ R) (fun (x0 : Nat) (x1 : Nat) (x2 : Int32) (x3 : Int32) (y0 : Int32) (σ : q_S) => q_G l cx M_PF_takeEdge 0 0 0 0 35 [(0, .inr (.inr x0)), (1, .inr (.inr x1)), (2, .inl x2), (3, .inl x3)] [.inl y0] σ R) (fun (x0 : Nat) (x1 : Nat) (x2 : Int32) (x3 : Int32) (x4 : Int32) (y0 : Int32) (σ : q_S) => q_G l cx M_PF_takeEdge 0 0 0 0 50 [(0, .inr (.inr x0)), (1, .inr (.inr x1)), (2, .inl x2), (3, .inl x3), (4, .inl x4)] [.inl y0] σ R)
  have hV := hV (by
      intro x0 x1 x2 σ hV
      show q_G l cx M_PF_takeEdge 0 0 0 0 10 [(0, .inr (.inr x0)), (1, .inr (.inr x1)), (2, .inl x2)] [] σ R
      refine q_run k_PF_takeEdge 6 2 13 rfl ?_
      show q_G l cx M_PF_takeEdge 0 0 0 0 13 [(0, .inr (.inr x0)), (1, .inr (.inr x1)), (2, .inl x2)] [.inl (24 : Int32), .inl x2] σ R
      refine q_icmp (q_dc k_PF_takeEdge 8 rfl) rfl (fun h1 => ?_) (fun h1 => ?_)
      · have hV := hV.1 h1
        exact q_vreturn (q_dc k_PF_takeEdge 55 rfl) rfl hV
      · have hV := hV.2 h1
        refine q_run k_PF_takeEdge 9 4 20 rfl ?_
        show (q_K σ x1 = 1000 ∨ q_K σ x1 = 2000) ∧ vp_in x2 (q_Z σ x1) ∧ q_G l cx M_PF_takeEdge 0 0 0 0 20 [(3, .inl (q_I σ x1 x2.toNatClampNeg)), (0, .inr (.inr x0)), (1, .inr (.inr x1)), (2, .inl x2)] [] σ R
        obtain ⟨s3, s4, hV⟩ := hV
        refine ⟨s3, s4, ?_⟩
        refine q_let (fun v2 => q_G l cx M_PF_takeEdge 0 0 0 0 20 [(3, .inl v2), (0, .inr (.inr x0)), (1, .inr (.inr x1)), (2, .inl x2)] [] σ R) (q_I σ x1 x2.toNatClampNeg) (fun v2 e_v2 => ?_)
        have hV := hV v2 e_v2
        refine q_run k_PF_takeEdge 13 2 23 rfl ?_
        show q_G l cx M_PF_takeEdge 0 0 0 0 23 [(3, .inl v2), (0, .inr (.inr x0)), (1, .inr (.inr x1)), (2, .inl x2)] [.inl (23 : Int32), .inl x2] σ R
        refine q_icmp (q_dc k_PF_takeEdge 15 rfl) rfl (fun h5 => ?_) (fun h5 => ?_)
        · have hV := hV.1 h5
          refine q_run k_PF_takeEdge 22 1 35 rfl ?_
          show q_G l cx M_PF_takeEdge 0 0 0 0 35 [(3, .inl v2), (0, .inr (.inr x0)), (1, .inr (.inr x1)), (2, .inl x2)] [.inl (0 : Int32)] σ R
          exact q_less (Nat.le_of_ble_eq_true rfl) (Nat.le_of_ble_eq_true rfl) (q_subk [1, 2, 3, 0] rfl hV)
        · have hV := hV.2 h5
          refine q_run k_PF_takeEdge 16 5 31 rfl ?_
          show (q_K σ x1 = 1000 ∨ q_K σ x1 = 2000) ∧ vp_in (x2 + (1 : Int32)) (q_Z σ x1) ∧ q_G l cx M_PF_takeEdge 0 0 0 0 31 [(3, .inl v2), (0, .inr (.inr x0)), (1, .inr (.inr x1)), (2, .inl x2)] [.inl (q_I σ x1 (x2 + (1 : Int32)).toNatClampNeg)] σ R
          obtain ⟨s6, s7, hV⟩ := hV
          refine ⟨s6, s7, ?_⟩
          refine q_goto (q_dc k_PF_takeEdge 21 rfl) rfl ?_
          exact q_less (Nat.le_of_ble_eq_true rfl) (Nat.le_of_ble_eq_true rfl) (q_subk [1, 2, 3, 0] rfl hV))
  have hV := hV (by
      intro x0 x1 x2 x3 y0 σ hV
      show q_G l cx M_PF_takeEdge 0 0 0 0 35 [(0, .inr (.inr x0)), (1, .inr (.inr x1)), (2, .inl x2), (3, .inl x3)] [.inl y0] σ R
      refine q_run k_PF_takeEdge 23 2 38 rfl ?_
      show q_G l cx M_PF_takeEdge 0 0 0 0 38 [(4, .inl y0), (0, .inr (.inr x0)), (1, .inr (.inr x1)), (2, .inl x2), (3, .inl x3)] [.inl x2] σ R
      refine q_ifz (q_dc k_PF_takeEdge 25 rfl) rfl (fun h1 => ?_) (fun h1 => ?_)
      · have hV := hV.1 h1
        refine q_run k_PF_takeEdge 32 1 50 rfl ?_
        show q_G l cx M_PF_takeEdge 0 0 0 0 50 [(4, .inl y0), (0, .inr (.inr x0)), (1, .inr (.inr x1)), (2, .inl x2), (3, .inl x3)] [.inl (0 : Int32)] σ R
        exact q_less (Nat.le_of_ble_eq_true rfl) (Nat.le_of_ble_eq_true rfl) (q_subk [1, 2, 3, 4, 0] rfl hV)
      · have hV := hV.2 h1
        refine q_run k_PF_takeEdge 26 5 46 rfl ?_
        show (q_K σ x1 = 1000 ∨ q_K σ x1 = 2000) ∧ vp_in (x2 - (1 : Int32)) (q_Z σ x1) ∧ q_G l cx M_PF_takeEdge 0 0 0 0 46 [(4, .inl y0), (0, .inr (.inr x0)), (1, .inr (.inr x1)), (2, .inl x2), (3, .inl x3)] [.inl (q_I σ x1 (x2 - (1 : Int32)).toNatClampNeg)] σ R
        obtain ⟨s2, s3, hV⟩ := hV
        refine ⟨s2, s3, ?_⟩
        refine q_goto (q_dc k_PF_takeEdge 31 rfl) rfl ?_
        exact q_less (Nat.le_of_ble_eq_true rfl) (Nat.le_of_ble_eq_true rfl) (q_subk [1, 2, 3, 4, 0] rfl hV))
  have hV := hV (by
      intro x0 x1 x2 x3 x4 y0 σ hV
      show q_G l cx M_PF_takeEdge 0 0 0 0 50 [(0, .inr (.inr x0)), (1, .inr (.inr x1)), (2, .inl x2), (3, .inl x3), (4, .inl x4)] [.inl y0] σ R
      refine q_run k_PF_takeEdge 33 20 75 rfl ?_
      show q_K σ x0 = 1 ∧ q_K σ (q_P σ x0 8) = 1000 ∧ vp_in x2 (q_Z σ (q_P σ x0 8)) ∧ q_G l cx M_PF_takeEdge 0 0 0 0 75 [(5, .inl y0), (0, .inr (.inr x0)), (1, .inr (.inr x1)), (2, .inl x2), (3, .inl x3), (4, .inl x4)] [] (q_wI σ (q_P σ x0 8) x2.toNatClampNeg (x3 &&& (((((x3 <<< ((1 : Int32) &&& 31)) &&& (q_ushr x3 (1 : Int32))) &&& x4) &&& y0) ^^^ (-1 : Int32)))) R
      obtain ⟨s2, s3, s4, hV⟩ := hV
      refine ⟨s2, s3, s4, ?_⟩
      refine q_let (fun σ1 => q_G l cx M_PF_takeEdge 0 0 0 0 75 [(5, .inl y0), (0, .inr (.inr x0)), (1, .inr (.inr x1)), (2, .inl x2), (3, .inl x3), (4, .inl x4)] [] σ1 R) (q_wI σ (q_P σ x0 8) x2.toNatClampNeg (x3 &&& (((((x3 <<< ((1 : Int32) &&& 31)) &&& (q_ushr x3 (1 : Int32))) &&& x4) &&& y0) ^^^ (-1 : Int32)))) (fun σ1 e_σ1 => ?_)
      have hV := hV σ1 e_σ1
      refine q_run k_PF_takeEdge 53 1 78 rfl ?_
      show q_G l cx M_PF_takeEdge 0 0 0 0 78 [(2, .inl (x2 + (1 : Int32))), (5, .inl y0), (0, .inr (.inr x0)), (1, .inr (.inr x1)), (3, .inl x3), (4, .inl x4)] [] σ1 R
      refine q_let (fun v5 => q_G l cx M_PF_takeEdge 0 0 0 0 78 [(2, .inl v5), (5, .inl y0), (0, .inr (.inr x0)), (1, .inr (.inr x1)), (3, .inl x3), (4, .inl x4)] [] σ1 R) (x2 + (1 : Int32)) (fun v5 e_v5 => ?_)
      have hV := hV v5 e_v5
      refine q_goto (q_dc k_PF_takeEdge 54 rfl) rfl ?_
      exact q_less (Nat.le_of_ble_eq_true rfl) (Nat.le_of_ble_eq_true rfl) (q_subk [2, 3, 0] rfl hV))
  refine q_run k_PF_takeEdge 0 4 8 rfl ?_
  show q_K σ x0 = 1 ∧ q_K σ (q_P σ x0 6) = 4 ∧ q_G l cx M_PF_takeEdge 0 0 0 0 8 [(1, .inr (.inr (q_P σ (q_P σ x0 6) 2))), (0, .inr (.inr x0))] [] σ R
  obtain ⟨s2, s3, hV⟩ := hV
  refine ⟨s2, s3, ?_⟩
  refine q_let (fun v1 => q_G l cx M_PF_takeEdge 0 0 0 0 8 [(1, .inr (.inr v1)), (0, .inr (.inr x0))] [] σ R) (q_P σ (q_P σ x0 6) 2) (fun v1 e_v1 => ?_)
  have hV := hV v1 e_v1
  refine q_run k_PF_takeEdge 4 2 10 rfl ?_
  show q_G l cx M_PF_takeEdge 0 0 0 0 10 [(2, .inl (0 : Int32)), (1, .inr (.inr v1)), (0, .inr (.inr x0))] [] σ R
  exact q_less (Nat.le_of_ble_eq_true rfl) (Nat.le_of_ble_eq_true rfl) (q_subk [2, 1, 0] rfl hV)
def V_PF_takeNextHole (x0 : Nat) (σ : q_S) (R : q_O → q_S → Prop) : Prop :=
  ∀ (P2 : Nat → Int32 → q_S → Prop),
  ∀ (P37 : q_S → Prop),
  (∀ (x0 : Nat) (x1 : Int32) (σ : q_S), ((((768 : Int32) ≤ x1 → P37  σ) ∧ (¬ ((768 : Int32) ≤ x1) → q_K σ x0 = 1 ∧ q_K σ (q_P σ x0 7) = 4 ∧ V_PG_next (q_P σ x0 7) σ (q_ci (fun v6 σ7 => ((v6 = (0 : Int32) → P37  σ7) ∧ (¬ (v6 = (0 : Int32)) → q_K σ7 x0 = 1 ∧ q_K σ7 (q_P σ7 x0 7) = 4 ∧ V_PG_comesToBorder (q_P σ7 x0 7) σ7 (q_ci (fun v13 σ14 => ((¬ v13 = (0 : Int32) → ∀ v16 : Int32, v16 = x1 + (1 : Int32) → P2 x0 v16 σ14) ∧ (¬ (¬ v13 = (0 : Int32)) → R (.inl (some (.inl (1 : Int32)))) σ14))) (fun n9 σ9 => R (.inr n9) σ9))))) (fun n9 σ9 => R (.inr n9) σ9))))) → P2 x0 x1 σ) →
  (∀ (σ : q_S), (R (.inl (some (.inl (0 : Int32)))) σ) → P37 σ) →
  P2 x0 (0 : Int32) σ
set_option maxRecDepth 100000 in
theorem t_PF_takeNextHole {l : Launch} {cx : q_C} {x0 : Nat} {σ : q_S} {R : q_O → q_S → Prop} (hV : V_PF_takeNextHole x0 σ R) : q_Ct l cx M_PF_takeNextHole 4 256 0 0 [q_r x0] σ R := by
  refine q_Ct.of p_PF_takeNextHole c_PF_takeNextHole rfl (Nat.le_of_ble_eq_true rfl) ?_
  have hV := hV (fun (x0 : Nat) (x1 : Int32) (σ : q_S) => q_G l cx M_PF_takeNextHole 4 256 0 0 2 [(0, .inr (.inr x0)), (1, .inl x1)] [] σ R) (fun (σ : q_S) => q_G l cx M_PF_takeNextHole 4 256 0 0 37 [] [] σ R)
  have hV := hV (by
      intro x0 x1 σ hV
      show q_G l cx M_PF_takeNextHole 4 256 0 0 2 [(0, .inr (.inr x0)), (1, .inl x1)] [] σ R
      refine q_run k_PF_takeNextHole 2 2 6 rfl ?_
      show q_G l cx M_PF_takeNextHole 4 256 0 0 6 [(0, .inr (.inr x0)), (1, .inl x1)] [.inl (768 : Int32), .inl x1] σ R
      refine q_icmp (q_dc k_PF_takeNextHole 4 rfl) rfl (fun h1 => ?_) (fun h1 => ?_)
      · have hV := hV.1 h1
        exact q_less (Nat.le_of_ble_eq_true rfl) (Nat.le_of_ble_eq_true rfl) (q_subk [] rfl hV)
      · have hV := hV.2 h1
        refine q_run k_PF_takeNextHole 5 2 13 rfl ?_
        show q_K σ x0 = 1 ∧ q_G l cx M_PF_takeNextHole 4 256 0 0 13 [(0, .inr (.inr x0)), (1, .inl x1)] [.inr (.inr (q_P σ x0 7))] σ R
        obtain ⟨s2, hV⟩ := hV
        refine ⟨s2, ?_⟩
        obtain ⟨s3, hV⟩ := hV
        refine q_callV (st := []) (as := []) (t_PG_next (l := l) (cx := cx)  hV) (q_dc k_PF_takeNextHole 7 rfl) (Or.inr ⟨"PlaneFills", List.mem_of_getElem? (i := 7) (by decide +kernel)⟩) w_PG_next n_PG_next (ci := 3) rfl e_PG_next a_PG_next (q_wt (Nat.le_of_ble_eq_true rfl)) ⟨Nat.le_of_ble_eq_true rfl, Nat.le_of_ble_eq_true rfl⟩ s3 (fun v9 τ9 q9 => ?_) (fun n9 τ9 q9 => q_T.leave rfl q9)
        obtain ⟨v6, rfl, hV⟩ := q_ci_elim q9
        clear q9
        have hV := hV
        revert hV
        generalize τ9 = σ7
        intro hV
        show q_G l cx M_PF_takeNextHole 4 256 0 0 16 [(0, .inr (.inr x0)), (1, .inl x1)] [.inl v6] σ7 R
        refine q_ifz (q_dc k_PF_takeNextHole 8 rfl) rfl (fun h8 => ?_) (fun h8 => ?_)
        · have hV := hV.1 h8
          exact q_less (Nat.le_of_ble_eq_true rfl) (Nat.le_of_ble_eq_true rfl) (q_subk [] rfl hV)
        · have hV := hV.2 h8
          refine q_run k_PF_takeNextHole 9 2 23 rfl ?_
          show q_K σ7 x0 = 1 ∧ q_G l cx M_PF_takeNextHole 4 256 0 0 23 [(0, .inr (.inr x0)), (1, .inl x1)] [.inr (.inr (q_P σ7 x0 7))] σ7 R
          obtain ⟨s9, hV⟩ := hV
          refine ⟨s9, ?_⟩
          obtain ⟨s10, hV⟩ := hV
          refine q_callV (st := []) (as := []) (t_PG_comesToBorder (l := l) (cx := cx)  hV) (q_dc k_PF_takeNextHole 11 rfl) (Or.inr ⟨"PlaneFills", List.mem_of_getElem? (i := 21) (by decide +kernel)⟩) w_PG_comesToBorder n_PG_comesToBorder (ci := 3) rfl e_PG_comesToBorder a_PG_comesToBorder (q_wt (Nat.le_of_ble_eq_true rfl)) ⟨Nat.le_of_ble_eq_true rfl, Nat.le_of_ble_eq_true rfl⟩ s10 (fun v9 τ9 q9 => ?_) (fun n9 τ9 q9 => q_T.leave rfl q9)
          obtain ⟨v13, rfl, hV⟩ := q_ci_elim q9
          clear q9
          have hV := hV
          revert hV
          generalize τ9 = σ14
          intro hV
          show q_G l cx M_PF_takeNextHole 4 256 0 0 26 [(0, .inr (.inr x0)), (1, .inl x1)] [.inl v13] σ14 R
          refine q_ifz (q_dc k_PF_takeNextHole 12 rfl) rfl (fun h15 => ?_) (fun h15 => ?_)
          · have hV := hV.1 h15
            refine q_run k_PF_takeNextHole 15 1 34 rfl ?_
            show q_G l cx M_PF_takeNextHole 4 256 0 0 34 [(1, .inl (x1 + (1 : Int32))), (0, .inr (.inr x0))] [] σ14 R
            refine q_let (fun v16 => q_G l cx M_PF_takeNextHole 4 256 0 0 34 [(1, .inl v16), (0, .inr (.inr x0))] [] σ14 R) (x1 + (1 : Int32)) (fun v16 e_v16 => ?_)
            have hV := hV v16 e_v16
            refine q_goto (q_dc k_PF_takeNextHole 16 rfl) rfl ?_
            exact q_less (Nat.le_of_ble_eq_true rfl) (Nat.le_of_ble_eq_true rfl) (q_subk [1, 0] rfl hV)
          · have hV := hV.2 h15
            refine q_run k_PF_takeNextHole 13 1 30 rfl ?_
            show q_G l cx M_PF_takeNextHole 4 256 0 0 30 [(0, .inr (.inr x0)), (1, .inl x1)] [.inl (1 : Int32)] σ14 R
            exact q_zreturn (q_dc k_PF_takeNextHole 14 rfl) rfl (by decide) hV)
  have hV := hV (by
      intro σ hV
      show q_G l cx M_PF_takeNextHole 4 256 0 0 37 [] [] σ R
      refine q_run k_PF_takeNextHole 17 1 38 rfl ?_
      show q_G l cx M_PF_takeNextHole 4 256 0 0 38 [] [.inl (0 : Int32)] σ R
      exact q_zreturn (q_dc k_PF_takeNextHole 18 rfl) rfl (by decide) hV)
  refine q_run k_PF_takeNextHole 0 2 2 rfl ?_
  show q_G l cx M_PF_takeNextHole 4 256 0 0 2 [(1, .inl (0 : Int32)), (0, .inr (.inr x0))] [] σ R
  exact q_less (Nat.le_of_ble_eq_true rfl) (Nat.le_of_ble_eq_true rfl) (q_subk [1, 0] rfl hV)
def V_PF_takeRing (x0 : Nat) (x1 : Int32) (σ : q_S) (R : q_O → q_S → Prop) : Prop :=
  ∀ (P34 : Nat → Int32 → Int32 → Int32 → q_S → Prop),
  ∀ (P54 : Nat → Int32 → q_S → Prop),
  (∀ (x0 : Nat) (x1 : Int32) (x2 : Int32) (x3 : Int32) (σ : q_S), (((x1 ≤ x3 → P54 x0 x2 σ) ∧ (¬ (x1 ≤ x3) → ((x2 = (0 : Int32) → P54 x0 x2 σ) ∧ (¬ (x2 = (0 : Int32)) → q_K σ x0 = 1 ∧ V_PF_takeNextHole x0 σ (q_ci (fun v6 σ7 => ∀ v8 : Int32, v8 = x3 + (1 : Int32) → P34 x0 x1 v6 v8 σ7) (fun n9 σ9 => R (.inr n9) σ9))))))) → P34 x0 x1 x2 x3 σ) →
  (∀ (x0 : Nat) (x2 : Int32) (σ : q_S), (q_K σ x0 = 1 ∧ q_K σ (q_P σ x0 7) = 4 ∧ q_K σ x0 = 1 ∧ q_K σ (q_P σ (q_P σ x0 7) 2) = 1000 ∧ q_K σ (q_P σ x0 8) = 1000 ∧ ¬ (0 : Int32) < 0 ∧ ¬ (0 : Int32) < 0 ∧ ¬ (24 : Int32) < 0 ∧ (0 : Int32).toNatClampNeg + (24 : Int32).toNatClampNeg ≤ q_Z σ (q_P σ (q_P σ x0 7) 2) ∧ (0 : Int32).toNatClampNeg + (24 : Int32).toNatClampNeg ≤ q_Z σ (q_P σ x0 8) ∧ ∀ σ11 : q_S, σ11 = q_sI σ (q_P σ x0 8) (va_cpy (q_I σ (q_P σ (q_P σ x0 7) 2)) (q_I σ (q_P σ x0 8)) (0 : Int32).toNatClampNeg (0 : Int32).toNatClampNeg (24 : Int32).toNatClampNeg) → ((x2 = 0 ∨ x2 = 1) ∧ R (.inl (some (.inl x2))) σ11)) → P54 x0 x2 σ) →
  (((0 : Int32) ≤ x1 → ((¬ x1 = (0 : Int32) → q_K σ x0 = 1 ∧ q_K σ x0 = 1 ∧ q_K σ (q_P σ x0 6) = 4 ∧ q_K σ (q_P σ x0 7) = 4 ∧ V_PG_startAround (q_P σ x0 7) (q_P σ (q_P σ x0 6) 2) σ (q_cv (fun σ10 => P34 x0 x1 (1 : Int32) (0 : Int32) σ10) (fun n9 σ9 => R (.inr n9) σ9))) ∧ (¬ (¬ x1 = (0 : Int32)) → q_K σ x0 = 1 ∧ V_PF_takeEdge x0 σ (q_cv (fun σ15 => R (.inl (some (.inl (1 : Int32)))) σ15) (fun n9 σ9 => R (.inr n9) σ9))))) ∧ (¬ ((0 : Int32) ≤ x1) → R (.inl (some (.inl (0 : Int32)))) σ))
set_option maxRecDepth 100000 in
theorem t_PF_takeRing {l : Launch} {cx : q_C} {x0 : Nat} {x1 : Int32} {σ : q_S} {R : q_O → q_S → Prop} (hV : V_PF_takeRing x0 x1 σ R) : q_Ct l cx M_PF_takeRing 5 320 0 0 [q_r x0, q_i x1] σ R := by
  refine q_Ct.of p_PF_takeRing c_PF_takeRing rfl (Nat.le_of_ble_eq_true rfl) ?_
  have hV := hV (fun (x0 : Nat) (x1 : Int32) (x2 : Int32) (x3 : Int32) (σ : q_S) => q_G l cx M_PF_takeRing 5 320 0 0 34 [(0, .inr (.inr x0)), (1, .inl x1), (2, .inl x2), (3, .inl x3)] [] σ R) (fun (x0 : Nat) (x2 : Int32) (σ : q_S) => q_G l cx M_PF_takeRing 5 320 0 0 54 [(0, .inr (.inr x0)), (2, .inl x2)] [] σ R)
  have hV := hV (by
      intro x0 x1 x2 x3 σ hV
      show q_G l cx M_PF_takeRing 5 320 0 0 34 [(0, .inr (.inr x0)), (1, .inl x1), (2, .inl x2), (3, .inl x3)] [] σ R
      refine q_run k_PF_takeRing 20 2 36 rfl ?_
      show q_G l cx M_PF_takeRing 5 320 0 0 36 [(0, .inr (.inr x0)), (1, .inl x1), (2, .inl x2), (3, .inl x3)] [.inl x1, .inl x3] σ R
      refine q_icmp (q_dc k_PF_takeRing 22 rfl) rfl (fun h1 => ?_) (fun h1 => ?_)
      · have hV := hV.1 h1
        exact q_less (Nat.le_of_ble_eq_true rfl) (Nat.le_of_ble_eq_true rfl) (q_subk [0, 2] rfl hV)
      · have hV := hV.2 h1
        refine q_run k_PF_takeRing 23 1 40 rfl ?_
        show q_G l cx M_PF_takeRing 5 320 0 0 40 [(0, .inr (.inr x0)), (1, .inl x1), (2, .inl x2), (3, .inl x3)] [.inl x2] σ R
        refine q_ifz (q_dc k_PF_takeRing 24 rfl) rfl (fun h2 => ?_) (fun h2 => ?_)
        · have hV := hV.1 h2
          exact q_less (Nat.le_of_ble_eq_true rfl) (Nat.le_of_ble_eq_true rfl) (q_subk [0, 2] rfl hV)
        · have hV := hV.2 h2
          refine q_run k_PF_takeRing 25 1 44 rfl ?_
          show q_G l cx M_PF_takeRing 5 320 0 0 44 [(0, .inr (.inr x0)), (1, .inl x1), (2, .inl x2), (3, .inl x3)] [.inr (.inr x0)] σ R
          obtain ⟨s3, hV⟩ := hV
          refine q_callV (st := []) (as := []) (t_PF_takeNextHole (l := l) (cx := cx)  hV) (q_dc k_PF_takeRing 26 rfl) (Or.inl (List.mem_of_getElem? (i := 779) (by decide +kernel))) w_PF_takeNextHole n_PF_takeNextHole (ci := 0) rfl e_PF_takeNextHole a_PF_takeNextHole (q_wt (Nat.le_of_ble_eq_true rfl)) ⟨Nat.le_of_ble_eq_true rfl, Nat.le_of_ble_eq_true rfl⟩ s3 (fun v9 τ9 q9 => ?_) (fun n9 τ9 q9 => q_T.leave rfl q9)
          obtain ⟨v6, rfl, hV⟩ := q_ci_elim q9
          clear q9
          have hV := hV
          revert hV
          generalize τ9 = σ7
          intro hV
          show q_G l cx M_PF_takeRing 5 320 0 0 47 [(0, .inr (.inr x0)), (1, .inl x1), (2, .inl x2), (3, .inl x3)] [.inl v6] σ7 R
          refine q_run k_PF_takeRing 27 2 51 rfl ?_
          show q_G l cx M_PF_takeRing 5 320 0 0 51 [(3, .inl (x3 + (1 : Int32))), (2, .inl v6), (0, .inr (.inr x0)), (1, .inl x1)] [] σ7 R
          refine q_let (fun v8 => q_G l cx M_PF_takeRing 5 320 0 0 51 [(3, .inl v8), (2, .inl v6), (0, .inr (.inr x0)), (1, .inl x1)] [] σ7 R) (x3 + (1 : Int32)) (fun v8 e_v8 => ?_)
          have hV := hV v8 e_v8
          refine q_goto (q_dc k_PF_takeRing 29 rfl) rfl ?_
          exact q_less (Nat.le_of_ble_eq_true rfl) (Nat.le_of_ble_eq_true rfl) (q_subk [2, 3, 1, 0] rfl hV))
  have hV := hV (by
      intro x0 x2 σ hV
      show q_G l cx M_PF_takeRing 5 320 0 0 54 [(0, .inr (.inr x0)), (2, .inl x2)] [] σ R
      refine q_run k_PF_takeRing 30 8 69 rfl ?_
      show q_K σ x0 = 1 ∧ q_K σ (q_P σ x0 7) = 4 ∧ q_K σ x0 = 1 ∧ q_G l cx M_PF_takeRing 5 320 0 0 69 [(0, .inr (.inr x0)), (2, .inl x2)] [.inl (24 : Int32), .inl (0 : Int32), .inr (.inr (q_P σ x0 8)), .inl (0 : Int32), .inr (.inr (q_P σ (q_P σ x0 7) 2))] σ R
      obtain ⟨s1, s2, s3, hV⟩ := hV
      refine ⟨s1, s2, s3, ?_⟩
      obtain ⟨s4, s5, s6, s7, s8, s9, s10, hV⟩ := hV
      refine q_copyI (q_dc k_PF_takeRing 38 rfl) (List.mem_of_getElem? (i := 191) (by decide +kernel)) (List.mem_of_getElem? (i := 193) (by decide +kernel)) (List.mem_of_getElem? (i := 192) (by decide +kernel)) (List.mem_of_getElem? (i := 88) (by decide +kernel)) (Nat.le_of_ble_eq_true rfl) ⟨Nat.le_of_ble_eq_true rfl, by decide +kernel⟩ s4 s5 s6 s7 s8 s9 s10 ?_
      refine q_let (fun σ11 => q_G l cx M_PF_takeRing 5 320 0 0 72 [(0, .inr (.inr x0)), (2, .inl x2)] [] σ11 R) (q_sI σ (q_P σ x0 8) (va_cpy (q_I σ (q_P σ (q_P σ x0 7) 2)) (q_I σ (q_P σ x0 8)) (0 : Int32).toNatClampNeg (0 : Int32).toNatClampNeg (24 : Int32).toNatClampNeg)) (fun σ11 e_σ11 => ?_)
      have hV := hV σ11 e_σ11
      refine q_run k_PF_takeRing 39 1 73 rfl ?_
      show q_G l cx M_PF_takeRing 5 320 0 0 73 [(0, .inr (.inr x0)), (2, .inl x2)] [.inl x2] σ11 R
      exact q_zreturn (q_dc k_PF_takeRing 40 rfl) rfl hV.1 hV.2)
  refine q_run k_PF_takeRing 0 1 1 rfl ?_
  show q_G l cx M_PF_takeRing 5 320 0 0 1 [(0, .inr (.inr x0)), (1, .inl x1)] [.inl x1] σ R
  refine q_ifz (q_dc k_PF_takeRing 1 rfl) rfl (fun h1 => ?_) (fun h1 => ?_)
  · have hV := hV.1 h1
    refine q_run k_PF_takeRing 4 1 7 rfl ?_
    show q_G l cx M_PF_takeRing 5 320 0 0 7 [(0, .inr (.inr x0)), (1, .inl x1)] [.inl x1] σ R
    refine q_ifz (q_dc k_PF_takeRing 5 rfl) rfl (fun h2 => ?_) (fun h2 => ?_)
    · have hV := hV.1 h2
      refine q_run k_PF_takeRing 10 5 27 rfl ?_
      show q_K σ x0 = 1 ∧ q_K σ x0 = 1 ∧ q_K σ (q_P σ x0 6) = 4 ∧ q_G l cx M_PF_takeRing 5 320 0 0 27 [(0, .inr (.inr x0)), (1, .inl x1)] [.inr (.inr (q_P σ (q_P σ x0 6) 2)), .inr (.inr (q_P σ x0 7))] σ R
      obtain ⟨s3, s4, s5, hV⟩ := hV
      refine ⟨s3, s4, s5, ?_⟩
      obtain ⟨s6, hV⟩ := hV
      refine q_callV (st := []) (as := [.inr (.inr (q_P σ (q_P σ x0 6) 2))]) (t_PG_startAround (l := l) (cx := cx)  hV) (q_dc k_PF_takeRing 15 rfl) (Or.inr ⟨"PlaneFills", List.mem_of_getElem? (i := 20) (by decide +kernel)⟩) w_PG_startAround n_PG_startAround (ci := 3) rfl e_PG_startAround a_PG_startAround (q_wt (Nat.le_of_ble_eq_true rfl)) ⟨Nat.le_of_ble_eq_true rfl, Nat.le_of_ble_eq_true rfl⟩ s6 (fun v9 τ9 q9 => ?_) (fun n9 τ9 q9 => q_T.leave rfl q9)
      obtain ⟨rfl, hV⟩ := q_cv_elim q9
      clear q9
      have hV := hV
      revert hV
      generalize τ9 = σ10
      intro hV
      show q_G l cx M_PF_takeRing 5 320 0 0 30 [(0, .inr (.inr x0)), (1, .inl x1)] [] σ10 R
      refine q_run k_PF_takeRing 16 4 34 rfl ?_
      show q_G l cx M_PF_takeRing 5 320 0 0 34 [(3, .inl (0 : Int32)), (2, .inl (1 : Int32)), (0, .inr (.inr x0)), (1, .inl x1)] [] σ10 R
      exact q_less (Nat.le_of_ble_eq_true rfl) (Nat.le_of_ble_eq_true rfl) (q_subk [2, 3, 1, 0] rfl hV)
    · have hV := hV.2 h2
      refine q_run k_PF_takeRing 6 1 11 rfl ?_
      show q_G l cx M_PF_takeRing 5 320 0 0 11 [(0, .inr (.inr x0)), (1, .inl x1)] [.inr (.inr x0)] σ R
      obtain ⟨s11, hV⟩ := hV
      refine q_callV (st := []) (as := []) (t_PF_takeEdge (l := l) (cx := cx)  hV) (q_dc k_PF_takeRing 7 rfl) (Or.inl (List.mem_of_getElem? (i := 795) (by decide +kernel))) w_PF_takeEdge n_PF_takeEdge (ci := 0) rfl e_PF_takeEdge a_PF_takeEdge (q_wt (Nat.le_of_ble_eq_true rfl)) ⟨Nat.le_of_ble_eq_true rfl, Nat.le_of_ble_eq_true rfl⟩ s11 (fun v9 τ9 q9 => ?_) (fun n9 τ9 q9 => q_T.leave rfl q9)
      obtain ⟨rfl, hV⟩ := q_cv_elim q9
      clear q9
      have hV := hV
      revert hV
      generalize τ9 = σ15
      intro hV
      show q_G l cx M_PF_takeRing 5 320 0 0 14 [(0, .inr (.inr x0)), (1, .inl x1)] [] σ15 R
      refine q_run k_PF_takeRing 8 1 15 rfl ?_
      show q_G l cx M_PF_takeRing 5 320 0 0 15 [(0, .inr (.inr x0)), (1, .inl x1)] [.inl (1 : Int32)] σ15 R
      exact q_zreturn (q_dc k_PF_takeRing 9 rfl) rfl (by decide) hV
  · have hV := hV.2 h1
    refine q_run k_PF_takeRing 2 1 5 rfl ?_
    show q_G l cx M_PF_takeRing 5 320 0 0 5 [(0, .inr (.inr x0)), (1, .inl x1)] [.inl (0 : Int32)] σ R
    exact q_zreturn (q_dc k_PF_takeRing 3 rfl) rfl (by decide) hV
def V_PF_filledRow (x0 : Nat) (x1 : Int32) (x2 : Int32) (x3 : Int32) (σ : q_S) (R : q_O → q_S → Prop) : Prop :=
  ∀ (P6 : Nat → Int32 → Int32 → Int32 → Int32 → Int32 → q_S → Prop),
  ∀ (P69 : Nat → Int32 → Int32 → Int32 → Int32 → Int32 → q_S → Prop),
  (∀ (x0 : Nat) (x1 : Int32) (x2 : Int32) (x3 : Int32) (x4 : Int32) (x5 : Int32) (σ : q_S), (q_K σ x0 = 1 ∧ q_K σ (q_P σ x0 1) = 8 ∧ V_AL_size (q_P σ x0 1) σ (q_ci (fun v5 σ6 => ((v5 ≤ x5 → R (.inl (some (.inl x4))) σ6) ∧ (¬ (v5 ≤ x5) → q_K σ6 x0 = 1 ∧ q_K σ6 (q_P σ6 x0 1) = 8 ∧ V_AL_get (q_P σ6 x0 1) x5 σ6 (q_cr (fun v12 σ13 => q_K σ13 v12 = 6 ∧ q_K σ13 v12 = 6 ∧ ((¬ (q_I σ13 v12 0) = x1 → P69 x0 x1 x2 x3 x4 x5 σ13) ∧ (¬ (¬ (q_I σ13 v12 0) = x1) → q_K σ13 v12 = 6 ∧ ((¬ (q_I σ13 v12 1) = x2 → P69 x0 x1 x2 x3 x4 x5 σ13) ∧ (¬ (¬ (q_I σ13 v12 1) = x2) → q_K σ13 v12 = 6 ∧ q_K σ13 (q_P σ13 v12 10) = 2 ∧ (q_K σ13 (q_P σ13 (q_P σ13 v12 10) 0) = 1000 ∨ q_K σ13 (q_P σ13 (q_P σ13 v12 10) 0) = 2000) ∧ vp_in x3 (q_Z σ13 (q_P σ13 (q_P σ13 v12 10) 0)) ∧ ∀ v19 : Int32, v19 = x4 ||| (q_I σ13 (q_P σ13 (q_P σ13 v12 10) 0) x3.toNatClampNeg) → P69 x0 x1 x2 x3 v19 x5 σ13))))) (fun n9 σ9 => R (.inr n9) σ9))))) (fun n9 σ9 => R (.inr n9) σ9))) → P6 x0 x1 x2 x3 x4 x5 σ) →
  (∀ (x0 : Nat) (x1 : Int32) (x2 : Int32) (x3 : Int32) (x4 : Int32) (x5 : Int32) (σ : q_S), (∀ v1 : Int32, v1 = x5 + (1 : Int32) → P6 x0 x1 x2 x3 x4 v1 σ) → P69 x0 x1 x2 x3 x4 x5 σ) →
  P6 x0 x1 x2 x3 (0 : Int32) (0 : Int32) σ
set_option maxRecDepth 100000 in
theorem t_PF_filledRow {l : Launch} {cx : q_C} {x0 : Nat} {x1 : Int32} {x2 : Int32} {x3 : Int32} {σ : q_S} {R : q_O → q_S → Prop} (hV : V_PF_filledRow x0 x1 x2 x3 σ R) : q_Ct l cx M_PF_filledRow 3 192 0 0 [q_r x0, q_i x1, q_i x2, q_i x3] σ R := by
  refine q_Ct.of p_PF_filledRow c_PF_filledRow rfl (Nat.le_of_ble_eq_true rfl) ?_
  have hV := hV (fun (x0 : Nat) (x1 : Int32) (x2 : Int32) (x3 : Int32) (x4 : Int32) (x5 : Int32) (σ : q_S) => q_G l cx M_PF_filledRow 3 192 0 0 6 [(0, .inr (.inr x0)), (1, .inl x1), (2, .inl x2), (3, .inl x3), (4, .inl x4), (5, .inl x5)] [] σ R) (fun (x0 : Nat) (x1 : Int32) (x2 : Int32) (x3 : Int32) (x4 : Int32) (x5 : Int32) (σ : q_S) => q_G l cx M_PF_filledRow 3 192 0 0 69 [(0, .inr (.inr x0)), (1, .inl x1), (2, .inl x2), (3, .inl x3), (4, .inl x4), (5, .inl x5)] [] σ R)
  have hV := hV (by
      intro x0 x1 x2 x3 x4 x5 σ hV
      show q_G l cx M_PF_filledRow 3 192 0 0 6 [(0, .inr (.inr x0)), (1, .inl x1), (2, .inl x2), (3, .inl x3), (4, .inl x4), (5, .inl x5)] [] σ R
      refine q_run k_PF_filledRow 4 3 12 rfl ?_
      show q_K σ x0 = 1 ∧ q_G l cx M_PF_filledRow 3 192 0 0 12 [(0, .inr (.inr x0)), (1, .inl x1), (2, .inl x2), (3, .inl x3), (4, .inl x4), (5, .inl x5)] [.inr (.inr (q_P σ x0 1)), .inl x5] σ R
      obtain ⟨s1, hV⟩ := hV
      refine ⟨s1, ?_⟩
      obtain ⟨s2, hV⟩ := hV
      refine q_callF (st := [.inl x5]) (as := []) (x := ⟨"java/util/List", "size", "()I"⟩) (t_AL_size (l := l) (cx := cx)  hV) (q_dc k_PF_filledRow 7 rfl) (List.mem_of_getElem? (i := 172) (by decide +kernel)) w_AL_size n_AL_size (ci := 7) rfl (List.mem_of_getElem? (i := 173) (by decide +kernel)) (List.mem_of_getElem? (i := 0) rfl) (by decide) a_AL_size (q_wt (Nat.le_of_ble_eq_true rfl)) ⟨Nat.le_of_ble_eq_true rfl, Nat.le_of_ble_eq_true rfl⟩ s2 (fun v9 τ9 q9 => ?_) (fun n9 τ9 q9 => q_T.leave rfl q9)
      obtain ⟨v5, rfl, hV⟩ := q_ci_elim q9
      clear q9
      have hV := hV
      revert hV
      generalize τ9 = σ6
      intro hV
      show q_G l cx M_PF_filledRow 3 192 0 0 17 [(0, .inr (.inr x0)), (1, .inl x1), (2, .inl x2), (3, .inl x3), (4, .inl x4), (5, .inl x5)] [.inl v5, .inl x5] σ6 R
      refine q_icmp (q_dc k_PF_filledRow 8 rfl) rfl (fun h7 => ?_) (fun h7 => ?_)
      · have hV := hV.1 h7
        refine q_run k_PF_filledRow 33 1 77 rfl ?_
        show q_G l cx M_PF_filledRow 3 192 0 0 77 [(0, .inr (.inr x0)), (1, .inl x1), (2, .inl x2), (3, .inl x3), (4, .inl x4), (5, .inl x5)] [.inl x4] σ6 R
        exact q_ireturn (q_dc k_PF_filledRow 34 rfl) rfl hV
      · have hV := hV.2 h7
        refine q_run k_PF_filledRow 9 3 26 rfl ?_
        show q_K σ6 x0 = 1 ∧ q_G l cx M_PF_filledRow 3 192 0 0 26 [(0, .inr (.inr x0)), (1, .inl x1), (2, .inl x2), (3, .inl x3), (4, .inl x4), (5, .inl x5)] [.inl x5, .inr (.inr (q_P σ6 x0 1))] σ6 R
        obtain ⟨s8, hV⟩ := hV
        refine ⟨s8, ?_⟩
        obtain ⟨s9, hV⟩ := hV
        refine q_callF (st := []) (as := [.inl x5]) (x := ⟨"java/util/List", "get", "(I)Ljava/lang/Object;"⟩) (t_AL_get (l := l) (cx := cx)  hV) (q_dc k_PF_filledRow 12 rfl) (List.mem_of_getElem? (i := 176) (by decide +kernel)) w_AL_get n_AL_get (ci := 7) rfl (List.mem_of_getElem? (i := 177) (by decide +kernel)) (List.mem_of_getElem? (i := 1) rfl) (by decide) a_AL_get (q_wt (Nat.le_of_ble_eq_true rfl)) ⟨Nat.le_of_ble_eq_true rfl, Nat.le_of_ble_eq_true rfl⟩ s9 (fun v9 τ9 q9 => ?_) (fun n9 τ9 q9 => q_T.leave rfl q9)
        obtain ⟨v12, rfl, hV⟩ := q_cr_elim q9
        clear q9
        have hV := hV
        revert hV
        generalize τ9 = σ13
        intro hV
        show q_G l cx M_PF_filledRow 3 192 0 0 31 [(0, .inr (.inr x0)), (1, .inl x1), (2, .inl x2), (3, .inl x3), (4, .inl x4), (5, .inl x5)] [.inr (.inr v12)] σ13 R
        obtain ⟨s14, hV⟩ := hV
        refine q_cast1 (ci := 5) (q_dc k_PF_filledRow 13 rfl) rfl s14 (List.mem_of_getElem? (i := 3) rfl) (List.mem_of_getElem? (i := 190) (by decide +kernel)) ?_
        show q_G l cx M_PF_filledRow 3 192 0 0 34 [(0, .inr (.inr x0)), (1, .inl x1), (2, .inl x2), (3, .inl x3), (4, .inl x4), (5, .inl x5)] [.inr (.inr v12)] σ13 R
        refine q_run k_PF_filledRow 14 4 42 rfl ?_
        show q_K σ13 v12 = 6 ∧ q_G l cx M_PF_filledRow 3 192 0 0 42 [(6, .inr (.inr v12)), (0, .inr (.inr x0)), (1, .inl x1), (2, .inl x2), (3, .inl x3), (4, .inl x4), (5, .inl x5)] [.inl x1, .inl (q_I σ13 v12 0)] σ13 R
        obtain ⟨s15, hV⟩ := hV
        refine ⟨s15, ?_⟩
        refine q_icmp (q_dc k_PF_filledRow 18 rfl) rfl (fun h16 => ?_) (fun h16 => ?_)
        · have hV := hV.1 h16
          exact q_less (Nat.le_of_ble_eq_true rfl) (Nat.le_of_ble_eq_true rfl) (q_subk [1, 2, 3, 4, 5, 6] rfl hV)
        · have hV := hV.2 h16
          refine q_run k_PF_filledRow 19 3 51 rfl ?_
          show q_K σ13 v12 = 6 ∧ q_G l cx M_PF_filledRow 3 192 0 0 51 [(6, .inr (.inr v12)), (0, .inr (.inr x0)), (1, .inl x1), (2, .inl x2), (3, .inl x3), (4, .inl x4), (5, .inl x5)] [.inl x2, .inl (q_I σ13 v12 1)] σ13 R
          obtain ⟨s17, hV⟩ := hV
          refine ⟨s17, ?_⟩
          refine q_icmp (q_dc k_PF_filledRow 22 rfl) rfl (fun h18 => ?_) (fun h18 => ?_)
          · have hV := hV.1 h18
            exact q_less (Nat.le_of_ble_eq_true rfl) (Nat.le_of_ble_eq_true rfl) (q_subk [1, 2, 3, 4, 5, 6] rfl hV)
          · have hV := hV.2 h18
            refine q_run k_PF_filledRow 23 8 69 rfl ?_
            show q_K σ13 v12 = 6 ∧ q_K σ13 (q_P σ13 v12 10) = 2 ∧ (q_K σ13 (q_P σ13 (q_P σ13 v12 10) 0) = 1000 ∨ q_K σ13 (q_P σ13 (q_P σ13 v12 10) 0) = 2000) ∧ vp_in x3 (q_Z σ13 (q_P σ13 (q_P σ13 v12 10) 0)) ∧ q_G l cx M_PF_filledRow 3 192 0 0 69 [(4, .inl (x4 ||| (q_I σ13 (q_P σ13 (q_P σ13 v12 10) 0) x3.toNatClampNeg))), (6, .inr (.inr v12)), (0, .inr (.inr x0)), (1, .inl x1), (2, .inl x2), (3, .inl x3), (5, .inl x5)] [] σ13 R
            obtain ⟨s20, s21, s22, s23, hV⟩ := hV
            refine ⟨s20, s21, s22, s23, ?_⟩
            refine q_let (fun v19 => q_G l cx M_PF_filledRow 3 192 0 0 69 [(4, .inl v19), (6, .inr (.inr v12)), (0, .inr (.inr x0)), (1, .inl x1), (2, .inl x2), (3, .inl x3), (5, .inl x5)] [] σ13 R) (x4 ||| (q_I σ13 (q_P σ13 (q_P σ13 v12 10) 0) x3.toNatClampNeg)) (fun v19 e_v19 => ?_)
            have hV := hV v19 e_v19
            exact q_less (Nat.le_of_ble_eq_true rfl) (Nat.le_of_ble_eq_true rfl) (q_subk [2, 3, 4, 5, 0, 6] rfl hV))
  have hV := hV (by
      intro x0 x1 x2 x3 x4 x5 σ hV
      show q_G l cx M_PF_filledRow 3 192 0 0 69 [(0, .inr (.inr x0)), (1, .inl x1), (2, .inl x2), (3, .inl x3), (4, .inl x4), (5, .inl x5)] [] σ R
      refine q_run k_PF_filledRow 31 1 72 rfl ?_
      show q_G l cx M_PF_filledRow 3 192 0 0 72 [(5, .inl (x5 + (1 : Int32))), (0, .inr (.inr x0)), (1, .inl x1), (2, .inl x2), (3, .inl x3), (4, .inl x4)] [] σ R
      refine q_let (fun v1 => q_G l cx M_PF_filledRow 3 192 0 0 72 [(5, .inl v1), (0, .inr (.inr x0)), (1, .inl x1), (2, .inl x2), (3, .inl x3), (4, .inl x4)] [] σ R) (x5 + (1 : Int32)) (fun v1 e_v1 => ?_)
      have hV := hV v1 e_v1
      refine q_goto (q_dc k_PF_filledRow 32 rfl) rfl ?_
      exact q_less (Nat.le_of_ble_eq_true rfl) (Nat.le_of_ble_eq_true rfl) (q_subk [1, 2, 3, 4, 5, 0] rfl hV))
  refine q_run k_PF_filledRow 0 4 6 rfl ?_
  show q_G l cx M_PF_filledRow 3 192 0 0 6 [(5, .inl (0 : Int32)), (4, .inl (0 : Int32)), (0, .inr (.inr x0)), (1, .inl x1), (2, .inl x2), (3, .inl x3)] [] σ R
  exact q_less (Nat.le_of_ble_eq_true rfl) (Nat.le_of_ble_eq_true rfl) (q_subk [2, 3, 4, 5, 1, 0] rfl hV)
def V_PF_onTwoLayers (x0 : Nat) (x1 : Int32) (x2 : Int32) (σ : q_S) (R : q_O → q_S → Prop) : Prop :=
  ∀ (P8 : Nat → Int32 → Int32 → Int32 → Int32 → Int32 → q_S → Prop),
  (∀ (x0 : Nat) (x1 : Int32) (x2 : Int32) (x3 : Int32) (x4 : Int32) (x5 : Int32) (σ : q_S), (q_K σ x0 = 1 ∧ (((q_I σ x0 0) ≤ x5 → R (.inl (some (.inl x4))) σ) ∧ (¬ ((q_I σ x0 0) ≤ x5) → q_K σ x0 = 1 ∧ V_PF_filledRow x0 x1 x5 x2 σ (q_ci (fun v6 σ7 => ∀ v8 : Int32, v8 = x4 ||| (x3 &&& v6) → ∀ v9 : Int32, v9 = x3 ||| v6 → ∀ v10 : Int32, v10 = x5 + (1 : Int32) → P8 x0 x1 x2 v9 v8 v10 σ7) (fun n9 σ9 => R (.inr n9) σ9))))) → P8 x0 x1 x2 x3 x4 x5 σ) →
  P8 x0 x1 x2 (0 : Int32) (0 : Int32) (0 : Int32) σ
set_option maxRecDepth 100000 in
theorem t_PF_onTwoLayers {l : Launch} {cx : q_C} {x0 : Nat} {x1 : Int32} {x2 : Int32} {σ : q_S} {R : q_O → q_S → Prop} (hV : V_PF_onTwoLayers x0 x1 x2 σ R) : q_Ct l cx M_PF_onTwoLayers 4 256 0 0 [q_r x0, q_i x1, q_i x2] σ R := by
  refine q_Ct.of p_PF_onTwoLayers c_PF_onTwoLayers rfl (Nat.le_of_ble_eq_true rfl) ?_
  have hV := hV (fun (x0 : Nat) (x1 : Int32) (x2 : Int32) (x3 : Int32) (x4 : Int32) (x5 : Int32) (σ : q_S) => q_G l cx M_PF_onTwoLayers 4 256 0 0 8 [(0, .inr (.inr x0)), (1, .inl x1), (2, .inl x2), (3, .inl x3), (4, .inl x4), (5, .inl x5)] [] σ R)
  have hV := hV (by
      intro x0 x1 x2 x3 x4 x5 σ hV
      show q_G l cx M_PF_onTwoLayers 4 256 0 0 8 [(0, .inr (.inr x0)), (1, .inl x1), (2, .inl x2), (3, .inl x3), (4, .inl x4), (5, .inl x5)] [] σ R
      refine q_run k_PF_onTwoLayers 6 3 14 rfl ?_
      show q_K σ x0 = 1 ∧ q_G l cx M_PF_onTwoLayers 4 256 0 0 14 [(0, .inr (.inr x0)), (1, .inl x1), (2, .inl x2), (3, .inl x3), (4, .inl x4), (5, .inl x5)] [.inl (q_I σ x0 0), .inl x5] σ R
      obtain ⟨s1, hV⟩ := hV
      refine ⟨s1, ?_⟩
      refine q_icmp (q_dc k_PF_onTwoLayers 9 rfl) rfl (fun h2 => ?_) (fun h2 => ?_)
      · have hV := hV.1 h2
        refine q_run k_PF_onTwoLayers 28 1 49 rfl ?_
        show q_G l cx M_PF_onTwoLayers 4 256 0 0 49 [(0, .inr (.inr x0)), (1, .inl x1), (2, .inl x2), (3, .inl x3), (4, .inl x4), (5, .inl x5)] [.inl x4] σ R
        exact q_ireturn (q_dc k_PF_onTwoLayers 29 rfl) rfl hV
      · have hV := hV.2 h2
        refine q_run k_PF_onTwoLayers 10 4 22 rfl ?_
        show q_G l cx M_PF_onTwoLayers 4 256 0 0 22 [(0, .inr (.inr x0)), (1, .inl x1), (2, .inl x2), (3, .inl x3), (4, .inl x4), (5, .inl x5)] [.inl x2, .inl x5, .inl x1, .inr (.inr x0)] σ R
        obtain ⟨s3, hV⟩ := hV
        refine q_callV (st := []) (as := [.inl x1, .inl x5, .inl x2]) (t_PF_filledRow (l := l) (cx := cx)  hV) (q_dc k_PF_onTwoLayers 14 rfl) (Or.inl (List.mem_of_getElem? (i := 833) (by decide +kernel))) w_PF_filledRow n_PF_filledRow (ci := 0) rfl e_PF_filledRow a_PF_filledRow (q_wt (Nat.le_of_ble_eq_true rfl)) ⟨Nat.le_of_ble_eq_true rfl, Nat.le_of_ble_eq_true rfl⟩ s3 (fun v9 τ9 q9 => ?_) (fun n9 τ9 q9 => q_T.leave rfl q9)
        obtain ⟨v6, rfl, hV⟩ := q_ci_elim q9
        clear q9
        have hV := hV
        revert hV
        generalize τ9 = σ7
        intro hV
        show q_G l cx M_PF_onTwoLayers 4 256 0 0 25 [(0, .inr (.inr x0)), (1, .inl x1), (2, .inl x2), (3, .inl x3), (4, .inl x4), (5, .inl x5)] [.inl v6] σ7 R
        refine q_run k_PF_onTwoLayers 15 7 36 rfl ?_
        show q_G l cx M_PF_onTwoLayers 4 256 0 0 36 [(4, .inl (x4 ||| (x3 &&& v6))), (6, .inl v6), (0, .inr (.inr x0)), (1, .inl x1), (2, .inl x2), (3, .inl x3), (5, .inl x5)] [] σ7 R
        refine q_let (fun v8 => q_G l cx M_PF_onTwoLayers 4 256 0 0 36 [(4, .inl v8), (6, .inl v6), (0, .inr (.inr x0)), (1, .inl x1), (2, .inl x2), (3, .inl x3), (5, .inl x5)] [] σ7 R) (x4 ||| (x3 &&& v6)) (fun v8 e_v8 => ?_)
        have hV := hV v8 e_v8
        refine q_run k_PF_onTwoLayers 22 4 41 rfl ?_
        show q_G l cx M_PF_onTwoLayers 4 256 0 0 41 [(3, .inl (x3 ||| v6)), (4, .inl v8), (6, .inl v6), (0, .inr (.inr x0)), (1, .inl x1), (2, .inl x2), (5, .inl x5)] [] σ7 R
        refine q_let (fun v9 => q_G l cx M_PF_onTwoLayers 4 256 0 0 41 [(3, .inl v9), (4, .inl v8), (6, .inl v6), (0, .inr (.inr x0)), (1, .inl x1), (2, .inl x2), (5, .inl x5)] [] σ7 R) (x3 ||| v6) (fun v9 e_v9 => ?_)
        have hV := hV v9 e_v9
        refine q_run k_PF_onTwoLayers 26 1 44 rfl ?_
        show q_G l cx M_PF_onTwoLayers 4 256 0 0 44 [(5, .inl (x5 + (1 : Int32))), (3, .inl v9), (4, .inl v8), (6, .inl v6), (0, .inr (.inr x0)), (1, .inl x1), (2, .inl x2)] [] σ7 R
        refine q_let (fun v10 => q_G l cx M_PF_onTwoLayers 4 256 0 0 44 [(5, .inl v10), (3, .inl v9), (4, .inl v8), (6, .inl v6), (0, .inr (.inr x0)), (1, .inl x1), (2, .inl x2)] [] σ7 R) (x5 + (1 : Int32)) (fun v10 e_v10 => ?_)
        have hV := hV v10 e_v10
        refine q_goto (q_dc k_PF_onTwoLayers 27 rfl) rfl ?_
        exact q_less (Nat.le_of_ble_eq_true rfl) (Nat.le_of_ble_eq_true rfl) (q_subk [4, 5, 6, 1, 2, 0] rfl hV))
  refine q_run k_PF_onTwoLayers 0 6 8 rfl ?_
  show q_G l cx M_PF_onTwoLayers 4 256 0 0 8 [(5, .inl (0 : Int32)), (4, .inl (0 : Int32)), (3, .inl (0 : Int32)), (0, .inr (.inr x0)), (1, .inl x1), (2, .inl x2)] [] σ R
  exact q_less (Nat.le_of_ble_eq_true rfl) (Nat.le_of_ble_eq_true rfl) (q_subk [3, 4, 5, 2, 1, 0] rfl hV)
def V_PF_spokeIsFilled (x0 : Nat) (x1 : Nat) (x2 : Int32) (σ : q_S) (R : q_O → q_S → Prop) : Prop :=
  ∀ (P19 : Nat → Nat → Int32 → Int32 → Int32 → Int32 → Int32 → q_S → Prop),
  ∀ (P95 : Int32 → q_S → Prop),
  (∀ (x0 : Nat) (x1 : Nat) (x2 : Int32) (x3 : Int32) (x4 : Int32) (x5 : Int32) (x6 : Int32) (σ : q_S), (q_K σ x0 = 1 ∧ (q_K σ (q_P σ x0 5) = 1000 ∨ q_K σ (q_P σ x0 5) = 2000) ∧ vp_in (1 : Int32) (q_Z σ (q_P σ x0 5)) ∧ (((q_I σ (q_P σ x0 5) (1 : Int32).toNatClampNeg) ≤ x6 → P95 x5 σ) ∧ (¬ ((q_I σ (q_P σ x0 5) (1 : Int32).toNatClampNeg) ≤ x6) → (((f_PF_onBoard x3.toInt64 x4.toInt64) = (0 : Int32) → P95 x5 σ) ∧ (¬ ((f_PF_onBoard x3.toInt64 x4.toInt64) = (0 : Int32)) → q_K σ x1 = 5 ∧ q_K σ x1 = 5 ∧ q_K σ x0 = 1 ∧ V_PF_filledRow x0 (q_I σ x1 0) (q_I σ x1 1) x4 σ (q_ci (fun v11 σ12 => ((¬ (v11 &&& (f_PF_span x3.toInt64 x3.toInt64)) = (0 : Int32) → (q_K σ12 10000003 = 1000 ∨ q_K σ12 10000003 = 2000) ∧ vp_in x2 (q_Z σ12 10000003) ∧ ∀ v14 : Int32, v14 = x3 + (q_I σ12 10000003 x2.toNatClampNeg) → (q_K σ12 10000004 = 1000 ∨ q_K σ12 10000004 = 2000) ∧ vp_in x2 (q_Z σ12 10000004) ∧ ∀ v17 : Int32, v17 = x4 + (q_I σ12 10000004 x2.toNatClampNeg) → ∀ v20 : Int32, v20 = x6 + (1 : Int32) → P19 x0 x1 x2 v14 v17 (1 : Int32) v20 σ12) ∧ (¬ (¬ (v11 &&& (f_PF_span x3.toInt64 x3.toInt64)) = (0 : Int32)) → R (.inl (some (.inl (0 : Int32)))) σ12))) (fun n9 σ9 => R (.inr n9) σ9))))))) → P19 x0 x1 x2 x3 x4 x5 x6 σ) →
  (∀ (x5 : Int32) (σ : q_S), (((x5 = 0 ∨ x5 = 1) ∧ R (.inl (some (.inl x5))) σ)) → P95 x5 σ) →
  q_K σ x1 = 5 ∧ ∀ v2 : Int32, v2 = f_PP_besideX σ x1 x2 → q_K σ x1 = 5 ∧ ∀ v4 : Int32, v4 = f_PP_besideY σ x1 x2 → P19 x0 x1 x2 v2 v4 (0 : Int32) (0 : Int32) σ
set_option maxRecDepth 100000 in
theorem t_PF_spokeIsFilled {l : Launch} {cx : q_C} {x0 : Nat} {x1 : Nat} {x2 : Int32} {σ : q_S} {R : q_O → q_S → Prop} (hV : V_PF_spokeIsFilled x0 x1 x2 σ R) : q_Ct l cx M_PF_spokeIsFilled 4 256 0 0 [q_r x0, q_r x1, q_i x2] σ R := by
  refine q_Ct.of p_PF_spokeIsFilled c_PF_spokeIsFilled rfl (Nat.le_of_ble_eq_true rfl) ?_
  have hV := hV (fun (x0 : Nat) (x1 : Nat) (x2 : Int32) (x3 : Int32) (x4 : Int32) (x5 : Int32) (x6 : Int32) (σ : q_S) => q_G l cx M_PF_spokeIsFilled 4 256 0 0 19 [(0, .inr (.inr x0)), (1, .inr (.inr x1)), (2, .inl x2), (3, .inl x3), (4, .inl x4), (5, .inl x5), (6, .inl x6)] [] σ R) (fun (x5 : Int32) (σ : q_S) => q_G l cx M_PF_spokeIsFilled 4 256 0 0 95 [(5, .inl x5)] [] σ R)
  have hV := hV (by
      intro x0 x1 x2 x3 x4 x5 x6 σ hV
      show q_G l cx M_PF_spokeIsFilled 4 256 0 0 19 [(0, .inr (.inr x0)), (1, .inr (.inr x1)), (2, .inl x2), (3, .inl x3), (4, .inl x4), (5, .inl x5), (6, .inl x6)] [] σ R
      refine q_run k_PF_spokeIsFilled 12 5 27 rfl ?_
      show q_K σ x0 = 1 ∧ (q_K σ (q_P σ x0 5) = 1000 ∨ q_K σ (q_P σ x0 5) = 2000) ∧ vp_in (1 : Int32) (q_Z σ (q_P σ x0 5)) ∧ q_G l cx M_PF_spokeIsFilled 4 256 0 0 27 [(0, .inr (.inr x0)), (1, .inr (.inr x1)), (2, .inl x2), (3, .inl x3), (4, .inl x4), (5, .inl x5), (6, .inl x6)] [.inl (q_I σ (q_P σ x0 5) (1 : Int32).toNatClampNeg), .inl x6] σ R
      obtain ⟨s1, s2, s3, hV⟩ := hV
      refine ⟨s1, s2, s3, ?_⟩
      refine q_icmp (q_dc k_PF_spokeIsFilled 17 rfl) rfl (fun h4 => ?_) (fun h4 => ?_)
      · have hV := hV.1 h4
        exact q_less (Nat.le_of_ble_eq_true rfl) (Nat.le_of_ble_eq_true rfl) (q_subk [5] rfl hV)
      · have hV := hV.2 h4
        refine q_run k_PF_spokeIsFilled 18 4 35 rfl ?_
        show q_G l cx M_PF_spokeIsFilled 4 256 0 0 35 [(0, .inr (.inr x0)), (1, .inr (.inr x1)), (2, .inl x2), (3, .inl x3), (4, .inl x4), (5, .inl x5), (6, .inl x6)] [.inr (.inl x4.toInt64), .inr (.inl x3.toInt64)] σ R
        refine q_callS (st := []) (t_PF_onBoard (l := l) (cx := cx) (σ := σ) x3.toInt64 x4.toInt64) (q_dc k_PF_spokeIsFilled 22 rfl) (Or.inl (List.mem_of_getElem? (i := 748) (by decide +kernel))) w_PF_onBoard s_PF_onBoard a_PF_onBoard (q_wt (Nat.le_of_ble_eq_true rfl)) ⟨Nat.le_of_ble_eq_true rfl, Nat.le_of_ble_eq_true rfl⟩ (fun v9 τ9 q9 => ?_) (fun n9 τ9 q9 => by cases q9.1)
        obtain ⟨q8, q7⟩ := q9
        cases q8
        rw [q7]
        show q_G l cx M_PF_spokeIsFilled 4 256 0 0 38 [(0, .inr (.inr x0)), (1, .inr (.inr x1)), (2, .inl x2), (3, .inl x3), (4, .inl x4), (5, .inl x5), (6, .inl x6)] [.inl (f_PF_onBoard x3.toInt64 x4.toInt64)] σ R
        refine q_ifz (q_dc k_PF_spokeIsFilled 23 rfl) rfl (fun h5 => ?_) (fun h5 => ?_)
        · have hV := hV.1 h5
          exact q_less (Nat.le_of_ble_eq_true rfl) (Nat.le_of_ble_eq_true rfl) (q_subk [5] rfl hV)
        · have hV := hV.2 h5
          refine q_run k_PF_spokeIsFilled 24 6 52 rfl ?_
          show q_K σ x1 = 5 ∧ q_K σ x1 = 5 ∧ q_G l cx M_PF_spokeIsFilled 4 256 0 0 52 [(0, .inr (.inr x0)), (1, .inr (.inr x1)), (2, .inl x2), (3, .inl x3), (4, .inl x4), (5, .inl x5), (6, .inl x6)] [.inl x4, .inl (q_I σ x1 1), .inl (q_I σ x1 0), .inr (.inr x0)] σ R
          obtain ⟨s6, s7, hV⟩ := hV
          refine ⟨s6, s7, ?_⟩
          obtain ⟨s8, hV⟩ := hV
          refine q_callV (st := []) (as := [.inl (q_I σ x1 0), .inl (q_I σ x1 1), .inl x4]) (t_PF_filledRow (l := l) (cx := cx)  hV) (q_dc k_PF_spokeIsFilled 30 rfl) (Or.inl (List.mem_of_getElem? (i := 833) (by decide +kernel))) w_PF_filledRow n_PF_filledRow (ci := 0) rfl e_PF_filledRow a_PF_filledRow (q_wt (Nat.le_of_ble_eq_true rfl)) ⟨Nat.le_of_ble_eq_true rfl, Nat.le_of_ble_eq_true rfl⟩ s8 (fun v9 τ9 q9 => ?_) (fun n9 τ9 q9 => q_T.leave rfl q9)
          obtain ⟨v11, rfl, hV⟩ := q_ci_elim q9
          clear q9
          have hV := hV
          revert hV
          generalize τ9 = σ12
          intro hV
          show q_G l cx M_PF_spokeIsFilled 4 256 0 0 55 [(0, .inr (.inr x0)), (1, .inr (.inr x1)), (2, .inl x2), (3, .inl x3), (4, .inl x4), (5, .inl x5), (6, .inl x6)] [.inl v11] σ12 R
          refine q_run k_PF_spokeIsFilled 31 4 59 rfl ?_
          show q_G l cx M_PF_spokeIsFilled 4 256 0 0 59 [(0, .inr (.inr x0)), (1, .inr (.inr x1)), (2, .inl x2), (3, .inl x3), (4, .inl x4), (5, .inl x5), (6, .inl x6)] [.inr (.inl x3.toInt64), .inr (.inl x3.toInt64), .inl v11] σ12 R
          refine q_callS (st := [.inl v11]) (t_PF_span (l := l) (cx := cx) (σ := σ12) x3.toInt64 x3.toInt64) (q_dc k_PF_spokeIsFilled 35 rfl) (Or.inl (List.mem_of_getElem? (i := 244) (by decide +kernel))) w_PF_span s_PF_span a_PF_span (q_wt (Nat.le_of_ble_eq_true rfl)) ⟨Nat.le_of_ble_eq_true rfl, Nat.le_of_ble_eq_true rfl⟩ (fun v9 τ9 q9 => ?_) (fun n9 τ9 q9 => by cases q9.1)
          obtain ⟨q8, q7⟩ := q9
          cases q8
          rw [q7]
          show q_G l cx M_PF_spokeIsFilled 4 256 0 0 62 [(0, .inr (.inr x0)), (1, .inr (.inr x1)), (2, .inl x2), (3, .inl x3), (4, .inl x4), (5, .inl x5), (6, .inl x6)] [.inl (f_PF_span x3.toInt64 x3.toInt64), .inl v11] σ12 R
          refine q_run k_PF_spokeIsFilled 36 1 63 rfl ?_
          show q_G l cx M_PF_spokeIsFilled 4 256 0 0 63 [(0, .inr (.inr x0)), (1, .inr (.inr x1)), (2, .inl x2), (3, .inl x3), (4, .inl x4), (5, .inl x5), (6, .inl x6)] [.inl (v11 &&& (f_PF_span x3.toInt64 x3.toInt64))] σ12 R
          refine q_ifz (q_dc k_PF_spokeIsFilled 37 rfl) rfl (fun h13 => ?_) (fun h13 => ?_)
          · have hV := hV.1 h13
            refine q_run k_PF_spokeIsFilled 40 3 72 rfl ?_
            show q_G l cx M_PF_spokeIsFilled 4 256 0 0 72 [(5, .inl (1 : Int32)), (0, .inr (.inr x0)), (1, .inr (.inr x1)), (2, .inl x2), (3, .inl x3), (4, .inl x4), (6, .inl x6)] [.inl x3] σ12 R
            refine q_gets (nm := 10000003) (q_dc k_PF_spokeIsFilled 43 rfl) (List.mem_of_getElem? (i := 2) rfl) (List.mem_of_getElem? (i := 836) (by decide +kernel)) ?_
            show q_G l cx M_PF_spokeIsFilled 4 256 0 0 75 [(5, .inl (1 : Int32)), (0, .inr (.inr x0)), (1, .inr (.inr x1)), (2, .inl x2), (3, .inl x3), (4, .inl x4), (6, .inl x6)] [.inr (.inr 10000003), .inl x3] σ12 R
            refine q_run k_PF_spokeIsFilled 44 4 79 rfl ?_
            show (q_K σ12 10000003 = 1000 ∨ q_K σ12 10000003 = 2000) ∧ vp_in x2 (q_Z σ12 10000003) ∧ q_G l cx M_PF_spokeIsFilled 4 256 0 0 79 [(3, .inl (x3 + (q_I σ12 10000003 x2.toNatClampNeg))), (5, .inl (1 : Int32)), (0, .inr (.inr x0)), (1, .inr (.inr x1)), (2, .inl x2), (4, .inl x4), (6, .inl x6)] [] σ12 R
            obtain ⟨s15, s16, hV⟩ := hV
            refine ⟨s15, s16, ?_⟩
            refine q_let (fun v14 => q_G l cx M_PF_spokeIsFilled 4 256 0 0 79 [(3, .inl v14), (5, .inl (1 : Int32)), (0, .inr (.inr x0)), (1, .inr (.inr x1)), (2, .inl x2), (4, .inl x4), (6, .inl x6)] [] σ12 R) (x3 + (q_I σ12 10000003 x2.toNatClampNeg)) (fun v14 e_v14 => ?_)
            have hV := hV v14 e_v14
            refine q_run k_PF_spokeIsFilled 48 1 81 rfl ?_
            show q_G l cx M_PF_spokeIsFilled 4 256 0 0 81 [(3, .inl v14), (5, .inl (1 : Int32)), (0, .inr (.inr x0)), (1, .inr (.inr x1)), (2, .inl x2), (4, .inl x4), (6, .inl x6)] [.inl x4] σ12 R
            refine q_gets (nm := 10000004) (q_dc k_PF_spokeIsFilled 49 rfl) (List.mem_of_getElem? (i := 3) rfl) (List.mem_of_getElem? (i := 837) (by decide +kernel)) ?_
            show q_G l cx M_PF_spokeIsFilled 4 256 0 0 84 [(3, .inl v14), (5, .inl (1 : Int32)), (0, .inr (.inr x0)), (1, .inr (.inr x1)), (2, .inl x2), (4, .inl x4), (6, .inl x6)] [.inr (.inr 10000004), .inl x4] σ12 R
            refine q_run k_PF_spokeIsFilled 50 4 89 rfl ?_
            show (q_K σ12 10000004 = 1000 ∨ q_K σ12 10000004 = 2000) ∧ vp_in x2 (q_Z σ12 10000004) ∧ q_G l cx M_PF_spokeIsFilled 4 256 0 0 89 [(4, .inl (x4 + (q_I σ12 10000004 x2.toNatClampNeg))), (3, .inl v14), (5, .inl (1 : Int32)), (0, .inr (.inr x0)), (1, .inr (.inr x1)), (2, .inl x2), (6, .inl x6)] [] σ12 R
            obtain ⟨s18, s19, hV⟩ := hV
            refine ⟨s18, s19, ?_⟩
            refine q_let (fun v17 => q_G l cx M_PF_spokeIsFilled 4 256 0 0 89 [(4, .inl v17), (3, .inl v14), (5, .inl (1 : Int32)), (0, .inr (.inr x0)), (1, .inr (.inr x1)), (2, .inl x2), (6, .inl x6)] [] σ12 R) (x4 + (q_I σ12 10000004 x2.toNatClampNeg)) (fun v17 e_v17 => ?_)
            have hV := hV v17 e_v17
            refine q_run k_PF_spokeIsFilled 54 1 92 rfl ?_
            show q_G l cx M_PF_spokeIsFilled 4 256 0 0 92 [(6, .inl (x6 + (1 : Int32))), (4, .inl v17), (3, .inl v14), (5, .inl (1 : Int32)), (0, .inr (.inr x0)), (1, .inr (.inr x1)), (2, .inl x2)] [] σ12 R
            refine q_let (fun v20 => q_G l cx M_PF_spokeIsFilled 4 256 0 0 92 [(6, .inl v20), (4, .inl v17), (3, .inl v14), (5, .inl (1 : Int32)), (0, .inr (.inr x0)), (1, .inr (.inr x1)), (2, .inl x2)] [] σ12 R) (x6 + (1 : Int32)) (fun v20 e_v20 => ?_)
            have hV := hV v20 e_v20
            refine q_goto (q_dc k_PF_spokeIsFilled 55 rfl) rfl ?_
            exact q_less (Nat.le_of_ble_eq_true rfl) (Nat.le_of_ble_eq_true rfl) (q_subk [4, 5, 6, 2, 1, 3, 0] rfl hV)
          · have hV := hV.2 h13
            refine q_run k_PF_spokeIsFilled 38 1 67 rfl ?_
            show q_G l cx M_PF_spokeIsFilled 4 256 0 0 67 [(0, .inr (.inr x0)), (1, .inr (.inr x1)), (2, .inl x2), (3, .inl x3), (4, .inl x4), (5, .inl x5), (6, .inl x6)] [.inl (0 : Int32)] σ12 R
            exact q_zreturn (q_dc k_PF_spokeIsFilled 39 rfl) rfl (by decide) hV)
  have hV := hV (by
      intro x5 σ hV
      show q_G l cx M_PF_spokeIsFilled 4 256 0 0 95 [(5, .inl x5)] [] σ R
      refine q_run k_PF_spokeIsFilled 56 1 97 rfl ?_
      show q_G l cx M_PF_spokeIsFilled 4 256 0 0 97 [(5, .inl x5)] [.inl x5] σ R
      exact q_zreturn (q_dc k_PF_spokeIsFilled 57 rfl) rfl hV.1 hV.2)
  refine q_run k_PF_spokeIsFilled 0 2 2 rfl ?_
  show q_G l cx M_PF_spokeIsFilled 4 256 0 0 2 [(0, .inr (.inr x0)), (1, .inr (.inr x1)), (2, .inl x2)] [.inl x2, .inr (.inr x1)] σ R
  obtain ⟨s1, hV⟩ := hV
  refine q_callV (st := []) (as := [.inl x2]) (t_PP_besideX (l := l) (cx := cx) (σ := σ) x1 x2 s1) (q_dc k_PF_spokeIsFilled 2 rfl) (Or.inr ⟨"PlaneFills", List.mem_of_getElem? (i := 22) (by decide +kernel)⟩) w_PP_besideX n_PP_besideX (ci := 4) rfl e_PP_besideX a_PP_besideX (q_wt (Nat.le_of_ble_eq_true rfl)) ⟨Nat.le_of_ble_eq_true rfl, Nat.le_of_ble_eq_true rfl⟩ s1 (fun v9 τ9 q9 => ?_) (fun n9 τ9 q9 => by cases q9.1)
  obtain ⟨q8, q7⟩ := q9
  cases q8
  rw [q7]
  show q_G l cx M_PF_spokeIsFilled 4 256 0 0 5 [(0, .inr (.inr x0)), (1, .inr (.inr x1)), (2, .inl x2)] [.inl (f_PP_besideX σ x1 x2)] σ R
  refine q_run k_PF_spokeIsFilled 3 1 6 rfl ?_
  show q_G l cx M_PF_spokeIsFilled 4 256 0 0 6 [(3, .inl (f_PP_besideX σ x1 x2)), (0, .inr (.inr x0)), (1, .inr (.inr x1)), (2, .inl x2)] [] σ R
  refine q_let (fun v2 => q_G l cx M_PF_spokeIsFilled 4 256 0 0 6 [(3, .inl v2), (0, .inr (.inr x0)), (1, .inr (.inr x1)), (2, .inl x2)] [] σ R) (f_PP_besideX σ x1 x2) (fun v2 e_v2 => ?_)
  have hV := hV v2 e_v2
  refine q_run k_PF_spokeIsFilled 4 2 8 rfl ?_
  show q_G l cx M_PF_spokeIsFilled 4 256 0 0 8 [(3, .inl v2), (0, .inr (.inr x0)), (1, .inr (.inr x1)), (2, .inl x2)] [.inl x2, .inr (.inr x1)] σ R
  obtain ⟨s3, hV⟩ := hV
  refine q_callV (st := []) (as := [.inl x2]) (t_PP_besideY (l := l) (cx := cx) (σ := σ) x1 x2 s3) (q_dc k_PF_spokeIsFilled 6 rfl) (Or.inr ⟨"PlaneFills", List.mem_of_getElem? (i := 23) (by decide +kernel)⟩) w_PP_besideY n_PP_besideY (ci := 4) rfl e_PP_besideY a_PP_besideY (q_wt (Nat.le_of_ble_eq_true rfl)) ⟨Nat.le_of_ble_eq_true rfl, Nat.le_of_ble_eq_true rfl⟩ s3 (fun v9 τ9 q9 => ?_) (fun n9 τ9 q9 => by cases q9.1)
  obtain ⟨q8, q7⟩ := q9
  cases q8
  rw [q7]
  show q_G l cx M_PF_spokeIsFilled 4 256 0 0 11 [(3, .inl v2), (0, .inr (.inr x0)), (1, .inr (.inr x1)), (2, .inl x2)] [.inl (f_PP_besideY σ x1 x2)] σ R
  refine q_run k_PF_spokeIsFilled 7 1 13 rfl ?_
  show q_G l cx M_PF_spokeIsFilled 4 256 0 0 13 [(4, .inl (f_PP_besideY σ x1 x2)), (3, .inl v2), (0, .inr (.inr x0)), (1, .inr (.inr x1)), (2, .inl x2)] [] σ R
  refine q_let (fun v4 => q_G l cx M_PF_spokeIsFilled 4 256 0 0 13 [(4, .inl v4), (3, .inl v2), (0, .inr (.inr x0)), (1, .inr (.inr x1)), (2, .inl x2)] [] σ R) (f_PP_besideY σ x1 x2) (fun v4 e_v4 => ?_)
  have hV := hV v4 e_v4
  refine q_run k_PF_spokeIsFilled 8 4 19 rfl ?_
  show q_G l cx M_PF_spokeIsFilled 4 256 0 0 19 [(6, .inl (0 : Int32)), (5, .inl (0 : Int32)), (4, .inl v4), (3, .inl v2), (0, .inr (.inr x0)), (1, .inr (.inr x1)), (2, .inl x2)] [] σ R
  exact q_less (Nat.le_of_ble_eq_true rfl) (Nat.le_of_ble_eq_true rfl) (q_subk [4, 5, 6, 3, 2, 1, 0] rfl hV)
def V_PF_changed (x0 : Nat) (x1 : Int64) (x3 : Int64) (x5 : Int64) (x7 : Int64) (σ : q_S) (R : q_O → q_S → Prop) : Prop :=
  ∀ (P46 : Nat → Int32 → Int32 → Int32 → Int32 → q_S → Prop),
  ∀ (P80 : Nat → Int32 → Int32 → Int32 → Int32 → Nat → Int32 → q_S → Prop),
  (∀ (x0 : Nat) (x9 : Int32) (x10 : Int32) (x11 : Int32) (x12 : Int32) (σ : q_S), (q_K σ x0 = 1 ∧ q_K σ (q_P σ x0 1) = 8 ∧ V_AL_size (q_P σ x0 1) σ (q_ci (fun v5 σ6 => ((v5 ≤ x12 → R (.inl (some (.inl (1 : Int32)))) σ6) ∧ (¬ (v5 ≤ x12) → q_K σ6 x0 = 1 ∧ q_K σ6 (q_P σ6 x0 1) = 8 ∧ V_AL_get (q_P σ6 x0 1) x12 σ6 (q_cr (fun v12 σ13 => q_K σ13 v12 = 6 ∧ P80 x0 x9 x10 x11 x12 v12 x10 σ13) (fun n9 σ9 => R (.inr n9) σ9))))) (fun n9 σ9 => R (.inr n9) σ9))) → P46 x0 x9 x10 x11 x12 σ) →
  (∀ (x0 : Nat) (x9 : Int32) (x10 : Int32) (x11 : Int32) (x12 : Int32) (x13 : Nat) (x14 : Int32) (σ : q_S), (((x11 < x14 → ∀ v2 : Int32, v2 = x12 + (1 : Int32) → P46 x0 x9 x10 x11 v2 σ) ∧ (¬ (x11 < x14) → q_K σ x13 = 6 ∧ q_K σ (q_P σ x13 10) = 2 ∧ (q_K σ (q_P σ (q_P σ x13 10) 0) = 1000 ∨ q_K σ (q_P σ (q_P σ x13 10) 0) = 2000) ∧ vp_in x14 (q_Z σ (q_P σ (q_P σ x13 10) 0)) ∧ q_K σ x13 = 6 ∧ q_K σ (q_P σ x13 11) = 2 ∧ (q_K σ (q_P σ (q_P σ x13 11) 0) = 1000 ∨ q_K σ (q_P σ (q_P σ x13 11) 0) = 2000) ∧ vp_in x14 (q_Z σ (q_P σ (q_P σ x13 11) 0)) ∧ (((((q_I σ (q_P σ (q_P σ x13 10) 0) x14.toNatClampNeg) ^^^ (q_I σ (q_P σ (q_P σ x13 11) 0) x14.toNatClampNeg)) &&& x9) = (0 : Int32) → ∀ v12 : Int32, v12 = x14 + (1 : Int32) → P80 x0 x9 x10 x11 x12 x13 v12 σ) ∧ (¬ ((((q_I σ (q_P σ (q_P σ x13 10) 0) x14.toNatClampNeg) ^^^ (q_I σ (q_P σ (q_P σ x13 11) 0) x14.toNatClampNeg)) &&& x9) = (0 : Int32)) → R (.inl (some (.inl (0 : Int32)))) σ))))) → P80 x0 x9 x10 x11 x12 x13 x14 σ) →
  ∀ v1 : Int32, v1 = f_PF_span x1 x5 → ∀ v2 : Int32, v2 = (f_MT_max2 (0 : Int64) (f_MT_min2 (24 : Int64) x3)).toInt32 → ∀ v3 : Int32, v3 = (f_MT_max2 (-1 : Int64) (f_MT_min2 (23 : Int64) x7)).toInt32 → q_K σ x0 = 1 ∧ V_PF_fillTrials x0 σ (q_cv (fun σ8 => P46 x0 v1 v2 v3 (0 : Int32) σ8) (fun n9 σ9 => R (.inr n9) σ9))
set_option maxRecDepth 100000 in
theorem t_PF_changed {l : Launch} {cx : q_C} {x0 : Nat} {x1 : Int64} {x3 : Int64} {x5 : Int64} {x7 : Int64} {σ : q_S} {R : q_O → q_S → Prop} (hV : V_PF_changed x0 x1 x3 x5 x7 σ R) : q_Ct l cx M_PF_changed 7 448 0 0 [q_r x0, q_l x1, q_l x3, q_l x5, q_l x7] σ R := by
  refine q_Ct.of p_PF_changed c_PF_changed rfl (Nat.le_of_ble_eq_true rfl) ?_
  have hV := hV (fun (x0 : Nat) (x9 : Int32) (x10 : Int32) (x11 : Int32) (x12 : Int32) (σ : q_S) => q_G l cx M_PF_changed 7 448 0 0 46 [(0, .inr (.inr x0)), (9, .inl x9), (10, .inl x10), (11, .inl x11), (12, .inl x12)] [] σ R) (fun (x0 : Nat) (x9 : Int32) (x10 : Int32) (x11 : Int32) (x12 : Int32) (x13 : Nat) (x14 : Int32) (σ : q_S) => q_G l cx M_PF_changed 7 448 0 0 80 [(0, .inr (.inr x0)), (9, .inl x9), (10, .inl x10), (11, .inl x11), (12, .inl x12), (13, .inr (.inr x13)), (14, .inl x14)] [] σ R)
  have hV := hV (by
      intro x0 x9 x10 x11 x12 σ hV
      show q_G l cx M_PF_changed 7 448 0 0 46 [(0, .inr (.inr x0)), (9, .inl x9), (10, .inl x10), (11, .inl x11), (12, .inl x12)] [] σ R
      refine q_run k_PF_changed 22 3 52 rfl ?_
      show q_K σ x0 = 1 ∧ q_G l cx M_PF_changed 7 448 0 0 52 [(0, .inr (.inr x0)), (9, .inl x9), (10, .inl x10), (11, .inl x11), (12, .inl x12)] [.inr (.inr (q_P σ x0 1)), .inl x12] σ R
      obtain ⟨s1, hV⟩ := hV
      refine ⟨s1, ?_⟩
      obtain ⟨s2, hV⟩ := hV
      refine q_callF (st := [.inl x12]) (as := []) (x := ⟨"java/util/List", "size", "()I"⟩) (t_AL_size (l := l) (cx := cx)  hV) (q_dc k_PF_changed 25 rfl) (List.mem_of_getElem? (i := 172) (by decide +kernel)) w_AL_size n_AL_size (ci := 7) rfl (List.mem_of_getElem? (i := 173) (by decide +kernel)) (List.mem_of_getElem? (i := 0) rfl) (by decide) a_AL_size (q_wt (Nat.le_of_ble_eq_true rfl)) ⟨Nat.le_of_ble_eq_true rfl, Nat.le_of_ble_eq_true rfl⟩ s2 (fun v9 τ9 q9 => ?_) (fun n9 τ9 q9 => q_T.leave rfl q9)
      obtain ⟨v5, rfl, hV⟩ := q_ci_elim q9
      clear q9
      have hV := hV
      revert hV
      generalize τ9 = σ6
      intro hV
      show q_G l cx M_PF_changed 7 448 0 0 57 [(0, .inr (.inr x0)), (9, .inl x9), (10, .inl x10), (11, .inl x11), (12, .inl x12)] [.inl v5, .inl x12] σ6 R
      refine q_icmp (q_dc k_PF_changed 26 rfl) rfl (fun h7 => ?_) (fun h7 => ?_)
      · have hV := hV.1 h7
        refine q_run k_PF_changed 58 1 131 rfl ?_
        show q_G l cx M_PF_changed 7 448 0 0 131 [(0, .inr (.inr x0)), (9, .inl x9), (10, .inl x10), (11, .inl x11), (12, .inl x12)] [.inl (1 : Int32)] σ6 R
        exact q_zreturn (q_dc k_PF_changed 59 rfl) rfl (by decide) hV
      · have hV := hV.2 h7
        refine q_run k_PF_changed 27 3 66 rfl ?_
        show q_K σ6 x0 = 1 ∧ q_G l cx M_PF_changed 7 448 0 0 66 [(0, .inr (.inr x0)), (9, .inl x9), (10, .inl x10), (11, .inl x11), (12, .inl x12)] [.inl x12, .inr (.inr (q_P σ6 x0 1))] σ6 R
        obtain ⟨s8, hV⟩ := hV
        refine ⟨s8, ?_⟩
        obtain ⟨s9, hV⟩ := hV
        refine q_callF (st := []) (as := [.inl x12]) (x := ⟨"java/util/List", "get", "(I)Ljava/lang/Object;"⟩) (t_AL_get (l := l) (cx := cx)  hV) (q_dc k_PF_changed 30 rfl) (List.mem_of_getElem? (i := 176) (by decide +kernel)) w_AL_get n_AL_get (ci := 7) rfl (List.mem_of_getElem? (i := 177) (by decide +kernel)) (List.mem_of_getElem? (i := 1) rfl) (by decide) a_AL_get (q_wt (Nat.le_of_ble_eq_true rfl)) ⟨Nat.le_of_ble_eq_true rfl, Nat.le_of_ble_eq_true rfl⟩ s9 (fun v9 τ9 q9 => ?_) (fun n9 τ9 q9 => q_T.leave rfl q9)
        obtain ⟨v12, rfl, hV⟩ := q_cr_elim q9
        clear q9
        have hV := hV
        revert hV
        generalize τ9 = σ13
        intro hV
        show q_G l cx M_PF_changed 7 448 0 0 71 [(0, .inr (.inr x0)), (9, .inl x9), (10, .inl x10), (11, .inl x11), (12, .inl x12)] [.inr (.inr v12)] σ13 R
        obtain ⟨s14, hV⟩ := hV
        refine q_cast1 (ci := 5) (q_dc k_PF_changed 31 rfl) rfl s14 (List.mem_of_getElem? (i := 3) rfl) (List.mem_of_getElem? (i := 190) (by decide +kernel)) ?_
        show q_G l cx M_PF_changed 7 448 0 0 74 [(0, .inr (.inr x0)), (9, .inl x9), (10, .inl x10), (11, .inl x11), (12, .inl x12)] [.inr (.inr v12)] σ13 R
        refine q_run k_PF_changed 32 3 80 rfl ?_
        show q_G l cx M_PF_changed 7 448 0 0 80 [(14, .inl x10), (13, .inr (.inr v12)), (0, .inr (.inr x0)), (9, .inl x9), (10, .inl x10), (11, .inl x11), (12, .inl x12)] [] σ13 R
        exact q_less (Nat.le_of_ble_eq_true rfl) (Nat.le_of_ble_eq_true rfl) (q_subk [2, 3, 4, 5, 6, 1, 0] rfl hV))
  have hV := hV (by
      intro x0 x9 x10 x11 x12 x13 x14 σ hV
      show q_G l cx M_PF_changed 7 448 0 0 80 [(0, .inr (.inr x0)), (9, .inl x9), (10, .inl x10), (11, .inl x11), (12, .inl x12), (13, .inr (.inr x13)), (14, .inl x14)] [] σ R
      refine q_run k_PF_changed 35 2 84 rfl ?_
      show q_G l cx M_PF_changed 7 448 0 0 84 [(0, .inr (.inr x0)), (9, .inl x9), (10, .inl x10), (11, .inl x11), (12, .inl x12), (13, .inr (.inr x13)), (14, .inl x14)] [.inl x11, .inl x14] σ R
      refine q_icmp (q_dc k_PF_changed 37 rfl) rfl (fun h1 => ?_) (fun h1 => ?_)
      · have hV := hV.1 h1
        refine q_run k_PF_changed 56 1 127 rfl ?_
        show q_G l cx M_PF_changed 7 448 0 0 127 [(12, .inl (x12 + (1 : Int32))), (0, .inr (.inr x0)), (9, .inl x9), (10, .inl x10), (11, .inl x11), (13, .inr (.inr x13)), (14, .inl x14)] [] σ R
        refine q_let (fun v2 => q_G l cx M_PF_changed 7 448 0 0 127 [(12, .inl v2), (0, .inr (.inr x0)), (9, .inl x9), (10, .inl x10), (11, .inl x11), (13, .inr (.inr x13)), (14, .inl x14)] [] σ R) (x12 + (1 : Int32)) (fun v2 e_v2 => ?_)
        have hV := hV v2 e_v2
        refine q_goto (q_dc k_PF_changed 57 rfl) rfl ?_
        exact q_less (Nat.le_of_ble_eq_true rfl) (Nat.le_of_ble_eq_true rfl) (q_subk [1, 2, 3, 4, 0] rfl hV)
      · have hV := hV.2 h1
        refine q_run k_PF_changed 38 13 113 rfl ?_
        show q_K σ x13 = 6 ∧ q_K σ (q_P σ x13 10) = 2 ∧ (q_K σ (q_P σ (q_P σ x13 10) 0) = 1000 ∨ q_K σ (q_P σ (q_P σ x13 10) 0) = 2000) ∧ vp_in x14 (q_Z σ (q_P σ (q_P σ x13 10) 0)) ∧ q_K σ x13 = 6 ∧ q_K σ (q_P σ x13 11) = 2 ∧ (q_K σ (q_P σ (q_P σ x13 11) 0) = 1000 ∨ q_K σ (q_P σ (q_P σ x13 11) 0) = 2000) ∧ vp_in x14 (q_Z σ (q_P σ (q_P σ x13 11) 0)) ∧ q_G l cx M_PF_changed 7 448 0 0 113 [(0, .inr (.inr x0)), (9, .inl x9), (10, .inl x10), (11, .inl x11), (12, .inl x12), (13, .inr (.inr x13)), (14, .inl x14)] [.inl (((q_I σ (q_P σ (q_P σ x13 10) 0) x14.toNatClampNeg) ^^^ (q_I σ (q_P σ (q_P σ x13 11) 0) x14.toNatClampNeg)) &&& x9)] σ R
        obtain ⟨s3, s4, s5, s6, s7, s8, s9, s10, hV⟩ := hV
        refine ⟨s3, s4, s5, s6, s7, s8, s9, s10, ?_⟩
        refine q_ifz (q_dc k_PF_changed 51 rfl) rfl (fun h11 => ?_) (fun h11 => ?_)
        · have hV := hV.1 h11
          refine q_run k_PF_changed 54 1 121 rfl ?_
          show q_G l cx M_PF_changed 7 448 0 0 121 [(14, .inl (x14 + (1 : Int32))), (0, .inr (.inr x0)), (9, .inl x9), (10, .inl x10), (11, .inl x11), (12, .inl x12), (13, .inr (.inr x13))] [] σ R
          refine q_let (fun v12 => q_G l cx M_PF_changed 7 448 0 0 121 [(14, .inl v12), (0, .inr (.inr x0)), (9, .inl x9), (10, .inl x10), (11, .inl x11), (12, .inl x12), (13, .inr (.inr x13))] [] σ R) (x14 + (1 : Int32)) (fun v12 e_v12 => ?_)
          have hV := hV v12 e_v12
          refine q_goto (q_dc k_PF_changed 55 rfl) rfl ?_
          exact q_less (Nat.le_of_ble_eq_true rfl) (Nat.le_of_ble_eq_true rfl) (q_subk [1, 2, 3, 4, 5, 6, 0] rfl hV)
        · have hV := hV.2 h11
          refine q_run k_PF_changed 52 1 117 rfl ?_
          show q_G l cx M_PF_changed 7 448 0 0 117 [(0, .inr (.inr x0)), (9, .inl x9), (10, .inl x10), (11, .inl x11), (12, .inl x12), (13, .inr (.inr x13)), (14, .inl x14)] [.inl (0 : Int32)] σ R
          exact q_zreturn (q_dc k_PF_changed 53 rfl) rfl (by decide) hV)
  refine q_run k_PF_changed 0 2 3 rfl ?_
  show q_G l cx M_PF_changed 7 448 0 0 3 [(0, .inr (.inr x0)), (1, .inr (.inl x1)), (3, .inr (.inl x3)), (5, .inr (.inl x5)), (7, .inr (.inl x7))] [.inr (.inl x5), .inr (.inl x1)] σ R
  refine q_callS (st := []) (t_PF_span (l := l) (cx := cx) (σ := σ) x1 x5) (q_dc k_PF_changed 2 rfl) (Or.inl (List.mem_of_getElem? (i := 244) (by decide +kernel))) w_PF_span s_PF_span a_PF_span (q_wt (Nat.le_of_ble_eq_true rfl)) ⟨Nat.le_of_ble_eq_true rfl, Nat.le_of_ble_eq_true rfl⟩ (fun v9 τ9 q9 => ?_) (fun n9 τ9 q9 => by cases q9.1)
  obtain ⟨q8, q7⟩ := q9
  cases q8
  rw [q7]
  show q_G l cx M_PF_changed 7 448 0 0 6 [(0, .inr (.inr x0)), (1, .inr (.inl x1)), (3, .inr (.inl x3)), (5, .inr (.inl x5)), (7, .inr (.inl x7))] [.inl (f_PF_span x1 x5)] σ R
  refine q_run k_PF_changed 3 1 8 rfl ?_
  show q_G l cx M_PF_changed 7 448 0 0 8 [(9, .inl (f_PF_span x1 x5)), (0, .inr (.inr x0)), (1, .inr (.inl x1)), (3, .inr (.inl x3)), (5, .inr (.inl x5)), (7, .inr (.inl x7))] [] σ R
  refine q_let (fun v1 => q_G l cx M_PF_changed 7 448 0 0 8 [(9, .inl v1), (0, .inr (.inr x0)), (1, .inr (.inl x1)), (3, .inr (.inl x3)), (5, .inr (.inl x5)), (7, .inr (.inl x7))] [] σ R) (f_PF_span x1 x5) (fun v1 e_v1 => ?_)
  have hV := hV v1 e_v1
  refine q_run k_PF_changed 4 3 13 rfl ?_
  show q_G l cx M_PF_changed 7 448 0 0 13 [(9, .inl v1), (0, .inr (.inr x0)), (1, .inr (.inl x1)), (3, .inr (.inl x3)), (5, .inr (.inl x5)), (7, .inr (.inl x7))] [.inr (.inl x3), .inr (.inl (24 : Int64)), .inr (.inl (0 : Int64))] σ R
  refine q_callS (st := [.inr (.inl (0 : Int64))]) (t_MT_min2 (l := l) (cx := cx) (σ := σ) (24 : Int64) x3) (q_dc k_PF_changed 7 rfl) (Or.inl (List.mem_of_getElem? (i := 207) (by decide +kernel))) w_MT_min2 s_MT_min2 a_MT_min2 (q_wt (Nat.le_of_ble_eq_true rfl)) ⟨Nat.le_of_ble_eq_true rfl, Nat.le_of_ble_eq_true rfl⟩ (fun v9 τ9 q9 => ?_) (fun n9 τ9 q9 => by cases q9.1)
  obtain ⟨q8, q7⟩ := q9
  cases q8
  rw [q7]
  show q_G l cx M_PF_changed 7 448 0 0 16 [(9, .inl v1), (0, .inr (.inr x0)), (1, .inr (.inl x1)), (3, .inr (.inl x3)), (5, .inr (.inl x5)), (7, .inr (.inl x7))] [.inr (.inl (f_MT_min2 (24 : Int64) x3)), .inr (.inl (0 : Int64))] σ R
  refine q_callS (st := []) (t_MT_max2 (l := l) (cx := cx) (σ := σ) (0 : Int64) (f_MT_min2 (24 : Int64) x3)) (q_dc k_PF_changed 8 rfl) (Or.inl (List.mem_of_getElem? (i := 203) (by decide +kernel))) w_MT_max2 s_MT_max2 a_MT_max2 (q_wt (Nat.le_of_ble_eq_true rfl)) ⟨Nat.le_of_ble_eq_true rfl, Nat.le_of_ble_eq_true rfl⟩ (fun v9 τ9 q9 => ?_) (fun n9 τ9 q9 => by cases q9.1)
  obtain ⟨q8, q7⟩ := q9
  cases q8
  rw [q7]
  show q_G l cx M_PF_changed 7 448 0 0 19 [(9, .inl v1), (0, .inr (.inr x0)), (1, .inr (.inl x1)), (3, .inr (.inl x3)), (5, .inr (.inl x5)), (7, .inr (.inl x7))] [.inr (.inl (f_MT_max2 (0 : Int64) (f_MT_min2 (24 : Int64) x3)))] σ R
  refine q_run k_PF_changed 9 2 22 rfl ?_
  show q_G l cx M_PF_changed 7 448 0 0 22 [(10, .inl ((f_MT_max2 (0 : Int64) (f_MT_min2 (24 : Int64) x3)).toInt32)), (9, .inl v1), (0, .inr (.inr x0)), (1, .inr (.inl x1)), (3, .inr (.inl x3)), (5, .inr (.inl x5)), (7, .inr (.inl x7))] [] σ R
  refine q_let (fun v2 => q_G l cx M_PF_changed 7 448 0 0 22 [(10, .inl v2), (9, .inl v1), (0, .inr (.inr x0)), (1, .inr (.inl x1)), (3, .inr (.inl x3)), (5, .inr (.inl x5)), (7, .inr (.inl x7))] [] σ R) ((f_MT_max2 (0 : Int64) (f_MT_min2 (24 : Int64) x3)).toInt32) (fun v2 e_v2 => ?_)
  have hV := hV v2 e_v2
  refine q_run k_PF_changed 11 3 30 rfl ?_
  show q_G l cx M_PF_changed 7 448 0 0 30 [(10, .inl v2), (9, .inl v1), (0, .inr (.inr x0)), (1, .inr (.inl x1)), (3, .inr (.inl x3)), (5, .inr (.inl x5)), (7, .inr (.inl x7))] [.inr (.inl x7), .inr (.inl (23 : Int64)), .inr (.inl (-1 : Int64))] σ R
  refine q_callS (st := [.inr (.inl (-1 : Int64))]) (t_MT_min2 (l := l) (cx := cx) (σ := σ) (23 : Int64) x7) (q_dc k_PF_changed 14 rfl) (Or.inl (List.mem_of_getElem? (i := 207) (by decide +kernel))) w_MT_min2 s_MT_min2 a_MT_min2 (q_wt (Nat.le_of_ble_eq_true rfl)) ⟨Nat.le_of_ble_eq_true rfl, Nat.le_of_ble_eq_true rfl⟩ (fun v9 τ9 q9 => ?_) (fun n9 τ9 q9 => by cases q9.1)
  obtain ⟨q8, q7⟩ := q9
  cases q8
  rw [q7]
  show q_G l cx M_PF_changed 7 448 0 0 33 [(10, .inl v2), (9, .inl v1), (0, .inr (.inr x0)), (1, .inr (.inl x1)), (3, .inr (.inl x3)), (5, .inr (.inl x5)), (7, .inr (.inl x7))] [.inr (.inl (f_MT_min2 (23 : Int64) x7)), .inr (.inl (-1 : Int64))] σ R
  refine q_callS (st := []) (t_MT_max2 (l := l) (cx := cx) (σ := σ) (-1 : Int64) (f_MT_min2 (23 : Int64) x7)) (q_dc k_PF_changed 15 rfl) (Or.inl (List.mem_of_getElem? (i := 203) (by decide +kernel))) w_MT_max2 s_MT_max2 a_MT_max2 (q_wt (Nat.le_of_ble_eq_true rfl)) ⟨Nat.le_of_ble_eq_true rfl, Nat.le_of_ble_eq_true rfl⟩ (fun v9 τ9 q9 => ?_) (fun n9 τ9 q9 => by cases q9.1)
  obtain ⟨q8, q7⟩ := q9
  cases q8
  rw [q7]
  show q_G l cx M_PF_changed 7 448 0 0 36 [(10, .inl v2), (9, .inl v1), (0, .inr (.inr x0)), (1, .inr (.inl x1)), (3, .inr (.inl x3)), (5, .inr (.inl x5)), (7, .inr (.inl x7))] [.inr (.inl (f_MT_max2 (-1 : Int64) (f_MT_min2 (23 : Int64) x7)))] σ R
  refine q_run k_PF_changed 16 2 39 rfl ?_
  show q_G l cx M_PF_changed 7 448 0 0 39 [(11, .inl ((f_MT_max2 (-1 : Int64) (f_MT_min2 (23 : Int64) x7)).toInt32)), (10, .inl v2), (9, .inl v1), (0, .inr (.inr x0)), (1, .inr (.inl x1)), (3, .inr (.inl x3)), (5, .inr (.inl x5)), (7, .inr (.inl x7))] [] σ R
  refine q_let (fun v3 => q_G l cx M_PF_changed 7 448 0 0 39 [(11, .inl v3), (10, .inl v2), (9, .inl v1), (0, .inr (.inr x0)), (1, .inr (.inl x1)), (3, .inr (.inl x3)), (5, .inr (.inl x5)), (7, .inr (.inl x7))] [] σ R) ((f_MT_max2 (-1 : Int64) (f_MT_min2 (23 : Int64) x7)).toInt32) (fun v3 e_v3 => ?_)
  have hV := hV v3 e_v3
  refine q_run k_PF_changed 18 1 40 rfl ?_
  show q_G l cx M_PF_changed 7 448 0 0 40 [(11, .inl v3), (10, .inl v2), (9, .inl v1), (0, .inr (.inr x0)), (1, .inr (.inl x1)), (3, .inr (.inl x3)), (5, .inr (.inl x5)), (7, .inr (.inl x7))] [.inr (.inr x0)] σ R
  obtain ⟨s4, hV⟩ := hV
  refine q_callV (st := []) (as := []) (t_PF_fillTrials (l := l) (cx := cx)  hV) (q_dc k_PF_changed 19 rfl) (Or.inl (List.mem_of_getElem? (i := 169) (by decide +kernel))) w_PF_fillTrials n_PF_fillTrials (ci := 0) rfl e_PF_fillTrials a_PF_fillTrials (q_wt (Nat.le_of_ble_eq_true rfl)) ⟨Nat.le_of_ble_eq_true rfl, Nat.le_of_ble_eq_true rfl⟩ s4 (fun v9 τ9 q9 => ?_) (fun n9 τ9 q9 => q_T.leave rfl q9)
  obtain ⟨rfl, hV⟩ := q_cv_elim q9
  clear q9
  have hV := hV
  revert hV
  generalize τ9 = σ8
  intro hV
  show q_G l cx M_PF_changed 7 448 0 0 43 [(11, .inl v3), (10, .inl v2), (9, .inl v1), (0, .inr (.inr x0)), (1, .inr (.inl x1)), (3, .inr (.inl x3)), (5, .inr (.inl x5)), (7, .inr (.inl x7))] [] σ8 R
  refine q_run k_PF_changed 20 2 46 rfl ?_
  show q_G l cx M_PF_changed 7 448 0 0 46 [(12, .inl (0 : Int32)), (11, .inl v3), (10, .inl v2), (9, .inl v1), (0, .inr (.inr x0)), (1, .inr (.inl x1)), (3, .inr (.inl x3)), (5, .inr (.inl x5)), (7, .inr (.inl x7))] [] σ8 R
  exact q_less (Nat.le_of_ble_eq_true rfl) (Nat.le_of_ble_eq_true rfl) (q_subk [4, 3, 2, 1, 0] rfl hV)
