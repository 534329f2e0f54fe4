/-! WHAT METHODS ASK, further (by program) -/
def V_LW_cell (x0 : Nat) (x1 : Int32) (σ : q_S) (R : q_O → q_S → Prop) : Prop :=
  ∀ (P13 : Int32 → q_S → Prop),
  (∀ (y0 : Int32) (σ : q_S), (R (.inl (some (.inl y0))) σ) → P13 y0 σ) →
  1000 ≤ q_K σ x0 ∧ (((nI (q_Z σ x0)) ≤ x1 → P13 (0 : Int32) σ) ∧ (¬ ((nI (q_Z σ x0)) ≤ x1) → (q_K σ x0 = 1000 ∨ q_K σ x0 = 2000) ∧ vp_in x1 (q_Z σ x0) ∧ P13 (q_I σ x0 x1.toNatClampNeg) σ))
set_option maxRecDepth 100000 in
theorem t_LW_cell {l : Launch} {cx : q_C} {x0 : Nat} {x1 : Int32} {σ : q_S} {R : q_O → q_S → Prop} (hV : V_LW_cell x0 x1 σ R) : q_Ct l cx M_LW_cell 0 0 0 0 [q_r x0, q_i x1] σ R := by
  refine q_Ct.of p_LW_cell c_LW_cell rfl (Nat.le_of_ble_eq_true rfl) ?_
  have hV := hV (fun (y0 : Int32) (σ : q_S) => q_G l cx M_LW_cell 0 0 0 0 13 [] [.inl y0] σ R)
  have hV := hV (by
      intro y0 σ hV
      show q_G l cx M_LW_cell 0 0 0 0 13 [] [.inl y0] σ R
      exact q_ireturn (q_dc k_LW_cell 9 rfl) rfl hV)
  refine q_run k_LW_cell 0 3 3 rfl ?_
  show 1000 ≤ q_K σ x0 ∧ q_G l cx M_LW_cell 0 0 0 0 3 [(0, .inr (.inr x0)), (1, .inl x1)] [.inl (nI (q_Z σ x0)), .inl x1] σ R
  obtain ⟨s1, hV⟩ := hV
  refine ⟨s1, ?_⟩
  refine q_icmp (q_dc k_LW_cell 3 rfl) rfl (fun h2 => ?_) (fun h2 => ?_)
  · have hV := hV.1 h2
    refine q_run k_LW_cell 8 1 13 rfl ?_
    show q_G l cx M_LW_cell 0 0 0 0 13 [(0, .inr (.inr x0)), (1, .inl x1)] [.inl (0 : Int32)] σ R
    exact q_less (Nat.le_of_ble_eq_true rfl) (Nat.le_of_ble_eq_true rfl) (q_subk [] rfl hV)
  · have hV := hV.2 h2
    refine q_run k_LW_cell 4 3 9 rfl ?_
    show (q_K σ x0 = 1000 ∨ q_K σ x0 = 2000) ∧ vp_in x1 (q_Z σ x0) ∧ q_G l cx M_LW_cell 0 0 0 0 9 [(0, .inr (.inr x0)), (1, .inl x1)] [.inl (q_I σ x0 x1.toNatClampNeg)] σ R
    obtain ⟨s3, s4, hV⟩ := hV
    refine ⟨s3, s4, ?_⟩
    refine q_goto (q_dc k_LW_cell 7 rfl) rfl ?_
    exact q_less (Nat.le_of_ble_eq_true rfl) (Nat.le_of_ble_eq_true rfl) (q_subk [] rfl hV)
def V_LW_plane (x0 : Nat) (x1 : Int32) (x2 : Int32) (x3 : Int32) (x4 : Nat) (σ : q_S) (R : q_O → q_S → Prop) : Prop :=
  q_K σ x0 = 1 ∧ V_PF_plane x0 x1 x2 x3 σ (q_ci (fun v4 σ5 => q_K σ5 x4 = 1001 ∧ vp_in (0 : Int32) (q_Z σ5 x4) ∧ ∀ σ6 : q_S, σ6 = q_wL σ5 x4 (0 : Int32).toNatClampNeg v4.toInt64 → R (.inl (some (.inl (0 : Int32)))) σ6) (fun n2 σ3 => ((q_K σ3 n2 = 9 → R (.inl (some (.inl (1 : Int32)))) σ3) ∧ (¬ q_K σ3 n2 = 9 → q_K σ3 n2 = 10 ∧ R (.inl (some (.inl (2 : Int32)))) σ3))))
set_option maxRecDepth 100000 in
theorem t_LW_plane {l : Launch} {cx : q_C} {x0 : Nat} {x1 : Int32} {x2 : Int32} {x3 : Int32} {x4 : Nat} {σ : q_S} {R : q_O → q_S → Prop} (hlf : l.flags = pinnedFlags ++ [noTraceFlag]) (hV : V_LW_plane x0 x1 x2 x3 x4 σ R) : q_Ct l cx M_LW_plane 8 512 13 198 [q_r x0, q_i x1, q_i x2, q_i x3, q_r x4] σ R := by
  refine q_Ct.ofW p_LW_plane c_LW_plane (Nat.le_of_ble_eq_true rfl) ?_
  refine q_run k_LW_plane 0 6 7 rfl ?_
  show q_G l cx M_LW_plane 8 512 13 198 7 [(0, .inr (.inr x0)), (1, .inl x1), (2, .inl x2), (3, .inl x3), (4, .inr (.inr x4))] [.inl x3, .inl x2, .inl x1, .inr (.inr x0), .inl (0 : Int32), .inr (.inr x4)] σ R
  obtain ⟨s1, hV⟩ := hV
  refine q_less (kc' := 0 + 13) (ks' := 0 + 198) (Nat.le_of_ble_eq_true rfl) (Nat.le_of_ble_eq_true rfl) ?_
  refine q_callV (st := [.inl (0 : Int32), .inr (.inr x4)]) (as := [.inl x1, .inl x2, .inl x3]) (t_PF_plane (l := l) (cx := cx) hlf hV) (q_dc k_LW_plane 6 rfl) (Or.inl (List.mem_of_getElem? (i := 297) (by decide +kernel))) w_PF_plane n_PF_plane (ci := 0) rfl e_PF_plane a_PF_plane (q_wt (Nat.le_of_ble_eq_true rfl)) ⟨Nat.le_of_ble_eq_true rfl, Nat.le_of_ble_eq_true rfl⟩ s1 (fun v9 τ9 q9 => ?_) (fun n2 σ3 q9 => ?_)
  · have q9 := q9
    obtain ⟨v4, rfl, hV⟩ := q_ci_elim q9
    clear q9
    have hV := hV
    revert hV
    generalize τ9 = σ5
    intro hV
    show q_G l cx M_LW_plane 8 512 0 0 10 [(0, .inr (.inr x0)), (1, .inl x1), (2, .inl x2), (3, .inl x3), (4, .inr (.inr x4))] [.inl v4, .inl (0 : Int32), .inr (.inr x4)] σ5 R
    refine q_run k_LW_plane 7 2 12 rfl ?_
    show q_K σ5 x4 = 1001 ∧ vp_in (0 : Int32) (q_Z σ5 x4) ∧ q_G l cx M_LW_plane 8 512 0 0 12 [(0, .inr (.inr x0)), (1, .inl x1), (2, .inl x2), (3, .inl x3), (4, .inr (.inr x4))] [] (q_wL σ5 x4 (0 : Int32).toNatClampNeg v4.toInt64) R
    obtain ⟨s7, s8, hV⟩ := hV
    refine ⟨s7, s8, ?_⟩
    refine q_let (fun σ6 => q_G l cx M_LW_plane 8 512 0 0 12 [(0, .inr (.inr x0)), (1, .inl x1), (2, .inl x2), (3, .inl x3), (4, .inr (.inr x4))] [] σ6 R) (q_wL σ5 x4 (0 : Int32).toNatClampNeg v4.toInt64) (fun σ6 e_σ6 => ?_)
    have hV := hV σ6 e_σ6
    refine q_goto (q_dc k_LW_plane 9 rfl) rfl ?_
    refine q_run k_LW_plane 16 1 24 rfl ?_
    show q_G l cx M_LW_plane 8 512 0 0 24 [(0, .inr (.inr x0)), (1, .inl x1), (2, .inl x2), (3, .inl x3), (4, .inr (.inr x4))] [.inl (0 : Int32)] σ6 R
    exact q_ireturn (q_dc k_LW_plane 17 rfl) rfl hV
  · have hV := q_ci_x q9
    by_cases h9 : q_K σ3 n2 = 9
    · have hV := hV.1 h9
      refine q_T.c1 (ci := 8) rfl ⟨by decide, by decide⟩ (by decide) rfl (List.mem_of_getElem? (i := 295) (by decide +kernel)) (List.mem_of_getElem? (i := 1) rfl) h9 ?_
      show q_G l cx M_LW_plane 8 512 0 0 15 [(0, .inr (.inr x0)), (1, .inl x1), (2, .inl x2), (3, .inl x3), (4, .inr (.inr x4))] [.inr (.inr n2)] σ3 R
      refine q_run k_LW_plane 10 2 18 rfl ?_
      show q_G l cx M_LW_plane 8 512 0 0 18 [(5, .inr (.inr n2)), (0, .inr (.inr x0)), (1, .inl x1), (2, .inl x2), (3, .inl x3), (4, .inr (.inr x4))] [.inl (1 : Int32)] σ3 R
      exact q_ireturn (q_dc k_LW_plane 12 rfl) rfl hV
    · obtain ⟨s10, hV⟩ := hV.2 h9
      refine q_T.c2 (ci := 9) rfl ⟨by decide, by decide⟩ ⟨by decide, by decide⟩ (by decide) (by decide) rfl (List.mem_of_getElem? (i := 295) (by decide +kernel)) (List.mem_of_getElem? (i := 296) (by decide +kernel)) (List.mem_of_getElem? (i := 0) rfl) (List.mem_of_getElem? (i := 2) rfl) s10 ?_
      show q_G l cx M_LW_plane 8 512 0 0 19 [(0, .inr (.inr x0)), (1, .inl x1), (2, .inl x2), (3, .inl x3), (4, .inr (.inr x4))] [.inr (.inr n2)] σ3 R
      refine q_run k_LW_plane 13 2 22 rfl ?_
      show q_G l cx M_LW_plane 8 512 0 0 22 [(5, .inr (.inr n2)), (0, .inr (.inr x0)), (1, .inl x1), (2, .inl x2), (3, .inl x3), (4, .inr (.inr x4))] [.inl (2 : Int32)] σ3 R
      exact q_ireturn (q_dc k_LW_plane 15 rfl) rfl hV
def V_LW_corner (x0 : Nat) (x1 : Int32) (x2 : Int64) (x4 : Int64) (x6 : Nat) (σ : q_S) (R : q_O → q_S → Prop) : Prop :=
  ∀ (P19 : Int64 → Int32 → Nat → q_S → Prop),
  (∀ (y0 : Int64) (y1 : Int32) (y2 : Nat) (σ : q_S), (q_K σ y2 = 1001 ∧ vp_in y1 (q_Z σ y2) ∧ ∀ σ1 : q_S, σ1 = q_wL σ y2 y1.toNatClampNeg y0 → R (.inl (some (.inl (0 : Int32)))) σ1) → P19 y0 y1 y2 σ) →
  q_K σ x0 = 1 ∧ V_PF_corner x0 x1 x2 x4 σ (q_ci (fun v4 σ5 => ((v4 = (0 : Int32) → P19 (0 : Int64) (0 : Int32) x6 σ5) ∧ (¬ (v4 = (0 : Int32)) → P19 (1 : Int64) (0 : Int32) x6 σ5))) (fun n2 σ3 => ((q_K σ3 n2 = 9 → R (.inl (some (.inl (1 : Int32)))) σ3) ∧ (¬ q_K σ3 n2 = 9 → q_K σ3 n2 = 10 ∧ R (.inl (some (.inl (2 : Int32)))) σ3))))
set_option maxRecDepth 100000 in
theorem t_LW_corner {l : Launch} {cx : q_C} {x0 : Nat} {x1 : Int32} {x2 : Int64} {x4 : Int64} {x6 : Nat} {σ : q_S} {R : q_O → q_S → Prop} (hlf : l.flags = pinnedFlags ++ [noTraceFlag]) (hV : V_LW_corner x0 x1 x2 x4 x6 σ R) : q_Ct l cx M_LW_corner 8 512 2 12 [q_r x0, q_i x1, q_l x2, q_l x4, q_r x6] σ R := by
  refine q_Ct.ofW p_LW_corner c_LW_corner (Nat.le_of_ble_eq_true rfl) ?_
  have hV := hV (fun (y0 : Int64) (y1 : Int32) (y2 : Nat) (σ : q_S) => q_G l cx M_LW_corner 8 512 0 0 19 [] [.inr (.inl y0), .inl y1, .inr (.inr y2)] σ R)
  have hV := hV (by
      intro y0 y1 y2 σ hV
      show q_G l cx M_LW_corner 8 512 0 0 19 [] [.inr (.inl y0), .inl y1, .inr (.inr y2)] σ R
      refine q_run k_LW_corner 11 1 20 rfl ?_
      show q_K σ y2 = 1001 ∧ vp_in y1 (q_Z σ y2) ∧ q_G l cx M_LW_corner 8 512 0 0 20 [] [] (q_wL σ y2 y1.toNatClampNeg y0) R
      obtain ⟨s2, s3, hV⟩ := hV
      refine ⟨s2, s3, ?_⟩
      refine q_let (fun σ1 => q_G l cx M_LW_corner 8 512 0 0 20 [] [] σ1 R) (q_wL σ y2 y1.toNatClampNeg y0) (fun σ1 e_σ1 => ?_)
      have hV := hV σ1 e_σ1
      refine q_goto (q_dc k_LW_corner 12 rfl) rfl ?_
      refine q_run k_LW_corner 19 1 32 rfl ?_
      show q_G l cx M_LW_corner 8 512 0 0 32 [] [.inl (0 : Int32)] σ1 R
      exact q_ireturn (q_dc k_LW_corner 20 rfl) rfl hV)
  refine q_run k_LW_corner 0 6 8 rfl ?_
  show q_G l cx M_LW_corner 8 512 2 12 8 [(0, .inr (.inr x0)), (1, .inl x1), (2, .inr (.inl x2)), (4, .inr (.inl x4)), (6, .inr (.inr x6))] [.inr (.inl x4), .inr (.inl x2), .inl x1, .inr (.inr x0), .inl (0 : Int32), .inr (.inr x6)] σ R
  obtain ⟨s1, hV⟩ := hV
  refine q_less (kc' := 0 + 2) (ks' := 0 + 12) (Nat.le_of_ble_eq_true rfl) (Nat.le_of_ble_eq_true rfl) ?_
  refine q_callV (st := [.inl (0 : Int32), .inr (.inr x6)]) (as := [.inl x1, .inr (.inl x2), .inr (.inl x4)]) (t_PF_corner (l := l) (cx := cx) hlf hV) (q_dc k_LW_corner 6 rfl) (Or.inl (List.mem_of_getElem? (i := 682) (by decide +kernel))) w_PF_corner n_PF_corner (ci := 0) rfl e_PF_corner a_PF_corner (q_wt (Nat.le_of_ble_eq_true rfl)) ⟨Nat.le_of_ble_eq_true rfl, Nat.le_of_ble_eq_true rfl⟩ s1 (fun v9 τ9 q9 => ?_) (fun n2 σ3 q9 => ?_)
  · have q9 := q9
    obtain ⟨v4, rfl, hV⟩ := q_ci_elim q9
    clear q9
    have hV := hV
    revert hV
    generalize τ9 = σ5
    intro hV
    show q_G l cx M_LW_corner 8 512 0 0 11 [(0, .inr (.inr x0)), (1, .inl x1), (2, .inr (.inl x2)), (4, .inr (.inl x4)), (6, .inr (.inr x6))] [.inl v4, .inl (0 : Int32), .inr (.inr x6)] σ5 R
    refine q_ifz (q_dc k_LW_corner 7 rfl) rfl (fun h6 => ?_) (fun h6 => ?_)
    · have hV := hV.1 h6
      refine q_run k_LW_corner 10 1 19 rfl ?_
      show q_G l cx M_LW_corner 8 512 0 0 19 [(0, .inr (.inr x0)), (1, .inl x1), (2, .inr (.inl x2)), (4, .inr (.inl x4)), (6, .inr (.inr x6))] [.inr (.inl (0 : Int64)), .inl (0 : Int32), .inr (.inr x6)] σ5 R
      exact q_less (Nat.le_of_ble_eq_true rfl) (Nat.le_of_ble_eq_true rfl) (q_subk [] rfl hV)
    · have hV := hV.2 h6
      refine q_run k_LW_corner 8 1 15 rfl ?_
      show q_G l cx M_LW_corner 8 512 0 0 15 [(0, .inr (.inr x0)), (1, .inl x1), (2, .inr (.inl x2)), (4, .inr (.inl x4)), (6, .inr (.inr x6))] [.inr (.inl (1 : Int64)), .inl (0 : Int32), .inr (.inr x6)] σ5 R
      refine q_goto (q_dc k_LW_corner 9 rfl) rfl ?_
      exact q_less (Nat.le_of_ble_eq_true rfl) (Nat.le_of_ble_eq_true rfl) (q_subk [] rfl hV)
  · have hV := q_ci_x q9
    by_cases h7 : q_K σ3 n2 = 9
    · have hV := hV.1 h7
      refine q_T.c1 (ci := 8) rfl ⟨by decide, by decide⟩ (by decide) rfl (List.mem_of_getElem? (i := 295) (by decide +kernel)) (List.mem_of_getElem? (i := 1) rfl) h7 ?_
      show q_G l cx M_LW_corner 8 512 0 0 23 [(0, .inr (.inr x0)), (1, .inl x1), (2, .inr (.inl x2)), (4, .inr (.inl x4)), (6, .inr (.inr x6))] [.inr (.inr n2)] σ3 R
      refine q_run k_LW_corner 13 2 26 rfl ?_
      show q_G l cx M_LW_corner 8 512 0 0 26 [(7, .inr (.inr n2)), (0, .inr (.inr x0)), (1, .inl x1), (2, .inr (.inl x2)), (4, .inr (.inl x4)), (6, .inr (.inr x6))] [.inl (1 : Int32)] σ3 R
      exact q_ireturn (q_dc k_LW_corner 15 rfl) rfl hV
    · obtain ⟨s8, hV⟩ := hV.2 h7
      refine q_T.c2 (ci := 9) rfl ⟨by decide, by decide⟩ ⟨by decide, by decide⟩ (by decide) (by decide) rfl (List.mem_of_getElem? (i := 295) (by decide +kernel)) (List.mem_of_getElem? (i := 296) (by decide +kernel)) (List.mem_of_getElem? (i := 0) rfl) (List.mem_of_getElem? (i := 2) rfl) s8 ?_
      show q_G l cx M_LW_corner 8 512 0 0 27 [(0, .inr (.inr x0)), (1, .inl x1), (2, .inr (.inl x2)), (4, .inr (.inl x4)), (6, .inr (.inr x6))] [.inr (.inr n2)] σ3 R
      refine q_run k_LW_corner 16 2 30 rfl ?_
      show q_G l cx M_LW_corner 8 512 0 0 30 [(7, .inr (.inr n2)), (0, .inr (.inr x0)), (1, .inl x1), (2, .inr (.inl x2)), (4, .inr (.inl x4)), (6, .inr (.inr x6))] [.inl (2 : Int32)] σ3 R
      exact q_ireturn (q_dc k_LW_corner 18 rfl) rfl hV
def V_LW_ring (x0 : Nat) (x1 : Int32) (x2 : Nat) (σ : q_S) (R : q_O → q_S → Prop) : Prop :=
  ∀ (P15 : Int64 → Int32 → Nat → q_S → Prop),
  (∀ (y0 : Int64) (y1 : Int32) (y2 : Nat) (σ : q_S), (q_K σ y2 = 1001 ∧ vp_in y1 (q_Z σ y2) ∧ ∀ σ1 : q_S, σ1 = q_wL σ y2 y1.toNatClampNeg y0 → R (.inl (some (.inl (0 : Int32)))) σ1) → P15 y0 y1 y2 σ) →
  q_K σ x0 = 1 ∧ V_PF_ring x0 x1 σ (q_ci (fun v4 σ5 => ((v4 = (0 : Int32) → P15 (0 : Int64) (0 : Int32) x2 σ5) ∧ (¬ (v4 = (0 : Int32)) → P15 (1 : Int64) (0 : Int32) x2 σ5))) (fun n2 σ3 => q_K σ3 n2 = 9 ∧ R (.inl (some (.inl (1 : Int32)))) σ3))
set_option maxRecDepth 100000 in
theorem t_LW_ring {l : Launch} {cx : q_C} {x0 : Nat} {x1 : Int32} {x2 : Nat} {σ : q_S} {R : q_O → q_S → Prop} (hlf : l.flags = pinnedFlags ++ [noTraceFlag]) (hV : V_LW_ring x0 x1 x2 σ R) : q_Ct l cx M_LW_ring 8 512 1 6 [q_r x0, q_i x1, q_r x2] σ R := by
  refine q_Ct.ofW p_LW_ring c_LW_ring (Nat.le_of_ble_eq_true rfl) ?_
  have hV := hV (fun (y0 : Int64) (y1 : Int32) (y2 : Nat) (σ : q_S) => q_G l cx M_LW_ring 8 512 0 0 15 [] [.inr (.inl y0), .inl y1, .inr (.inr y2)] σ R)
  have hV := hV (by
      intro y0 y1 y2 σ hV
      show q_G l cx M_LW_ring 8 512 0 0 15 [] [.inr (.inl y0), .inl y1, .inr (.inr y2)] σ R
      refine q_run k_LW_ring 9 1 16 rfl ?_
      show q_K σ y2 = 1001 ∧ vp_in y1 (q_Z σ y2) ∧ q_G l cx M_LW_ring 8 512 0 0 16 [] [] (q_wL σ y2 y1.toNatClampNeg y0) R
      obtain ⟨s2, s3, hV⟩ := hV
      refine ⟨s2, s3, ?_⟩
      refine q_let (fun σ1 => q_G l cx M_LW_ring 8 512 0 0 16 [] [] σ1 R) (q_wL σ y2 y1.toNatClampNeg y0) (fun σ1 e_σ1 => ?_)
      have hV := hV σ1 e_σ1
      refine q_goto (q_dc k_LW_ring 10 rfl) rfl ?_
      refine q_run k_LW_ring 14 1 23 rfl ?_
      show q_G l cx M_LW_ring 8 512 0 0 23 [] [.inl (0 : Int32)] σ1 R
      exact q_ireturn (q_dc k_LW_ring 15 rfl) rfl hV)
  refine q_run k_LW_ring 0 4 4 rfl ?_
  show q_G l cx M_LW_ring 8 512 1 6 4 [(0, .inr (.inr x0)), (1, .inl x1), (2, .inr (.inr x2))] [.inl x1, .inr (.inr x0), .inl (0 : Int32), .inr (.inr x2)] σ R
  obtain ⟨s1, hV⟩ := hV
  refine q_less (kc' := 0 + 1) (ks' := 0 + 6) (Nat.le_of_ble_eq_true rfl) (Nat.le_of_ble_eq_true rfl) ?_
  refine q_callV (st := [.inl (0 : Int32), .inr (.inr x2)]) (as := [.inl x1]) (t_PF_ring (l := l) (cx := cx) hlf hV) (q_dc k_LW_ring 4 rfl) (Or.inl (List.mem_of_getElem? (i := 698) (by decide +kernel))) w_PF_ring n_PF_ring (ci := 0) rfl e_PF_ring a_PF_ring (q_wt (Nat.le_of_ble_eq_true rfl)) ⟨Nat.le_of_ble_eq_true rfl, Nat.le_of_ble_eq_true rfl⟩ s1 (fun v9 τ9 q9 => ?_) (fun n2 σ3 q9 => ?_)
  · have q9 := q9
    obtain ⟨v4, rfl, hV⟩ := q_ci_elim q9
    clear q9
    have hV := hV
    revert hV
    generalize τ9 = σ5
    intro hV
    show q_G l cx M_LW_ring 8 512 0 0 7 [(0, .inr (.inr x0)), (1, .inl x1), (2, .inr (.inr x2))] [.inl v4, .inl (0 : Int32), .inr (.inr x2)] σ5 R
    refine q_ifz (q_dc k_LW_ring 5 rfl) rfl (fun h6 => ?_) (fun h6 => ?_)
    · have hV := hV.1 h6
      refine q_run k_LW_ring 8 1 15 rfl ?_
      show q_G l cx M_LW_ring 8 512 0 0 15 [(0, .inr (.inr x0)), (1, .inl x1), (2, .inr (.inr x2))] [.inr (.inl (0 : Int64)), .inl (0 : Int32), .inr (.inr x2)] σ5 R
      exact q_less (Nat.le_of_ble_eq_true rfl) (Nat.le_of_ble_eq_true rfl) (q_subk [] rfl hV)
    · have hV := hV.2 h6
      refine q_run k_LW_ring 6 1 11 rfl ?_
      show q_G l cx M_LW_ring 8 512 0 0 11 [(0, .inr (.inr x0)), (1, .inl x1), (2, .inr (.inr x2))] [.inr (.inl (1 : Int64)), .inl (0 : Int32), .inr (.inr x2)] σ5 R
      refine q_goto (q_dc k_LW_ring 7 rfl) rfl ?_
      exact q_less (Nat.le_of_ble_eq_true rfl) (Nat.le_of_ble_eq_true rfl) (q_subk [] rfl hV)
  · have hV := q_ci_x q9
    obtain ⟨s7, hV⟩ := hV
    refine q_T.c1 (ci := 8) rfl ⟨by decide, by decide⟩ (by decide) rfl (List.mem_of_getElem? (i := 295) (by decide +kernel)) (List.mem_of_getElem? (i := 1) rfl) s7 ?_
    show q_G l cx M_LW_ring 8 512 0 0 19 [(0, .inr (.inr x0)), (1, .inl x1), (2, .inr (.inr x2))] [.inr (.inr n2)] σ3 R
    refine q_run k_LW_ring 11 2 21 rfl ?_
    show q_G l cx M_LW_ring 8 512 0 0 21 [(3, .inr (.inr n2)), (0, .inr (.inr x0)), (1, .inl x1), (2, .inr (.inr x2))] [.inl (1 : Int32)] σ3 R
    exact q_ireturn (q_dc k_LW_ring 13 rfl) rfl hV
def V_LW_obstacle (x0 : Nat) (x1 : Int32) (x2 : Int32) (x3 : Int64) (x5 : Int64) (x7 : Int64) (x9 : Nat) (σ : q_S) (R : q_O → q_S → Prop) : Prop :=
  q_K σ x0 = 1 ∧ V_PF_obstacle x0 x1 x2 x3 x5 x7 σ (q_ci (fun v4 σ5 => q_K σ5 x9 = 1001 ∧ vp_in (0 : Int32) (q_Z σ5 x9) ∧ ∀ σ6 : q_S, σ6 = q_wL σ5 x9 (0 : Int32).toNatClampNeg v4.toInt64 → R (.inl (some (.inl (0 : Int32)))) σ6) (fun n2 σ3 => ((q_K σ3 n2 = 9 → R (.inl (some (.inl (1 : Int32)))) σ3) ∧ (¬ q_K σ3 n2 = 9 → q_K σ3 n2 = 10 ∧ R (.inl (some (.inl (2 : Int32)))) σ3))))
set_option maxRecDepth 100000 in
theorem t_LW_obstacle {l : Launch} {cx : q_C} {x0 : Nat} {x1 : Int32} {x2 : Int32} {x3 : Int64} {x5 : Int64} {x7 : Int64} {x9 : Nat} {σ : q_S} {R : q_O → q_S → Prop} (hlf : l.flags = pinnedFlags ++ [noTraceFlag]) (hV : V_LW_obstacle x0 x1 x2 x3 x5 x7 x9 σ R) : q_Ct l cx M_LW_obstacle 8 512 5 55 [q_r x0, q_i x1, q_i x2, q_l x3, q_l x5, q_l x7, q_r x9] σ R := by
  refine q_Ct.ofW p_LW_obstacle c_LW_obstacle (Nat.le_of_ble_eq_true rfl) ?_
  refine q_run k_LW_obstacle 0 8 11 rfl ?_
  show q_G l cx M_LW_obstacle 8 512 5 55 11 [(0, .inr (.inr x0)), (1, .inl x1), (2, .inl x2), (3, .inr (.inl x3)), (5, .inr (.inl x5)), (7, .inr (.inl x7)), (9, .inr (.inr x9))] [.inr (.inl x7), .inr (.inl x5), .inr (.inl x3), .inl x2, .inl x1, .inr (.inr x0), .inl (0 : Int32), .inr (.inr x9)] σ R
  obtain ⟨s1, hV⟩ := hV
  refine q_less (kc' := 0 + 5) (ks' := 0 + 55) (Nat.le_of_ble_eq_true rfl) (Nat.le_of_ble_eq_true rfl) ?_
  refine q_callV (st := [.inl (0 : Int32), .inr (.inr x9)]) (as := [.inl x1, .inl x2, .inr (.inl x3), .inr (.inl x5), .inr (.inl x7)]) (t_PF_obstacle (l := l) (cx := cx) hlf hV) (q_dc k_LW_obstacle 8 rfl) (Or.inl (List.mem_of_getElem? (i := 713) (by decide +kernel))) w_PF_obstacle n_PF_obstacle (ci := 0) rfl e_PF_obstacle a_PF_obstacle (q_wt (Nat.le_of_ble_eq_true rfl)) ⟨Nat.le_of_ble_eq_true rfl, Nat.le_of_ble_eq_true rfl⟩ s1 (fun v9 τ9 q9 => ?_) (fun n2 σ3 q9 => ?_)
  · have q9 := q9
    obtain ⟨v4, rfl, hV⟩ := q_ci_elim q9
    clear q9
    have hV := hV
    revert hV
    generalize τ9 = σ5
    intro hV
    show q_G l cx M_LW_obstacle 8 512 0 0 14 [(0, .inr (.inr x0)), (1, .inl x1), (2, .inl x2), (3, .inr (.inl x3)), (5, .inr (.inl x5)), (7, .inr (.inl x7)), (9, .inr (.inr x9))] [.inl v4, .inl (0 : Int32), .inr (.inr x9)] σ5 R
    refine q_run k_LW_obstacle 9 2 16 rfl ?_
    show q_K σ5 x9 = 1001 ∧ vp_in (0 : Int32) (q_Z σ5 x9) ∧ q_G l cx M_LW_obstacle 8 512 0 0 16 [(0, .inr (.inr x0)), (1, .inl x1), (2, .inl x2), (3, .inr (.inl x3)), (5, .inr (.inl x5)), (7, .inr (.inl x7)), (9, .inr (.inr x9))] [] (q_wL σ5 x9 (0 : Int32).toNatClampNeg v4.toInt64) R
    obtain ⟨s7, s8, hV⟩ := hV
    refine ⟨s7, s8, ?_⟩
    refine q_let (fun σ6 => q_G l cx M_LW_obstacle 8 512 0 0 16 [(0, .inr (.inr x0)), (1, .inl x1), (2, .inl x2), (3, .inr (.inl x3)), (5, .inr (.inl x5)), (7, .inr (.inl x7)), (9, .inr (.inr x9))] [] σ6 R) (q_wL σ5 x9 (0 : Int32).toNatClampNeg v4.toInt64) (fun σ6 e_σ6 => ?_)
    have hV := hV σ6 e_σ6
    refine q_goto (q_dc k_LW_obstacle 11 rfl) rfl ?_
    refine q_run k_LW_obstacle 18 1 28 rfl ?_
    show q_G l cx M_LW_obstacle 8 512 0 0 28 [(0, .inr (.inr x0)), (1, .inl x1), (2, .inl x2), (3, .inr (.inl x3)), (5, .inr (.inl x5)), (7, .inr (.inl x7)), (9, .inr (.inr x9))] [.inl (0 : Int32)] σ6 R
    exact q_ireturn (q_dc k_LW_obstacle 19 rfl) rfl hV
  · have hV := q_ci_x q9
    by_cases h9 : q_K σ3 n2 = 9
    · have hV := hV.1 h9
      refine q_T.c1 (ci := 8) rfl ⟨by decide, by decide⟩ (by decide) rfl (List.mem_of_getElem? (i := 295) (by decide +kernel)) (List.mem_of_getElem? (i := 1) rfl) h9 ?_
      show q_G l cx M_LW_obstacle 8 512 0 0 19 [(0, .inr (.inr x0)), (1, .inl x1), (2, .inl x2), (3, .inr (.inl x3)), (5, .inr (.inl x5)), (7, .inr (.inl x7)), (9, .inr (.inr x9))] [.inr (.inr n2)] σ3 R
      refine q_run k_LW_obstacle 12 2 22 rfl ?_
      show q_G l cx M_LW_obstacle 8 512 0 0 22 [(10, .inr (.inr n2)), (0, .inr (.inr x0)), (1, .inl x1), (2, .inl x2), (3, .inr (.inl x3)), (5, .inr (.inl x5)), (7, .inr (.inl x7)), (9, .inr (.inr x9))] [.inl (1 : Int32)] σ3 R
      exact q_ireturn (q_dc k_LW_obstacle 14 rfl) rfl hV
    · obtain ⟨s10, hV⟩ := hV.2 h9
      refine q_T.c2 (ci := 9) rfl ⟨by decide, by decide⟩ ⟨by decide, by decide⟩ (by decide) (by decide) rfl (List.mem_of_getElem? (i := 295) (by decide +kernel)) (List.mem_of_getElem? (i := 296) (by decide +kernel)) (List.mem_of_getElem? (i := 0) rfl) (List.mem_of_getElem? (i := 2) rfl) s10 ?_
      show q_G l cx M_LW_obstacle 8 512 0 0 23 [(0, .inr (.inr x0)), (1, .inl x1), (2, .inl x2), (3, .inr (.inl x3)), (5, .inr (.inl x5)), (7, .inr (.inl x7)), (9, .inr (.inr x9))] [.inr (.inr n2)] σ3 R
      refine q_run k_LW_obstacle 15 2 26 rfl ?_
      show q_G l cx M_LW_obstacle 8 512 0 0 26 [(10, .inr (.inr n2)), (0, .inr (.inr x0)), (1, .inl x1), (2, .inl x2), (3, .inr (.inl x3)), (5, .inr (.inl x5)), (7, .inr (.inl x7)), (9, .inr (.inr x9))] [.inl (2 : Int32)] σ3 R
      exact q_ireturn (q_dc k_LW_obstacle 17 rfl) rfl hV
def V_LW_rule (x0 : Nat) (x1 : Int32) (x2 : Int64) (x4 : Nat) (σ : q_S) (R : q_O → q_S → Prop) : Prop :=
  ∀ (P17 : Int64 → Int32 → Nat → q_S → Prop),
  (∀ (y0 : Int64) (y1 : Int32) (y2 : Nat) (σ : q_S), (q_K σ y2 = 1001 ∧ vp_in y1 (q_Z σ y2) ∧ ∀ σ1 : q_S, σ1 = q_wL σ y2 y1.toNatClampNeg y0 → R (.inl (some (.inl (0 : Int32)))) σ1) → P17 y0 y1 y2 σ) →
  q_K σ x0 = 1 ∧ V_PF_rule x0 x1 x2 σ (q_ci (fun v4 σ5 => ((v4 = (0 : Int32) → P17 (0 : Int64) (0 : Int32) x4 σ5) ∧ (¬ (v4 = (0 : Int32)) → P17 (1 : Int64) (0 : Int32) x4 σ5))) (fun n2 σ3 => ((q_K σ3 n2 = 9 → R (.inl (some (.inl (1 : Int32)))) σ3) ∧ (¬ q_K σ3 n2 = 9 → q_K σ3 n2 = 10 ∧ R (.inl (some (.inl (2 : Int32)))) σ3))))
set_option maxRecDepth 100000 in
theorem t_LW_rule {l : Launch} {cx : q_C} {x0 : Nat} {x1 : Int32} {x2 : Int64} {x4 : Nat} {σ : q_S} {R : q_O → q_S → Prop} (hlf : l.flags = pinnedFlags ++ [noTraceFlag]) (hV : V_LW_rule x0 x1 x2 x4 σ R) : q_Ct l cx M_LW_rule 7 448 1 6 [q_r x0, q_i x1, q_l x2, q_r x4] σ R := by
  refine q_Ct.ofW p_LW_rule c_LW_rule (Nat.le_of_ble_eq_true rfl) ?_
  have hV := hV (fun (y0 : Int64) (y1 : Int32) (y2 : Nat) (σ : q_S) => q_G l cx M_LW_rule 7 448 0 0 17 [] [.inr (.inl y0), .inl y1, .inr (.inr y2)] σ R)
  have hV := hV (by
      intro y0 y1 y2 σ hV
      show q_G l cx M_LW_rule 7 448 0 0 17 [] [.inr (.inl y0), .inl y1, .inr (.inr y2)] σ R
      refine q_run k_LW_rule 10 1 18 rfl ?_
      show q_K σ y2 = 1001 ∧ vp_in y1 (q_Z σ y2) ∧ q_G l cx M_LW_rule 7 448 0 0 18 [] [] (q_wL σ y2 y1.toNatClampNeg y0) R
      obtain ⟨s2, s3, hV⟩ := hV
      refine ⟨s2, s3, ?_⟩
      refine q_let (fun σ1 => q_G l cx M_LW_rule 7 448 0 0 18 [] [] σ1 R) (q_wL σ y2 y1.toNatClampNeg y0) (fun σ1 e_σ1 => ?_)
      have hV := hV σ1 e_σ1
      refine q_goto (q_dc k_LW_rule 11 rfl) rfl ?_
      refine q_run k_LW_rule 18 1 30 rfl ?_
      show q_G l cx M_LW_rule 7 448 0 0 30 [] [.inl (0 : Int32)] σ1 R
      exact q_ireturn (q_dc k_LW_rule 19 rfl) rfl hV)
  refine q_run k_LW_rule 0 5 6 rfl ?_
  show q_G l cx M_LW_rule 7 448 1 6 6 [(0, .inr (.inr x0)), (1, .inl x1), (2, .inr (.inl x2)), (4, .inr (.inr x4))] [.inr (.inl x2), .inl x1, .inr (.inr x0), .inl (0 : Int32), .inr (.inr x4)] σ R
  obtain ⟨s1, hV⟩ := hV
  refine q_less (kc' := 0 + 1) (ks' := 0 + 6) (Nat.le_of_ble_eq_true rfl) (Nat.le_of_ble_eq_true rfl) ?_
  refine q_callV (st := [.inl (0 : Int32), .inr (.inr x4)]) (as := [.inl x1, .inr (.inl x2)]) (t_PF_rule (l := l) (cx := cx) hlf hV) (q_dc k_LW_rule 5 rfl) (Or.inl (List.mem_of_getElem? (i := 735) (by decide +kernel))) w_PF_rule n_PF_rule (ci := 0) rfl e_PF_rule a_PF_rule (q_wt (Nat.le_of_ble_eq_true rfl)) ⟨Nat.le_of_ble_eq_true rfl, Nat.le_of_ble_eq_true rfl⟩ s1 (fun v9 τ9 q9 => ?_) (fun n2 σ3 q9 => ?_)
  · have q9 := q9
    obtain ⟨v4, rfl, hV⟩ := q_ci_elim q9
    clear q9
    have hV := hV
    revert hV
    generalize τ9 = σ5
    intro hV
    show q_G l cx M_LW_rule 7 448 0 0 9 [(0, .inr (.inr x0)), (1, .inl x1), (2, .inr (.inl x2)), (4, .inr (.inr x4))] [.inl v4, .inl (0 : Int32), .inr (.inr x4)] σ5 R
    refine q_ifz (q_dc k_LW_rule 6 rfl) rfl (fun h6 => ?_) (fun h6 => ?_)
    · have hV := hV.1 h6
      refine q_run k_LW_rule 9 1 17 rfl ?_
      show q_G l cx M_LW_rule 7 448 0 0 17 [(0, .inr (.inr x0)), (1, .inl x1), (2, .inr (.inl x2)), (4, .inr (.inr x4))] [.inr (.inl (0 : Int64)), .inl (0 : Int32), .inr (.inr x4)] σ5 R
      exact q_less (Nat.le_of_ble_eq_true rfl) (Nat.le_of_ble_eq_true rfl) (q_subk [] rfl hV)
    · have hV := hV.2 h6
      refine q_run k_LW_rule 7 1 13 rfl ?_
      show q_G l cx M_LW_rule 7 448 0 0 13 [(0, .inr (.inr x0)), (1, .inl x1), (2, .inr (.inl x2)), (4, .inr (.inr x4))] [.inr (.inl (1 : Int64)), .inl (0 : Int32), .inr (.inr x4)] σ5 R
      refine q_goto (q_dc k_LW_rule 8 rfl) rfl ?_
      exact q_less (Nat.le_of_ble_eq_true rfl) (Nat.le_of_ble_eq_true rfl) (q_subk [] rfl hV)
  · have hV := q_ci_x q9
    by_cases h7 : q_K σ3 n2 = 9
    · have hV := hV.1 h7
      refine q_T.c1 (ci := 8) rfl ⟨by decide, by decide⟩ (by decide) rfl (List.mem_of_getElem? (i := 295) (by decide +kernel)) (List.mem_of_getElem? (i := 1) rfl) h7 ?_
      show q_G l cx M_LW_rule 7 448 0 0 21 [(0, .inr (.inr x0)), (1, .inl x1), (2, .inr (.inl x2)), (4, .inr (.inr x4))] [.inr (.inr n2)] σ3 R
      refine q_run k_LW_rule 12 2 24 rfl ?_
      show q_G l cx M_LW_rule 7 448 0 0 24 [(5, .inr (.inr n2)), (0, .inr (.inr x0)), (1, .inl x1), (2, .inr (.inl x2)), (4, .inr (.inr x4))] [.inl (1 : Int32)] σ3 R
      exact q_ireturn (q_dc k_LW_rule 14 rfl) rfl hV
    · obtain ⟨s8, hV⟩ := hV.2 h7
      refine q_T.c2 (ci := 9) rfl ⟨by decide, by decide⟩ ⟨by decide, by decide⟩ (by decide) (by decide) rfl (List.mem_of_getElem? (i := 295) (by decide +kernel)) (List.mem_of_getElem? (i := 296) (by decide +kernel)) (List.mem_of_getElem? (i := 0) rfl) (List.mem_of_getElem? (i := 2) rfl) s8 ?_
      show q_G l cx M_LW_rule 7 448 0 0 25 [(0, .inr (.inr x0)), (1, .inl x1), (2, .inr (.inl x2)), (4, .inr (.inr x4))] [.inr (.inr n2)] σ3 R
      refine q_run k_LW_rule 15 2 28 rfl ?_
      show q_G l cx M_LW_rule 7 448 0 0 28 [(5, .inr (.inr n2)), (0, .inr (.inr x0)), (1, .inl x1), (2, .inr (.inl x2)), (4, .inr (.inr x4))] [.inl (2 : Int32)] σ3 R
      exact q_ireturn (q_dc k_LW_rule 17 rfl) rfl hV
def V_LW_pad (x0 : Nat) (x1 : Int32) (x2 : Int32) (x3 : Int64) (x5 : Int64) (x7 : Int64) (x9 : Int64) (x11 : Nat) (σ : q_S) (R : q_O → q_S → Prop) : Prop :=
  q_K σ x0 = 1 ∧ V_PF_pad x0 x1 x2 x3 x5 x7 x9 σ (q_ci (fun v4 σ5 => q_K σ5 x11 = 1001 ∧ vp_in (0 : Int32) (q_Z σ5 x11) ∧ ∀ σ6 : q_S, σ6 = q_wL σ5 x11 (0 : Int32).toNatClampNeg v4.toInt64 → R (.inl (some (.inl (0 : Int32)))) σ6) (fun n2 σ3 => ((q_K σ3 n2 = 9 → R (.inl (some (.inl (1 : Int32)))) σ3) ∧ (¬ q_K σ3 n2 = 9 → q_K σ3 n2 = 10 ∧ R (.inl (some (.inl (2 : Int32)))) σ3))))
set_option maxRecDepth 100000 in
theorem t_LW_pad {l : Launch} {cx : q_C} {x0 : Nat} {x1 : Int32} {x2 : Int32} {x3 : Int64} {x5 : Int64} {x7 : Int64} {x9 : Int64} {x11 : Nat} {σ : q_S} {R : q_O → q_S → Prop} (hlf : l.flags = pinnedFlags ++ [noTraceFlag]) (hV : V_LW_pad x0 x1 x2 x3 x5 x7 x9 x11 σ R) : q_Ct l cx M_LW_pad 8 512 4 50 [q_r x0, q_i x1, q_i x2, q_l x3, q_l x5, q_l x7, q_l x9, q_r x11] σ R := by
  refine q_Ct.ofW p_LW_pad c_LW_pad (Nat.le_of_ble_eq_true rfl) ?_
  refine q_run k_LW_pad 0 9 13 rfl ?_
  show q_G l cx M_LW_pad 8 512 4 50 13 [(0, .inr (.inr x0)), (1, .inl x1), (2, .inl x2), (3, .inr (.inl x3)), (5, .inr (.inl x5)), (7, .inr (.inl x7)), (9, .inr (.inl x9)), (11, .inr (.inr x11))] [.inr (.inl x9), .inr (.inl x7), .inr (.inl x5), .inr (.inl x3), .inl x2, .inl x1, .inr (.inr x0), .inl (0 : Int32), .inr (.inr x11)] σ R
  obtain ⟨s1, hV⟩ := hV
  refine q_less (kc' := 0 + 4) (ks' := 0 + 50) (Nat.le_of_ble_eq_true rfl) (Nat.le_of_ble_eq_true rfl) ?_
  refine q_callV (st := [.inl (0 : Int32), .inr (.inr x11)]) (as := [.inl x1, .inl x2, .inr (.inl x3), .inr (.inl x5), .inr (.inl x7), .inr (.inl x9)]) (t_PF_pad (l := l) (cx := cx) hlf hV) (q_dc k_LW_pad 9 rfl) (Or.inl (List.mem_of_getElem? (i := 744) (by decide +kernel))) w_PF_pad n_PF_pad (ci := 0) rfl e_PF_pad a_PF_pad (q_wt (Nat.le_of_ble_eq_true rfl)) ⟨Nat.le_of_ble_eq_true rfl, Nat.le_of_ble_eq_true rfl⟩ s1 (fun v9 τ9 q9 => ?_) (fun n2 σ3 q9 => ?_)
  · have q9 := q9
    obtain ⟨v4, rfl, hV⟩ := q_ci_elim q9
    clear q9
    have hV := hV
    revert hV
    generalize τ9 = σ5
    intro hV
    show q_G l cx M_LW_pad 8 512 0 0 16 [(0, .inr (.inr x0)), (1, .inl x1), (2, .inl x2), (3, .inr (.inl x3)), (5, .inr (.inl x5)), (7, .inr (.inl x7)), (9, .inr (.inl x9)), (11, .inr (.inr x11))] [.inl v4, .inl (0 : Int32), .inr (.inr x11)] σ5 R
    refine q_run k_LW_pad 10 2 18 rfl ?_
    show q_K σ5 x11 = 1001 ∧ vp_in (0 : Int32) (q_Z σ5 x11) ∧ q_G l cx M_LW_pad 8 512 0 0 18 [(0, .inr (.inr x0)), (1, .inl x1), (2, .inl x2), (3, .inr (.inl x3)), (5, .inr (.inl x5)), (7, .inr (.inl x7)), (9, .inr (.inl x9)), (11, .inr (.inr x11))] [] (q_wL σ5 x11 (0 : Int32).toNatClampNeg v4.toInt64) R
    obtain ⟨s7, s8, hV⟩ := hV
    refine ⟨s7, s8, ?_⟩
    refine q_let (fun σ6 => q_G l cx M_LW_pad 8 512 0 0 18 [(0, .inr (.inr x0)), (1, .inl x1), (2, .inl x2), (3, .inr (.inl x3)), (5, .inr (.inl x5)), (7, .inr (.inl x7)), (9, .inr (.inl x9)), (11, .inr (.inr x11))] [] σ6 R) (q_wL σ5 x11 (0 : Int32).toNatClampNeg v4.toInt64) (fun σ6 e_σ6 => ?_)
    have hV := hV σ6 e_σ6
    refine q_goto (q_dc k_LW_pad 12 rfl) rfl ?_
    refine q_run k_LW_pad 19 1 30 rfl ?_
    show q_G l cx M_LW_pad 8 512 0 0 30 [(0, .inr (.inr x0)), (1, .inl x1), (2, .inl x2), (3, .inr (.inl x3)), (5, .inr (.inl x5)), (7, .inr (.inl x7)), (9, .inr (.inl x9)), (11, .inr (.inr x11))] [.inl (0 : Int32)] σ6 R
    exact q_ireturn (q_dc k_LW_pad 20 rfl) rfl hV
  · have hV := q_ci_x q9
    by_cases h9 : q_K σ3 n2 = 9
    · have hV := hV.1 h9
      refine q_T.c1 (ci := 8) rfl ⟨by decide, by decide⟩ (by decide) rfl (List.mem_of_getElem? (i := 295) (by decide +kernel)) (List.mem_of_getElem? (i := 1) rfl) h9 ?_
      show q_G l cx M_LW_pad 8 512 0 0 21 [(0, .inr (.inr x0)), (1, .inl x1), (2, .inl x2), (3, .inr (.inl x3)), (5, .inr (.inl x5)), (7, .inr (.inl x7)), (9, .inr (.inl x9)), (11, .inr (.inr x11))] [.inr (.inr n2)] σ3 R
      refine q_run k_LW_pad 13 2 24 rfl ?_
      show q_G l cx M_LW_pad 8 512 0 0 24 [(12, .inr (.inr n2)), (0, .inr (.inr x0)), (1, .inl x1), (2, .inl x2), (3, .inr (.inl x3)), (5, .inr (.inl x5)), (7, .inr (.inl x7)), (9, .inr (.inl x9)), (11, .inr (.inr x11))] [.inl (1 : Int32)] σ3 R
      exact q_ireturn (q_dc k_LW_pad 15 rfl) rfl hV
    · obtain ⟨s10, hV⟩ := hV.2 h9
      refine q_T.c2 (ci := 9) rfl ⟨by decide, by decide⟩ ⟨by decide, by decide⟩ (by decide) (by decide) rfl (List.mem_of_getElem? (i := 295) (by decide +kernel)) (List.mem_of_getElem? (i := 296) (by decide +kernel)) (List.mem_of_getElem? (i := 0) rfl) (List.mem_of_getElem? (i := 2) rfl) s10 ?_
      show q_G l cx M_LW_pad 8 512 0 0 25 [(0, .inr (.inr x0)), (1, .inl x1), (2, .inl x2), (3, .inr (.inl x3)), (5, .inr (.inl x5)), (7, .inr (.inl x7)), (9, .inr (.inl x9)), (11, .inr (.inr x11))] [.inr (.inr n2)] σ3 R
      refine q_run k_LW_pad 16 2 28 rfl ?_
      show q_G l cx M_LW_pad 8 512 0 0 28 [(12, .inr (.inr n2)), (0, .inr (.inr x0)), (1, .inl x1), (2, .inl x2), (3, .inr (.inl x3)), (5, .inr (.inl x5)), (7, .inr (.inl x7)), (9, .inr (.inl x9)), (11, .inr (.inr x11))] [.inl (2 : Int32)] σ3 R
      exact q_ireturn (q_dc k_LW_pad 18 rfl) rfl hV
def V_LW_rings (x0 : Nat) (x1 : Int32) (x2 : Int32) (x3 : Nat) (σ : q_S) (R : q_O → q_S → Prop) : Prop :=
  q_K σ x0 = 1 ∧ V_PF_rings x0 x1 x2 σ (q_ci (fun v4 σ5 => q_K σ5 x3 = 1001 ∧ vp_in (0 : Int32) (q_Z σ5 x3) ∧ ∀ σ6 : q_S, σ6 = q_wL σ5 x3 (0 : Int32).toNatClampNeg v4.toInt64 → R (.inl (some (.inl (0 : Int32)))) σ6) (fun n2 σ3 => q_K σ3 n2 = 9 ∧ R (.inl (some (.inl (1 : Int32)))) σ3))
set_option maxRecDepth 100000 in
theorem t_LW_rings {l : Launch} {cx : q_C} {x0 : Nat} {x1 : Int32} {x2 : Int32} {x3 : Nat} {σ : q_S} {R : q_O → q_S → Prop} (hlf : l.flags = pinnedFlags ++ [noTraceFlag]) (hV : V_LW_rings x0 x1 x2 x3 σ R) : q_Ct l cx M_LW_rings 8 512 2 12 [q_r x0, q_i x1, q_i x2, q_r x3] σ R := by
  refine q_Ct.ofW p_LW_rings c_LW_rings (Nat.le_of_ble_eq_true rfl) ?_
  refine q_run k_LW_rings 0 5 5 rfl ?_
  show q_G l cx M_LW_rings 8 512 2 12 5 [(0, .inr (.inr x0)), (1, .inl x1), (2, .inl x2), (3, .inr (.inr x3))] [.inl x2, .inl x1, .inr (.inr x0), .inl (0 : Int32), .inr (.inr x3)] σ R
  obtain ⟨s1, hV⟩ := hV
  refine q_less (kc' := 0 + 2) (ks' := 0 + 12) (Nat.le_of_ble_eq_true rfl) (Nat.le_of_ble_eq_true rfl) ?_
  refine q_callV (st := [.inl (0 : Int32), .inr (.inr x3)]) (as := [.inl x1, .inl x2]) (t_PF_rings (l := l) (cx := cx) hlf hV) (q_dc k_LW_rings 5 rfl) (Or.inl (List.mem_of_getElem? (i := 770) (by decide +kernel))) w_PF_rings n_PF_rings (ci := 0) rfl e_PF_rings a_PF_rings (q_wt (Nat.le_of_ble_eq_true rfl)) ⟨Nat.le_of_ble_eq_true rfl, Nat.le_of_ble_eq_true rfl⟩ s1 (fun v9 τ9 q9 => ?_) (fun n2 σ3 q9 => ?_)
  · have q9 := q9
    obtain ⟨v4, rfl, hV⟩ := q_ci_elim q9
    clear q9
    have hV := hV
    revert hV
    generalize τ9 = σ5
    intro hV
    show q_G l cx M_LW_rings 8 512 0 0 8 [(0, .inr (.inr x0)), (1, .inl x1), (2, .inl x2), (3, .inr (.inr x3))] [.inl v4, .inl (0 : Int32), .inr (.inr x3)] σ5 R
    refine q_run k_LW_rings 6 2 10 rfl ?_
    show q_K σ5 x3 = 1001 ∧ vp_in (0 : Int32) (q_Z σ5 x3) ∧ q_G l cx M_LW_rings 8 512 0 0 10 [(0, .inr (.inr x0)), (1, .inl x1), (2, .inl x2), (3, .inr (.inr x3))] [] (q_wL σ5 x3 (0 : Int32).toNatClampNeg v4.toInt64) R
    obtain ⟨s7, s8, hV⟩ := hV
    refine ⟨s7, s8, ?_⟩
    refine q_let (fun σ6 => q_G l cx M_LW_rings 8 512 0 0 10 [(0, .inr (.inr x0)), (1, .inl x1), (2, .inl x2), (3, .inr (.inr x3))] [] σ6 R) (q_wL σ5 x3 (0 : Int32).toNatClampNeg v4.toInt64) (fun σ6 e_σ6 => ?_)
    have hV := hV σ6 e_σ6
    refine q_goto (q_dc k_LW_rings 8 rfl) rfl ?_
    refine q_run k_LW_rings 12 1 18 rfl ?_
    show q_G l cx M_LW_rings 8 512 0 0 18 [(0, .inr (.inr x0)), (1, .inl x1), (2, .inl x2), (3, .inr (.inr x3))] [.inl (0 : Int32)] σ6 R
    exact q_ireturn (q_dc k_LW_rings 13 rfl) rfl hV
  · have hV := q_ci_x q9
    obtain ⟨s9, hV⟩ := hV
    refine q_T.c1 (ci := 8) rfl ⟨by decide, by decide⟩ (by decide) rfl (List.mem_of_getElem? (i := 295) (by decide +kernel)) (List.mem_of_getElem? (i := 1) rfl) s9 ?_
    show q_G l cx M_LW_rings 8 512 0 0 13 [(0, .inr (.inr x0)), (1, .inl x1), (2, .inl x2), (3, .inr (.inr x3))] [.inr (.inr n2)] σ3 R
    refine q_run k_LW_rings 9 2 16 rfl ?_
    show q_G l cx M_LW_rings 8 512 0 0 16 [(4, .inr (.inr n2)), (0, .inr (.inr x0)), (1, .inl x1), (2, .inl x2), (3, .inr (.inr x3))] [.inl (1 : Int32)] σ3 R
    exact q_ireturn (q_dc k_LW_rings 11 rfl) rfl hV
def V_LW_at (x0 : Nat) (x1 : Int32) (x2 : Int32) (x3 : Int32) (x4 : Int32) (x5 : Int32) (x6 : Nat) (σ : q_S) (R : q_O → q_S → Prop) : Prop :=
  q_K σ x0 = 1 ∧ V_PF_at x0 x1 x2 x3 x4 x5 σ (q_cl' (fun v4 σ5 => q_K σ5 x6 = 1001 ∧ vp_in (0 : Int32) (q_Z σ5 x6) ∧ ∀ σ6 : q_S, σ6 = q_wL σ5 x6 (0 : Int32).toNatClampNeg v4 → R (.inl (some (.inl (0 : Int32)))) σ6) (fun n2 σ3 => q_K σ3 n2 = 9 ∧ R (.inl (some (.inl (1 : Int32)))) σ3))
set_option maxRecDepth 100000 in
theorem t_LW_at {l : Launch} {cx : q_C} {x0 : Nat} {x1 : Int32} {x2 : Int32} {x3 : Int32} {x4 : Int32} {x5 : Int32} {x6 : Nat} {σ : q_S} {R : q_O → q_S → Prop} (hlf : l.flags = pinnedFlags ++ [noTraceFlag]) (hV : V_LW_at x0 x1 x2 x3 x4 x5 x6 σ R) : q_Ct l cx M_LW_at 8 512 2 12 [q_r x0, q_i x1, q_i x2, q_i x3, q_i x4, q_i x5, q_r x6] σ R := by
  refine q_Ct.ofW p_LW_at c_LW_at (Nat.le_of_ble_eq_true rfl) ?_
  refine q_run k_LW_at 0 8 11 rfl ?_
  show q_G l cx M_LW_at 8 512 2 12 11 [(0, .inr (.inr x0)), (1, .inl x1), (2, .inl x2), (3, .inl x3), (4, .inl x4), (5, .inl x5), (6, .inr (.inr x6))] [.inl x5, .inl x4, .inl x3, .inl x2, .inl x1, .inr (.inr x0), .inl (0 : Int32), .inr (.inr x6)] σ R
  obtain ⟨s1, hV⟩ := hV
  refine q_less (kc' := 0 + 2) (ks' := 0 + 12) (Nat.le_of_ble_eq_true rfl) (Nat.le_of_ble_eq_true rfl) ?_
  refine q_callV (st := [.inl (0 : Int32), .inr (.inr x6)]) (as := [.inl x1, .inl x2, .inl x3, .inl x4, .inl x5]) (t_PF_at (l := l) (cx := cx) hlf hV) (q_dc k_LW_at 8 rfl) (Or.inl (List.mem_of_getElem? (i := 788) (by decide +kernel))) w_PF_at n_PF_at (ci := 0) rfl e_PF_at a_PF_at (q_wt (Nat.le_of_ble_eq_true rfl)) ⟨Nat.le_of_ble_eq_true rfl, Nat.le_of_ble_eq_true rfl⟩ s1 (fun v9 τ9 q9 => ?_) (fun n2 σ3 q9 => ?_)
  · have q9 := q9
    obtain ⟨v4, rfl, hV⟩ := q_cl_elim q9
    clear q9
    have hV := hV
    revert hV
    generalize τ9 = σ5
    intro hV
    show q_G l cx M_LW_at 8 512 0 0 14 [(0, .inr (.inr x0)), (1, .inl x1), (2, .inl x2), (3, .inl x3), (4, .inl x4), (5, .inl x5), (6, .inr (.inr x6))] [.inr (.inl v4), .inl (0 : Int32), .inr (.inr x6)] σ5 R
    refine q_run k_LW_at 9 1 15 rfl ?_
    show q_K σ5 x6 = 1001 ∧ vp_in (0 : Int32) (q_Z σ5 x6) ∧ q_G l cx M_LW_at 8 512 0 0 15 [(0, .inr (.inr x0)), (1, .inl x1), (2, .inl x2), (3, .inl x3), (4, .inl x4), (5, .inl x5), (6, .inr (.inr x6))] [] (q_wL σ5 x6 (0 : Int32).toNatClampNeg v4) R
    obtain ⟨s7, s8, hV⟩ := hV
    refine ⟨s7, s8, ?_⟩
    refine q_let (fun σ6 => q_G l cx M_LW_at 8 512 0 0 15 [(0, .inr (.inr x0)), (1, .inl x1), (2, .inl x2), (3, .inl x3), (4, .inl x4), (5, .inl x5), (6, .inr (.inr x6))] [] σ6 R) (q_wL σ5 x6 (0 : Int32).toNatClampNeg v4) (fun σ6 e_σ6 => ?_)
    have hV := hV σ6 e_σ6
    refine q_goto (q_dc k_LW_at 10 rfl) rfl ?_
    refine q_run k_LW_at 14 1 23 rfl ?_
    show q_G l cx M_LW_at 8 512 0 0 23 [(0, .inr (.inr x0)), (1, .inl x1), (2, .inl x2), (3, .inl x3), (4, .inl x4), (5, .inl x5), (6, .inr (.inr x6))] [.inl (0 : Int32)] σ6 R
    exact q_ireturn (q_dc k_LW_at 15 rfl) rfl hV
  · have hV := q_cl_x q9
    obtain ⟨s9, hV⟩ := hV
    refine q_T.c1 (ci := 8) rfl ⟨by decide, by decide⟩ (by decide) rfl (List.mem_of_getElem? (i := 295) (by decide +kernel)) (List.mem_of_getElem? (i := 1) rfl) s9 ?_
    show q_G l cx M_LW_at 8 512 0 0 18 [(0, .inr (.inr x0)), (1, .inl x1), (2, .inl x2), (3, .inl x3), (4, .inl x4), (5, .inl x5), (6, .inr (.inr x6))] [.inr (.inr n2)] σ3 R
    refine q_run k_LW_at 11 2 21 rfl ?_
    show q_G l cx M_LW_at 8 512 0 0 21 [(7, .inr (.inr n2)), (0, .inr (.inr x0)), (1, .inl x1), (2, .inl x2), (3, .inl x3), (4, .inl x4), (5, .inl x5), (6, .inr (.inr x6))] [.inl (1 : Int32)] σ3 R
    exact q_ireturn (q_dc k_LW_at 13 rfl) rfl hV
def V_LW_in (x0 : Nat) (x1 : Int32) (x2 : Int64) (x4 : Int64) (x6 : Nat) (σ : q_S) (R : q_O → q_S → Prop) : Prop :=
  ∀ (P19 : Int64 → Int32 → Nat → q_S → Prop),
  (∀ (y0 : Int64) (y1 : Int32) (y2 : Nat) (σ : q_S), (q_K σ y2 = 1001 ∧ vp_in y1 (q_Z σ y2) ∧ ∀ σ1 : q_S, σ1 = q_wL σ y2 y1.toNatClampNeg y0 → R (.inl (some (.inl (0 : Int32)))) σ1) → P19 y0 y1 y2 σ) →
  q_K σ x0 = 1 ∧ V_PF_in x0 x1 x2 x4 σ (q_ci (fun v4 σ5 => ((v4 = (0 : Int32) → P19 (0 : Int64) (0 : Int32) x6 σ5) ∧ (¬ (v4 = (0 : Int32)) → P19 (1 : Int64) (0 : Int32) x6 σ5))) (fun n2 σ3 => q_K σ3 n2 = 9 ∧ R (.inl (some (.inl (1 : Int32)))) σ3))
set_option maxRecDepth 100000 in
theorem t_LW_in {l : Launch} {cx : q_C} {x0 : Nat} {x1 : Int32} {x2 : Int64} {x4 : Int64} {x6 : Nat} {σ : q_S} {R : q_O → q_S → Prop} (hlf : l.flags = pinnedFlags ++ [noTraceFlag]) (hV : V_LW_in x0 x1 x2 x4 x6 σ R) : q_Ct l cx M_LW_in 8 512 1 6 [q_r x0, q_i x1, q_l x2, q_l x4, q_r x6] σ R := by
  refine q_Ct.ofW p_LW_in c_LW_in (Nat.le_of_ble_eq_true rfl) ?_
  have hV := hV (fun (y0 : Int64) (y1 : Int32) (y2 : Nat) (σ : q_S) => q_G l cx M_LW_in 8 512 0 0 19 [] [.inr (.inl y0), .inl y1, .inr (.inr y2)] σ R)
  have hV := hV (by
      intro y0 y1 y2 σ hV
      show q_G l cx M_LW_in 8 512 0 0 19 [] [.inr (.inl y0), .inl y1, .inr (.inr y2)] σ R
      refine q_run k_LW_in 11 1 20 rfl ?_
      show q_K σ y2 = 1001 ∧ vp_in y1 (q_Z σ y2) ∧ q_G l cx M_LW_in 8 512 0 0 20 [] [] (q_wL σ y2 y1.toNatClampNeg y0) R
      obtain ⟨s2, s3, hV⟩ := hV
      refine ⟨s2, s3, ?_⟩
      refine q_let (fun σ1 => q_G l cx M_LW_in 8 512 0 0 20 [] [] σ1 R) (q_wL σ y2 y1.toNatClampNeg y0) (fun σ1 e_σ1 => ?_)
      have hV := hV σ1 e_σ1
      refine q_goto (q_dc k_LW_in 12 rfl) rfl ?_
      refine q_run k_LW_in 16 1 28 rfl ?_
      show q_G l cx M_LW_in 8 512 0 0 28 [] [.inl (0 : Int32)] σ1 R
      exact q_ireturn (q_dc k_LW_in 17 rfl) rfl hV)
  refine q_run k_LW_in 0 6 8 rfl ?_
  show q_G l cx M_LW_in 8 512 1 6 8 [(0, .inr (.inr x0)), (1, .inl x1), (2, .inr (.inl x2)), (4, .inr (.inl x4)), (6, .inr (.inr x6))] [.inr (.inl x4), .inr (.inl x2), .inl x1, .inr (.inr x0), .inl (0 : Int32), .inr (.inr x6)] σ R
  obtain ⟨s1, hV⟩ := hV
  refine q_less (kc' := 0 + 1) (ks' := 0 + 6) (Nat.le_of_ble_eq_true rfl) (Nat.le_of_ble_eq_true rfl) ?_
  refine q_callV (st := [.inl (0 : Int32), .inr (.inr x6)]) (as := [.inl x1, .inr (.inl x2), .inr (.inl x4)]) (t_PF_in (l := l) (cx := cx) hlf hV) (q_dc k_LW_in 6 rfl) (Or.inl (List.mem_of_getElem? (i := 808) (by decide +kernel))) w_PF_in n_PF_in (ci := 0) rfl e_PF_in a_PF_in (q_wt (Nat.le_of_ble_eq_true rfl)) ⟨Nat.le_of_ble_eq_true rfl, Nat.le_of_ble_eq_true rfl⟩ s1 (fun v9 τ9 q9 => ?_) (fun n2 σ3 q9 => ?_)
  · have q9 := q9
    obtain ⟨v4, rfl, hV⟩ := q_ci_elim q9
    clear q9
    have hV := hV
    revert hV
    generalize τ9 = σ5
    intro hV
    show q_G l cx M_LW_in 8 512 0 0 11 [(0, .inr (.inr x0)), (1, .inl x1), (2, .inr (.inl x2)), (4, .inr (.inl x4)), (6, .inr (.inr x6))] [.inl v4, .inl (0 : Int32), .inr (.inr x6)] σ5 R
    refine q_ifz (q_dc k_LW_in 7 rfl) rfl (fun h6 => ?_) (fun h6 => ?_)
    · have hV := hV.1 h6
      refine q_run k_LW_in 10 1 19 rfl ?_
      show q_G l cx M_LW_in 8 512 0 0 19 [(0, .inr (.inr x0)), (1, .inl x1), (2, .inr (.inl x2)), (4, .inr (.inl x4)), (6, .inr (.inr x6))] [.inr (.inl (0 : Int64)), .inl (0 : Int32), .inr (.inr x6)] σ5 R
      exact q_less (Nat.le_of_ble_eq_true rfl) (Nat.le_of_ble_eq_true rfl) (q_subk [] rfl hV)
    · have hV := hV.2 h6
      refine q_run k_LW_in 8 1 15 rfl ?_
      show q_G l cx M_LW_in 8 512 0 0 15 [(0, .inr (.inr x0)), (1, .inl x1), (2, .inr (.inl x2)), (4, .inr (.inl x4)), (6, .inr (.inr x6))] [.inr (.inl (1 : Int64)), .inl (0 : Int32), .inr (.inr x6)] σ5 R
      refine q_goto (q_dc k_LW_in 9 rfl) rfl ?_
      exact q_less (Nat.le_of_ble_eq_true rfl) (Nat.le_of_ble_eq_true rfl) (q_subk [] rfl hV)
  · have hV := q_ci_x q9
    obtain ⟨s7, hV⟩ := hV
    refine q_T.c1 (ci := 8) rfl ⟨by decide, by decide⟩ (by decide) rfl (List.mem_of_getElem? (i := 295) (by decide +kernel)) (List.mem_of_getElem? (i := 1) rfl) s7 ?_
    show q_G l cx M_LW_in 8 512 0 0 23 [(0, .inr (.inr x0)), (1, .inl x1), (2, .inr (.inl x2)), (4, .inr (.inl x4)), (6, .inr (.inr x6))] [.inr (.inr n2)] σ3 R
    refine q_run k_LW_in 13 2 26 rfl ?_
    show q_G l cx M_LW_in 8 512 0 0 26 [(7, .inr (.inr n2)), (0, .inr (.inr x0)), (1, .inl x1), (2, .inr (.inl x2)), (4, .inr (.inl x4)), (6, .inr (.inr x6))] [.inl (1 : Int32)] σ3 R
    exact q_ireturn (q_dc k_LW_in 15 rfl) rfl hV
def V_LW_islands (x0 : Nat) (x1 : Int32) (x2 : Nat) (σ : q_S) (R : q_O → q_S → Prop) : Prop :=
  q_K σ x0 = 1 ∧ V_PF_islands x0 x1 σ (q_ci (fun v4 σ5 => q_K σ5 x2 = 1001 ∧ vp_in (0 : Int32) (q_Z σ5 x2) ∧ ∀ σ6 : q_S, σ6 = q_wL σ5 x2 (0 : Int32).toNatClampNeg v4.toInt64 → R (.inl (some (.inl (0 : Int32)))) σ6) (fun n2 σ3 => q_K σ3 n2 = 9 ∧ R (.inl (some (.inl (1 : Int32)))) σ3))
set_option maxRecDepth 100000 in
theorem t_LW_islands {l : Launch} {cx : q_C} {x0 : Nat} {x1 : Int32} {x2 : Nat} {σ : q_S} {R : q_O → q_S → Prop} (hlf : l.flags = pinnedFlags ++ [noTraceFlag]) (hV : V_LW_islands x0 x1 x2 σ R) : q_Ct l cx M_LW_islands 8 512 1 6 [q_r x0, q_i x1, q_r x2] σ R := by
  refine q_Ct.ofW p_LW_islands c_LW_islands (Nat.le_of_ble_eq_true rfl) ?_
  refine q_run k_LW_islands 0 4 4 rfl ?_
  show q_G l cx M_LW_islands 8 512 1 6 4 [(0, .inr (.inr x0)), (1, .inl x1), (2, .inr (.inr x2))] [.inl x1, .inr (.inr x0), .inl (0 : Int32), .inr (.inr x2)] σ R
  obtain ⟨s1, hV⟩ := hV
  refine q_less (kc' := 0 + 1) (ks' := 0 + 6) (Nat.le_of_ble_eq_true rfl) (Nat.le_of_ble_eq_true rfl) ?_
  refine q_callV (st := [.inl (0 : Int32), .inr (.inr x2)]) (as := [.inl x1]) (t_PF_islands (l := l) (cx := cx) hlf hV) (q_dc k_LW_islands 4 rfl) (Or.inl (List.mem_of_getElem? (i := 815) (by decide +kernel))) w_PF_islands n_PF_islands (ci := 0) rfl e_PF_islands a_PF_islands (q_wt (Nat.le_of_ble_eq_true rfl)) ⟨Nat.le_of_ble_eq_true rfl, Nat.le_of_ble_eq_true rfl⟩ s1 (fun v9 τ9 q9 => ?_) (fun n2 σ3 q9 => ?_)
  · have q9 := q9
    obtain ⟨v4, rfl, hV⟩ := q_ci_elim q9
    clear q9
    have hV := hV
    revert hV
    generalize τ9 = σ5
    intro hV
    show q_G l cx M_LW_islands 8 512 0 0 7 [(0, .inr (.inr x0)), (1, .inl x1), (2, .inr (.inr x2))] [.inl v4, .inl (0 : Int32), .inr (.inr x2)] σ5 R
    refine q_run k_LW_islands 5 2 9 rfl ?_
    show q_K σ5 x2 = 1001 ∧ vp_in (0 : Int32) (q_Z σ5 x2) ∧ q_G l cx M_LW_islands 8 512 0 0 9 [(0, .inr (.inr x0)), (1, .inl x1), (2, .inr (.inr x2))] [] (q_wL σ5 x2 (0 : Int32).toNatClampNeg v4.toInt64) R
    obtain ⟨s7, s8, hV⟩ := hV
    refine ⟨s7, s8, ?_⟩
    refine q_let (fun σ6 => q_G l cx M_LW_islands 8 512 0 0 9 [(0, .inr (.inr x0)), (1, .inl x1), (2, .inr (.inr x2))] [] σ6 R) (q_wL σ5 x2 (0 : Int32).toNatClampNeg v4.toInt64) (fun σ6 e_σ6 => ?_)
    have hV := hV σ6 e_σ6
    refine q_goto (q_dc k_LW_islands 7 rfl) rfl ?_
    refine q_run k_LW_islands 11 1 16 rfl ?_
    show q_G l cx M_LW_islands 8 512 0 0 16 [(0, .inr (.inr x0)), (1, .inl x1), (2, .inr (.inr x2))] [.inl (0 : Int32)] σ6 R
    exact q_ireturn (q_dc k_LW_islands 12 rfl) rfl hV
  · have hV := q_ci_x q9
    obtain ⟨s9, hV⟩ := hV
    refine q_T.c1 (ci := 8) rfl ⟨by decide, by decide⟩ (by decide) rfl (List.mem_of_getElem? (i := 295) (by decide +kernel)) (List.mem_of_getElem? (i := 1) rfl) s9 ?_
    show q_G l cx M_LW_islands 8 512 0 0 12 [(0, .inr (.inr x0)), (1, .inl x1), (2, .inr (.inr x2))] [.inr (.inr n2)] σ3 R
    refine q_run k_LW_islands 8 2 14 rfl ?_
    show q_G l cx M_LW_islands 8 512 0 0 14 [(3, .inr (.inr n2)), (0, .inr (.inr x0)), (1, .inl x1), (2, .inr (.inr x2))] [.inl (1 : Int32)] σ3 R
    exact q_ireturn (q_dc k_LW_islands 10 rfl) rfl hV
def V_LW_spoke (x0 : Nat) (x1 : Int32) (x2 : Int32) (x3 : Int32) (x4 : Nat) (σ : q_S) (R : q_O → q_S → Prop) : Prop :=
  q_K σ x0 = 1 ∧ V_PF_spoke x0 x1 x2 x3 σ (q_ci (fun v4 σ5 => q_K σ5 x4 = 1001 ∧ vp_in (0 : Int32) (q_Z σ5 x4) ∧ ∀ σ6 : q_S, σ6 = q_wL σ5 x4 (0 : Int32).toNatClampNeg v4.toInt64 → R (.inl (some (.inl (0 : Int32)))) σ6) (fun n2 σ3 => q_K σ3 n2 = 9 ∧ R (.inl (some (.inl (1 : Int32)))) σ3))
set_option maxRecDepth 100000 in
theorem t_LW_spoke {l : Launch} {cx : q_C} {x0 : Nat} {x1 : Int32} {x2 : Int32} {x3 : Int32} {x4 : Nat} {σ : q_S} {R : q_O → q_S → Prop} (hlf : l.flags = pinnedFlags ++ [noTraceFlag]) (hV : V_LW_spoke x0 x1 x2 x3 x4 σ R) : q_Ct l cx M_LW_spoke 7 448 1 6 [q_r x0, q_i x1, q_i x2, q_i x3, q_r x4] σ R := by
  refine q_Ct.ofW p_LW_spoke c_LW_spoke (Nat.le_of_ble_eq_true rfl) ?_
  refine q_run k_LW_spoke 0 6 7 rfl ?_
  show q_G l cx M_LW_spoke 7 448 1 6 7 [(0, .inr (.inr x0)), (1, .inl x1), (2, .inl x2), (3, .inl x3), (4, .inr (.inr x4))] [.inl x3, .inl x2, .inl x1, .inr (.inr x0), .inl (0 : Int32), .inr (.inr x4)] σ R
  obtain ⟨s1, hV⟩ := hV
  refine q_less (kc' := 0 + 1) (ks' := 0 + 6) (Nat.le_of_ble_eq_true rfl) (Nat.le_of_ble_eq_true rfl) ?_
  refine q_callV (st := [.inl (0 : Int32), .inr (.inr x4)]) (as := [.inl x1, .inl x2, .inl x3]) (t_PF_spoke (l := l) (cx := cx) hlf hV) (q_dc k_LW_spoke 6 rfl) (Or.inl (List.mem_of_getElem? (i := 822) (by decide +kernel))) w_PF_spoke n_PF_spoke (ci := 0) rfl e_PF_spoke a_PF_spoke (q_wt (Nat.le_of_ble_eq_true rfl)) ⟨Nat.le_of_ble_eq_true rfl, Nat.le_of_ble_eq_true rfl⟩ s1 (fun v9 τ9 q9 => ?_) (fun n2 σ3 q9 => ?_)
  · have q9 := q9
    obtain ⟨v4, rfl, hV⟩ := q_ci_elim q9
    clear q9
    have hV := hV
    revert hV
    generalize τ9 = σ5
    intro hV
    show q_G l cx M_LW_spoke 7 448 0 0 10 [(0, .inr (.inr x0)), (1, .inl x1), (2, .inl x2), (3, .inl x3), (4, .inr (.inr x4))] [.inl v4, .inl (0 : Int32), .inr (.inr x4)] σ5 R
    refine q_run k_LW_spoke 7 2 12 rfl ?_
    show q_K σ5 x4 = 1001 ∧ vp_in (0 : Int32) (q_Z σ5 x4) ∧ q_G l cx M_LW_spoke 7 448 0 0 12 [(0, .inr (.inr x0)), (1, .inl x1), (2, .inl x2), (3, .inl x3), (4, .inr (.inr x4))] [] (q_wL σ5 x4 (0 : Int32).toNatClampNeg v4.toInt64) R
    obtain ⟨s7, s8, hV⟩ := hV
    refine ⟨s7, s8, ?_⟩
    refine q_let (fun σ6 => q_G l cx M_LW_spoke 7 448 0 0 12 [(0, .inr (.inr x0)), (1, .inl x1), (2, .inl x2), (3, .inl x3), (4, .inr (.inr x4))] [] σ6 R) (q_wL σ5 x4 (0 : Int32).toNatClampNeg v4.toInt64) (fun σ6 e_σ6 => ?_)
    have hV := hV σ6 e_σ6
    refine q_goto (q_dc k_LW_spoke 9 rfl) rfl ?_
    refine q_run k_LW_spoke 13 1 20 rfl ?_
    show q_G l cx M_LW_spoke 7 448 0 0 20 [(0, .inr (.inr x0)), (1, .inl x1), (2, .inl x2), (3, .inl x3), (4, .inr (.inr x4))] [.inl (0 : Int32)] σ6 R
    exact q_ireturn (q_dc k_LW_spoke 14 rfl) rfl hV
  · have hV := q_ci_x q9
    obtain ⟨s9, hV⟩ := hV
    refine q_T.c1 (ci := 8) rfl ⟨by decide, by decide⟩ (by decide) rfl (List.mem_of_getElem? (i := 295) (by decide +kernel)) (List.mem_of_getElem? (i := 1) rfl) s9 ?_
    show q_G l cx M_LW_spoke 7 448 0 0 15 [(0, .inr (.inr x0)), (1, .inl x1), (2, .inl x2), (3, .inl x3), (4, .inr (.inr x4))] [.inr (.inr n2)] σ3 R
    refine q_run k_LW_spoke 10 2 18 rfl ?_
    show q_G l cx M_LW_spoke 7 448 0 0 18 [(5, .inr (.inr n2)), (0, .inr (.inr x0)), (1, .inl x1), (2, .inl x2), (3, .inl x3), (4, .inr (.inr x4))] [.inl (1 : Int32)] σ3 R
    exact q_ireturn (q_dc k_LW_spoke 12 rfl) rfl hV
def V_LW_stitch (x0 : Nat) (x1 : Int32) (x2 : Int64) (x4 : Nat) (σ : q_S) (R : q_O → q_S → Prop) : Prop :=
  q_K σ x0 = 1 ∧ V_PF_stitch x0 x1 x2 σ (q_ci (fun v4 σ5 => q_K σ5 x4 = 1001 ∧ vp_in (0 : Int32) (q_Z σ5 x4) ∧ ∀ σ6 : q_S, σ6 = q_wL σ5 x4 (0 : Int32).toNatClampNeg v4.toInt64 → R (.inl (some (.inl (0 : Int32)))) σ6) (fun n2 σ3 => q_K σ3 n2 = 10 ∧ R (.inl (some (.inl (1 : Int32)))) σ3))
set_option maxRecDepth 100000 in
theorem t_LW_stitch {l : Launch} {cx : q_C} {x0 : Nat} {x1 : Int32} {x2 : Int64} {x4 : Nat} {σ : q_S} {R : q_O → q_S → Prop} (hlf : l.flags = pinnedFlags ++ [noTraceFlag]) (hV : V_LW_stitch x0 x1 x2 x4 σ R) : q_Ct l cx M_LW_stitch 8 512 2 12 [q_r x0, q_i x1, q_l x2, q_r x4] σ R := by
  refine q_Ct.ofW p_LW_stitch c_LW_stitch (Nat.le_of_ble_eq_true rfl) ?_
  refine q_run k_LW_stitch 0 5 6 rfl ?_
  show q_G l cx M_LW_stitch 8 512 2 12 6 [(0, .inr (.inr x0)), (1, .inl x1), (2, .inr (.inl x2)), (4, .inr (.inr x4))] [.inr (.inl x2), .inl x1, .inr (.inr x0), .inl (0 : Int32), .inr (.inr x4)] σ R
  obtain ⟨s1, hV⟩ := hV
  refine q_less (kc' := 0 + 2) (ks' := 0 + 12) (Nat.le_of_ble_eq_true rfl) (Nat.le_of_ble_eq_true rfl) ?_
  refine q_callV (st := [.inl (0 : Int32), .inr (.inr x4)]) (as := [.inl x1, .inr (.inl x2)]) (t_PF_stitch (l := l) (cx := cx) hlf hV) (q_dc k_LW_stitch 5 rfl) (Or.inl (List.mem_of_getElem? (i := 841) (by decide +kernel))) w_PF_stitch n_PF_stitch (ci := 0) rfl e_PF_stitch a_PF_stitch (q_wt (Nat.le_of_ble_eq_true rfl)) ⟨Nat.le_of_ble_eq_true rfl, Nat.le_of_ble_eq_true rfl⟩ s1 (fun v9 τ9 q9 => ?_) (fun n2 σ3 q9 => ?_)
  · have q9 := q9
    obtain ⟨v4, rfl, hV⟩ := q_ci_elim q9
    clear q9
    have hV := hV
    revert hV
    generalize τ9 = σ5
    intro hV
    show q_G l cx M_LW_stitch 8 512 0 0 9 [(0, .inr (.inr x0)), (1, .inl x1), (2, .inr (.inl x2)), (4, .inr (.inr x4))] [.inl v4, .inl (0 : Int32), .inr (.inr x4)] σ5 R
    refine q_run k_LW_stitch 6 2 11 rfl ?_
    show q_K σ5 x4 = 1001 ∧ vp_in (0 : Int32) (q_Z σ5 x4) ∧ q_G l cx M_LW_stitch 8 512 0 0 11 [(0, .inr (.inr x0)), (1, .inl x1), (2, .inr (.inl x2)), (4, .inr (.inr x4))] [] (q_wL σ5 x4 (0 : Int32).toNatClampNeg v4.toInt64) R
    obtain ⟨s7, s8, hV⟩ := hV
    refine ⟨s7, s8, ?_⟩
    refine q_let (fun σ6 => q_G l cx M_LW_stitch 8 512 0 0 11 [(0, .inr (.inr x0)), (1, .inl x1), (2, .inr (.inl x2)), (4, .inr (.inr x4))] [] σ6 R) (q_wL σ5 x4 (0 : Int32).toNatClampNeg v4.toInt64) (fun σ6 e_σ6 => ?_)
    have hV := hV σ6 e_σ6
    refine q_goto (q_dc k_LW_stitch 8 rfl) rfl ?_
    refine q_run k_LW_stitch 12 1 19 rfl ?_
    show q_G l cx M_LW_stitch 8 512 0 0 19 [(0, .inr (.inr x0)), (1, .inl x1), (2, .inr (.inl x2)), (4, .inr (.inr x4))] [.inl (0 : Int32)] σ6 R
    exact q_ireturn (q_dc k_LW_stitch 13 rfl) rfl hV
  · have hV := q_ci_x q9
    obtain ⟨s9, hV⟩ := hV
    refine q_T.c1 (ci := 9) rfl ⟨by decide, by decide⟩ (by decide) rfl (List.mem_of_getElem? (i := 296) (by decide +kernel)) (List.mem_of_getElem? (i := 2) rfl) s9 ?_
    show q_G l cx M_LW_stitch 8 512 0 0 14 [(0, .inr (.inr x0)), (1, .inl x1), (2, .inr (.inl x2)), (4, .inr (.inr x4))] [.inr (.inr n2)] σ3 R
    refine q_run k_LW_stitch 9 2 17 rfl ?_
    show q_G l cx M_LW_stitch 8 512 0 0 17 [(5, .inr (.inr n2)), (0, .inr (.inr x0)), (1, .inl x1), (2, .inr (.inl x2)), (4, .inr (.inr x4))] [.inl (1 : Int32)] σ3 R
    exact q_ireturn (q_dc k_LW_stitch 11 rfl) rfl hV
def V_LW_hatch (x0 : Nat) (x1 : Int32) (x2 : Int64) (x4 : Int64) (x6 : Nat) (σ : q_S) (R : q_O → q_S → Prop) : Prop :=
  ∀ (P19 : Int64 → Int32 → Nat → q_S → Prop),
  (∀ (y0 : Int64) (y1 : Int32) (y2 : Nat) (σ : q_S), (q_K σ y2 = 1001 ∧ vp_in y1 (q_Z σ y2) ∧ ∀ σ1 : q_S, σ1 = q_wL σ y2 y1.toNatClampNeg y0 → R (.inl (some (.inl (0 : Int32)))) σ1) → P19 y0 y1 y2 σ) →
  q_K σ x0 = 1 ∧ V_PF_hatch x0 x1 x2 x4 σ (q_ci (fun v4 σ5 => ((v4 = (0 : Int32) → P19 (0 : Int64) (0 : Int32) x6 σ5) ∧ (¬ (v4 = (0 : Int32)) → P19 (1 : Int64) (0 : Int32) x6 σ5))) (fun n2 σ3 => ((q_K σ3 n2 = 9 → R (.inl (some (.inl (1 : Int32)))) σ3) ∧ (¬ q_K σ3 n2 = 9 → q_K σ3 n2 = 10 ∧ R (.inl (some (.inl (2 : Int32)))) σ3))))
set_option maxRecDepth 100000 in
theorem t_LW_hatch {l : Launch} {cx : q_C} {x0 : Nat} {x1 : Int32} {x2 : Int64} {x4 : Int64} {x6 : Nat} {σ : q_S} {R : q_O → q_S → Prop} (hlf : l.flags = pinnedFlags ++ [noTraceFlag]) (hV : V_LW_hatch x0 x1 x2 x4 x6 σ R) : q_Ct l cx M_LW_hatch 8 512 2 12 [q_r x0, q_i x1, q_l x2, q_l x4, q_r x6] σ R := by
  refine q_Ct.ofW p_LW_hatch c_LW_hatch (Nat.le_of_ble_eq_true rfl) ?_
  have hV := hV (fun (y0 : Int64) (y1 : Int32) (y2 : Nat) (σ : q_S) => q_G l cx M_LW_hatch 8 512 0 0 19 [] [.inr (.inl y0), .inl y1, .inr (.inr y2)] σ R)
  have hV := hV (by
      intro y0 y1 y2 σ hV
      show q_G l cx M_LW_hatch 8 512 0 0 19 [] [.inr (.inl y0), .inl y1, .inr (.inr y2)] σ R
      refine q_run k_LW_hatch 11 1 20 rfl ?_
      show q_K σ y2 = 1001 ∧ vp_in y1 (q_Z σ y2) ∧ q_G l cx M_LW_hatch 8 512 0 0 20 [] [] (q_wL σ y2 y1.toNatClampNeg y0) R
      obtain ⟨s2, s3, hV⟩ := hV
      refine ⟨s2, s3, ?_⟩
      refine q_let (fun σ1 => q_G l cx M_LW_hatch 8 512 0 0 20 [] [] σ1 R) (q_wL σ y2 y1.toNatClampNeg y0) (fun σ1 e_σ1 => ?_)
      have hV := hV σ1 e_σ1
      refine q_goto (q_dc k_LW_hatch 12 rfl) rfl ?_
      refine q_run k_LW_hatch 19 1 32 rfl ?_
      show q_G l cx M_LW_hatch 8 512 0 0 32 [] [.inl (0 : Int32)] σ1 R
      exact q_ireturn (q_dc k_LW_hatch 20 rfl) rfl hV)
  refine q_run k_LW_hatch 0 6 8 rfl ?_
  show q_G l cx M_LW_hatch 8 512 2 12 8 [(0, .inr (.inr x0)), (1, .inl x1), (2, .inr (.inl x2)), (4, .inr (.inl x4)), (6, .inr (.inr x6))] [.inr (.inl x4), .inr (.inl x2), .inl x1, .inr (.inr x0), .inl (0 : Int32), .inr (.inr x6)] σ R
  obtain ⟨s1, hV⟩ := hV
  refine q_less (kc' := 0 + 2) (ks' := 0 + 12) (Nat.le_of_ble_eq_true rfl) (Nat.le_of_ble_eq_true rfl) ?_
  refine q_callV (st := [.inl (0 : Int32), .inr (.inr x6)]) (as := [.inl x1, .inr (.inl x2), .inr (.inl x4)]) (t_PF_hatch (l := l) (cx := cx) hlf hV) (q_dc k_LW_hatch 6 rfl) (Or.inl (List.mem_of_getElem? (i := 852) (by decide +kernel))) w_PF_hatch n_PF_hatch (ci := 0) rfl e_PF_hatch a_PF_hatch (q_wt (Nat.le_of_ble_eq_true rfl)) ⟨Nat.le_of_ble_eq_true rfl, Nat.le_of_ble_eq_true rfl⟩ s1 (fun v9 τ9 q9 => ?_) (fun n2 σ3 q9 => ?_)
  · have q9 := q9
    obtain ⟨v4, rfl, hV⟩ := q_ci_elim q9
    clear q9
    have hV := hV
    revert hV
    generalize τ9 = σ5
    intro hV
    show q_G l cx M_LW_hatch 8 512 0 0 11 [(0, .inr (.inr x0)), (1, .inl x1), (2, .inr (.inl x2)), (4, .inr (.inl x4)), (6, .inr (.inr x6))] [.inl v4, .inl (0 : Int32), .inr (.inr x6)] σ5 R
    refine q_ifz (q_dc k_LW_hatch 7 rfl) rfl (fun h6 => ?_) (fun h6 => ?_)
    · have hV := hV.1 h6
      refine q_run k_LW_hatch 10 1 19 rfl ?_
      show q_G l cx M_LW_hatch 8 512 0 0 19 [(0, .inr (.inr x0)), (1, .inl x1), (2, .inr (.inl x2)), (4, .inr (.inl x4)), (6, .inr (.inr x6))] [.inr (.inl (0 : Int64)), .inl (0 : Int32), .inr (.inr x6)] σ5 R
      exact q_less (Nat.le_of_ble_eq_true rfl) (Nat.le_of_ble_eq_true rfl) (q_subk [] rfl hV)
    · have hV := hV.2 h6
      refine q_run k_LW_hatch 8 1 15 rfl ?_
      show q_G l cx M_LW_hatch 8 512 0 0 15 [(0, .inr (.inr x0)), (1, .inl x1), (2, .inr (.inl x2)), (4, .inr (.inl x4)), (6, .inr (.inr x6))] [.inr (.inl (1 : Int64)), .inl (0 : Int32), .inr (.inr x6)] σ5 R
      refine q_goto (q_dc k_LW_hatch 9 rfl) rfl ?_
      exact q_less (Nat.le_of_ble_eq_true rfl) (Nat.le_of_ble_eq_true rfl) (q_subk [] rfl hV)
  · have hV := q_ci_x q9
    by_cases h7 : q_K σ3 n2 = 9
    · have hV := hV.1 h7
      refine q_T.c1 (ci := 8) rfl ⟨by decide, by decide⟩ (by decide) rfl (List.mem_of_getElem? (i := 295) (by decide +kernel)) (List.mem_of_getElem? (i := 1) rfl) h7 ?_
      show q_G l cx M_LW_hatch 8 512 0 0 23 [(0, .inr (.inr x0)), (1, .inl x1), (2, .inr (.inl x2)), (4, .inr (.inl x4)), (6, .inr (.inr x6))] [.inr (.inr n2)] σ3 R
      refine q_run k_LW_hatch 13 2 26 rfl ?_
      show q_G l cx M_LW_hatch 8 512 0 0 26 [(7, .inr (.inr n2)), (0, .inr (.inr x0)), (1, .inl x1), (2, .inr (.inl x2)), (4, .inr (.inl x4)), (6, .inr (.inr x6))] [.inl (1 : Int32)] σ3 R
      exact q_ireturn (q_dc k_LW_hatch 15 rfl) rfl hV
    · obtain ⟨s8, hV⟩ := hV.2 h7
      refine q_T.c2 (ci := 9) rfl ⟨by decide, by decide⟩ ⟨by decide, by decide⟩ (by decide) (by decide) rfl (List.mem_of_getElem? (i := 295) (by decide +kernel)) (List.mem_of_getElem? (i := 296) (by decide +kernel)) (List.mem_of_getElem? (i := 0) rfl) (List.mem_of_getElem? (i := 2) rfl) s8 ?_
      show q_G l cx M_LW_hatch 8 512 0 0 27 [(0, .inr (.inr x0)), (1, .inl x1), (2, .inr (.inl x2)), (4, .inr (.inl x4)), (6, .inr (.inr x6))] [.inr (.inr n2)] σ3 R
      refine q_run k_LW_hatch 16 2 30 rfl ?_
      show q_G l cx M_LW_hatch 8 512 0 0 30 [(7, .inr (.inr n2)), (0, .inr (.inr x0)), (1, .inl x1), (2, .inr (.inl x2)), (4, .inr (.inl x4)), (6, .inr (.inr x6))] [.inl (2 : Int32)] σ3 R
      exact q_ireturn (q_dc k_LW_hatch 18 rfl) rfl hV
def V_LW_narrow (x0 : Nat) (x1 : Int32) (x2 : Nat) (σ : q_S) (R : q_O → q_S → Prop) : Prop :=
  ∀ (P15 : Int64 → Int32 → Nat → q_S → Prop),
  (∀ (y0 : Int64) (y1 : Int32) (y2 : Nat) (σ : q_S), (q_K σ y2 = 1001 ∧ vp_in y1 (q_Z σ y2) ∧ ∀ σ1 : q_S, σ1 = q_wL σ y2 y1.toNatClampNeg y0 → R (.inl (some (.inl (0 : Int32)))) σ1) → P15 y0 y1 y2 σ) →
  q_K σ x0 = 1 ∧ V_PF_narrow x0 x1 σ (q_ci (fun v4 σ5 => ((v4 = (0 : Int32) → P15 (0 : Int64) (0 : Int32) x2 σ5) ∧ (¬ (v4 = (0 : Int32)) → P15 (1 : Int64) (0 : Int32) x2 σ5))) (fun n2 σ3 => q_K σ3 n2 = 9 ∧ R (.inl (some (.inl (1 : Int32)))) σ3))
set_option maxRecDepth 100000 in
theorem t_LW_narrow {l : Launch} {cx : q_C} {x0 : Nat} {x1 : Int32} {x2 : Nat} {σ : q_S} {R : q_O → q_S → Prop} (hlf : l.flags = pinnedFlags ++ [noTraceFlag]) (hV : V_LW_narrow x0 x1 x2 σ R) : q_Ct l cx M_LW_narrow 8 512 1 6 [q_r x0, q_i x1, q_r x2] σ R := by
  refine q_Ct.ofW p_LW_narrow c_LW_narrow (Nat.le_of_ble_eq_true rfl) ?_
  have hV := hV (fun (y0 : Int64) (y1 : Int32) (y2 : Nat) (σ : q_S) => q_G l cx M_LW_narrow 8 512 0 0 15 [] [.inr (.inl y0), .inl y1, .inr (.inr y2)] σ R)
  have hV := hV (by
      intro y0 y1 y2 σ hV
      show q_G l cx M_LW_narrow 8 512 0 0 15 [] [.inr (.inl y0), .inl y1, .inr (.inr y2)] σ R
      refine q_run k_LW_narrow 9 1 16 rfl ?_
      show q_K σ y2 = 1001 ∧ vp_in y1 (q_Z σ y2) ∧ q_G l cx M_LW_narrow 8 512 0 0 16 [] [] (q_wL σ y2 y1.toNatClampNeg y0) R
      obtain ⟨s2, s3, hV⟩ := hV
      refine ⟨s2, s3, ?_⟩
      refine q_let (fun σ1 => q_G l cx M_LW_narrow 8 512 0 0 16 [] [] σ1 R) (q_wL σ y2 y1.toNatClampNeg y0) (fun σ1 e_σ1 => ?_)
      have hV := hV σ1 e_σ1
      refine q_goto (q_dc k_LW_narrow 10 rfl) rfl ?_
      refine q_run k_LW_narrow 14 1 23 rfl ?_
      show q_G l cx M_LW_narrow 8 512 0 0 23 [] [.inl (0 : Int32)] σ1 R
      exact q_ireturn (q_dc k_LW_narrow 15 rfl) rfl hV)
  refine q_run k_LW_narrow 0 4 4 rfl ?_
  show q_G l cx M_LW_narrow 8 512 1 6 4 [(0, .inr (.inr x0)), (1, .inl x1), (2, .inr (.inr x2))] [.inl x1, .inr (.inr x0), .inl (0 : Int32), .inr (.inr x2)] σ R
  obtain ⟨s1, hV⟩ := hV
  refine q_less (kc' := 0 + 1) (ks' := 0 + 6) (Nat.le_of_ble_eq_true rfl) (Nat.le_of_ble_eq_true rfl) ?_
  refine q_callV (st := [.inl (0 : Int32), .inr (.inr x2)]) (as := [.inl x1]) (t_PF_narrow (l := l) (cx := cx) hlf hV) (q_dc k_LW_narrow 4 rfl) (Or.inl (List.mem_of_getElem? (i := 859) (by decide +kernel))) w_PF_narrow n_PF_narrow (ci := 0) rfl e_PF_narrow a_PF_narrow (q_wt (Nat.le_of_ble_eq_true rfl)) ⟨Nat.le_of_ble_eq_true rfl, Nat.le_of_ble_eq_true rfl⟩ s1 (fun v9 τ9 q9 => ?_) (fun n2 σ3 q9 => ?_)
  · have q9 := q9
    obtain ⟨v4, rfl, hV⟩ := q_ci_elim q9
    clear q9
    have hV := hV
    revert hV
    generalize τ9 = σ5
    intro hV
    show q_G l cx M_LW_narrow 8 512 0 0 7 [(0, .inr (.inr x0)), (1, .inl x1), (2, .inr (.inr x2))] [.inl v4, .inl (0 : Int32), .inr (.inr x2)] σ5 R
    refine q_ifz (q_dc k_LW_narrow 5 rfl) rfl (fun h6 => ?_) (fun h6 => ?_)
    · have hV := hV.1 h6
      refine q_run k_LW_narrow 8 1 15 rfl ?_
      show q_G l cx M_LW_narrow 8 512 0 0 15 [(0, .inr (.inr x0)), (1, .inl x1), (2, .inr (.inr x2))] [.inr (.inl (0 : Int64)), .inl (0 : Int32), .inr (.inr x2)] σ5 R
      exact q_less (Nat.le_of_ble_eq_true rfl) (Nat.le_of_ble_eq_true rfl) (q_subk [] rfl hV)
    · have hV := hV.2 h6
      refine q_run k_LW_narrow 6 1 11 rfl ?_
      show q_G l cx M_LW_narrow 8 512 0 0 11 [(0, .inr (.inr x0)), (1, .inl x1), (2, .inr (.inr x2))] [.inr (.inl (1 : Int64)), .inl (0 : Int32), .inr (.inr x2)] σ5 R
      refine q_goto (q_dc k_LW_narrow 7 rfl) rfl ?_
      exact q_less (Nat.le_of_ble_eq_true rfl) (Nat.le_of_ble_eq_true rfl) (q_subk [] rfl hV)
  · have hV := q_ci_x q9
    obtain ⟨s7, hV⟩ := hV
    refine q_T.c1 (ci := 8) rfl ⟨by decide, by decide⟩ (by decide) rfl (List.mem_of_getElem? (i := 295) (by decide +kernel)) (List.mem_of_getElem? (i := 1) rfl) s7 ?_
    show q_G l cx M_LW_narrow 8 512 0 0 19 [(0, .inr (.inr x0)), (1, .inl x1), (2, .inr (.inr x2))] [.inr (.inr n2)] σ3 R
    refine q_run k_LW_narrow 11 2 21 rfl ?_
    show q_G l cx M_LW_narrow 8 512 0 0 21 [(3, .inr (.inr n2)), (0, .inr (.inr x0)), (1, .inl x1), (2, .inr (.inr x2))] [.inl (1 : Int32)] σ3 R
    exact q_ireturn (q_dc k_LW_narrow 13 rfl) rfl hV
