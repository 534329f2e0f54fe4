/-! WHAT METHODS ASK, further (by program) -/
def V_AC_init (x0 : Nat) (σ : q_S) (R : q_O → q_S → Prop) : Prop :=
  0 < x0 ∧ R (.inl none) σ
set_option maxRecDepth 100000 in
theorem t_AC_init {l : Launch} {cx : q_C} {x0 : Nat} {σ : q_S} {R : q_O → q_S → Prop} (hV : V_AC_init x0 σ R) : q_Ct l cx M_AC_init 1 64 0 0 [q_r x0] σ R := by
  refine q_Ct.of p_AC_init c_AC_init rfl (Nat.le_of_ble_eq_true rfl) ?_
  refine q_run k_AC_init 0 1 1 rfl ?_
  show q_G l cx M_AC_init 1 64 0 0 1 [(0, .inr (.inr x0))] [.inr (.inr x0)] σ R
  obtain ⟨s1, hV⟩ := hV
  refine q_objInit (q_dc k_AC_init 1 rfl) (List.mem_of_getElem? (i := 112) (by decide +kernel)) (List.mem_of_getElem? (i := 99) (by decide +kernel)) (List.mem_of_getElem? (i := 100) (by decide +kernel)) (Nat.le_of_ble_eq_true rfl) ⟨Nat.le_of_ble_eq_true rfl, Nat.le_of_ble_eq_true rfl⟩ s1 ?_
  show q_G l cx M_AC_init 1 64 0 0 4 [(0, .inr (.inr x0))] [] σ R
  exact q_vreturn (q_dc k_AC_init 2 rfl) rfl hV
def V_AB_init (x0 : Nat) (σ : q_S) (R : q_O → q_S → Prop) : Prop :=
  0 < x0 ∧ V_AC_init x0 σ (q_cv (fun σ5 => q_K σ5 x0 = 8 ∧ ∀ σ6 : q_S, σ6 = q_wI σ5 x0 2 (0 : Int32) → R (.inl none) σ6) (fun n9 σ9 => R (.inr n9) σ9))
set_option maxRecDepth 100000 in
theorem t_AB_init {l : Launch} {cx : q_C} {x0 : Nat} {σ : q_S} {R : q_O → q_S → Prop} (hV : V_AB_init x0 σ R) : q_Ct l cx M_AB_init 2 128 0 0 [q_r x0] σ R := by
  refine q_Ct.of p_AB_init c_AB_init rfl (Nat.le_of_ble_eq_true rfl) ?_
  refine q_run k_AB_init 0 1 1 rfl ?_
  show q_G l cx M_AB_init 2 128 0 0 1 [(0, .inr (.inr x0))] [.inr (.inr x0)] σ R
  obtain ⟨s1, hV⟩ := hV
  refine q_callI (st := []) (as := []) (t_AC_init (l := l) (cx := cx)  hV) (q_dc k_AB_init 1 rfl) (Or.inl (List.mem_of_getElem? (i := 109) (by decide +kernel))) w_AC_init c_AC_init n_AC_init rfl a_AC_init (q_wt (Nat.le_of_ble_eq_true rfl)) ⟨Nat.le_of_ble_eq_true rfl, Nat.le_of_ble_eq_true rfl⟩ s1 (fun v9 τ9 q9 => ?_) (fun n9 τ9 q9 => q_T.leave rfl q9)
  obtain ⟨rfl, hV⟩ := q_cv_elim q9
  clear q9
  have hV := hV
  revert hV
  generalize τ9 = σ5
  intro hV
  show q_G l cx M_AB_init 2 128 0 0 4 [(0, .inr (.inr x0))] [] σ5 R
  refine q_run k_AB_init 2 3 9 rfl ?_
  show q_K σ5 x0 = 8 ∧ q_G l cx M_AB_init 2 128 0 0 9 [(0, .inr (.inr x0))] [] (q_wI σ5 x0 2 (0 : Int32)) R
  obtain ⟨s7, hV⟩ := hV
  refine ⟨s7, ?_⟩
  refine q_let (fun σ6 => q_G l cx M_AB_init 2 128 0 0 9 [(0, .inr (.inr x0))] [] σ6 R) (q_wI σ5 x0 2 (0 : Int32)) (fun σ6 e_σ6 => ?_)
  have hV := hV σ6 e_σ6
  exact q_vreturn (q_dc k_AB_init 5 rfl) rfl hV
def V_AL_init (x0 : Nat) (σ : q_S) (R : q_O → q_S → Prop) : Prop :=
  0 < x0 ∧ V_AB_init x0 σ (q_cv (fun σ5 => q_K σ5 x0 = 8 ∧ ∀ σ6 : q_S, σ6 = q_wP σ5 x0 0 10000005 → R (.inl none) σ6) (fun n9 σ9 => R (.inr n9) σ9))
set_option maxRecDepth 100000 in
theorem t_AL_init {l : Launch} {cx : q_C} {x0 : Nat} {σ : q_S} {R : q_O → q_S → Prop} (hV : V_AL_init x0 σ R) : q_Ct l cx M_AL_init 3 192 0 0 [q_r x0] σ R := by
  refine q_Ct.of p_AL_init c_AL_init rfl (Nat.le_of_ble_eq_true rfl) ?_
  refine q_run k_AL_init 0 1 1 rfl ?_
  show q_G l cx M_AL_init 3 192 0 0 1 [(0, .inr (.inr x0))] [.inr (.inr x0)] σ R
  obtain ⟨s1, hV⟩ := hV
  refine q_callI (st := []) (as := []) (t_AB_init (l := l) (cx := cx)  hV) (q_dc k_AL_init 1 rfl) (Or.inl (List.mem_of_getElem? (i := 106) (by decide +kernel))) w_AB_init c_AB_init n_AB_init rfl a_AB_init (q_wt (Nat.le_of_ble_eq_true rfl)) ⟨Nat.le_of_ble_eq_true rfl, Nat.le_of_ble_eq_true rfl⟩ s1 (fun v9 τ9 q9 => ?_) (fun n9 τ9 q9 => q_T.leave rfl q9)
  obtain ⟨rfl, hV⟩ := q_cv_elim q9
  clear q9
  have hV := hV
  revert hV
  generalize τ9 = σ5
  intro hV
  show q_G l cx M_AL_init 3 192 0 0 4 [(0, .inr (.inr x0))] [] σ5 R
  refine q_run k_AL_init 2 1 5 rfl ?_
  show q_G l cx M_AL_init 3 192 0 0 5 [(0, .inr (.inr x0))] [.inr (.inr x0)] σ5 R
  refine q_gets (nm := 10000005) (q_dc k_AL_init 3 rfl) (List.mem_of_getElem? (i := 4) rfl) (List.mem_of_getElem? (i := 113) (by decide +kernel)) ?_
  show q_G l cx M_AL_init 3 192 0 0 8 [(0, .inr (.inr x0))] [.inr (.inr 10000005), .inr (.inr x0)] σ5 R
  refine q_run k_AL_init 4 1 11 rfl ?_
  show q_K σ5 x0 = 8 ∧ q_G l cx M_AL_init 3 192 0 0 11 [(0, .inr (.inr x0))] [] (q_wP σ5 x0 0 10000005) R
  obtain ⟨s7, hV⟩ := hV
  refine ⟨s7, ?_⟩
  refine q_let (fun σ6 => q_G l cx M_AL_init 3 192 0 0 11 [(0, .inr (.inr x0))] [] σ6 R) (q_wP σ5 x0 0 10000005) (fun σ6 e_σ6 => ?_)
  have hV := hV σ6 e_σ6
  exact q_vreturn (q_dc k_AL_init 5 rfl) rfl hV
def V_PC_init (x0 : Nat) (σ : q_S) (R : q_O → q_S → Prop) : Prop :=
  0 < x0 ∧ q_n σ < 10000000 ∧ ∀ v3 : Nat, v3 = q_n σ → ∀ σ4 : q_S, σ4 = q_new σ 1000 24 → q_K σ4 x0 = 2 ∧ ∀ σ5 : q_S, σ5 = q_wP σ4 x0 0 v3 → R (.inl none) σ5
set_option maxRecDepth 100000 in
theorem t_PC_init {l : Launch} {cx : q_C} {x0 : Nat} {σ : q_S} {R : q_O → q_S → Prop} (hV : V_PC_init x0 σ R) : q_Ct l cx M_PC_init 1 64 1 24 [q_r x0] σ R := by
  refine q_Ct.of p_PC_init c_PC_init rfl (Nat.le_of_ble_eq_true rfl) ?_
  refine q_run k_PC_init 0 1 1 rfl ?_
  show q_G l cx M_PC_init 1 64 1 24 1 [(0, .inr (.inr x0))] [.inr (.inr x0)] σ R
  obtain ⟨s1, hV⟩ := hV
  refine q_objInit (q_dc k_PC_init 1 rfl) (List.mem_of_getElem? (i := 378) (by decide +kernel)) (List.mem_of_getElem? (i := 99) (by decide +kernel)) (List.mem_of_getElem? (i := 100) (by decide +kernel)) (Nat.le_of_ble_eq_true rfl) ⟨Nat.le_of_ble_eq_true rfl, Nat.le_of_ble_eq_true rfl⟩ s1 ?_
  show q_G l cx M_PC_init 1 64 1 24 4 [(0, .inr (.inr x0))] [] σ R
  refine q_run k_PC_init 2 2 7 rfl ?_
  show q_G l cx M_PC_init 1 64 1 24 7 [(0, .inr (.inr x0))] [.inl (24 : Int32), .inr (.inr x0)] σ R
  obtain ⟨s2, hV⟩ := hV
  refine q_less (kc' := 0 + 1) (ks' := 0 + 24) (Nat.le_of_ble_eq_true rfl) (Nat.le_of_ble_eq_true rfl) ?_
  refine q_newa (t := 0) (N := 24) (q_dc k_PC_init 4 rfl) rfl (by decide) (fun _ _ h => h) (List.mem_of_getElem? (i := 139) (by decide +kernel)) (fun j9 => q_fv_new rfl) (by decide) ⟨by decide, by decide⟩ s2 ?_
  refine q_let (fun v3 => q_G l cx M_PC_init 1 64 0 0 9 [(0, .inr (.inr x0))] [.inr (.inr v3), .inr (.inr x0)] (q_new σ 1000 24) R) (q_n σ) (fun v3 e_v3 => ?_)
  have hV := hV v3 e_v3
  refine q_let (fun σ4 => q_G l cx M_PC_init 1 64 0 0 9 [(0, .inr (.inr x0))] [.inr (.inr v3), .inr (.inr x0)] σ4 R) (q_new σ 1000 24) (fun σ4 e_σ4 => ?_)
  have hV := hV σ4 e_σ4
  refine q_run k_PC_init 5 1 12 rfl ?_
  show q_K σ4 x0 = 2 ∧ q_G l cx M_PC_init 1 64 0 0 12 [(0, .inr (.inr x0))] [] (q_wP σ4 x0 0 v3) R
  obtain ⟨s6, hV⟩ := hV
  refine ⟨s6, ?_⟩
  refine q_let (fun σ5 => q_G l cx M_PC_init 1 64 0 0 12 [(0, .inr (.inr x0))] [] σ5 R) (q_wP σ4 x0 0 v3) (fun σ5 e_σ5 => ?_)
  have hV := hV σ5 e_σ5
  exact q_vreturn (q_dc k_PC_init 6 rfl) rfl hV
def V_PD_init (x0 : Nat) (x1 : Int32) (x2 : Int32) (x3 : Int32) (x4 : Int32) (x5 : Int32) (σ : q_S) (R : q_O → q_S → Prop) : Prop :=
  0 < x0 ∧ q_K σ x0 = 3 ∧ ∀ σ2 : q_S, σ2 = q_wI σ x0 0 x1 → q_K σ2 x0 = 3 ∧ ∀ σ4 : q_S, σ4 = q_wI σ2 x0 1 x2 → q_K σ4 x0 = 3 ∧ ∀ σ6 : q_S, σ6 = q_wI σ4 x0 2 x3 → q_K σ6 x0 = 3 ∧ ∀ σ8 : q_S, σ8 = q_wI σ6 x0 3 x4 → q_K σ8 x0 = 3 ∧ ∀ σ10 : q_S, σ10 = q_wI σ8 x0 4 x5 → R (.inl none) σ10
set_option maxRecDepth 100000 in
theorem t_PD_init {l : Launch} {cx : q_C} {x0 : Nat} {x1 : Int32} {x2 : Int32} {x3 : Int32} {x4 : Int32} {x5 : Int32} {σ : q_S} {R : q_O → q_S → Prop} (hV : V_PD_init x0 x1 x2 x3 x4 x5 σ R) : q_Ct l cx M_PD_init 1 64 0 0 [q_r x0, q_i x1, q_i x2, q_i x3, q_i x4, q_i x5] σ R := by
  refine q_Ct.of p_PD_init c_PD_init rfl (Nat.le_of_ble_eq_true rfl) ?_
  refine q_run k_PD_init 0 1 1 rfl ?_
  show q_G l cx M_PD_init 1 64 0 0 1 [(0, .inr (.inr x0)), (1, .inl x1), (2, .inl x2), (3, .inl x3), (4, .inl x4), (5, .inl x5)] [.inr (.inr x0)] σ R
  obtain ⟨s1, hV⟩ := hV
  refine q_objInit (q_dc k_PD_init 1 rfl) (List.mem_of_getElem? (i := 720) (by decide +kernel)) (List.mem_of_getElem? (i := 99) (by decide +kernel)) (List.mem_of_getElem? (i := 100) (by decide +kernel)) (Nat.le_of_ble_eq_true rfl) ⟨Nat.le_of_ble_eq_true rfl, Nat.le_of_ble_eq_true rfl⟩ s1 ?_
  show q_G l cx M_PD_init 1 64 0 0 4 [(0, .inr (.inr x0)), (1, .inl x1), (2, .inl x2), (3, .inl x3), (4, .inl x4), (5, .inl x5)] [] σ R
  refine q_run k_PD_init 2 3 9 rfl ?_
  show q_K σ x0 = 3 ∧ q_G l cx M_PD_init 1 64 0 0 9 [(0, .inr (.inr x0)), (1, .inl x1), (2, .inl x2), (3, .inl x3), (4, .inl x4), (5, .inl x5)] [] (q_wI σ x0 0 x1) R
  obtain ⟨s3, hV⟩ := hV
  refine ⟨s3, ?_⟩
  refine q_let (fun σ2 => q_G l cx M_PD_init 1 64 0 0 9 [(0, .inr (.inr x0)), (1, .inl x1), (2, .inl x2), (3, .inl x3), (4, .inl x4), (5, .inl x5)] [] σ2 R) (q_wI σ x0 0 x1) (fun σ2 e_σ2 => ?_)
  have hV := hV σ2 e_σ2
  refine q_run k_PD_init 5 3 14 rfl ?_
  show q_K σ2 x0 = 3 ∧ q_G l cx M_PD_init 1 64 0 0 14 [(0, .inr (.inr x0)), (1, .inl x1), (2, .inl x2), (3, .inl x3), (4, .inl x4), (5, .inl x5)] [] (q_wI σ2 x0 1 x2) R
  obtain ⟨s5, hV⟩ := hV
  refine ⟨s5, ?_⟩
  refine q_let (fun σ4 => q_G l cx M_PD_init 1 64 0 0 14 [(0, .inr (.inr x0)), (1, .inl x1), (2, .inl x2), (3, .inl x3), (4, .inl x4), (5, .inl x5)] [] σ4 R) (q_wI σ2 x0 1 x2) (fun σ4 e_σ4 => ?_)
  have hV := hV σ4 e_σ4
  refine q_run k_PD_init 8 3 19 rfl ?_
  show q_K σ4 x0 = 3 ∧ q_G l cx M_PD_init 1 64 0 0 19 [(0, .inr (.inr x0)), (1, .inl x1), (2, .inl x2), (3, .inl x3), (4, .inl x4), (5, .inl x5)] [] (q_wI σ4 x0 2 x3) R
  obtain ⟨s7, hV⟩ := hV
  refine ⟨s7, ?_⟩
  refine q_let (fun σ6 => q_G l cx M_PD_init 1 64 0 0 19 [(0, .inr (.inr x0)), (1, .inl x1), (2, .inl x2), (3, .inl x3), (4, .inl x4), (5, .inl x5)] [] σ6 R) (q_wI σ4 x0 2 x3) (fun σ6 e_σ6 => ?_)
  have hV := hV σ6 e_σ6
  refine q_run k_PD_init 11 3 25 rfl ?_
  show q_K σ6 x0 = 3 ∧ q_G l cx M_PD_init 1 64 0 0 25 [(0, .inr (.inr x0)), (1, .inl x1), (2, .inl x2), (3, .inl x3), (4, .inl x4), (5, .inl x5)] [] (q_wI σ6 x0 3 x4) R
  obtain ⟨s9, hV⟩ := hV
  refine ⟨s9, ?_⟩
  refine q_let (fun σ8 => q_G l cx M_PD_init 1 64 0 0 25 [(0, .inr (.inr x0)), (1, .inl x1), (2, .inl x2), (3, .inl x3), (4, .inl x4), (5, .inl x5)] [] σ8 R) (q_wI σ6 x0 3 x4) (fun σ8 e_σ8 => ?_)
  have hV := hV σ8 e_σ8
  refine q_run k_PD_init 14 3 31 rfl ?_
  show q_K σ8 x0 = 3 ∧ q_G l cx M_PD_init 1 64 0 0 31 [(0, .inr (.inr x0)), (1, .inl x1), (2, .inl x2), (3, .inl x3), (4, .inl x4), (5, .inl x5)] [] (q_wI σ8 x0 4 x5) R
  obtain ⟨s11, hV⟩ := hV
  refine ⟨s11, ?_⟩
  refine q_let (fun σ10 => q_G l cx M_PD_init 1 64 0 0 31 [(0, .inr (.inr x0)), (1, .inl x1), (2, .inl x2), (3, .inl x3), (4, .inl x4), (5, .inl x5)] [] σ10 R) (q_wI σ8 x0 4 x5) (fun σ10 e_σ10 => ?_)
  have hV := hV σ10 e_σ10
  exact q_vreturn (q_dc k_PD_init 17 rfl) rfl hV
def V_PP_init (x0 : Nat) (x1 : Int32) (x2 : Int32) (x3 : Int32) (x4 : Int32) (x5 : Int32) (x6 : Int32) (σ : q_S) (R : q_O → q_S → Prop) : Prop :=
  0 < x0 ∧ q_K σ x0 = 5 ∧ ∀ σ2 : q_S, σ2 = q_wI σ x0 0 x1 → q_K σ2 x0 = 5 ∧ ∀ σ4 : q_S, σ4 = q_wI σ2 x0 1 x2 → q_K σ4 x0 = 5 ∧ ∀ σ6 : q_S, σ6 = q_wI σ4 x0 2 x3 → q_K σ6 x0 = 5 ∧ ∀ σ8 : q_S, σ8 = q_wI σ6 x0 3 x4 → q_K σ8 x0 = 5 ∧ ∀ σ10 : q_S, σ10 = q_wI σ8 x0 4 x5 → q_K σ10 x0 = 5 ∧ ∀ σ12 : q_S, σ12 = q_wI σ10 x0 5 x6 → R (.inl none) σ12
set_option maxRecDepth 100000 in
theorem t_PP_init {l : Launch} {cx : q_C} {x0 : Nat} {x1 : Int32} {x2 : Int32} {x3 : Int32} {x4 : Int32} {x5 : Int32} {x6 : Int32} {σ : q_S} {R : q_O → q_S → Prop} (hV : V_PP_init x0 x1 x2 x3 x4 x5 x6 σ R) : q_Ct l cx M_PP_init 1 64 0 0 [q_r x0, q_i x1, q_i x2, q_i x3, q_i x4, q_i x5, q_i x6] σ R := by
  refine q_Ct.of p_PP_init c_PP_init rfl (Nat.le_of_ble_eq_true rfl) ?_
  refine q_run k_PP_init 0 1 1 rfl ?_
  show q_G l cx M_PP_init 1 64 0 0 1 [(0, .inr (.inr x0)), (1, .inl x1), (2, .inl x2), (3, .inl x3), (4, .inl x4), (5, .inl x5), (6, .inl x6)] [.inr (.inr x0)] σ R
  obtain ⟨s1, hV⟩ := hV
  refine q_objInit (q_dc k_PP_init 1 rfl) (List.mem_of_getElem? (i := 753) (by decide +kernel)) (List.mem_of_getElem? (i := 99) (by decide +kernel)) (List.mem_of_getElem? (i := 100) (by decide +kernel)) (Nat.le_of_ble_eq_true rfl) ⟨Nat.le_of_ble_eq_true rfl, Nat.le_of_ble_eq_true rfl⟩ s1 ?_
  show q_G l cx M_PP_init 1 64 0 0 4 [(0, .inr (.inr x0)), (1, .inl x1), (2, .inl x2), (3, .inl x3), (4, .inl x4), (5, .inl x5), (6, .inl x6)] [] σ R
  refine q_run k_PP_init 2 3 9 rfl ?_
  show q_K σ x0 = 5 ∧ q_G l cx M_PP_init 1 64 0 0 9 [(0, .inr (.inr x0)), (1, .inl x1), (2, .inl x2), (3, .inl x3), (4, .inl x4), (5, .inl x5), (6, .inl x6)] [] (q_wI σ x0 0 x1) R
  obtain ⟨s3, hV⟩ := hV
  refine ⟨s3, ?_⟩
  refine q_let (fun σ2 => q_G l cx M_PP_init 1 64 0 0 9 [(0, .inr (.inr x0)), (1, .inl x1), (2, .inl x2), (3, .inl x3), (4, .inl x4), (5, .inl x5), (6, .inl x6)] [] σ2 R) (q_wI σ x0 0 x1) (fun σ2 e_σ2 => ?_)
  have hV := hV σ2 e_σ2
  refine q_run k_PP_init 5 3 14 rfl ?_
  show q_K σ2 x0 = 5 ∧ q_G l cx M_PP_init 1 64 0 0 14 [(0, .inr (.inr x0)), (1, .inl x1), (2, .inl x2), (3, .inl x3), (4, .inl x4), (5, .inl x5), (6, .inl x6)] [] (q_wI σ2 x0 1 x2) R
  obtain ⟨s5, hV⟩ := hV
  refine ⟨s5, ?_⟩
  refine q_let (fun σ4 => q_G l cx M_PP_init 1 64 0 0 14 [(0, .inr (.inr x0)), (1, .inl x1), (2, .inl x2), (3, .inl x3), (4, .inl x4), (5, .inl x5), (6, .inl x6)] [] σ4 R) (q_wI σ2 x0 1 x2) (fun σ4 e_σ4 => ?_)
  have hV := hV σ4 e_σ4
  refine q_run k_PP_init 8 3 19 rfl ?_
  show q_K σ4 x0 = 5 ∧ q_G l cx M_PP_init 1 64 0 0 19 [(0, .inr (.inr x0)), (1, .inl x1), (2, .inl x2), (3, .inl x3), (4, .inl x4), (5, .inl x5), (6, .inl x6)] [] (q_wI σ4 x0 2 x3) R
  obtain ⟨s7, hV⟩ := hV
  refine ⟨s7, ?_⟩
  refine q_let (fun σ6 => q_G l cx M_PP_init 1 64 0 0 19 [(0, .inr (.inr x0)), (1, .inl x1), (2, .inl x2), (3, .inl x3), (4, .inl x4), (5, .inl x5), (6, .inl x6)] [] σ6 R) (q_wI σ4 x0 2 x3) (fun σ6 e_σ6 => ?_)
  have hV := hV σ6 e_σ6
  refine q_run k_PP_init 11 3 25 rfl ?_
  show q_K σ6 x0 = 5 ∧ q_G l cx M_PP_init 1 64 0 0 25 [(0, .inr (.inr x0)), (1, .inl x1), (2, .inl x2), (3, .inl x3), (4, .inl x4), (5, .inl x5), (6, .inl x6)] [] (q_wI σ6 x0 3 x4) R
  obtain ⟨s9, hV⟩ := hV
  refine ⟨s9, ?_⟩
  refine q_let (fun σ8 => q_G l cx M_PP_init 1 64 0 0 25 [(0, .inr (.inr x0)), (1, .inl x1), (2, .inl x2), (3, .inl x3), (4, .inl x4), (5, .inl x5), (6, .inl x6)] [] σ8 R) (q_wI σ6 x0 3 x4) (fun σ8 e_σ8 => ?_)
  have hV := hV σ8 e_σ8
  refine q_run k_PP_init 14 3 31 rfl ?_
  show q_K σ8 x0 = 5 ∧ q_G l cx M_PP_init 1 64 0 0 31 [(0, .inr (.inr x0)), (1, .inl x1), (2, .inl x2), (3, .inl x3), (4, .inl x4), (5, .inl x5), (6, .inl x6)] [] (q_wI σ8 x0 4 x5) R
  obtain ⟨s11, hV⟩ := hV
  refine ⟨s11, ?_⟩
  refine q_let (fun σ10 => q_G l cx M_PP_init 1 64 0 0 31 [(0, .inr (.inr x0)), (1, .inl x1), (2, .inl x2), (3, .inl x3), (4, .inl x4), (5, .inl x5), (6, .inl x6)] [] σ10 R) (q_wI σ8 x0 4 x5) (fun σ10 e_σ10 => ?_)
  have hV := hV σ10 e_σ10
  refine q_run k_PP_init 17 3 37 rfl ?_
  show q_K σ10 x0 = 5 ∧ q_G l cx M_PP_init 1 64 0 0 37 [(0, .inr (.inr x0)), (1, .inl x1), (2, .inl x2), (3, .inl x3), (4, .inl x4), (5, .inl x5), (6, .inl x6)] [] (q_wI σ10 x0 5 x6) R
  obtain ⟨s13, hV⟩ := hV
  refine ⟨s13, ?_⟩
  refine q_let (fun σ12 => q_G l cx M_PP_init 1 64 0 0 37 [(0, .inr (.inr x0)), (1, .inl x1), (2, .inl x2), (3, .inl x3), (4, .inl x4), (5, .inl x5), (6, .inl x6)] [] σ12 R) (q_wI σ10 x0 5 x6) (fun σ12 e_σ12 => ?_)
  have hV := hV σ12 e_σ12
  exact q_vreturn (q_dc k_PP_init 20 rfl) rfl hV
def V_PG_init (x0 : Nat) (x1 : Int32) (σ : q_S) (R : q_O → q_S → Prop) : Prop :=
  0 < x0 ∧ q_n σ < 10000000 ∧ ∀ v3 : Nat, v3 = q_n σ → ∀ σ4 : q_S, σ4 = q_new σ 1000 24 → q_K σ4 x0 = 4 ∧ ∀ σ5 : q_S, σ5 = q_wP σ4 x0 1 v3 → q_n σ5 < 10000000 ∧ ∀ v8 : Nat, v8 = q_n σ5 → ∀ σ9 : q_S, σ9 = q_new σ5 1000 24 → q_K σ9 x0 = 4 ∧ ∀ σ10 : q_S, σ10 = q_wP σ9 x0 2 v8 → (x1 = 0 ∨ x1 = 1) ∧ q_K σ10 x0 = 4 ∧ ∀ σ12 : q_S, σ12 = q_wI σ10 x0 0 x1 → R (.inl none) σ12
set_option maxRecDepth 100000 in
theorem t_PG_init {l : Launch} {cx : q_C} {x0 : Nat} {x1 : Int32} {σ : q_S} {R : q_O → q_S → Prop} (hV : V_PG_init x0 x1 σ R) : q_Ct l cx M_PG_init 1 64 2 48 [q_r x0, q_i x1] σ R := by
  refine q_Ct.of p_PG_init c_PG_init rfl (Nat.le_of_ble_eq_true rfl) ?_
  refine q_run k_PG_init 0 1 1 rfl ?_
  show q_G l cx M_PG_init 1 64 2 48 1 [(0, .inr (.inr x0)), (1, .inl x1)] [.inr (.inr x0)] σ R
  obtain ⟨s1, hV⟩ := hV
  refine q_objInit (q_dc k_PG_init 1 rfl) (List.mem_of_getElem? (i := 127) (by decide +kernel)) (List.mem_of_getElem? (i := 99) (by decide +kernel)) (List.mem_of_getElem? (i := 100) (by decide +kernel)) (Nat.le_of_ble_eq_true rfl) ⟨Nat.le_of_ble_eq_true rfl, Nat.le_of_ble_eq_true rfl⟩ s1 ?_
  show q_G l cx M_PG_init 1 64 2 48 4 [(0, .inr (.inr x0)), (1, .inl x1)] [] σ R
  refine q_run k_PG_init 2 2 7 rfl ?_
  show q_G l cx M_PG_init 1 64 2 48 7 [(0, .inr (.inr x0)), (1, .inl x1)] [.inl (24 : Int32), .inr (.inr x0)] σ R
  obtain ⟨s2, hV⟩ := hV
  refine q_less (kc' := 1 + 1) (ks' := 24 + 24) (Nat.le_of_ble_eq_true rfl) (Nat.le_of_ble_eq_true rfl) ?_
  refine q_newa (t := 0) (N := 24) (q_dc k_PG_init 4 rfl) rfl (by decide) (fun _ _ h => h) (List.mem_of_getElem? (i := 139) (by decide +kernel)) (fun j9 => q_fv_new rfl) (by decide) ⟨by decide, by decide⟩ s2 ?_
  refine q_let (fun v3 => q_G l cx M_PG_init 1 64 1 24 9 [(0, .inr (.inr x0)), (1, .inl x1)] [.inr (.inr v3), .inr (.inr x0)] (q_new σ 1000 24) R) (q_n σ) (fun v3 e_v3 => ?_)
  have hV := hV v3 e_v3
  refine q_let (fun σ4 => q_G l cx M_PG_init 1 64 1 24 9 [(0, .inr (.inr x0)), (1, .inl x1)] [.inr (.inr v3), .inr (.inr x0)] σ4 R) (q_new σ 1000 24) (fun σ4 e_σ4 => ?_)
  have hV := hV σ4 e_σ4
  refine q_run k_PG_init 5 1 12 rfl ?_
  show q_K σ4 x0 = 4 ∧ q_G l cx M_PG_init 1 64 1 24 12 [(0, .inr (.inr x0)), (1, .inl x1)] [] (q_wP σ4 x0 1 v3) R
  obtain ⟨s6, hV⟩ := hV
  refine ⟨s6, ?_⟩
  refine q_let (fun σ5 => q_G l cx M_PG_init 1 64 1 24 12 [(0, .inr (.inr x0)), (1, .inl x1)] [] σ5 R) (q_wP σ4 x0 1 v3) (fun σ5 e_σ5 => ?_)
  have hV := hV σ5 e_σ5
  refine q_run k_PG_init 6 2 15 rfl ?_
  show q_G l cx M_PG_init 1 64 1 24 15 [(0, .inr (.inr x0)), (1, .inl x1)] [.inl (24 : Int32), .inr (.inr x0)] σ5 R
  obtain ⟨s7, hV⟩ := hV
  refine q_less (kc' := 0 + 1) (ks' := 0 + 24) (Nat.le_of_ble_eq_true rfl) (Nat.le_of_ble_eq_true rfl) ?_
  refine q_newa (t := 0) (N := 24) (q_dc k_PG_init 8 rfl) rfl (by decide) (fun _ _ h => h) (List.mem_of_getElem? (i := 139) (by decide +kernel)) (fun j9 => q_fv_new rfl) (by decide) ⟨by decide, by decide⟩ s7 ?_
  refine q_let (fun v8 => q_G l cx M_PG_init 1 64 0 0 17 [(0, .inr (.inr x0)), (1, .inl x1)] [.inr (.inr v8), .inr (.inr x0)] (q_new σ5 1000 24) R) (q_n σ5) (fun v8 e_v8 => ?_)
  have hV := hV v8 e_v8
  refine q_let (fun σ9 => q_G l cx M_PG_init 1 64 0 0 17 [(0, .inr (.inr x0)), (1, .inl x1)] [.inr (.inr v8), .inr (.inr x0)] σ9 R) (q_new σ5 1000 24) (fun σ9 e_σ9 => ?_)
  have hV := hV σ9 e_σ9
  refine q_run k_PG_init 9 1 20 rfl ?_
  show q_K σ9 x0 = 4 ∧ q_G l cx M_PG_init 1 64 0 0 20 [(0, .inr (.inr x0)), (1, .inl x1)] [] (q_wP σ9 x0 2 v8) R
  obtain ⟨s11, hV⟩ := hV
  refine ⟨s11, ?_⟩
  refine q_let (fun σ10 => q_G l cx M_PG_init 1 64 0 0 20 [(0, .inr (.inr x0)), (1, .inl x1)] [] σ10 R) (q_wP σ9 x0 2 v8) (fun σ10 e_σ10 => ?_)
  have hV := hV σ10 e_σ10
  refine q_run k_PG_init 10 3 25 rfl ?_
  show (x1 = 0 ∨ x1 = 1) ∧ q_K σ10 x0 = 4 ∧ q_G l cx M_PG_init 1 64 0 0 25 [(0, .inr (.inr x0)), (1, .inl x1)] [] (q_wI σ10 x0 0 x1) R
  obtain ⟨s13, s14, hV⟩ := hV
  refine ⟨s13, s14, ?_⟩
  refine q_let (fun σ12 => q_G l cx M_PG_init 1 64 0 0 25 [(0, .inr (.inr x0)), (1, .inl x1)] [] σ12 R) (q_wI σ10 x0 0 x1) (fun σ12 e_σ12 => ?_)
  have hV := hV σ12 e_σ12
  exact q_vreturn (q_dc k_PG_init 13 rfl) rfl hV
def V_PL_init (x0 : Nat) (x1 : Int32) (x2 : Int32) (x3 : Int32) (σ : q_S) (R : q_O → q_S → Prop) : Prop :=
  0 < x0 ∧ q_n σ < 10000000 ∧ ∀ v3 : Nat, v3 = q_n σ → ∀ σ4 : q_S, σ4 = q_new σ 1000 24 → q_K σ4 x0 = 6 ∧ ∀ σ5 : q_S, σ5 = q_wP σ4 x0 3 v3 → q_n σ5 < 10000000 ∧ ∀ v8 : Nat, v8 = q_n σ5 → ∀ σ9 : q_S, σ9 = q_new σ5 1000 12 → q_K σ9 x0 = 6 ∧ ∀ σ10 : q_S, σ10 = q_wP σ9 x0 4 v8 → q_n σ10 < 10000000 ∧ ∀ v13 : Nat, v13 = q_n σ10 → ∀ σ14 : q_S, σ14 = q_new σ10 1000 12 → q_K σ14 x0 = 6 ∧ ∀ σ15 : q_S, σ15 = q_wP σ14 x0 5 v13 → q_n σ15 < 10000000 ∧ ∀ v18 : Nat, v18 = q_n σ15 → ∀ σ19 : q_S, σ19 = q_new σ15 2 0 → 0 < v18 ∧ V_PC_init v18 σ19 (q_cv (fun σ24 => q_K σ24 x0 = 6 ∧ ∀ σ25 : q_S, σ25 = q_wP σ24 x0 10 v18 → q_n σ25 < 10000000 ∧ ∀ v28 : Nat, v28 = q_n σ25 → ∀ σ29 : q_S, σ29 = q_new σ25 2 0 → 0 < v28 ∧ V_PC_init v28 σ29 (q_cv (fun σ34 => q_K σ34 x0 = 6 ∧ ∀ σ35 : q_S, σ35 = q_wP σ34 x0 11 v28 → q_K σ35 x0 = 6 ∧ ∀ σ37 : q_S, σ37 = q_wI σ35 x0 0 x1 → q_K σ37 x0 = 6 ∧ ∀ σ39 : q_S, σ39 = q_wI σ37 x0 1 x2 → q_K σ39 x0 = 6 ∧ ∀ σ41 : q_S, σ41 = q_wI σ39 x0 2 x3 → R (.inl none) σ41) (fun n9 σ9 => R (.inr n9) σ9))) (fun n9 σ9 => R (.inr n9) σ9))
set_option maxRecDepth 100000 in
theorem t_PL_init {l : Launch} {cx : q_C} {x0 : Nat} {x1 : Int32} {x2 : Int32} {x3 : Int32} {σ : q_S} {R : q_O → q_S → Prop} (hV : V_PL_init x0 x1 x2 x3 σ R) : q_Ct l cx M_PL_init 2 128 7 104 [q_r x0, q_i x1, q_i x2, q_i x3] σ R := by
  refine q_Ct.of p_PL_init c_PL_init rfl (Nat.le_of_ble_eq_true rfl) ?_
  refine q_run k_PL_init 0 1 1 rfl ?_
  show q_G l cx M_PL_init 2 128 7 104 1 [(0, .inr (.inr x0)), (1, .inl x1), (2, .inl x2), (3, .inl x3)] [.inr (.inr x0)] σ R
  obtain ⟨s1, hV⟩ := hV
  refine q_objInit (q_dc k_PL_init 1 rfl) (List.mem_of_getElem? (i := 373) (by decide +kernel)) (List.mem_of_getElem? (i := 99) (by decide +kernel)) (List.mem_of_getElem? (i := 100) (by decide +kernel)) (Nat.le_of_ble_eq_true rfl) ⟨Nat.le_of_ble_eq_true rfl, Nat.le_of_ble_eq_true rfl⟩ s1 ?_
  show q_G l cx M_PL_init 2 128 7 104 4 [(0, .inr (.inr x0)), (1, .inl x1), (2, .inl x2), (3, .inl x3)] [] σ R
  refine q_run k_PL_init 2 2 7 rfl ?_
  show q_G l cx M_PL_init 2 128 7 104 7 [(0, .inr (.inr x0)), (1, .inl x1), (2, .inl x2), (3, .inl x3)] [.inl (24 : Int32), .inr (.inr x0)] σ R
  obtain ⟨s2, hV⟩ := hV
  refine q_less (kc' := 6 + 1) (ks' := 80 + 24) (Nat.le_of_ble_eq_true rfl) (Nat.le_of_ble_eq_true rfl) ?_
  refine q_newa (t := 0) (N := 24) (q_dc k_PL_init 4 rfl) rfl (by decide) (fun _ _ h => h) (List.mem_of_getElem? (i := 139) (by decide +kernel)) (fun j9 => q_fv_new rfl) (by decide) ⟨by decide, by decide⟩ s2 ?_
  refine q_let (fun v3 => q_G l cx M_PL_init 2 128 6 80 9 [(0, .inr (.inr x0)), (1, .inl x1), (2, .inl x2), (3, .inl x3)] [.inr (.inr v3), .inr (.inr x0)] (q_new σ 1000 24) R) (q_n σ) (fun v3 e_v3 => ?_)
  have hV := hV v3 e_v3
  refine q_let (fun σ4 => q_G l cx M_PL_init 2 128 6 80 9 [(0, .inr (.inr x0)), (1, .inl x1), (2, .inl x2), (3, .inl x3)] [.inr (.inr v3), .inr (.inr x0)] σ4 R) (q_new σ 1000 24) (fun σ4 e_σ4 => ?_)
  have hV := hV σ4 e_σ4
  refine q_run k_PL_init 5 1 12 rfl ?_
  show q_K σ4 x0 = 6 ∧ q_G l cx M_PL_init 2 128 6 80 12 [(0, .inr (.inr x0)), (1, .inl x1), (2, .inl x2), (3, .inl x3)] [] (q_wP σ4 x0 3 v3) R
  obtain ⟨s6, hV⟩ := hV
  refine ⟨s6, ?_⟩
  refine q_let (fun σ5 => q_G l cx M_PL_init 2 128 6 80 12 [(0, .inr (.inr x0)), (1, .inl x1), (2, .inl x2), (3, .inl x3)] [] σ5 R) (q_wP σ4 x0 3 v3) (fun σ5 e_σ5 => ?_)
  have hV := hV σ5 e_σ5
  refine q_run k_PL_init 6 2 15 rfl ?_
  show q_G l cx M_PL_init 2 128 6 80 15 [(0, .inr (.inr x0)), (1, .inl x1), (2, .inl x2), (3, .inl x3)] [.inl (12 : Int32), .inr (.inr x0)] σ5 R
  obtain ⟨s7, hV⟩ := hV
  refine q_less (kc' := 5 + 1) (ks' := 68 + 12) (Nat.le_of_ble_eq_true rfl) (Nat.le_of_ble_eq_true rfl) ?_
  refine q_newa (t := 0) (N := 12) (q_dc k_PL_init 8 rfl) rfl (by decide) (fun _ _ h => h) (List.mem_of_getElem? (i := 139) (by decide +kernel)) (fun j9 => q_fv_new rfl) (by decide) ⟨by decide, by decide⟩ s7 ?_
  refine q_let (fun v8 => q_G l cx M_PL_init 2 128 5 68 17 [(0, .inr (.inr x0)), (1, .inl x1), (2, .inl x2), (3, .inl x3)] [.inr (.inr v8), .inr (.inr x0)] (q_new σ5 1000 12) R) (q_n σ5) (fun v8 e_v8 => ?_)
  have hV := hV v8 e_v8
  refine q_let (fun σ9 => q_G l cx M_PL_init 2 128 5 68 17 [(0, .inr (.inr x0)), (1, .inl x1), (2, .inl x2), (3, .inl x3)] [.inr (.inr v8), .inr (.inr x0)] σ9 R) (q_new σ5 1000 12) (fun σ9 e_σ9 => ?_)
  have hV := hV σ9 e_σ9
  refine q_run k_PL_init 9 1 20 rfl ?_
  show q_K σ9 x0 = 6 ∧ q_G l cx M_PL_init 2 128 5 68 20 [(0, .inr (.inr x0)), (1, .inl x1), (2, .inl x2), (3, .inl x3)] [] (q_wP σ9 x0 4 v8) R
  obtain ⟨s11, hV⟩ := hV
  refine ⟨s11, ?_⟩
  refine q_let (fun σ10 => q_G l cx M_PL_init 2 128 5 68 20 [(0, .inr (.inr x0)), (1, .inl x1), (2, .inl x2), (3, .inl x3)] [] σ10 R) (q_wP σ9 x0 4 v8) (fun σ10 e_σ10 => ?_)
  have hV := hV σ10 e_σ10
  refine q_run k_PL_init 10 2 23 rfl ?_
  show q_G l cx M_PL_init 2 128 5 68 23 [(0, .inr (.inr x0)), (1, .inl x1), (2, .inl x2), (3, .inl x3)] [.inl (12 : Int32), .inr (.inr x0)] σ10 R
  obtain ⟨s12, hV⟩ := hV
  refine q_less (kc' := 4 + 1) (ks' := 56 + 12) (Nat.le_of_ble_eq_true rfl) (Nat.le_of_ble_eq_true rfl) ?_
  refine q_newa (t := 0) (N := 12) (q_dc k_PL_init 12 rfl) rfl (by decide) (fun _ _ h => h) (List.mem_of_getElem? (i := 139) (by decide +kernel)) (fun j9 => q_fv_new rfl) (by decide) ⟨by decide, by decide⟩ s12 ?_
  refine q_let (fun v13 => q_G l cx M_PL_init 2 128 4 56 25 [(0, .inr (.inr x0)), (1, .inl x1), (2, .inl x2), (3, .inl x3)] [.inr (.inr v13), .inr (.inr x0)] (q_new σ10 1000 12) R) (q_n σ10) (fun v13 e_v13 => ?_)
  have hV := hV v13 e_v13
  refine q_let (fun σ14 => q_G l cx M_PL_init 2 128 4 56 25 [(0, .inr (.inr x0)), (1, .inl x1), (2, .inl x2), (3, .inl x3)] [.inr (.inr v13), .inr (.inr x0)] σ14 R) (q_new σ10 1000 12) (fun σ14 e_σ14 => ?_)
  have hV := hV σ14 e_σ14
  refine q_run k_PL_init 13 1 28 rfl ?_
  show q_K σ14 x0 = 6 ∧ q_G l cx M_PL_init 2 128 4 56 28 [(0, .inr (.inr x0)), (1, .inl x1), (2, .inl x2), (3, .inl x3)] [] (q_wP σ14 x0 5 v13) R
  obtain ⟨s16, hV⟩ := hV
  refine ⟨s16, ?_⟩
  refine q_let (fun σ15 => q_G l cx M_PL_init 2 128 4 56 28 [(0, .inr (.inr x0)), (1, .inl x1), (2, .inl x2), (3, .inl x3)] [] σ15 R) (q_wP σ14 x0 5 v13) (fun σ15 e_σ15 => ?_)
  have hV := hV σ15 e_σ15
  refine q_run k_PL_init 14 1 29 rfl ?_
  show q_G l cx M_PL_init 2 128 4 56 29 [(0, .inr (.inr x0)), (1, .inl x1), (2, .inl x2), (3, .inl x3)] [.inr (.inr x0)] σ15 R
  obtain ⟨s17, hV⟩ := hV
  refine q_less (kc' := 3 + 1) (ks' := 52 + 4) (Nat.le_of_ble_eq_true rfl) (Nat.le_of_ble_eq_true rfl) ?_
  refine q_newo (ci := 1) (q_dc k_PL_init 15 rfl) rfl (List.mem_of_getElem? (i := 374) (by decide +kernel)) 4 (List.mem_of_getElem? (i := 375) (by decide +kernel)) (List.mem_of_getElem? (i := 79) (by decide +kernel)) s17 ?_
  refine q_let (fun v18 => q_G l cx M_PL_init 2 128 3 52 32 [(0, .inr (.inr x0)), (1, .inl x1), (2, .inl x2), (3, .inl x3)] [.inr (.inr v18), .inr (.inr x0)] (q_new σ15 2 0) R) (q_n σ15) (fun v18 e_v18 => ?_)
  have hV := hV v18 e_v18
  refine q_let (fun σ19 => q_G l cx M_PL_init 2 128 3 52 32 [(0, .inr (.inr x0)), (1, .inl x1), (2, .inl x2), (3, .inl x3)] [.inr (.inr v18), .inr (.inr x0)] σ19 R) (q_new σ15 2 0) (fun σ19 e_σ19 => ?_)
  have hV := hV σ19 e_σ19
  refine q_run k_PL_init 16 1 33 rfl ?_
  show q_G l cx M_PL_init 2 128 3 52 33 [(0, .inr (.inr x0)), (1, .inl x1), (2, .inl x2), (3, .inl x3)] [.inr (.inr v18), .inr (.inr v18), .inr (.inr x0)] σ19 R
  obtain ⟨s20, hV⟩ := hV
  refine q_less (kc' := 2 + 1) (ks' := 28 + 24) (Nat.le_of_ble_eq_true rfl) (Nat.le_of_ble_eq_true rfl) ?_
  refine q_callI (st := [.inr (.inr v18), .inr (.inr x0)]) (as := []) (t_PC_init (l := l) (cx := cx)  hV) (q_dc k_PL_init 17 rfl) (Or.inr ⟨"PlaneFills", List.mem_of_getElem? (i := 14) (by decide +kernel)⟩) w_PC_init c_PC_init n_PC_init rfl a_PC_init (q_wt (Nat.le_of_ble_eq_true rfl)) ⟨Nat.le_of_ble_eq_true rfl, Nat.le_of_ble_eq_true rfl⟩ s20 (fun v9 τ9 q9 => ?_) (fun n9 τ9 q9 => q_T.leave rfl q9)
  obtain ⟨rfl, hV⟩ := q_cv_elim q9
  clear q9
  have hV := hV
  revert hV
  generalize τ9 = σ24
  intro hV
  show q_G l cx M_PL_init 2 128 2 28 36 [(0, .inr (.inr x0)), (1, .inl x1), (2, .inl x2), (3, .inl x3)] [.inr (.inr v18), .inr (.inr x0)] σ24 R
  refine q_run k_PL_init 18 1 39 rfl ?_
  show q_K σ24 x0 = 6 ∧ q_G l cx M_PL_init 2 128 2 28 39 [(0, .inr (.inr x0)), (1, .inl x1), (2, .inl x2), (3, .inl x3)] [] (q_wP σ24 x0 10 v18) R
  obtain ⟨s26, hV⟩ := hV
  refine ⟨s26, ?_⟩
  refine q_let (fun σ25 => q_G l cx M_PL_init 2 128 2 28 39 [(0, .inr (.inr x0)), (1, .inl x1), (2, .inl x2), (3, .inl x3)] [] σ25 R) (q_wP σ24 x0 10 v18) (fun σ25 e_σ25 => ?_)
  have hV := hV σ25 e_σ25
  refine q_run k_PL_init 19 1 40 rfl ?_
  show q_G l cx M_PL_init 2 128 2 28 40 [(0, .inr (.inr x0)), (1, .inl x1), (2, .inl x2), (3, .inl x3)] [.inr (.inr x0)] σ25 R
  obtain ⟨s27, hV⟩ := hV
  refine q_less (kc' := 1 + 1) (ks' := 24 + 4) (Nat.le_of_ble_eq_true rfl) (Nat.le_of_ble_eq_true rfl) ?_
  refine q_newo (ci := 1) (q_dc k_PL_init 20 rfl) rfl (List.mem_of_getElem? (i := 374) (by decide +kernel)) 4 (List.mem_of_getElem? (i := 375) (by decide +kernel)) (List.mem_of_getElem? (i := 79) (by decide +kernel)) s27 ?_
  refine q_let (fun v28 => q_G l cx M_PL_init 2 128 1 24 43 [(0, .inr (.inr x0)), (1, .inl x1), (2, .inl x2), (3, .inl x3)] [.inr (.inr v28), .inr (.inr x0)] (q_new σ25 2 0) R) (q_n σ25) (fun v28 e_v28 => ?_)
  have hV := hV v28 e_v28
  refine q_let (fun σ29 => q_G l cx M_PL_init 2 128 1 24 43 [(0, .inr (.inr x0)), (1, .inl x1), (2, .inl x2), (3, .inl x3)] [.inr (.inr v28), .inr (.inr x0)] σ29 R) (q_new σ25 2 0) (fun σ29 e_σ29 => ?_)
  have hV := hV σ29 e_σ29
  refine q_run k_PL_init 21 1 44 rfl ?_
  show q_G l cx M_PL_init 2 128 1 24 44 [(0, .inr (.inr x0)), (1, .inl x1), (2, .inl x2), (3, .inl x3)] [.inr (.inr v28), .inr (.inr v28), .inr (.inr x0)] σ29 R
  obtain ⟨s30, hV⟩ := hV
  refine q_less (kc' := 0 + 1) (ks' := 0 + 24) (Nat.le_of_ble_eq_true rfl) (Nat.le_of_ble_eq_true rfl) ?_
  refine q_callI (st := [.inr (.inr v28), .inr (.inr x0)]) (as := []) (t_PC_init (l := l) (cx := cx)  hV) (q_dc k_PL_init 22 rfl) (Or.inr ⟨"PlaneFills", List.mem_of_getElem? (i := 14) (by decide +kernel)⟩) w_PC_init c_PC_init n_PC_init rfl a_PC_init (q_wt (Nat.le_of_ble_eq_true rfl)) ⟨Nat.le_of_ble_eq_true rfl, Nat.le_of_ble_eq_true rfl⟩ s30 (fun v9 τ9 q9 => ?_) (fun n9 τ9 q9 => q_T.leave rfl q9)
  obtain ⟨rfl, hV⟩ := q_cv_elim q9
  clear q9
  have hV := hV
  revert hV
  generalize τ9 = σ34
  intro hV
  show q_G l cx M_PL_init 2 128 0 0 47 [(0, .inr (.inr x0)), (1, .inl x1), (2, .inl x2), (3, .inl x3)] [.inr (.inr v28), .inr (.inr x0)] σ34 R
  refine q_run k_PL_init 23 1 50 rfl ?_
  show q_K σ34 x0 = 6 ∧ q_G l cx M_PL_init 2 128 0 0 50 [(0, .inr (.inr x0)), (1, .inl x1), (2, .inl x2), (3, .inl x3)] [] (q_wP σ34 x0 11 v28) R
  obtain ⟨s36, hV⟩ := hV
  refine ⟨s36, ?_⟩
  refine q_let (fun σ35 => q_G l cx M_PL_init 2 128 0 0 50 [(0, .inr (.inr x0)), (1, .inl x1), (2, .inl x2), (3, .inl x3)] [] σ35 R) (q_wP σ34 x0 11 v28) (fun σ35 e_σ35 => ?_)
  have hV := hV σ35 e_σ35
  refine q_run k_PL_init 24 3 55 rfl ?_
  show q_K σ35 x0 = 6 ∧ q_G l cx M_PL_init 2 128 0 0 55 [(0, .inr (.inr x0)), (1, .inl x1), (2, .inl x2), (3, .inl x3)] [] (q_wI σ35 x0 0 x1) R
  obtain ⟨s38, hV⟩ := hV
  refine ⟨s38, ?_⟩
  refine q_let (fun σ37 => q_G l cx M_PL_init 2 128 0 0 55 [(0, .inr (.inr x0)), (1, .inl x1), (2, .inl x2), (3, .inl x3)] [] σ37 R) (q_wI σ35 x0 0 x1) (fun σ37 e_σ37 => ?_)
  have hV := hV σ37 e_σ37
  refine q_run k_PL_init 27 3 60 rfl ?_
  show q_K σ37 x0 = 6 ∧ q_G l cx M_PL_init 2 128 0 0 60 [(0, .inr (.inr x0)), (1, .inl x1), (2, .inl x2), (3, .inl x3)] [] (q_wI σ37 x0 1 x2) R
  obtain ⟨s40, hV⟩ := hV
  refine ⟨s40, ?_⟩
  refine q_let (fun σ39 => q_G l cx M_PL_init 2 128 0 0 60 [(0, .inr (.inr x0)), (1, .inl x1), (2, .inl x2), (3, .inl x3)] [] σ39 R) (q_wI σ37 x0 1 x2) (fun σ39 e_σ39 => ?_)
  have hV := hV σ39 e_σ39
  refine q_run k_PL_init 30 3 65 rfl ?_
  show q_K σ39 x0 = 6 ∧ q_G l cx M_PL_init 2 128 0 0 65 [(0, .inr (.inr x0)), (1, .inl x1), (2, .inl x2), (3, .inl x3)] [] (q_wI σ39 x0 2 x3) R
  obtain ⟨s42, hV⟩ := hV
  refine ⟨s42, ?_⟩
  refine q_let (fun σ41 => q_G l cx M_PL_init 2 128 0 0 65 [(0, .inr (.inr x0)), (1, .inl x1), (2, .inl x2), (3, .inl x3)] [] σ41 R) (q_wI σ39 x0 2 x3) (fun σ41 e_σ41 => ?_)
  have hV := hV σ41 e_σ41
  exact q_vreturn (q_dc k_PL_init 33 rfl) rfl hV
def V_PF_init (x0 : Nat) (x1 : Int32) (σ : q_S) (R : q_O → q_S → Prop) : Prop :=
  0 < x0 ∧ q_n σ < 10000000 ∧ ∀ v3 : Nat, v3 = q_n σ → ∀ σ4 : q_S, σ4 = q_new σ 8 0 → 0 < v3 ∧ V_AL_init v3 σ4 (q_cv (fun σ9 => q_K σ9 x0 = 1 ∧ ∀ σ10 : q_S, σ10 = q_wP σ9 x0 1 v3 → q_n σ10 < 10000000 ∧ ∀ v13 : Nat, v13 = q_n σ10 → ∀ σ14 : q_S, σ14 = q_new σ10 8 0 → 0 < v13 ∧ V_AL_init v13 σ14 (q_cv (fun σ19 => q_K σ19 x0 = 1 ∧ ∀ σ20 : q_S, σ20 = q_wP σ19 x0 2 v13 → q_n σ20 < 10000000 ∧ ∀ v23 : Nat, v23 = q_n σ20 → ∀ σ24 : q_S, σ24 = q_new σ20 8 0 → 0 < v23 ∧ V_AL_init v23 σ24 (q_cv (fun σ29 => q_K σ29 x0 = 1 ∧ ∀ σ30 : q_S, σ30 = q_wP σ29 x0 3 v23 → q_n σ30 < 10000000 ∧ ∀ v33 : Nat, v33 = q_n σ30 → ∀ σ34 : q_S, σ34 = q_new σ30 8 0 → 0 < v33 ∧ V_AL_init v33 σ34 (q_cv (fun σ39 => q_K σ39 x0 = 1 ∧ ∀ σ40 : q_S, σ40 = q_wP σ39 x0 4 v33 → q_n σ40 < 10000000 ∧ ∀ v43 : Nat, v43 = q_n σ40 → ∀ σ44 : q_S, σ44 = q_new σ40 1000 4 → q_K σ44 v43 = 1000 ∧ vp_in (0 : Int32) (q_Z σ44 v43) ∧ ∀ σ45 : q_S, σ45 = q_wI σ44 v43 (0 : Int32).toNatClampNeg (1 : Int32) → q_K σ45 v43 = 1000 ∧ vp_in (1 : Int32) (q_Z σ45 v43) ∧ ∀ σ48 : q_S, σ48 = q_wI σ45 v43 (1 : Int32).toNatClampNeg (1 : Int32) → q_K σ48 v43 = 1000 ∧ vp_in (2 : Int32) (q_Z σ48 v43) ∧ ∀ σ51 : q_S, σ51 = q_wI σ48 v43 (2 : Int32).toNatClampNeg (1 : Int32) → q_K σ51 v43 = 1000 ∧ vp_in (3 : Int32) (q_Z σ51 v43) ∧ ∀ σ54 : q_S, σ54 = q_wI σ51 v43 (3 : Int32).toNatClampNeg (0 : Int32) → q_K σ54 x0 = 1 ∧ ∀ σ57 : q_S, σ57 = q_wP σ54 x0 5 v43 → q_n σ57 < 10000000 ∧ ∀ v60 : Nat, v60 = q_n σ57 → ∀ σ61 : q_S, σ61 = q_new σ57 4 0 → 0 < v60 ∧ V_PG_init v60 (0 : Int32) σ61 (q_cv (fun σ66 => q_K σ66 x0 = 1 ∧ ∀ σ67 : q_S, σ67 = q_wP σ66 x0 6 v60 → q_n σ67 < 10000000 ∧ ∀ v70 : Nat, v70 = q_n σ67 → ∀ σ71 : q_S, σ71 = q_new σ67 4 0 → 0 < v70 ∧ V_PG_init v70 (1 : Int32) σ71 (q_cv (fun σ76 => q_K σ76 x0 = 1 ∧ ∀ σ77 : q_S, σ77 = q_wP σ76 x0 7 v70 → q_n σ77 < 10000000 ∧ ∀ v80 : Nat, v80 = q_n σ77 → ∀ σ81 : q_S, σ81 = q_new σ77 1000 24 → q_K σ81 x0 = 1 ∧ ∀ σ82 : q_S, σ82 = q_wP σ81 x0 8 v80 → q_K σ82 x0 = 1 ∧ ∀ σ84 : q_S, σ84 = q_wI σ82 x0 0 (f_MT_max (1 : Int32) (f_MT_min (4 : Int32) x1)) → R (.inl none) σ84) (fun n9 σ9 => R (.inr n9) σ9))) (fun n9 σ9 => R (.inr n9) σ9))) (fun n9 σ9 => R (.inr n9) σ9))) (fun n9 σ9 => R (.inr n9) σ9))) (fun n9 σ9 => R (.inr n9) σ9))) (fun n9 σ9 => R (.inr n9) σ9))
set_option maxRecDepth 100000 in
theorem t_PF_init {l : Launch} {cx : q_C} {x0 : Nat} {x1 : Int32} {σ : q_S} {R : q_O → q_S → Prop} (hV : V_PF_init x0 x1 σ R) : q_Ct l cx M_PF_init 4 256 12 146 [q_r x0, q_i x1] σ R := by
  refine q_Ct.of p_PF_init c_PF_init rfl (Nat.le_of_ble_eq_true rfl) ?_
  refine q_run k_PF_init 0 1 1 rfl ?_
  show q_G l cx M_PF_init 4 256 12 146 1 [(0, .inr (.inr x0)), (1, .inl x1)] [.inr (.inr x0)] σ R
  obtain ⟨s1, hV⟩ := hV
  refine q_objInit (q_dc k_PF_init 1 rfl) (List.mem_of_getElem? (i := 98) (by decide +kernel)) (List.mem_of_getElem? (i := 99) (by decide +kernel)) (List.mem_of_getElem? (i := 100) (by decide +kernel)) (Nat.le_of_ble_eq_true rfl) ⟨Nat.le_of_ble_eq_true rfl, Nat.le_of_ble_eq_true rfl⟩ s1 ?_
  show q_G l cx M_PF_init 4 256 12 146 4 [(0, .inr (.inr x0)), (1, .inl x1)] [] σ R
  refine q_run k_PF_init 2 1 5 rfl ?_
  show q_G l cx M_PF_init 4 256 12 146 5 [(0, .inr (.inr x0)), (1, .inl x1)] [.inr (.inr x0)] σ R
  obtain ⟨s2, hV⟩ := hV
  refine q_less (kc' := 11 + 1) (ks' := 143 + 3) (Nat.le_of_ble_eq_true rfl) (Nat.le_of_ble_eq_true rfl) ?_
  refine q_newo (ci := 7) (q_dc k_PF_init 3 rfl) rfl (List.mem_of_getElem? (i := 101) (by decide +kernel)) 3 (List.mem_of_getElem? (i := 102) (by decide +kernel)) (List.mem_of_getElem? (i := 69) (by decide +kernel)) s2 ?_
  refine q_let (fun v3 => q_G l cx M_PF_init 4 256 11 143 8 [(0, .inr (.inr x0)), (1, .inl x1)] [.inr (.inr v3), .inr (.inr x0)] (q_new σ 8 0) R) (q_n σ) (fun v3 e_v3 => ?_)
  have hV := hV v3 e_v3
  refine q_let (fun σ4 => q_G l cx M_PF_init 4 256 11 143 8 [(0, .inr (.inr x0)), (1, .inl x1)] [.inr (.inr v3), .inr (.inr x0)] σ4 R) (q_new σ 8 0) (fun σ4 e_σ4 => ?_)
  have hV := hV σ4 e_σ4
  refine q_run k_PF_init 4 1 9 rfl ?_
  show q_G l cx M_PF_init 4 256 11 143 9 [(0, .inr (.inr x0)), (1, .inl x1)] [.inr (.inr v3), .inr (.inr v3), .inr (.inr x0)] σ4 R
  obtain ⟨s5, hV⟩ := hV
  refine q_callI (st := [.inr (.inr v3), .inr (.inr x0)]) (as := []) (t_AL_init (l := l) (cx := cx)  hV) (q_dc k_PF_init 5 rfl) (Or.inl (List.mem_of_getElem? (i := 103) (by decide +kernel))) w_AL_init c_AL_init n_AL_init rfl a_AL_init (q_wt (Nat.le_of_ble_eq_true rfl)) ⟨Nat.le_of_ble_eq_true rfl, Nat.le_of_ble_eq_true rfl⟩ s5 (fun v9 τ9 q9 => ?_) (fun n9 τ9 q9 => q_T.leave rfl q9)
  obtain ⟨rfl, hV⟩ := q_cv_elim q9
  clear q9
  have hV := hV
  revert hV
  generalize τ9 = σ9
  intro hV
  show q_G l cx M_PF_init 4 256 11 143 12 [(0, .inr (.inr x0)), (1, .inl x1)] [.inr (.inr v3), .inr (.inr x0)] σ9 R
  refine q_run k_PF_init 6 1 15 rfl ?_
  show q_K σ9 x0 = 1 ∧ q_G l cx M_PF_init 4 256 11 143 15 [(0, .inr (.inr x0)), (1, .inl x1)] [] (q_wP σ9 x0 1 v3) R
  obtain ⟨s11, hV⟩ := hV
  refine ⟨s11, ?_⟩
  refine q_let (fun σ10 => q_G l cx M_PF_init 4 256 11 143 15 [(0, .inr (.inr x0)), (1, .inl x1)] [] σ10 R) (q_wP σ9 x0 1 v3) (fun σ10 e_σ10 => ?_)
  have hV := hV σ10 e_σ10
  refine q_run k_PF_init 7 1 16 rfl ?_
  show q_G l cx M_PF_init 4 256 11 143 16 [(0, .inr (.inr x0)), (1, .inl x1)] [.inr (.inr x0)] σ10 R
  obtain ⟨s12, hV⟩ := hV
  refine q_less (kc' := 10 + 1) (ks' := 140 + 3) (Nat.le_of_ble_eq_true rfl) (Nat.le_of_ble_eq_true rfl) ?_
  refine q_newo (ci := 7) (q_dc k_PF_init 8 rfl) rfl (List.mem_of_getElem? (i := 101) (by decide +kernel)) 3 (List.mem_of_getElem? (i := 102) (by decide +kernel)) (List.mem_of_getElem? (i := 69) (by decide +kernel)) s12 ?_
  refine q_let (fun v13 => q_G l cx M_PF_init 4 256 10 140 19 [(0, .inr (.inr x0)), (1, .inl x1)] [.inr (.inr v13), .inr (.inr x0)] (q_new σ10 8 0) R) (q_n σ10) (fun v13 e_v13 => ?_)
  have hV := hV v13 e_v13
  refine q_let (fun σ14 => q_G l cx M_PF_init 4 256 10 140 19 [(0, .inr (.inr x0)), (1, .inl x1)] [.inr (.inr v13), .inr (.inr x0)] σ14 R) (q_new σ10 8 0) (fun σ14 e_σ14 => ?_)
  have hV := hV σ14 e_σ14
  refine q_run k_PF_init 9 1 20 rfl ?_
  show q_G l cx M_PF_init 4 256 10 140 20 [(0, .inr (.inr x0)), (1, .inl x1)] [.inr (.inr v13), .inr (.inr v13), .inr (.inr x0)] σ14 R
  obtain ⟨s15, hV⟩ := hV
  refine q_callI (st := [.inr (.inr v13), .inr (.inr x0)]) (as := []) (t_AL_init (l := l) (cx := cx)  hV) (q_dc k_PF_init 10 rfl) (Or.inl (List.mem_of_getElem? (i := 103) (by decide +kernel))) w_AL_init c_AL_init n_AL_init rfl a_AL_init (q_wt (Nat.le_of_ble_eq_true rfl)) ⟨Nat.le_of_ble_eq_true rfl, Nat.le_of_ble_eq_true rfl⟩ s15 (fun v9 τ9 q9 => ?_) (fun n9 τ9 q9 => q_T.leave rfl q9)
  obtain ⟨rfl, hV⟩ := q_cv_elim q9
  clear q9
  have hV := hV
  revert hV
  generalize τ9 = σ19
  intro hV
  show q_G l cx M_PF_init 4 256 10 140 23 [(0, .inr (.inr x0)), (1, .inl x1)] [.inr (.inr v13), .inr (.inr x0)] σ19 R
  refine q_run k_PF_init 11 1 26 rfl ?_
  show q_K σ19 x0 = 1 ∧ q_G l cx M_PF_init 4 256 10 140 26 [(0, .inr (.inr x0)), (1, .inl x1)] [] (q_wP σ19 x0 2 v13) R
  obtain ⟨s21, hV⟩ := hV
  refine ⟨s21, ?_⟩
  refine q_let (fun σ20 => q_G l cx M_PF_init 4 256 10 140 26 [(0, .inr (.inr x0)), (1, .inl x1)] [] σ20 R) (q_wP σ19 x0 2 v13) (fun σ20 e_σ20 => ?_)
  have hV := hV σ20 e_σ20
  refine q_run k_PF_init 12 1 27 rfl ?_
  show q_G l cx M_PF_init 4 256 10 140 27 [(0, .inr (.inr x0)), (1, .inl x1)] [.inr (.inr x0)] σ20 R
  obtain ⟨s22, hV⟩ := hV
  refine q_less (kc' := 9 + 1) (ks' := 137 + 3) (Nat.le_of_ble_eq_true rfl) (Nat.le_of_ble_eq_true rfl) ?_
  refine q_newo (ci := 7) (q_dc k_PF_init 13 rfl) rfl (List.mem_of_getElem? (i := 101) (by decide +kernel)) 3 (List.mem_of_getElem? (i := 102) (by decide +kernel)) (List.mem_of_getElem? (i := 69) (by decide +kernel)) s22 ?_
  refine q_let (fun v23 => q_G l cx M_PF_init 4 256 9 137 30 [(0, .inr (.inr x0)), (1, .inl x1)] [.inr (.inr v23), .inr (.inr x0)] (q_new σ20 8 0) R) (q_n σ20) (fun v23 e_v23 => ?_)
  have hV := hV v23 e_v23
  refine q_let (fun σ24 => q_G l cx M_PF_init 4 256 9 137 30 [(0, .inr (.inr x0)), (1, .inl x1)] [.inr (.inr v23), .inr (.inr x0)] σ24 R) (q_new σ20 8 0) (fun σ24 e_σ24 => ?_)
  have hV := hV σ24 e_σ24
  refine q_run k_PF_init 14 1 31 rfl ?_
  show q_G l cx M_PF_init 4 256 9 137 31 [(0, .inr (.inr x0)), (1, .inl x1)] [.inr (.inr v23), .inr (.inr v23), .inr (.inr x0)] σ24 R
  obtain ⟨s25, hV⟩ := hV
  refine q_callI (st := [.inr (.inr v23), .inr (.inr x0)]) (as := []) (t_AL_init (l := l) (cx := cx)  hV) (q_dc k_PF_init 15 rfl) (Or.inl (List.mem_of_getElem? (i := 103) (by decide +kernel))) w_AL_init c_AL_init n_AL_init rfl a_AL_init (q_wt (Nat.le_of_ble_eq_true rfl)) ⟨Nat.le_of_ble_eq_true rfl, Nat.le_of_ble_eq_true rfl⟩ s25 (fun v9 τ9 q9 => ?_) (fun n9 τ9 q9 => q_T.leave rfl q9)
  obtain ⟨rfl, hV⟩ := q_cv_elim q9
  clear q9
  have hV := hV
  revert hV
  generalize τ9 = σ29
  intro hV
  show q_G l cx M_PF_init 4 256 9 137 34 [(0, .inr (.inr x0)), (1, .inl x1)] [.inr (.inr v23), .inr (.inr x0)] σ29 R
  refine q_run k_PF_init 16 1 37 rfl ?_
  show q_K σ29 x0 = 1 ∧ q_G l cx M_PF_init 4 256 9 137 37 [(0, .inr (.inr x0)), (1, .inl x1)] [] (q_wP σ29 x0 3 v23) R
  obtain ⟨s31, hV⟩ := hV
  refine ⟨s31, ?_⟩
  refine q_let (fun σ30 => q_G l cx M_PF_init 4 256 9 137 37 [(0, .inr (.inr x0)), (1, .inl x1)] [] σ30 R) (q_wP σ29 x0 3 v23) (fun σ30 e_σ30 => ?_)
  have hV := hV σ30 e_σ30
  refine q_run k_PF_init 17 1 38 rfl ?_
  show q_G l cx M_PF_init 4 256 9 137 38 [(0, .inr (.inr x0)), (1, .inl x1)] [.inr (.inr x0)] σ30 R
  obtain ⟨s32, hV⟩ := hV
  refine q_less (kc' := 8 + 1) (ks' := 134 + 3) (Nat.le_of_ble_eq_true rfl) (Nat.le_of_ble_eq_true rfl) ?_
  refine q_newo (ci := 7) (q_dc k_PF_init 18 rfl) rfl (List.mem_of_getElem? (i := 101) (by decide +kernel)) 3 (List.mem_of_getElem? (i := 102) (by decide +kernel)) (List.mem_of_getElem? (i := 69) (by decide +kernel)) s32 ?_
  refine q_let (fun v33 => q_G l cx M_PF_init 4 256 8 134 41 [(0, .inr (.inr x0)), (1, .inl x1)] [.inr (.inr v33), .inr (.inr x0)] (q_new σ30 8 0) R) (q_n σ30) (fun v33 e_v33 => ?_)
  have hV := hV v33 e_v33
  refine q_let (fun σ34 => q_G l cx M_PF_init 4 256 8 134 41 [(0, .inr (.inr x0)), (1, .inl x1)] [.inr (.inr v33), .inr (.inr x0)] σ34 R) (q_new σ30 8 0) (fun σ34 e_σ34 => ?_)
  have hV := hV σ34 e_σ34
  refine q_run k_PF_init 19 1 42 rfl ?_
  show q_G l cx M_PF_init 4 256 8 134 42 [(0, .inr (.inr x0)), (1, .inl x1)] [.inr (.inr v33), .inr (.inr v33), .inr (.inr x0)] σ34 R
  obtain ⟨s35, hV⟩ := hV
  refine q_callI (st := [.inr (.inr v33), .inr (.inr x0)]) (as := []) (t_AL_init (l := l) (cx := cx)  hV) (q_dc k_PF_init 20 rfl) (Or.inl (List.mem_of_getElem? (i := 103) (by decide +kernel))) w_AL_init c_AL_init n_AL_init rfl a_AL_init (q_wt (Nat.le_of_ble_eq_true rfl)) ⟨Nat.le_of_ble_eq_true rfl, Nat.le_of_ble_eq_true rfl⟩ s35 (fun v9 τ9 q9 => ?_) (fun n9 τ9 q9 => q_T.leave rfl q9)
  obtain ⟨rfl, hV⟩ := q_cv_elim q9
  clear q9
  have hV := hV
  revert hV
  generalize τ9 = σ39
  intro hV
  show q_G l cx M_PF_init 4 256 8 134 45 [(0, .inr (.inr x0)), (1, .inl x1)] [.inr (.inr v33), .inr (.inr x0)] σ39 R
  refine q_run k_PF_init 21 1 48 rfl ?_
  show q_K σ39 x0 = 1 ∧ q_G l cx M_PF_init 4 256 8 134 48 [(0, .inr (.inr x0)), (1, .inl x1)] [] (q_wP σ39 x0 4 v33) R
  obtain ⟨s41, hV⟩ := hV
  refine ⟨s41, ?_⟩
  refine q_let (fun σ40 => q_G l cx M_PF_init 4 256 8 134 48 [(0, .inr (.inr x0)), (1, .inl x1)] [] σ40 R) (q_wP σ39 x0 4 v33) (fun σ40 e_σ40 => ?_)
  have hV := hV σ40 e_σ40
  refine q_run k_PF_init 22 2 50 rfl ?_
  show q_G l cx M_PF_init 4 256 8 134 50 [(0, .inr (.inr x0)), (1, .inl x1)] [.inl (4 : Int32), .inr (.inr x0)] σ40 R
  obtain ⟨s42, hV⟩ := hV
  refine q_less (kc' := 7 + 1) (ks' := 130 + 4) (Nat.le_of_ble_eq_true rfl) (Nat.le_of_ble_eq_true rfl) ?_
  refine q_newa (t := 0) (N := 4) (q_dc k_PF_init 24 rfl) rfl (by decide) (fun _ _ h => h) (List.mem_of_getElem? (i := 139) (by decide +kernel)) (fun j9 => q_fv_new rfl) (by decide) ⟨by decide, by decide⟩ s42 ?_
  refine q_let (fun v43 => q_G l cx M_PF_init 4 256 7 130 52 [(0, .inr (.inr x0)), (1, .inl x1)] [.inr (.inr v43), .inr (.inr x0)] (q_new σ40 1000 4) R) (q_n σ40) (fun v43 e_v43 => ?_)
  have hV := hV v43 e_v43
  refine q_let (fun σ44 => q_G l cx M_PF_init 4 256 7 130 52 [(0, .inr (.inr x0)), (1, .inl x1)] [.inr (.inr v43), .inr (.inr x0)] σ44 R) (q_new σ40 1000 4) (fun σ44 e_σ44 => ?_)
  have hV := hV σ44 e_σ44
  refine q_run k_PF_init 25 4 56 rfl ?_
  show q_K σ44 v43 = 1000 ∧ vp_in (0 : Int32) (q_Z σ44 v43) ∧ q_G l cx M_PF_init 4 256 7 130 56 [(0, .inr (.inr x0)), (1, .inl x1)] [.inr (.inr v43), .inr (.inr x0)] (q_wI σ44 v43 (0 : Int32).toNatClampNeg (1 : Int32)) R
  obtain ⟨s46, s47, hV⟩ := hV
  refine ⟨s46, s47, ?_⟩
  refine q_let (fun σ45 => q_G l cx M_PF_init 4 256 7 130 56 [(0, .inr (.inr x0)), (1, .inl x1)] [.inr (.inr v43), .inr (.inr x0)] σ45 R) (q_wI σ44 v43 (0 : Int32).toNatClampNeg (1 : Int32)) (fun σ45 e_σ45 => ?_)
  have hV := hV σ45 e_σ45
  refine q_run k_PF_init 29 4 60 rfl ?_
  show q_K σ45 v43 = 1000 ∧ vp_in (1 : Int32) (q_Z σ45 v43) ∧ q_G l cx M_PF_init 4 256 7 130 60 [(0, .inr (.inr x0)), (1, .inl x1)] [.inr (.inr v43), .inr (.inr x0)] (q_wI σ45 v43 (1 : Int32).toNatClampNeg (1 : Int32)) R
  obtain ⟨s49, s50, hV⟩ := hV
  refine ⟨s49, s50, ?_⟩
  refine q_let (fun σ48 => q_G l cx M_PF_init 4 256 7 130 60 [(0, .inr (.inr x0)), (1, .inl x1)] [.inr (.inr v43), .inr (.inr x0)] σ48 R) (q_wI σ45 v43 (1 : Int32).toNatClampNeg (1 : Int32)) (fun σ48 e_σ48 => ?_)
  have hV := hV σ48 e_σ48
  refine q_run k_PF_init 33 4 64 rfl ?_
  show q_K σ48 v43 = 1000 ∧ vp_in (2 : Int32) (q_Z σ48 v43) ∧ q_G l cx M_PF_init 4 256 7 130 64 [(0, .inr (.inr x0)), (1, .inl x1)] [.inr (.inr v43), .inr (.inr x0)] (q_wI σ48 v43 (2 : Int32).toNatClampNeg (1 : Int32)) R
  obtain ⟨s52, s53, hV⟩ := hV
  refine ⟨s52, s53, ?_⟩
  refine q_let (fun σ51 => q_G l cx M_PF_init 4 256 7 130 64 [(0, .inr (.inr x0)), (1, .inl x1)] [.inr (.inr v43), .inr (.inr x0)] σ51 R) (q_wI σ48 v43 (2 : Int32).toNatClampNeg (1 : Int32)) (fun σ51 e_σ51 => ?_)
  have hV := hV σ51 e_σ51
  refine q_run k_PF_init 37 4 68 rfl ?_
  show q_K σ51 v43 = 1000 ∧ vp_in (3 : Int32) (q_Z σ51 v43) ∧ q_G l cx M_PF_init 4 256 7 130 68 [(0, .inr (.inr x0)), (1, .inl x1)] [.inr (.inr v43), .inr (.inr x0)] (q_wI σ51 v43 (3 : Int32).toNatClampNeg (0 : Int32)) R
  obtain ⟨s55, s56, hV⟩ := hV
  refine ⟨s55, s56, ?_⟩
  refine q_let (fun σ54 => q_G l cx M_PF_init 4 256 7 130 68 [(0, .inr (.inr x0)), (1, .inl x1)] [.inr (.inr v43), .inr (.inr x0)] σ54 R) (q_wI σ51 v43 (3 : Int32).toNatClampNeg (0 : Int32)) (fun σ54 e_σ54 => ?_)
  have hV := hV σ54 e_σ54
  refine q_run k_PF_init 41 1 71 rfl ?_
  show q_K σ54 x0 = 1 ∧ q_G l cx M_PF_init 4 256 7 130 71 [(0, .inr (.inr x0)), (1, .inl x1)] [] (q_wP σ54 x0 5 v43) R
  obtain ⟨s58, hV⟩ := hV
  refine ⟨s58, ?_⟩
  refine q_let (fun σ57 => q_G l cx M_PF_init 4 256 7 130 71 [(0, .inr (.inr x0)), (1, .inl x1)] [] σ57 R) (q_wP σ54 x0 5 v43) (fun σ57 e_σ57 => ?_)
  have hV := hV σ57 e_σ57
  refine q_run k_PF_init 42 1 72 rfl ?_
  show q_G l cx M_PF_init 4 256 7 130 72 [(0, .inr (.inr x0)), (1, .inl x1)] [.inr (.inr x0)] σ57 R
  obtain ⟨s59, hV⟩ := hV
  refine q_less (kc' := 6 + 1) (ks' := 125 + 5) (Nat.le_of_ble_eq_true rfl) (Nat.le_of_ble_eq_true rfl) ?_
  refine q_newo (ci := 3) (q_dc k_PF_init 43 rfl) rfl (List.mem_of_getElem? (i := 123) (by decide +kernel)) 5 (List.mem_of_getElem? (i := 124) (by decide +kernel)) (List.mem_of_getElem? (i := 70) (by decide +kernel)) s59 ?_
  refine q_let (fun v60 => q_G l cx M_PF_init 4 256 6 125 75 [(0, .inr (.inr x0)), (1, .inl x1)] [.inr (.inr v60), .inr (.inr x0)] (q_new σ57 4 0) R) (q_n σ57) (fun v60 e_v60 => ?_)
  have hV := hV v60 e_v60
  refine q_let (fun σ61 => q_G l cx M_PF_init 4 256 6 125 75 [(0, .inr (.inr x0)), (1, .inl x1)] [.inr (.inr v60), .inr (.inr x0)] σ61 R) (q_new σ57 4 0) (fun σ61 e_σ61 => ?_)
  have hV := hV σ61 e_σ61
  refine q_run k_PF_init 44 2 77 rfl ?_
  show q_G l cx M_PF_init 4 256 6 125 77 [(0, .inr (.inr x0)), (1, .inl x1)] [.inl (0 : Int32), .inr (.inr v60), .inr (.inr v60), .inr (.inr x0)] σ61 R
  obtain ⟨s62, hV⟩ := hV
  refine q_less (kc' := 4 + 2) (ks' := 77 + 48) (Nat.le_of_ble_eq_true rfl) (Nat.le_of_ble_eq_true rfl) ?_
  refine q_callI (st := [.inr (.inr v60), .inr (.inr x0)]) (as := [.inl (0 : Int32)]) (t_PG_init (l := l) (cx := cx)  hV) (q_dc k_PF_init 46 rfl) (Or.inr ⟨"PlaneFills", List.mem_of_getElem? (i := 0) (by decide +kernel)⟩) w_PG_init c_PG_init n_PG_init rfl a_PG_init (q_wt (Nat.le_of_ble_eq_true rfl)) ⟨Nat.le_of_ble_eq_true rfl, Nat.le_of_ble_eq_true rfl⟩ s62 (fun v9 τ9 q9 => ?_) (fun n9 τ9 q9 => q_T.leave rfl q9)
  obtain ⟨rfl, hV⟩ := q_cv_elim q9
  clear q9
  have hV := hV
  revert hV
  generalize τ9 = σ66
  intro hV
  show q_G l cx M_PF_init 4 256 4 77 80 [(0, .inr (.inr x0)), (1, .inl x1)] [.inr (.inr v60), .inr (.inr x0)] σ66 R
  refine q_run k_PF_init 47 1 83 rfl ?_
  show q_K σ66 x0 = 1 ∧ q_G l cx M_PF_init 4 256 4 77 83 [(0, .inr (.inr x0)), (1, .inl x1)] [] (q_wP σ66 x0 6 v60) R
  obtain ⟨s68, hV⟩ := hV
  refine ⟨s68, ?_⟩
  refine q_let (fun σ67 => q_G l cx M_PF_init 4 256 4 77 83 [(0, .inr (.inr x0)), (1, .inl x1)] [] σ67 R) (q_wP σ66 x0 6 v60) (fun σ67 e_σ67 => ?_)
  have hV := hV σ67 e_σ67
  refine q_run k_PF_init 48 1 84 rfl ?_
  show q_G l cx M_PF_init 4 256 4 77 84 [(0, .inr (.inr x0)), (1, .inl x1)] [.inr (.inr x0)] σ67 R
  obtain ⟨s69, hV⟩ := hV
  refine q_less (kc' := 3 + 1) (ks' := 72 + 5) (Nat.le_of_ble_eq_true rfl) (Nat.le_of_ble_eq_true rfl) ?_
  refine q_newo (ci := 3) (q_dc k_PF_init 49 rfl) rfl (List.mem_of_getElem? (i := 123) (by decide +kernel)) 5 (List.mem_of_getElem? (i := 124) (by decide +kernel)) (List.mem_of_getElem? (i := 70) (by decide +kernel)) s69 ?_
  refine q_let (fun v70 => q_G l cx M_PF_init 4 256 3 72 87 [(0, .inr (.inr x0)), (1, .inl x1)] [.inr (.inr v70), .inr (.inr x0)] (q_new σ67 4 0) R) (q_n σ67) (fun v70 e_v70 => ?_)
  have hV := hV v70 e_v70
  refine q_let (fun σ71 => q_G l cx M_PF_init 4 256 3 72 87 [(0, .inr (.inr x0)), (1, .inl x1)] [.inr (.inr v70), .inr (.inr x0)] σ71 R) (q_new σ67 4 0) (fun σ71 e_σ71 => ?_)
  have hV := hV σ71 e_σ71
  refine q_run k_PF_init 50 2 89 rfl ?_
  show q_G l cx M_PF_init 4 256 3 72 89 [(0, .inr (.inr x0)), (1, .inl x1)] [.inl (1 : Int32), .inr (.inr v70), .inr (.inr v70), .inr (.inr x0)] σ71 R
  obtain ⟨s72, hV⟩ := hV
  refine q_less (kc' := 1 + 2) (ks' := 24 + 48) (Nat.le_of_ble_eq_true rfl) (Nat.le_of_ble_eq_true rfl) ?_
  refine q_callI (st := [.inr (.inr v70), .inr (.inr x0)]) (as := [.inl (1 : Int32)]) (t_PG_init (l := l) (cx := cx)  hV) (q_dc k_PF_init 52 rfl) (Or.inr ⟨"PlaneFills", List.mem_of_getElem? (i := 0) (by decide +kernel)⟩) w_PG_init c_PG_init n_PG_init rfl a_PG_init (q_wt (Nat.le_of_ble_eq_true rfl)) ⟨Nat.le_of_ble_eq_true rfl, Nat.le_of_ble_eq_true rfl⟩ s72 (fun v9 τ9 q9 => ?_) (fun n9 τ9 q9 => q_T.leave rfl q9)
  obtain ⟨rfl, hV⟩ := q_cv_elim q9
  clear q9
  have hV := hV
  revert hV
  generalize τ9 = σ76
  intro hV
  show q_G l cx M_PF_init 4 256 1 24 92 [(0, .inr (.inr x0)), (1, .inl x1)] [.inr (.inr v70), .inr (.inr x0)] σ76 R
  refine q_run k_PF_init 53 1 95 rfl ?_
  show q_K σ76 x0 = 1 ∧ q_G l cx M_PF_init 4 256 1 24 95 [(0, .inr (.inr x0)), (1, .inl x1)] [] (q_wP σ76 x0 7 v70) R
  obtain ⟨s78, hV⟩ := hV
  refine ⟨s78, ?_⟩
  refine q_let (fun σ77 => q_G l cx M_PF_init 4 256 1 24 95 [(0, .inr (.inr x0)), (1, .inl x1)] [] σ77 R) (q_wP σ76 x0 7 v70) (fun σ77 e_σ77 => ?_)
  have hV := hV σ77 e_σ77
  refine q_run k_PF_init 54 2 98 rfl ?_
  show q_G l cx M_PF_init 4 256 1 24 98 [(0, .inr (.inr x0)), (1, .inl x1)] [.inl (24 : Int32), .inr (.inr x0)] σ77 R
  obtain ⟨s79, hV⟩ := hV
  refine q_less (kc' := 0 + 1) (ks' := 0 + 24) (Nat.le_of_ble_eq_true rfl) (Nat.le_of_ble_eq_true rfl) ?_
  refine q_newa (t := 0) (N := 24) (q_dc k_PF_init 56 rfl) rfl (by decide) (fun _ _ h => h) (List.mem_of_getElem? (i := 139) (by decide +kernel)) (fun j9 => q_fv_new rfl) (by decide) ⟨by decide, by decide⟩ s79 ?_
  refine q_let (fun v80 => q_G l cx M_PF_init 4 256 0 0 100 [(0, .inr (.inr x0)), (1, .inl x1)] [.inr (.inr v80), .inr (.inr x0)] (q_new σ77 1000 24) R) (q_n σ77) (fun v80 e_v80 => ?_)
  have hV := hV v80 e_v80
  refine q_let (fun σ81 => q_G l cx M_PF_init 4 256 0 0 100 [(0, .inr (.inr x0)), (1, .inl x1)] [.inr (.inr v80), .inr (.inr x0)] σ81 R) (q_new σ77 1000 24) (fun σ81 e_σ81 => ?_)
  have hV := hV σ81 e_σ81
  refine q_run k_PF_init 57 1 103 rfl ?_
  show q_K σ81 x0 = 1 ∧ q_G l cx M_PF_init 4 256 0 0 103 [(0, .inr (.inr x0)), (1, .inl x1)] [] (q_wP σ81 x0 8 v80) R
  obtain ⟨s83, hV⟩ := hV
  refine ⟨s83, ?_⟩
  refine q_let (fun σ82 => q_G l cx M_PF_init 4 256 0 0 103 [(0, .inr (.inr x0)), (1, .inl x1)] [] σ82 R) (q_wP σ81 x0 8 v80) (fun σ82 e_σ82 => ?_)
  have hV := hV σ82 e_σ82
  refine q_run k_PF_init 58 4 107 rfl ?_
  show q_G l cx M_PF_init 4 256 0 0 107 [(0, .inr (.inr x0)), (1, .inl x1)] [.inl x1, .inl (4 : Int32), .inl (1 : Int32), .inr (.inr x0)] σ82 R
  refine q_callS (st := [.inl (1 : Int32), .inr (.inr x0)]) (t_MT_min (l := l) (cx := cx) (σ := σ82) (4 : Int32) x1) (q_dc k_PF_init 62 rfl) (Or.inl (List.mem_of_getElem? (i := 140) (by decide +kernel))) w_MT_min s_MT_min a_MT_min (q_wt (Nat.le_of_ble_eq_true rfl)) ⟨Nat.le_of_ble_eq_true rfl, Nat.le_of_ble_eq_true rfl⟩ (fun v9 τ9 q9 => ?_) (fun n9 τ9 q9 => by cases q9.1)
  obtain ⟨q8, q7⟩ := q9
  cases q8
  rw [q7]
  show q_G l cx M_PF_init 4 256 0 0 110 [(0, .inr (.inr x0)), (1, .inl x1)] [.inl (f_MT_min (4 : Int32) x1), .inl (1 : Int32), .inr (.inr x0)] σ82 R
  refine q_callS (st := [.inr (.inr x0)]) (t_MT_max (l := l) (cx := cx) (σ := σ82) (1 : Int32) (f_MT_min (4 : Int32) x1)) (q_dc k_PF_init 63 rfl) (Or.inl (List.mem_of_getElem? (i := 143) (by decide +kernel))) w_MT_max s_MT_max a_MT_max (q_wt (Nat.le_of_ble_eq_true rfl)) ⟨Nat.le_of_ble_eq_true rfl, Nat.le_of_ble_eq_true rfl⟩ (fun v9 τ9 q9 => ?_) (fun n9 τ9 q9 => by cases q9.1)
  obtain ⟨q8, q7⟩ := q9
  cases q8
  rw [q7]
  show q_G l cx M_PF_init 4 256 0 0 113 [(0, .inr (.inr x0)), (1, .inl x1)] [.inl (f_MT_max (1 : Int32) (f_MT_min (4 : Int32) x1)), .inr (.inr x0)] σ82 R
  refine q_run k_PF_init 64 1 116 rfl ?_
  show q_K σ82 x0 = 1 ∧ q_G l cx M_PF_init 4 256 0 0 116 [(0, .inr (.inr x0)), (1, .inl x1)] [] (q_wI σ82 x0 0 (f_MT_max (1 : Int32) (f_MT_min (4 : Int32) x1))) R
  obtain ⟨s85, hV⟩ := hV
  refine ⟨s85, ?_⟩
  refine q_let (fun σ84 => q_G l cx M_PF_init 4 256 0 0 116 [(0, .inr (.inr x0)), (1, .inl x1)] [] σ84 R) (q_wI σ82 x0 0 (f_MT_max (1 : Int32) (f_MT_min (4 : Int32) x1))) (fun σ84 e_σ84 => ?_)
  have hV := hV σ84 e_σ84
  exact q_vreturn (q_dc k_PF_init 65 rfl) rfl hV
def V_PM_init (x0 : Nat) (x1 : Int32) (σ : q_S) (R : q_O → q_S → Prop) : Prop :=
  ∀ (P243 : Nat → Int32 → Nat → q_S → Prop),
  (∀ (x0 : Nat) (y0 : Int32) (y1 : Nat) (σ : q_S), (q_K σ y1 = 7 ∧ ∀ σ1 : q_S, σ1 = q_wI σ y1 1 y0 → q_K σ1 x0 = 7 ∧ q_K σ1 (q_P σ1 x0 20) = 1000 ∧ vp_in (0 : Int32) (q_Z σ1 (q_P σ1 x0 20)) ∧ ∀ σ3 : q_S, σ3 = q_wI σ1 (q_P σ1 x0 20) (0 : Int32).toNatClampNeg (1 : Int32) → q_K σ3 x0 = 7 ∧ q_K σ3 (q_P σ3 x0 20) = 1000 ∧ vp_in (1 : Int32) (q_Z σ3 (q_P σ3 x0 20)) ∧ ∀ σ7 : q_S, σ7 = q_wI σ3 (q_P σ3 x0 20) (1 : Int32).toNatClampNeg (1 : Int32) → q_K σ7 x0 = 7 ∧ q_K σ7 (q_P σ7 x0 20) = 1000 ∧ vp_in (2 : Int32) (q_Z σ7 (q_P σ7 x0 20)) ∧ ∀ σ11 : q_S, σ11 = q_wI σ7 (q_P σ7 x0 20) (2 : Int32).toNatClampNeg (1 : Int32) → R (.inl none) σ11) → P243 x0 y0 y1 σ) →
  0 < x0 ∧ q_n σ < 10000000 ∧ ∀ v3 : Nat, v3 = q_n σ → ∀ σ4 : q_S, σ4 = q_new σ 1000 8 → q_K σ4 x0 = 7 ∧ ∀ σ5 : q_S, σ5 = q_wP σ4 x0 3 v3 → q_n σ5 < 10000000 ∧ ∀ v8 : Nat, v8 = q_n σ5 → ∀ σ9 : q_S, σ9 = q_new σ5 1000 8 → q_K σ9 x0 = 7 ∧ ∀ σ10 : q_S, σ10 = q_wP σ9 x0 4 v8 → q_n σ10 < 10000000 ∧ ∀ v13 : Nat, v13 = q_n σ10 → ∀ σ14 : q_S, σ14 = q_new σ10 1000 8 → q_K σ14 x0 = 7 ∧ ∀ σ15 : q_S, σ15 = q_wP σ14 x0 5 v13 → q_n σ15 < 10000000 ∧ ∀ v18 : Nat, v18 = q_n σ15 → ∀ σ19 : q_S, σ19 = q_new σ15 1000 8 → q_K σ19 x0 = 7 ∧ ∀ σ20 : q_S, σ20 = q_wP σ19 x0 6 v18 → q_n σ20 < 10000000 ∧ ∀ v23 : Nat, v23 = q_n σ20 → ∀ σ24 : q_S, σ24 = q_new σ20 1000 32 → q_K σ24 x0 = 7 ∧ ∀ σ25 : q_S, σ25 = q_wP σ24 x0 7 v23 → q_n σ25 < 10000000 ∧ ∀ v28 : Nat, v28 = q_n σ25 → ∀ σ29 : q_S, σ29 = q_new σ25 1001 384 → q_K σ29 x0 = 7 ∧ ∀ σ30 : q_S, σ30 = q_wP σ29 x0 8 v28 → q_n σ30 < 10000000 ∧ ∀ v33 : Nat, v33 = q_n σ30 → ∀ σ34 : q_S, σ34 = q_new σ30 1001 384 → q_K σ34 x0 = 7 ∧ ∀ σ35 : q_S, σ35 = q_wP σ34 x0 9 v33 → q_n σ35 < 10000000 ∧ ∀ v38 : Nat, v38 = q_n σ35 → ∀ σ39 : q_S, σ39 = q_new σ35 1000 8 → q_K σ39 x0 = 7 ∧ ∀ σ40 : q_S, σ40 = q_wP σ39 x0 10 v38 → q_n σ40 < 10000000 ∧ ∀ v43 : Nat, v43 = q_n σ40 → ∀ σ44 : q_S, σ44 = q_new σ40 1000 8 → q_K σ44 x0 = 7 ∧ ∀ σ45 : q_S, σ45 = q_wP σ44 x0 11 v43 → q_n σ45 < 10000000 ∧ ∀ v48 : Nat, v48 = q_n σ45 → ∀ σ49 : q_S, σ49 = q_new σ45 1000 20 → q_K σ49 x0 = 7 ∧ ∀ σ50 : q_S, σ50 = q_wP σ49 x0 13 v48 → q_n σ50 < 10000000 ∧ ∀ v53 : Nat, v53 = q_n σ50 → ∀ σ54 : q_S, σ54 = q_new σ50 1000 20 → q_K σ54 x0 = 7 ∧ ∀ σ55 : q_S, σ55 = q_wP σ54 x0 14 v53 → q_n σ55 < 10000000 ∧ ∀ v58 : Nat, v58 = q_n σ55 → ∀ σ59 : q_S, σ59 = q_new σ55 1001 60 → q_K σ59 x0 = 7 ∧ ∀ σ60 : q_S, σ60 = q_wP σ59 x0 15 v58 → q_n σ60 < 10000000 ∧ ∀ v63 : Nat, v63 = q_n σ60 → ∀ σ64 : q_S, σ64 = q_new σ60 1000 10 → q_K σ64 x0 = 7 ∧ ∀ σ65 : q_S, σ65 = q_wP σ64 x0 17 v63 → q_n σ65 < 10000000 ∧ ∀ v68 : Nat, v68 = q_n σ65 → ∀ σ69 : q_S, σ69 = q_new σ65 1000 10 → q_K σ69 x0 = 7 ∧ ∀ σ70 : q_S, σ70 = q_wP σ69 x0 18 v68 → q_n σ70 < 10000000 ∧ ∀ v73 : Nat, v73 = q_n σ70 → ∀ σ74 : q_S, σ74 = q_new σ70 1000 40 → q_K σ74 x0 = 7 ∧ ∀ σ75 : q_S, σ75 = q_wP σ74 x0 19 v73 → q_n σ75 < 10000000 ∧ ∀ v78 : Nat, v78 = q_n σ75 → ∀ σ79 : q_S, σ79 = q_new σ75 1000 4 → q_K σ79 x0 = 7 ∧ ∀ σ80 : q_S, σ80 = q_wP σ79 x0 20 v78 → q_n σ80 < 10000000 ∧ ∀ v83 : Nat, v83 = q_n σ80 → ∀ σ84 : q_S, σ84 = q_new σ80 1001 192 → q_K σ84 x0 = 7 ∧ ∀ σ85 : q_S, σ85 = q_wP σ84 x0 21 v83 → q_n σ85 < 10000000 ∧ ∀ v88 : Nat, v88 = q_n σ85 → ∀ σ89 : q_S, σ89 = q_new σ85 1001 192 → q_K σ89 x0 = 7 ∧ ∀ σ90 : q_S, σ90 = q_wP σ89 x0 22 v88 → q_n σ90 < 10000000 ∧ ∀ v93 : Nat, v93 = q_n σ90 → ∀ σ94 : q_S, σ94 = q_new σ90 1000 8 → q_K σ94 x0 = 7 ∧ ∀ σ95 : q_S, σ95 = q_wP σ94 x0 23 v93 → q_n σ95 < 10000000 ∧ ∀ v98 : Nat, v98 = q_n σ95 → ∀ σ99 : q_S, σ99 = q_new σ95 1003 8 → q_K σ99 x0 = 7 ∧ ∀ σ100 : q_S, σ100 = q_wP σ99 x0 24 v98 → q_n σ100 < 10000000 ∧ ∀ v103 : Nat, v103 = q_n σ100 → ∀ σ104 : q_S, σ104 = q_new σ100 1000 8 → q_K σ104 x0 = 7 ∧ ∀ σ105 : q_S, σ105 = q_wP σ104 x0 25 v103 → q_n σ105 < 10000000 ∧ ∀ v108 : Nat, v108 = q_n σ105 → ∀ σ109 : q_S, σ109 = q_new σ105 1003 8 → q_K σ109 x0 = 7 ∧ ∀ σ110 : q_S, σ110 = q_wP σ109 x0 26 v108 → q_n σ110 < 10000000 ∧ ∀ v113 : Nat, v113 = q_n σ110 → ∀ σ114 : q_S, σ114 = q_new σ110 1003 8 → q_K σ114 x0 = 7 ∧ ∀ σ115 : q_S, σ115 = q_wP σ114 x0 27 v113 → q_n σ115 < 10000000 ∧ ∀ v118 : Nat, v118 = q_n σ115 → ∀ σ119 : q_S, σ119 = q_new σ115 1001 24 → q_K σ119 x0 = 7 ∧ ∀ σ120 : q_S, σ120 = q_wP σ119 x0 28 v118 → q_n σ120 < 10000000 ∧ ∀ v123 : Nat, v123 = q_n σ120 → ∀ σ124 : q_S, σ124 = q_new σ120 1001 24 → q_K σ124 x0 = 7 ∧ ∀ σ125 : q_S, σ125 = q_wP σ124 x0 29 v123 → q_n σ125 < 10000000 ∧ ∀ v128 : Nat, v128 = q_n σ125 → ∀ σ129 : q_S, σ129 = q_new σ125 1001 24 → q_K σ129 x0 = 7 ∧ ∀ σ130 : q_S, σ130 = q_wP σ129 x0 30 v128 → q_n σ130 < 10000000 ∧ ∀ v133 : Nat, v133 = q_n σ130 → ∀ σ134 : q_S, σ134 = q_new σ130 1001 24 → q_K σ134 x0 = 7 ∧ ∀ σ135 : q_S, σ135 = q_wP σ134 x0 31 v133 → (((1 : Int32) ≤ x1 → ((x1 ≤ (4 : Int32) → P243 x0 x1 x0 σ135) ∧ (¬ (x1 ≤ (4 : Int32)) → P243 x0 (4 : Int32) x0 σ135))) ∧ (¬ ((1 : Int32) ≤ x1) → P243 x0 (1 : Int32) x0 σ135))
set_option maxRecDepth 100000 in
theorem t_PM_init {l : Launch} {cx : q_C} {x0 : Nat} {x1 : Int32} {σ : q_S} {R : q_O → q_S → Prop} (hV : V_PM_init x0 x1 σ R) : q_Ct l cx M_PM_init 1 64 27 1532 [q_r x0, q_i x1] σ R := by
  refine q_Ct.of p_PM_init c_PM_init rfl (Nat.le_of_ble_eq_true rfl) ?_
  have hV := hV (fun (x0 : Nat) (y0 : Int32) (y1 : Nat) (σ : q_S) => q_G l cx M_PM_init 1 64 0 0 243 [(0, .inr (.inr x0))] [.inl y0, .inr (.inr y1)] σ R)
  have hV := hV (by
      intro x0 y0 y1 σ hV
      show q_G l cx M_PM_init 1 64 0 0 243 [(0, .inr (.inr x0))] [.inl y0, .inr (.inr y1)] σ R
      refine q_run k_PM_init 122 1 246 rfl ?_
      show q_K σ y1 = 7 ∧ q_G l cx M_PM_init 1 64 0 0 246 [(0, .inr (.inr x0))] [] (q_wI σ y1 1 y0) R
      obtain ⟨s2, hV⟩ := hV
      refine ⟨s2, ?_⟩
      refine q_let (fun σ1 => q_G l cx M_PM_init 1 64 0 0 246 [(0, .inr (.inr x0))] [] σ1 R) (q_wI σ y1 1 y0) (fun σ1 e_σ1 => ?_)
      have hV := hV σ1 e_σ1
      refine q_run k_PM_init 123 5 253 rfl ?_
      show q_K σ1 x0 = 7 ∧ q_K σ1 (q_P σ1 x0 20) = 1000 ∧ vp_in (0 : Int32) (q_Z σ1 (q_P σ1 x0 20)) ∧ q_G l cx M_PM_init 1 64 0 0 253 [(0, .inr (.inr x0))] [] (q_wI σ1 (q_P σ1 x0 20) (0 : Int32).toNatClampNeg (1 : Int32)) R
      obtain ⟨s4, s5, s6, hV⟩ := hV
      refine ⟨s4, s5, s6, ?_⟩
      refine q_let (fun σ3 => q_G l cx M_PM_init 1 64 0 0 253 [(0, .inr (.inr x0))] [] σ3 R) (q_wI σ1 (q_P σ1 x0 20) (0 : Int32).toNatClampNeg (1 : Int32)) (fun σ3 e_σ3 => ?_)
      have hV := hV σ3 e_σ3
      refine q_run k_PM_init 128 5 260 rfl ?_
      show q_K σ3 x0 = 7 ∧ q_K σ3 (q_P σ3 x0 20) = 1000 ∧ vp_in (1 : Int32) (q_Z σ3 (q_P σ3 x0 20)) ∧ q_G l cx M_PM_init 1 64 0 0 260 [(0, .inr (.inr x0))] [] (q_wI σ3 (q_P σ3 x0 20) (1 : Int32).toNatClampNeg (1 : Int32)) R
      obtain ⟨s8, s9, s10, hV⟩ := hV
      refine ⟨s8, s9, s10, ?_⟩
      refine q_let (fun σ7 => q_G l cx M_PM_init 1 64 0 0 260 [(0, .inr (.inr x0))] [] σ7 R) (q_wI σ3 (q_P σ3 x0 20) (1 : Int32).toNatClampNeg (1 : Int32)) (fun σ7 e_σ7 => ?_)
      have hV := hV σ7 e_σ7
      refine q_run k_PM_init 133 5 267 rfl ?_
      show q_K σ7 x0 = 7 ∧ q_K σ7 (q_P σ7 x0 20) = 1000 ∧ vp_in (2 : Int32) (q_Z σ7 (q_P σ7 x0 20)) ∧ q_G l cx M_PM_init 1 64 0 0 267 [(0, .inr (.inr x0))] [] (q_wI σ7 (q_P σ7 x0 20) (2 : Int32).toNatClampNeg (1 : Int32)) R
      obtain ⟨s12, s13, s14, hV⟩ := hV
      refine ⟨s12, s13, s14, ?_⟩
      refine q_let (fun σ11 => q_G l cx M_PM_init 1 64 0 0 267 [(0, .inr (.inr x0))] [] σ11 R) (q_wI σ7 (q_P σ7 x0 20) (2 : Int32).toNatClampNeg (1 : Int32)) (fun σ11 e_σ11 => ?_)
      have hV := hV σ11 e_σ11
      exact q_vreturn (q_dc k_PM_init 138 rfl) rfl hV)
  refine q_run k_PM_init 0 1 1 rfl ?_
  show q_G l cx M_PM_init 1 64 27 1532 1 [(0, .inr (.inr x0)), (1, .inl x1)] [.inr (.inr x0)] σ R
  obtain ⟨s1, hV⟩ := hV
  refine q_objInit (q_dc k_PM_init 1 rfl) (List.mem_of_getElem? (i := 868) (by decide +kernel)) (List.mem_of_getElem? (i := 99) (by decide +kernel)) (List.mem_of_getElem? (i := 100) (by decide +kernel)) (Nat.le_of_ble_eq_true rfl) ⟨Nat.le_of_ble_eq_true rfl, Nat.le_of_ble_eq_true rfl⟩ s1 ?_
  show q_G l cx M_PM_init 1 64 27 1532 4 [(0, .inr (.inr x0)), (1, .inl x1)] [] σ R
  refine q_run k_PM_init 2 2 7 rfl ?_
  show q_G l cx M_PM_init 1 64 27 1532 7 [(0, .inr (.inr x0)), (1, .inl x1)] [.inl (8 : Int32), .inr (.inr x0)] σ R
  obtain ⟨s2, hV⟩ := hV
  refine q_less (kc' := 26 + 1) (ks' := 1524 + 8) (Nat.le_of_ble_eq_true rfl) (Nat.le_of_ble_eq_true rfl) ?_
  refine q_newa (t := 0) (N := 8) (q_dc k_PM_init 4 rfl) rfl (by decide) (fun _ _ h => h) (List.mem_of_getElem? (i := 139) (by decide +kernel)) (fun j9 => q_fv_new rfl) (by decide) ⟨by decide, by decide⟩ s2 ?_
  refine q_let (fun v3 => q_G l cx M_PM_init 1 64 26 1524 9 [(0, .inr (.inr x0)), (1, .inl x1)] [.inr (.inr v3), .inr (.inr x0)] (q_new σ 1000 8) R) (q_n σ) (fun v3 e_v3 => ?_)
  have hV := hV v3 e_v3
  refine q_let (fun σ4 => q_G l cx M_PM_init 1 64 26 1524 9 [(0, .inr (.inr x0)), (1, .inl x1)] [.inr (.inr v3), .inr (.inr x0)] σ4 R) (q_new σ 1000 8) (fun σ4 e_σ4 => ?_)
  have hV := hV σ4 e_σ4
  refine q_run k_PM_init 5 1 12 rfl ?_
  show q_K σ4 x0 = 7 ∧ q_G l cx M_PM_init 1 64 26 1524 12 [(0, .inr (.inr x0)), (1, .inl x1)] [] (q_wP σ4 x0 3 v3) R
  obtain ⟨s6, hV⟩ := hV
  refine ⟨s6, ?_⟩
  refine q_let (fun σ5 => q_G l cx M_PM_init 1 64 26 1524 12 [(0, .inr (.inr x0)), (1, .inl x1)] [] σ5 R) (q_wP σ4 x0 3 v3) (fun σ5 e_σ5 => ?_)
  have hV := hV σ5 e_σ5
  refine q_run k_PM_init 6 2 15 rfl ?_
  show q_G l cx M_PM_init 1 64 26 1524 15 [(0, .inr (.inr x0)), (1, .inl x1)] [.inl (8 : Int32), .inr (.inr x0)] σ5 R
  obtain ⟨s7, hV⟩ := hV
  refine q_less (kc' := 25 + 1) (ks' := 1516 + 8) (Nat.le_of_ble_eq_true rfl) (Nat.le_of_ble_eq_true rfl) ?_
  refine q_newa (t := 0) (N := 8) (q_dc k_PM_init 8 rfl) rfl (by decide) (fun _ _ h => h) (List.mem_of_getElem? (i := 139) (by decide +kernel)) (fun j9 => q_fv_new rfl) (by decide) ⟨by decide, by decide⟩ s7 ?_
  refine q_let (fun v8 => q_G l cx M_PM_init 1 64 25 1516 17 [(0, .inr (.inr x0)), (1, .inl x1)] [.inr (.inr v8), .inr (.inr x0)] (q_new σ5 1000 8) R) (q_n σ5) (fun v8 e_v8 => ?_)
  have hV := hV v8 e_v8
  refine q_let (fun σ9 => q_G l cx M_PM_init 1 64 25 1516 17 [(0, .inr (.inr x0)), (1, .inl x1)] [.inr (.inr v8), .inr (.inr x0)] σ9 R) (q_new σ5 1000 8) (fun σ9 e_σ9 => ?_)
  have hV := hV σ9 e_σ9
  refine q_run k_PM_init 9 1 20 rfl ?_
  show q_K σ9 x0 = 7 ∧ q_G l cx M_PM_init 1 64 25 1516 20 [(0, .inr (.inr x0)), (1, .inl x1)] [] (q_wP σ9 x0 4 v8) R
  obtain ⟨s11, hV⟩ := hV
  refine ⟨s11, ?_⟩
  refine q_let (fun σ10 => q_G l cx M_PM_init 1 64 25 1516 20 [(0, .inr (.inr x0)), (1, .inl x1)] [] σ10 R) (q_wP σ9 x0 4 v8) (fun σ10 e_σ10 => ?_)
  have hV := hV σ10 e_σ10
  refine q_run k_PM_init 10 2 23 rfl ?_
  show q_G l cx M_PM_init 1 64 25 1516 23 [(0, .inr (.inr x0)), (1, .inl x1)] [.inl (8 : Int32), .inr (.inr x0)] σ10 R
  obtain ⟨s12, hV⟩ := hV
  refine q_less (kc' := 24 + 1) (ks' := 1508 + 8) (Nat.le_of_ble_eq_true rfl) (Nat.le_of_ble_eq_true rfl) ?_
  refine q_newa (t := 0) (N := 8) (q_dc k_PM_init 12 rfl) rfl (by decide) (fun _ _ h => h) (List.mem_of_getElem? (i := 139) (by decide +kernel)) (fun j9 => q_fv_new rfl) (by decide) ⟨by decide, by decide⟩ s12 ?_
  refine q_let (fun v13 => q_G l cx M_PM_init 1 64 24 1508 25 [(0, .inr (.inr x0)), (1, .inl x1)] [.inr (.inr v13), .inr (.inr x0)] (q_new σ10 1000 8) R) (q_n σ10) (fun v13 e_v13 => ?_)
  have hV := hV v13 e_v13
  refine q_let (fun σ14 => q_G l cx M_PM_init 1 64 24 1508 25 [(0, .inr (.inr x0)), (1, .inl x1)] [.inr (.inr v13), .inr (.inr x0)] σ14 R) (q_new σ10 1000 8) (fun σ14 e_σ14 => ?_)
  have hV := hV σ14 e_σ14
  refine q_run k_PM_init 13 1 28 rfl ?_
  show q_K σ14 x0 = 7 ∧ q_G l cx M_PM_init 1 64 24 1508 28 [(0, .inr (.inr x0)), (1, .inl x1)] [] (q_wP σ14 x0 5 v13) R
  obtain ⟨s16, hV⟩ := hV
  refine ⟨s16, ?_⟩
  refine q_let (fun σ15 => q_G l cx M_PM_init 1 64 24 1508 28 [(0, .inr (.inr x0)), (1, .inl x1)] [] σ15 R) (q_wP σ14 x0 5 v13) (fun σ15 e_σ15 => ?_)
  have hV := hV σ15 e_σ15
  refine q_run k_PM_init 14 2 31 rfl ?_
  show q_G l cx M_PM_init 1 64 24 1508 31 [(0, .inr (.inr x0)), (1, .inl x1)] [.inl (8 : Int32), .inr (.inr x0)] σ15 R
  obtain ⟨s17, hV⟩ := hV
  refine q_less (kc' := 23 + 1) (ks' := 1500 + 8) (Nat.le_of_ble_eq_true rfl) (Nat.le_of_ble_eq_true rfl) ?_
  refine q_newa (t := 0) (N := 8) (q_dc k_PM_init 16 rfl) rfl (by decide) (fun _ _ h => h) (List.mem_of_getElem? (i := 139) (by decide +kernel)) (fun j9 => q_fv_new rfl) (by decide) ⟨by decide, by decide⟩ s17 ?_
  refine q_let (fun v18 => q_G l cx M_PM_init 1 64 23 1500 33 [(0, .inr (.inr x0)), (1, .inl x1)] [.inr (.inr v18), .inr (.inr x0)] (q_new σ15 1000 8) R) (q_n σ15) (fun v18 e_v18 => ?_)
  have hV := hV v18 e_v18
  refine q_let (fun σ19 => q_G l cx M_PM_init 1 64 23 1500 33 [(0, .inr (.inr x0)), (1, .inl x1)] [.inr (.inr v18), .inr (.inr x0)] σ19 R) (q_new σ15 1000 8) (fun σ19 e_σ19 => ?_)
  have hV := hV σ19 e_σ19
  refine q_run k_PM_init 17 1 36 rfl ?_
  show q_K σ19 x0 = 7 ∧ q_G l cx M_PM_init 1 64 23 1500 36 [(0, .inr (.inr x0)), (1, .inl x1)] [] (q_wP σ19 x0 6 v18) R
  obtain ⟨s21, hV⟩ := hV
  refine ⟨s21, ?_⟩
  refine q_let (fun σ20 => q_G l cx M_PM_init 1 64 23 1500 36 [(0, .inr (.inr x0)), (1, .inl x1)] [] σ20 R) (q_wP σ19 x0 6 v18) (fun σ20 e_σ20 => ?_)
  have hV := hV σ20 e_σ20
  refine q_run k_PM_init 18 2 39 rfl ?_
  show q_G l cx M_PM_init 1 64 23 1500 39 [(0, .inr (.inr x0)), (1, .inl x1)] [.inl (32 : Int32), .inr (.inr x0)] σ20 R
  obtain ⟨s22, hV⟩ := hV
  refine q_less (kc' := 22 + 1) (ks' := 1468 + 32) (Nat.le_of_ble_eq_true rfl) (Nat.le_of_ble_eq_true rfl) ?_
  refine q_newa (t := 0) (N := 32) (q_dc k_PM_init 20 rfl) rfl (by decide) (fun _ _ h => h) (List.mem_of_getElem? (i := 139) (by decide +kernel)) (fun j9 => q_fv_new rfl) (by decide) ⟨by decide, by decide⟩ s22 ?_
  refine q_let (fun v23 => q_G l cx M_PM_init 1 64 22 1468 41 [(0, .inr (.inr x0)), (1, .inl x1)] [.inr (.inr v23), .inr (.inr x0)] (q_new σ20 1000 32) R) (q_n σ20) (fun v23 e_v23 => ?_)
  have hV := hV v23 e_v23
  refine q_let (fun σ24 => q_G l cx M_PM_init 1 64 22 1468 41 [(0, .inr (.inr x0)), (1, .inl x1)] [.inr (.inr v23), .inr (.inr x0)] σ24 R) (q_new σ20 1000 32) (fun σ24 e_σ24 => ?_)
  have hV := hV σ24 e_σ24
  refine q_run k_PM_init 21 1 44 rfl ?_
  show q_K σ24 x0 = 7 ∧ q_G l cx M_PM_init 1 64 22 1468 44 [(0, .inr (.inr x0)), (1, .inl x1)] [] (q_wP σ24 x0 7 v23) R
  obtain ⟨s26, hV⟩ := hV
  refine ⟨s26, ?_⟩
  refine q_let (fun σ25 => q_G l cx M_PM_init 1 64 22 1468 44 [(0, .inr (.inr x0)), (1, .inl x1)] [] σ25 R) (q_wP σ24 x0 7 v23) (fun σ25 e_σ25 => ?_)
  have hV := hV σ25 e_σ25
  refine q_run k_PM_init 22 2 48 rfl ?_
  show q_G l cx M_PM_init 1 64 22 1468 48 [(0, .inr (.inr x0)), (1, .inl x1)] [.inl (384 : Int32), .inr (.inr x0)] σ25 R
  obtain ⟨s27, hV⟩ := hV
  refine q_less (kc' := 21 + 1) (ks' := 1084 + 384) (Nat.le_of_ble_eq_true rfl) (Nat.le_of_ble_eq_true rfl) ?_
  refine q_newa (t := 1) (N := 384) (q_dc k_PM_init 24 rfl) rfl (by decide) (fun _ _ h => h) (List.mem_of_getElem? (i := 934) (by decide +kernel)) (fun j9 => q_fv_new rfl) (by decide) ⟨by decide, by decide⟩ s27 ?_
  refine q_let (fun v28 => q_G l cx M_PM_init 1 64 21 1084 50 [(0, .inr (.inr x0)), (1, .inl x1)] [.inr (.inr v28), .inr (.inr x0)] (q_new σ25 1001 384) R) (q_n σ25) (fun v28 e_v28 => ?_)
  have hV := hV v28 e_v28
  refine q_let (fun σ29 => q_G l cx M_PM_init 1 64 21 1084 50 [(0, .inr (.inr x0)), (1, .inl x1)] [.inr (.inr v28), .inr (.inr x0)] σ29 R) (q_new σ25 1001 384) (fun σ29 e_σ29 => ?_)
  have hV := hV σ29 e_σ29
  refine q_run k_PM_init 25 1 53 rfl ?_
  show q_K σ29 x0 = 7 ∧ q_G l cx M_PM_init 1 64 21 1084 53 [(0, .inr (.inr x0)), (1, .inl x1)] [] (q_wP σ29 x0 8 v28) R
  obtain ⟨s31, hV⟩ := hV
  refine ⟨s31, ?_⟩
  refine q_let (fun σ30 => q_G l cx M_PM_init 1 64 21 1084 53 [(0, .inr (.inr x0)), (1, .inl x1)] [] σ30 R) (q_wP σ29 x0 8 v28) (fun σ30 e_σ30 => ?_)
  have hV := hV σ30 e_σ30
  refine q_run k_PM_init 26 2 57 rfl ?_
  show q_G l cx M_PM_init 1 64 21 1084 57 [(0, .inr (.inr x0)), (1, .inl x1)] [.inl (384 : Int32), .inr (.inr x0)] σ30 R
  obtain ⟨s32, hV⟩ := hV
  refine q_less (kc' := 20 + 1) (ks' := 700 + 384) (Nat.le_of_ble_eq_true rfl) (Nat.le_of_ble_eq_true rfl) ?_
  refine q_newa (t := 1) (N := 384) (q_dc k_PM_init 28 rfl) rfl (by decide) (fun _ _ h => h) (List.mem_of_getElem? (i := 934) (by decide +kernel)) (fun j9 => q_fv_new rfl) (by decide) ⟨by decide, by decide⟩ s32 ?_
  refine q_let (fun v33 => q_G l cx M_PM_init 1 64 20 700 59 [(0, .inr (.inr x0)), (1, .inl x1)] [.inr (.inr v33), .inr (.inr x0)] (q_new σ30 1001 384) R) (q_n σ30) (fun v33 e_v33 => ?_)
  have hV := hV v33 e_v33
  refine q_let (fun σ34 => q_G l cx M_PM_init 1 64 20 700 59 [(0, .inr (.inr x0)), (1, .inl x1)] [.inr (.inr v33), .inr (.inr x0)] σ34 R) (q_new σ30 1001 384) (fun σ34 e_σ34 => ?_)
  have hV := hV σ34 e_σ34
  refine q_run k_PM_init 29 1 62 rfl ?_
  show q_K σ34 x0 = 7 ∧ q_G l cx M_PM_init 1 64 20 700 62 [(0, .inr (.inr x0)), (1, .inl x1)] [] (q_wP σ34 x0 9 v33) R
  obtain ⟨s36, hV⟩ := hV
  refine ⟨s36, ?_⟩
  refine q_let (fun σ35 => q_G l cx M_PM_init 1 64 20 700 62 [(0, .inr (.inr x0)), (1, .inl x1)] [] σ35 R) (q_wP σ34 x0 9 v33) (fun σ35 e_σ35 => ?_)
  have hV := hV σ35 e_σ35
  refine q_run k_PM_init 30 2 65 rfl ?_
  show q_G l cx M_PM_init 1 64 20 700 65 [(0, .inr (.inr x0)), (1, .inl x1)] [.inl (8 : Int32), .inr (.inr x0)] σ35 R
  obtain ⟨s37, hV⟩ := hV
  refine q_less (kc' := 19 + 1) (ks' := 692 + 8) (Nat.le_of_ble_eq_true rfl) (Nat.le_of_ble_eq_true rfl) ?_
  refine q_newa (t := 0) (N := 8) (q_dc k_PM_init 32 rfl) rfl (by decide) (fun _ _ h => h) (List.mem_of_getElem? (i := 139) (by decide +kernel)) (fun j9 => q_fv_new rfl) (by decide) ⟨by decide, by decide⟩ s37 ?_
  refine q_let (fun v38 => q_G l cx M_PM_init 1 64 19 692 67 [(0, .inr (.inr x0)), (1, .inl x1)] [.inr (.inr v38), .inr (.inr x0)] (q_new σ35 1000 8) R) (q_n σ35) (fun v38 e_v38 => ?_)
  have hV := hV v38 e_v38
  refine q_let (fun σ39 => q_G l cx M_PM_init 1 64 19 692 67 [(0, .inr (.inr x0)), (1, .inl x1)] [.inr (.inr v38), .inr (.inr x0)] σ39 R) (q_new σ35 1000 8) (fun σ39 e_σ39 => ?_)
  have hV := hV σ39 e_σ39
  refine q_run k_PM_init 33 1 70 rfl ?_
  show q_K σ39 x0 = 7 ∧ q_G l cx M_PM_init 1 64 19 692 70 [(0, .inr (.inr x0)), (1, .inl x1)] [] (q_wP σ39 x0 10 v38) R
  obtain ⟨s41, hV⟩ := hV
  refine ⟨s41, ?_⟩
  refine q_let (fun σ40 => q_G l cx M_PM_init 1 64 19 692 70 [(0, .inr (.inr x0)), (1, .inl x1)] [] σ40 R) (q_wP σ39 x0 10 v38) (fun σ40 e_σ40 => ?_)
  have hV := hV σ40 e_σ40
  refine q_run k_PM_init 34 2 73 rfl ?_
  show q_G l cx M_PM_init 1 64 19 692 73 [(0, .inr (.inr x0)), (1, .inl x1)] [.inl (8 : Int32), .inr (.inr x0)] σ40 R
  obtain ⟨s42, hV⟩ := hV
  refine q_less (kc' := 18 + 1) (ks' := 684 + 8) (Nat.le_of_ble_eq_true rfl) (Nat.le_of_ble_eq_true rfl) ?_
  refine q_newa (t := 0) (N := 8) (q_dc k_PM_init 36 rfl) rfl (by decide) (fun _ _ h => h) (List.mem_of_getElem? (i := 139) (by decide +kernel)) (fun j9 => q_fv_new rfl) (by decide) ⟨by decide, by decide⟩ s42 ?_
  refine q_let (fun v43 => q_G l cx M_PM_init 1 64 18 684 75 [(0, .inr (.inr x0)), (1, .inl x1)] [.inr (.inr v43), .inr (.inr x0)] (q_new σ40 1000 8) R) (q_n σ40) (fun v43 e_v43 => ?_)
  have hV := hV v43 e_v43
  refine q_let (fun σ44 => q_G l cx M_PM_init 1 64 18 684 75 [(0, .inr (.inr x0)), (1, .inl x1)] [.inr (.inr v43), .inr (.inr x0)] σ44 R) (q_new σ40 1000 8) (fun σ44 e_σ44 => ?_)
  have hV := hV σ44 e_σ44
  refine q_run k_PM_init 37 1 78 rfl ?_
  show q_K σ44 x0 = 7 ∧ q_G l cx M_PM_init 1 64 18 684 78 [(0, .inr (.inr x0)), (1, .inl x1)] [] (q_wP σ44 x0 11 v43) R
  obtain ⟨s46, hV⟩ := hV
  refine ⟨s46, ?_⟩
  refine q_let (fun σ45 => q_G l cx M_PM_init 1 64 18 684 78 [(0, .inr (.inr x0)), (1, .inl x1)] [] σ45 R) (q_wP σ44 x0 11 v43) (fun σ45 e_σ45 => ?_)
  have hV := hV σ45 e_σ45
  refine q_run k_PM_init 38 2 81 rfl ?_
  show q_G l cx M_PM_init 1 64 18 684 81 [(0, .inr (.inr x0)), (1, .inl x1)] [.inl (20 : Int32), .inr (.inr x0)] σ45 R
  obtain ⟨s47, hV⟩ := hV
  refine q_less (kc' := 17 + 1) (ks' := 664 + 20) (Nat.le_of_ble_eq_true rfl) (Nat.le_of_ble_eq_true rfl) ?_
  refine q_newa (t := 0) (N := 20) (q_dc k_PM_init 40 rfl) rfl (by decide) (fun _ _ h => h) (List.mem_of_getElem? (i := 139) (by decide +kernel)) (fun j9 => q_fv_new rfl) (by decide) ⟨by decide, by decide⟩ s47 ?_
  refine q_let (fun v48 => q_G l cx M_PM_init 1 64 17 664 83 [(0, .inr (.inr x0)), (1, .inl x1)] [.inr (.inr v48), .inr (.inr x0)] (q_new σ45 1000 20) R) (q_n σ45) (fun v48 e_v48 => ?_)
  have hV := hV v48 e_v48
  refine q_let (fun σ49 => q_G l cx M_PM_init 1 64 17 664 83 [(0, .inr (.inr x0)), (1, .inl x1)] [.inr (.inr v48), .inr (.inr x0)] σ49 R) (q_new σ45 1000 20) (fun σ49 e_σ49 => ?_)
  have hV := hV σ49 e_σ49
  refine q_run k_PM_init 41 1 86 rfl ?_
  show q_K σ49 x0 = 7 ∧ q_G l cx M_PM_init 1 64 17 664 86 [(0, .inr (.inr x0)), (1, .inl x1)] [] (q_wP σ49 x0 13 v48) R
  obtain ⟨s51, hV⟩ := hV
  refine ⟨s51, ?_⟩
  refine q_let (fun σ50 => q_G l cx M_PM_init 1 64 17 664 86 [(0, .inr (.inr x0)), (1, .inl x1)] [] σ50 R) (q_wP σ49 x0 13 v48) (fun σ50 e_σ50 => ?_)
  have hV := hV σ50 e_σ50
  refine q_run k_PM_init 42 2 89 rfl ?_
  show q_G l cx M_PM_init 1 64 17 664 89 [(0, .inr (.inr x0)), (1, .inl x1)] [.inl (20 : Int32), .inr (.inr x0)] σ50 R
  obtain ⟨s52, hV⟩ := hV
  refine q_less (kc' := 16 + 1) (ks' := 644 + 20) (Nat.le_of_ble_eq_true rfl) (Nat.le_of_ble_eq_true rfl) ?_
  refine q_newa (t := 0) (N := 20) (q_dc k_PM_init 44 rfl) rfl (by decide) (fun _ _ h => h) (List.mem_of_getElem? (i := 139) (by decide +kernel)) (fun j9 => q_fv_new rfl) (by decide) ⟨by decide, by decide⟩ s52 ?_
  refine q_let (fun v53 => q_G l cx M_PM_init 1 64 16 644 91 [(0, .inr (.inr x0)), (1, .inl x1)] [.inr (.inr v53), .inr (.inr x0)] (q_new σ50 1000 20) R) (q_n σ50) (fun v53 e_v53 => ?_)
  have hV := hV v53 e_v53
  refine q_let (fun σ54 => q_G l cx M_PM_init 1 64 16 644 91 [(0, .inr (.inr x0)), (1, .inl x1)] [.inr (.inr v53), .inr (.inr x0)] σ54 R) (q_new σ50 1000 20) (fun σ54 e_σ54 => ?_)
  have hV := hV σ54 e_σ54
  refine q_run k_PM_init 45 1 94 rfl ?_
  show q_K σ54 x0 = 7 ∧ q_G l cx M_PM_init 1 64 16 644 94 [(0, .inr (.inr x0)), (1, .inl x1)] [] (q_wP σ54 x0 14 v53) R
  obtain ⟨s56, hV⟩ := hV
  refine ⟨s56, ?_⟩
  refine q_let (fun σ55 => q_G l cx M_PM_init 1 64 16 644 94 [(0, .inr (.inr x0)), (1, .inl x1)] [] σ55 R) (q_wP σ54 x0 14 v53) (fun σ55 e_σ55 => ?_)
  have hV := hV σ55 e_σ55
  refine q_run k_PM_init 46 2 97 rfl ?_
  show q_G l cx M_PM_init 1 64 16 644 97 [(0, .inr (.inr x0)), (1, .inl x1)] [.inl (60 : Int32), .inr (.inr x0)] σ55 R
  obtain ⟨s57, hV⟩ := hV
  refine q_less (kc' := 15 + 1) (ks' := 584 + 60) (Nat.le_of_ble_eq_true rfl) (Nat.le_of_ble_eq_true rfl) ?_
  refine q_newa (t := 1) (N := 60) (q_dc k_PM_init 48 rfl) rfl (by decide) (fun _ _ h => h) (List.mem_of_getElem? (i := 934) (by decide +kernel)) (fun j9 => q_fv_new rfl) (by decide) ⟨by decide, by decide⟩ s57 ?_
  refine q_let (fun v58 => q_G l cx M_PM_init 1 64 15 584 99 [(0, .inr (.inr x0)), (1, .inl x1)] [.inr (.inr v58), .inr (.inr x0)] (q_new σ55 1001 60) R) (q_n σ55) (fun v58 e_v58 => ?_)
  have hV := hV v58 e_v58
  refine q_let (fun σ59 => q_G l cx M_PM_init 1 64 15 584 99 [(0, .inr (.inr x0)), (1, .inl x1)] [.inr (.inr v58), .inr (.inr x0)] σ59 R) (q_new σ55 1001 60) (fun σ59 e_σ59 => ?_)
  have hV := hV σ59 e_σ59
  refine q_run k_PM_init 49 1 102 rfl ?_
  show q_K σ59 x0 = 7 ∧ q_G l cx M_PM_init 1 64 15 584 102 [(0, .inr (.inr x0)), (1, .inl x1)] [] (q_wP σ59 x0 15 v58) R
  obtain ⟨s61, hV⟩ := hV
  refine ⟨s61, ?_⟩
  refine q_let (fun σ60 => q_G l cx M_PM_init 1 64 15 584 102 [(0, .inr (.inr x0)), (1, .inl x1)] [] σ60 R) (q_wP σ59 x0 15 v58) (fun σ60 e_σ60 => ?_)
  have hV := hV σ60 e_σ60
  refine q_run k_PM_init 50 2 105 rfl ?_
  show q_G l cx M_PM_init 1 64 15 584 105 [(0, .inr (.inr x0)), (1, .inl x1)] [.inl (10 : Int32), .inr (.inr x0)] σ60 R
  obtain ⟨s62, hV⟩ := hV
  refine q_less (kc' := 14 + 1) (ks' := 574 + 10) (Nat.le_of_ble_eq_true rfl) (Nat.le_of_ble_eq_true rfl) ?_
  refine q_newa (t := 0) (N := 10) (q_dc k_PM_init 52 rfl) rfl (by decide) (fun _ _ h => h) (List.mem_of_getElem? (i := 139) (by decide +kernel)) (fun j9 => q_fv_new rfl) (by decide) ⟨by decide, by decide⟩ s62 ?_
  refine q_let (fun v63 => q_G l cx M_PM_init 1 64 14 574 107 [(0, .inr (.inr x0)), (1, .inl x1)] [.inr (.inr v63), .inr (.inr x0)] (q_new σ60 1000 10) R) (q_n σ60) (fun v63 e_v63 => ?_)
  have hV := hV v63 e_v63
  refine q_let (fun σ64 => q_G l cx M_PM_init 1 64 14 574 107 [(0, .inr (.inr x0)), (1, .inl x1)] [.inr (.inr v63), .inr (.inr x0)] σ64 R) (q_new σ60 1000 10) (fun σ64 e_σ64 => ?_)
  have hV := hV σ64 e_σ64
  refine q_run k_PM_init 53 1 110 rfl ?_
  show q_K σ64 x0 = 7 ∧ q_G l cx M_PM_init 1 64 14 574 110 [(0, .inr (.inr x0)), (1, .inl x1)] [] (q_wP σ64 x0 17 v63) R
  obtain ⟨s66, hV⟩ := hV
  refine ⟨s66, ?_⟩
  refine q_let (fun σ65 => q_G l cx M_PM_init 1 64 14 574 110 [(0, .inr (.inr x0)), (1, .inl x1)] [] σ65 R) (q_wP σ64 x0 17 v63) (fun σ65 e_σ65 => ?_)
  have hV := hV σ65 e_σ65
  refine q_run k_PM_init 54 2 113 rfl ?_
  show q_G l cx M_PM_init 1 64 14 574 113 [(0, .inr (.inr x0)), (1, .inl x1)] [.inl (10 : Int32), .inr (.inr x0)] σ65 R
  obtain ⟨s67, hV⟩ := hV
  refine q_less (kc' := 13 + 1) (ks' := 564 + 10) (Nat.le_of_ble_eq_true rfl) (Nat.le_of_ble_eq_true rfl) ?_
  refine q_newa (t := 0) (N := 10) (q_dc k_PM_init 56 rfl) rfl (by decide) (fun _ _ h => h) (List.mem_of_getElem? (i := 139) (by decide +kernel)) (fun j9 => q_fv_new rfl) (by decide) ⟨by decide, by decide⟩ s67 ?_
  refine q_let (fun v68 => q_G l cx M_PM_init 1 64 13 564 115 [(0, .inr (.inr x0)), (1, .inl x1)] [.inr (.inr v68), .inr (.inr x0)] (q_new σ65 1000 10) R) (q_n σ65) (fun v68 e_v68 => ?_)
  have hV := hV v68 e_v68
  refine q_let (fun σ69 => q_G l cx M_PM_init 1 64 13 564 115 [(0, .inr (.inr x0)), (1, .inl x1)] [.inr (.inr v68), .inr (.inr x0)] σ69 R) (q_new σ65 1000 10) (fun σ69 e_σ69 => ?_)
  have hV := hV σ69 e_σ69
  refine q_run k_PM_init 57 1 118 rfl ?_
  show q_K σ69 x0 = 7 ∧ q_G l cx M_PM_init 1 64 13 564 118 [(0, .inr (.inr x0)), (1, .inl x1)] [] (q_wP σ69 x0 18 v68) R
  obtain ⟨s71, hV⟩ := hV
  refine ⟨s71, ?_⟩
  refine q_let (fun σ70 => q_G l cx M_PM_init 1 64 13 564 118 [(0, .inr (.inr x0)), (1, .inl x1)] [] σ70 R) (q_wP σ69 x0 18 v68) (fun σ70 e_σ70 => ?_)
  have hV := hV σ70 e_σ70
  refine q_run k_PM_init 58 2 121 rfl ?_
  show q_G l cx M_PM_init 1 64 13 564 121 [(0, .inr (.inr x0)), (1, .inl x1)] [.inl (40 : Int32), .inr (.inr x0)] σ70 R
  obtain ⟨s72, hV⟩ := hV
  refine q_less (kc' := 12 + 1) (ks' := 524 + 40) (Nat.le_of_ble_eq_true rfl) (Nat.le_of_ble_eq_true rfl) ?_
  refine q_newa (t := 0) (N := 40) (q_dc k_PM_init 60 rfl) rfl (by decide) (fun _ _ h => h) (List.mem_of_getElem? (i := 139) (by decide +kernel)) (fun j9 => q_fv_new rfl) (by decide) ⟨by decide, by decide⟩ s72 ?_
  refine q_let (fun v73 => q_G l cx M_PM_init 1 64 12 524 123 [(0, .inr (.inr x0)), (1, .inl x1)] [.inr (.inr v73), .inr (.inr x0)] (q_new σ70 1000 40) R) (q_n σ70) (fun v73 e_v73 => ?_)
  have hV := hV v73 e_v73
  refine q_let (fun σ74 => q_G l cx M_PM_init 1 64 12 524 123 [(0, .inr (.inr x0)), (1, .inl x1)] [.inr (.inr v73), .inr (.inr x0)] σ74 R) (q_new σ70 1000 40) (fun σ74 e_σ74 => ?_)
  have hV := hV σ74 e_σ74
  refine q_run k_PM_init 61 1 126 rfl ?_
  show q_K σ74 x0 = 7 ∧ q_G l cx M_PM_init 1 64 12 524 126 [(0, .inr (.inr x0)), (1, .inl x1)] [] (q_wP σ74 x0 19 v73) R
  obtain ⟨s76, hV⟩ := hV
  refine ⟨s76, ?_⟩
  refine q_let (fun σ75 => q_G l cx M_PM_init 1 64 12 524 126 [(0, .inr (.inr x0)), (1, .inl x1)] [] σ75 R) (q_wP σ74 x0 19 v73) (fun σ75 e_σ75 => ?_)
  have hV := hV σ75 e_σ75
  refine q_run k_PM_init 62 2 128 rfl ?_
  show q_G l cx M_PM_init 1 64 12 524 128 [(0, .inr (.inr x0)), (1, .inl x1)] [.inl (4 : Int32), .inr (.inr x0)] σ75 R
  obtain ⟨s77, hV⟩ := hV
  refine q_less (kc' := 11 + 1) (ks' := 520 + 4) (Nat.le_of_ble_eq_true rfl) (Nat.le_of_ble_eq_true rfl) ?_
  refine q_newa (t := 0) (N := 4) (q_dc k_PM_init 64 rfl) rfl (by decide) (fun _ _ h => h) (List.mem_of_getElem? (i := 139) (by decide +kernel)) (fun j9 => q_fv_new rfl) (by decide) ⟨by decide, by decide⟩ s77 ?_
  refine q_let (fun v78 => q_G l cx M_PM_init 1 64 11 520 130 [(0, .inr (.inr x0)), (1, .inl x1)] [.inr (.inr v78), .inr (.inr x0)] (q_new σ75 1000 4) R) (q_n σ75) (fun v78 e_v78 => ?_)
  have hV := hV v78 e_v78
  refine q_let (fun σ79 => q_G l cx M_PM_init 1 64 11 520 130 [(0, .inr (.inr x0)), (1, .inl x1)] [.inr (.inr v78), .inr (.inr x0)] σ79 R) (q_new σ75 1000 4) (fun σ79 e_σ79 => ?_)
  have hV := hV σ79 e_σ79
  refine q_run k_PM_init 65 1 133 rfl ?_
  show q_K σ79 x0 = 7 ∧ q_G l cx M_PM_init 1 64 11 520 133 [(0, .inr (.inr x0)), (1, .inl x1)] [] (q_wP σ79 x0 20 v78) R
  obtain ⟨s81, hV⟩ := hV
  refine ⟨s81, ?_⟩
  refine q_let (fun σ80 => q_G l cx M_PM_init 1 64 11 520 133 [(0, .inr (.inr x0)), (1, .inl x1)] [] σ80 R) (q_wP σ79 x0 20 v78) (fun σ80 e_σ80 => ?_)
  have hV := hV σ80 e_σ80
  refine q_run k_PM_init 66 2 137 rfl ?_
  show q_G l cx M_PM_init 1 64 11 520 137 [(0, .inr (.inr x0)), (1, .inl x1)] [.inl (192 : Int32), .inr (.inr x0)] σ80 R
  obtain ⟨s82, hV⟩ := hV
  refine q_less (kc' := 10 + 1) (ks' := 328 + 192) (Nat.le_of_ble_eq_true rfl) (Nat.le_of_ble_eq_true rfl) ?_
  refine q_newa (t := 1) (N := 192) (q_dc k_PM_init 68 rfl) rfl (by decide) (fun _ _ h => h) (List.mem_of_getElem? (i := 934) (by decide +kernel)) (fun j9 => q_fv_new rfl) (by decide) ⟨by decide, by decide⟩ s82 ?_
  refine q_let (fun v83 => q_G l cx M_PM_init 1 64 10 328 139 [(0, .inr (.inr x0)), (1, .inl x1)] [.inr (.inr v83), .inr (.inr x0)] (q_new σ80 1001 192) R) (q_n σ80) (fun v83 e_v83 => ?_)
  have hV := hV v83 e_v83
  refine q_let (fun σ84 => q_G l cx M_PM_init 1 64 10 328 139 [(0, .inr (.inr x0)), (1, .inl x1)] [.inr (.inr v83), .inr (.inr x0)] σ84 R) (q_new σ80 1001 192) (fun σ84 e_σ84 => ?_)
  have hV := hV σ84 e_σ84
  refine q_run k_PM_init 69 1 142 rfl ?_
  show q_K σ84 x0 = 7 ∧ q_G l cx M_PM_init 1 64 10 328 142 [(0, .inr (.inr x0)), (1, .inl x1)] [] (q_wP σ84 x0 21 v83) R
  obtain ⟨s86, hV⟩ := hV
  refine ⟨s86, ?_⟩
  refine q_let (fun σ85 => q_G l cx M_PM_init 1 64 10 328 142 [(0, .inr (.inr x0)), (1, .inl x1)] [] σ85 R) (q_wP σ84 x0 21 v83) (fun σ85 e_σ85 => ?_)
  have hV := hV σ85 e_σ85
  refine q_run k_PM_init 70 2 146 rfl ?_
  show q_G l cx M_PM_init 1 64 10 328 146 [(0, .inr (.inr x0)), (1, .inl x1)] [.inl (192 : Int32), .inr (.inr x0)] σ85 R
  obtain ⟨s87, hV⟩ := hV
  refine q_less (kc' := 9 + 1) (ks' := 136 + 192) (Nat.le_of_ble_eq_true rfl) (Nat.le_of_ble_eq_true rfl) ?_
  refine q_newa (t := 1) (N := 192) (q_dc k_PM_init 72 rfl) rfl (by decide) (fun _ _ h => h) (List.mem_of_getElem? (i := 934) (by decide +kernel)) (fun j9 => q_fv_new rfl) (by decide) ⟨by decide, by decide⟩ s87 ?_
  refine q_let (fun v88 => q_G l cx M_PM_init 1 64 9 136 148 [(0, .inr (.inr x0)), (1, .inl x1)] [.inr (.inr v88), .inr (.inr x0)] (q_new σ85 1001 192) R) (q_n σ85) (fun v88 e_v88 => ?_)
  have hV := hV v88 e_v88
  refine q_let (fun σ89 => q_G l cx M_PM_init 1 64 9 136 148 [(0, .inr (.inr x0)), (1, .inl x1)] [.inr (.inr v88), .inr (.inr x0)] σ89 R) (q_new σ85 1001 192) (fun σ89 e_σ89 => ?_)
  have hV := hV σ89 e_σ89
  refine q_run k_PM_init 73 1 151 rfl ?_
  show q_K σ89 x0 = 7 ∧ q_G l cx M_PM_init 1 64 9 136 151 [(0, .inr (.inr x0)), (1, .inl x1)] [] (q_wP σ89 x0 22 v88) R
  obtain ⟨s91, hV⟩ := hV
  refine ⟨s91, ?_⟩
  refine q_let (fun σ90 => q_G l cx M_PM_init 1 64 9 136 151 [(0, .inr (.inr x0)), (1, .inl x1)] [] σ90 R) (q_wP σ89 x0 22 v88) (fun σ90 e_σ90 => ?_)
  have hV := hV σ90 e_σ90
  refine q_run k_PM_init 74 2 154 rfl ?_
  show q_G l cx M_PM_init 1 64 9 136 154 [(0, .inr (.inr x0)), (1, .inl x1)] [.inl (8 : Int32), .inr (.inr x0)] σ90 R
  obtain ⟨s92, hV⟩ := hV
  refine q_less (kc' := 8 + 1) (ks' := 128 + 8) (Nat.le_of_ble_eq_true rfl) (Nat.le_of_ble_eq_true rfl) ?_
  refine q_newa (t := 0) (N := 8) (q_dc k_PM_init 76 rfl) rfl (by decide) (fun _ _ h => h) (List.mem_of_getElem? (i := 139) (by decide +kernel)) (fun j9 => q_fv_new rfl) (by decide) ⟨by decide, by decide⟩ s92 ?_
  refine q_let (fun v93 => q_G l cx M_PM_init 1 64 8 128 156 [(0, .inr (.inr x0)), (1, .inl x1)] [.inr (.inr v93), .inr (.inr x0)] (q_new σ90 1000 8) R) (q_n σ90) (fun v93 e_v93 => ?_)
  have hV := hV v93 e_v93
  refine q_let (fun σ94 => q_G l cx M_PM_init 1 64 8 128 156 [(0, .inr (.inr x0)), (1, .inl x1)] [.inr (.inr v93), .inr (.inr x0)] σ94 R) (q_new σ90 1000 8) (fun σ94 e_σ94 => ?_)
  have hV := hV σ94 e_σ94
  refine q_run k_PM_init 77 1 159 rfl ?_
  show q_K σ94 x0 = 7 ∧ q_G l cx M_PM_init 1 64 8 128 159 [(0, .inr (.inr x0)), (1, .inl x1)] [] (q_wP σ94 x0 23 v93) R
  obtain ⟨s96, hV⟩ := hV
  refine ⟨s96, ?_⟩
  refine q_let (fun σ95 => q_G l cx M_PM_init 1 64 8 128 159 [(0, .inr (.inr x0)), (1, .inl x1)] [] σ95 R) (q_wP σ94 x0 23 v93) (fun σ95 e_σ95 => ?_)
  have hV := hV σ95 e_σ95
  refine q_run k_PM_init 78 2 162 rfl ?_
  show q_G l cx M_PM_init 1 64 8 128 162 [(0, .inr (.inr x0)), (1, .inl x1)] [.inl (8 : Int32), .inr (.inr x0)] σ95 R
  obtain ⟨s97, hV⟩ := hV
  refine q_less (kc' := 7 + 1) (ks' := 120 + 8) (Nat.le_of_ble_eq_true rfl) (Nat.le_of_ble_eq_true rfl) ?_
  refine q_newa (t := 3) (N := 8) (q_dc k_PM_init 80 rfl) rfl (by decide) (fun _ _ h => h) (List.mem_of_getElem? (i := 935) (by decide +kernel)) (fun j9 => q_fv_new rfl) (by decide) ⟨by decide, by decide⟩ s97 ?_
  refine q_let (fun v98 => q_G l cx M_PM_init 1 64 7 120 164 [(0, .inr (.inr x0)), (1, .inl x1)] [.inr (.inr v98), .inr (.inr x0)] (q_new σ95 1003 8) R) (q_n σ95) (fun v98 e_v98 => ?_)
  have hV := hV v98 e_v98
  refine q_let (fun σ99 => q_G l cx M_PM_init 1 64 7 120 164 [(0, .inr (.inr x0)), (1, .inl x1)] [.inr (.inr v98), .inr (.inr x0)] σ99 R) (q_new σ95 1003 8) (fun σ99 e_σ99 => ?_)
  have hV := hV σ99 e_σ99
  refine q_run k_PM_init 81 1 167 rfl ?_
  show q_K σ99 x0 = 7 ∧ q_G l cx M_PM_init 1 64 7 120 167 [(0, .inr (.inr x0)), (1, .inl x1)] [] (q_wP σ99 x0 24 v98) R
  obtain ⟨s101, hV⟩ := hV
  refine ⟨s101, ?_⟩
  refine q_let (fun σ100 => q_G l cx M_PM_init 1 64 7 120 167 [(0, .inr (.inr x0)), (1, .inl x1)] [] σ100 R) (q_wP σ99 x0 24 v98) (fun σ100 e_σ100 => ?_)
  have hV := hV σ100 e_σ100
  refine q_run k_PM_init 82 2 170 rfl ?_
  show q_G l cx M_PM_init 1 64 7 120 170 [(0, .inr (.inr x0)), (1, .inl x1)] [.inl (8 : Int32), .inr (.inr x0)] σ100 R
  obtain ⟨s102, hV⟩ := hV
  refine q_less (kc' := 6 + 1) (ks' := 112 + 8) (Nat.le_of_ble_eq_true rfl) (Nat.le_of_ble_eq_true rfl) ?_
  refine q_newa (t := 0) (N := 8) (q_dc k_PM_init 84 rfl) rfl (by decide) (fun _ _ h => h) (List.mem_of_getElem? (i := 139) (by decide +kernel)) (fun j9 => q_fv_new rfl) (by decide) ⟨by decide, by decide⟩ s102 ?_
  refine q_let (fun v103 => q_G l cx M_PM_init 1 64 6 112 172 [(0, .inr (.inr x0)), (1, .inl x1)] [.inr (.inr v103), .inr (.inr x0)] (q_new σ100 1000 8) R) (q_n σ100) (fun v103 e_v103 => ?_)
  have hV := hV v103 e_v103
  refine q_let (fun σ104 => q_G l cx M_PM_init 1 64 6 112 172 [(0, .inr (.inr x0)), (1, .inl x1)] [.inr (.inr v103), .inr (.inr x0)] σ104 R) (q_new σ100 1000 8) (fun σ104 e_σ104 => ?_)
  have hV := hV σ104 e_σ104
  refine q_run k_PM_init 85 1 175 rfl ?_
  show q_K σ104 x0 = 7 ∧ q_G l cx M_PM_init 1 64 6 112 175 [(0, .inr (.inr x0)), (1, .inl x1)] [] (q_wP σ104 x0 25 v103) R
  obtain ⟨s106, hV⟩ := hV
  refine ⟨s106, ?_⟩
  refine q_let (fun σ105 => q_G l cx M_PM_init 1 64 6 112 175 [(0, .inr (.inr x0)), (1, .inl x1)] [] σ105 R) (q_wP σ104 x0 25 v103) (fun σ105 e_σ105 => ?_)
  have hV := hV σ105 e_σ105
  refine q_run k_PM_init 86 2 178 rfl ?_
  show q_G l cx M_PM_init 1 64 6 112 178 [(0, .inr (.inr x0)), (1, .inl x1)] [.inl (8 : Int32), .inr (.inr x0)] σ105 R
  obtain ⟨s107, hV⟩ := hV
  refine q_less (kc' := 5 + 1) (ks' := 104 + 8) (Nat.le_of_ble_eq_true rfl) (Nat.le_of_ble_eq_true rfl) ?_
  refine q_newa (t := 3) (N := 8) (q_dc k_PM_init 88 rfl) rfl (by decide) (fun _ _ h => h) (List.mem_of_getElem? (i := 935) (by decide +kernel)) (fun j9 => q_fv_new rfl) (by decide) ⟨by decide, by decide⟩ s107 ?_
  refine q_let (fun v108 => q_G l cx M_PM_init 1 64 5 104 180 [(0, .inr (.inr x0)), (1, .inl x1)] [.inr (.inr v108), .inr (.inr x0)] (q_new σ105 1003 8) R) (q_n σ105) (fun v108 e_v108 => ?_)
  have hV := hV v108 e_v108
  refine q_let (fun σ109 => q_G l cx M_PM_init 1 64 5 104 180 [(0, .inr (.inr x0)), (1, .inl x1)] [.inr (.inr v108), .inr (.inr x0)] σ109 R) (q_new σ105 1003 8) (fun σ109 e_σ109 => ?_)
  have hV := hV σ109 e_σ109
  refine q_run k_PM_init 89 1 183 rfl ?_
  show q_K σ109 x0 = 7 ∧ q_G l cx M_PM_init 1 64 5 104 183 [(0, .inr (.inr x0)), (1, .inl x1)] [] (q_wP σ109 x0 26 v108) R
  obtain ⟨s111, hV⟩ := hV
  refine ⟨s111, ?_⟩
  refine q_let (fun σ110 => q_G l cx M_PM_init 1 64 5 104 183 [(0, .inr (.inr x0)), (1, .inl x1)] [] σ110 R) (q_wP σ109 x0 26 v108) (fun σ110 e_σ110 => ?_)
  have hV := hV σ110 e_σ110
  refine q_run k_PM_init 90 2 186 rfl ?_
  show q_G l cx M_PM_init 1 64 5 104 186 [(0, .inr (.inr x0)), (1, .inl x1)] [.inl (8 : Int32), .inr (.inr x0)] σ110 R
  obtain ⟨s112, hV⟩ := hV
  refine q_less (kc' := 4 + 1) (ks' := 96 + 8) (Nat.le_of_ble_eq_true rfl) (Nat.le_of_ble_eq_true rfl) ?_
  refine q_newa (t := 3) (N := 8) (q_dc k_PM_init 92 rfl) rfl (by decide) (fun _ _ h => h) (List.mem_of_getElem? (i := 935) (by decide +kernel)) (fun j9 => q_fv_new rfl) (by decide) ⟨by decide, by decide⟩ s112 ?_
  refine q_let (fun v113 => q_G l cx M_PM_init 1 64 4 96 188 [(0, .inr (.inr x0)), (1, .inl x1)] [.inr (.inr v113), .inr (.inr x0)] (q_new σ110 1003 8) R) (q_n σ110) (fun v113 e_v113 => ?_)
  have hV := hV v113 e_v113
  refine q_let (fun σ114 => q_G l cx M_PM_init 1 64 4 96 188 [(0, .inr (.inr x0)), (1, .inl x1)] [.inr (.inr v113), .inr (.inr x0)] σ114 R) (q_new σ110 1003 8) (fun σ114 e_σ114 => ?_)
  have hV := hV σ114 e_σ114
  refine q_run k_PM_init 93 1 191 rfl ?_
  show q_K σ114 x0 = 7 ∧ q_G l cx M_PM_init 1 64 4 96 191 [(0, .inr (.inr x0)), (1, .inl x1)] [] (q_wP σ114 x0 27 v113) R
  obtain ⟨s116, hV⟩ := hV
  refine ⟨s116, ?_⟩
  refine q_let (fun σ115 => q_G l cx M_PM_init 1 64 4 96 191 [(0, .inr (.inr x0)), (1, .inl x1)] [] σ115 R) (q_wP σ114 x0 27 v113) (fun σ115 e_σ115 => ?_)
  have hV := hV σ115 e_σ115
  refine q_run k_PM_init 94 2 194 rfl ?_
  show q_G l cx M_PM_init 1 64 4 96 194 [(0, .inr (.inr x0)), (1, .inl x1)] [.inl (24 : Int32), .inr (.inr x0)] σ115 R
  obtain ⟨s117, hV⟩ := hV
  refine q_less (kc' := 3 + 1) (ks' := 72 + 24) (Nat.le_of_ble_eq_true rfl) (Nat.le_of_ble_eq_true rfl) ?_
  refine q_newa (t := 1) (N := 24) (q_dc k_PM_init 96 rfl) rfl (by decide) (fun _ _ h => h) (List.mem_of_getElem? (i := 934) (by decide +kernel)) (fun j9 => q_fv_new rfl) (by decide) ⟨by decide, by decide⟩ s117 ?_
  refine q_let (fun v118 => q_G l cx M_PM_init 1 64 3 72 196 [(0, .inr (.inr x0)), (1, .inl x1)] [.inr (.inr v118), .inr (.inr x0)] (q_new σ115 1001 24) R) (q_n σ115) (fun v118 e_v118 => ?_)
  have hV := hV v118 e_v118
  refine q_let (fun σ119 => q_G l cx M_PM_init 1 64 3 72 196 [(0, .inr (.inr x0)), (1, .inl x1)] [.inr (.inr v118), .inr (.inr x0)] σ119 R) (q_new σ115 1001 24) (fun σ119 e_σ119 => ?_)
  have hV := hV σ119 e_σ119
  refine q_run k_PM_init 97 1 199 rfl ?_
  show q_K σ119 x0 = 7 ∧ q_G l cx M_PM_init 1 64 3 72 199 [(0, .inr (.inr x0)), (1, .inl x1)] [] (q_wP σ119 x0 28 v118) R
  obtain ⟨s121, hV⟩ := hV
  refine ⟨s121, ?_⟩
  refine q_let (fun σ120 => q_G l cx M_PM_init 1 64 3 72 199 [(0, .inr (.inr x0)), (1, .inl x1)] [] σ120 R) (q_wP σ119 x0 28 v118) (fun σ120 e_σ120 => ?_)
  have hV := hV σ120 e_σ120
  refine q_run k_PM_init 98 2 202 rfl ?_
  show q_G l cx M_PM_init 1 64 3 72 202 [(0, .inr (.inr x0)), (1, .inl x1)] [.inl (24 : Int32), .inr (.inr x0)] σ120 R
  obtain ⟨s122, hV⟩ := hV
  refine q_less (kc' := 2 + 1) (ks' := 48 + 24) (Nat.le_of_ble_eq_true rfl) (Nat.le_of_ble_eq_true rfl) ?_
  refine q_newa (t := 1) (N := 24) (q_dc k_PM_init 100 rfl) rfl (by decide) (fun _ _ h => h) (List.mem_of_getElem? (i := 934) (by decide +kernel)) (fun j9 => q_fv_new rfl) (by decide) ⟨by decide, by decide⟩ s122 ?_
  refine q_let (fun v123 => q_G l cx M_PM_init 1 64 2 48 204 [(0, .inr (.inr x0)), (1, .inl x1)] [.inr (.inr v123), .inr (.inr x0)] (q_new σ120 1001 24) R) (q_n σ120) (fun v123 e_v123 => ?_)
  have hV := hV v123 e_v123
  refine q_let (fun σ124 => q_G l cx M_PM_init 1 64 2 48 204 [(0, .inr (.inr x0)), (1, .inl x1)] [.inr (.inr v123), .inr (.inr x0)] σ124 R) (q_new σ120 1001 24) (fun σ124 e_σ124 => ?_)
  have hV := hV σ124 e_σ124
  refine q_run k_PM_init 101 1 207 rfl ?_
  show q_K σ124 x0 = 7 ∧ q_G l cx M_PM_init 1 64 2 48 207 [(0, .inr (.inr x0)), (1, .inl x1)] [] (q_wP σ124 x0 29 v123) R
  obtain ⟨s126, hV⟩ := hV
  refine ⟨s126, ?_⟩
  refine q_let (fun σ125 => q_G l cx M_PM_init 1 64 2 48 207 [(0, .inr (.inr x0)), (1, .inl x1)] [] σ125 R) (q_wP σ124 x0 29 v123) (fun σ125 e_σ125 => ?_)
  have hV := hV σ125 e_σ125
  refine q_run k_PM_init 102 2 210 rfl ?_
  show q_G l cx M_PM_init 1 64 2 48 210 [(0, .inr (.inr x0)), (1, .inl x1)] [.inl (24 : Int32), .inr (.inr x0)] σ125 R
  obtain ⟨s127, hV⟩ := hV
  refine q_less (kc' := 1 + 1) (ks' := 24 + 24) (Nat.le_of_ble_eq_true rfl) (Nat.le_of_ble_eq_true rfl) ?_
  refine q_newa (t := 1) (N := 24) (q_dc k_PM_init 104 rfl) rfl (by decide) (fun _ _ h => h) (List.mem_of_getElem? (i := 934) (by decide +kernel)) (fun j9 => q_fv_new rfl) (by decide) ⟨by decide, by decide⟩ s127 ?_
  refine q_let (fun v128 => q_G l cx M_PM_init 1 64 1 24 212 [(0, .inr (.inr x0)), (1, .inl x1)] [.inr (.inr v128), .inr (.inr x0)] (q_new σ125 1001 24) R) (q_n σ125) (fun v128 e_v128 => ?_)
  have hV := hV v128 e_v128
  refine q_let (fun σ129 => q_G l cx M_PM_init 1 64 1 24 212 [(0, .inr (.inr x0)), (1, .inl x1)] [.inr (.inr v128), .inr (.inr x0)] σ129 R) (q_new σ125 1001 24) (fun σ129 e_σ129 => ?_)
  have hV := hV σ129 e_σ129
  refine q_run k_PM_init 105 1 215 rfl ?_
  show q_K σ129 x0 = 7 ∧ q_G l cx M_PM_init 1 64 1 24 215 [(0, .inr (.inr x0)), (1, .inl x1)] [] (q_wP σ129 x0 30 v128) R
  obtain ⟨s131, hV⟩ := hV
  refine ⟨s131, ?_⟩
  refine q_let (fun σ130 => q_G l cx M_PM_init 1 64 1 24 215 [(0, .inr (.inr x0)), (1, .inl x1)] [] σ130 R) (q_wP σ129 x0 30 v128) (fun σ130 e_σ130 => ?_)
  have hV := hV σ130 e_σ130
  refine q_run k_PM_init 106 2 218 rfl ?_
  show q_G l cx M_PM_init 1 64 1 24 218 [(0, .inr (.inr x0)), (1, .inl x1)] [.inl (24 : Int32), .inr (.inr x0)] σ130 R
  obtain ⟨s132, hV⟩ := hV
  refine q_less (kc' := 0 + 1) (ks' := 0 + 24) (Nat.le_of_ble_eq_true rfl) (Nat.le_of_ble_eq_true rfl) ?_
  refine q_newa (t := 1) (N := 24) (q_dc k_PM_init 108 rfl) rfl (by decide) (fun _ _ h => h) (List.mem_of_getElem? (i := 934) (by decide +kernel)) (fun j9 => q_fv_new rfl) (by decide) ⟨by decide, by decide⟩ s132 ?_
  refine q_let (fun v133 => q_G l cx M_PM_init 1 64 0 0 220 [(0, .inr (.inr x0)), (1, .inl x1)] [.inr (.inr v133), .inr (.inr x0)] (q_new σ130 1001 24) R) (q_n σ130) (fun v133 e_v133 => ?_)
  have hV := hV v133 e_v133
  refine q_let (fun σ134 => q_G l cx M_PM_init 1 64 0 0 220 [(0, .inr (.inr x0)), (1, .inl x1)] [.inr (.inr v133), .inr (.inr x0)] σ134 R) (q_new σ130 1001 24) (fun σ134 e_σ134 => ?_)
  have hV := hV σ134 e_σ134
  refine q_run k_PM_init 109 1 223 rfl ?_
  show q_K σ134 x0 = 7 ∧ q_G l cx M_PM_init 1 64 0 0 223 [(0, .inr (.inr x0)), (1, .inl x1)] [] (q_wP σ134 x0 31 v133) R
  obtain ⟨s136, hV⟩ := hV
  refine ⟨s136, ?_⟩
  refine q_let (fun σ135 => q_G l cx M_PM_init 1 64 0 0 223 [(0, .inr (.inr x0)), (1, .inl x1)] [] σ135 R) (q_wP σ134 x0 31 v133) (fun σ135 e_σ135 => ?_)
  have hV := hV σ135 e_σ135
  refine q_run k_PM_init 110 3 226 rfl ?_
  show q_G l cx M_PM_init 1 64 0 0 226 [(0, .inr (.inr x0)), (1, .inl x1)] [.inl (1 : Int32), .inl x1, .inr (.inr x0)] σ135 R
  refine q_icmp (q_dc k_PM_init 113 rfl) rfl (fun h137 => ?_) (fun h137 => ?_)
  · have hV := hV.1 h137
    refine q_run k_PM_init 116 2 235 rfl ?_
    show q_G l cx M_PM_init 1 64 0 0 235 [(0, .inr (.inr x0)), (1, .inl x1)] [.inl (4 : Int32), .inl x1, .inr (.inr x0)] σ135 R
    refine q_icmp (q_dc k_PM_init 118 rfl) rfl (fun h138 => ?_) (fun h138 => ?_)
    · have hV := hV.1 h138
      refine q_run k_PM_init 121 1 243 rfl ?_
      show q_G l cx M_PM_init 1 64 0 0 243 [(0, .inr (.inr x0)), (1, .inl x1)] [.inl x1, .inr (.inr x0)] σ135 R
      exact q_less (Nat.le_of_ble_eq_true rfl) (Nat.le_of_ble_eq_true rfl) (q_subk [0] rfl hV)
    · have hV := hV.2 h138
      refine q_run k_PM_init 119 1 239 rfl ?_
      show q_G l cx M_PM_init 1 64 0 0 239 [(0, .inr (.inr x0)), (1, .inl x1)] [.inl (4 : Int32), .inr (.inr x0)] σ135 R
      refine q_goto (q_dc k_PM_init 120 rfl) rfl ?_
      exact q_less (Nat.le_of_ble_eq_true rfl) (Nat.le_of_ble_eq_true rfl) (q_subk [0] rfl hV)
  · have hV := hV.2 h137
    refine q_run k_PM_init 114 1 230 rfl ?_
    show q_G l cx M_PM_init 1 64 0 0 230 [(0, .inr (.inr x0)), (1, .inl x1)] [.inl (1 : Int32), .inr (.inr x0)] σ135 R
    refine q_goto (q_dc k_PM_init 115 rfl) rfl ?_
    exact q_less (Nat.le_of_ble_eq_true rfl) (Nat.le_of_ble_eq_true rfl) (q_subk [0] rfl hV)
