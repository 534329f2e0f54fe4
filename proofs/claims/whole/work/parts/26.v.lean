/-! WHAT THROWING METHODS ASK (by program) -/
theorem q_ci_x {k : Int32 → q_S → Prop} {x : Nat → q_S → Prop} {n : Nat} {τ : q_S} (h : q_ci k x (.inr n) τ) : x n τ := h
theorem q_cl_x {k : Int64 → q_S → Prop} {x : Nat → q_S → Prop} {n : Nat} {τ : q_S} (h : q_cl' k x (.inr n) τ) : x n τ := h
theorem q_cr_x {k : Nat → q_S → Prop} {x : Nat → q_S → Prop} {n : Nat} {τ : q_S} (h : q_cr k x (.inr n) τ) : x n τ := h
theorem q_cv_x {k : q_S → Prop} {x : Nat → q_S → Prop} {n : Nat} {τ : q_S} (h : q_cv k x (.inr n) τ) : x n τ := h
def V_PF_requireLayer (x0 : Nat) (x1 : Int32) (σ : q_S) (R : q_O → q_S → Prop) : Prop :=
  ∀ (P12 : q_S → Prop),
  (∀ (σ : q_S), (q_n σ < 10000000 ∧ ∀ v2 : Nat, v2 = q_n σ → ∀ σ3 : q_S, σ3 = q_new σ 9 0 → 0 < v2 ∧ R (.inr v2) σ3) → P12 σ) →
  ((x1 < (0 : Int32) → P12  σ) ∧ (¬ (x1 < (0 : Int32)) → q_K σ x0 = 1 ∧ ((x1 < (q_I σ x0 0) → R (.inl none) σ) ∧ (¬ (x1 < (q_I σ x0 0)) → P12  σ))))
set_option maxRecDepth 100000 in
theorem t_PF_requireLayer {l : Launch} {cx : q_C} {x0 : Nat} {x1 : Int32} {σ : q_S} {R : q_O → q_S → Prop} (hlf : l.flags = pinnedFlags ++ [noTraceFlag]) (hV : V_PF_requireLayer x0 x1 σ R) : q_Ct l cx M_PF_requireLayer 6 384 1 6 [q_r x0, q_i x1] σ R := by
  refine q_Ct.of p_PF_requireLayer c_PF_requireLayer rfl (Nat.le_of_ble_eq_true rfl) ?_
  have hV := hV (fun (σ : q_S) => q_G l cx M_PF_requireLayer 6 384 1 6 12 [] [] σ R)
  have hV := hV (by
      intro σ hV
      show q_G l cx M_PF_requireLayer 6 384 1 6 12 [] [] σ R
      obtain ⟨s1, hV⟩ := hV
      refine q_less (kc' := 0 + 1) (ks' := 0 + 6) (Nat.le_of_ble_eq_true rfl) (Nat.le_of_ble_eq_true rfl) ?_
      refine q_excIO hlf rfl (q_dc k_PF_requireLayer 6 rfl) (q_dc k_PF_requireLayer 7 rfl) (Or.inr ⟨(q_dc k_PF_requireLayer 8 rfl), rfl⟩) (List.mem_of_getElem? (i := 13) rfl) (q_dc k_PF_requireLayer 9 rfl) s1 ⟨Nat.le_of_ble_eq_true rfl, Nat.le_of_ble_eq_true rfl⟩ ?_
      refine q_let (fun v2 => q_G l cx M_PF_requireLayer 6 384 0 0 22 [] [.inr (.inr v2)] (q_new σ 9 0) R) (q_n σ) (fun v2 e_v2 => ?_)
      have hV := hV v2 e_v2
      refine q_let (fun σ3 => q_G l cx M_PF_requireLayer 6 384 0 0 22 [] [.inr (.inr v2)] σ3 R) (q_new σ 9 0) (fun σ3 e_σ3 => ?_)
      have hV := hV σ3 e_σ3
      obtain ⟨s4, hV⟩ := hV
      exact q_athrow (q_dc k_PF_requireLayer 10 rfl) s4 (q_T.leave rfl hV))
  refine q_run k_PF_requireLayer 0 1 1 rfl ?_
  show q_G l cx M_PF_requireLayer 6 384 1 6 1 [(0, .inr (.inr x0)), (1, .inl x1)] [.inl x1] σ R
  refine q_ifz (q_dc k_PF_requireLayer 1 rfl) rfl (fun h1 => ?_) (fun h1 => ?_)
  · have hV := hV.1 h1
    exact q_less (Nat.le_of_ble_eq_true rfl) (Nat.le_of_ble_eq_true rfl) (q_subk [] rfl hV)
  · have hV := hV.2 h1
    refine q_run k_PF_requireLayer 2 3 9 rfl ?_
    show q_K σ x0 = 1 ∧ q_G l cx M_PF_requireLayer 6 384 1 6 9 [(0, .inr (.inr x0)), (1, .inl x1)] [.inl (q_I σ x0 0), .inl x1] σ R
    obtain ⟨s2, hV⟩ := hV
    refine ⟨s2, ?_⟩
    refine q_icmp (q_dc k_PF_requireLayer 5 rfl) rfl (fun h3 => ?_) (fun h3 => ?_)
    · have hV := hV.1 h3
      exact q_vreturn (q_dc k_PF_requireLayer 11 rfl) rfl hV
    · have hV := hV.2 h3
      exact q_less (Nat.le_of_ble_eq_true rfl) (Nat.le_of_ble_eq_true rfl) (q_subk [] rfl hV)
def V_PF_requireNet (x0 : Int32) (σ : q_S) (R : q_O → q_S → Prop) : Prop :=
  ∀ (P10 : q_S → Prop),
  (∀ (σ : q_S), (q_n σ < 10000000 ∧ ∀ v2 : Nat, v2 = q_n σ → ∀ σ3 : q_S, σ3 = q_new σ 10 0 → 0 < v2 ∧ R (.inr v2) σ3) → P10 σ) →
  ((x0 < (0 : Int32) → P10  σ) ∧ (¬ (x0 < (0 : Int32)) → ((x0 ≤ (99 : Int32) → R (.inl none) σ) ∧ (¬ (x0 ≤ (99 : Int32)) → P10  σ))))
set_option maxRecDepth 100000 in
theorem t_PF_requireNet {l : Launch} {cx : q_C} {x0 : Int32} {σ : q_S} {R : q_O → q_S → Prop} (hlf : l.flags = pinnedFlags ++ [noTraceFlag]) (hV : V_PF_requireNet x0 σ R) : q_Ct l cx M_PF_requireNet 6 384 1 6 [q_i x0] σ R := by
  refine q_Ct.of p_PF_requireNet c_PF_requireNet rfl (Nat.le_of_ble_eq_true rfl) ?_
  have hV := hV (fun (σ : q_S) => q_G l cx M_PF_requireNet 6 384 1 6 10 [] [] σ R)
  have hV := hV (by
      intro σ hV
      show q_G l cx M_PF_requireNet 6 384 1 6 10 [] [] σ R
      obtain ⟨s1, hV⟩ := hV
      refine q_less (kc' := 0 + 1) (ks' := 0 + 6) (Nat.le_of_ble_eq_true rfl) (Nat.le_of_ble_eq_true rfl) ?_
      refine q_excIA hlf rfl (q_dc k_PF_requireNet 5 rfl) (q_dc k_PF_requireNet 6 rfl) (Or.inr ⟨(q_dc k_PF_requireNet 7 rfl), rfl⟩) (List.mem_of_getElem? (i := 14) rfl) (q_dc k_PF_requireNet 8 rfl) s1 ⟨Nat.le_of_ble_eq_true rfl, Nat.le_of_ble_eq_true rfl⟩ ?_
      refine q_let (fun v2 => q_G l cx M_PF_requireNet 6 384 0 0 20 [] [.inr (.inr v2)] (q_new σ 10 0) R) (q_n σ) (fun v2 e_v2 => ?_)
      have hV := hV v2 e_v2
      refine q_let (fun σ3 => q_G l cx M_PF_requireNet 6 384 0 0 20 [] [.inr (.inr v2)] σ3 R) (q_new σ 10 0) (fun σ3 e_σ3 => ?_)
      have hV := hV σ3 e_σ3
      obtain ⟨s4, hV⟩ := hV
      exact q_athrow (q_dc k_PF_requireNet 9 rfl) s4 (q_T.leave rfl hV))
  refine q_run k_PF_requireNet 0 1 1 rfl ?_
  show q_G l cx M_PF_requireNet 6 384 1 6 1 [(0, .inl x0)] [.inl x0] σ R
  refine q_ifz (q_dc k_PF_requireNet 1 rfl) rfl (fun h1 => ?_) (fun h1 => ?_)
  · have hV := hV.1 h1
    exact q_less (Nat.le_of_ble_eq_true rfl) (Nat.le_of_ble_eq_true rfl) (q_subk [] rfl hV)
  · have hV := hV.2 h1
    refine q_run k_PF_requireNet 2 2 7 rfl ?_
    show q_G l cx M_PF_requireNet 6 384 1 6 7 [(0, .inl x0)] [.inl (99 : Int32), .inl x0] σ R
    refine q_icmp (q_dc k_PF_requireNet 4 rfl) rfl (fun h2 => ?_) (fun h2 => ?_)
    · have hV := hV.1 h2
      exact q_vreturn (q_dc k_PF_requireNet 10 rfl) rfl hV
    · have hV := hV.2 h2
      exact q_less (Nat.le_of_ble_eq_true rfl) (Nat.le_of_ble_eq_true rfl) (q_subk [] rfl hV)
def V_PF_requireCorner (x0 : Int64) (x2 : Int64) (σ : q_S) (R : q_O → q_S → Prop) : Prop :=
  ∀ (P28 : q_S → Prop),
  (∀ (σ : q_S), (q_n σ < 10000000 ∧ ∀ v2 : Nat, v2 = q_n σ → ∀ σ3 : q_S, σ3 = q_new σ 10 0 → 0 < v2 ∧ R (.inr v2) σ3) → P28 σ) →
  (((lg_cmp x0 (0 : Int64)) < (0 : Int32) → P28  σ) ∧ (¬ ((lg_cmp x0 (0 : Int64)) < (0 : Int32)) → (((0 : Int32) < (lg_cmp x0 (32 : Int64)) → P28  σ) ∧ (¬ ((0 : Int32) < (lg_cmp x0 (32 : Int64))) → (((lg_cmp x2 (0 : Int64)) < (0 : Int32) → P28  σ) ∧ (¬ ((lg_cmp x2 (0 : Int64)) < (0 : Int32)) → (((lg_cmp x2 (24 : Int64)) ≤ (0 : Int32) → R (.inl none) σ) ∧ (¬ ((lg_cmp x2 (24 : Int64)) ≤ (0 : Int32)) → P28  σ))))))))
set_option maxRecDepth 100000 in
theorem t_PF_requireCorner {l : Launch} {cx : q_C} {x0 : Int64} {x2 : Int64} {σ : q_S} {R : q_O → q_S → Prop} (hlf : l.flags = pinnedFlags ++ [noTraceFlag]) (hV : V_PF_requireCorner x0 x2 σ R) : q_Ct l cx M_PF_requireCorner 6 384 1 6 [q_l x0, q_l x2] σ R := by
  refine q_Ct.of p_PF_requireCorner c_PF_requireCorner rfl (Nat.le_of_ble_eq_true rfl) ?_
  have hV := hV (fun (σ : q_S) => q_G l cx M_PF_requireCorner 6 384 1 6 28 [] [] σ R)
  have hV := hV (by
      intro σ hV
      show q_G l cx M_PF_requireCorner 6 384 1 6 28 [] [] σ R
      obtain ⟨s1, hV⟩ := hV
      refine q_less (kc' := 0 + 1) (ks' := 0 + 6) (Nat.le_of_ble_eq_true rfl) (Nat.le_of_ble_eq_true rfl) ?_
      refine q_excIA hlf rfl (q_dc k_PF_requireCorner 16 rfl) (q_dc k_PF_requireCorner 17 rfl) (Or.inr ⟨(q_dc k_PF_requireCorner 18 rfl), rfl⟩) (List.mem_of_getElem? (i := 15) rfl) (q_dc k_PF_requireCorner 19 rfl) s1 ⟨Nat.le_of_ble_eq_true rfl, Nat.le_of_ble_eq_true rfl⟩ ?_
      refine q_let (fun v2 => q_G l cx M_PF_requireCorner 6 384 0 0 38 [] [.inr (.inr v2)] (q_new σ 10 0) R) (q_n σ) (fun v2 e_v2 => ?_)
      have hV := hV v2 e_v2
      refine q_let (fun σ3 => q_G l cx M_PF_requireCorner 6 384 0 0 38 [] [.inr (.inr v2)] σ3 R) (q_new σ 10 0) (fun σ3 e_σ3 => ?_)
      have hV := hV σ3 e_σ3
      obtain ⟨s4, hV⟩ := hV
      exact q_athrow (q_dc k_PF_requireCorner 20 rfl) s4 (q_T.leave rfl hV))
  refine q_run k_PF_requireCorner 0 3 3 rfl ?_
  show q_G l cx M_PF_requireCorner 6 384 1 6 3 [(0, .inr (.inl x0)), (2, .inr (.inl x2))] [.inl (lg_cmp x0 (0 : Int64))] σ R
  refine q_ifz (q_dc k_PF_requireCorner 3 rfl) rfl (fun h1 => ?_) (fun h1 => ?_)
  · have hV := hV.1 h1
    exact q_less (Nat.le_of_ble_eq_true rfl) (Nat.le_of_ble_eq_true rfl) (q_subk [] rfl hV)
  · have hV := hV.2 h1
    refine q_run k_PF_requireCorner 4 3 11 rfl ?_
    show q_G l cx M_PF_requireCorner 6 384 1 6 11 [(0, .inr (.inl x0)), (2, .inr (.inl x2))] [.inl (lg_cmp x0 (32 : Int64))] σ R
    refine q_ifz (q_dc k_PF_requireCorner 7 rfl) rfl (fun h2 => ?_) (fun h2 => ?_)
    · have hV := hV.1 h2
      exact q_less (Nat.le_of_ble_eq_true rfl) (Nat.le_of_ble_eq_true rfl) (q_subk [] rfl hV)
    · have hV := hV.2 h2
      refine q_run k_PF_requireCorner 8 3 17 rfl ?_
      show q_G l cx M_PF_requireCorner 6 384 1 6 17 [(0, .inr (.inl x0)), (2, .inr (.inl x2))] [.inl (lg_cmp x2 (0 : Int64))] σ R
      refine q_ifz (q_dc k_PF_requireCorner 11 rfl) rfl (fun h3 => ?_) (fun h3 => ?_)
      · have hV := hV.1 h3
        exact q_less (Nat.le_of_ble_eq_true rfl) (Nat.le_of_ble_eq_true rfl) (q_subk [] rfl hV)
      · have hV := hV.2 h3
        refine q_run k_PF_requireCorner 12 3 25 rfl ?_
        show q_G l cx M_PF_requireCorner 6 384 1 6 25 [(0, .inr (.inl x0)), (2, .inr (.inl x2))] [.inl (lg_cmp x2 (24 : Int64))] σ R
        refine q_ifz (q_dc k_PF_requireCorner 15 rfl) rfl (fun h4 => ?_) (fun h4 => ?_)
        · have hV := hV.1 h4
          exact q_vreturn (q_dc k_PF_requireCorner 21 rfl) rfl hV
        · have hV := hV.2 h4
          exact q_less (Nat.le_of_ble_eq_true rfl) (Nat.le_of_ble_eq_true rfl) (q_subk [] rfl hV)
def V_PF_knownPlane (x0 : Nat) (x1 : Int32) (σ : q_S) (R : q_O → q_S → Prop) : Prop :=
  ∀ (P17 : q_S → Prop),
  (∀ (σ : q_S), (q_n σ < 10000000 ∧ ∀ v2 : Nat, v2 = q_n σ → ∀ σ3 : q_S, σ3 = q_new σ 9 0 → 0 < v2 ∧ R (.inr v2) σ3) → P17 σ) →
  ((x1 < (0 : Int32) → P17  σ) ∧ (¬ (x1 < (0 : Int32)) → q_K σ x0 = 1 ∧ q_K σ (q_P σ x0 1) = 8 ∧ V_AL_size (q_P σ x0 1) σ (q_ci (fun v6 σ7 => ((x1 < v6 → q_K σ7 x0 = 1 ∧ q_K σ7 (q_P σ7 x0 1) = 8 ∧ V_AL_get (q_P σ7 x0 1) x1 σ7 (q_cr (fun v13 σ14 => q_K σ14 v13 = 6 ∧ R (.inl (some (.inr (.inr v13)))) σ14) (fun n9 σ9 => R (.inr n9) σ9))) ∧ (¬ (x1 < v6) → P17  σ7))) (fun n9 σ9 => R (.inr n9) σ9))))
set_option maxRecDepth 100000 in
theorem t_PF_knownPlane {l : Launch} {cx : q_C} {x0 : Nat} {x1 : Int32} {σ : q_S} {R : q_O → q_S → Prop} (hlf : l.flags = pinnedFlags ++ [noTraceFlag]) (hV : V_PF_knownPlane x0 x1 σ R) : q_Ct l cx M_PF_knownPlane 6 384 1 6 [q_r x0, q_i x1] σ R := by
  refine q_Ct.of p_PF_knownPlane c_PF_knownPlane rfl (Nat.le_of_ble_eq_true rfl) ?_
  have hV := hV (fun (σ : q_S) => q_G l cx M_PF_knownPlane 6 384 1 6 17 [] [] σ R)
  have hV := hV (by
      intro σ hV
      show q_G l cx M_PF_knownPlane 6 384 1 6 17 [] [] σ R
      obtain ⟨s1, hV⟩ := hV
      refine q_less (kc' := 0 + 1) (ks' := 0 + 6) (Nat.le_of_ble_eq_true rfl) (Nat.le_of_ble_eq_true rfl) ?_
      refine q_excIO hlf rfl (q_dc k_PF_knownPlane 7 rfl) (q_dc k_PF_knownPlane 8 rfl) (Or.inr ⟨(q_dc k_PF_knownPlane 9 rfl), rfl⟩) (List.mem_of_getElem? (i := 16) rfl) (q_dc k_PF_knownPlane 10 rfl) s1 ⟨Nat.le_of_ble_eq_true rfl, Nat.le_of_ble_eq_true rfl⟩ ?_
      refine q_let (fun v2 => q_G l cx M_PF_knownPlane 6 384 0 0 27 [] [.inr (.inr v2)] (q_new σ 9 0) R) (q_n σ) (fun v2 e_v2 => ?_)
      have hV := hV v2 e_v2
      refine q_let (fun σ3 => q_G l cx M_PF_knownPlane 6 384 0 0 27 [] [.inr (.inr v2)] σ3 R) (q_new σ 9 0) (fun σ3 e_σ3 => ?_)
      have hV := hV σ3 e_σ3
      obtain ⟨s4, hV⟩ := hV
      exact q_athrow (q_dc k_PF_knownPlane 11 rfl) s4 (q_T.leave rfl hV))
  refine q_run k_PF_knownPlane 0 1 1 rfl ?_
  show q_G l cx M_PF_knownPlane 6 384 1 6 1 [(0, .inr (.inr x0)), (1, .inl x1)] [.inl x1] σ R
  refine q_ifz (q_dc k_PF_knownPlane 1 rfl) rfl (fun h1 => ?_) (fun h1 => ?_)
  · have hV := hV.1 h1
    exact q_less (Nat.le_of_ble_eq_true rfl) (Nat.le_of_ble_eq_true rfl) (q_subk [] rfl hV)
  · have hV := hV.2 h1
    refine q_run k_PF_knownPlane 2 3 9 rfl ?_
    show q_K σ x0 = 1 ∧ q_G l cx M_PF_knownPlane 6 384 1 6 9 [(0, .inr (.inr x0)), (1, .inl x1)] [.inr (.inr (q_P σ x0 1)), .inl x1] σ R
    obtain ⟨s2, hV⟩ := hV
    refine ⟨s2, ?_⟩
    obtain ⟨s3, hV⟩ := hV
    refine q_callF (st := [.inl x1]) (as := []) (x := ⟨"java/util/List", "size", "()I"⟩) (t_AL_size (l := l) (cx := cx)  hV) (q_dc k_PF_knownPlane 5 rfl) (List.mem_of_getElem? (i := 172) (by decide +kernel)) w_AL_size n_AL_size (ci := 7) rfl (List.mem_of_getElem? (i := 173) (by decide +kernel)) (List.mem_of_getElem? (i := 0) rfl) (by decide) a_AL_size (q_wt (Nat.le_of_ble_eq_true rfl)) ⟨Nat.le_of_ble_eq_true rfl, Nat.le_of_ble_eq_true rfl⟩ s3 (fun v9 τ9 q9 => ?_) (fun n9 τ9 q9 => q_T.leave rfl q9)
    obtain ⟨v6, rfl, hV⟩ := q_ci_elim q9
    clear q9
    have hV := hV
    revert hV
    generalize τ9 = σ7
    intro hV
    show q_G l cx M_PF_knownPlane 6 384 1 6 14 [(0, .inr (.inr x0)), (1, .inl x1)] [.inl v6, .inl x1] σ7 R
    refine q_icmp (q_dc k_PF_knownPlane 6 rfl) rfl (fun h8 => ?_) (fun h8 => ?_)
    · have hV := hV.1 h8
      refine q_run k_PF_knownPlane 12 3 33 rfl ?_
      show q_K σ7 x0 = 1 ∧ q_G l cx M_PF_knownPlane 6 384 1 6 33 [(0, .inr (.inr x0)), (1, .inl x1)] [.inl x1, .inr (.inr (q_P σ7 x0 1))] σ7 R
      obtain ⟨s9, hV⟩ := hV
      refine ⟨s9, ?_⟩
      obtain ⟨s10, hV⟩ := hV
      refine q_callF (st := []) (as := [.inl x1]) (x := ⟨"java/util/List", "get", "(I)Ljava/lang/Object;"⟩) (t_AL_get (l := l) (cx := cx)  hV) (q_dc k_PF_knownPlane 15 rfl) (List.mem_of_getElem? (i := 176) (by decide +kernel)) w_AL_get n_AL_get (ci := 7) rfl (List.mem_of_getElem? (i := 177) (by decide +kernel)) (List.mem_of_getElem? (i := 1) rfl) (by decide) a_AL_get (q_wt (Nat.le_of_ble_eq_true rfl)) ⟨Nat.le_of_ble_eq_true rfl, Nat.le_of_ble_eq_true rfl⟩ s10 (fun v9 τ9 q9 => ?_) (fun n9 τ9 q9 => q_T.leave rfl q9)
      obtain ⟨v13, rfl, hV⟩ := q_cr_elim q9
      clear q9
      have hV := hV
      revert hV
      generalize τ9 = σ14
      intro hV
      show q_G l cx M_PF_knownPlane 6 384 1 6 38 [(0, .inr (.inr x0)), (1, .inl x1)] [.inr (.inr v13)] σ14 R
      obtain ⟨s15, hV⟩ := hV
      refine q_cast1 (ci := 5) (q_dc k_PF_knownPlane 16 rfl) rfl s15 (List.mem_of_getElem? (i := 3) rfl) (List.mem_of_getElem? (i := 190) (by decide +kernel)) ?_
      show q_G l cx M_PF_knownPlane 6 384 1 6 41 [(0, .inr (.inr x0)), (1, .inl x1)] [.inr (.inr v13)] σ14 R
      exact q_areturn (q_dc k_PF_knownPlane 17 rfl) rfl (by first | exact Or.inl ⟨_, rfl⟩ | exact Or.inr ⟨_, rfl⟩) hV
    · have hV := hV.2 h8
      exact q_less (Nat.le_of_ble_eq_true rfl) (Nat.le_of_ble_eq_true rfl) (q_subk [] rfl hV)
def V_PF_plane (x0 : Nat) (x1 : Int32) (x2 : Int32) (x3 : Int32) (σ : q_S) (R : q_O → q_S → Prop) : Prop :=
  ∀ (P21 : q_S → Prop),
  (∀ (σ : q_S), (q_n σ < 10000000 ∧ ∀ v2 : Nat, v2 = q_n σ → ∀ σ3 : q_S, σ3 = q_new σ 10 0 → 0 < v2 ∧ R (.inr v2) σ3) → P21 σ) →
  q_K σ x0 = 1 ∧ V_PF_requireLayer x0 x2 σ (q_cv (fun σ5 => V_PF_requireNet x1 σ5 (q_cv (fun σ9 => ((x3 < (-100 : Int32) → P21  σ9) ∧ (¬ (x3 < (-100 : Int32)) → ((x3 ≤ (100 : Int32) → q_K σ9 x0 = 1 ∧ q_K σ9 (q_P σ9 x0 1) = 8 ∧ V_AL_size (q_P σ9 x0 1) σ9 (q_ci (fun v16 σ17 => ((v16 < (8 : Int32) → q_n σ17 < 10000000 ∧ ∀ v20 : Nat, v20 = q_n σ17 → ∀ σ21 : q_S, σ21 = q_new σ17 6 0 → 0 < v20 ∧ V_PL_init v20 x1 x2 x3 σ21 (q_cv (fun σ26 => q_K σ26 x0 = 1 ∧ q_K σ26 x0 = 1 ∧ V_PF_placeOfRank x0 x3 σ26 (q_ci (fun v31 σ32 => q_K σ32 (q_P σ26 x0 2) = 8 ∧ V_AL_add (q_P σ26 x0 2) v31 v20 σ32 (q_cv (fun σ37 => q_K σ37 x0 = 1 ∧ q_K σ37 (q_P σ37 x0 1) = 8 ∧ V_AL_add2 (q_P σ37 x0 1) v20 σ37 (q_ci (fun v42 σ43 => q_K σ43 x0 = 1 ∧ q_K σ43 (q_P σ43 x0 1) = 8 ∧ V_AL_size (q_P σ43 x0 1) σ43 (q_ci (fun v48 σ49 => R (.inl (some (.inl (v48 - (1 : Int32))))) σ49) (fun n9 σ9 => R (.inr n9) σ9))) (fun n9 σ9 => R (.inr n9) σ9))) (fun n9 σ9 => R (.inr n9) σ9))) (fun n9 σ9 => R (.inr n9) σ9))) (fun n9 σ9 => R (.inr n9) σ9))) ∧ (¬ (v16 < (8 : Int32)) → R (.inl (some (.inl (-1 : Int32)))) σ17))) (fun n9 σ9 => R (.inr n9) σ9))) ∧ (¬ (x3 ≤ (100 : Int32)) → P21  σ9))))) (fun n9 σ9 => R (.inr n9) σ9))) (fun n9 σ9 => R (.inr n9) σ9))
set_option maxRecDepth 100000 in
theorem t_PF_plane {l : Launch} {cx : q_C} {x0 : Nat} {x1 : Int32} {x2 : Int32} {x3 : Int32} {σ : q_S} {R : q_O → q_S → Prop} (hlf : l.flags = pinnedFlags ++ [noTraceFlag]) (hV : V_PF_plane x0 x1 x2 x3 σ R) : q_Ct l cx M_PF_plane 7 448 13 198 [q_r x0, q_i x1, q_i x2, q_i x3] σ R := by
  refine q_Ct.of p_PF_plane c_PF_plane rfl (Nat.le_of_ble_eq_true rfl) ?_
  have hV := hV (fun (σ : q_S) => q_G l cx M_PF_plane 7 448 1 6 21 [] [] σ R)
  have hV := hV (by
      intro σ hV
      show q_G l cx M_PF_plane 7 448 1 6 21 [] [] σ R
      obtain ⟨s1, hV⟩ := hV
      refine q_less (kc' := 0 + 1) (ks' := 0 + 6) (Nat.le_of_ble_eq_true rfl) (Nat.le_of_ble_eq_true rfl) ?_
      refine q_excIA hlf rfl (q_dc k_PF_plane 11 rfl) (q_dc k_PF_plane 12 rfl) (Or.inl ⟨(q_dc k_PF_plane 13 rfl), rfl⟩) (List.mem_of_getElem? (i := 0) rfl) (q_dc k_PF_plane 14 rfl) s1 ⟨Nat.le_of_ble_eq_true rfl, Nat.le_of_ble_eq_true rfl⟩ ?_
      refine q_let (fun v2 => q_G l cx M_PF_plane 7 448 0 0 30 [] [.inr (.inr v2)] (q_new σ 10 0) R) (q_n σ) (fun v2 e_v2 => ?_)
      have hV := hV v2 e_v2
      refine q_let (fun σ3 => q_G l cx M_PF_plane 7 448 0 0 30 [] [.inr (.inr v2)] σ3 R) (q_new σ 10 0) (fun σ3 e_σ3 => ?_)
      have hV := hV σ3 e_σ3
      obtain ⟨s4, hV⟩ := hV
      exact q_athrow (q_dc k_PF_plane 15 rfl) s4 (q_T.leave rfl hV))
  refine q_run k_PF_plane 0 2 2 rfl ?_
  show q_G l cx M_PF_plane 7 448 13 198 2 [(0, .inr (.inr x0)), (1, .inl x1), (2, .inl x2), (3, .inl x3)] [.inl x2, .inr (.inr x0)] σ R
  obtain ⟨s1, hV⟩ := hV
  refine q_less (kc' := 12 + 1) (ks' := 192 + 6) (Nat.le_of_ble_eq_true rfl) (Nat.le_of_ble_eq_true rfl) ?_
  refine q_callV (st := []) (as := [.inl x2]) (t_PF_requireLayer (l := l) (cx := cx) hlf hV) (q_dc k_PF_plane 2 rfl) (Or.inl (List.mem_of_getElem? (i := 301) (by decide +kernel))) w_PF_requireLayer n_PF_requireLayer (ci := 0) rfl e_PF_requireLayer a_PF_requireLayer (q_wt (Nat.le_of_ble_eq_true rfl)) ⟨Nat.le_of_ble_eq_true rfl, Nat.le_of_ble_eq_true rfl⟩ s1 (fun v9 τ9 q9 => ?_) (fun n9 τ9 q9 => q_T.leave rfl q9)
  obtain ⟨rfl, hV⟩ := q_cv_elim q9
  clear q9
  have hV := hV
  revert hV
  generalize τ9 = σ5
  intro hV
  show q_G l cx M_PF_plane 7 448 12 192 5 [(0, .inr (.inr x0)), (1, .inl x1), (2, .inl x2), (3, .inl x3)] [] σ5 R
  refine q_run k_PF_plane 3 1 6 rfl ?_
  show q_G l cx M_PF_plane 7 448 12 192 6 [(0, .inr (.inr x0)), (1, .inl x1), (2, .inl x2), (3, .inl x3)] [.inl x1] σ5 R
  refine q_less (kc' := 11 + 1) (ks' := 186 + 6) (Nat.le_of_ble_eq_true rfl) (Nat.le_of_ble_eq_true rfl) ?_
  refine q_callS (st := []) (t_PF_requireNet (l := l) (cx := cx) hlf hV) (q_dc k_PF_plane 4 rfl) (Or.inl (List.mem_of_getElem? (i := 354) (by decide +kernel))) w_PF_requireNet s_PF_requireNet a_PF_requireNet (q_wt (Nat.le_of_ble_eq_true rfl)) ⟨Nat.le_of_ble_eq_true rfl, Nat.le_of_ble_eq_true rfl⟩ (fun v9 τ9 q9 => ?_) (fun n9 τ9 q9 => q_T.leave rfl q9)
  obtain ⟨rfl, hV⟩ := q_cv_elim q9
  clear q9
  have hV := hV
  revert hV
  generalize τ9 = σ9
  intro hV
  show q_G l cx M_PF_plane 7 448 11 186 9 [(0, .inr (.inr x0)), (1, .inl x1), (2, .inl x2), (3, .inl x3)] [] σ9 R
  refine q_run k_PF_plane 5 2 12 rfl ?_
  show q_G l cx M_PF_plane 7 448 11 186 12 [(0, .inr (.inr x0)), (1, .inl x1), (2, .inl x2), (3, .inl x3)] [.inl (-100 : Int32), .inl x3] σ9 R
  refine q_icmp (q_dc k_PF_plane 7 rfl) rfl (fun h10 => ?_) (fun h10 => ?_)
  · have hV := hV.1 h10
    exact q_less (Nat.le_of_ble_eq_true rfl) (Nat.le_of_ble_eq_true rfl) (q_subk [] rfl hV)
  · have hV := hV.2 h10
    refine q_run k_PF_plane 8 2 18 rfl ?_
    show q_G l cx M_PF_plane 7 448 11 186 18 [(0, .inr (.inr x0)), (1, .inl x1), (2, .inl x2), (3, .inl x3)] [.inl (100 : Int32), .inl x3] σ9 R
    refine q_icmp (q_dc k_PF_plane 10 rfl) rfl (fun h11 => ?_) (fun h11 => ?_)
    · have hV := hV.1 h11
      refine q_run k_PF_plane 16 2 35 rfl ?_
      show q_K σ9 x0 = 1 ∧ q_G l cx M_PF_plane 7 448 11 186 35 [(0, .inr (.inr x0)), (1, .inl x1), (2, .inl x2), (3, .inl x3)] [.inr (.inr (q_P σ9 x0 1))] σ9 R
      obtain ⟨s12, hV⟩ := hV
      refine ⟨s12, ?_⟩
      obtain ⟨s13, hV⟩ := hV
      refine q_callF (st := []) (as := []) (x := ⟨"java/util/List", "size", "()I"⟩) (t_AL_size (l := l) (cx := cx)  hV) (q_dc k_PF_plane 18 rfl) (List.mem_of_getElem? (i := 172) (by decide +kernel)) w_AL_size n_AL_size (ci := 7) rfl (List.mem_of_getElem? (i := 173) (by decide +kernel)) (List.mem_of_getElem? (i := 0) rfl) (by decide) a_AL_size (q_wt (Nat.le_of_ble_eq_true rfl)) ⟨Nat.le_of_ble_eq_true rfl, Nat.le_of_ble_eq_true rfl⟩ s13 (fun v9 τ9 q9 => ?_) (fun n9 τ9 q9 => q_T.leave rfl q9)
      obtain ⟨v16, rfl, hV⟩ := q_ci_elim q9
      clear q9
      have hV := hV
      revert hV
      generalize τ9 = σ17
      intro hV
      show q_G l cx M_PF_plane 7 448 11 186 40 [(0, .inr (.inr x0)), (1, .inl x1), (2, .inl x2), (3, .inl x3)] [.inl v16] σ17 R
      refine q_run k_PF_plane 19 1 42 rfl ?_
      show q_G l cx M_PF_plane 7 448 11 186 42 [(0, .inr (.inr x0)), (1, .inl x1), (2, .inl x2), (3, .inl x3)] [.inl (8 : Int32), .inl v16] σ17 R
      refine q_icmp (q_dc k_PF_plane 20 rfl) rfl (fun h18 => ?_) (fun h18 => ?_)
      · have hV := hV.1 h18
        obtain ⟨s19, hV⟩ := hV
        refine q_less (kc' := 10 + 1) (ks' := 174 + 12) (Nat.le_of_ble_eq_true rfl) (Nat.le_of_ble_eq_true rfl) ?_
        refine q_newo (ci := 5) (q_dc k_PF_plane 23 rfl) rfl (List.mem_of_getElem? (i := 190) (by decide +kernel)) 12 (List.mem_of_getElem? (i := 280) (by decide +kernel)) (List.mem_of_getElem? (i := 78) (by decide +kernel)) s19 ?_
        refine q_let (fun v20 => q_G l cx M_PF_plane 7 448 10 174 50 [(0, .inr (.inr x0)), (1, .inl x1), (2, .inl x2), (3, .inl x3)] [.inr (.inr v20)] (q_new σ17 6 0) R) (q_n σ17) (fun v20 e_v20 => ?_)
        have hV := hV v20 e_v20
        refine q_let (fun σ21 => q_G l cx M_PF_plane 7 448 10 174 50 [(0, .inr (.inr x0)), (1, .inl x1), (2, .inl x2), (3, .inl x3)] [.inr (.inr v20)] σ21 R) (q_new σ17 6 0) (fun σ21 e_σ21 => ?_)
        have hV := hV σ21 e_σ21
        refine q_run k_PF_plane 24 4 54 rfl ?_
        show q_G l cx M_PF_plane 7 448 10 174 54 [(0, .inr (.inr x0)), (1, .inl x1), (2, .inl x2), (3, .inl x3)] [.inl x3, .inl x2, .inl x1, .inr (.inr v20), .inr (.inr v20)] σ21 R
        obtain ⟨s22, hV⟩ := hV
        refine q_less (kc' := 3 + 7) (ks' := 70 + 104) (Nat.le_of_ble_eq_true rfl) (Nat.le_of_ble_eq_true rfl) ?_
        refine q_callI (st := [.inr (.inr v20)]) (as := [.inl x1, .inl x2, .inl x3]) (t_PL_init (l := l) (cx := cx)  hV) (q_dc k_PF_plane 28 rfl) (Or.inr ⟨"PlaneFills", List.mem_of_getElem? (i := 13) (by decide +kernel)⟩) w_PL_init c_PL_init n_PL_init rfl a_PL_init (q_wt (Nat.le_of_ble_eq_true rfl)) ⟨Nat.le_of_ble_eq_true rfl, Nat.le_of_ble_eq_true rfl⟩ s22 (fun v9 τ9 q9 => ?_) (fun n9 τ9 q9 => q_T.leave rfl q9)
        obtain ⟨rfl, hV⟩ := q_cv_elim q9
        clear q9
        have hV := hV
        revert hV
        generalize τ9 = σ26
        intro hV
        show q_G l cx M_PF_plane 7 448 3 70 57 [(0, .inr (.inr x0)), (1, .inl x1), (2, .inl x2), (3, .inl x3)] [.inr (.inr v20)] σ26 R
        refine q_run k_PF_plane 29 5 65 rfl ?_
        show q_K σ26 x0 = 1 ∧ q_G l cx M_PF_plane 7 448 3 70 65 [(4, .inr (.inr v20)), (0, .inr (.inr x0)), (1, .inl x1), (2, .inl x2), (3, .inl x3)] [.inl x3, .inr (.inr x0), .inr (.inr (q_P σ26 x0 2))] σ26 R
        obtain ⟨s27, hV⟩ := hV
        refine ⟨s27, ?_⟩
        obtain ⟨s28, hV⟩ := hV
        refine q_callV (st := [.inr (.inr (q_P σ26 x0 2))]) (as := [.inl x3]) (t_PF_placeOfRank (l := l) (cx := cx)  hV) (q_dc k_PF_plane 34 rfl) (Or.inl (List.mem_of_getElem? (i := 408) (by decide +kernel))) w_PF_placeOfRank n_PF_placeOfRank (ci := 0) rfl e_PF_placeOfRank a_PF_placeOfRank (q_wt (Nat.le_of_ble_eq_true rfl)) ⟨Nat.le_of_ble_eq_true rfl, Nat.le_of_ble_eq_true rfl⟩ s28 (fun v9 τ9 q9 => ?_) (fun n9 τ9 q9 => q_T.leave rfl q9)
        obtain ⟨v31, rfl, hV⟩ := q_ci_elim q9
        clear q9
        have hV := hV
        revert hV
        generalize τ9 = σ32
        intro hV
        show q_G l cx M_PF_plane 7 448 3 70 68 [(4, .inr (.inr v20)), (0, .inr (.inr x0)), (1, .inl x1), (2, .inl x2), (3, .inl x3)] [.inl v31, .inr (.inr (q_P σ26 x0 2))] σ32 R
        refine q_run k_PF_plane 35 1 70 rfl ?_
        show q_G l cx M_PF_plane 7 448 3 70 70 [(4, .inr (.inr v20)), (0, .inr (.inr x0)), (1, .inl x1), (2, .inl x2), (3, .inl x3)] [.inr (.inr v20), .inl v31, .inr (.inr (q_P σ26 x0 2))] σ32 R
        obtain ⟨s33, hV⟩ := hV
        refine q_less (kc' := 1 + 2) (ks' := 32 + 38) (Nat.le_of_ble_eq_true rfl) (Nat.le_of_ble_eq_true rfl) ?_
        refine q_callF (st := []) (as := [.inl v31, .inr (.inr v20)]) (x := ⟨"java/util/List", "add", "(ILjava/lang/Object;)V"⟩) (t_AL_add (l := l) (cx := cx)  hV) (q_dc k_PF_plane 36 rfl) (List.mem_of_getElem? (i := 411) (by decide +kernel)) w_AL_add n_AL_add (ci := 7) rfl (List.mem_of_getElem? (i := 412) (by decide +kernel)) (List.mem_of_getElem? (i := 2) rfl) (by decide) a_AL_add (q_wt (Nat.le_of_ble_eq_true rfl)) ⟨Nat.le_of_ble_eq_true rfl, Nat.le_of_ble_eq_true rfl⟩ s33 (fun v9 τ9 q9 => ?_) (fun n9 τ9 q9 => q_T.leave rfl q9)
        obtain ⟨rfl, hV⟩ := q_cv_elim q9
        clear q9
        have hV := hV
        revert hV
        generalize τ9 = σ37
        intro hV
        show q_G l cx M_PF_plane 7 448 1 32 75 [(4, .inr (.inr v20)), (0, .inr (.inr x0)), (1, .inl x1), (2, .inl x2), (3, .inl x3)] [] σ37 R
        refine q_run k_PF_plane 37 3 81 rfl ?_
        show q_K σ37 x0 = 1 ∧ q_G l cx M_PF_plane 7 448 1 32 81 [(4, .inr (.inr v20)), (0, .inr (.inr x0)), (1, .inl x1), (2, .inl x2), (3, .inl x3)] [.inr (.inr v20), .inr (.inr (q_P σ37 x0 1))] σ37 R
        obtain ⟨s38, hV⟩ := hV
        refine ⟨s38, ?_⟩
        obtain ⟨s39, hV⟩ := hV
        refine q_less (kc' := 0 + 1) (ks' := 0 + 32) (Nat.le_of_ble_eq_true rfl) (Nat.le_of_ble_eq_true rfl) ?_
        refine q_callF (st := []) (as := [.inr (.inr v20)]) (x := ⟨"java/util/List", "add", "(Ljava/lang/Object;)Z"⟩) (t_AL_add2 (l := l) (cx := cx)  hV) (q_dc k_PF_plane 40 rfl) (List.mem_of_getElem? (i := 672) (by decide +kernel)) w_AL_add2 n_AL_add2 (ci := 7) rfl (List.mem_of_getElem? (i := 673) (by decide +kernel)) (List.mem_of_getElem? (i := 3) rfl) (by decide) a_AL_add2 (q_wt (Nat.le_of_ble_eq_true rfl)) ⟨Nat.le_of_ble_eq_true rfl, Nat.le_of_ble_eq_true rfl⟩ s39 (fun v9 τ9 q9 => ?_) (fun n9 τ9 q9 => q_T.leave rfl q9)
        obtain ⟨v42, rfl, hV⟩ := q_ci_elim q9
        clear q9
        have hV := hV
        revert hV
        generalize τ9 = σ43
        intro hV
        show q_G l cx M_PF_plane 7 448 0 0 86 [(4, .inr (.inr v20)), (0, .inr (.inr x0)), (1, .inl x1), (2, .inl x2), (3, .inl x3)] [.inl v42] σ43 R
        refine q_run k_PF_plane 41 3 91 rfl ?_
        show q_K σ43 x0 = 1 ∧ q_G l cx M_PF_plane 7 448 0 0 91 [(4, .inr (.inr v20)), (0, .inr (.inr x0)), (1, .inl x1), (2, .inl x2), (3, .inl x3)] [.inr (.inr (q_P σ43 x0 1))] σ43 R
        obtain ⟨s44, hV⟩ := hV
        refine ⟨s44, ?_⟩
        obtain ⟨s45, hV⟩ := hV
        refine q_callF (st := []) (as := []) (x := ⟨"java/util/List", "size", "()I"⟩) (t_AL_size (l := l) (cx := cx)  hV) (q_dc k_PF_plane 44 rfl) (List.mem_of_getElem? (i := 172) (by decide +kernel)) w_AL_size n_AL_size (ci := 7) rfl (List.mem_of_getElem? (i := 173) (by decide +kernel)) (List.mem_of_getElem? (i := 0) rfl) (by decide) a_AL_size (q_wt (Nat.le_of_ble_eq_true rfl)) ⟨Nat.le_of_ble_eq_true rfl, Nat.le_of_ble_eq_true rfl⟩ s45 (fun v9 τ9 q9 => ?_) (fun n9 τ9 q9 => q_T.leave rfl q9)
        obtain ⟨v48, rfl, hV⟩ := q_ci_elim q9
        clear q9
        have hV := hV
        revert hV
        generalize τ9 = σ49
        intro hV
        show q_G l cx M_PF_plane 7 448 0 0 96 [(4, .inr (.inr v20)), (0, .inr (.inr x0)), (1, .inl x1), (2, .inl x2), (3, .inl x3)] [.inl v48] σ49 R
        refine q_run k_PF_plane 45 2 98 rfl ?_
        show q_G l cx M_PF_plane 7 448 0 0 98 [(4, .inr (.inr v20)), (0, .inr (.inr x0)), (1, .inl x1), (2, .inl x2), (3, .inl x3)] [.inl (v48 - (1 : Int32))] σ49 R
        exact q_ireturn (q_dc k_PF_plane 47 rfl) rfl hV
      · have hV := hV.2 h18
        refine q_run k_PF_plane 21 1 46 rfl ?_
        show q_G l cx M_PF_plane 7 448 11 186 46 [(0, .inr (.inr x0)), (1, .inl x1), (2, .inl x2), (3, .inl x3)] [.inl (-1 : Int32)] σ17 R
        exact q_ireturn (q_dc k_PF_plane 22 rfl) rfl hV
    · have hV := hV.2 h11
      exact q_less (Nat.le_of_ble_eq_true rfl) (Nat.le_of_ble_eq_true rfl) (q_subk [] rfl hV)
def V_PF_corner (x0 : Nat) (x1 : Int32) (x2 : Int64) (x4 : Int64) (σ : q_S) (R : q_O → q_S → Prop) : Prop :=
  q_K σ x0 = 1 ∧ V_PF_knownPlane x0 x1 σ (q_cr (fun v4 σ5 => V_PF_requireCorner x2 x4 σ5 (q_cv (fun σ9 => q_K σ9 v4 = 6 ∧ V_PL_addCorner v4 x2.toInt32 x4.toInt32 σ9 (q_ci (fun v13 σ14 => ((v13 = 0 ∨ v13 = 1) ∧ R (.inl (some (.inl v13))) σ14)) (fun n9 σ9 => R (.inr n9) σ9))) (fun n9 σ9 => R (.inr n9) σ9))) (fun n9 σ9 => R (.inr n9) σ9))
set_option maxRecDepth 100000 in
theorem t_PF_corner {l : Launch} {cx : q_C} {x0 : Nat} {x1 : Int32} {x2 : Int64} {x4 : Int64} {σ : q_S} {R : q_O → q_S → Prop} (hlf : l.flags = pinnedFlags ++ [noTraceFlag]) (hV : V_PF_corner x0 x1 x2 x4 σ R) : q_Ct l cx M_PF_corner 7 448 2 12 [q_r x0, q_i x1, q_l x2, q_l x4] σ R := by
  refine q_Ct.of p_PF_corner c_PF_corner rfl (Nat.le_of_ble_eq_true rfl) ?_
  refine q_run k_PF_corner 0 2 2 rfl ?_
  show q_G l cx M_PF_corner 7 448 2 12 2 [(0, .inr (.inr x0)), (1, .inl x1), (2, .inr (.inl x2)), (4, .inr (.inl x4))] [.inl x1, .inr (.inr x0)] σ R
  obtain ⟨s1, hV⟩ := hV
  refine q_less (kc' := 1 + 1) (ks' := 6 + 6) (Nat.le_of_ble_eq_true rfl) (Nat.le_of_ble_eq_true rfl) ?_
  refine q_callV (st := []) (as := [.inl x1]) (t_PF_knownPlane (l := l) (cx := cx) hlf hV) (q_dc k_PF_corner 2 rfl) (Or.inl (List.mem_of_getElem? (i := 686) (by decide +kernel))) w_PF_knownPlane n_PF_knownPlane (ci := 0) rfl e_PF_knownPlane a_PF_knownPlane (q_wt (Nat.le_of_ble_eq_true rfl)) ⟨Nat.le_of_ble_eq_true rfl, Nat.le_of_ble_eq_true rfl⟩ s1 (fun v9 τ9 q9 => ?_) (fun n9 τ9 q9 => q_T.leave rfl q9)
  obtain ⟨v4, rfl, hV⟩ := q_cr_elim q9
  clear q9
  have hV := hV
  revert hV
  generalize τ9 = σ5
  intro hV
  show q_G l cx M_PF_corner 7 448 1 6 5 [(0, .inr (.inr x0)), (1, .inl x1), (2, .inr (.inl x2)), (4, .inr (.inl x4))] [.inr (.inr v4)] σ5 R
  refine q_run k_PF_corner 3 3 10 rfl ?_
  show q_G l cx M_PF_corner 7 448 1 6 10 [(6, .inr (.inr v4)), (0, .inr (.inr x0)), (1, .inl x1), (2, .inr (.inl x2)), (4, .inr (.inl x4))] [.inr (.inl x4), .inr (.inl x2)] σ5 R
  refine q_less (kc' := 0 + 1) (ks' := 0 + 6) (Nat.le_of_ble_eq_true rfl) (Nat.le_of_ble_eq_true rfl) ?_
  refine q_callS (st := []) (t_PF_requireCorner (l := l) (cx := cx) hlf hV) (q_dc k_PF_corner 6 rfl) (Or.inl (List.mem_of_getElem? (i := 689) (by decide +kernel))) w_PF_requireCorner s_PF_requireCorner a_PF_requireCorner (q_wt (Nat.le_of_ble_eq_true rfl)) ⟨Nat.le_of_ble_eq_true rfl, Nat.le_of_ble_eq_true rfl⟩ (fun v9 τ9 q9 => ?_) (fun n9 τ9 q9 => q_T.leave rfl q9)
  obtain ⟨rfl, hV⟩ := q_cv_elim q9
  clear q9
  have hV := hV
  revert hV
  generalize τ9 = σ9
  intro hV
  show q_G l cx M_PF_corner 7 448 0 0 13 [(6, .inr (.inr v4)), (0, .inr (.inr x0)), (1, .inl x1), (2, .inr (.inl x2)), (4, .inr (.inl x4))] [] σ9 R
  refine q_run k_PF_corner 7 5 20 rfl ?_
  show q_G l cx M_PF_corner 7 448 0 0 20 [(6, .inr (.inr v4)), (0, .inr (.inr x0)), (1, .inl x1), (2, .inr (.inl x2)), (4, .inr (.inl x4))] [.inl x4.toInt32, .inl x2.toInt32, .inr (.inr v4)] σ9 R
  obtain ⟨s10, hV⟩ := hV
  refine q_callV (st := []) (as := [.inl x2.toInt32, .inl x4.toInt32]) (t_PL_addCorner (l := l) (cx := cx)  hV) (q_dc k_PF_corner 12 rfl) (Or.inr ⟨"PlaneFills", List.mem_of_getElem? (i := 15) (by decide +kernel)⟩) w_PL_addCorner n_PL_addCorner (ci := 5) rfl e_PL_addCorner a_PL_addCorner (q_wt (Nat.le_of_ble_eq_true rfl)) ⟨Nat.le_of_ble_eq_true rfl, Nat.le_of_ble_eq_true rfl⟩ s10 (fun v9 τ9 q9 => ?_) (fun n9 τ9 q9 => q_T.leave rfl q9)
  obtain ⟨v13, rfl, hV⟩ := q_ci_elim q9
  clear q9
  have hV := hV
  revert hV
  generalize τ9 = σ14
  intro hV
  show q_G l cx M_PF_corner 7 448 0 0 23 [(6, .inr (.inr v4)), (0, .inr (.inr x0)), (1, .inl x1), (2, .inr (.inl x2)), (4, .inr (.inl x4))] [.inl v13] σ14 R
  exact q_zreturn (q_dc k_PF_corner 13 rfl) rfl hV.1 hV.2
def V_PF_ring (x0 : Nat) (x1 : Int32) (σ : q_S) (R : q_O → q_S → Prop) : Prop :=
  q_K σ x0 = 1 ∧ V_PF_knownPlane x0 x1 σ (q_cr (fun v4 σ5 => q_K σ5 v4 = 6 ∧ V_PL_closeRing v4 σ5 (q_ci (fun v9 σ10 => ((v9 = 0 ∨ v9 = 1) ∧ R (.inl (some (.inl v9))) σ10)) (fun n9 σ9 => R (.inr n9) σ9))) (fun n9 σ9 => R (.inr n9) σ9))
set_option maxRecDepth 100000 in
theorem t_PF_ring {l : Launch} {cx : q_C} {x0 : Nat} {x1 : Int32} {σ : q_S} {R : q_O → q_S → Prop} (hlf : l.flags = pinnedFlags ++ [noTraceFlag]) (hV : V_PF_ring x0 x1 σ R) : q_Ct l cx M_PF_ring 7 448 1 6 [q_r x0, q_i x1] σ R := by
  refine q_Ct.of p_PF_ring c_PF_ring rfl (Nat.le_of_ble_eq_true rfl) ?_
  refine q_run k_PF_ring 0 2 2 rfl ?_
  show q_G l cx M_PF_ring 7 448 1 6 2 [(0, .inr (.inr x0)), (1, .inl x1)] [.inl x1, .inr (.inr x0)] σ R
  obtain ⟨s1, hV⟩ := hV
  refine q_less (kc' := 0 + 1) (ks' := 0 + 6) (Nat.le_of_ble_eq_true rfl) (Nat.le_of_ble_eq_true rfl) ?_
  refine q_callV (st := []) (as := [.inl x1]) (t_PF_knownPlane (l := l) (cx := cx) hlf hV) (q_dc k_PF_ring 2 rfl) (Or.inl (List.mem_of_getElem? (i := 686) (by decide +kernel))) w_PF_knownPlane n_PF_knownPlane (ci := 0) rfl e_PF_knownPlane a_PF_knownPlane (q_wt (Nat.le_of_ble_eq_true rfl)) ⟨Nat.le_of_ble_eq_true rfl, Nat.le_of_ble_eq_true rfl⟩ s1 (fun v9 τ9 q9 => ?_) (fun n9 τ9 q9 => q_T.leave rfl q9)
  obtain ⟨v4, rfl, hV⟩ := q_cr_elim q9
  clear q9
  have hV := hV
  revert hV
  generalize τ9 = σ5
  intro hV
  show q_G l cx M_PF_ring 7 448 0 0 5 [(0, .inr (.inr x0)), (1, .inl x1)] [.inr (.inr v4)] σ5 R
  obtain ⟨s6, hV⟩ := hV
  refine q_callV (st := []) (as := []) (t_PL_closeRing (l := l) (cx := cx)  hV) (q_dc k_PF_ring 3 rfl) (Or.inr ⟨"PlaneFills", List.mem_of_getElem? (i := 16) (by decide +kernel)⟩) w_PL_closeRing n_PL_closeRing (ci := 5) rfl e_PL_closeRing a_PL_closeRing (q_wt (Nat.le_of_ble_eq_true rfl)) ⟨Nat.le_of_ble_eq_true rfl, Nat.le_of_ble_eq_true rfl⟩ s6 (fun v9 τ9 q9 => ?_) (fun n9 τ9 q9 => q_T.leave rfl q9)
  obtain ⟨v9, rfl, hV⟩ := q_ci_elim q9
  clear q9
  have hV := hV
  revert hV
  generalize τ9 = σ10
  intro hV
  show q_G l cx M_PF_ring 7 448 0 0 8 [(0, .inr (.inr x0)), (1, .inl x1)] [.inl v9] σ10 R
  exact q_zreturn (q_dc k_PF_ring 4 rfl) rfl hV.1 hV.2
def V_PF_obstacle (x0 : Nat) (x1 : Int32) (x2 : Int32) (x3 : Int64) (x5 : Int64) (x7 : Int64) (σ : q_S) (R : q_O → q_S → Prop) : Prop :=
  ∀ (P31 : q_S → Prop),
  (∀ (σ : q_S), (q_n σ < 10000000 ∧ ∀ v2 : Nat, v2 = q_n σ → ∀ σ3 : q_S, σ3 = q_new σ 10 0 → 0 < v2 ∧ R (.inr v2) σ3) → P31 σ) →
  q_K σ x0 = 1 ∧ V_PF_requireLayer x0 x2 σ (q_cv (fun σ5 => V_PF_requireNet x1 σ5 (q_cv (fun σ9 => V_PF_requireCorner x3 x5 σ9 (q_cv (fun σ13 => (((lg_cmp x7 (0 : Int64)) < (0 : Int32) → P31  σ13) ∧ (¬ ((lg_cmp x7 (0 : Int64)) < (0 : Int32)) → (((lg_cmp x7 (20 : Int64)) ≤ (0 : Int32) → q_K σ13 x0 = 1 ∧ q_K σ13 (q_P σ13 x0 3) = 8 ∧ V_AL_size (q_P σ13 x0 3) σ13 (q_ci (fun v20 σ21 => ((v20 < (20 : Int32) → q_K σ21 x0 = 1 ∧ q_n σ21 < 10000000 ∧ ∀ v25 : Nat, v25 = q_n σ21 → ∀ σ26 : q_S, σ26 = q_new σ21 3 0 → 0 < v25 ∧ V_PD_init v25 x1 x2 x3.toInt32 x5.toInt32 x7.toInt32 σ26 (q_cv (fun σ31 => q_K σ31 (q_P σ21 x0 3) = 8 ∧ V_AL_add2 (q_P σ21 x0 3) v25 σ31 (q_ci (fun v35 σ36 => q_K σ36 x0 = 1 ∧ q_K σ36 (q_P σ36 x0 3) = 8 ∧ V_AL_size (q_P σ36 x0 3) σ36 (q_ci (fun v41 σ42 => R (.inl (some (.inl (v41 - (1 : Int32))))) σ42) (fun n9 σ9 => R (.inr n9) σ9))) (fun n9 σ9 => R (.inr n9) σ9))) (fun n9 σ9 => R (.inr n9) σ9))) ∧ (¬ (v20 < (20 : Int32)) → R (.inl (some (.inl (-1 : Int32)))) σ21))) (fun n9 σ9 => R (.inr n9) σ9))) ∧ (¬ ((lg_cmp x7 (20 : Int64)) ≤ (0 : Int32)) → P31  σ13))))) (fun n9 σ9 => R (.inr n9) σ9))) (fun n9 σ9 => R (.inr n9) σ9))) (fun n9 σ9 => R (.inr n9) σ9))
set_option maxRecDepth 100000 in
theorem t_PF_obstacle {l : Launch} {cx : q_C} {x0 : Nat} {x1 : Int32} {x2 : Int32} {x3 : Int64} {x5 : Int64} {x7 : Int64} {σ : q_S} {R : q_O → q_S → Prop} (hlf : l.flags = pinnedFlags ++ [noTraceFlag]) (hV : V_PF_obstacle x0 x1 x2 x3 x5 x7 σ R) : q_Ct l cx M_PF_obstacle 7 448 5 55 [q_r x0, q_i x1, q_i x2, q_l x3, q_l x5, q_l x7] σ R := by
  refine q_Ct.of p_PF_obstacle c_PF_obstacle rfl (Nat.le_of_ble_eq_true rfl) ?_
  have hV := hV (fun (σ : q_S) => q_G l cx M_PF_obstacle 7 448 1 6 31 [] [] σ R)
  have hV := hV (by
      intro σ hV
      show q_G l cx M_PF_obstacle 7 448 1 6 31 [] [] σ R
      obtain ⟨s1, hV⟩ := hV
      refine q_less (kc' := 0 + 1) (ks' := 0 + 6) (Nat.le_of_ble_eq_true rfl) (Nat.le_of_ble_eq_true rfl) ?_
      refine q_excIA hlf rfl (q_dc k_PF_obstacle 16 rfl) (q_dc k_PF_obstacle 17 rfl) (Or.inl ⟨(q_dc k_PF_obstacle 18 rfl), rfl⟩) (List.mem_of_getElem? (i := 1) rfl) (q_dc k_PF_obstacle 19 rfl) s1 ⟨Nat.le_of_ble_eq_true rfl, Nat.le_of_ble_eq_true rfl⟩ ?_
      refine q_let (fun v2 => q_G l cx M_PF_obstacle 7 448 0 0 40 [] [.inr (.inr v2)] (q_new σ 10 0) R) (q_n σ) (fun v2 e_v2 => ?_)
      have hV := hV v2 e_v2
      refine q_let (fun σ3 => q_G l cx M_PF_obstacle 7 448 0 0 40 [] [.inr (.inr v2)] σ3 R) (q_new σ 10 0) (fun σ3 e_σ3 => ?_)
      have hV := hV σ3 e_σ3
      obtain ⟨s4, hV⟩ := hV
      exact q_athrow (q_dc k_PF_obstacle 20 rfl) s4 (q_T.leave rfl hV))
  refine q_run k_PF_obstacle 0 2 2 rfl ?_
  show q_G l cx M_PF_obstacle 7 448 5 55 2 [(0, .inr (.inr x0)), (1, .inl x1), (2, .inl x2), (3, .inr (.inl x3)), (5, .inr (.inl x5)), (7, .inr (.inl x7))] [.inl x2, .inr (.inr x0)] σ R
  obtain ⟨s1, hV⟩ := hV
  refine q_less (kc' := 4 + 1) (ks' := 49 + 6) (Nat.le_of_ble_eq_true rfl) (Nat.le_of_ble_eq_true rfl) ?_
  refine q_callV (st := []) (as := [.inl x2]) (t_PF_requireLayer (l := l) (cx := cx) hlf hV) (q_dc k_PF_obstacle 2 rfl) (Or.inl (List.mem_of_getElem? (i := 301) (by decide +kernel))) w_PF_requireLayer n_PF_requireLayer (ci := 0) rfl e_PF_requireLayer a_PF_requireLayer (q_wt (Nat.le_of_ble_eq_true rfl)) ⟨Nat.le_of_ble_eq_true rfl, Nat.le_of_ble_eq_true rfl⟩ s1 (fun v9 τ9 q9 => ?_) (fun n9 τ9 q9 => q_T.leave rfl q9)
  obtain ⟨rfl, hV⟩ := q_cv_elim q9
  clear q9
  have hV := hV
  revert hV
  generalize τ9 = σ5
  intro hV
  show q_G l cx M_PF_obstacle 7 448 4 49 5 [(0, .inr (.inr x0)), (1, .inl x1), (2, .inl x2), (3, .inr (.inl x3)), (5, .inr (.inl x5)), (7, .inr (.inl x7))] [] σ5 R
  refine q_run k_PF_obstacle 3 1 6 rfl ?_
  show q_G l cx M_PF_obstacle 7 448 4 49 6 [(0, .inr (.inr x0)), (1, .inl x1), (2, .inl x2), (3, .inr (.inl x3)), (5, .inr (.inl x5)), (7, .inr (.inl x7))] [.inl x1] σ5 R
  refine q_less (kc' := 3 + 1) (ks' := 43 + 6) (Nat.le_of_ble_eq_true rfl) (Nat.le_of_ble_eq_true rfl) ?_
  refine q_callS (st := []) (t_PF_requireNet (l := l) (cx := cx) hlf hV) (q_dc k_PF_obstacle 4 rfl) (Or.inl (List.mem_of_getElem? (i := 354) (by decide +kernel))) w_PF_requireNet s_PF_requireNet a_PF_requireNet (q_wt (Nat.le_of_ble_eq_true rfl)) ⟨Nat.le_of_ble_eq_true rfl, Nat.le_of_ble_eq_true rfl⟩ (fun v9 τ9 q9 => ?_) (fun n9 τ9 q9 => q_T.leave rfl q9)
  obtain ⟨rfl, hV⟩ := q_cv_elim q9
  clear q9
  have hV := hV
  revert hV
  generalize τ9 = σ9
  intro hV
  show q_G l cx M_PF_obstacle 7 448 3 43 9 [(0, .inr (.inr x0)), (1, .inl x1), (2, .inl x2), (3, .inr (.inl x3)), (5, .inr (.inl x5)), (7, .inr (.inl x7))] [] σ9 R
  refine q_run k_PF_obstacle 5 2 12 rfl ?_
  show q_G l cx M_PF_obstacle 7 448 3 43 12 [(0, .inr (.inr x0)), (1, .inl x1), (2, .inl x2), (3, .inr (.inl x3)), (5, .inr (.inl x5)), (7, .inr (.inl x7))] [.inr (.inl x5), .inr (.inl x3)] σ9 R
  refine q_less (kc' := 2 + 1) (ks' := 37 + 6) (Nat.le_of_ble_eq_true rfl) (Nat.le_of_ble_eq_true rfl) ?_
  refine q_callS (st := []) (t_PF_requireCorner (l := l) (cx := cx) hlf hV) (q_dc k_PF_obstacle 7 rfl) (Or.inl (List.mem_of_getElem? (i := 689) (by decide +kernel))) w_PF_requireCorner s_PF_requireCorner a_PF_requireCorner (q_wt (Nat.le_of_ble_eq_true rfl)) ⟨Nat.le_of_ble_eq_true rfl, Nat.le_of_ble_eq_true rfl⟩ (fun v9 τ9 q9 => ?_) (fun n9 τ9 q9 => q_T.leave rfl q9)
  obtain ⟨rfl, hV⟩ := q_cv_elim q9
  clear q9
  have hV := hV
  revert hV
  generalize τ9 = σ13
  intro hV
  show q_G l cx M_PF_obstacle 7 448 2 37 15 [(0, .inr (.inr x0)), (1, .inl x1), (2, .inl x2), (3, .inr (.inl x3)), (5, .inr (.inl x5)), (7, .inr (.inl x7))] [] σ13 R
  refine q_run k_PF_obstacle 8 3 19 rfl ?_
  show q_G l cx M_PF_obstacle 7 448 2 37 19 [(0, .inr (.inr x0)), (1, .inl x1), (2, .inl x2), (3, .inr (.inl x3)), (5, .inr (.inl x5)), (7, .inr (.inl x7))] [.inl (lg_cmp x7 (0 : Int64))] σ13 R
  refine q_ifz (q_dc k_PF_obstacle 11 rfl) rfl (fun h14 => ?_) (fun h14 => ?_)
  · have hV := hV.1 h14
    exact q_less (Nat.le_of_ble_eq_true rfl) (Nat.le_of_ble_eq_true rfl) (q_subk [] rfl hV)
  · have hV := hV.2 h14
    refine q_run k_PF_obstacle 12 3 28 rfl ?_
    show q_G l cx M_PF_obstacle 7 448 2 37 28 [(0, .inr (.inr x0)), (1, .inl x1), (2, .inl x2), (3, .inr (.inl x3)), (5, .inr (.inl x5)), (7, .inr (.inl x7))] [.inl (lg_cmp x7 (20 : Int64))] σ13 R
    refine q_ifz (q_dc k_PF_obstacle 15 rfl) rfl (fun h15 => ?_) (fun h15 => ?_)
    · have hV := hV.1 h15
      refine q_run k_PF_obstacle 21 2 45 rfl ?_
      show q_K σ13 x0 = 1 ∧ q_G l cx M_PF_obstacle 7 448 2 37 45 [(0, .inr (.inr x0)), (1, .inl x1), (2, .inl x2), (3, .inr (.inl x3)), (5, .inr (.inl x5)), (7, .inr (.inl x7))] [.inr (.inr (q_P σ13 x0 3))] σ13 R
      obtain ⟨s16, hV⟩ := hV
      refine ⟨s16, ?_⟩
      obtain ⟨s17, hV⟩ := hV
      refine q_callF (st := []) (as := []) (x := ⟨"java/util/List", "size", "()I"⟩) (t_AL_size (l := l) (cx := cx)  hV) (q_dc k_PF_obstacle 23 rfl) (List.mem_of_getElem? (i := 172) (by decide +kernel)) w_AL_size n_AL_size (ci := 7) rfl (List.mem_of_getElem? (i := 173) (by decide +kernel)) (List.mem_of_getElem? (i := 0) rfl) (by decide) a_AL_size (q_wt (Nat.le_of_ble_eq_true rfl)) ⟨Nat.le_of_ble_eq_true rfl, Nat.le_of_ble_eq_true rfl⟩ s17 (fun v9 τ9 q9 => ?_) (fun n9 τ9 q9 => q_T.leave rfl q9)
      obtain ⟨v20, rfl, hV⟩ := q_ci_elim q9
      clear q9
      have hV := hV
      revert hV
      generalize τ9 = σ21
      intro hV
      show q_G l cx M_PF_obstacle 7 448 2 37 50 [(0, .inr (.inr x0)), (1, .inl x1), (2, .inl x2), (3, .inr (.inl x3)), (5, .inr (.inl x5)), (7, .inr (.inl x7))] [.inl v20] σ21 R
      refine q_run k_PF_obstacle 24 1 52 rfl ?_
      show q_G l cx M_PF_obstacle 7 448 2 37 52 [(0, .inr (.inr x0)), (1, .inl x1), (2, .inl x2), (3, .inr (.inl x3)), (5, .inr (.inl x5)), (7, .inr (.inl x7))] [.inl (20 : Int32), .inl v20] σ21 R
      refine q_icmp (q_dc k_PF_obstacle 25 rfl) rfl (fun h22 => ?_) (fun h22 => ?_)
      · have hV := hV.1 h22
        refine q_run k_PF_obstacle 28 2 61 rfl ?_
        show q_K σ21 x0 = 1 ∧ q_G l cx M_PF_obstacle 7 448 2 37 61 [(0, .inr (.inr x0)), (1, .inl x1), (2, .inl x2), (3, .inr (.inl x3)), (5, .inr (.inl x5)), (7, .inr (.inl x7))] [.inr (.inr (q_P σ21 x0 3))] σ21 R
        obtain ⟨s23, hV⟩ := hV
        refine ⟨s23, ?_⟩
        obtain ⟨s24, hV⟩ := hV
        refine q_less (kc' := 1 + 1) (ks' := 32 + 5) (Nat.le_of_ble_eq_true rfl) (Nat.le_of_ble_eq_true rfl) ?_
        refine q_newo (ci := 2) (q_dc k_PF_obstacle 30 rfl) rfl (List.mem_of_getElem? (i := 197) (by decide +kernel)) 5 (List.mem_of_getElem? (i := 199) (by decide +kernel)) (List.mem_of_getElem? (i := 91) (by decide +kernel)) s24 ?_
        refine q_let (fun v25 => q_G l cx M_PF_obstacle 7 448 1 32 64 [(0, .inr (.inr x0)), (1, .inl x1), (2, .inl x2), (3, .inr (.inl x3)), (5, .inr (.inl x5)), (7, .inr (.inl x7))] [.inr (.inr v25), .inr (.inr (q_P σ21 x0 3))] (q_new σ21 3 0) R) (q_n σ21) (fun v25 e_v25 => ?_)
        have hV := hV v25 e_v25
        refine q_let (fun σ26 => q_G l cx M_PF_obstacle 7 448 1 32 64 [(0, .inr (.inr x0)), (1, .inl x1), (2, .inl x2), (3, .inr (.inl x3)), (5, .inr (.inl x5)), (7, .inr (.inl x7))] [.inr (.inr v25), .inr (.inr (q_P σ21 x0 3))] σ26 R) (q_new σ21 3 0) (fun σ26 e_σ26 => ?_)
        have hV := hV σ26 e_σ26
        refine q_run k_PF_obstacle 31 9 75 rfl ?_
        show q_G l cx M_PF_obstacle 7 448 1 32 75 [(0, .inr (.inr x0)), (1, .inl x1), (2, .inl x2), (3, .inr (.inl x3)), (5, .inr (.inl x5)), (7, .inr (.inl x7))] [.inl x7.toInt32, .inl x5.toInt32, .inl x3.toInt32, .inl x2, .inl x1, .inr (.inr v25), .inr (.inr v25), .inr (.inr (q_P σ21 x0 3))] σ26 R
        obtain ⟨s27, hV⟩ := hV
        refine q_callI (st := [.inr (.inr v25), .inr (.inr (q_P σ21 x0 3))]) (as := [.inl x1, .inl x2, .inl x3.toInt32, .inl x5.toInt32, .inl x7.toInt32]) (t_PD_init (l := l) (cx := cx)  hV) (q_dc k_PF_obstacle 40 rfl) (Or.inr ⟨"PlaneFills", List.mem_of_getElem? (i := 18) (by decide +kernel)⟩) w_PD_init c_PD_init n_PD_init rfl a_PD_init (q_wt (Nat.le_of_ble_eq_true rfl)) ⟨Nat.le_of_ble_eq_true rfl, Nat.le_of_ble_eq_true rfl⟩ s27 (fun v9 τ9 q9 => ?_) (fun n9 τ9 q9 => q_T.leave rfl q9)
        obtain ⟨rfl, hV⟩ := q_cv_elim q9
        clear q9
        have hV := hV
        revert hV
        generalize τ9 = σ31
        intro hV
        show q_G l cx M_PF_obstacle 7 448 1 32 78 [(0, .inr (.inr x0)), (1, .inl x1), (2, .inl x2), (3, .inr (.inl x3)), (5, .inr (.inl x5)), (7, .inr (.inl x7))] [.inr (.inr v25), .inr (.inr (q_P σ21 x0 3))] σ31 R
        obtain ⟨s32, hV⟩ := hV
        refine q_less (kc' := 0 + 1) (ks' := 0 + 32) (Nat.le_of_ble_eq_true rfl) (Nat.le_of_ble_eq_true rfl) ?_
        refine q_callF (st := []) (as := [.inr (.inr v25)]) (x := ⟨"java/util/List", "add", "(Ljava/lang/Object;)Z"⟩) (t_AL_add2 (l := l) (cx := cx)  hV) (q_dc k_PF_obstacle 41 rfl) (List.mem_of_getElem? (i := 672) (by decide +kernel)) w_AL_add2 n_AL_add2 (ci := 7) rfl (List.mem_of_getElem? (i := 673) (by decide +kernel)) (List.mem_of_getElem? (i := 3) rfl) (by decide) a_AL_add2 (q_wt (Nat.le_of_ble_eq_true rfl)) ⟨Nat.le_of_ble_eq_true rfl, Nat.le_of_ble_eq_true rfl⟩ s32 (fun v9 τ9 q9 => ?_) (fun n9 τ9 q9 => q_T.leave rfl q9)
        obtain ⟨v35, rfl, hV⟩ := q_ci_elim q9
        clear q9
        have hV := hV
        revert hV
        generalize τ9 = σ36
        intro hV
        show q_G l cx M_PF_obstacle 7 448 0 0 83 [(0, .inr (.inr x0)), (1, .inl x1), (2, .inl x2), (3, .inr (.inl x3)), (5, .inr (.inl x5)), (7, .inr (.inl x7))] [.inl v35] σ36 R
        refine q_run k_PF_obstacle 42 3 88 rfl ?_
        show q_K σ36 x0 = 1 ∧ q_G l cx M_PF_obstacle 7 448 0 0 88 [(0, .inr (.inr x0)), (1, .inl x1), (2, .inl x2), (3, .inr (.inl x3)), (5, .inr (.inl x5)), (7, .inr (.inl x7))] [.inr (.inr (q_P σ36 x0 3))] σ36 R
        obtain ⟨s37, hV⟩ := hV
        refine ⟨s37, ?_⟩
        obtain ⟨s38, hV⟩ := hV
        refine q_callF (st := []) (as := []) (x := ⟨"java/util/List", "size", "()I"⟩) (t_AL_size (l := l) (cx := cx)  hV) (q_dc k_PF_obstacle 45 rfl) (List.mem_of_getElem? (i := 172) (by decide +kernel)) w_AL_size n_AL_size (ci := 7) rfl (List.mem_of_getElem? (i := 173) (by decide +kernel)) (List.mem_of_getElem? (i := 0) rfl) (by decide) a_AL_size (q_wt (Nat.le_of_ble_eq_true rfl)) ⟨Nat.le_of_ble_eq_true rfl, Nat.le_of_ble_eq_true rfl⟩ s38 (fun v9 τ9 q9 => ?_) (fun n9 τ9 q9 => q_T.leave rfl q9)
        obtain ⟨v41, rfl, hV⟩ := q_ci_elim q9
        clear q9
        have hV := hV
        revert hV
        generalize τ9 = σ42
        intro hV
        show q_G l cx M_PF_obstacle 7 448 0 0 93 [(0, .inr (.inr x0)), (1, .inl x1), (2, .inl x2), (3, .inr (.inl x3)), (5, .inr (.inl x5)), (7, .inr (.inl x7))] [.inl v41] σ42 R
        refine q_run k_PF_obstacle 46 2 95 rfl ?_
        show q_G l cx M_PF_obstacle 7 448 0 0 95 [(0, .inr (.inr x0)), (1, .inl x1), (2, .inl x2), (3, .inr (.inl x3)), (5, .inr (.inl x5)), (7, .inr (.inl x7))] [.inl (v41 - (1 : Int32))] σ42 R
        exact q_ireturn (q_dc k_PF_obstacle 48 rfl) rfl hV
      · have hV := hV.2 h22
        refine q_run k_PF_obstacle 26 1 56 rfl ?_
        show q_G l cx M_PF_obstacle 7 448 2 37 56 [(0, .inr (.inr x0)), (1, .inl x1), (2, .inl x2), (3, .inr (.inl x3)), (5, .inr (.inl x5)), (7, .inr (.inl x7))] [.inl (-1 : Int32)] σ21 R
        exact q_ireturn (q_dc k_PF_obstacle 27 rfl) rfl hV
    · have hV := hV.2 h15
      exact q_less (Nat.le_of_ble_eq_true rfl) (Nat.le_of_ble_eq_true rfl) (q_subk [] rfl hV)
def V_PF_rule (x0 : Nat) (x1 : Int32) (x2 : Int64) (σ : q_S) (R : q_O → q_S → Prop) : Prop :=
  ∀ (P9 : q_S → Prop),
  ∀ (P41 : q_S → Prop),
  ∀ (P68 : Nat → Int32 → Int64 → Int32 → q_S → Prop),
  (∀ (σ : q_S), (q_n σ < 10000000 ∧ ∀ v2 : Nat, v2 = q_n σ → ∀ σ3 : q_S, σ3 = q_new σ 9 0 → 0 < v2 ∧ R (.inr v2) σ3) → P9 σ) →
  (∀ (σ : q_S), (q_n σ < 10000000 ∧ ∀ v2 : Nat, v2 = q_n σ → ∀ σ3 : q_S, σ3 = q_new σ 10 0 → 0 < v2 ∧ R (.inr v2) σ3) → P41 σ) →
  (∀ (x0 : Nat) (x1 : Int32) (x2 : Int64) (y0 : Int32) (σ : q_S), (q_K σ x0 = 1 ∧ q_K σ (q_P σ x0 5) = 1000 ∧ vp_in x1 (q_Z σ (q_P σ x0 5)) ∧ ∀ σ1 : q_S, σ1 = q_wI σ (q_P σ x0 5) x1.toNatClampNeg x2.toInt32 → ((y0 = 0 ∨ y0 = 1) ∧ R (.inl (some (.inl y0))) σ1)) → P68 x0 x1 x2 y0 σ) →
  ((x1 < (0 : Int32) → P9  σ) ∧ (¬ (x1 < (0 : Int32)) → ((x1 < (4 : Int32) → (q_K σ 10000001 = 1000 ∨ q_K σ 10000001 = 2000) ∧ vp_in x1 (q_Z σ 10000001) ∧ (((lg_cmp x2 ((q_I σ 10000001 x1.toNatClampNeg).toInt64)) < (0 : Int32) → P41  σ) ∧ (¬ ((lg_cmp x2 ((q_I σ 10000001 x1.toNatClampNeg).toInt64)) < (0 : Int32)) → (q_K σ 10000002 = 1000 ∨ q_K σ 10000002 = 2000) ∧ vp_in x1 (q_Z σ 10000002) ∧ (((lg_cmp x2 ((q_I σ 10000002 x1.toNatClampNeg).toInt64)) ≤ (0 : Int32) → q_K σ x0 = 1 ∧ (q_K σ (q_P σ x0 5) = 1000 ∨ q_K σ (q_P σ x0 5) = 2000) ∧ vp_in x1 (q_Z σ (q_P σ x0 5)) ∧ (((lg_cmp ((q_I σ (q_P σ x0 5) x1.toNatClampNeg).toInt64) x2) = (0 : Int32) → P68 x0 x1 x2 (0 : Int32) σ) ∧ (¬ ((lg_cmp ((q_I σ (q_P σ x0 5) x1.toNatClampNeg).toInt64) x2) = (0 : Int32)) → P68 x0 x1 x2 (1 : Int32) σ))) ∧ (¬ ((lg_cmp x2 ((q_I σ 10000002 x1.toNatClampNeg).toInt64)) ≤ (0 : Int32)) → P41  σ))))) ∧ (¬ (x1 < (4 : Int32)) → P9  σ))))
set_option maxRecDepth 100000 in
theorem t_PF_rule {l : Launch} {cx : q_C} {x0 : Nat} {x1 : Int32} {x2 : Int64} {σ : q_S} {R : q_O → q_S → Prop} (hlf : l.flags = pinnedFlags ++ [noTraceFlag]) (hV : V_PF_rule x0 x1 x2 σ R) : q_Ct l cx M_PF_rule 6 384 1 6 [q_r x0, q_i x1, q_l x2] σ R := by
  refine q_Ct.of p_PF_rule c_PF_rule rfl (Nat.le_of_ble_eq_true rfl) ?_
  have hV := hV (fun (σ : q_S) => q_G l cx M_PF_rule 6 384 1 6 9 [] [] σ R) (fun (σ : q_S) => q_G l cx M_PF_rule 6 384 1 6 41 [] [] σ R) (fun (x0 : Nat) (x1 : Int32) (x2 : Int64) (y0 : Int32) (σ : q_S) => q_G l cx M_PF_rule 6 384 0 0 68 [(0, .inr (.inr x0)), (1, .inl x1), (2, .inr (.inl x2))] [.inl y0] σ R)
  have hV := hV (by
      intro σ hV
      show q_G l cx M_PF_rule 6 384 1 6 9 [] [] σ R
      obtain ⟨s1, hV⟩ := hV
      refine q_less (kc' := 0 + 1) (ks' := 0 + 6) (Nat.le_of_ble_eq_true rfl) (Nat.le_of_ble_eq_true rfl) ?_
      refine q_excIO hlf rfl (q_dc k_PF_rule 5 rfl) (q_dc k_PF_rule 6 rfl) (Or.inl ⟨(q_dc k_PF_rule 7 rfl), rfl⟩) (List.mem_of_getElem? (i := 2) rfl) (q_dc k_PF_rule 8 rfl) s1 ⟨Nat.le_of_ble_eq_true rfl, Nat.le_of_ble_eq_true rfl⟩ ?_
      refine q_let (fun v2 => q_G l cx M_PF_rule 6 384 0 0 18 [] [.inr (.inr v2)] (q_new σ 9 0) R) (q_n σ) (fun v2 e_v2 => ?_)
      have hV := hV v2 e_v2
      refine q_let (fun σ3 => q_G l cx M_PF_rule 6 384 0 0 18 [] [.inr (.inr v2)] σ3 R) (q_new σ 9 0) (fun σ3 e_σ3 => ?_)
      have hV := hV σ3 e_σ3
      obtain ⟨s4, hV⟩ := hV
      exact q_athrow (q_dc k_PF_rule 9 rfl) s4 (q_T.leave rfl hV))
  have hV := hV (by
      intro σ hV
      show q_G l cx M_PF_rule 6 384 1 6 41 [] [] σ R
      obtain ⟨s1, hV⟩ := hV
      refine q_less (kc' := 0 + 1) (ks' := 0 + 6) (Nat.le_of_ble_eq_true rfl) (Nat.le_of_ble_eq_true rfl) ?_
      refine q_excIA hlf rfl (q_dc k_PF_rule 24 rfl) (q_dc k_PF_rule 25 rfl) (Or.inl ⟨(q_dc k_PF_rule 26 rfl), rfl⟩) (List.mem_of_getElem? (i := 3) rfl) (q_dc k_PF_rule 27 rfl) s1 ⟨Nat.le_of_ble_eq_true rfl, Nat.le_of_ble_eq_true rfl⟩ ?_
      refine q_let (fun v2 => q_G l cx M_PF_rule 6 384 0 0 50 [] [.inr (.inr v2)] (q_new σ 10 0) R) (q_n σ) (fun v2 e_v2 => ?_)
      have hV := hV v2 e_v2
      refine q_let (fun σ3 => q_G l cx M_PF_rule 6 384 0 0 50 [] [.inr (.inr v2)] σ3 R) (q_new σ 10 0) (fun σ3 e_σ3 => ?_)
      have hV := hV σ3 e_σ3
      obtain ⟨s4, hV⟩ := hV
      exact q_athrow (q_dc k_PF_rule 28 rfl) s4 (q_T.leave rfl hV))
  have hV := hV (by
      intro x0 x1 x2 y0 σ hV
      show q_G l cx M_PF_rule 6 384 0 0 68 [(0, .inr (.inr x0)), (1, .inl x1), (2, .inr (.inl x2))] [.inl y0] σ R
      refine q_run k_PF_rule 40 7 78 rfl ?_
      show q_K σ x0 = 1 ∧ q_K σ (q_P σ x0 5) = 1000 ∧ vp_in x1 (q_Z σ (q_P σ x0 5)) ∧ q_G l cx M_PF_rule 6 384 0 0 78 [(4, .inl y0), (0, .inr (.inr x0)), (1, .inl x1), (2, .inr (.inl x2))] [] (q_wI σ (q_P σ x0 5) x1.toNatClampNeg x2.toInt32) R
      obtain ⟨s2, s3, s4, hV⟩ := hV
      refine ⟨s2, s3, s4, ?_⟩
      refine q_let (fun σ1 => q_G l cx M_PF_rule 6 384 0 0 78 [(4, .inl y0), (0, .inr (.inr x0)), (1, .inl x1), (2, .inr (.inl x2))] [] σ1 R) (q_wI σ (q_P σ x0 5) x1.toNatClampNeg x2.toInt32) (fun σ1 e_σ1 => ?_)
      have hV := hV σ1 e_σ1
      refine q_run k_PF_rule 47 1 80 rfl ?_
      show q_G l cx M_PF_rule 6 384 0 0 80 [(4, .inl y0), (0, .inr (.inr x0)), (1, .inl x1), (2, .inr (.inl x2))] [.inl y0] σ1 R
      exact q_zreturn (q_dc k_PF_rule 48 rfl) rfl hV.1 hV.2)
  refine q_run k_PF_rule 0 1 1 rfl ?_
  show q_G l cx M_PF_rule 6 384 1 6 1 [(0, .inr (.inr x0)), (1, .inl x1), (2, .inr (.inl x2))] [.inl x1] σ R
  refine q_ifz (q_dc k_PF_rule 1 rfl) rfl (fun h1 => ?_) (fun h1 => ?_)
  · have hV := hV.1 h1
    exact q_less (Nat.le_of_ble_eq_true rfl) (Nat.le_of_ble_eq_true rfl) (q_subk [] rfl hV)
  · have hV := hV.2 h1
    refine q_run k_PF_rule 2 2 6 rfl ?_
    show q_G l cx M_PF_rule 6 384 1 6 6 [(0, .inr (.inr x0)), (1, .inl x1), (2, .inr (.inl x2))] [.inl (4 : Int32), .inl x1] σ R
    refine q_icmp (q_dc k_PF_rule 4 rfl) rfl (fun h2 => ?_) (fun h2 => ?_)
    · have hV := hV.1 h2
      refine q_run k_PF_rule 10 1 20 rfl ?_
      show q_G l cx M_PF_rule 6 384 1 6 20 [(0, .inr (.inr x0)), (1, .inl x1), (2, .inr (.inl x2))] [.inr (.inl x2)] σ R
      refine q_gets (nm := 10000001) (q_dc k_PF_rule 11 rfl) (List.mem_of_getElem? (i := 0) rfl) (List.mem_of_getElem? (i := 739) (by decide +kernel)) ?_
      show q_G l cx M_PF_rule 6 384 1 6 23 [(0, .inr (.inr x0)), (1, .inl x1), (2, .inr (.inl x2))] [.inr (.inr 10000001), .inr (.inl x2)] σ R
      refine q_run k_PF_rule 12 4 27 rfl ?_
      show (q_K σ 10000001 = 1000 ∨ q_K σ 10000001 = 2000) ∧ vp_in x1 (q_Z σ 10000001) ∧ q_G l cx M_PF_rule 6 384 1 6 27 [(0, .inr (.inr x0)), (1, .inl x1), (2, .inr (.inl x2))] [.inl (lg_cmp x2 ((q_I σ 10000001 x1.toNatClampNeg).toInt64))] σ R
      obtain ⟨s3, s4, hV⟩ := hV
      refine ⟨s3, s4, ?_⟩
      refine q_ifz (q_dc k_PF_rule 16 rfl) rfl (fun h5 => ?_) (fun h5 => ?_)
      · have hV := hV.1 h5
        exact q_less (Nat.le_of_ble_eq_true rfl) (Nat.le_of_ble_eq_true rfl) (q_subk [] rfl hV)
      · have hV := hV.2 h5
        refine q_run k_PF_rule 17 1 31 rfl ?_
        show q_G l cx M_PF_rule 6 384 1 6 31 [(0, .inr (.inr x0)), (1, .inl x1), (2, .inr (.inl x2))] [.inr (.inl x2)] σ R
        refine q_gets (nm := 10000002) (q_dc k_PF_rule 18 rfl) (List.mem_of_getElem? (i := 1) rfl) (List.mem_of_getElem? (i := 740) (by decide +kernel)) ?_
        show q_G l cx M_PF_rule 6 384 1 6 34 [(0, .inr (.inr x0)), (1, .inl x1), (2, .inr (.inl x2))] [.inr (.inr 10000002), .inr (.inl x2)] σ R
        refine q_run k_PF_rule 19 4 38 rfl ?_
        show (q_K σ 10000002 = 1000 ∨ q_K σ 10000002 = 2000) ∧ vp_in x1 (q_Z σ 10000002) ∧ q_G l cx M_PF_rule 6 384 1 6 38 [(0, .inr (.inr x0)), (1, .inl x1), (2, .inr (.inl x2))] [.inl (lg_cmp x2 ((q_I σ 10000002 x1.toNatClampNeg).toInt64))] σ R
        obtain ⟨s6, s7, hV⟩ := hV
        refine ⟨s6, s7, ?_⟩
        refine q_ifz (q_dc k_PF_rule 23 rfl) rfl (fun h8 => ?_) (fun h8 => ?_)
        · have hV := hV.1 h8
          refine q_run k_PF_rule 29 7 60 rfl ?_
          show q_K σ x0 = 1 ∧ (q_K σ (q_P σ x0 5) = 1000 ∨ q_K σ (q_P σ x0 5) = 2000) ∧ vp_in x1 (q_Z σ (q_P σ x0 5)) ∧ q_G l cx M_PF_rule 6 384 1 6 60 [(0, .inr (.inr x0)), (1, .inl x1), (2, .inr (.inl x2))] [.inl (lg_cmp ((q_I σ (q_P σ x0 5) x1.toNatClampNeg).toInt64) x2)] σ R
          obtain ⟨s9, s10, s11, hV⟩ := hV
          refine ⟨s9, s10, s11, ?_⟩
          refine q_ifz (q_dc k_PF_rule 36 rfl) rfl (fun h12 => ?_) (fun h12 => ?_)
          · have hV := hV.1 h12
            refine q_run k_PF_rule 39 1 68 rfl ?_
            show q_G l cx M_PF_rule 6 384 1 6 68 [(0, .inr (.inr x0)), (1, .inl x1), (2, .inr (.inl x2))] [.inl (0 : Int32)] σ R
            exact q_less (Nat.le_of_ble_eq_true rfl) (Nat.le_of_ble_eq_true rfl) (q_subk [0, 1, 2] rfl hV)
          · have hV := hV.2 h12
            refine q_run k_PF_rule 37 1 64 rfl ?_
            show q_G l cx M_PF_rule 6 384 1 6 64 [(0, .inr (.inr x0)), (1, .inl x1), (2, .inr (.inl x2))] [.inl (1 : Int32)] σ R
            refine q_goto (q_dc k_PF_rule 38 rfl) rfl ?_
            exact q_less (Nat.le_of_ble_eq_true rfl) (Nat.le_of_ble_eq_true rfl) (q_subk [0, 1, 2] rfl hV)
        · have hV := hV.2 h8
          exact q_less (Nat.le_of_ble_eq_true rfl) (Nat.le_of_ble_eq_true rfl) (q_subk [] rfl hV)
    · have hV := hV.2 h2
      exact q_less (Nat.le_of_ble_eq_true rfl) (Nat.le_of_ble_eq_true rfl) (q_subk [] rfl hV)
def V_PF_pad (x0 : Nat) (x1 : Int32) (x2 : Int32) (x3 : Int64) (x5 : Int64) (x7 : Int64) (x9 : Int64) (σ : q_S) (R : q_O → q_S → Prop) : Prop :=
  ∀ (P55 : q_S → Prop),
  (∀ (σ : q_S), (q_n σ < 10000000 ∧ ∀ v2 : Nat, v2 = q_n σ → ∀ σ3 : q_S, σ3 = q_new σ 10 0 → 0 < v2 ∧ R (.inr v2) σ3) → P55 σ) →
  q_K σ x0 = 1 ∧ V_PF_requireLayer x0 x2 σ (q_cv (fun σ5 => V_PF_requireNet x1 σ5 (q_cv (fun σ9 => (((f_PF_onBoard x3 x5) = (0 : Int32) → P55  σ9) ∧ (¬ ((f_PF_onBoard x3 x5) = (0 : Int32)) → (((lg_cmp x7 (1 : Int64)) < (0 : Int32) → P55  σ9) ∧ (¬ ((lg_cmp x7 (1 : Int64)) < (0 : Int32)) → (((lg_cmp x9 (1 : Int64)) < (0 : Int32) → P55  σ9) ∧ (¬ ((lg_cmp x9 (1 : Int64)) < (0 : Int32)) → (((0 : Int32) < (lg_cmp x7 ((32 : Int64) - x3)) → P55  σ9) ∧ (¬ ((0 : Int32) < (lg_cmp x7 ((32 : Int64) - x3))) → (((lg_cmp x9 ((24 : Int64) - x5)) ≤ (0 : Int32) → q_K σ9 x0 = 1 ∧ q_K σ9 (q_P σ9 x0 4) = 8 ∧ V_AL_size (q_P σ9 x0 4) σ9 (q_ci (fun v19 σ20 => ((v19 < (10 : Int32) → q_K σ20 x0 = 1 ∧ q_n σ20 < 10000000 ∧ ∀ v24 : Nat, v24 = q_n σ20 → ∀ σ25 : q_S, σ25 = q_new σ20 5 0 → 0 < v24 ∧ V_PP_init v24 x1 x2 x3.toInt32 x5.toInt32 x7.toInt32 x9.toInt32 σ25 (q_cv (fun σ30 => q_K σ30 (q_P σ20 x0 4) = 8 ∧ V_AL_add2 (q_P σ20 x0 4) v24 σ30 (q_ci (fun v34 σ35 => q_K σ35 x0 = 1 ∧ q_K σ35 (q_P σ35 x0 4) = 8 ∧ V_AL_size (q_P σ35 x0 4) σ35 (q_ci (fun v40 σ41 => R (.inl (some (.inl (v40 - (1 : Int32))))) σ41) (fun n9 σ9 => R (.inr n9) σ9))) (fun n9 σ9 => R (.inr n9) σ9))) (fun n9 σ9 => R (.inr n9) σ9))) ∧ (¬ (v19 < (10 : Int32)) → R (.inl (some (.inl (-1 : Int32)))) σ20))) (fun n9 σ9 => R (.inr n9) σ9))) ∧ (¬ ((lg_cmp x9 ((24 : Int64) - x5)) ≤ (0 : Int32)) → P55  σ9))))))))))) (fun n9 σ9 => R (.inr n9) σ9))) (fun n9 σ9 => R (.inr n9) σ9))
set_option maxRecDepth 100000 in
theorem t_PF_pad {l : Launch} {cx : q_C} {x0 : Nat} {x1 : Int32} {x2 : Int32} {x3 : Int64} {x5 : Int64} {x7 : Int64} {x9 : Int64} {σ : q_S} {R : q_O → q_S → Prop} (hlf : l.flags = pinnedFlags ++ [noTraceFlag]) (hV : V_PF_pad x0 x1 x2 x3 x5 x7 x9 σ R) : q_Ct l cx M_PF_pad 7 448 4 50 [q_r x0, q_i x1, q_i x2, q_l x3, q_l x5, q_l x7, q_l x9] σ R := by
  refine q_Ct.of p_PF_pad c_PF_pad rfl (Nat.le_of_ble_eq_true rfl) ?_
  have hV := hV (fun (σ : q_S) => q_G l cx M_PF_pad 7 448 1 6 55 [] [] σ R)
  have hV := hV (by
      intro σ hV
      show q_G l cx M_PF_pad 7 448 1 6 55 [] [] σ R
      obtain ⟨s1, hV⟩ := hV
      refine q_less (kc' := 0 + 1) (ks' := 0 + 6) (Nat.le_of_ble_eq_true rfl) (Nat.le_of_ble_eq_true rfl) ?_
      refine q_excIA hlf rfl (q_dc k_PF_pad 29 rfl) (q_dc k_PF_pad 30 rfl) (Or.inl ⟨(q_dc k_PF_pad 31 rfl), rfl⟩) (List.mem_of_getElem? (i := 4) rfl) (q_dc k_PF_pad 32 rfl) s1 ⟨Nat.le_of_ble_eq_true rfl, Nat.le_of_ble_eq_true rfl⟩ ?_
      refine q_let (fun v2 => q_G l cx M_PF_pad 7 448 0 0 64 [] [.inr (.inr v2)] (q_new σ 10 0) R) (q_n σ) (fun v2 e_v2 => ?_)
      have hV := hV v2 e_v2
      refine q_let (fun σ3 => q_G l cx M_PF_pad 7 448 0 0 64 [] [.inr (.inr v2)] σ3 R) (q_new σ 10 0) (fun σ3 e_σ3 => ?_)
      have hV := hV σ3 e_σ3
      obtain ⟨s4, hV⟩ := hV
      exact q_athrow (q_dc k_PF_pad 33 rfl) s4 (q_T.leave rfl hV))
  refine q_run k_PF_pad 0 2 2 rfl ?_
  show q_G l cx M_PF_pad 7 448 4 50 2 [(0, .inr (.inr x0)), (1, .inl x1), (2, .inl x2), (3, .inr (.inl x3)), (5, .inr (.inl x5)), (7, .inr (.inl x7)), (9, .inr (.inl x9))] [.inl x2, .inr (.inr x0)] σ R
  obtain ⟨s1, hV⟩ := hV
  refine q_less (kc' := 3 + 1) (ks' := 44 + 6) (Nat.le_of_ble_eq_true rfl) (Nat.le_of_ble_eq_true rfl) ?_
  refine q_callV (st := []) (as := [.inl x2]) (t_PF_requireLayer (l := l) (cx := cx) hlf hV) (q_dc k_PF_pad 2 rfl) (Or.inl (List.mem_of_getElem? (i := 301) (by decide +kernel))) w_PF_requireLayer n_PF_requireLayer (ci := 0) rfl e_PF_requireLayer a_PF_requireLayer (q_wt (Nat.le_of_ble_eq_true rfl)) ⟨Nat.le_of_ble_eq_true rfl, Nat.le_of_ble_eq_true rfl⟩ s1 (fun v9 τ9 q9 => ?_) (fun n9 τ9 q9 => q_T.leave rfl q9)
  obtain ⟨rfl, hV⟩ := q_cv_elim q9
  clear q9
  have hV := hV
  revert hV
  generalize τ9 = σ5
  intro hV
  show q_G l cx M_PF_pad 7 448 3 44 5 [(0, .inr (.inr x0)), (1, .inl x1), (2, .inl x2), (3, .inr (.inl x3)), (5, .inr (.inl x5)), (7, .inr (.inl x7)), (9, .inr (.inl x9))] [] σ5 R
  refine q_run k_PF_pad 3 1 6 rfl ?_
  show q_G l cx M_PF_pad 7 448 3 44 6 [(0, .inr (.inr x0)), (1, .inl x1), (2, .inl x2), (3, .inr (.inl x3)), (5, .inr (.inl x5)), (7, .inr (.inl x7)), (9, .inr (.inl x9))] [.inl x1] σ5 R
  refine q_less (kc' := 2 + 1) (ks' := 38 + 6) (Nat.le_of_ble_eq_true rfl) (Nat.le_of_ble_eq_true rfl) ?_
  refine q_callS (st := []) (t_PF_requireNet (l := l) (cx := cx) hlf hV) (q_dc k_PF_pad 4 rfl) (Or.inl (List.mem_of_getElem? (i := 354) (by decide +kernel))) w_PF_requireNet s_PF_requireNet a_PF_requireNet (q_wt (Nat.le_of_ble_eq_true rfl)) ⟨Nat.le_of_ble_eq_true rfl, Nat.le_of_ble_eq_true rfl⟩ (fun v9 τ9 q9 => ?_) (fun n9 τ9 q9 => q_T.leave rfl q9)
  obtain ⟨rfl, hV⟩ := q_cv_elim q9
  clear q9
  have hV := hV
  revert hV
  generalize τ9 = σ9
  intro hV
  show q_G l cx M_PF_pad 7 448 2 38 9 [(0, .inr (.inr x0)), (1, .inl x1), (2, .inl x2), (3, .inr (.inl x3)), (5, .inr (.inl x5)), (7, .inr (.inl x7)), (9, .inr (.inl x9))] [] σ9 R
  refine q_run k_PF_pad 5 2 12 rfl ?_
  show q_G l cx M_PF_pad 7 448 2 38 12 [(0, .inr (.inr x0)), (1, .inl x1), (2, .inl x2), (3, .inr (.inl x3)), (5, .inr (.inl x5)), (7, .inr (.inl x7)), (9, .inr (.inl x9))] [.inr (.inl x5), .inr (.inl x3)] σ9 R
  refine q_callS (st := []) (t_PF_onBoard (l := l) (cx := cx) (σ := σ9) x3 x5) (q_dc k_PF_pad 7 rfl) (Or.inl (List.mem_of_getElem? (i := 748) (by decide +kernel))) w_PF_onBoard s_PF_onBoard a_PF_onBoard (q_wt (Nat.le_of_ble_eq_true rfl)) ⟨Nat.le_of_ble_eq_true rfl, Nat.le_of_ble_eq_true rfl⟩ (fun v9 τ9 q9 => ?_) (fun n9 τ9 q9 => by cases q9.1)
  obtain ⟨q8, q7⟩ := q9
  cases q8
  rw [q7]
  show q_G l cx M_PF_pad 7 448 2 38 15 [(0, .inr (.inr x0)), (1, .inl x1), (2, .inl x2), (3, .inr (.inl x3)), (5, .inr (.inl x5)), (7, .inr (.inl x7)), (9, .inr (.inl x9))] [.inl (f_PF_onBoard x3 x5)] σ9 R
  refine q_ifz (q_dc k_PF_pad 8 rfl) rfl (fun h10 => ?_) (fun h10 => ?_)
  · have hV := hV.1 h10
    exact q_less (Nat.le_of_ble_eq_true rfl) (Nat.le_of_ble_eq_true rfl) (q_subk [] rfl hV)
  · have hV := hV.2 h10
    refine q_run k_PF_pad 9 3 22 rfl ?_
    show q_G l cx M_PF_pad 7 448 2 38 22 [(0, .inr (.inr x0)), (1, .inl x1), (2, .inl x2), (3, .inr (.inl x3)), (5, .inr (.inl x5)), (7, .inr (.inl x7)), (9, .inr (.inl x9))] [.inl (lg_cmp x7 (1 : Int64))] σ9 R
    refine q_ifz (q_dc k_PF_pad 12 rfl) rfl (fun h11 => ?_) (fun h11 => ?_)
    · have hV := hV.1 h11
      exact q_less (Nat.le_of_ble_eq_true rfl) (Nat.le_of_ble_eq_true rfl) (q_subk [] rfl hV)
    · have hV := hV.2 h11
      refine q_run k_PF_pad 13 3 29 rfl ?_
      show q_G l cx M_PF_pad 7 448 2 38 29 [(0, .inr (.inr x0)), (1, .inl x1), (2, .inl x2), (3, .inr (.inl x3)), (5, .inr (.inl x5)), (7, .inr (.inl x7)), (9, .inr (.inl x9))] [.inl (lg_cmp x9 (1 : Int64))] σ9 R
      refine q_ifz (q_dc k_PF_pad 16 rfl) rfl (fun h12 => ?_) (fun h12 => ?_)
      · have hV := hV.1 h12
        exact q_less (Nat.le_of_ble_eq_true rfl) (Nat.le_of_ble_eq_true rfl) (q_subk [] rfl hV)
      · have hV := hV.2 h12
        refine q_run k_PF_pad 17 5 40 rfl ?_
        show q_G l cx M_PF_pad 7 448 2 38 40 [(0, .inr (.inr x0)), (1, .inl x1), (2, .inl x2), (3, .inr (.inl x3)), (5, .inr (.inl x5)), (7, .inr (.inl x7)), (9, .inr (.inl x9))] [.inl (lg_cmp x7 ((32 : Int64) - x3))] σ9 R
        refine q_ifz (q_dc k_PF_pad 22 rfl) rfl (fun h13 => ?_) (fun h13 => ?_)
        · have hV := hV.1 h13
          exact q_less (Nat.le_of_ble_eq_true rfl) (Nat.le_of_ble_eq_true rfl) (q_subk [] rfl hV)
        · have hV := hV.2 h13
          refine q_run k_PF_pad 23 5 52 rfl ?_
          show q_G l cx M_PF_pad 7 448 2 38 52 [(0, .inr (.inr x0)), (1, .inl x1), (2, .inl x2), (3, .inr (.inl x3)), (5, .inr (.inl x5)), (7, .inr (.inl x7)), (9, .inr (.inl x9))] [.inl (lg_cmp x9 ((24 : Int64) - x5))] σ9 R
          refine q_ifz (q_dc k_PF_pad 28 rfl) rfl (fun h14 => ?_) (fun h14 => ?_)
          · have hV := hV.1 h14
            refine q_run k_PF_pad 34 2 69 rfl ?_
            show q_K σ9 x0 = 1 ∧ q_G l cx M_PF_pad 7 448 2 38 69 [(0, .inr (.inr x0)), (1, .inl x1), (2, .inl x2), (3, .inr (.inl x3)), (5, .inr (.inl x5)), (7, .inr (.inl x7)), (9, .inr (.inl x9))] [.inr (.inr (q_P σ9 x0 4))] σ9 R
            obtain ⟨s15, hV⟩ := hV
            refine ⟨s15, ?_⟩
            obtain ⟨s16, hV⟩ := hV
            refine q_callF (st := []) (as := []) (x := ⟨"java/util/List", "size", "()I"⟩) (t_AL_size (l := l) (cx := cx)  hV) (q_dc k_PF_pad 36 rfl) (List.mem_of_getElem? (i := 172) (by decide +kernel)) w_AL_size n_AL_size (ci := 7) rfl (List.mem_of_getElem? (i := 173) (by decide +kernel)) (List.mem_of_getElem? (i := 0) rfl) (by decide) a_AL_size (q_wt (Nat.le_of_ble_eq_true rfl)) ⟨Nat.le_of_ble_eq_true rfl, Nat.le_of_ble_eq_true rfl⟩ s16 (fun v9 τ9 q9 => ?_) (fun n9 τ9 q9 => q_T.leave rfl q9)
            obtain ⟨v19, rfl, hV⟩ := q_ci_elim q9
            clear q9
            have hV := hV
            revert hV
            generalize τ9 = σ20
            intro hV
            show q_G l cx M_PF_pad 7 448 2 38 74 [(0, .inr (.inr x0)), (1, .inl x1), (2, .inl x2), (3, .inr (.inl x3)), (5, .inr (.inl x5)), (7, .inr (.inl x7)), (9, .inr (.inl x9))] [.inl v19] σ20 R
            refine q_run k_PF_pad 37 1 76 rfl ?_
            show q_G l cx M_PF_pad 7 448 2 38 76 [(0, .inr (.inr x0)), (1, .inl x1), (2, .inl x2), (3, .inr (.inl x3)), (5, .inr (.inl x5)), (7, .inr (.inl x7)), (9, .inr (.inl x9))] [.inl (10 : Int32), .inl v19] σ20 R
            refine q_icmp (q_dc k_PF_pad 38 rfl) rfl (fun h21 => ?_) (fun h21 => ?_)
            · have hV := hV.1 h21
              refine q_run k_PF_pad 41 2 85 rfl ?_
              show q_K σ20 x0 = 1 ∧ q_G l cx M_PF_pad 7 448 2 38 85 [(0, .inr (.inr x0)), (1, .inl x1), (2, .inl x2), (3, .inr (.inl x3)), (5, .inr (.inl x5)), (7, .inr (.inl x7)), (9, .inr (.inl x9))] [.inr (.inr (q_P σ20 x0 4))] σ20 R
              obtain ⟨s22, hV⟩ := hV
              refine ⟨s22, ?_⟩
              obtain ⟨s23, hV⟩ := hV
              refine q_less (kc' := 1 + 1) (ks' := 32 + 6) (Nat.le_of_ble_eq_true rfl) (Nat.le_of_ble_eq_true rfl) ?_
              refine q_newo (ci := 4) (q_dc k_PF_pad 43 rfl) rfl (List.mem_of_getElem? (i := 213) (by decide +kernel)) 6 (List.mem_of_getElem? (i := 215) (by decide +kernel)) (List.mem_of_getElem? (i := 92) (by decide +kernel)) s23 ?_
              refine q_let (fun v24 => q_G l cx M_PF_pad 7 448 1 32 88 [(0, .inr (.inr x0)), (1, .inl x1), (2, .inl x2), (3, .inr (.inl x3)), (5, .inr (.inl x5)), (7, .inr (.inl x7)), (9, .inr (.inl x9))] [.inr (.inr v24), .inr (.inr (q_P σ20 x0 4))] (q_new σ20 5 0) R) (q_n σ20) (fun v24 e_v24 => ?_)
              have hV := hV v24 e_v24
              refine q_let (fun σ25 => q_G l cx M_PF_pad 7 448 1 32 88 [(0, .inr (.inr x0)), (1, .inl x1), (2, .inl x2), (3, .inr (.inl x3)), (5, .inr (.inl x5)), (7, .inr (.inl x7)), (9, .inr (.inl x9))] [.inr (.inr v24), .inr (.inr (q_P σ20 x0 4))] σ25 R) (q_new σ20 5 0) (fun σ25 e_σ25 => ?_)
              have hV := hV σ25 e_σ25
              refine q_run k_PF_pad 44 11 102 rfl ?_
              show q_G l cx M_PF_pad 7 448 1 32 102 [(0, .inr (.inr x0)), (1, .inl x1), (2, .inl x2), (3, .inr (.inl x3)), (5, .inr (.inl x5)), (7, .inr (.inl x7)), (9, .inr (.inl x9))] [.inl x9.toInt32, .inl x7.toInt32, .inl x5.toInt32, .inl x3.toInt32, .inl x2, .inl x1, .inr (.inr v24), .inr (.inr v24), .inr (.inr (q_P σ20 x0 4))] σ25 R
              obtain ⟨s26, hV⟩ := hV
              refine q_callI (st := [.inr (.inr v24), .inr (.inr (q_P σ20 x0 4))]) (as := [.inl x1, .inl x2, .inl x3.toInt32, .inl x5.toInt32, .inl x7.toInt32, .inl x9.toInt32]) (t_PP_init (l := l) (cx := cx)  hV) (q_dc k_PF_pad 55 rfl) (Or.inr ⟨"PlaneFills", List.mem_of_getElem? (i := 19) (by decide +kernel)⟩) w_PP_init c_PP_init n_PP_init rfl a_PP_init (q_wt (Nat.le_of_ble_eq_true rfl)) ⟨Nat.le_of_ble_eq_true rfl, Nat.le_of_ble_eq_true rfl⟩ s26 (fun v9 τ9 q9 => ?_) (fun n9 τ9 q9 => q_T.leave rfl q9)
              obtain ⟨rfl, hV⟩ := q_cv_elim q9
              clear q9
              have hV := hV
              revert hV
              generalize τ9 = σ30
              intro hV
              show q_G l cx M_PF_pad 7 448 1 32 105 [(0, .inr (.inr x0)), (1, .inl x1), (2, .inl x2), (3, .inr (.inl x3)), (5, .inr (.inl x5)), (7, .inr (.inl x7)), (9, .inr (.inl x9))] [.inr (.inr v24), .inr (.inr (q_P σ20 x0 4))] σ30 R
              obtain ⟨s31, hV⟩ := hV
              refine q_less (kc' := 0 + 1) (ks' := 0 + 32) (Nat.le_of_ble_eq_true rfl) (Nat.le_of_ble_eq_true rfl) ?_
              refine q_callF (st := []) (as := [.inr (.inr v24)]) (x := ⟨"java/util/List", "add", "(Ljava/lang/Object;)Z"⟩) (t_AL_add2 (l := l) (cx := cx)  hV) (q_dc k_PF_pad 56 rfl) (List.mem_of_getElem? (i := 672) (by decide +kernel)) w_AL_add2 n_AL_add2 (ci := 7) rfl (List.mem_of_getElem? (i := 673) (by decide +kernel)) (List.mem_of_getElem? (i := 3) rfl) (by decide) a_AL_add2 (q_wt (Nat.le_of_ble_eq_true rfl)) ⟨Nat.le_of_ble_eq_true rfl, Nat.le_of_ble_eq_true rfl⟩ s31 (fun v9 τ9 q9 => ?_) (fun n9 τ9 q9 => q_T.leave rfl q9)
              obtain ⟨v34, rfl, hV⟩ := q_ci_elim q9
              clear q9
              have hV := hV
              revert hV
              generalize τ9 = σ35
              intro hV
              show q_G l cx M_PF_pad 7 448 0 0 110 [(0, .inr (.inr x0)), (1, .inl x1), (2, .inl x2), (3, .inr (.inl x3)), (5, .inr (.inl x5)), (7, .inr (.inl x7)), (9, .inr (.inl x9))] [.inl v34] σ35 R
              refine q_run k_PF_pad 57 3 115 rfl ?_
              show q_K σ35 x0 = 1 ∧ q_G l cx M_PF_pad 7 448 0 0 115 [(0, .inr (.inr x0)), (1, .inl x1), (2, .inl x2), (3, .inr (.inl x3)), (5, .inr (.inl x5)), (7, .inr (.inl x7)), (9, .inr (.inl x9))] [.inr (.inr (q_P σ35 x0 4))] σ35 R
              obtain ⟨s36, hV⟩ := hV
              refine ⟨s36, ?_⟩
              obtain ⟨s37, hV⟩ := hV
              refine q_callF (st := []) (as := []) (x := ⟨"java/util/List", "size", "()I"⟩) (t_AL_size (l := l) (cx := cx)  hV) (q_dc k_PF_pad 60 rfl) (List.mem_of_getElem? (i := 172) (by decide +kernel)) w_AL_size n_AL_size (ci := 7) rfl (List.mem_of_getElem? (i := 173) (by decide +kernel)) (List.mem_of_getElem? (i := 0) rfl) (by decide) a_AL_size (q_wt (Nat.le_of_ble_eq_true rfl)) ⟨Nat.le_of_ble_eq_true rfl, Nat.le_of_ble_eq_true rfl⟩ s37 (fun v9 τ9 q9 => ?_) (fun n9 τ9 q9 => q_T.leave rfl q9)
              obtain ⟨v40, rfl, hV⟩ := q_ci_elim q9
              clear q9
              have hV := hV
              revert hV
              generalize τ9 = σ41
              intro hV
              show q_G l cx M_PF_pad 7 448 0 0 120 [(0, .inr (.inr x0)), (1, .inl x1), (2, .inl x2), (3, .inr (.inl x3)), (5, .inr (.inl x5)), (7, .inr (.inl x7)), (9, .inr (.inl x9))] [.inl v40] σ41 R
              refine q_run k_PF_pad 61 2 122 rfl ?_
              show q_G l cx M_PF_pad 7 448 0 0 122 [(0, .inr (.inr x0)), (1, .inl x1), (2, .inl x2), (3, .inr (.inl x3)), (5, .inr (.inl x5)), (7, .inr (.inl x7)), (9, .inr (.inl x9))] [.inl (v40 - (1 : Int32))] σ41 R
              exact q_ireturn (q_dc k_PF_pad 63 rfl) rfl hV
            · have hV := hV.2 h21
              refine q_run k_PF_pad 39 1 80 rfl ?_
              show q_G l cx M_PF_pad 7 448 2 38 80 [(0, .inr (.inr x0)), (1, .inl x1), (2, .inl x2), (3, .inr (.inl x3)), (5, .inr (.inl x5)), (7, .inr (.inl x7)), (9, .inr (.inl x9))] [.inl (-1 : Int32)] σ20 R
              exact q_ireturn (q_dc k_PF_pad 40 rfl) rfl hV
          · have hV := hV.2 h14
            exact q_less (Nat.le_of_ble_eq_true rfl) (Nat.le_of_ble_eq_true rfl) (q_subk [] rfl hV)
def V_PF_rings (x0 : Nat) (x1 : Int32) (x2 : Int32) (σ : q_S) (R : q_O → q_S → Prop) : Prop :=
  ∀ (P42 : Nat → Int32 → Int32 → q_S → Prop),
  ∀ (P66 : Int32 → q_S → Prop),
  (∀ (x0 : Nat) (x3 : Int32) (x4 : Int32) (σ : q_S), ((((768 : Int32) ≤ x4 → P66 x3 σ) ∧ (¬ ((768 : Int32) ≤ x4) → q_K σ x0 = 1 ∧ V_PF_takeNextHole x0 σ (q_ci (fun v5 σ6 => ((v5 = (0 : Int32) → P66 x3 σ6) ∧ (¬ (v5 = (0 : Int32)) → ∀ v8 : Int32, v8 = x3 + (1 : Int32) → ∀ v9 : Int32, v9 = x4 + (1 : Int32) → P42 x0 v8 v9 σ6))) (fun n9 σ9 => R (.inr n9) σ9))))) → P42 x0 x3 x4 σ) →
  (∀ (x3 : Int32) (σ : q_S), (R (.inl (some (.inl x3))) σ) → P66 x3 σ) →
  q_K σ x0 = 1 ∧ V_PF_knownPlane x0 x1 σ (q_cr (fun v4 σ5 => q_K σ5 x0 = 1 ∧ V_PF_takePiece x0 v4 x2 σ5 (q_ci (fun v9 σ10 => ((¬ v9 = (0 : Int32) → q_K σ10 x0 = 1 ∧ q_K σ10 x0 = 1 ∧ q_K σ10 (q_P σ10 x0 6) = 4 ∧ q_K σ10 (q_P σ10 x0 7) = 4 ∧ V_PG_startAround (q_P σ10 x0 7) (q_P σ10 (q_P σ10 x0 6) 2) σ10 (q_cv (fun σ19 => P42 x0 (1 : Int32) (0 : Int32) σ19) (fun n9 σ9 => R (.inr n9) σ9))) ∧ (¬ (¬ v9 = (0 : Int32)) → q_n σ10 < 10000000 ∧ ∀ v21 : Nat, v21 = q_n σ10 → ∀ σ22 : q_S, σ22 = q_new σ10 9 0 → 0 < v21 ∧ R (.inr v21) σ22))) (fun n9 σ9 => R (.inr n9) σ9))) (fun n9 σ9 => R (.inr n9) σ9))
set_option maxRecDepth 100000 in
theorem t_PF_rings {l : Launch} {cx : q_C} {x0 : Nat} {x1 : Int32} {x2 : Int32} {σ : q_S} {R : q_O → q_S → Prop} (hlf : l.flags = pinnedFlags ++ [noTraceFlag]) (hV : V_PF_rings x0 x1 x2 σ R) : q_Ct l cx M_PF_rings 7 448 2 12 [q_r x0, q_i x1, q_i x2] σ R := by
  refine q_Ct.of p_PF_rings c_PF_rings rfl (Nat.le_of_ble_eq_true rfl) ?_
  have hV := hV (fun (x0 : Nat) (x3 : Int32) (x4 : Int32) (σ : q_S) => q_G l cx M_PF_rings 7 448 0 0 42 [(0, .inr (.inr x0)), (3, .inl x3), (4, .inl x4)] [] σ R) (fun (x3 : Int32) (σ : q_S) => q_G l cx M_PF_rings 7 448 0 0 66 [(3, .inl x3)] [] σ R)
  have hV := hV (by
      intro x0 x3 x4 σ hV
      show q_G l cx M_PF_rings 7 448 0 0 42 [(0, .inr (.inr x0)), (3, .inl x3), (4, .inl x4)] [] σ R
      refine q_run k_PF_rings 22 2 47 rfl ?_
      show q_G l cx M_PF_rings 7 448 0 0 47 [(0, .inr (.inr x0)), (3, .inl x3), (4, .inl x4)] [.inl (768 : Int32), .inl x4] σ R
      refine q_icmp (q_dc k_PF_rings 24 rfl) rfl (fun h1 => ?_) (fun h1 => ?_)
      · have hV := hV.1 h1
        exact q_less (Nat.le_of_ble_eq_true rfl) (Nat.le_of_ble_eq_true rfl) (q_subk [1] rfl hV)
      · have hV := hV.2 h1
        refine q_run k_PF_rings 25 1 51 rfl ?_
        show q_G l cx M_PF_rings 7 448 0 0 51 [(0, .inr (.inr x0)), (3, .inl x3), (4, .inl x4)] [.inr (.inr x0)] σ R
        obtain ⟨s2, hV⟩ := hV
        refine q_callV (st := []) (as := []) (t_PF_takeNextHole (l := l) (cx := cx)  hV) (q_dc k_PF_rings 26 rfl) (Or.inl (List.mem_of_getElem? (i := 779) (by decide +kernel))) w_PF_takeNextHole n_PF_takeNextHole (ci := 0) rfl e_PF_takeNextHole a_PF_takeNextHole (q_wt (Nat.le_of_ble_eq_true rfl)) ⟨Nat.le_of_ble_eq_true rfl, Nat.le_of_ble_eq_true rfl⟩ s2 (fun v9 τ9 q9 => ?_) (fun n9 τ9 q9 => q_T.leave rfl q9)
        obtain ⟨v5, rfl, hV⟩ := q_ci_elim q9
        clear q9
        have hV := hV
        revert hV
        generalize τ9 = σ6
        intro hV
        show q_G l cx M_PF_rings 7 448 0 0 54 [(0, .inr (.inr x0)), (3, .inl x3), (4, .inl x4)] [.inl v5] σ6 R
        refine q_ifz (q_dc k_PF_rings 27 rfl) rfl (fun h7 => ?_) (fun h7 => ?_)
        · have hV := hV.1 h7
          exact q_less (Nat.le_of_ble_eq_true rfl) (Nat.le_of_ble_eq_true rfl) (q_subk [1] rfl hV)
        · have hV := hV.2 h7
          refine q_run k_PF_rings 28 1 60 rfl ?_
          show q_G l cx M_PF_rings 7 448 0 0 60 [(3, .inl (x3 + (1 : Int32))), (0, .inr (.inr x0)), (4, .inl x4)] [] σ6 R
          refine q_let (fun v8 => q_G l cx M_PF_rings 7 448 0 0 60 [(3, .inl v8), (0, .inr (.inr x0)), (4, .inl x4)] [] σ6 R) (x3 + (1 : Int32)) (fun v8 e_v8 => ?_)
          have hV := hV v8 e_v8
          refine q_run k_PF_rings 29 1 63 rfl ?_
          show q_G l cx M_PF_rings 7 448 0 0 63 [(4, .inl (x4 + (1 : Int32))), (3, .inl v8), (0, .inr (.inr x0))] [] σ6 R
          refine q_let (fun v9 => q_G l cx M_PF_rings 7 448 0 0 63 [(4, .inl v9), (3, .inl v8), (0, .inr (.inr x0))] [] σ6 R) (x4 + (1 : Int32)) (fun v9 e_v9 => ?_)
          have hV := hV v9 e_v9
          refine q_goto (q_dc k_PF_rings 30 rfl) rfl ?_
          exact q_less (Nat.le_of_ble_eq_true rfl) (Nat.le_of_ble_eq_true rfl) (q_subk [2, 1, 0] rfl hV))
  have hV := hV (by
      intro x3 σ hV
      show q_G l cx M_PF_rings 7 448 0 0 66 [(3, .inl x3)] [] σ R
      refine q_run k_PF_rings 31 1 67 rfl ?_
      show q_G l cx M_PF_rings 7 448 0 0 67 [(3, .inl x3)] [.inl x3] σ R
      exact q_ireturn (q_dc k_PF_rings 32 rfl) rfl hV)
  refine q_run k_PF_rings 0 3 3 rfl ?_
  show q_G l cx M_PF_rings 7 448 2 12 3 [(0, .inr (.inr x0)), (1, .inl x1), (2, .inl x2)] [.inl x1, .inr (.inr x0), .inr (.inr x0)] σ R
  obtain ⟨s1, hV⟩ := hV
  refine q_less (kc' := 1 + 1) (ks' := 6 + 6) (Nat.le_of_ble_eq_true rfl) (Nat.le_of_ble_eq_true rfl) ?_
  refine q_callV (st := [.inr (.inr x0)]) (as := [.inl x1]) (t_PF_knownPlane (l := l) (cx := cx) hlf hV) (q_dc k_PF_rings 3 rfl) (Or.inl (List.mem_of_getElem? (i := 686) (by decide +kernel))) w_PF_knownPlane n_PF_knownPlane (ci := 0) rfl e_PF_knownPlane a_PF_knownPlane (q_wt (Nat.le_of_ble_eq_true rfl)) ⟨Nat.le_of_ble_eq_true rfl, Nat.le_of_ble_eq_true rfl⟩ s1 (fun v9 τ9 q9 => ?_) (fun n9 τ9 q9 => q_T.leave rfl q9)
  obtain ⟨v4, rfl, hV⟩ := q_cr_elim q9
  clear q9
  have hV := hV
  revert hV
  generalize τ9 = σ5
  intro hV
  show q_G l cx M_PF_rings 7 448 1 6 6 [(0, .inr (.inr x0)), (1, .inl x1), (2, .inl x2)] [.inr (.inr v4), .inr (.inr x0)] σ5 R
  refine q_run k_PF_rings 4 1 7 rfl ?_
  show q_G l cx M_PF_rings 7 448 1 6 7 [(0, .inr (.inr x0)), (1, .inl x1), (2, .inl x2)] [.inl x2, .inr (.inr v4), .inr (.inr x0)] σ5 R
  obtain ⟨s6, hV⟩ := hV
  refine q_callV (st := []) (as := [.inr (.inr v4), .inl x2]) (t_PF_takePiece (l := l) (cx := cx)  hV) (q_dc k_PF_rings 5 rfl) (Or.inl (List.mem_of_getElem? (i := 774) (by decide +kernel))) w_PF_takePiece n_PF_takePiece (ci := 0) rfl e_PF_takePiece a_PF_takePiece (q_wt (Nat.le_of_ble_eq_true rfl)) ⟨Nat.le_of_ble_eq_true rfl, Nat.le_of_ble_eq_true rfl⟩ s6 (fun v9 τ9 q9 => ?_) (fun n9 τ9 q9 => q_T.leave rfl q9)
  obtain ⟨v9, rfl, hV⟩ := q_ci_elim q9
  clear q9
  have hV := hV
  revert hV
  generalize τ9 = σ10
  intro hV
  show q_G l cx M_PF_rings 7 448 1 6 10 [(0, .inr (.inr x0)), (1, .inl x1), (2, .inl x2)] [.inl v9] σ10 R
  refine q_ifz (q_dc k_PF_rings 6 rfl) rfl (fun h11 => ?_) (fun h11 => ?_)
  · have hV := hV.1 h11
    refine q_run k_PF_rings 12 5 34 rfl ?_
    show q_K σ10 x0 = 1 ∧ q_K σ10 x0 = 1 ∧ q_K σ10 (q_P σ10 x0 6) = 4 ∧ q_G l cx M_PF_rings 7 448 1 6 34 [(0, .inr (.inr x0)), (1, .inl x1), (2, .inl x2)] [.inr (.inr (q_P σ10 (q_P σ10 x0 6) 2)), .inr (.inr (q_P σ10 x0 7))] σ10 R
    obtain ⟨s12, s13, s14, hV⟩ := hV
    refine ⟨s12, s13, s14, ?_⟩
    obtain ⟨s15, hV⟩ := hV
    refine q_callV (st := []) (as := [.inr (.inr (q_P σ10 (q_P σ10 x0 6) 2))]) (t_PG_startAround (l := l) (cx := cx)  hV) (q_dc k_PF_rings 17 rfl) (Or.inr ⟨"PlaneFills", List.mem_of_getElem? (i := 20) (by decide +kernel)⟩) w_PG_startAround n_PG_startAround (ci := 3) rfl e_PG_startAround a_PG_startAround (q_wt (Nat.le_of_ble_eq_true rfl)) ⟨Nat.le_of_ble_eq_true rfl, Nat.le_of_ble_eq_true rfl⟩ s15 (fun v9 τ9 q9 => ?_) (fun n9 τ9 q9 => q_T.leave rfl q9)
    obtain ⟨rfl, hV⟩ := q_cv_elim q9
    clear q9
    have hV := hV
    revert hV
    generalize τ9 = σ19
    intro hV
    show q_G l cx M_PF_rings 7 448 1 6 37 [(0, .inr (.inr x0)), (1, .inl x1), (2, .inl x2)] [] σ19 R
    refine q_run k_PF_rings 18 4 42 rfl ?_
    show q_G l cx M_PF_rings 7 448 1 6 42 [(4, .inl (0 : Int32)), (3, .inl (1 : Int32)), (0, .inr (.inr x0)), (1, .inl x1), (2, .inl x2)] [] σ19 R
    exact q_less (Nat.le_of_ble_eq_true rfl) (Nat.le_of_ble_eq_true rfl) (q_subk [2, 1, 0] rfl hV)
  · have hV := hV.2 h11
    obtain ⟨s20, hV⟩ := hV
    refine q_less (kc' := 0 + 1) (ks' := 0 + 6) (Nat.le_of_ble_eq_true rfl) (Nat.le_of_ble_eq_true rfl) ?_
    refine q_excIO hlf rfl (q_dc k_PF_rings 7 rfl) (q_dc k_PF_rings 8 rfl) (Or.inl ⟨(q_dc k_PF_rings 9 rfl), rfl⟩) (List.mem_of_getElem? (i := 5) rfl) (q_dc k_PF_rings 10 rfl) s20 ⟨Nat.le_of_ble_eq_true rfl, Nat.le_of_ble_eq_true rfl⟩ ?_
    refine q_let (fun v21 => q_G l cx M_PF_rings 7 448 0 0 22 [(0, .inr (.inr x0)), (1, .inl x1), (2, .inl x2)] [.inr (.inr v21)] (q_new σ10 9 0) R) (q_n σ10) (fun v21 e_v21 => ?_)
    have hV := hV v21 e_v21
    refine q_let (fun σ22 => q_G l cx M_PF_rings 7 448 0 0 22 [(0, .inr (.inr x0)), (1, .inl x1), (2, .inl x2)] [.inr (.inr v21)] σ22 R) (q_new σ10 9 0) (fun σ22 e_σ22 => ?_)
    have hV := hV σ22 e_σ22
    obtain ⟨s23, hV⟩ := hV
    exact q_athrow (q_dc k_PF_rings 11 rfl) s23 (q_T.leave rfl hV)
def V_PF_at (x0 : Nat) (x1 : Int32) (x2 : Int32) (x3 : Int32) (x4 : Int32) (x5 : Int32) (σ : q_S) (R : q_O → q_S → Prop) : Prop :=
  ∀ (P18 : q_S → Prop),
  ∀ (P46 : q_S → Prop),
  ∀ (P103 : Int64 → q_S → Prop),
  (∀ (σ : q_S), (q_n σ < 10000000 ∧ ∀ v2 : Nat, v2 = q_n σ → ∀ σ3 : q_S, σ3 = q_new σ 9 0 → 0 < v2 ∧ R (.inr v2) σ3) → P18 σ) →
  (∀ (σ : q_S), (q_n σ < 10000000 ∧ ∀ v2 : Nat, v2 = q_n σ → ∀ σ3 : q_S, σ3 = q_new σ 9 0 → 0 < v2 ∧ R (.inr v2) σ3) → P46 σ) →
  (∀ (y0 : Int64) (σ : q_S), (R (.inl (some (.inr (.inl y0)))) σ) → P103 y0 σ) →
  q_K σ x0 = 1 ∧ V_PF_knownPlane x0 x1 σ (q_cr (fun v4 σ5 => ((x5 < (0 : Int32) → P18  σ5) ∧ (¬ (x5 < (0 : Int32)) → ((x5 ≤ (1 : Int32) → q_K σ5 x0 = 1 ∧ V_PF_takePiece x0 v4 x2 σ5 (q_ci (fun v11 σ12 => ((v11 = (0 : Int32) → P46  σ12) ∧ (¬ (v11 = (0 : Int32)) → q_K σ12 x0 = 1 ∧ V_PF_takeRing x0 x3 σ12 (q_ci (fun v17 σ18 => ((¬ v17 = (0 : Int32) → q_K σ18 x0 = 1 ∧ V_PF_numberedCell (q_P σ18 x0 8) x4 σ18 (q_ci (fun v23 σ24 => ((¬ v23 = (-1 : Int32) → ((¬ x5 = (0 : Int32) → ¬ (32 : Int32) = 0 ∧ P103 ((v23 / (32 : Int32)).toInt64) σ24) ∧ (¬ (¬ x5 = (0 : Int32)) → ¬ (32 : Int32) = 0 ∧ P103 ((v23 - v23 / (32 : Int32) * (32 : Int32)).toInt64) σ24))) ∧ (¬ (¬ v23 = (-1 : Int32)) → q_n σ24 < 10000000 ∧ ∀ v30 : Nat, v30 = q_n σ24 → ∀ σ31 : q_S, σ31 = q_new σ24 9 0 → 0 < v30 ∧ R (.inr v30) σ31))) (fun n9 σ9 => R (.inr n9) σ9))) ∧ (¬ (¬ v17 = (0 : Int32)) → P46  σ18))) (fun n9 σ9 => R (.inr n9) σ9))))) (fun n9 σ9 => R (.inr n9) σ9))) ∧ (¬ (x5 ≤ (1 : Int32)) → P18  σ5))))) (fun n9 σ9 => R (.inr n9) σ9))
set_option maxRecDepth 100000 in
theorem t_PF_at {l : Launch} {cx : q_C} {x0 : Nat} {x1 : Int32} {x2 : Int32} {x3 : Int32} {x4 : Int32} {x5 : Int32} {σ : q_S} {R : q_O → q_S → Prop} (hlf : l.flags = pinnedFlags ++ [noTraceFlag]) (hV : V_PF_at x0 x1 x2 x3 x4 x5 σ R) : q_Ct l cx M_PF_at 7 448 2 12 [q_r x0, q_i x1, q_i x2, q_i x3, q_i x4, q_i x5] σ R := by
  refine q_Ct.of p_PF_at c_PF_at rfl (Nat.le_of_ble_eq_true rfl) ?_
  have hV := hV (fun (σ : q_S) => q_G l cx M_PF_at 7 448 1 6 18 [] [] σ R) (fun (σ : q_S) => q_G l cx M_PF_at 7 448 1 6 46 [] [] σ R) (fun (y0 : Int64) (σ : q_S) => q_G l cx M_PF_at 7 448 0 0 103 [] [.inr (.inl y0)] σ R)
  have hV := hV (by
      intro σ hV
      show q_G l cx M_PF_at 7 448 1 6 18 [] [] σ R
      obtain ⟨s1, hV⟩ := hV
      refine q_less (kc' := 0 + 1) (ks' := 0 + 6) (Nat.le_of_ble_eq_true rfl) (Nat.le_of_ble_eq_true rfl) ?_
      refine q_excIO hlf rfl (q_dc k_PF_at 9 rfl) (q_dc k_PF_at 10 rfl) (Or.inl ⟨(q_dc k_PF_at 11 rfl), rfl⟩) (List.mem_of_getElem? (i := 6) rfl) (q_dc k_PF_at 12 rfl) s1 ⟨Nat.le_of_ble_eq_true rfl, Nat.le_of_ble_eq_true rfl⟩ ?_
      refine q_let (fun v2 => q_G l cx M_PF_at 7 448 0 0 27 [] [.inr (.inr v2)] (q_new σ 9 0) R) (q_n σ) (fun v2 e_v2 => ?_)
      have hV := hV v2 e_v2
      refine q_let (fun σ3 => q_G l cx M_PF_at 7 448 0 0 27 [] [.inr (.inr v2)] σ3 R) (q_new σ 9 0) (fun σ3 e_σ3 => ?_)
      have hV := hV σ3 e_σ3
      obtain ⟨s4, hV⟩ := hV
      exact q_athrow (q_dc k_PF_at 13 rfl) s4 (q_T.leave rfl hV))
  have hV := hV (by
      intro σ hV
      show q_G l cx M_PF_at 7 448 1 6 46 [] [] σ R
      obtain ⟨s1, hV⟩ := hV
      refine q_less (kc' := 0 + 1) (ks' := 0 + 6) (Nat.le_of_ble_eq_true rfl) (Nat.le_of_ble_eq_true rfl) ?_
      refine q_excIO hlf rfl (q_dc k_PF_at 23 rfl) (q_dc k_PF_at 24 rfl) (Or.inl ⟨(q_dc k_PF_at 25 rfl), rfl⟩) (List.mem_of_getElem? (i := 7) rfl) (q_dc k_PF_at 26 rfl) s1 ⟨Nat.le_of_ble_eq_true rfl, Nat.le_of_ble_eq_true rfl⟩ ?_
      refine q_let (fun v2 => q_G l cx M_PF_at 7 448 0 0 55 [] [.inr (.inr v2)] (q_new σ 9 0) R) (q_n σ) (fun v2 e_v2 => ?_)
      have hV := hV v2 e_v2
      refine q_let (fun σ3 => q_G l cx M_PF_at 7 448 0 0 55 [] [.inr (.inr v2)] σ3 R) (q_new σ 9 0) (fun σ3 e_σ3 => ?_)
      have hV := hV σ3 e_σ3
      obtain ⟨s4, hV⟩ := hV
      exact q_athrow (q_dc k_PF_at 27 rfl) s4 (q_T.leave rfl hV))
  have hV := hV (by
      intro y0 σ hV
      show q_G l cx M_PF_at 7 448 0 0 103 [] [.inr (.inl y0)] σ R
      exact q_lreturn (q_dc k_PF_at 52 rfl) rfl hV)
  refine q_run k_PF_at 0 2 2 rfl ?_
  show q_G l cx M_PF_at 7 448 2 12 2 [(0, .inr (.inr x0)), (1, .inl x1), (2, .inl x2), (3, .inl x3), (4, .inl x4), (5, .inl x5)] [.inl x1, .inr (.inr x0)] σ R
  obtain ⟨s1, hV⟩ := hV
  refine q_less (kc' := 1 + 1) (ks' := 6 + 6) (Nat.le_of_ble_eq_true rfl) (Nat.le_of_ble_eq_true rfl) ?_
  refine q_callV (st := []) (as := [.inl x1]) (t_PF_knownPlane (l := l) (cx := cx) hlf hV) (q_dc k_PF_at 2 rfl) (Or.inl (List.mem_of_getElem? (i := 686) (by decide +kernel))) w_PF_knownPlane n_PF_knownPlane (ci := 0) rfl e_PF_knownPlane a_PF_knownPlane (q_wt (Nat.le_of_ble_eq_true rfl)) ⟨Nat.le_of_ble_eq_true rfl, Nat.le_of_ble_eq_true rfl⟩ s1 (fun v9 τ9 q9 => ?_) (fun n9 τ9 q9 => q_T.leave rfl q9)
  obtain ⟨v4, rfl, hV⟩ := q_cr_elim q9
  clear q9
  have hV := hV
  revert hV
  generalize τ9 = σ5
  intro hV
  show q_G l cx M_PF_at 7 448 1 6 5 [(0, .inr (.inr x0)), (1, .inl x1), (2, .inl x2), (3, .inl x3), (4, .inl x4), (5, .inl x5)] [.inr (.inr v4)] σ5 R
  refine q_run k_PF_at 3 2 9 rfl ?_
  show q_G l cx M_PF_at 7 448 1 6 9 [(6, .inr (.inr v4)), (0, .inr (.inr x0)), (1, .inl x1), (2, .inl x2), (3, .inl x3), (4, .inl x4), (5, .inl x5)] [.inl x5] σ5 R
  refine q_ifz (q_dc k_PF_at 5 rfl) rfl (fun h6 => ?_) (fun h6 => ?_)
  · have hV := hV.1 h6
    exact q_less (Nat.le_of_ble_eq_true rfl) (Nat.le_of_ble_eq_true rfl) (q_subk [] rfl hV)
  · have hV := hV.2 h6
    refine q_run k_PF_at 6 2 15 rfl ?_
    show q_G l cx M_PF_at 7 448 1 6 15 [(6, .inr (.inr v4)), (0, .inr (.inr x0)), (1, .inl x1), (2, .inl x2), (3, .inl x3), (4, .inl x4), (5, .inl x5)] [.inl (1 : Int32), .inl x5] σ5 R
    refine q_icmp (q_dc k_PF_at 8 rfl) rfl (fun h7 => ?_) (fun h7 => ?_)
    · have hV := hV.1 h7
      refine q_run k_PF_at 14 3 32 rfl ?_
      show q_G l cx M_PF_at 7 448 1 6 32 [(6, .inr (.inr v4)), (0, .inr (.inr x0)), (1, .inl x1), (2, .inl x2), (3, .inl x3), (4, .inl x4), (5, .inl x5)] [.inl x2, .inr (.inr v4), .inr (.inr x0)] σ5 R
      obtain ⟨s8, hV⟩ := hV
      refine q_callV (st := []) (as := [.inr (.inr v4), .inl x2]) (t_PF_takePiece (l := l) (cx := cx)  hV) (q_dc k_PF_at 17 rfl) (Or.inl (List.mem_of_getElem? (i := 774) (by decide +kernel))) w_PF_takePiece n_PF_takePiece (ci := 0) rfl e_PF_takePiece a_PF_takePiece (q_wt (Nat.le_of_ble_eq_true rfl)) ⟨Nat.le_of_ble_eq_true rfl, Nat.le_of_ble_eq_true rfl⟩ s8 (fun v9 τ9 q9 => ?_) (fun n9 τ9 q9 => q_T.leave rfl q9)
      obtain ⟨v11, rfl, hV⟩ := q_ci_elim q9
      clear q9
      have hV := hV
      revert hV
      generalize τ9 = σ12
      intro hV
      show q_G l cx M_PF_at 7 448 1 6 35 [(6, .inr (.inr v4)), (0, .inr (.inr x0)), (1, .inl x1), (2, .inl x2), (3, .inl x3), (4, .inl x4), (5, .inl x5)] [.inl v11] σ12 R
      refine q_ifz (q_dc k_PF_at 18 rfl) rfl (fun h13 => ?_) (fun h13 => ?_)
      · have hV := hV.1 h13
        exact q_less (Nat.le_of_ble_eq_true rfl) (Nat.le_of_ble_eq_true rfl) (q_subk [] rfl hV)
      · have hV := hV.2 h13
        refine q_run k_PF_at 19 2 40 rfl ?_
        show q_G l cx M_PF_at 7 448 1 6 40 [(6, .inr (.inr v4)), (0, .inr (.inr x0)), (1, .inl x1), (2, .inl x2), (3, .inl x3), (4, .inl x4), (5, .inl x5)] [.inl x3, .inr (.inr x0)] σ12 R
        obtain ⟨s14, hV⟩ := hV
        refine q_callV (st := []) (as := [.inl x3]) (t_PF_takeRing (l := l) (cx := cx)  hV) (q_dc k_PF_at 21 rfl) (Or.inl (List.mem_of_getElem? (i := 792) (by decide +kernel))) w_PF_takeRing n_PF_takeRing (ci := 0) rfl e_PF_takeRing a_PF_takeRing (q_wt (Nat.le_of_ble_eq_true rfl)) ⟨Nat.le_of_ble_eq_true rfl, Nat.le_of_ble_eq_true rfl⟩ s14 (fun v9 τ9 q9 => ?_) (fun n9 τ9 q9 => q_T.leave rfl q9)
        obtain ⟨v17, rfl, hV⟩ := q_ci_elim q9
        clear q9
        have hV := hV
        revert hV
        generalize τ9 = σ18
        intro hV
        show q_G l cx M_PF_at 7 448 1 6 43 [(6, .inr (.inr v4)), (0, .inr (.inr x0)), (1, .inl x1), (2, .inl x2), (3, .inl x3), (4, .inl x4), (5, .inl x5)] [.inl v17] σ18 R
        refine q_ifz (q_dc k_PF_at 22 rfl) rfl (fun h19 => ?_) (fun h19 => ?_)
        · have hV := hV.1 h19
          refine q_run k_PF_at 28 3 62 rfl ?_
          show q_K σ18 x0 = 1 ∧ q_G l cx M_PF_at 7 448 1 6 62 [(6, .inr (.inr v4)), (0, .inr (.inr x0)), (1, .inl x1), (2, .inl x2), (3, .inl x3), (4, .inl x4), (5, .inl x5)] [.inl x4, .inr (.inr (q_P σ18 x0 8))] σ18 R
          obtain ⟨s20, hV⟩ := hV
          refine ⟨s20, ?_⟩
          refine q_callS (st := []) (t_PF_numberedCell (l := l) (cx := cx)  hV) (q_dc k_PF_at 31 rfl) (Or.inl (List.mem_of_getElem? (i := 798) (by decide +kernel))) w_PF_numberedCell s_PF_numberedCell a_PF_numberedCell (q_wt (Nat.le_of_ble_eq_true rfl)) ⟨Nat.le_of_ble_eq_true rfl, Nat.le_of_ble_eq_true rfl⟩ (fun v9 τ9 q9 => ?_) (fun n9 τ9 q9 => q_T.leave rfl q9)
          obtain ⟨v23, rfl, hV⟩ := q_ci_elim q9
          clear q9
          have hV := hV
          revert hV
          generalize τ9 = σ24
          intro hV
          show q_G l cx M_PF_at 7 448 1 6 65 [(6, .inr (.inr v4)), (0, .inr (.inr x0)), (1, .inl x1), (2, .inl x2), (3, .inl x3), (4, .inl x4), (5, .inl x5)] [.inl v23] σ24 R
          refine q_run k_PF_at 32 3 70 rfl ?_
          show q_G l cx M_PF_at 7 448 1 6 70 [(7, .inl v23), (6, .inr (.inr v4)), (0, .inr (.inr x0)), (1, .inl x1), (2, .inl x2), (3, .inl x3), (4, .inl x4), (5, .inl x5)] [.inl (-1 : Int32), .inl v23] σ24 R
          refine q_icmp (q_dc k_PF_at 35 rfl) rfl (fun h25 => ?_) (fun h25 => ?_)
          · have hV := hV.1 h25
            refine q_run k_PF_at 41 1 85 rfl ?_
            show q_G l cx M_PF_at 7 448 1 6 85 [(7, .inl v23), (6, .inr (.inr v4)), (0, .inr (.inr x0)), (1, .inl x1), (2, .inl x2), (3, .inl x3), (4, .inl x4), (5, .inl x5)] [.inl x5] σ24 R
            refine q_ifz (q_dc k_PF_at 42 rfl) rfl (fun h26 => ?_) (fun h26 => ?_)
            · have hV := hV.1 h26
              refine q_run k_PF_at 48 4 103 rfl ?_
              show ¬ (32 : Int32) = 0 ∧ q_G l cx M_PF_at 7 448 1 6 103 [(7, .inl v23), (6, .inr (.inr v4)), (0, .inr (.inr x0)), (1, .inl x1), (2, .inl x2), (3, .inl x3), (4, .inl x4), (5, .inl x5)] [.inr (.inl ((v23 / (32 : Int32)).toInt64))] σ24 R
              obtain ⟨s27, hV⟩ := hV
              refine ⟨s27, ?_⟩
              exact q_less (Nat.le_of_ble_eq_true rfl) (Nat.le_of_ble_eq_true rfl) (q_subk [] rfl hV)
            · have hV := hV.2 h26
              refine q_run k_PF_at 43 4 94 rfl ?_
              show ¬ (32 : Int32) = 0 ∧ q_G l cx M_PF_at 7 448 1 6 94 [(7, .inl v23), (6, .inr (.inr v4)), (0, .inr (.inr x0)), (1, .inl x1), (2, .inl x2), (3, .inl x3), (4, .inl x4), (5, .inl x5)] [.inr (.inl ((v23 - v23 / (32 : Int32) * (32 : Int32)).toInt64))] σ24 R
              obtain ⟨s28, hV⟩ := hV
              refine ⟨s28, ?_⟩
              refine q_goto (q_dc k_PF_at 47 rfl) rfl ?_
              exact q_less (Nat.le_of_ble_eq_true rfl) (Nat.le_of_ble_eq_true rfl) (q_subk [] rfl hV)
          · have hV := hV.2 h25
            obtain ⟨s29, hV⟩ := hV
            refine q_less (kc' := 0 + 1) (ks' := 0 + 6) (Nat.le_of_ble_eq_true rfl) (Nat.le_of_ble_eq_true rfl) ?_
            refine q_excIO hlf rfl (q_dc k_PF_at 36 rfl) (q_dc k_PF_at 37 rfl) (Or.inl ⟨(q_dc k_PF_at 38 rfl), rfl⟩) (List.mem_of_getElem? (i := 8) rfl) (q_dc k_PF_at 39 rfl) s29 ⟨Nat.le_of_ble_eq_true rfl, Nat.le_of_ble_eq_true rfl⟩ ?_
            refine q_let (fun v30 => q_G l cx M_PF_at 7 448 0 0 82 [(7, .inl v23), (6, .inr (.inr v4)), (0, .inr (.inr x0)), (1, .inl x1), (2, .inl x2), (3, .inl x3), (4, .inl x4), (5, .inl x5)] [.inr (.inr v30)] (q_new σ24 9 0) R) (q_n σ24) (fun v30 e_v30 => ?_)
            have hV := hV v30 e_v30
            refine q_let (fun σ31 => q_G l cx M_PF_at 7 448 0 0 82 [(7, .inl v23), (6, .inr (.inr v4)), (0, .inr (.inr x0)), (1, .inl x1), (2, .inl x2), (3, .inl x3), (4, .inl x4), (5, .inl x5)] [.inr (.inr v30)] σ31 R) (q_new σ24 9 0) (fun σ31 e_σ31 => ?_)
            have hV := hV σ31 e_σ31
            obtain ⟨s32, hV⟩ := hV
            exact q_athrow (q_dc k_PF_at 40 rfl) s32 (q_T.leave rfl hV)
        · have hV := hV.2 h19
          exact q_less (Nat.le_of_ble_eq_true rfl) (Nat.le_of_ble_eq_true rfl) (q_subk [] rfl hV)
    · have hV := hV.2 h7
      exact q_less (Nat.le_of_ble_eq_true rfl) (Nat.le_of_ble_eq_true rfl) (q_subk [] rfl hV)
def V_PF_in (x0 : Nat) (x1 : Int32) (x2 : Int64) (x4 : Int64) (σ : q_S) (R : q_O → q_S → Prop) : Prop :=
  ∀ (P41 : q_S → Prop),
  ∀ (P42 : Int32 → q_S → Prop),
  (∀ (σ : q_S), (P42 (0 : Int32) σ) → P41 σ) →
  (∀ (y0 : Int32) (σ : q_S), (((y0 = 0 ∨ y0 = 1) ∧ R (.inl (some (.inl y0))) σ)) → P42 y0 σ) →
  q_K σ x0 = 1 ∧ V_PF_knownPlane x0 x1 σ (q_cr (fun v4 σ5 => (((f_PF_onBoard x2 x4) = (0 : Int32) → P41  σ5) ∧ (¬ ((f_PF_onBoard x2 x4) = (0 : Int32)) → q_K σ5 v4 = 6 ∧ q_K σ5 (q_P σ5 v4 10) = 2 ∧ (q_K σ5 (q_P σ5 (q_P σ5 v4 10) 0) = 1000 ∨ q_K σ5 (q_P σ5 (q_P σ5 v4 10) 0) = 2000) ∧ vp_in x4.toInt32 (q_Z σ5 (q_P σ5 (q_P σ5 v4 10) 0)) ∧ ((((q_I σ5 (q_P σ5 (q_P σ5 v4 10) 0) x4.toInt32.toNatClampNeg) &&& (f_PF_span x2 x2)) = (0 : Int32) → P41  σ5) ∧ (¬ (((q_I σ5 (q_P σ5 (q_P σ5 v4 10) 0) x4.toInt32.toNatClampNeg) &&& (f_PF_span x2 x2)) = (0 : Int32)) → P42 (1 : Int32) σ5))))) (fun n9 σ9 => R (.inr n9) σ9))
set_option maxRecDepth 100000 in
theorem t_PF_in {l : Launch} {cx : q_C} {x0 : Nat} {x1 : Int32} {x2 : Int64} {x4 : Int64} {σ : q_S} {R : q_O → q_S → Prop} (hlf : l.flags = pinnedFlags ++ [noTraceFlag]) (hV : V_PF_in x0 x1 x2 x4 σ R) : q_Ct l cx M_PF_in 7 448 1 6 [q_r x0, q_i x1, q_l x2, q_l x4] σ R := by
  refine q_Ct.of p_PF_in c_PF_in rfl (Nat.le_of_ble_eq_true rfl) ?_
  have hV := hV (fun (σ : q_S) => q_G l cx M_PF_in 7 448 0 0 41 [] [] σ R) (fun (y0 : Int32) (σ : q_S) => q_G l cx M_PF_in 7 448 0 0 42 [] [.inl y0] σ R)
  have hV := hV (by
      intro σ hV
      show q_G l cx M_PF_in 7 448 0 0 41 [] [] σ R
      refine q_run k_PF_in 21 1 42 rfl ?_
      show q_G l cx M_PF_in 7 448 0 0 42 [] [.inl (0 : Int32)] σ R
      exact q_less (Nat.le_of_ble_eq_true rfl) (Nat.le_of_ble_eq_true rfl) (q_subk [] rfl hV))
  have hV := hV (by
      intro y0 σ hV
      show q_G l cx M_PF_in 7 448 0 0 42 [] [.inl y0] σ R
      exact q_zreturn (q_dc k_PF_in 22 rfl) rfl hV.1 hV.2)
  refine q_run k_PF_in 0 2 2 rfl ?_
  show q_G l cx M_PF_in 7 448 1 6 2 [(0, .inr (.inr x0)), (1, .inl x1), (2, .inr (.inl x2)), (4, .inr (.inl x4))] [.inl x1, .inr (.inr x0)] σ R
  obtain ⟨s1, hV⟩ := hV
  refine q_less (kc' := 0 + 1) (ks' := 0 + 6) (Nat.le_of_ble_eq_true rfl) (Nat.le_of_ble_eq_true rfl) ?_
  refine q_callV (st := []) (as := [.inl x1]) (t_PF_knownPlane (l := l) (cx := cx) hlf hV) (q_dc k_PF_in 2 rfl) (Or.inl (List.mem_of_getElem? (i := 686) (by decide +kernel))) w_PF_knownPlane n_PF_knownPlane (ci := 0) rfl e_PF_knownPlane a_PF_knownPlane (q_wt (Nat.le_of_ble_eq_true rfl)) ⟨Nat.le_of_ble_eq_true rfl, Nat.le_of_ble_eq_true rfl⟩ s1 (fun v9 τ9 q9 => ?_) (fun n9 τ9 q9 => q_T.leave rfl q9)
  obtain ⟨v4, rfl, hV⟩ := q_cr_elim q9
  clear q9
  have hV := hV
  revert hV
  generalize τ9 = σ5
  intro hV
  show q_G l cx M_PF_in 7 448 0 0 5 [(0, .inr (.inr x0)), (1, .inl x1), (2, .inr (.inl x2)), (4, .inr (.inl x4))] [.inr (.inr v4)] σ5 R
  refine q_run k_PF_in 3 3 10 rfl ?_
  show q_G l cx M_PF_in 7 448 0 0 10 [(6, .inr (.inr v4)), (0, .inr (.inr x0)), (1, .inl x1), (2, .inr (.inl x2)), (4, .inr (.inl x4))] [.inr (.inl x4), .inr (.inl x2)] σ5 R
  refine q_callS (st := []) (t_PF_onBoard (l := l) (cx := cx) (σ := σ5) x2 x4) (q_dc k_PF_in 6 rfl) (Or.inl (List.mem_of_getElem? (i := 748) (by decide +kernel))) w_PF_onBoard s_PF_onBoard a_PF_onBoard (q_wt (Nat.le_of_ble_eq_true rfl)) ⟨Nat.le_of_ble_eq_true rfl, Nat.le_of_ble_eq_true rfl⟩ (fun v9 τ9 q9 => ?_) (fun n9 τ9 q9 => by cases q9.1)
  obtain ⟨q8, q7⟩ := q9
  cases q8
  rw [q7]
  show q_G l cx M_PF_in 7 448 0 0 13 [(6, .inr (.inr v4)), (0, .inr (.inr x0)), (1, .inl x1), (2, .inr (.inl x2)), (4, .inr (.inl x4))] [.inl (f_PF_onBoard x2 x4)] σ5 R
  refine q_ifz (q_dc k_PF_in 7 rfl) rfl (fun h6 => ?_) (fun h6 => ?_)
  · have hV := hV.1 h6
    exact q_less (Nat.le_of_ble_eq_true rfl) (Nat.le_of_ble_eq_true rfl) (q_subk [] rfl hV)
  · have hV := hV.2 h6
    refine q_run k_PF_in 8 8 30 rfl ?_
    show q_K σ5 v4 = 6 ∧ q_K σ5 (q_P σ5 v4 10) = 2 ∧ (q_K σ5 (q_P σ5 (q_P σ5 v4 10) 0) = 1000 ∨ q_K σ5 (q_P σ5 (q_P σ5 v4 10) 0) = 2000) ∧ vp_in x4.toInt32 (q_Z σ5 (q_P σ5 (q_P σ5 v4 10) 0)) ∧ q_G l cx M_PF_in 7 448 0 0 30 [(6, .inr (.inr v4)), (0, .inr (.inr x0)), (1, .inl x1), (2, .inr (.inl x2)), (4, .inr (.inl x4))] [.inr (.inl x2), .inr (.inl x2), .inl (q_I σ5 (q_P σ5 (q_P σ5 v4 10) 0) x4.toInt32.toNatClampNeg)] σ5 R
    obtain ⟨s7, s8, s9, s10, hV⟩ := hV
    refine ⟨s7, s8, s9, s10, ?_⟩
    refine q_callS (st := [.inl (q_I σ5 (q_P σ5 (q_P σ5 v4 10) 0) x4.toInt32.toNatClampNeg)]) (t_PF_span (l := l) (cx := cx) (σ := σ5) x2 x2) (q_dc k_PF_in 16 rfl) (Or.inl (List.mem_of_getElem? (i := 244) (by decide +kernel))) w_PF_span s_PF_span a_PF_span (q_wt (Nat.le_of_ble_eq_true rfl)) ⟨Nat.le_of_ble_eq_true rfl, Nat.le_of_ble_eq_true rfl⟩ (fun v9 τ9 q9 => ?_) (fun n9 τ9 q9 => by cases q9.1)
    obtain ⟨q8, q7⟩ := q9
    cases q8
    rw [q7]
    show q_G l cx M_PF_in 7 448 0 0 33 [(6, .inr (.inr v4)), (0, .inr (.inr x0)), (1, .inl x1), (2, .inr (.inl x2)), (4, .inr (.inl x4))] [.inl (f_PF_span x2 x2), .inl (q_I σ5 (q_P σ5 (q_P σ5 v4 10) 0) x4.toInt32.toNatClampNeg)] σ5 R
    refine q_run k_PF_in 17 1 34 rfl ?_
    show q_G l cx M_PF_in 7 448 0 0 34 [(6, .inr (.inr v4)), (0, .inr (.inr x0)), (1, .inl x1), (2, .inr (.inl x2)), (4, .inr (.inl x4))] [.inl ((q_I σ5 (q_P σ5 (q_P σ5 v4 10) 0) x4.toInt32.toNatClampNeg) &&& (f_PF_span x2 x2))] σ5 R
    refine q_ifz (q_dc k_PF_in 18 rfl) rfl (fun h11 => ?_) (fun h11 => ?_)
    · have hV := hV.1 h11
      exact q_less (Nat.le_of_ble_eq_true rfl) (Nat.le_of_ble_eq_true rfl) (q_subk [] rfl hV)
    · have hV := hV.2 h11
      refine q_run k_PF_in 19 1 38 rfl ?_
      show q_G l cx M_PF_in 7 448 0 0 38 [(6, .inr (.inr v4)), (0, .inr (.inr x0)), (1, .inl x1), (2, .inr (.inl x2)), (4, .inr (.inl x4))] [.inl (1 : Int32)] σ5 R
      refine q_goto (q_dc k_PF_in 20 rfl) rfl ?_
      exact q_less (Nat.le_of_ble_eq_true rfl) (Nat.le_of_ble_eq_true rfl) (q_subk [] rfl hV)
def V_PF_islands (x0 : Nat) (x1 : Int32) (σ : q_S) (R : q_O → q_S → Prop) : Prop :=
  q_K σ x0 = 1 ∧ V_PF_knownPlane x0 x1 σ (q_cr (fun v4 σ5 => q_K σ5 v4 = 6 ∧ q_K σ5 (q_P σ5 v4 10) = 2 ∧ R (.inl (some (.inl (q_I σ5 (q_P σ5 v4 10) 2)))) σ5) (fun n9 σ9 => R (.inr n9) σ9))
set_option maxRecDepth 100000 in
theorem t_PF_islands {l : Launch} {cx : q_C} {x0 : Nat} {x1 : Int32} {σ : q_S} {R : q_O → q_S → Prop} (hlf : l.flags = pinnedFlags ++ [noTraceFlag]) (hV : V_PF_islands x0 x1 σ R) : q_Ct l cx M_PF_islands 7 448 1 6 [q_r x0, q_i x1] σ R := by
  refine q_Ct.of p_PF_islands c_PF_islands rfl (Nat.le_of_ble_eq_true rfl) ?_
  refine q_run k_PF_islands 0 2 2 rfl ?_
  show q_G l cx M_PF_islands 7 448 1 6 2 [(0, .inr (.inr x0)), (1, .inl x1)] [.inl x1, .inr (.inr x0)] σ R
  obtain ⟨s1, hV⟩ := hV
  refine q_less (kc' := 0 + 1) (ks' := 0 + 6) (Nat.le_of_ble_eq_true rfl) (Nat.le_of_ble_eq_true rfl) ?_
  refine q_callV (st := []) (as := [.inl x1]) (t_PF_knownPlane (l := l) (cx := cx) hlf hV) (q_dc k_PF_islands 2 rfl) (Or.inl (List.mem_of_getElem? (i := 686) (by decide +kernel))) w_PF_knownPlane n_PF_knownPlane (ci := 0) rfl e_PF_knownPlane a_PF_knownPlane (q_wt (Nat.le_of_ble_eq_true rfl)) ⟨Nat.le_of_ble_eq_true rfl, Nat.le_of_ble_eq_true rfl⟩ s1 (fun v9 τ9 q9 => ?_) (fun n9 τ9 q9 => q_T.leave rfl q9)
  obtain ⟨v4, rfl, hV⟩ := q_cr_elim q9
  clear q9
  have hV := hV
  revert hV
  generalize τ9 = σ5
  intro hV
  show q_G l cx M_PF_islands 7 448 0 0 5 [(0, .inr (.inr x0)), (1, .inl x1)] [.inr (.inr v4)] σ5 R
  refine q_run k_PF_islands 3 2 11 rfl ?_
  show q_K σ5 v4 = 6 ∧ q_K σ5 (q_P σ5 v4 10) = 2 ∧ q_G l cx M_PF_islands 7 448 0 0 11 [(0, .inr (.inr x0)), (1, .inl x1)] [.inl (q_I σ5 (q_P σ5 v4 10) 2)] σ5 R
  obtain ⟨s6, s7, hV⟩ := hV
  refine ⟨s6, s7, ?_⟩
  exact q_ireturn (q_dc k_PF_islands 5 rfl) rfl hV
def V_PF_spoke (x0 : Nat) (x1 : Int32) (x2 : Int32) (x3 : Int32) (σ : q_S) (R : q_O → q_S → Prop) : Prop :=
  ∀ (P17 : q_S → Prop),
  ∀ (P45 : q_S → Prop),
  ∀ (P89 : Int32 → q_S → Prop),
  ∀ (P110 : Int32 → q_S → Prop),
  (∀ (σ : q_S), (q_n σ < 10000000 ∧ ∀ v2 : Nat, v2 = q_n σ → ∀ σ3 : q_S, σ3 = q_new σ 9 0 → 0 < v2 ∧ R (.inr v2) σ3) → P17 σ) →
  (∀ (σ : q_S), (q_n σ < 10000000 ∧ ∀ v2 : Nat, v2 = q_n σ → ∀ σ3 : q_S, σ3 = q_new σ 9 0 → 0 < v2 ∧ R (.inr v2) σ3) → P45 σ) →
  (∀ (y0 : Int32) (σ : q_S), (R (.inl (some (.inl y0))) σ) → P89 y0 σ) →
  (∀ (y0 : Int32) (σ : q_S), (R (.inl (some (.inl y0))) σ) → P110 y0 σ) →
  ((x1 < (0 : Int32) → P17  σ) ∧ (¬ (x1 < (0 : Int32)) → q_K σ x0 = 1 ∧ q_K σ (q_P σ x0 4) = 8 ∧ V_AL_size (q_P σ x0 4) σ (q_ci (fun v6 σ7 => ((x1 < v6 → ((x2 < (0 : Int32) → P45  σ7) ∧ (¬ (x2 < (0 : Int32)) → (((4 : Int32) ≤ x2 → P45  σ7) ∧ (¬ ((4 : Int32) ≤ x2) → ((x3 < (0 : Int32) → P45  σ7) ∧ (¬ (x3 < (0 : Int32)) → ((x3 ≤ (2 : Int32) → q_K σ7 x0 = 1 ∧ q_K σ7 (q_P σ7 x0 4) = 8 ∧ V_AL_get (q_P σ7 x0 4) x1 σ7 (q_cr (fun v17 σ18 => q_K σ18 v17 = 5 ∧ ((¬ x3 = (0 : Int32) → ((¬ x3 = (1 : Int32) → q_K σ18 v17 = 5 ∧ P110 (f_PP_besideY σ18 v17 x2) σ18) ∧ (¬ (¬ x3 = (1 : Int32)) → q_K σ18 v17 = 5 ∧ P110 (f_PP_besideX σ18 v17 x2) σ18))) ∧ (¬ (¬ x3 = (0 : Int32)) → q_K σ18 x0 = 1 ∧ V_PF_spokeIsFilled x0 v17 x2 σ18 (q_ci (fun v27 σ28 => ((v27 = (0 : Int32) → P89 (0 : Int32) σ28) ∧ (¬ (v27 = (0 : Int32)) → P89 (1 : Int32) σ28))) (fun n9 σ9 => R (.inr n9) σ9))))) (fun n9 σ9 => R (.inr n9) σ9))) ∧ (¬ (x3 ≤ (2 : Int32)) → P45  σ7))))))))) ∧ (¬ (x1 < v6) → P17  σ7))) (fun n9 σ9 => R (.inr n9) σ9))))
set_option maxRecDepth 100000 in
theorem t_PF_spoke {l : Launch} {cx : q_C} {x0 : Nat} {x1 : Int32} {x2 : Int32} {x3 : Int32} {σ : q_S} {R : q_O → q_S → Prop} (hlf : l.flags = pinnedFlags ++ [noTraceFlag]) (hV : V_PF_spoke x0 x1 x2 x3 σ R) : q_Ct l cx M_PF_spoke 6 384 1 6 [q_r x0, q_i x1, q_i x2, q_i x3] σ R := by
  refine q_Ct.of p_PF_spoke c_PF_spoke rfl (Nat.le_of_ble_eq_true rfl) ?_
  have hV := hV (fun (σ : q_S) => q_G l cx M_PF_spoke 6 384 1 6 17 [] [] σ R) (fun (σ : q_S) => q_G l cx M_PF_spoke 6 384 1 6 45 [] [] σ R) (fun (y0 : Int32) (σ : q_S) => q_G l cx M_PF_spoke 6 384 0 0 89 [] [.inl y0] σ R) (fun (y0 : Int32) (σ : q_S) => q_G l cx M_PF_spoke 6 384 0 0 110 [] [.inl y0] σ R)
  have hV := hV (by
      intro σ hV
      show q_G l cx M_PF_spoke 6 384 1 6 17 [] [] σ R
      obtain ⟨s1, hV⟩ := hV
      refine q_less (kc' := 0 + 1) (ks' := 0 + 6) (Nat.le_of_ble_eq_true rfl) (Nat.le_of_ble_eq_true rfl) ?_
      refine q_excIO hlf rfl (q_dc k_PF_spoke 7 rfl) (q_dc k_PF_spoke 8 rfl) (Or.inl ⟨(q_dc k_PF_spoke 9 rfl), rfl⟩) (List.mem_of_getElem? (i := 9) rfl) (q_dc k_PF_spoke 10 rfl) s1 ⟨Nat.le_of_ble_eq_true rfl, Nat.le_of_ble_eq_true rfl⟩ ?_
      refine q_let (fun v2 => q_G l cx M_PF_spoke 6 384 0 0 26 [] [.inr (.inr v2)] (q_new σ 9 0) R) (q_n σ) (fun v2 e_v2 => ?_)
      have hV := hV v2 e_v2
      refine q_let (fun σ3 => q_G l cx M_PF_spoke 6 384 0 0 26 [] [.inr (.inr v2)] σ3 R) (q_new σ 9 0) (fun σ3 e_σ3 => ?_)
      have hV := hV σ3 e_σ3
      obtain ⟨s4, hV⟩ := hV
      exact q_athrow (q_dc k_PF_spoke 11 rfl) s4 (q_T.leave rfl hV))
  have hV := hV (by
      intro σ hV
      show q_G l cx M_PF_spoke 6 384 1 6 45 [] [] σ R
      obtain ⟨s1, hV⟩ := hV
      refine q_less (kc' := 0 + 1) (ks' := 0 + 6) (Nat.le_of_ble_eq_true rfl) (Nat.le_of_ble_eq_true rfl) ?_
      refine q_excIO hlf rfl (q_dc k_PF_spoke 22 rfl) (q_dc k_PF_spoke 23 rfl) (Or.inl ⟨(q_dc k_PF_spoke 24 rfl), rfl⟩) (List.mem_of_getElem? (i := 10) rfl) (q_dc k_PF_spoke 25 rfl) s1 ⟨Nat.le_of_ble_eq_true rfl, Nat.le_of_ble_eq_true rfl⟩ ?_
      refine q_let (fun v2 => q_G l cx M_PF_spoke 6 384 0 0 54 [] [.inr (.inr v2)] (q_new σ 9 0) R) (q_n σ) (fun v2 e_v2 => ?_)
      have hV := hV v2 e_v2
      refine q_let (fun σ3 => q_G l cx M_PF_spoke 6 384 0 0 54 [] [.inr (.inr v2)] σ3 R) (q_new σ 9 0) (fun σ3 e_σ3 => ?_)
      have hV := hV σ3 e_σ3
      obtain ⟨s4, hV⟩ := hV
      exact q_athrow (q_dc k_PF_spoke 26 rfl) s4 (q_T.leave rfl hV))
  have hV := hV (by
      intro y0 σ hV
      show q_G l cx M_PF_spoke 6 384 0 0 89 [] [.inl y0] σ R
      exact q_ireturn (q_dc k_PF_spoke 43 rfl) rfl hV)
  have hV := hV (by
      intro y0 σ hV
      show q_G l cx M_PF_spoke 6 384 0 0 110 [] [.inl y0] σ R
      exact q_ireturn (q_dc k_PF_spoke 54 rfl) rfl hV)
  refine q_run k_PF_spoke 0 1 1 rfl ?_
  show q_G l cx M_PF_spoke 6 384 1 6 1 [(0, .inr (.inr x0)), (1, .inl x1), (2, .inl x2), (3, .inl x3)] [.inl x1] σ R
  refine q_ifz (q_dc k_PF_spoke 1 rfl) rfl (fun h1 => ?_) (fun h1 => ?_)
  · have hV := hV.1 h1
    exact q_less (Nat.le_of_ble_eq_true rfl) (Nat.le_of_ble_eq_true rfl) (q_subk [] rfl hV)
  · have hV := hV.2 h1
    refine q_run k_PF_spoke 2 3 9 rfl ?_
    show q_K σ x0 = 1 ∧ q_G l cx M_PF_spoke 6 384 1 6 9 [(0, .inr (.inr x0)), (1, .inl x1), (2, .inl x2), (3, .inl x3)] [.inr (.inr (q_P σ x0 4)), .inl x1] σ R
    obtain ⟨s2, hV⟩ := hV
    refine ⟨s2, ?_⟩
    obtain ⟨s3, hV⟩ := hV
    refine q_callF (st := [.inl x1]) (as := []) (x := ⟨"java/util/List", "size", "()I"⟩) (t_AL_size (l := l) (cx := cx)  hV) (q_dc k_PF_spoke 5 rfl) (List.mem_of_getElem? (i := 172) (by decide +kernel)) w_AL_size n_AL_size (ci := 7) rfl (List.mem_of_getElem? (i := 173) (by decide +kernel)) (List.mem_of_getElem? (i := 0) rfl) (by decide) a_AL_size (q_wt (Nat.le_of_ble_eq_true rfl)) ⟨Nat.le_of_ble_eq_true rfl, Nat.le_of_ble_eq_true rfl⟩ s3 (fun v9 τ9 q9 => ?_) (fun n9 τ9 q9 => q_T.leave rfl q9)
    obtain ⟨v6, rfl, hV⟩ := q_ci_elim q9
    clear q9
    have hV := hV
    revert hV
    generalize τ9 = σ7
    intro hV
    show q_G l cx M_PF_spoke 6 384 1 6 14 [(0, .inr (.inr x0)), (1, .inl x1), (2, .inl x2), (3, .inl x3)] [.inl v6, .inl x1] σ7 R
    refine q_icmp (q_dc k_PF_spoke 6 rfl) rfl (fun h8 => ?_) (fun h8 => ?_)
    · have hV := hV.1 h8
      refine q_run k_PF_spoke 12 1 28 rfl ?_
      show q_G l cx M_PF_spoke 6 384 1 6 28 [(0, .inr (.inr x0)), (1, .inl x1), (2, .inl x2), (3, .inl x3)] [.inl x2] σ7 R
      refine q_ifz (q_dc k_PF_spoke 13 rfl) rfl (fun h9 => ?_) (fun h9 => ?_)
      · have hV := hV.1 h9
        exact q_less (Nat.le_of_ble_eq_true rfl) (Nat.le_of_ble_eq_true rfl) (q_subk [] rfl hV)
      · have hV := hV.2 h9
        refine q_run k_PF_spoke 14 2 33 rfl ?_
        show q_G l cx M_PF_spoke 6 384 1 6 33 [(0, .inr (.inr x0)), (1, .inl x1), (2, .inl x2), (3, .inl x3)] [.inl (4 : Int32), .inl x2] σ7 R
        refine q_icmp (q_dc k_PF_spoke 16 rfl) rfl (fun h10 => ?_) (fun h10 => ?_)
        · have hV := hV.1 h10
          exact q_less (Nat.le_of_ble_eq_true rfl) (Nat.le_of_ble_eq_true rfl) (q_subk [] rfl hV)
        · have hV := hV.2 h10
          refine q_run k_PF_spoke 17 1 37 rfl ?_
          show q_G l cx M_PF_spoke 6 384 1 6 37 [(0, .inr (.inr x0)), (1, .inl x1), (2, .inl x2), (3, .inl x3)] [.inl x3] σ7 R
          refine q_ifz (q_dc k_PF_spoke 18 rfl) rfl (fun h11 => ?_) (fun h11 => ?_)
          · have hV := hV.1 h11
            exact q_less (Nat.le_of_ble_eq_true rfl) (Nat.le_of_ble_eq_true rfl) (q_subk [] rfl hV)
          · have hV := hV.2 h11
            refine q_run k_PF_spoke 19 2 42 rfl ?_
            show q_G l cx M_PF_spoke 6 384 1 6 42 [(0, .inr (.inr x0)), (1, .inl x1), (2, .inl x2), (3, .inl x3)] [.inl (2 : Int32), .inl x3] σ7 R
            refine q_icmp (q_dc k_PF_spoke 21 rfl) rfl (fun h12 => ?_) (fun h12 => ?_)
            · have hV := hV.1 h12
              refine q_run k_PF_spoke 27 3 60 rfl ?_
              show q_K σ7 x0 = 1 ∧ q_G l cx M_PF_spoke 6 384 1 6 60 [(0, .inr (.inr x0)), (1, .inl x1), (2, .inl x2), (3, .inl x3)] [.inl x1, .inr (.inr (q_P σ7 x0 4))] σ7 R
              obtain ⟨s13, hV⟩ := hV
              refine ⟨s13, ?_⟩
              obtain ⟨s14, hV⟩ := hV
              refine q_callF (st := []) (as := [.inl x1]) (x := ⟨"java/util/List", "get", "(I)Ljava/lang/Object;"⟩) (t_AL_get (l := l) (cx := cx)  hV) (q_dc k_PF_spoke 30 rfl) (List.mem_of_getElem? (i := 176) (by decide +kernel)) w_AL_get n_AL_get (ci := 7) rfl (List.mem_of_getElem? (i := 177) (by decide +kernel)) (List.mem_of_getElem? (i := 1) rfl) (by decide) a_AL_get (q_wt (Nat.le_of_ble_eq_true rfl)) ⟨Nat.le_of_ble_eq_true rfl, Nat.le_of_ble_eq_true rfl⟩ s14 (fun v9 τ9 q9 => ?_) (fun n9 τ9 q9 => q_T.leave rfl q9)
              obtain ⟨v17, rfl, hV⟩ := q_cr_elim q9
              clear q9
              have hV := hV
              revert hV
              generalize τ9 = σ18
              intro hV
              show q_G l cx M_PF_spoke 6 384 1 6 65 [(0, .inr (.inr x0)), (1, .inl x1), (2, .inl x2), (3, .inl x3)] [.inr (.inr v17)] σ18 R
              obtain ⟨s19, hV⟩ := hV
              refine q_cast1 (ci := 4) (q_dc k_PF_spoke 31 rfl) rfl s19 (List.mem_of_getElem? (i := 5) rfl) (List.mem_of_getElem? (i := 213) (by decide +kernel)) ?_
              show q_G l cx M_PF_spoke 6 384 1 6 68 [(0, .inr (.inr x0)), (1, .inl x1), (2, .inl x2), (3, .inl x3)] [.inr (.inr v17)] σ18 R
              refine q_run k_PF_spoke 32 2 71 rfl ?_
              show q_G l cx M_PF_spoke 6 384 1 6 71 [(4, .inr (.inr v17)), (0, .inr (.inr x0)), (1, .inl x1), (2, .inl x2), (3, .inl x3)] [.inl x3] σ18 R
              refine q_ifz (q_dc k_PF_spoke 34 rfl) rfl (fun h20 => ?_) (fun h20 => ?_)
              · have hV := hV.1 h20
                refine q_run k_PF_spoke 44 2 92 rfl ?_
                show q_G l cx M_PF_spoke 6 384 1 6 92 [(4, .inr (.inr v17)), (0, .inr (.inr x0)), (1, .inl x1), (2, .inl x2), (3, .inl x3)] [.inl (1 : Int32), .inl x3] σ18 R
                refine q_icmp (q_dc k_PF_spoke 46 rfl) rfl (fun h21 => ?_) (fun h21 => ?_)
                · have hV := hV.1 h21
                  refine q_run k_PF_spoke 51 2 107 rfl ?_
                  show q_G l cx M_PF_spoke 6 384 1 6 107 [(4, .inr (.inr v17)), (0, .inr (.inr x0)), (1, .inl x1), (2, .inl x2), (3, .inl x3)] [.inl x2, .inr (.inr v17)] σ18 R
                  obtain ⟨s22, hV⟩ := hV
                  refine q_callV (st := []) (as := [.inl x2]) (t_PP_besideY (l := l) (cx := cx) (σ := σ18) v17 x2 s22) (q_dc k_PF_spoke 53 rfl) (Or.inr ⟨"PlaneFills", List.mem_of_getElem? (i := 23) (by decide +kernel)⟩) w_PP_besideY n_PP_besideY (ci := 4) rfl e_PP_besideY a_PP_besideY (q_wt (Nat.le_of_ble_eq_true rfl)) ⟨Nat.le_of_ble_eq_true rfl, Nat.le_of_ble_eq_true rfl⟩ s22 (fun v9 τ9 q9 => ?_) (fun n9 τ9 q9 => by cases q9.1)
                  obtain ⟨q8, q7⟩ := q9
                  cases q8
                  rw [q7]
                  show q_G l cx M_PF_spoke 6 384 1 6 110 [(4, .inr (.inr v17)), (0, .inr (.inr x0)), (1, .inl x1), (2, .inl x2), (3, .inl x3)] [.inl (f_PP_besideY σ18 v17 x2)] σ18 R
                  exact q_less (Nat.le_of_ble_eq_true rfl) (Nat.le_of_ble_eq_true rfl) (q_subk [] rfl hV)
                · have hV := hV.2 h21
                  refine q_run k_PF_spoke 47 2 98 rfl ?_
                  show q_G l cx M_PF_spoke 6 384 1 6 98 [(4, .inr (.inr v17)), (0, .inr (.inr x0)), (1, .inl x1), (2, .inl x2), (3, .inl x3)] [.inl x2, .inr (.inr v17)] σ18 R
                  obtain ⟨s23, hV⟩ := hV
                  refine q_callV (st := []) (as := [.inl x2]) (t_PP_besideX (l := l) (cx := cx) (σ := σ18) v17 x2 s23) (q_dc k_PF_spoke 49 rfl) (Or.inr ⟨"PlaneFills", List.mem_of_getElem? (i := 22) (by decide +kernel)⟩) w_PP_besideX n_PP_besideX (ci := 4) rfl e_PP_besideX a_PP_besideX (q_wt (Nat.le_of_ble_eq_true rfl)) ⟨Nat.le_of_ble_eq_true rfl, Nat.le_of_ble_eq_true rfl⟩ s23 (fun v9 τ9 q9 => ?_) (fun n9 τ9 q9 => by cases q9.1)
                  obtain ⟨q8, q7⟩ := q9
                  cases q8
                  rw [q7]
                  show q_G l cx M_PF_spoke 6 384 1 6 101 [(4, .inr (.inr v17)), (0, .inr (.inr x0)), (1, .inl x1), (2, .inl x2), (3, .inl x3)] [.inl (f_PP_besideX σ18 v17 x2)] σ18 R
                  refine q_goto (q_dc k_PF_spoke 50 rfl) rfl ?_
                  exact q_less (Nat.le_of_ble_eq_true rfl) (Nat.le_of_ble_eq_true rfl) (q_subk [] rfl hV)
              · have hV := hV.2 h20
                refine q_run k_PF_spoke 35 3 78 rfl ?_
                show q_G l cx M_PF_spoke 6 384 1 6 78 [(4, .inr (.inr v17)), (0, .inr (.inr x0)), (1, .inl x1), (2, .inl x2), (3, .inl x3)] [.inl x2, .inr (.inr v17), .inr (.inr x0)] σ18 R
                obtain ⟨s24, hV⟩ := hV
                refine q_callV (st := []) (as := [.inr (.inr v17), .inl x2]) (t_PF_spokeIsFilled (l := l) (cx := cx)  hV) (q_dc k_PF_spoke 38 rfl) (Or.inl (List.mem_of_getElem? (i := 826) (by decide +kernel))) w_PF_spokeIsFilled n_PF_spokeIsFilled (ci := 0) rfl e_PF_spokeIsFilled a_PF_spokeIsFilled (q_wt (Nat.le_of_ble_eq_true rfl)) ⟨Nat.le_of_ble_eq_true rfl, Nat.le_of_ble_eq_true rfl⟩ s24 (fun v9 τ9 q9 => ?_) (fun n9 τ9 q9 => q_T.leave rfl q9)
                obtain ⟨v27, rfl, hV⟩ := q_ci_elim q9
                clear q9
                have hV := hV
                revert hV
                generalize τ9 = σ28
                intro hV
                show q_G l cx M_PF_spoke 6 384 1 6 81 [(4, .inr (.inr v17)), (0, .inr (.inr x0)), (1, .inl x1), (2, .inl x2), (3, .inl x3)] [.inl v27] σ28 R
                refine q_ifz (q_dc k_PF_spoke 39 rfl) rfl (fun h29 => ?_) (fun h29 => ?_)
                · have hV := hV.1 h29
                  refine q_run k_PF_spoke 42 1 89 rfl ?_
                  show q_G l cx M_PF_spoke 6 384 1 6 89 [(4, .inr (.inr v17)), (0, .inr (.inr x0)), (1, .inl x1), (2, .inl x2), (3, .inl x3)] [.inl (0 : Int32)] σ28 R
                  exact q_less (Nat.le_of_ble_eq_true rfl) (Nat.le_of_ble_eq_true rfl) (q_subk [] rfl hV)
                · have hV := hV.2 h29
                  refine q_run k_PF_spoke 40 1 85 rfl ?_
                  show q_G l cx M_PF_spoke 6 384 1 6 85 [(4, .inr (.inr v17)), (0, .inr (.inr x0)), (1, .inl x1), (2, .inl x2), (3, .inl x3)] [.inl (1 : Int32)] σ28 R
                  refine q_goto (q_dc k_PF_spoke 41 rfl) rfl ?_
                  exact q_less (Nat.le_of_ble_eq_true rfl) (Nat.le_of_ble_eq_true rfl) (q_subk [] rfl hV)
            · have hV := hV.2 h12
              exact q_less (Nat.le_of_ble_eq_true rfl) (Nat.le_of_ble_eq_true rfl) (q_subk [] rfl hV)
    · have hV := hV.2 h8
      exact q_less (Nat.le_of_ble_eq_true rfl) (Nat.le_of_ble_eq_true rfl) (q_subk [] rfl hV)
def V_PF_stitch (x0 : Nat) (x1 : Int32) (x2 : Int64) (σ : q_S) (R : q_O → q_S → Prop) : Prop :=
  ∀ (P18 : q_S → Prop),
  ∀ (P46 : Nat → Int32 → Int32 → Int32 → Int32 → Int32 → q_S → Prop),
  (∀ (σ : q_S), (q_n σ < 10000000 ∧ ∀ v2 : Nat, v2 = q_n σ → ∀ σ3 : q_S, σ3 = q_new σ 10 0 → 0 < v2 ∧ R (.inr v2) σ3) → P18 σ) →
  (∀ (x0 : Nat) (x1 : Int32) (x4 : Int32) (x5 : Int32) (x6 : Int32) (x7 : Int32) (σ : q_S), ((((24 : Int32) ≤ x7 → R (.inl (some (.inl x6))) σ) ∧ (¬ ((24 : Int32) ≤ x7) → q_K σ x0 = 1 ∧ V_PF_onTwoLayers x0 x1 x7 σ (q_ci (fun v5 σ6 => ∀ v7 : Int32, v7 = x6 + (f_IN_bitCount (x5 &&& v5)) → ∀ v8 : Int32, v8 = x7 + x4 → P46 x0 x1 x4 x5 v7 v8 σ6) (fun n9 σ9 => R (.inr n9) σ9))))) → P46 x0 x1 x4 x5 x6 x7 σ) →
  V_PF_requireNet x1 σ (q_cv (fun σ4 => (((lg_cmp x2 (1 : Int64)) < (0 : Int32) → P18  σ4) ∧ (¬ ((lg_cmp x2 (1 : Int64)) < (0 : Int32)) → (((lg_cmp x2 (16 : Int64)) ≤ (0 : Int32) → ∀ v7 : Int32, v7 = x2.toInt32 → V_PF_columnsBelow v7 (1 : Int32) σ4 (q_ci (fun v10 σ11 => P46 x0 x1 v7 v10 (0 : Int32) (0 : Int32) σ11) (fun n9 σ9 => R (.inr n9) σ9))) ∧ (¬ ((lg_cmp x2 (16 : Int64)) ≤ (0 : Int32)) → P18  σ4))))) (fun n9 σ9 => R (.inr n9) σ9))
set_option maxRecDepth 100000 in
theorem t_PF_stitch {l : Launch} {cx : q_C} {x0 : Nat} {x1 : Int32} {x2 : Int64} {σ : q_S} {R : q_O → q_S → Prop} (hlf : l.flags = pinnedFlags ++ [noTraceFlag]) (hV : V_PF_stitch x0 x1 x2 σ R) : q_Ct l cx M_PF_stitch 7 448 2 12 [q_r x0, q_i x1, q_l x2] σ R := by
  refine q_Ct.of p_PF_stitch c_PF_stitch rfl (Nat.le_of_ble_eq_true rfl) ?_
  have hV := hV (fun (σ : q_S) => q_G l cx M_PF_stitch 7 448 1 6 18 [] [] σ R) (fun (x0 : Nat) (x1 : Int32) (x4 : Int32) (x5 : Int32) (x6 : Int32) (x7 : Int32) (σ : q_S) => q_G l cx M_PF_stitch 7 448 0 0 46 [(0, .inr (.inr x0)), (1, .inl x1), (4, .inl x4), (5, .inl x5), (6, .inl x6), (7, .inl x7)] [] σ R)
  have hV := hV (by
      intro σ hV
      show q_G l cx M_PF_stitch 7 448 1 6 18 [] [] σ R
      obtain ⟨s1, hV⟩ := hV
      refine q_less (kc' := 0 + 1) (ks' := 0 + 6) (Nat.le_of_ble_eq_true rfl) (Nat.le_of_ble_eq_true rfl) ?_
      refine q_excIA hlf rfl (q_dc k_PF_stitch 10 rfl) (q_dc k_PF_stitch 11 rfl) (Or.inl ⟨(q_dc k_PF_stitch 12 rfl), rfl⟩) (List.mem_of_getElem? (i := 11) rfl) (q_dc k_PF_stitch 13 rfl) s1 ⟨Nat.le_of_ble_eq_true rfl, Nat.le_of_ble_eq_true rfl⟩ ?_
      refine q_let (fun v2 => q_G l cx M_PF_stitch 7 448 0 0 27 [] [.inr (.inr v2)] (q_new σ 10 0) R) (q_n σ) (fun v2 e_v2 => ?_)
      have hV := hV v2 e_v2
      refine q_let (fun σ3 => q_G l cx M_PF_stitch 7 448 0 0 27 [] [.inr (.inr v2)] σ3 R) (q_new σ 10 0) (fun σ3 e_σ3 => ?_)
      have hV := hV σ3 e_σ3
      obtain ⟨s4, hV⟩ := hV
      exact q_athrow (q_dc k_PF_stitch 14 rfl) s4 (q_T.leave rfl hV))
  have hV := hV (by
      intro x0 x1 x4 x5 x6 x7 σ hV
      show q_G l cx M_PF_stitch 7 448 0 0 46 [(0, .inr (.inr x0)), (1, .inl x1), (4, .inl x4), (5, .inl x5), (6, .inl x6), (7, .inl x7)] [] σ R
      refine q_run k_PF_stitch 26 2 50 rfl ?_
      show q_G l cx M_PF_stitch 7 448 0 0 50 [(0, .inr (.inr x0)), (1, .inl x1), (4, .inl x4), (5, .inl x5), (6, .inl x6), (7, .inl x7)] [.inl (24 : Int32), .inl x7] σ R
      refine q_icmp (q_dc k_PF_stitch 28 rfl) rfl (fun h1 => ?_) (fun h1 => ?_)
      · have hV := hV.1 h1
        refine q_run k_PF_stitch 44 1 83 rfl ?_
        show q_G l cx M_PF_stitch 7 448 0 0 83 [(0, .inr (.inr x0)), (1, .inl x1), (4, .inl x4), (5, .inl x5), (6, .inl x6), (7, .inl x7)] [.inl x6] σ R
        exact q_ireturn (q_dc k_PF_stitch 45 rfl) rfl hV
      · have hV := hV.2 h1
        refine q_run k_PF_stitch 29 5 61 rfl ?_
        show q_G l cx M_PF_stitch 7 448 0 0 61 [(0, .inr (.inr x0)), (1, .inl x1), (4, .inl x4), (5, .inl x5), (6, .inl x6), (7, .inl x7)] [.inl x7, .inl x1, .inr (.inr x0), .inl x5, .inl x6] σ R
        obtain ⟨s2, hV⟩ := hV
        refine q_callV (st := [.inl x5, .inl x6]) (as := [.inl x1, .inl x7]) (t_PF_onTwoLayers (l := l) (cx := cx)  hV) (q_dc k_PF_stitch 34 rfl) (Or.inl (List.mem_of_getElem? (i := 846) (by decide +kernel))) w_PF_onTwoLayers n_PF_onTwoLayers (ci := 0) rfl e_PF_onTwoLayers a_PF_onTwoLayers (q_wt (Nat.le_of_ble_eq_true rfl)) ⟨Nat.le_of_ble_eq_true rfl, Nat.le_of_ble_eq_true rfl⟩ s2 (fun v9 τ9 q9 => ?_) (fun n9 τ9 q9 => q_T.leave rfl q9)
        obtain ⟨v5, rfl, hV⟩ := q_ci_elim q9
        clear q9
        have hV := hV
        revert hV
        generalize τ9 = σ6
        intro hV
        show q_G l cx M_PF_stitch 7 448 0 0 64 [(0, .inr (.inr x0)), (1, .inl x1), (4, .inl x4), (5, .inl x5), (6, .inl x6), (7, .inl x7)] [.inl v5, .inl x5, .inl x6] σ6 R
        refine q_run k_PF_stitch 35 1 65 rfl ?_
        show q_G l cx M_PF_stitch 7 448 0 0 65 [(0, .inr (.inr x0)), (1, .inl x1), (4, .inl x4), (5, .inl x5), (6, .inl x6), (7, .inl x7)] [.inl (x5 &&& v5), .inl x6] σ6 R
        refine q_callS (st := [.inl x6]) (t_IN_bitCount (l := l) (cx := cx) (σ := σ6) (x5 &&& v5)) (q_dc k_PF_stitch 36 rfl) (Or.inl (List.mem_of_getElem? (i := 801) (by decide +kernel))) w_IN_bitCount s_IN_bitCount a_IN_bitCount (q_wt (Nat.le_of_ble_eq_true rfl)) ⟨Nat.le_of_ble_eq_true rfl, Nat.le_of_ble_eq_true rfl⟩ (fun v9 τ9 q9 => ?_) (fun n9 τ9 q9 => by cases q9.1)
        obtain ⟨q8, q7⟩ := q9
        cases q8
        rw [q7]
        show q_G l cx M_PF_stitch 7 448 0 0 68 [(0, .inr (.inr x0)), (1, .inl x1), (4, .inl x4), (5, .inl x5), (6, .inl x6), (7, .inl x7)] [.inl (f_IN_bitCount (x5 &&& v5)), .inl x6] σ6 R
        refine q_run k_PF_stitch 37 2 71 rfl ?_
        show q_G l cx M_PF_stitch 7 448 0 0 71 [(6, .inl (x6 + (f_IN_bitCount (x5 &&& v5)))), (0, .inr (.inr x0)), (1, .inl x1), (4, .inl x4), (5, .inl x5), (7, .inl x7)] [] σ6 R
        refine q_let (fun v7 => q_G l cx M_PF_stitch 7 448 0 0 71 [(6, .inl v7), (0, .inr (.inr x0)), (1, .inl x1), (4, .inl x4), (5, .inl x5), (7, .inl x7)] [] σ6 R) (x6 + (f_IN_bitCount (x5 &&& v5))) (fun v7 e_v7 => ?_)
        have hV := hV v7 e_v7
        refine q_run k_PF_stitch 39 4 78 rfl ?_
        show q_G l cx M_PF_stitch 7 448 0 0 78 [(7, .inl (x7 + x4)), (6, .inl v7), (0, .inr (.inr x0)), (1, .inl x1), (4, .inl x4), (5, .inl x5)] [] σ6 R
        refine q_let (fun v8 => q_G l cx M_PF_stitch 7 448 0 0 78 [(7, .inl v8), (6, .inl v7), (0, .inr (.inr x0)), (1, .inl x1), (4, .inl x4), (5, .inl x5)] [] σ6 R) (x7 + x4) (fun v8 e_v8 => ?_)
        have hV := hV v8 e_v8
        refine q_goto (q_dc k_PF_stitch 43 rfl) rfl ?_
        exact q_less (Nat.le_of_ble_eq_true rfl) (Nat.le_of_ble_eq_true rfl) (q_subk [2, 3, 4, 5, 1, 0] rfl hV))
  refine q_run k_PF_stitch 0 1 1 rfl ?_
  show q_G l cx M_PF_stitch 7 448 2 12 1 [(0, .inr (.inr x0)), (1, .inl x1), (2, .inr (.inl x2))] [.inl x1] σ R
  refine q_less (kc' := 1 + 1) (ks' := 6 + 6) (Nat.le_of_ble_eq_true rfl) (Nat.le_of_ble_eq_true rfl) ?_
  refine q_callS (st := []) (t_PF_requireNet (l := l) (cx := cx) hlf hV) (q_dc k_PF_stitch 1 rfl) (Or.inl (List.mem_of_getElem? (i := 354) (by decide +kernel))) w_PF_requireNet s_PF_requireNet a_PF_requireNet (q_wt (Nat.le_of_ble_eq_true rfl)) ⟨Nat.le_of_ble_eq_true rfl, Nat.le_of_ble_eq_true rfl⟩ (fun v9 τ9 q9 => ?_) (fun n9 τ9 q9 => q_T.leave rfl q9)
  obtain ⟨rfl, hV⟩ := q_cv_elim q9
  clear q9
  have hV := hV
  revert hV
  generalize τ9 = σ4
  intro hV
  show q_G l cx M_PF_stitch 7 448 1 6 4 [(0, .inr (.inr x0)), (1, .inl x1), (2, .inr (.inl x2))] [] σ4 R
  refine q_run k_PF_stitch 2 3 7 rfl ?_
  show q_G l cx M_PF_stitch 7 448 1 6 7 [(0, .inr (.inr x0)), (1, .inl x1), (2, .inr (.inl x2))] [.inl (lg_cmp x2 (1 : Int64))] σ4 R
  refine q_ifz (q_dc k_PF_stitch 5 rfl) rfl (fun h5 => ?_) (fun h5 => ?_)
  · have hV := hV.1 h5
    exact q_less (Nat.le_of_ble_eq_true rfl) (Nat.le_of_ble_eq_true rfl) (q_subk [] rfl hV)
  · have hV := hV.2 h5
    refine q_run k_PF_stitch 6 3 15 rfl ?_
    show q_G l cx M_PF_stitch 7 448 1 6 15 [(0, .inr (.inr x0)), (1, .inl x1), (2, .inr (.inl x2))] [.inl (lg_cmp x2 (16 : Int64))] σ4 R
    refine q_ifz (q_dc k_PF_stitch 9 rfl) rfl (fun h6 => ?_) (fun h6 => ?_)
    · have hV := hV.1 h6
      refine q_run k_PF_stitch 15 3 32 rfl ?_
      show q_G l cx M_PF_stitch 7 448 1 6 32 [(4, .inl x2.toInt32), (0, .inr (.inr x0)), (1, .inl x1), (2, .inr (.inl x2))] [] σ4 R
      refine q_let (fun v7 => q_G l cx M_PF_stitch 7 448 1 6 32 [(4, .inl v7), (0, .inr (.inr x0)), (1, .inl x1), (2, .inr (.inl x2))] [] σ4 R) (x2.toInt32) (fun v7 e_v7 => ?_)
      have hV := hV v7 e_v7
      refine q_run k_PF_stitch 18 2 35 rfl ?_
      show q_G l cx M_PF_stitch 7 448 1 6 35 [(4, .inl v7), (0, .inr (.inr x0)), (1, .inl x1), (2, .inr (.inl x2))] [.inl (1 : Int32), .inl v7] σ4 R
      refine q_callS (st := []) (t_PF_columnsBelow (l := l) (cx := cx)  hV) (q_dc k_PF_stitch 20 rfl) (Or.inl (List.mem_of_getElem? (i := 241) (by decide +kernel))) w_PF_columnsBelow s_PF_columnsBelow a_PF_columnsBelow (q_wt (Nat.le_of_ble_eq_true rfl)) ⟨Nat.le_of_ble_eq_true rfl, Nat.le_of_ble_eq_true rfl⟩ (fun v9 τ9 q9 => ?_) (fun n9 τ9 q9 => q_T.leave rfl q9)
      obtain ⟨v10, rfl, hV⟩ := q_ci_elim q9
      clear q9
      have hV := hV
      revert hV
      generalize τ9 = σ11
      intro hV
      show q_G l cx M_PF_stitch 7 448 1 6 38 [(4, .inl v7), (0, .inr (.inr x0)), (1, .inl x1), (2, .inr (.inl x2))] [.inl v10] σ11 R
      refine q_run k_PF_stitch 21 5 46 rfl ?_
      show q_G l cx M_PF_stitch 7 448 1 6 46 [(7, .inl (0 : Int32)), (6, .inl (0 : Int32)), (5, .inl v10), (4, .inl v7), (0, .inr (.inr x0)), (1, .inl x1), (2, .inr (.inl x2))] [] σ11 R
      exact q_less (Nat.le_of_ble_eq_true rfl) (Nat.le_of_ble_eq_true rfl) (q_subk [4, 5, 3, 2, 1, 0] rfl hV)
    · have hV := hV.2 h6
      exact q_less (Nat.le_of_ble_eq_true rfl) (Nat.le_of_ble_eq_true rfl) (q_subk [] rfl hV)
def V_PF_hatch (x0 : Nat) (x1 : Int32) (x2 : Int64) (x4 : Int64) (σ : q_S) (R : q_O → q_S → Prop) : Prop :=
  ∀ (P35 : q_S → Prop),
  ∀ (P68 : Int64 → Int64 → Nat → q_S → Prop),
  ∀ (P73 : Int64 → Int64 → Nat → Int32 → q_S → Prop),
  (∀ (σ : q_S), (q_n σ < 10000000 ∧ ∀ v2 : Nat, v2 = q_n σ → ∀ σ3 : q_S, σ3 = q_new σ 10 0 → 0 < v2 ∧ R (.inr v2) σ3) → P35 σ) →
  (∀ (x2 : Int64) (x4 : Int64) (x6 : Nat) (σ : q_S), (P73 x2 x4 x6 (1 : Int32) σ) → P68 x2 x4 x6 σ) →
  (∀ (x2 : Int64) (x4 : Int64) (x6 : Nat) (y0 : Int32) (σ : q_S), (q_K σ x6 = 6 ∧ ∀ σ1 : q_S, σ1 = q_wI σ x6 8 x2.toInt32 → q_K σ1 x6 = 6 ∧ ∀ σ3 : q_S, σ3 = q_wI σ1 x6 9 x4.toInt32 → ((y0 = 0 ∨ y0 = 1) ∧ R (.inl (some (.inl y0))) σ3)) → P73 x2 x4 x6 y0 σ) →
  q_K σ x0 = 1 ∧ V_PF_knownPlane x0 x1 σ (q_cr (fun v4 σ5 => (((lg_cmp x2 (0 : Int64)) < (0 : Int32) → P35  σ5) ∧ (¬ ((lg_cmp x2 (0 : Int64)) < (0 : Int32)) → (((0 : Int32) < (lg_cmp x2 (16 : Int64)) → P35  σ5) ∧ (¬ ((0 : Int32) < (lg_cmp x2 (16 : Int64))) → (((lg_cmp x4 (0 : Int64)) < (0 : Int32) → P35  σ5) ∧ (¬ ((lg_cmp x4 (0 : Int64)) < (0 : Int32)) → (((lg_cmp x4 x2) ≤ (0 : Int32) → q_K σ5 v4 = 6 ∧ ((¬ (lg_cmp ((q_I σ5 v4 8).toInt64) x2) = (0 : Int32) → P68 x2 x4 v4 σ5) ∧ (¬ (¬ (lg_cmp ((q_I σ5 v4 8).toInt64) x2) = (0 : Int32)) → q_K σ5 v4 = 6 ∧ (((lg_cmp ((q_I σ5 v4 9).toInt64) x4) = (0 : Int32) → P73 x2 x4 v4 (0 : Int32) σ5) ∧ (¬ ((lg_cmp ((q_I σ5 v4 9).toInt64) x4) = (0 : Int32)) → P68 x2 x4 v4 σ5))))) ∧ (¬ ((lg_cmp x4 x2) ≤ (0 : Int32)) → P35  σ5))))))))) (fun n9 σ9 => R (.inr n9) σ9))
set_option maxRecDepth 100000 in
theorem t_PF_hatch {l : Launch} {cx : q_C} {x0 : Nat} {x1 : Int32} {x2 : Int64} {x4 : Int64} {σ : q_S} {R : q_O → q_S → Prop} (hlf : l.flags = pinnedFlags ++ [noTraceFlag]) (hV : V_PF_hatch x0 x1 x2 x4 σ R) : q_Ct l cx M_PF_hatch 7 448 2 12 [q_r x0, q_i x1, q_l x2, q_l x4] σ R := by
  refine q_Ct.of p_PF_hatch c_PF_hatch rfl (Nat.le_of_ble_eq_true rfl) ?_
  have hV := hV (fun (σ : q_S) => q_G l cx M_PF_hatch 7 448 1 6 35 [] [] σ R) (fun (x2 : Int64) (x4 : Int64) (x6 : Nat) (σ : q_S) => q_G l cx M_PF_hatch 7 448 0 0 68 [(2, .inr (.inl x2)), (4, .inr (.inl x4)), (6, .inr (.inr x6))] [] σ R) (fun (x2 : Int64) (x4 : Int64) (x6 : Nat) (y0 : Int32) (σ : q_S) => q_G l cx M_PF_hatch 7 448 0 0 73 [(2, .inr (.inl x2)), (4, .inr (.inl x4)), (6, .inr (.inr x6))] [.inl y0] σ R)
  have hV := hV (by
      intro σ hV
      show q_G l cx M_PF_hatch 7 448 1 6 35 [] [] σ R
      obtain ⟨s1, hV⟩ := hV
      refine q_less (kc' := 0 + 1) (ks' := 0 + 6) (Nat.le_of_ble_eq_true rfl) (Nat.le_of_ble_eq_true rfl) ?_
      refine q_excIA hlf rfl (q_dc k_PF_hatch 20 rfl) (q_dc k_PF_hatch 21 rfl) (Or.inl ⟨(q_dc k_PF_hatch 22 rfl), rfl⟩) (List.mem_of_getElem? (i := 12) rfl) (q_dc k_PF_hatch 23 rfl) s1 ⟨Nat.le_of_ble_eq_true rfl, Nat.le_of_ble_eq_true rfl⟩ ?_
      refine q_let (fun v2 => q_G l cx M_PF_hatch 7 448 0 0 44 [] [.inr (.inr v2)] (q_new σ 10 0) R) (q_n σ) (fun v2 e_v2 => ?_)
      have hV := hV v2 e_v2
      refine q_let (fun σ3 => q_G l cx M_PF_hatch 7 448 0 0 44 [] [.inr (.inr v2)] σ3 R) (q_new σ 10 0) (fun σ3 e_σ3 => ?_)
      have hV := hV σ3 e_σ3
      obtain ⟨s4, hV⟩ := hV
      exact q_athrow (q_dc k_PF_hatch 24 rfl) s4 (q_T.leave rfl hV))
  have hV := hV (by
      intro x2 x4 x6 σ hV
      show q_G l cx M_PF_hatch 7 448 0 0 68 [(2, .inr (.inl x2)), (4, .inr (.inl x4)), (6, .inr (.inr x6))] [] σ R
      refine q_run k_PF_hatch 37 1 69 rfl ?_
      show q_G l cx M_PF_hatch 7 448 0 0 69 [(2, .inr (.inl x2)), (4, .inr (.inl x4)), (6, .inr (.inr x6))] [.inl (1 : Int32)] σ R
      refine q_goto (q_dc k_PF_hatch 38 rfl) rfl ?_
      exact q_less (Nat.le_of_ble_eq_true rfl) (Nat.le_of_ble_eq_true rfl) (q_subk [0, 1, 2] rfl hV))
  have hV := hV (by
      intro x2 x4 x6 y0 σ hV
      show q_G l cx M_PF_hatch 7 448 0 0 73 [(2, .inr (.inl x2)), (4, .inr (.inl x4)), (6, .inr (.inr x6))] [.inl y0] σ R
      refine q_run k_PF_hatch 40 5 82 rfl ?_
      show q_K σ x6 = 6 ∧ q_G l cx M_PF_hatch 7 448 0 0 82 [(7, .inl y0), (2, .inr (.inl x2)), (4, .inr (.inl x4)), (6, .inr (.inr x6))] [] (q_wI σ x6 8 x2.toInt32) R
      obtain ⟨s2, hV⟩ := hV
      refine ⟨s2, ?_⟩
      refine q_let (fun σ1 => q_G l cx M_PF_hatch 7 448 0 0 82 [(7, .inl y0), (2, .inr (.inl x2)), (4, .inr (.inl x4)), (6, .inr (.inr x6))] [] σ1 R) (q_wI σ x6 8 x2.toInt32) (fun σ1 e_σ1 => ?_)
      have hV := hV σ1 e_σ1
      refine q_run k_PF_hatch 45 4 90 rfl ?_
      show q_K σ1 x6 = 6 ∧ q_G l cx M_PF_hatch 7 448 0 0 90 [(7, .inl y0), (2, .inr (.inl x2)), (4, .inr (.inl x4)), (6, .inr (.inr x6))] [] (q_wI σ1 x6 9 x4.toInt32) R
      obtain ⟨s4, hV⟩ := hV
      refine ⟨s4, ?_⟩
      refine q_let (fun σ3 => q_G l cx M_PF_hatch 7 448 0 0 90 [(7, .inl y0), (2, .inr (.inl x2)), (4, .inr (.inl x4)), (6, .inr (.inr x6))] [] σ3 R) (q_wI σ1 x6 9 x4.toInt32) (fun σ3 e_σ3 => ?_)
      have hV := hV σ3 e_σ3
      refine q_run k_PF_hatch 49 1 92 rfl ?_
      show q_G l cx M_PF_hatch 7 448 0 0 92 [(7, .inl y0), (2, .inr (.inl x2)), (4, .inr (.inl x4)), (6, .inr (.inr x6))] [.inl y0] σ3 R
      exact q_zreturn (q_dc k_PF_hatch 50 rfl) rfl hV.1 hV.2)
  refine q_run k_PF_hatch 0 2 2 rfl ?_
  show q_G l cx M_PF_hatch 7 448 2 12 2 [(0, .inr (.inr x0)), (1, .inl x1), (2, .inr (.inl x2)), (4, .inr (.inl x4))] [.inl x1, .inr (.inr x0)] σ R
  obtain ⟨s1, hV⟩ := hV
  refine q_less (kc' := 1 + 1) (ks' := 6 + 6) (Nat.le_of_ble_eq_true rfl) (Nat.le_of_ble_eq_true rfl) ?_
  refine q_callV (st := []) (as := [.inl x1]) (t_PF_knownPlane (l := l) (cx := cx) hlf hV) (q_dc k_PF_hatch 2 rfl) (Or.inl (List.mem_of_getElem? (i := 686) (by decide +kernel))) w_PF_knownPlane n_PF_knownPlane (ci := 0) rfl e_PF_knownPlane a_PF_knownPlane (q_wt (Nat.le_of_ble_eq_true rfl)) ⟨Nat.le_of_ble_eq_true rfl, Nat.le_of_ble_eq_true rfl⟩ s1 (fun v9 τ9 q9 => ?_) (fun n9 τ9 q9 => q_T.leave rfl q9)
  obtain ⟨v4, rfl, hV⟩ := q_cr_elim q9
  clear q9
  have hV := hV
  revert hV
  generalize τ9 = σ5
  intro hV
  show q_G l cx M_PF_hatch 7 448 1 6 5 [(0, .inr (.inr x0)), (1, .inl x1), (2, .inr (.inl x2)), (4, .inr (.inl x4))] [.inr (.inr v4)] σ5 R
  refine q_run k_PF_hatch 3 4 10 rfl ?_
  show q_G l cx M_PF_hatch 7 448 1 6 10 [(6, .inr (.inr v4)), (0, .inr (.inr x0)), (1, .inl x1), (2, .inr (.inl x2)), (4, .inr (.inl x4))] [.inl (lg_cmp x2 (0 : Int64))] σ5 R
  refine q_ifz (q_dc k_PF_hatch 7 rfl) rfl (fun h6 => ?_) (fun h6 => ?_)
  · have hV := hV.1 h6
    exact q_less (Nat.le_of_ble_eq_true rfl) (Nat.le_of_ble_eq_true rfl) (q_subk [] rfl hV)
  · have hV := hV.2 h6
    refine q_run k_PF_hatch 8 3 18 rfl ?_
    show q_G l cx M_PF_hatch 7 448 1 6 18 [(6, .inr (.inr v4)), (0, .inr (.inr x0)), (1, .inl x1), (2, .inr (.inl x2)), (4, .inr (.inl x4))] [.inl (lg_cmp x2 (16 : Int64))] σ5 R
    refine q_ifz (q_dc k_PF_hatch 11 rfl) rfl (fun h7 => ?_) (fun h7 => ?_)
    · have hV := hV.1 h7
      exact q_less (Nat.le_of_ble_eq_true rfl) (Nat.le_of_ble_eq_true rfl) (q_subk [] rfl hV)
    · have hV := hV.2 h7
      refine q_run k_PF_hatch 12 3 25 rfl ?_
      show q_G l cx M_PF_hatch 7 448 1 6 25 [(6, .inr (.inr v4)), (0, .inr (.inr x0)), (1, .inl x1), (2, .inr (.inl x2)), (4, .inr (.inl x4))] [.inl (lg_cmp x4 (0 : Int64))] σ5 R
      refine q_ifz (q_dc k_PF_hatch 15 rfl) rfl (fun h8 => ?_) (fun h8 => ?_)
      · have hV := hV.1 h8
        exact q_less (Nat.le_of_ble_eq_true rfl) (Nat.le_of_ble_eq_true rfl) (q_subk [] rfl hV)
      · have hV := hV.2 h8
        refine q_run k_PF_hatch 16 3 32 rfl ?_
        show q_G l cx M_PF_hatch 7 448 1 6 32 [(6, .inr (.inr v4)), (0, .inr (.inr x0)), (1, .inl x1), (2, .inr (.inl x2)), (4, .inr (.inl x4))] [.inl (lg_cmp x4 x2)] σ5 R
        refine q_ifz (q_dc k_PF_hatch 19 rfl) rfl (fun h9 => ?_) (fun h9 => ?_)
        · have hV := hV.1 h9
          refine q_run k_PF_hatch 25 5 53 rfl ?_
          show q_K σ5 v4 = 6 ∧ q_G l cx M_PF_hatch 7 448 1 6 53 [(6, .inr (.inr v4)), (0, .inr (.inr x0)), (1, .inl x1), (2, .inr (.inl x2)), (4, .inr (.inl x4))] [.inl (lg_cmp ((q_I σ5 v4 8).toInt64) x2)] σ5 R
          obtain ⟨s10, hV⟩ := hV
          refine ⟨s10, ?_⟩
          refine q_ifz (q_dc k_PF_hatch 30 rfl) rfl (fun h11 => ?_) (fun h11 => ?_)
          · have hV := hV.1 h11
            exact q_less (Nat.le_of_ble_eq_true rfl) (Nat.le_of_ble_eq_true rfl) (q_subk [3, 4, 0] rfl hV)
          · have hV := hV.2 h11
            refine q_run k_PF_hatch 31 5 65 rfl ?_
            show q_K σ5 v4 = 6 ∧ q_G l cx M_PF_hatch 7 448 1 6 65 [(6, .inr (.inr v4)), (0, .inr (.inr x0)), (1, .inl x1), (2, .inr (.inl x2)), (4, .inr (.inl x4))] [.inl (lg_cmp ((q_I σ5 v4 9).toInt64) x4)] σ5 R
            obtain ⟨s12, hV⟩ := hV
            refine ⟨s12, ?_⟩
            refine q_ifz (q_dc k_PF_hatch 36 rfl) rfl (fun h13 => ?_) (fun h13 => ?_)
            · have hV := hV.1 h13
              refine q_run k_PF_hatch 39 1 73 rfl ?_
              show q_G l cx M_PF_hatch 7 448 1 6 73 [(6, .inr (.inr v4)), (0, .inr (.inr x0)), (1, .inl x1), (2, .inr (.inl x2)), (4, .inr (.inl x4))] [.inl (0 : Int32)] σ5 R
              exact q_less (Nat.le_of_ble_eq_true rfl) (Nat.le_of_ble_eq_true rfl) (q_subk [3, 4, 0] rfl hV)
            · have hV := hV.2 h13
              exact q_less (Nat.le_of_ble_eq_true rfl) (Nat.le_of_ble_eq_true rfl) (q_subk [3, 4, 0] rfl hV)
        · have hV := hV.2 h9
          exact q_less (Nat.le_of_ble_eq_true rfl) (Nat.le_of_ble_eq_true rfl) (q_subk [] rfl hV)
def V_PF_narrow (x0 : Nat) (x1 : Int32) (σ : q_S) (R : q_O → q_S → Prop) : Prop :=
  q_K σ x0 = 1 ∧ V_PF_knownPlane x0 x1 σ (q_cr (fun v4 σ5 => q_K σ5 v4 = 6 ∧ q_K σ5 (q_P σ5 v4 10) = 2 ∧ (((q_I σ5 (q_P σ5 v4 10) 3) = 0 ∨ (q_I σ5 (q_P σ5 v4 10) 3) = 1) ∧ R (.inl (some (.inl (q_I σ5 (q_P σ5 v4 10) 3)))) σ5)) (fun n9 σ9 => R (.inr n9) σ9))
set_option maxRecDepth 100000 in
theorem t_PF_narrow {l : Launch} {cx : q_C} {x0 : Nat} {x1 : Int32} {σ : q_S} {R : q_O → q_S → Prop} (hlf : l.flags = pinnedFlags ++ [noTraceFlag]) (hV : V_PF_narrow x0 x1 σ R) : q_Ct l cx M_PF_narrow 7 448 1 6 [q_r x0, q_i x1] σ R := by
  refine q_Ct.of p_PF_narrow c_PF_narrow rfl (Nat.le_of_ble_eq_true rfl) ?_
  refine q_run k_PF_narrow 0 2 2 rfl ?_
  show q_G l cx M_PF_narrow 7 448 1 6 2 [(0, .inr (.inr x0)), (1, .inl x1)] [.inl x1, .inr (.inr x0)] σ R
  obtain ⟨s1, hV⟩ := hV
  refine q_less (kc' := 0 + 1) (ks' := 0 + 6) (Nat.le_of_ble_eq_true rfl) (Nat.le_of_ble_eq_true rfl) ?_
  refine q_callV (st := []) (as := [.inl x1]) (t_PF_knownPlane (l := l) (cx := cx) hlf hV) (q_dc k_PF_narrow 2 rfl) (Or.inl (List.mem_of_getElem? (i := 686) (by decide +kernel))) w_PF_knownPlane n_PF_knownPlane (ci := 0) rfl e_PF_knownPlane a_PF_knownPlane (q_wt (Nat.le_of_ble_eq_true rfl)) ⟨Nat.le_of_ble_eq_true rfl, Nat.le_of_ble_eq_true rfl⟩ s1 (fun v9 τ9 q9 => ?_) (fun n9 τ9 q9 => q_T.leave rfl q9)
  obtain ⟨v4, rfl, hV⟩ := q_cr_elim q9
  clear q9
  have hV := hV
  revert hV
  generalize τ9 = σ5
  intro hV
  show q_G l cx M_PF_narrow 7 448 0 0 5 [(0, .inr (.inr x0)), (1, .inl x1)] [.inr (.inr v4)] σ5 R
  refine q_run k_PF_narrow 3 2 11 rfl ?_
  show q_K σ5 v4 = 6 ∧ q_K σ5 (q_P σ5 v4 10) = 2 ∧ q_G l cx M_PF_narrow 7 448 0 0 11 [(0, .inr (.inr x0)), (1, .inl x1)] [.inl (q_I σ5 (q_P σ5 v4 10) 3)] σ5 R
  obtain ⟨s6, s7, hV⟩ := hV
  refine ⟨s6, s7, ?_⟩
  exact q_zreturn (q_dc k_PF_narrow 5 rfl) rfl hV.1 hV.2
