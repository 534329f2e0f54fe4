/-! WHAT METHODS ASK, further (by program) -/
def V_AS_newLength (x0 : Int32) (x1 : Int32) (x2 : Int32) (σ : q_S) (R : q_O → q_S → Prop) : Prop :=
  ∀ (P21 : Int32 → Int32 → q_S → Prop),
  (∀ (x0 : Int32) (x1 : Int32) (σ : q_S), (False) → P21 x0 x1 σ) →
  ∀ v1 : Int32, v1 = x0 + (f_MT_max x1 x2) → ((v1 ≤ (0 : Int32) → P21 x0 x1 σ) ∧ (¬ (v1 ≤ (0 : Int32)) → (((2147483639 : Int32) < v1 → P21 x0 x1 σ) ∧ (¬ ((2147483639 : Int32) < v1) → R (.inl (some (.inl v1))) σ))))
set_option maxRecDepth 100000 in
theorem t_AS_newLength {l : Launch} {cx : q_C} {x0 : Int32} {x1 : Int32} {x2 : Int32} {σ : q_S} {R : q_O → q_S → Prop} (hV : V_AS_newLength x0 x1 x2 σ R) : q_Ct l cx M_AS_newLength 1 64 0 0 [q_i x0, q_i x1, q_i x2] σ R := by
  refine q_Ct.of p_AS_newLength c_AS_newLength rfl (Nat.le_of_ble_eq_true rfl) ?_
  have hV := hV (fun (x0 : Int32) (x1 : Int32) (σ : q_S) => q_G l cx M_AS_newLength 1 64 0 0 21 [(0, .inl x0), (1, .inl x1)] [] σ R)
  have hV := hV (by
      intro x0 x1 σ hV
      show q_G l cx M_AS_newLength 1 64 0 0 21 [(0, .inl x0), (1, .inl x1)] [] σ R
      refine q_run k_AS_newLength 14 2 23 rfl ?_
      show q_G l cx M_AS_newLength 1 64 0 0 23 [(0, .inl x0), (1, .inl x1)] [.inl x1, .inl x0] σ R
      exact False.elim hV)
  refine q_run k_AS_newLength 0 3 3 rfl ?_
  show q_G l cx M_AS_newLength 1 64 0 0 3 [(0, .inl x0), (1, .inl x1), (2, .inl x2)] [.inl x2, .inl x1, .inl x0] σ R
  refine q_callS (st := [.inl x0]) (t_MT_max (l := l) (cx := cx) (σ := σ) x1 x2) (q_dc k_AS_newLength 3 rfl) (Or.inl (List.mem_of_getElem? (i := 467) (by decide +kernel))) w_MT_max s_MT_max a_MT_max (q_wt (Nat.le_of_ble_eq_true rfl)) ⟨Nat.le_of_ble_eq_true rfl, Nat.le_of_ble_eq_true rfl⟩ (fun v9 τ9 q9 => ?_) (fun n9 τ9 q9 => by cases q9.1)
  obtain ⟨q8, q7⟩ := q9
  cases q8
  rw [q7]
  show q_G l cx M_AS_newLength 1 64 0 0 6 [(0, .inl x0), (1, .inl x1), (2, .inl x2)] [.inl (f_MT_max x1 x2), .inl x0] σ R
  refine q_run k_AS_newLength 4 2 8 rfl ?_
  show q_G l cx M_AS_newLength 1 64 0 0 8 [(3, .inl (x0 + (f_MT_max x1 x2))), (0, .inl x0), (1, .inl x1), (2, .inl x2)] [] σ R
  refine q_let (fun v1 => q_G l cx M_AS_newLength 1 64 0 0 8 [(3, .inl v1), (0, .inl x0), (1, .inl x1), (2, .inl x2)] [] σ R) (x0 + (f_MT_max x1 x2)) (fun v1 e_v1 => ?_)
  have hV := hV v1 e_v1
  refine q_run k_AS_newLength 6 2 10 rfl ?_
  show q_G l cx M_AS_newLength 1 64 0 0 10 [(3, .inl v1), (0, .inl x0), (1, .inl x1), (2, .inl x2)] [.inl v1, .inl (0 : Int32)] σ R
  refine q_icmp (q_dc k_AS_newLength 8 rfl) rfl (fun h2 => ?_) (fun h2 => ?_)
  · have hV := hV.1 h2
    exact q_less (Nat.le_of_ble_eq_true rfl) (Nat.le_of_ble_eq_true rfl) (q_subk [1, 2] rfl hV)
  · have hV := hV.2 h2
    refine q_run k_AS_newLength 9 2 16 rfl ?_
    show q_G l cx M_AS_newLength 1 64 0 0 16 [(3, .inl v1), (0, .inl x0), (1, .inl x1), (2, .inl x2)] [.inl (2147483639 : Int32), .inl v1] σ R
    refine q_icmp (q_dc k_AS_newLength 11 rfl) rfl (fun h3 => ?_) (fun h3 => ?_)
    · have hV := hV.1 h3
      exact q_less (Nat.le_of_ble_eq_true rfl) (Nat.le_of_ble_eq_true rfl) (q_subk [1, 2] rfl hV)
    · have hV := hV.2 h3
      refine q_run k_AS_newLength 12 1 20 rfl ?_
      show q_G l cx M_AS_newLength 1 64 0 0 20 [(3, .inl v1), (0, .inl x0), (1, .inl x1), (2, .inl x2)] [.inl v1] σ R
      exact q_ireturn (q_dc k_AS_newLength 13 rfl) rfl hV
def V_AR_copyOf3 (x0 : Nat) (x1 : Int32) (x2 : Nat) (σ : q_S) (R : q_O → q_S → Prop) : Prop :=
  ∀ (P24 : Nat → Int32 → Nat → q_S → Prop),
  (∀ (x0 : Nat) (x1 : Int32) (y0 : Nat) (σ : q_S), (1000 ≤ q_K σ x0 ∧ q_K σ x0 = 1002 ∧ q_K σ y0 = 1002 ∧ ¬ (0 : Int32) < 0 ∧ ¬ (0 : Int32) < 0 ∧ ¬ (f_MT_min (nI (q_Z σ x0)) x1) < 0 ∧ (0 : Int32).toNatClampNeg + (f_MT_min (nI (q_Z σ x0)) x1).toNatClampNeg ≤ q_Z σ x0 ∧ (0 : Int32).toNatClampNeg + (f_MT_min (nI (q_Z σ x0)) x1).toNatClampNeg ≤ q_Z σ y0 ∧ (∀ i9, i9 < (f_MT_min (nI (q_Z σ x0)) x1).toNatClampNeg → q_P σ x0 ((0 : Int32).toNatClampNeg + i9) = 0 ∨ q_el σ (q_P σ x0 ((0 : Int32).toNatClampNeg + i9))) ∧ ∀ σ10 : q_S, σ10 = q_sP σ y0 (va_cpy (q_P σ x0) (q_P σ y0) (0 : Int32).toNatClampNeg (0 : Int32).toNatClampNeg (f_MT_min (nI (q_Z σ x0)) x1).toNatClampNeg) → R (.inl (some (.inr (.inr y0)))) σ10) → P24 x0 x1 y0 σ) →
  q_sep σ x2 10000200 ∧ 0 < x2 ∧ ((¬ x2 = 10000200 → False) ∧ (¬ (¬ x2 = 10000200) → ¬ x1 < 0 ∧ x1.toNatClampNeg ≤ 32 ∧ q_n σ < 10000000 ∧ ∀ v7 : Nat, v7 = q_n σ → ∀ σ8 : q_S, σ8 = q_new σ 1002 x1.toNatClampNeg → P24 x0 x1 v7 σ8))
set_option maxRecDepth 100000 in
theorem t_AR_copyOf3 {l : Launch} {cx : q_C} {x0 : Nat} {x1 : Int32} {x2 : Nat} {σ : q_S} {R : q_O → q_S → Prop} (hV : V_AR_copyOf3 x0 x1 x2 σ R) : q_Ct l cx M_AR_copyOf3 1 64 1 32 [q_r x0, q_i x1, q_r x2] σ R := by
  refine q_Ct.of p_AR_copyOf3 c_AR_copyOf3 rfl (Nat.le_of_ble_eq_true rfl) ?_
  have hV := hV (fun (x0 : Nat) (x1 : Int32) (y0 : Nat) (σ : q_S) => q_G l cx M_AR_copyOf3 1 64 0 0 24 [(0, .inr (.inr x0)), (1, .inl x1)] [.inr (.inr y0)] σ R)
  have hV := hV (by
      intro x0 x1 y0 σ hV
      show q_G l cx M_AR_copyOf3 1 64 0 0 24 [(0, .inr (.inr x0)), (1, .inl x1)] [.inr (.inr y0)] σ R
      refine q_run k_AR_copyOf3 11 8 32 rfl ?_
      show 1000 ≤ q_K σ x0 ∧ q_G l cx M_AR_copyOf3 1 64 0 0 32 [(3, .inr (.inr y0)), (0, .inr (.inr x0)), (1, .inl x1)] [.inl x1, .inl (nI (q_Z σ x0)), .inl (0 : Int32), .inr (.inr y0), .inl (0 : Int32), .inr (.inr x0)] σ R
      obtain ⟨s1, hV⟩ := hV
      refine ⟨s1, ?_⟩
      refine q_callS (st := [.inl (0 : Int32), .inr (.inr y0), .inl (0 : Int32), .inr (.inr x0)]) (t_MT_min (l := l) (cx := cx) (σ := σ) (nI (q_Z σ x0)) x1) (q_dc k_AR_copyOf3 19 rfl) (Or.inl (List.mem_of_getElem? (i := 482) (by decide +kernel))) w_MT_min s_MT_min a_MT_min (q_wt (Nat.le_of_ble_eq_true rfl)) ⟨Nat.le_of_ble_eq_true rfl, Nat.le_of_ble_eq_true rfl⟩ (fun v9 τ9 q9 => ?_) (fun n9 τ9 q9 => by cases q9.1)
      obtain ⟨q8, q7⟩ := q9
      cases q8
      rw [q7]
      show q_G l cx M_AR_copyOf3 1 64 0 0 35 [(3, .inr (.inr y0)), (0, .inr (.inr x0)), (1, .inl x1)] [.inl (f_MT_min (nI (q_Z σ x0)) x1), .inl (0 : Int32), .inr (.inr y0), .inl (0 : Int32), .inr (.inr x0)] σ R
      obtain ⟨s2, s3, s4, s5, s6, s7, s8, s9, hV⟩ := hV
      refine q_copyP (q_dc k_AR_copyOf3 20 rfl) (List.mem_of_getElem? (i := 483) (by decide +kernel)) (List.mem_of_getElem? (i := 193) (by decide +kernel)) (List.mem_of_getElem? (i := 192) (by decide +kernel)) (List.mem_of_getElem? (i := 88) (by decide +kernel)) (Nat.le_of_ble_eq_true rfl) ⟨Nat.le_of_ble_eq_true rfl, by decide +kernel⟩ s2 s3 s4 s5 s6 s7 s8 s9 ?_
      refine q_let (fun σ10 => q_G l cx M_AR_copyOf3 1 64 0 0 38 [(3, .inr (.inr y0)), (0, .inr (.inr x0)), (1, .inl x1)] [] σ10 R) (q_sP σ y0 (va_cpy (q_P σ x0) (q_P σ y0) (0 : Int32).toNatClampNeg (0 : Int32).toNatClampNeg (f_MT_min (nI (q_Z σ x0)) x1).toNatClampNeg)) (fun σ10 e_σ10 => ?_)
      have hV := hV σ10 e_σ10
      refine q_run k_AR_copyOf3 21 1 39 rfl ?_
      show q_G l cx M_AR_copyOf3 1 64 0 0 39 [(3, .inr (.inr y0)), (0, .inr (.inr x0)), (1, .inl x1)] [.inr (.inr y0)] σ10 R
      exact q_areturn (q_dc k_AR_copyOf3 22 rfl) rfl (by first | exact Or.inl ⟨_, rfl⟩ | exact Or.inr ⟨_, rfl⟩) hV)
  refine q_run k_AR_copyOf3 0 1 1 rfl ?_
  show q_G l cx M_AR_copyOf3 1 64 1 32 1 [(0, .inr (.inr x0)), (1, .inl x1), (2, .inr (.inr x2))] [.inr (.inr x2)] σ R
  refine q_ldcM (q_dc k_AR_copyOf3 1 rfl) (List.mem_of_getElem? (i := 667) (by decide +kernel)) ?_
  show q_G l cx M_AR_copyOf3 1 64 1 32 3 [(0, .inr (.inr x0)), (1, .inl x1), (2, .inr (.inr x2))] [.inr (.inr 10000200), .inr (.inr x2)] σ R
  obtain ⟨s1, s2, hV⟩ := hV
  refine q_acmp (q_dc k_AR_copyOf3 2 rfl) rfl s1 s2 (fun h3 => ?_) (fun h3 => ?_)
  · have hV := hV.1 h3
    refine q_run k_AR_copyOf3 6 1 14 rfl ?_
    show q_G l cx M_AR_copyOf3 1 64 1 32 14 [(0, .inr (.inr x0)), (1, .inl x1), (2, .inr (.inr x2))] [.inr (.inr x2)] σ R
    exact False.elim hV
  · have hV := hV.2 h3
    refine q_run k_AR_copyOf3 3 1 7 rfl ?_
    show q_G l cx M_AR_copyOf3 1 64 1 32 7 [(0, .inr (.inr x0)), (1, .inl x1), (2, .inr (.inr x2))] [.inl x1] σ R
    obtain ⟨s4, s5, s6, hV⟩ := hV
    refine q_less (kc' := 0 + 1) (ks' := 0 + 32) (Nat.le_of_ble_eq_true rfl) (Nat.le_of_ble_eq_true rfl) ?_
    refine q_newq (q_dc k_AR_copyOf3 4 rfl) (List.mem_of_getElem? (i := 668) (by decide +kernel)) s4 s5 s6 ?_
    refine q_let (fun v7 => q_G l cx M_AR_copyOf3 1 64 0 0 10 [(0, .inr (.inr x0)), (1, .inl x1), (2, .inr (.inr x2))] [.inr (.inr v7)] (q_new σ 1002 x1.toNatClampNeg) R) (q_n σ) (fun v7 e_v7 => ?_)
    have hV := hV v7 e_v7
    refine q_let (fun σ8 => q_G l cx M_AR_copyOf3 1 64 0 0 10 [(0, .inr (.inr x0)), (1, .inl x1), (2, .inr (.inr x2))] [.inr (.inr v7)] σ8 R) (q_new σ 1002 x1.toNatClampNeg) (fun σ8 e_σ8 => ?_)
    have hV := hV σ8 e_σ8
    refine q_goto (q_dc k_AR_copyOf3 5 rfl) rfl ?_
    exact q_less (Nat.le_of_ble_eq_true rfl) (Nat.le_of_ble_eq_true rfl) (q_subk [0, 1] rfl hV)
def V_AR_copyOf2 (x0 : Nat) (x1 : Int32) (σ : q_S) (R : q_O → q_S → Prop) : Prop :=
  q_K σ x0 = 1002 ∧ V_AR_copyOf3 x0 x1 10000200 σ (q_cr (fun v4 σ5 => R (.inl (some (.inr (.inr v4)))) σ5) (fun n9 σ9 => R (.inr n9) σ9))
set_option maxRecDepth 100000 in
theorem t_AR_copyOf2 {l : Launch} {cx : q_C} {x0 : Nat} {x1 : Int32} {σ : q_S} {R : q_O → q_S → Prop} (hV : V_AR_copyOf2 x0 x1 σ R) : q_Ct l cx M_AR_copyOf2 2 128 1 32 [q_r x0, q_i x1] σ R := by
  refine q_Ct.of p_AR_copyOf2 c_AR_copyOf2 rfl (Nat.le_of_ble_eq_true rfl) ?_
  refine q_run k_AR_copyOf2 0 3 3 rfl ?_
  show q_G l cx M_AR_copyOf2 2 128 1 32 3 [(0, .inr (.inr x0)), (1, .inl x1)] [.inr (.inr x0), .inl x1, .inr (.inr x0)] σ R
  obtain ⟨s1, hV⟩ := hV
  refine q_getC (q_dc k_AR_copyOf2 3 rfl) (List.mem_of_getElem? (i := 648) (by decide +kernel)) (List.mem_of_getElem? (i := 1109) (by decide +kernel)) (List.mem_of_getElem? (i := 649) (by decide +kernel)) (List.mem_of_getElem? (i := 663) (by decide +kernel)) (Nat.le_of_ble_eq_true rfl) ⟨Nat.le_of_ble_eq_true rfl, Nat.le_of_ble_eq_true rfl⟩ s1 ?_
  show q_G l cx M_AR_copyOf2 2 128 1 32 6 [(0, .inr (.inr x0)), (1, .inl x1)] [.inr (.inr 10000200), .inl x1, .inr (.inr x0)] σ R
  refine q_less (kc' := 0 + 1) (ks' := 0 + 32) (Nat.le_of_ble_eq_true rfl) (Nat.le_of_ble_eq_true rfl) ?_
  refine q_callS (st := []) (t_AR_copyOf3 (l := l) (cx := cx)  hV) (q_dc k_AR_copyOf2 4 rfl) (Or.inl (List.mem_of_getElem? (i := 664) (by decide +kernel))) w_AR_copyOf3 s_AR_copyOf3 a_AR_copyOf3 (q_wt (Nat.le_of_ble_eq_true rfl)) ⟨Nat.le_of_ble_eq_true rfl, Nat.le_of_ble_eq_true rfl⟩ (fun v9 τ9 q9 => ?_) (fun n9 τ9 q9 => q_T.leave rfl q9)
  obtain ⟨v4, rfl, hV⟩ := q_cr_elim q9
  clear q9
  have hV := hV
  revert hV
  generalize τ9 = σ5
  intro hV
  show q_G l cx M_AR_copyOf2 2 128 0 0 9 [(0, .inr (.inr x0)), (1, .inl x1)] [.inr (.inr v4)] σ5 R
  exact q_areturn (q_dc k_AR_copyOf2 5 rfl) rfl (by first | exact Or.inl ⟨_, rfl⟩ | exact Or.inr ⟨_, rfl⟩) hV
def V_AL_grow2 (x0 : Nat) (x1 : Int32) (σ : q_S) (R : q_O → q_S → Prop) : Prop :=
  ∀ (P20 : Nat → Int32 → Int32 → q_S → Prop),
  (∀ (x0 : Nat) (x1 : Int32) (x2 : Int32) (σ : q_S), (V_AS_newLength x2 (x1 - x2) (x2 >>> ((1 : Int32) &&& 31)) σ (q_ci (fun v3 σ4 => q_K σ4 x0 = 8 ∧ V_AR_copyOf2 (q_P σ4 x0 0) v3 σ4 (q_cr (fun v8 σ9 => q_K σ9 x0 = 8 ∧ ∀ σ10 : q_S, σ10 = q_wP σ9 x0 0 v8 → R (.inl (some (.inr (.inr v8)))) σ10) (fun n9 σ9 => R (.inr n9) σ9))) (fun n9 σ9 => R (.inr n9) σ9))) → P20 x0 x1 x2 σ) →
  q_K σ x0 = 8 ∧ 1000 ≤ q_K σ (q_P σ x0 0) ∧ ∀ v1 : Int32, v1 = nI (q_Z σ (q_P σ x0 0)) → (((0 : Int32) < v1 → P20 x0 x1 v1 σ) ∧ (¬ ((0 : Int32) < v1) → q_K σ x0 = 8 ∧ q_sep σ (q_P σ x0 0) 10000005 ∧ 0 < (q_P σ x0 0) ∧ (((q_P σ x0 0) = 10000005 → ¬ (f_MT_max (10 : Int32) x1) < 0 ∧ (f_MT_max (10 : Int32) x1).toNatClampNeg ≤ 32 ∧ q_n σ < 10000000 ∧ ∀ v12 : Nat, v12 = q_n σ → ∀ σ13 : q_S, σ13 = q_new σ 1002 ((f_MT_max (10 : Int32) x1).toNatClampNeg) → q_K σ13 x0 = 8 ∧ ∀ σ14 : q_S, σ14 = q_wP σ13 x0 0 v12 → R (.inl (some (.inr (.inr v12)))) σ14) ∧ (¬ ((q_P σ x0 0) = 10000005) → P20 x0 x1 v1 σ))))
set_option maxRecDepth 100000 in
theorem t_AL_grow2 {l : Launch} {cx : q_C} {x0 : Nat} {x1 : Int32} {σ : q_S} {R : q_O → q_S → Prop} (hV : V_AL_grow2 x0 x1 σ R) : q_Ct l cx M_AL_grow2 3 192 1 32 [q_r x0, q_i x1] σ R := by
  refine q_Ct.of p_AL_grow2 c_AL_grow2 rfl (Nat.le_of_ble_eq_true rfl) ?_
  have hV := hV (fun (x0 : Nat) (x1 : Int32) (x2 : Int32) (σ : q_S) => q_G l cx M_AL_grow2 3 192 1 32 20 [(0, .inr (.inr x0)), (1, .inl x1), (2, .inl x2)] [] σ R)
  have hV := hV (by
      intro x0 x1 x2 σ hV
      show q_G l cx M_AL_grow2 3 192 1 32 20 [(0, .inr (.inr x0)), (1, .inl x1), (2, .inl x2)] [] σ R
      refine q_run k_AL_grow2 10 7 27 rfl ?_
      show q_G l cx M_AL_grow2 3 192 1 32 27 [(0, .inr (.inr x0)), (1, .inl x1), (2, .inl x2)] [.inl (x2 >>> ((1 : Int32) &&& 31)), .inl (x1 - x2), .inl x2] σ R
      refine q_callS (st := []) (t_AS_newLength (l := l) (cx := cx)  hV) (q_dc k_AL_grow2 17 rfl) (Or.inl (List.mem_of_getElem? (i := 644) (by decide +kernel))) w_AS_newLength s_AS_newLength a_AS_newLength (q_wt (Nat.le_of_ble_eq_true rfl)) ⟨Nat.le_of_ble_eq_true rfl, Nat.le_of_ble_eq_true rfl⟩ (fun v9 τ9 q9 => ?_) (fun n9 τ9 q9 => q_T.leave rfl q9)
      obtain ⟨v3, rfl, hV⟩ := q_ci_elim q9
      clear q9
      have hV := hV
      revert hV
      generalize τ9 = σ4
      intro hV
      show q_G l cx M_AL_grow2 3 192 1 32 30 [(0, .inr (.inr x0)), (1, .inl x1), (2, .inl x2)] [.inl v3] σ4 R
      refine q_run k_AL_grow2 18 5 37 rfl ?_
      show q_K σ4 x0 = 8 ∧ q_G l cx M_AL_grow2 3 192 1 32 37 [(3, .inl v3), (0, .inr (.inr x0)), (1, .inl x1), (2, .inl x2)] [.inl v3, .inr (.inr (q_P σ4 x0 0)), .inr (.inr x0)] σ4 R
      obtain ⟨s5, hV⟩ := hV
      refine ⟨s5, ?_⟩
      refine q_less (kc' := 0 + 1) (ks' := 0 + 32) (Nat.le_of_ble_eq_true rfl) (Nat.le_of_ble_eq_true rfl) ?_
      refine q_callS (st := [.inr (.inr x0)]) (t_AR_copyOf2 (l := l) (cx := cx)  hV) (q_dc k_AL_grow2 23 rfl) (Or.inl (List.mem_of_getElem? (i := 645) (by decide +kernel))) w_AR_copyOf2 s_AR_copyOf2 a_AR_copyOf2 (q_wt (Nat.le_of_ble_eq_true rfl)) ⟨Nat.le_of_ble_eq_true rfl, Nat.le_of_ble_eq_true rfl⟩ (fun v9 τ9 q9 => ?_) (fun n9 τ9 q9 => q_T.leave rfl q9)
      obtain ⟨v8, rfl, hV⟩ := q_cr_elim q9
      clear q9
      have hV := hV
      revert hV
      generalize τ9 = σ9
      intro hV
      show q_G l cx M_AL_grow2 3 192 0 0 40 [(3, .inl v3), (0, .inr (.inr x0)), (1, .inl x1), (2, .inl x2)] [.inr (.inr v8), .inr (.inr x0)] σ9 R
      refine q_dupx1 (q_dc k_AL_grow2 24 rfl) ?_
      show q_G l cx M_AL_grow2 3 192 0 0 41 [(3, .inl v3), (0, .inr (.inr x0)), (1, .inl x1), (2, .inl x2)] [.inr (.inr v8), .inr (.inr x0), .inr (.inr v8)] σ9 R
      refine q_run k_AL_grow2 25 1 44 rfl ?_
      show q_K σ9 x0 = 8 ∧ q_G l cx M_AL_grow2 3 192 0 0 44 [(3, .inl v3), (0, .inr (.inr x0)), (1, .inl x1), (2, .inl x2)] [.inr (.inr v8)] (q_wP σ9 x0 0 v8) R
      obtain ⟨s11, hV⟩ := hV
      refine ⟨s11, ?_⟩
      refine q_let (fun σ10 => q_G l cx M_AL_grow2 3 192 0 0 44 [(3, .inl v3), (0, .inr (.inr x0)), (1, .inl x1), (2, .inl x2)] [.inr (.inr v8)] σ10 R) (q_wP σ9 x0 0 v8) (fun σ10 e_σ10 => ?_)
      have hV := hV σ10 e_σ10
      exact q_areturn (q_dc k_AL_grow2 26 rfl) rfl (by first | exact Or.inl ⟨_, rfl⟩ | exact Or.inr ⟨_, rfl⟩) hV)
  refine q_run k_AL_grow2 0 4 6 rfl ?_
  show q_K σ x0 = 8 ∧ 1000 ≤ q_K σ (q_P σ x0 0) ∧ q_G l cx M_AL_grow2 3 192 1 32 6 [(2, .inl (nI (q_Z σ (q_P σ x0 0)))), (0, .inr (.inr x0)), (1, .inl x1)] [] σ R
  obtain ⟨s2, s3, hV⟩ := hV
  refine ⟨s2, s3, ?_⟩
  refine q_let (fun v1 => q_G l cx M_AL_grow2 3 192 1 32 6 [(2, .inl v1), (0, .inr (.inr x0)), (1, .inl x1)] [] σ R) (nI (q_Z σ (q_P σ x0 0))) (fun v1 e_v1 => ?_)
  have hV := hV v1 e_v1
  refine q_run k_AL_grow2 4 1 7 rfl ?_
  show q_G l cx M_AL_grow2 3 192 1 32 7 [(2, .inl v1), (0, .inr (.inr x0)), (1, .inl x1)] [.inl v1] σ R
  refine q_ifz (q_dc k_AL_grow2 5 rfl) rfl (fun h4 => ?_) (fun h4 => ?_)
  · have hV := hV.1 h4
    exact q_less (Nat.le_of_ble_eq_true rfl) (Nat.le_of_ble_eq_true rfl) (q_subk [1, 2, 0] rfl hV)
  · have hV := hV.2 h4
    refine q_run k_AL_grow2 6 2 14 rfl ?_
    show q_K σ x0 = 8 ∧ q_G l cx M_AL_grow2 3 192 1 32 14 [(2, .inl v1), (0, .inr (.inr x0)), (1, .inl x1)] [.inr (.inr (q_P σ x0 0))] σ R
    obtain ⟨s5, hV⟩ := hV
    refine ⟨s5, ?_⟩
    refine q_gets (nm := 10000005) (q_dc k_AL_grow2 8 rfl) (List.mem_of_getElem? (i := 4) rfl) (List.mem_of_getElem? (i := 113) (by decide +kernel)) ?_
    show q_G l cx M_AL_grow2 3 192 1 32 17 [(2, .inl v1), (0, .inr (.inr x0)), (1, .inl x1)] [.inr (.inr 10000005), .inr (.inr (q_P σ x0 0))] σ R
    obtain ⟨s6, s7, hV⟩ := hV
    refine q_acmp (q_dc k_AL_grow2 9 rfl) rfl s6 s7 (fun h8 => ?_) (fun h8 => ?_)
    · have hV := hV.1 h8
      refine q_run k_AL_grow2 27 3 49 rfl ?_
      show q_G l cx M_AL_grow2 3 192 1 32 49 [(2, .inl v1), (0, .inr (.inr x0)), (1, .inl x1)] [.inl x1, .inl (10 : Int32), .inr (.inr x0)] σ R
      refine q_callS (st := [.inr (.inr x0)]) (t_MT_max (l := l) (cx := cx) (σ := σ) (10 : Int32) x1) (q_dc k_AL_grow2 30 rfl) (Or.inl (List.mem_of_getElem? (i := 669) (by decide +kernel))) w_MT_max s_MT_max a_MT_max (q_wt (Nat.le_of_ble_eq_true rfl)) ⟨Nat.le_of_ble_eq_true rfl, Nat.le_of_ble_eq_true rfl⟩ (fun v9 τ9 q9 => ?_) (fun n9 τ9 q9 => by cases q9.1)
      obtain ⟨q8, q7⟩ := q9
      cases q8
      rw [q7]
      show q_G l cx M_AL_grow2 3 192 1 32 52 [(2, .inl v1), (0, .inr (.inr x0)), (1, .inl x1)] [.inl (f_MT_max (10 : Int32) x1), .inr (.inr x0)] σ R
      obtain ⟨s9, s10, s11, hV⟩ := hV
      refine q_less (kc' := 0 + 1) (ks' := 0 + 32) (Nat.le_of_ble_eq_true rfl) (Nat.le_of_ble_eq_true rfl) ?_
      refine q_newq (q_dc k_AL_grow2 31 rfl) (List.mem_of_getElem? (i := 670) (by decide +kernel)) s9 s10 s11 ?_
      refine q_let (fun v12 => q_G l cx M_AL_grow2 3 192 0 0 55 [(2, .inl v1), (0, .inr (.inr x0)), (1, .inl x1)] [.inr (.inr v12), .inr (.inr x0)] (q_new σ 1002 ((f_MT_max (10 : Int32) x1).toNatClampNeg)) R) (q_n σ) (fun v12 e_v12 => ?_)
      have hV := hV v12 e_v12
      refine q_let (fun σ13 => q_G l cx M_AL_grow2 3 192 0 0 55 [(2, .inl v1), (0, .inr (.inr x0)), (1, .inl x1)] [.inr (.inr v12), .inr (.inr x0)] σ13 R) (q_new σ 1002 ((f_MT_max (10 : Int32) x1).toNatClampNeg)) (fun σ13 e_σ13 => ?_)
      have hV := hV σ13 e_σ13
      refine q_dupx1 (q_dc k_AL_grow2 32 rfl) ?_
      show q_G l cx M_AL_grow2 3 192 0 0 56 [(2, .inl v1), (0, .inr (.inr x0)), (1, .inl x1)] [.inr (.inr v12), .inr (.inr x0), .inr (.inr v12)] σ13 R
      refine q_run k_AL_grow2 33 1 59 rfl ?_
      show q_K σ13 x0 = 8 ∧ q_G l cx M_AL_grow2 3 192 0 0 59 [(2, .inl v1), (0, .inr (.inr x0)), (1, .inl x1)] [.inr (.inr v12)] (q_wP σ13 x0 0 v12) R
      obtain ⟨s15, hV⟩ := hV
      refine ⟨s15, ?_⟩
      refine q_let (fun σ14 => q_G l cx M_AL_grow2 3 192 0 0 59 [(2, .inl v1), (0, .inr (.inr x0)), (1, .inl x1)] [.inr (.inr v12)] σ14 R) (q_wP σ13 x0 0 v12) (fun σ14 e_σ14 => ?_)
      have hV := hV σ14 e_σ14
      exact q_areturn (q_dc k_AL_grow2 34 rfl) rfl (by first | exact Or.inl ⟨_, rfl⟩ | exact Or.inr ⟨_, rfl⟩) hV
    · have hV := hV.2 h8
      exact q_less (Nat.le_of_ble_eq_true rfl) (Nat.le_of_ble_eq_true rfl) (q_subk [1, 2, 0] rfl hV)
def V_AL_grow (x0 : Nat) (σ : q_S) (R : q_O → q_S → Prop) : Prop :=
  q_K σ x0 = 8 ∧ q_K σ x0 = 8 ∧ V_AL_grow2 x0 ((q_I σ x0 1) + (1 : Int32)) σ (q_cr (fun v5 σ6 => R (.inl (some (.inr (.inr v5)))) σ6) (fun n9 σ9 => R (.inr n9) σ9))
set_option maxRecDepth 100000 in
theorem t_AL_grow {l : Launch} {cx : q_C} {x0 : Nat} {σ : q_S} {R : q_O → q_S → Prop} (hV : V_AL_grow x0 σ R) : q_Ct l cx M_AL_grow 4 256 1 32 [q_r x0] σ R := by
  refine q_Ct.of p_AL_grow c_AL_grow rfl (Nat.le_of_ble_eq_true rfl) ?_
  refine q_run k_AL_grow 0 5 7 rfl ?_
  show q_K σ x0 = 8 ∧ q_G l cx M_AL_grow 4 256 1 32 7 [(0, .inr (.inr x0))] [.inl ((q_I σ x0 1) + (1 : Int32)), .inr (.inr x0)] σ R
  obtain ⟨s1, hV⟩ := hV
  refine ⟨s1, ?_⟩
  obtain ⟨s2, hV⟩ := hV
  refine q_less (kc' := 0 + 1) (ks' := 0 + 32) (Nat.le_of_ble_eq_true rfl) (Nat.le_of_ble_eq_true rfl) ?_
  refine q_callV (st := []) (as := [.inl ((q_I σ x0 1) + (1 : Int32))]) (t_AL_grow2 (l := l) (cx := cx)  hV) (q_dc k_AL_grow 5 rfl) (Or.inl (List.mem_of_getElem? (i := 641) (by decide +kernel))) w_AL_grow2 n_AL_grow2 (ci := 7) rfl e_AL_grow2 a_AL_grow2 (q_wt (Nat.le_of_ble_eq_true rfl)) ⟨Nat.le_of_ble_eq_true rfl, Nat.le_of_ble_eq_true rfl⟩ s2 (fun v9 τ9 q9 => ?_) (fun n9 τ9 q9 => q_T.leave rfl q9)
  obtain ⟨v5, rfl, hV⟩ := q_cr_elim q9
  clear q9
  have hV := hV
  revert hV
  generalize τ9 = σ6
  intro hV
  show q_G l cx M_AL_grow 4 256 0 0 10 [(0, .inr (.inr x0))] [.inr (.inr v5)] σ6 R
  exact q_areturn (q_dc k_AL_grow 6 rfl) rfl (by first | exact Or.inl ⟨_, rfl⟩ | exact Or.inr ⟨_, rfl⟩) hV
def V_AL_add3 (x0 : Nat) (x1 : Nat) (x2 : Nat) (x3 : Int32) (σ : q_S) (R : q_O → q_S → Prop) : Prop :=
  ∀ (P11 : Nat → Nat → Nat → Int32 → q_S → Prop),
  (∀ (x0 : Nat) (x1 : Nat) (x2 : Nat) (x3 : Int32) (σ : q_S), (q_K σ x2 = 1002 ∧ vp_in x3 (q_Z σ x2) ∧ q_el σ x1 ∧ ∀ σ4 : q_S, σ4 = q_wP σ x2 x3.toNatClampNeg x1 → q_K σ4 x0 = 8 ∧ ∀ σ5 : q_S, σ5 = q_wI σ4 x0 1 (x3 + (1 : Int32)) → R (.inl none) σ5) → P11 x0 x1 x2 x3 σ) →
  1000 ≤ q_K σ x2 ∧ ((¬ x3 = (nI (q_Z σ x2)) → P11 x0 x1 x2 x3 σ) ∧ (¬ (¬ x3 = (nI (q_Z σ x2))) → q_K σ x0 = 8 ∧ V_AL_grow x0 σ (q_cr (fun v6 σ7 => P11 x0 x1 v6 x3 σ7) (fun n9 σ9 => R (.inr n9) σ9))))
set_option maxRecDepth 100000 in
theorem t_AL_add3 {l : Launch} {cx : q_C} {x0 : Nat} {x1 : Nat} {x2 : Nat} {x3 : Int32} {σ : q_S} {R : q_O → q_S → Prop} (hV : V_AL_add3 x0 x1 x2 x3 σ R) : q_Ct l cx M_AL_add3 5 320 1 32 [q_r x0, q_r x1, q_r x2, q_i x3] σ R := by
  refine q_Ct.of p_AL_add3 c_AL_add3 rfl (Nat.le_of_ble_eq_true rfl) ?_
  have hV := hV (fun (x0 : Nat) (x1 : Nat) (x2 : Nat) (x3 : Int32) (σ : q_S) => q_G l cx M_AL_add3 5 320 0 0 11 [(0, .inr (.inr x0)), (1, .inr (.inr x1)), (2, .inr (.inr x2)), (3, .inl x3)] [] σ R)
  have hV := hV (by
      intro x0 x1 x2 x3 σ hV
      show q_G l cx M_AL_add3 5 320 0 0 11 [(0, .inr (.inr x0)), (1, .inr (.inr x1)), (2, .inr (.inr x2)), (3, .inl x3)] [] σ R
      refine q_run k_AL_add3 7 3 14 rfl ?_
      show q_G l cx M_AL_add3 5 320 0 0 14 [(0, .inr (.inr x0)), (1, .inr (.inr x1)), (2, .inr (.inr x2)), (3, .inl x3)] [.inr (.inr x1), .inl x3, .inr (.inr x2)] σ R
      obtain ⟨s1, s2, s3, hV⟩ := hV
      refine q_aast (q_dc k_AL_add3 10 rfl) s1 s2 s3 ?_
      refine q_let (fun σ4 => q_G l cx M_AL_add3 5 320 0 0 15 [(0, .inr (.inr x0)), (1, .inr (.inr x1)), (2, .inr (.inr x2)), (3, .inl x3)] [] σ4 R) (q_wP σ x2 x3.toNatClampNeg x1) (fun σ4 e_σ4 => ?_)
      have hV := hV σ4 e_σ4
      refine q_run k_AL_add3 11 5 22 rfl ?_
      show q_K σ4 x0 = 8 ∧ q_G l cx M_AL_add3 5 320 0 0 22 [(0, .inr (.inr x0)), (1, .inr (.inr x1)), (2, .inr (.inr x2)), (3, .inl x3)] [] (q_wI σ4 x0 1 (x3 + (1 : Int32))) R
      obtain ⟨s6, hV⟩ := hV
      refine ⟨s6, ?_⟩
      refine q_let (fun σ5 => q_G l cx M_AL_add3 5 320 0 0 22 [(0, .inr (.inr x0)), (1, .inr (.inr x1)), (2, .inr (.inr x2)), (3, .inl x3)] [] σ5 R) (q_wI σ4 x0 1 (x3 + (1 : Int32))) (fun σ5 e_σ5 => ?_)
      have hV := hV σ5 e_σ5
      exact q_vreturn (q_dc k_AL_add3 16 rfl) rfl hV)
  refine q_run k_AL_add3 0 3 3 rfl ?_
  show 1000 ≤ q_K σ x2 ∧ q_G l cx M_AL_add3 5 320 1 32 3 [(0, .inr (.inr x0)), (1, .inr (.inr x1)), (2, .inr (.inr x2)), (3, .inl x3)] [.inl (nI (q_Z σ x2)), .inl x3] σ R
  obtain ⟨s1, hV⟩ := hV
  refine ⟨s1, ?_⟩
  refine q_icmp (q_dc k_AL_add3 3 rfl) rfl (fun h2 => ?_) (fun h2 => ?_)
  · have hV := hV.1 h2
    exact q_less (Nat.le_of_ble_eq_true rfl) (Nat.le_of_ble_eq_true rfl) (q_subk [0, 1, 2, 3] rfl hV)
  · have hV := hV.2 h2
    refine q_run k_AL_add3 4 1 7 rfl ?_
    show q_G l cx M_AL_add3 5 320 1 32 7 [(0, .inr (.inr x0)), (1, .inr (.inr x1)), (2, .inr (.inr x2)), (3, .inl x3)] [.inr (.inr x0)] σ R
    obtain ⟨s3, hV⟩ := hV
    refine q_less (kc' := 0 + 1) (ks' := 0 + 32) (Nat.le_of_ble_eq_true rfl) (Nat.le_of_ble_eq_true rfl) ?_
    refine q_callV (st := []) (as := []) (t_AL_grow (l := l) (cx := cx)  hV) (q_dc k_AL_add3 5 rfl) (Or.inl (List.mem_of_getElem? (i := 638) (by decide +kernel))) w_AL_grow n_AL_grow (ci := 7) rfl e_AL_grow a_AL_grow (q_wt (Nat.le_of_ble_eq_true rfl)) ⟨Nat.le_of_ble_eq_true rfl, Nat.le_of_ble_eq_true rfl⟩ s3 (fun v9 τ9 q9 => ?_) (fun n9 τ9 q9 => q_T.leave rfl q9)
    obtain ⟨v6, rfl, hV⟩ := q_cr_elim q9
    clear q9
    have hV := hV
    revert hV
    generalize τ9 = σ7
    intro hV
    show q_G l cx M_AL_add3 5 320 0 0 10 [(0, .inr (.inr x0)), (1, .inr (.inr x1)), (2, .inr (.inr x2)), (3, .inl x3)] [.inr (.inr v6)] σ7 R
    refine q_run k_AL_add3 6 1 11 rfl ?_
    show q_G l cx M_AL_add3 5 320 0 0 11 [(2, .inr (.inr v6)), (0, .inr (.inr x0)), (1, .inr (.inr x1)), (3, .inl x3)] [] σ7 R
    exact q_less (Nat.le_of_ble_eq_true rfl) (Nat.le_of_ble_eq_true rfl) (q_subk [1, 2, 0, 3] rfl hV)
def V_AL_add2 (x0 : Nat) (x1 : Nat) (σ : q_S) (R : q_O → q_S → Prop) : Prop :=
  q_K σ x0 = 8 ∧ q_K σ x0 = 8 ∧ ∀ σ1 : q_S, σ1 = q_wI σ x0 2 ((q_I σ x0 2) + (1 : Int32)) → q_K σ1 x0 = 8 ∧ q_K σ1 x0 = 8 ∧ q_K σ1 x0 = 8 ∧ V_AL_add3 x0 x1 (q_P σ1 x0 0) (q_I σ1 x0 1) σ1 (q_cv (fun σ10 => R (.inl (some (.inl (1 : Int32)))) σ10) (fun n9 σ9 => R (.inr n9) σ9))
set_option maxRecDepth 100000 in
theorem t_AL_add2 {l : Launch} {cx : q_C} {x0 : Nat} {x1 : Nat} {σ : q_S} {R : q_O → q_S → Prop} (hV : V_AL_add2 x0 x1 σ R) : q_Ct l cx M_AL_add2 6 384 1 32 [q_r x0, q_r x1] σ R := by
  refine q_Ct.of p_AL_add2 c_AL_add2 rfl (Nat.le_of_ble_eq_true rfl) ?_
  refine q_run k_AL_add2 0 6 10 rfl ?_
  show q_K σ x0 = 8 ∧ q_K σ x0 = 8 ∧ q_G l cx M_AL_add2 6 384 1 32 10 [(0, .inr (.inr x0)), (1, .inr (.inr x1))] [] (q_wI σ x0 2 ((q_I σ x0 2) + (1 : Int32))) R
  obtain ⟨s2, s3, hV⟩ := hV
  refine ⟨s2, s3, ?_⟩
  refine q_let (fun σ1 => q_G l cx M_AL_add2 6 384 1 32 10 [(0, .inr (.inr x0)), (1, .inr (.inr x1))] [] σ1 R) (q_wI σ x0 2 ((q_I σ x0 2) + (1 : Int32))) (fun σ1 e_σ1 => ?_)
  have hV := hV σ1 e_σ1
  refine q_run k_AL_add2 6 6 20 rfl ?_
  show q_K σ1 x0 = 8 ∧ q_K σ1 x0 = 8 ∧ q_G l cx M_AL_add2 6 384 1 32 20 [(0, .inr (.inr x0)), (1, .inr (.inr x1))] [.inl (q_I σ1 x0 1), .inr (.inr (q_P σ1 x0 0)), .inr (.inr x1), .inr (.inr x0)] σ1 R
  obtain ⟨s4, s5, hV⟩ := hV
  refine ⟨s4, s5, ?_⟩
  obtain ⟨s6, hV⟩ := hV
  refine q_less (kc' := 0 + 1) (ks' := 0 + 32) (Nat.le_of_ble_eq_true rfl) (Nat.le_of_ble_eq_true rfl) ?_
  refine q_callV (st := []) (as := [.inr (.inr x1), .inr (.inr (q_P σ1 x0 0)), .inl (q_I σ1 x0 1)]) (t_AL_add3 (l := l) (cx := cx)  hV) (q_dc k_AL_add2 12 rfl) (Or.inl (List.mem_of_getElem? (i := 676) (by decide +kernel))) w_AL_add3 n_AL_add3 (ci := 7) rfl e_AL_add3 a_AL_add3 (q_wt (Nat.le_of_ble_eq_true rfl)) ⟨Nat.le_of_ble_eq_true rfl, Nat.le_of_ble_eq_true rfl⟩ s6 (fun v9 τ9 q9 => ?_) (fun n9 τ9 q9 => q_T.leave rfl q9)
  obtain ⟨rfl, hV⟩ := q_cv_elim q9
  clear q9
  have hV := hV
  revert hV
  generalize τ9 = σ10
  intro hV
  show q_G l cx M_AL_add2 6 384 0 0 23 [(0, .inr (.inr x0)), (1, .inr (.inr x1))] [] σ10 R
  refine q_run k_AL_add2 13 1 24 rfl ?_
  show q_G l cx M_AL_add2 6 384 0 0 24 [(0, .inr (.inr x0)), (1, .inr (.inr x1))] [.inl (1 : Int32)] σ10 R
  exact q_zreturn (q_dc k_AL_add2 14 rfl) rfl (by decide) hV
def V_AL_rangeCheckForAdd (x0 : Nat) (x1 : Int32) (σ : q_S) (R : q_O → q_S → Prop) : Prop :=
  ∀ (P12 : Nat → Int32 → q_S → Prop),
  (∀ (x0 : Nat) (x1 : Int32) (σ : q_S), (False) → P12 x0 x1 σ) →
  q_K σ x0 = 8 ∧ (((q_I σ x0 1) < x1 → P12 x0 x1 σ) ∧ (¬ ((q_I σ x0 1) < x1) → (((0 : Int32) ≤ x1 → R (.inl none) σ) ∧ (¬ ((0 : Int32) ≤ x1) → P12 x0 x1 σ))))
set_option maxRecDepth 100000 in
theorem t_AL_rangeCheckForAdd {l : Launch} {cx : q_C} {x0 : Nat} {x1 : Int32} {σ : q_S} {R : q_O → q_S → Prop} (hV : V_AL_rangeCheckForAdd x0 x1 σ R) : q_Ct l cx M_AL_rangeCheckForAdd 0 0 1 6 [q_r x0, q_i x1] σ R := by
  refine q_Ct.of p_AL_rangeCheckForAdd c_AL_rangeCheckForAdd rfl (Nat.le_of_ble_eq_true rfl) ?_
  have hV := hV (fun (x0 : Nat) (x1 : Int32) (σ : q_S) => q_G l cx M_AL_rangeCheckForAdd 0 0 1 6 12 [(0, .inr (.inr x0)), (1, .inl x1)] [] σ R)
  have hV := hV (by
      intro x0 x1 σ hV
      show q_G l cx M_AL_rangeCheckForAdd 0 0 1 6 12 [(0, .inr (.inr x0)), (1, .inl x1)] [] σ R
      exact False.elim hV)
  refine q_run k_AL_rangeCheckForAdd 0 3 5 rfl ?_
  show q_K σ x0 = 8 ∧ q_G l cx M_AL_rangeCheckForAdd 0 0 1 6 5 [(0, .inr (.inr x0)), (1, .inl x1)] [.inl (q_I σ x0 1), .inl x1] σ R
  obtain ⟨s1, hV⟩ := hV
  refine ⟨s1, ?_⟩
  refine q_icmp (q_dc k_AL_rangeCheckForAdd 3 rfl) rfl (fun h2 => ?_) (fun h2 => ?_)
  · have hV := hV.1 h2
    exact q_less (Nat.le_of_ble_eq_true rfl) (Nat.le_of_ble_eq_true rfl) (q_subk [0, 1] rfl hV)
  · have hV := hV.2 h2
    refine q_run k_AL_rangeCheckForAdd 4 1 9 rfl ?_
    show q_G l cx M_AL_rangeCheckForAdd 0 0 1 6 9 [(0, .inr (.inr x0)), (1, .inl x1)] [.inl x1] σ R
    refine q_ifz (q_dc k_AL_rangeCheckForAdd 5 rfl) rfl (fun h3 => ?_) (fun h3 => ?_)
    · have hV := hV.1 h3
      exact q_vreturn (q_dc k_AL_rangeCheckForAdd 13 rfl) rfl hV
    · have hV := hV.2 h3
      exact q_less (Nat.le_of_ble_eq_true rfl) (Nat.le_of_ble_eq_true rfl) (q_subk [0, 1] rfl hV)
def V_AL_add (x0 : Nat) (x1 : Int32) (x2 : Nat) (σ : q_S) (R : q_O → q_S → Prop) : Prop :=
  ∀ (P38 : Nat → Int32 → Nat → Int32 → Nat → q_S → Prop),
  (∀ (x0 : Nat) (x1 : Int32) (x2 : Nat) (x3 : Int32) (x4 : Nat) (σ : q_S), (q_K σ x4 = 1002 ∧ q_K σ x4 = 1002 ∧ ¬ x1 < 0 ∧ ¬ (x1 + (1 : Int32)) < 0 ∧ ¬ (x3 - x1) < 0 ∧ x1.toNatClampNeg + (x3 - x1).toNatClampNeg ≤ q_Z σ x4 ∧ (x1 + (1 : Int32)).toNatClampNeg + (x3 - x1).toNatClampNeg ≤ q_Z σ x4 ∧ (∀ i9, i9 < (x3 - x1).toNatClampNeg → q_P σ x4 (x1.toNatClampNeg + i9) = 0 ∨ q_el σ (q_P σ x4 (x1.toNatClampNeg + i9))) ∧ ∀ σ9 : q_S, σ9 = q_sP σ x4 (va_cpy (q_P σ x4) (q_P σ x4) x1.toNatClampNeg (x1 + (1 : Int32)).toNatClampNeg (x3 - x1).toNatClampNeg) → q_K σ9 x4 = 1002 ∧ vp_in x1 (q_Z σ9 x4) ∧ q_el σ9 x2 ∧ ∀ σ13 : q_S, σ13 = q_wP σ9 x4 x1.toNatClampNeg x2 → q_K σ13 x0 = 8 ∧ ∀ σ14 : q_S, σ14 = q_wI σ13 x0 1 (x3 + (1 : Int32)) → R (.inl none) σ14) → P38 x0 x1 x2 x3 x4 σ) →
  q_K σ x0 = 8 ∧ V_AL_rangeCheckForAdd x0 x1 σ (q_cv (fun σ5 => q_K σ5 x0 = 8 ∧ q_K σ5 x0 = 8 ∧ ∀ σ6 : q_S, σ6 = q_wI σ5 x0 2 ((q_I σ5 x0 2) + (1 : Int32)) → q_K σ6 x0 = 8 ∧ ∀ v9 : Int32, v9 = q_I σ6 x0 1 → q_K σ6 x0 = 8 ∧ ∀ v11 : Nat, v11 = q_P σ6 x0 0 → 1000 ≤ q_K σ6 (q_P σ6 x0 0) ∧ ((¬ (q_I σ6 x0 1) = (nI (q_Z σ6 (q_P σ6 x0 0))) → P38 x0 x1 x2 v9 v11 σ6) ∧ (¬ (¬ (q_I σ6 x0 1) = (nI (q_Z σ6 (q_P σ6 x0 0)))) → q_K σ6 x0 = 8 ∧ V_AL_grow x0 σ6 (q_cr (fun v18 σ19 => P38 x0 x1 x2 v9 v18 σ19) (fun n9 σ9 => R (.inr n9) σ9))))) (fun n9 σ9 => R (.inr n9) σ9))
set_option maxRecDepth 100000 in
theorem t_AL_add {l : Launch} {cx : q_C} {x0 : Nat} {x1 : Int32} {x2 : Nat} {σ : q_S} {R : q_O → q_S → Prop} (hV : V_AL_add x0 x1 x2 σ R) : q_Ct l cx M_AL_add 5 320 2 38 [q_r x0, q_i x1, q_r x2] σ R := by
  refine q_Ct.of p_AL_add c_AL_add rfl (Nat.le_of_ble_eq_true rfl) ?_
  have hV := hV (fun (x0 : Nat) (x1 : Int32) (x2 : Nat) (x3 : Int32) (x4 : Nat) (σ : q_S) => q_G l cx M_AL_add 5 320 0 0 38 [(0, .inr (.inr x0)), (1, .inl x1), (2, .inr (.inr x2)), (3, .inl x3), (4, .inr (.inr x4))] [] σ R)
  have hV := hV (by
      intro x0 x1 x2 x3 x4 σ hV
      show q_G l cx M_AL_add 5 320 0 0 38 [(0, .inr (.inr x0)), (1, .inl x1), (2, .inr (.inr x2)), (3, .inl x3), (4, .inr (.inr x4))] [] σ R
      refine q_run k_AL_add 22 9 49 rfl ?_
      show q_G l cx M_AL_add 5 320 0 0 49 [(0, .inr (.inr x0)), (1, .inl x1), (2, .inr (.inr x2)), (3, .inl x3), (4, .inr (.inr x4))] [.inl (x3 - x1), .inl (x1 + (1 : Int32)), .inr (.inr x4), .inl x1, .inr (.inr x4)] σ R
      obtain ⟨s1, s2, s3, s4, s5, s6, s7, s8, hV⟩ := hV
      refine q_copyP (q_dc k_AL_add 31 rfl) (List.mem_of_getElem? (i := 671) (by decide +kernel)) (List.mem_of_getElem? (i := 193) (by decide +kernel)) (List.mem_of_getElem? (i := 192) (by decide +kernel)) (List.mem_of_getElem? (i := 88) (by decide +kernel)) (Nat.le_of_ble_eq_true rfl) ⟨Nat.le_of_ble_eq_true rfl, by decide +kernel⟩ s1 s2 s3 s4 s5 s6 s7 s8 ?_
      refine q_let (fun σ9 => q_G l cx M_AL_add 5 320 0 0 52 [(0, .inr (.inr x0)), (1, .inl x1), (2, .inr (.inr x2)), (3, .inl x3), (4, .inr (.inr x4))] [] σ9 R) (q_sP σ x4 (va_cpy (q_P σ x4) (q_P σ x4) x1.toNatClampNeg (x1 + (1 : Int32)).toNatClampNeg (x3 - x1).toNatClampNeg)) (fun σ9 e_σ9 => ?_)
      have hV := hV σ9 e_σ9
      refine q_run k_AL_add 32 3 56 rfl ?_
      show q_G l cx M_AL_add 5 320 0 0 56 [(0, .inr (.inr x0)), (1, .inl x1), (2, .inr (.inr x2)), (3, .inl x3), (4, .inr (.inr x4))] [.inr (.inr x2), .inl x1, .inr (.inr x4)] σ9 R
      obtain ⟨s10, s11, s12, hV⟩ := hV
      refine q_aast (q_dc k_AL_add 35 rfl) s10 s11 s12 ?_
      refine q_let (fun σ13 => q_G l cx M_AL_add 5 320 0 0 57 [(0, .inr (.inr x0)), (1, .inl x1), (2, .inr (.inr x2)), (3, .inl x3), (4, .inr (.inr x4))] [] σ13 R) (q_wP σ9 x4 x1.toNatClampNeg x2) (fun σ13 e_σ13 => ?_)
      have hV := hV σ13 e_σ13
      refine q_run k_AL_add 36 5 64 rfl ?_
      show q_K σ13 x0 = 8 ∧ q_G l cx M_AL_add 5 320 0 0 64 [(0, .inr (.inr x0)), (1, .inl x1), (2, .inr (.inr x2)), (3, .inl x3), (4, .inr (.inr x4))] [] (q_wI σ13 x0 1 (x3 + (1 : Int32))) R
      obtain ⟨s15, hV⟩ := hV
      refine ⟨s15, ?_⟩
      refine q_let (fun σ14 => q_G l cx M_AL_add 5 320 0 0 64 [(0, .inr (.inr x0)), (1, .inl x1), (2, .inr (.inr x2)), (3, .inl x3), (4, .inr (.inr x4))] [] σ14 R) (q_wI σ13 x0 1 (x3 + (1 : Int32))) (fun σ14 e_σ14 => ?_)
      have hV := hV σ14 e_σ14
      exact q_vreturn (q_dc k_AL_add 41 rfl) rfl hV)
  refine q_run k_AL_add 0 2 2 rfl ?_
  show q_G l cx M_AL_add 5 320 2 38 2 [(0, .inr (.inr x0)), (1, .inl x1), (2, .inr (.inr x2))] [.inl x1, .inr (.inr x0)] σ R
  obtain ⟨s1, hV⟩ := hV
  refine q_less (kc' := 1 + 1) (ks' := 32 + 6) (Nat.le_of_ble_eq_true rfl) (Nat.le_of_ble_eq_true rfl) ?_
  refine q_callV (st := []) (as := [.inl x1]) (t_AL_rangeCheckForAdd (l := l) (cx := cx)  hV) (q_dc k_AL_add 2 rfl) (Or.inl (List.mem_of_getElem? (i := 415) (by decide +kernel))) w_AL_rangeCheckForAdd n_AL_rangeCheckForAdd (ci := 7) rfl e_AL_rangeCheckForAdd a_AL_rangeCheckForAdd (q_wt (Nat.le_of_ble_eq_true rfl)) ⟨Nat.le_of_ble_eq_true rfl, Nat.le_of_ble_eq_true rfl⟩ s1 (fun v9 τ9 q9 => ?_) (fun n9 τ9 q9 => q_T.leave rfl q9)
  obtain ⟨rfl, hV⟩ := q_cv_elim q9
  clear q9
  have hV := hV
  revert hV
  generalize τ9 = σ5
  intro hV
  show q_G l cx M_AL_add 5 320 1 32 5 [(0, .inr (.inr x0)), (1, .inl x1), (2, .inr (.inr x2))] [] σ5 R
  refine q_run k_AL_add 3 6 15 rfl ?_
  show q_K σ5 x0 = 8 ∧ q_K σ5 x0 = 8 ∧ q_G l cx M_AL_add 5 320 1 32 15 [(0, .inr (.inr x0)), (1, .inl x1), (2, .inr (.inr x2))] [] (q_wI σ5 x0 2 ((q_I σ5 x0 2) + (1 : Int32))) R
  obtain ⟨s7, s8, hV⟩ := hV
  refine ⟨s7, s8, ?_⟩
  refine q_let (fun σ6 => q_G l cx M_AL_add 5 320 1 32 15 [(0, .inr (.inr x0)), (1, .inl x1), (2, .inr (.inr x2))] [] σ6 R) (q_wI σ5 x0 2 ((q_I σ5 x0 2) + (1 : Int32))) (fun σ6 e_σ6 => ?_)
  have hV := hV σ6 e_σ6
  refine q_run k_AL_add 9 4 21 rfl ?_
  show q_K σ6 x0 = 8 ∧ q_G l cx M_AL_add 5 320 1 32 21 [(3, .inl (q_I σ6 x0 1)), (0, .inr (.inr x0)), (1, .inl x1), (2, .inr (.inr x2))] [.inl (q_I σ6 x0 1)] σ6 R
  obtain ⟨s10, hV⟩ := hV
  refine ⟨s10, ?_⟩
  refine q_let (fun v9 => q_G l cx M_AL_add 5 320 1 32 21 [(3, .inl v9), (0, .inr (.inr x0)), (1, .inl x1), (2, .inr (.inr x2))] [.inl (q_I σ6 x0 1)] σ6 R) (q_I σ6 x0 1) (fun v9 e_v9 => ?_)
  have hV := hV v9 e_v9
  refine q_run k_AL_add 13 4 28 rfl ?_
  show q_K σ6 x0 = 8 ∧ q_G l cx M_AL_add 5 320 1 32 28 [(4, .inr (.inr (q_P σ6 x0 0))), (3, .inl v9), (0, .inr (.inr x0)), (1, .inl x1), (2, .inr (.inr x2))] [.inr (.inr (q_P σ6 x0 0)), .inl (q_I σ6 x0 1)] σ6 R
  obtain ⟨s12, hV⟩ := hV
  refine ⟨s12, ?_⟩
  refine q_let (fun v11 => q_G l cx M_AL_add 5 320 1 32 28 [(4, .inr (.inr v11)), (3, .inl v9), (0, .inr (.inr x0)), (1, .inl x1), (2, .inr (.inr x2))] [.inr (.inr (q_P σ6 x0 0)), .inl (q_I σ6 x0 1)] σ6 R) (q_P σ6 x0 0) (fun v11 e_v11 => ?_)
  have hV := hV v11 e_v11
  refine q_run k_AL_add 17 1 29 rfl ?_
  show 1000 ≤ q_K σ6 (q_P σ6 x0 0) ∧ q_G l cx M_AL_add 5 320 1 32 29 [(4, .inr (.inr v11)), (3, .inl v9), (0, .inr (.inr x0)), (1, .inl x1), (2, .inr (.inr x2))] [.inl (nI (q_Z σ6 (q_P σ6 x0 0))), .inl (q_I σ6 x0 1)] σ6 R
  obtain ⟨s13, hV⟩ := hV
  refine ⟨s13, ?_⟩
  refine q_icmp (q_dc k_AL_add 18 rfl) rfl (fun h14 => ?_) (fun h14 => ?_)
  · have hV := hV.1 h14
    exact q_less (Nat.le_of_ble_eq_true rfl) (Nat.le_of_ble_eq_true rfl) (q_subk [2, 3, 4, 1, 0] rfl hV)
  · have hV := hV.2 h14
    refine q_run k_AL_add 19 1 33 rfl ?_
    show q_G l cx M_AL_add 5 320 1 32 33 [(4, .inr (.inr v11)), (3, .inl v9), (0, .inr (.inr x0)), (1, .inl x1), (2, .inr (.inr x2))] [.inr (.inr x0)] σ6 R
    obtain ⟨s15, hV⟩ := hV
    refine q_less (kc' := 0 + 1) (ks' := 0 + 32) (Nat.le_of_ble_eq_true rfl) (Nat.le_of_ble_eq_true rfl) ?_
    refine q_callV (st := []) (as := []) (t_AL_grow (l := l) (cx := cx)  hV) (q_dc k_AL_add 20 rfl) (Or.inl (List.mem_of_getElem? (i := 638) (by decide +kernel))) w_AL_grow n_AL_grow (ci := 7) rfl e_AL_grow a_AL_grow (q_wt (Nat.le_of_ble_eq_true rfl)) ⟨Nat.le_of_ble_eq_true rfl, Nat.le_of_ble_eq_true rfl⟩ s15 (fun v9 τ9 q9 => ?_) (fun n9 τ9 q9 => q_T.leave rfl q9)
    obtain ⟨v18, rfl, hV⟩ := q_cr_elim q9
    clear q9
    have hV := hV
    revert hV
    generalize τ9 = σ19
    intro hV
    show q_G l cx M_AL_add 5 320 0 0 36 [(4, .inr (.inr v11)), (3, .inl v9), (0, .inr (.inr x0)), (1, .inl x1), (2, .inr (.inr x2))] [.inr (.inr v18)] σ19 R
    refine q_run k_AL_add 21 1 38 rfl ?_
    show q_G l cx M_AL_add 5 320 0 0 38 [(4, .inr (.inr v18)), (3, .inl v9), (0, .inr (.inr x0)), (1, .inl x1), (2, .inr (.inr x2))] [] σ19 R
    exact q_less (Nat.le_of_ble_eq_true rfl) (Nat.le_of_ble_eq_true rfl) (q_subk [2, 3, 4, 1, 0] rfl hV)
