/-! WHAT METHODS ASK, further (by program) -/
def V_PM_span (x0 : Int32) (x1 : Int32) (σ : q_S) (R : q_O → q_S → Prop) : Prop :=
  ∀ (P5 : Int32 → Int64 → Int32 → q_S → Prop),
  (∀ (x1 : Int32) (x2 : Int64) (x4 : Int32) (σ : q_S), (((x1 < x4 → R (.inl (some (.inr (.inl x2)))) σ) ∧ (¬ (x1 < x4) → ∀ v2 : Int64, v2 = x2 ||| (f_PM_bit x4) → ∀ v3 : Int32, v3 = x4 + (1 : Int32) → P5 x1 v2 v3 σ))) → P5 x1 x2 x4 σ) →
  P5 x1 (0 : Int64) x0 σ
set_option maxRecDepth 100000 in
theorem t_PM_span {l : Launch} {cx : q_C} {x0 : Int32} {x1 : Int32} {σ : q_S} {R : q_O → q_S → Prop} (hV : V_PM_span x0 x1 σ R) : q_Ct l cx M_PM_span 1 64 0 0 [q_i x0, q_i x1] σ R := by
  refine q_Ct.of p_PM_span c_PM_span rfl (Nat.le_of_ble_eq_true rfl) ?_
  have hV := hV (fun (x1 : Int32) (x2 : Int64) (x4 : Int32) (σ : q_S) => q_G l cx M_PM_span 1 64 0 0 5 [(1, .inl x1), (2, .inr (.inl x2)), (4, .inl x4)] [] σ R)
  have hV := hV (by
      intro x1 x2 x4 σ hV
      show q_G l cx M_PM_span 1 64 0 0 5 [(1, .inl x1), (2, .inr (.inl x2)), (4, .inl x4)] [] σ R
      refine q_run k_PM_span 4 2 8 rfl ?_
      show q_G l cx M_PM_span 1 64 0 0 8 [(1, .inl x1), (2, .inr (.inl x2)), (4, .inl x4)] [.inl x1, .inl x4] σ R
      refine q_icmp (q_dc k_PM_span 6 rfl) rfl (fun h1 => ?_) (fun h1 => ?_)
      · have hV := hV.1 h1
        refine q_run k_PM_span 14 1 26 rfl ?_
        show q_G l cx M_PM_span 1 64 0 0 26 [(1, .inl x1), (2, .inr (.inl x2)), (4, .inl x4)] [.inr (.inl x2)] σ R
        exact q_lreturn (q_dc k_PM_span 15 rfl) rfl hV
      · have hV := hV.2 h1
        refine q_run k_PM_span 7 2 14 rfl ?_
        show q_G l cx M_PM_span 1 64 0 0 14 [(1, .inl x1), (2, .inr (.inl x2)), (4, .inl x4)] [.inl x4, .inr (.inl x2)] σ R
        refine q_callS (st := [.inr (.inl x2)]) (t_PM_bit (l := l) (cx := cx) (σ := σ) x4) (q_dc k_PM_span 9 rfl) (Or.inl (List.mem_of_getElem? (i := 1007) (by decide +kernel))) w_PM_bit s_PM_bit a_PM_bit (q_wt (Nat.le_of_ble_eq_true rfl)) ⟨Nat.le_of_ble_eq_true rfl, Nat.le_of_ble_eq_true rfl⟩ (fun v9 τ9 q9 => ?_) (fun n9 τ9 q9 => by cases q9.1)
        obtain ⟨q8, q7⟩ := q9
        cases q8
        rw [q7]
        show q_G l cx M_PM_span 1 64 0 0 17 [(1, .inl x1), (2, .inr (.inl x2)), (4, .inl x4)] [.inr (.inl (f_PM_bit x4)), .inr (.inl x2)] σ R
        refine q_run k_PM_span 10 2 19 rfl ?_
        show q_G l cx M_PM_span 1 64 0 0 19 [(2, .inr (.inl (x2 ||| (f_PM_bit x4)))), (1, .inl x1), (4, .inl x4)] [] σ R
        refine q_let (fun v2 => q_G l cx M_PM_span 1 64 0 0 19 [(2, .inr (.inl v2)), (1, .inl x1), (4, .inl x4)] [] σ R) (x2 ||| (f_PM_bit x4)) (fun v2 e_v2 => ?_)
        have hV := hV v2 e_v2
        refine q_run k_PM_span 12 1 22 rfl ?_
        show q_G l cx M_PM_span 1 64 0 0 22 [(4, .inl (x4 + (1 : Int32))), (2, .inr (.inl v2)), (1, .inl x1)] [] σ R
        refine q_let (fun v3 => q_G l cx M_PM_span 1 64 0 0 22 [(4, .inl v3), (2, .inr (.inl v2)), (1, .inl x1)] [] σ R) (x4 + (1 : Int32)) (fun v3 e_v3 => ?_)
        have hV := hV v3 e_v3
        refine q_goto (q_dc k_PM_span 13 rfl) rfl ?_
        exact q_less (Nat.le_of_ble_eq_true rfl) (Nat.le_of_ble_eq_true rfl) (q_subk [2, 1, 0] rfl hV))
  refine q_run k_PM_span 0 4 5 rfl ?_
  show q_G l cx M_PM_span 1 64 0 0 5 [(4, .inl x0), (2, .inr (.inl (0 : Int64))), (0, .inl x0), (1, .inl x1)] [] σ R
  exact q_less (Nat.le_of_ble_eq_true rfl) (Nat.le_of_ble_eq_true rfl) (q_subk [3, 1, 0] rfl hV)
def V_PM_rectangle (x0 : Int32) (x1 : Int32) (x2 : Int32) (x3 : Int32) (x4 : Int32) (σ : q_S) (R : q_O → q_S → Prop) : Prop :=
  ∀ (P20 : q_S → Prop),
  ∀ (P21 : Int64 → q_S → Prop),
  (∀ (σ : q_S), (P21 (0 : Int64) σ) → P20 σ) →
  (∀ (y0 : Int64) (σ : q_S), (R (.inl (some (.inr (.inl y0)))) σ) → P21 y0 σ) →
  ((x4 < x1 → P20  σ) ∧ (¬ (x4 < x1) → ((x3 < x4 → P20  σ) ∧ (¬ (x3 < x4) → V_PM_span x0 x2 σ (q_cl' (fun v5 σ6 => P21 v5 σ6) (fun n9 σ9 => R (.inr n9) σ9))))))
set_option maxRecDepth 100000 in
theorem t_PM_rectangle {l : Launch} {cx : q_C} {x0 : Int32} {x1 : Int32} {x2 : Int32} {x3 : Int32} {x4 : Int32} {σ : q_S} {R : q_O → q_S → Prop} (hV : V_PM_rectangle x0 x1 x2 x3 x4 σ R) : q_Ct l cx M_PM_rectangle 2 128 0 0 [q_i x0, q_i x1, q_i x2, q_i x3, q_i x4] σ R := by
  refine q_Ct.of p_PM_rectangle c_PM_rectangle rfl (Nat.le_of_ble_eq_true rfl) ?_
  have hV := hV (fun (σ : q_S) => q_G l cx M_PM_rectangle 2 128 0 0 20 [] [] σ R) (fun (y0 : Int64) (σ : q_S) => q_G l cx M_PM_rectangle 2 128 0 0 21 [] [.inr (.inl y0)] σ R)
  have hV := hV (by
      intro σ hV
      show q_G l cx M_PM_rectangle 2 128 0 0 20 [] [] σ R
      refine q_run k_PM_rectangle 10 1 21 rfl ?_
      show q_G l cx M_PM_rectangle 2 128 0 0 21 [] [.inr (.inl (0 : Int64))] σ R
      exact q_less (Nat.le_of_ble_eq_true rfl) (Nat.le_of_ble_eq_true rfl) (q_subk [] rfl hV))
  have hV := hV (by
      intro y0 σ hV
      show q_G l cx M_PM_rectangle 2 128 0 0 21 [] [.inr (.inl y0)] σ R
      exact q_lreturn (q_dc k_PM_rectangle 11 rfl) rfl hV)
  refine q_run k_PM_rectangle 0 2 3 rfl ?_
  show q_G l cx M_PM_rectangle 2 128 0 0 3 [(0, .inl x0), (1, .inl x1), (2, .inl x2), (3, .inl x3), (4, .inl x4)] [.inl x1, .inl x4] σ R
  refine q_icmp (q_dc k_PM_rectangle 2 rfl) rfl (fun h1 => ?_) (fun h1 => ?_)
  · have hV := hV.1 h1
    exact q_less (Nat.le_of_ble_eq_true rfl) (Nat.le_of_ble_eq_true rfl) (q_subk [] rfl hV)
  · have hV := hV.2 h1
    refine q_run k_PM_rectangle 3 2 9 rfl ?_
    show q_G l cx M_PM_rectangle 2 128 0 0 9 [(0, .inl x0), (1, .inl x1), (2, .inl x2), (3, .inl x3), (4, .inl x4)] [.inl x3, .inl x4] σ R
    refine q_icmp (q_dc k_PM_rectangle 5 rfl) rfl (fun h2 => ?_) (fun h2 => ?_)
    · have hV := hV.1 h2
      exact q_less (Nat.le_of_ble_eq_true rfl) (Nat.le_of_ble_eq_true rfl) (q_subk [] rfl hV)
    · have hV := hV.2 h2
      refine q_run k_PM_rectangle 6 2 14 rfl ?_
      show q_G l cx M_PM_rectangle 2 128 0 0 14 [(0, .inl x0), (1, .inl x1), (2, .inl x2), (3, .inl x3), (4, .inl x4)] [.inl x2, .inl x0] σ R
      refine q_callS (st := []) (t_PM_span (l := l) (cx := cx)  hV) (q_dc k_PM_rectangle 8 rfl) (Or.inl (List.mem_of_getElem? (i := 1016) (by decide +kernel))) w_PM_span s_PM_span a_PM_span (q_wt (Nat.le_of_ble_eq_true rfl)) ⟨Nat.le_of_ble_eq_true rfl, Nat.le_of_ble_eq_true rfl⟩ (fun v9 τ9 q9 => ?_) (fun n9 τ9 q9 => q_T.leave rfl q9)
      obtain ⟨v5, rfl, hV⟩ := q_cl_elim q9
      clear q9
      have hV := hV
      revert hV
      generalize τ9 = σ6
      intro hV
      show q_G l cx M_PM_rectangle 2 128 0 0 17 [(0, .inl x0), (1, .inl x1), (2, .inl x2), (3, .inl x3), (4, .inl x4)] [.inr (.inl v5)] σ6 R
      refine q_goto (q_dc k_PM_rectangle 9 rfl) rfl ?_
      exact q_less (Nat.le_of_ble_eq_true rfl) (Nat.le_of_ble_eq_true rfl) (q_subk [] rfl hV)
def V_PM_wide (x0 : Int64) (x2 : Int32) (σ : q_S) (R : q_O → q_S → Prop) : Prop :=
  ∀ (P5 : Int32 → Int64 → Int32 → q_S → Prop),
  (∀ (x2 : Int32) (x3 : Int64) (x5 : Int32) (σ : q_S), (((x2 ≤ x5 → R (.inl (some (.inr (.inl x3)))) σ) ∧ (¬ (x2 ≤ x5) → ∀ v2 : Int64, v2 = ((x3 ||| (x3 <<< ((1 : Int32).toInt64 &&& 63))) ||| (x3 >>> ((1 : Int32).toInt64 &&& 63))) &&& (4294967295 : Int64) → ∀ v3 : Int32, v3 = x5 + (1 : Int32) → P5 x2 v2 v3 σ))) → P5 x2 x3 x5 σ) →
  P5 x2 x0 (0 : Int32) σ
set_option maxRecDepth 100000 in
theorem t_PM_wide {l : Launch} {cx : q_C} {x0 : Int64} {x2 : Int32} {σ : q_S} {R : q_O → q_S → Prop} (hV : V_PM_wide x0 x2 σ R) : q_Ct l cx M_PM_wide 0 0 0 0 [q_l x0, q_i x2] σ R := by
  refine q_Ct.of p_PM_wide c_PM_wide rfl (Nat.le_of_ble_eq_true rfl) ?_
  have hV := hV (fun (x2 : Int32) (x3 : Int64) (x5 : Int32) (σ : q_S) => q_G l cx M_PM_wide 0 0 0 0 5 [(2, .inl x2), (3, .inr (.inl x3)), (5, .inl x5)] [] σ R)
  have hV := hV (by
      intro x2 x3 x5 σ hV
      show q_G l cx M_PM_wide 0 0 0 0 5 [(2, .inl x2), (3, .inr (.inl x3)), (5, .inl x5)] [] σ R
      refine q_run k_PM_wide 4 2 8 rfl ?_
      show q_G l cx M_PM_wide 0 0 0 0 8 [(2, .inl x2), (3, .inr (.inl x3)), (5, .inl x5)] [.inl x2, .inl x5] σ R
      refine q_icmp (q_dc k_PM_wide 6 rfl) rfl (fun h1 => ?_) (fun h1 => ?_)
      · have hV := hV.1 h1
        refine q_run k_PM_wide 21 1 32 rfl ?_
        show q_G l cx M_PM_wide 0 0 0 0 32 [(2, .inl x2), (3, .inr (.inl x3)), (5, .inl x5)] [.inr (.inl x3)] σ R
        exact q_lreturn (q_dc k_PM_wide 22 rfl) rfl hV
      · have hV := hV.2 h1
        refine q_run k_PM_wide 7 12 25 rfl ?_
        show q_G l cx M_PM_wide 0 0 0 0 25 [(3, .inr (.inl (((x3 ||| (x3 <<< ((1 : Int32).toInt64 &&& 63))) ||| (x3 >>> ((1 : Int32).toInt64 &&& 63))) &&& (4294967295 : Int64)))), (2, .inl x2), (5, .inl x5)] [] σ R
        refine q_let (fun v2 => q_G l cx M_PM_wide 0 0 0 0 25 [(3, .inr (.inl v2)), (2, .inl x2), (5, .inl x5)] [] σ R) (((x3 ||| (x3 <<< ((1 : Int32).toInt64 &&& 63))) ||| (x3 >>> ((1 : Int32).toInt64 &&& 63))) &&& (4294967295 : Int64)) (fun v2 e_v2 => ?_)
        have hV := hV v2 e_v2
        refine q_run k_PM_wide 19 1 28 rfl ?_
        show q_G l cx M_PM_wide 0 0 0 0 28 [(5, .inl (x5 + (1 : Int32))), (3, .inr (.inl v2)), (2, .inl x2)] [] σ R
        refine q_let (fun v3 => q_G l cx M_PM_wide 0 0 0 0 28 [(5, .inl v3), (3, .inr (.inl v2)), (2, .inl x2)] [] σ R) (x5 + (1 : Int32)) (fun v3 e_v3 => ?_)
        have hV := hV v3 e_v3
        refine q_goto (q_dc k_PM_wide 20 rfl) rfl ?_
        exact q_less (Nat.le_of_ble_eq_true rfl) (Nat.le_of_ble_eq_true rfl) (q_subk [2, 1, 0] rfl hV))
  refine q_run k_PM_wide 0 4 5 rfl ?_
  show q_G l cx M_PM_wide 0 0 0 0 5 [(5, .inl (0 : Int32)), (3, .inr (.inl x0)), (0, .inr (.inl x0)), (2, .inl x2)] [] σ R
  exact q_less (Nat.le_of_ble_eq_true rfl) (Nat.le_of_ble_eq_true rfl) (q_subk [3, 1, 0] rfl hV)
def V_PM_plane (x0 : Nat) (x1 : Int32) (x2 : Int32) (x3 : Int32) (σ : q_S) (R : q_O → q_S → Prop) : Prop :=
  ∀ (P36 : Nat → Int32 → Int32 → Int32 → Nat → q_S → Prop),
  ∀ (P37 : Nat → Int32 → Int32 → Int32 → Int32 → Nat → q_S → Prop),
  (∀ (x0 : Nat) (x1 : Int32) (x2 : Int32) (x3 : Int32) (y0 : Nat) (σ : q_S), (P37 x0 x1 x2 x3 (2 : Int32) y0 σ) → P36 x0 x1 x2 x3 y0 σ) →
  (∀ (x0 : Nat) (x1 : Int32) (x2 : Int32) (x3 : Int32) (y0 : Int32) (y1 : Nat) (σ : q_S), (q_K σ y1 = 7 ∧ ∀ σ1 : q_S, σ1 = q_wI σ y1 0 y0 → q_K σ1 x0 = 7 ∧ (((q_I σ1 x0 0) = (0 : Int32) → q_K σ1 x0 = 7 ∧ ((¬ (q_I σ1 x0 2) = (8 : Int32) → q_K σ1 x0 = 7 ∧ q_K σ1 x0 = 7 ∧ q_K σ1 (q_P σ1 x0 3) = 1000 ∧ vp_in (q_I σ1 x0 2) (q_Z σ1 (q_P σ1 x0 3)) ∧ ∀ σ7 : q_S, σ7 = q_wI σ1 (q_P σ1 x0 3) (q_I σ1 x0 2).toNatClampNeg x1 → q_K σ7 x0 = 7 ∧ q_K σ7 x0 = 7 ∧ q_K σ7 (q_P σ7 x0 4) = 1000 ∧ vp_in (q_I σ7 x0 2) (q_Z σ7 (q_P σ7 x0 4)) ∧ ∀ σ12 : q_S, σ12 = q_wI σ7 (q_P σ7 x0 4) (q_I σ7 x0 2).toNatClampNeg x2 → q_K σ12 x0 = 7 ∧ q_K σ12 x0 = 7 ∧ q_K σ12 (q_P σ12 x0 5) = 1000 ∧ vp_in (q_I σ12 x0 2) (q_Z σ12 (q_P σ12 x0 5)) ∧ ∀ σ17 : q_S, σ17 = q_wI σ12 (q_P σ12 x0 5) (q_I σ12 x0 2).toNatClampNeg x3 → q_K σ17 x0 = 7 ∧ q_K σ17 x0 = 7 ∧ ∀ σ22 : q_S, σ22 = q_wI σ17 x0 2 ((q_I σ17 x0 2) + (1 : Int32)) → q_K σ22 x0 = 7 ∧ R (.inl (some (.inl ((q_I σ22 x0 2) - (1 : Int32))))) σ22) ∧ (¬ (¬ (q_I σ1 x0 2) = (8 : Int32)) → R (.inl (some (.inl (-1 : Int32)))) σ1))) ∧ (¬ ((q_I σ1 x0 0) = (0 : Int32)) → R (.inl (some (.inl (0 : Int32)))) σ1))) → P37 x0 x1 x2 x3 y0 y1 σ) →
  q_K σ x0 = 7 ∧ ((¬ (f_PM_isLayer σ x0 x2) = (0 : Int32) → (((f_PM_isNet x1) = (0 : Int32) → P36 x0 x1 x2 x3 x0 σ) ∧ (¬ ((f_PM_isNet x1) = (0 : Int32)) → ((x3 < (-100 : Int32) → P36 x0 x1 x2 x3 x0 σ) ∧ (¬ (x3 < (-100 : Int32)) → (((100 : Int32) < x3 → P36 x0 x1 x2 x3 x0 σ) ∧ (¬ ((100 : Int32) < x3) → P37 x0 x1 x2 x3 (0 : Int32) x0 σ))))))) ∧ (¬ (¬ (f_PM_isLayer σ x0 x2) = (0 : Int32)) → P37 x0 x1 x2 x3 (1 : Int32) x0 σ))
set_option maxRecDepth 100000 in
theorem t_PM_plane {l : Launch} {cx : q_C} {x0 : Nat} {x1 : Int32} {x2 : Int32} {x3 : Int32} {σ : q_S} {R : q_O → q_S → Prop} (hV : V_PM_plane x0 x1 x2 x3 σ R) : q_Ct l cx M_PM_plane 1 64 0 0 [q_r x0, q_i x1, q_i x2, q_i x3] σ R := by
  refine q_Ct.of p_PM_plane c_PM_plane rfl (Nat.le_of_ble_eq_true rfl) ?_
  have hV := hV (fun (x0 : Nat) (x1 : Int32) (x2 : Int32) (x3 : Int32) (y0 : Nat) (σ : q_S) => q_G l cx M_PM_plane 1 64 0 0 36 [(0, .inr (.inr x0)), (1, .inl x1), (2, .inl x2), (3, .inl x3)] [.inr (.inr y0)] σ R) (fun (x0 : Nat) (x1 : Int32) (x2 : Int32) (x3 : Int32) (y0 : Int32) (y1 : Nat) (σ : q_S) => q_G l cx M_PM_plane 1 64 0 0 37 [(0, .inr (.inr x0)), (1, .inl x1), (2, .inl x2), (3, .inl x3)] [.inl y0, .inr (.inr y1)] σ R)
  have hV := hV (by
      intro x0 x1 x2 x3 y0 σ hV
      show q_G l cx M_PM_plane 1 64 0 0 36 [(0, .inr (.inr x0)), (1, .inl x1), (2, .inl x2), (3, .inl x3)] [.inr (.inr y0)] σ R
      refine q_run k_PM_plane 18 1 37 rfl ?_
      show q_G l cx M_PM_plane 1 64 0 0 37 [(0, .inr (.inr x0)), (1, .inl x1), (2, .inl x2), (3, .inl x3)] [.inl (2 : Int32), .inr (.inr y0)] σ R
      exact q_less (Nat.le_of_ble_eq_true rfl) (Nat.le_of_ble_eq_true rfl) (q_subk [0, 1, 2, 3] rfl hV))
  have hV := hV (by
      intro x0 x1 x2 x3 y0 y1 σ hV
      show q_G l cx M_PM_plane 1 64 0 0 37 [(0, .inr (.inr x0)), (1, .inl x1), (2, .inl x2), (3, .inl x3)] [.inl y0, .inr (.inr y1)] σ R
      refine q_run k_PM_plane 19 1 40 rfl ?_
      show q_K σ y1 = 7 ∧ q_G l cx M_PM_plane 1 64 0 0 40 [(0, .inr (.inr x0)), (1, .inl x1), (2, .inl x2), (3, .inl x3)] [] (q_wI σ y1 0 y0) R
      obtain ⟨s2, hV⟩ := hV
      refine ⟨s2, ?_⟩
      refine q_let (fun σ1 => q_G l cx M_PM_plane 1 64 0 0 40 [(0, .inr (.inr x0)), (1, .inl x1), (2, .inl x2), (3, .inl x3)] [] σ1 R) (q_wI σ y1 0 y0) (fun σ1 e_σ1 => ?_)
      have hV := hV σ1 e_σ1
      refine q_run k_PM_plane 20 2 44 rfl ?_
      show q_K σ1 x0 = 7 ∧ q_G l cx M_PM_plane 1 64 0 0 44 [(0, .inr (.inr x0)), (1, .inl x1), (2, .inl x2), (3, .inl x3)] [.inl (q_I σ1 x0 0)] σ1 R
      obtain ⟨s3, hV⟩ := hV
      refine ⟨s3, ?_⟩
      refine q_ifz (q_dc k_PM_plane 22 rfl) rfl (fun h4 => ?_) (fun h4 => ?_)
      · have hV := hV.1 h4
        refine q_run k_PM_plane 25 3 55 rfl ?_
        show q_K σ1 x0 = 7 ∧ q_G l cx M_PM_plane 1 64 0 0 55 [(0, .inr (.inr x0)), (1, .inl x1), (2, .inl x2), (3, .inl x3)] [.inl (8 : Int32), .inl (q_I σ1 x0 2)] σ1 R
        obtain ⟨s5, hV⟩ := hV
        refine ⟨s5, ?_⟩
        refine q_icmp (q_dc k_PM_plane 28 rfl) rfl (fun h6 => ?_) (fun h6 => ?_)
        · have hV := hV.1 h6
          refine q_run k_PM_plane 31 6 70 rfl ?_
          show q_K σ1 x0 = 7 ∧ q_K σ1 x0 = 7 ∧ q_K σ1 (q_P σ1 x0 3) = 1000 ∧ vp_in (q_I σ1 x0 2) (q_Z σ1 (q_P σ1 x0 3)) ∧ q_G l cx M_PM_plane 1 64 0 0 70 [(0, .inr (.inr x0)), (1, .inl x1), (2, .inl x2), (3, .inl x3)] [] (q_wI σ1 (q_P σ1 x0 3) (q_I σ1 x0 2).toNatClampNeg x1) R
          obtain ⟨s8, s9, s10, s11, hV⟩ := hV
          refine ⟨s8, s9, s10, s11, ?_⟩
          refine q_let (fun σ7 => q_G l cx M_PM_plane 1 64 0 0 70 [(0, .inr (.inr x0)), (1, .inl x1), (2, .inl x2), (3, .inl x3)] [] σ7 R) (q_wI σ1 (q_P σ1 x0 3) (q_I σ1 x0 2).toNatClampNeg x1) (fun σ7 e_σ7 => ?_)
          have hV := hV σ7 e_σ7
          refine q_run k_PM_plane 37 6 80 rfl ?_
          show q_K σ7 x0 = 7 ∧ q_K σ7 x0 = 7 ∧ q_K σ7 (q_P σ7 x0 4) = 1000 ∧ vp_in (q_I σ7 x0 2) (q_Z σ7 (q_P σ7 x0 4)) ∧ q_G l cx M_PM_plane 1 64 0 0 80 [(0, .inr (.inr x0)), (1, .inl x1), (2, .inl x2), (3, .inl x3)] [] (q_wI σ7 (q_P σ7 x0 4) (q_I σ7 x0 2).toNatClampNeg x2) R
          obtain ⟨s13, s14, s15, s16, hV⟩ := hV
          refine ⟨s13, s14, s15, s16, ?_⟩
          refine q_let (fun σ12 => q_G l cx M_PM_plane 1 64 0 0 80 [(0, .inr (.inr x0)), (1, .inl x1), (2, .inl x2), (3, .inl x3)] [] σ12 R) (q_wI σ7 (q_P σ7 x0 4) (q_I σ7 x0 2).toNatClampNeg x2) (fun σ12 e_σ12 => ?_)
          have hV := hV σ12 e_σ12
          refine q_run k_PM_plane 43 6 90 rfl ?_
          show q_K σ12 x0 = 7 ∧ q_K σ12 x0 = 7 ∧ q_K σ12 (q_P σ12 x0 5) = 1000 ∧ vp_in (q_I σ12 x0 2) (q_Z σ12 (q_P σ12 x0 5)) ∧ q_G l cx M_PM_plane 1 64 0 0 90 [(0, .inr (.inr x0)), (1, .inl x1), (2, .inl x2), (3, .inl x3)] [] (q_wI σ12 (q_P σ12 x0 5) (q_I σ12 x0 2).toNatClampNeg x3) R
          obtain ⟨s18, s19, s20, s21, hV⟩ := hV
          refine ⟨s18, s19, s20, s21, ?_⟩
          refine q_let (fun σ17 => q_G l cx M_PM_plane 1 64 0 0 90 [(0, .inr (.inr x0)), (1, .inl x1), (2, .inl x2), (3, .inl x3)] [] σ17 R) (q_wI σ12 (q_P σ12 x0 5) (q_I σ12 x0 2).toNatClampNeg x3) (fun σ17 e_σ17 => ?_)
          have hV := hV σ17 e_σ17
          refine q_run k_PM_plane 49 6 100 rfl ?_
          show q_K σ17 x0 = 7 ∧ q_K σ17 x0 = 7 ∧ q_G l cx M_PM_plane 1 64 0 0 100 [(0, .inr (.inr x0)), (1, .inl x1), (2, .inl x2), (3, .inl x3)] [] (q_wI σ17 x0 2 ((q_I σ17 x0 2) + (1 : Int32))) R
          obtain ⟨s23, s24, hV⟩ := hV
          refine ⟨s23, s24, ?_⟩
          refine q_let (fun σ22 => q_G l cx M_PM_plane 1 64 0 0 100 [(0, .inr (.inr x0)), (1, .inl x1), (2, .inl x2), (3, .inl x3)] [] σ22 R) (q_wI σ17 x0 2 ((q_I σ17 x0 2) + (1 : Int32))) (fun σ22 e_σ22 => ?_)
          have hV := hV σ22 e_σ22
          refine q_run k_PM_plane 55 4 106 rfl ?_
          show q_K σ22 x0 = 7 ∧ q_G l cx M_PM_plane 1 64 0 0 106 [(0, .inr (.inr x0)), (1, .inl x1), (2, .inl x2), (3, .inl x3)] [.inl ((q_I σ22 x0 2) - (1 : Int32))] σ22 R
          obtain ⟨s25, hV⟩ := hV
          refine ⟨s25, ?_⟩
          exact q_ireturn (q_dc k_PM_plane 59 rfl) rfl hV
        · have hV := hV.2 h6
          refine q_run k_PM_plane 29 1 59 rfl ?_
          show q_G l cx M_PM_plane 1 64 0 0 59 [(0, .inr (.inr x0)), (1, .inl x1), (2, .inl x2), (3, .inl x3)] [.inl (-1 : Int32)] σ1 R
          exact q_ireturn (q_dc k_PM_plane 30 rfl) rfl hV
      · have hV := hV.2 h4
        refine q_run k_PM_plane 23 1 48 rfl ?_
        show q_G l cx M_PM_plane 1 64 0 0 48 [(0, .inr (.inr x0)), (1, .inl x1), (2, .inl x2), (3, .inl x3)] [.inl (0 : Int32)] σ1 R
        exact q_ireturn (q_dc k_PM_plane 24 rfl) rfl hV)
  refine q_run k_PM_plane 0 3 3 rfl ?_
  show q_G l cx M_PM_plane 1 64 0 0 3 [(0, .inr (.inr x0)), (1, .inl x1), (2, .inl x2), (3, .inl x3)] [.inl x2, .inr (.inr x0), .inr (.inr x0)] σ R
  obtain ⟨s1, hV⟩ := hV
  refine q_callV (st := [.inr (.inr x0)]) (as := [.inl x2]) (t_PM_isLayer (l := l) (cx := cx) (σ := σ) x0 x2 s1) (q_dc k_PM_plane 3 rfl) (Or.inl (List.mem_of_getElem? (i := 944) (by decide +kernel))) w_PM_isLayer n_PM_isLayer (ci := 6) rfl e_PM_isLayer a_PM_isLayer (q_wt (Nat.le_of_ble_eq_true rfl)) ⟨Nat.le_of_ble_eq_true rfl, Nat.le_of_ble_eq_true rfl⟩ s1 (fun v9 τ9 q9 => ?_) (fun n9 τ9 q9 => by cases q9.1)
  obtain ⟨q8, q7⟩ := q9
  cases q8
  rw [q7]
  show q_G l cx M_PM_plane 1 64 0 0 6 [(0, .inr (.inr x0)), (1, .inl x1), (2, .inl x2), (3, .inl x3)] [.inl (f_PM_isLayer σ x0 x2), .inr (.inr x0)] σ R
  refine q_ifz (q_dc k_PM_plane 4 rfl) rfl (fun h2 => ?_) (fun h2 => ?_)
  · have hV := hV.1 h2
    refine q_run k_PM_plane 7 1 14 rfl ?_
    show q_G l cx M_PM_plane 1 64 0 0 14 [(0, .inr (.inr x0)), (1, .inl x1), (2, .inl x2), (3, .inl x3)] [.inl x1, .inr (.inr x0)] σ R
    refine q_callS (st := [.inr (.inr x0)]) (t_PM_isNet (l := l) (cx := cx) (σ := σ) x1) (q_dc k_PM_plane 8 rfl) (Or.inl (List.mem_of_getElem? (i := 947) (by decide +kernel))) w_PM_isNet s_PM_isNet a_PM_isNet (q_wt (Nat.le_of_ble_eq_true rfl)) ⟨Nat.le_of_ble_eq_true rfl, Nat.le_of_ble_eq_true rfl⟩ (fun v9 τ9 q9 => ?_) (fun n9 τ9 q9 => by cases q9.1)
    obtain ⟨q8, q7⟩ := q9
    cases q8
    rw [q7]
    show q_G l cx M_PM_plane 1 64 0 0 17 [(0, .inr (.inr x0)), (1, .inl x1), (2, .inl x2), (3, .inl x3)] [.inl (f_PM_isNet x1), .inr (.inr x0)] σ R
    refine q_ifz (q_dc k_PM_plane 9 rfl) rfl (fun h3 => ?_) (fun h3 => ?_)
    · have hV := hV.1 h3
      exact q_less (Nat.le_of_ble_eq_true rfl) (Nat.le_of_ble_eq_true rfl) (q_subk [0, 1, 2, 3] rfl hV)
    · have hV := hV.2 h3
      refine q_run k_PM_plane 10 2 23 rfl ?_
      show q_G l cx M_PM_plane 1 64 0 0 23 [(0, .inr (.inr x0)), (1, .inl x1), (2, .inl x2), (3, .inl x3)] [.inl (-100 : Int32), .inl x3, .inr (.inr x0)] σ R
      refine q_icmp (q_dc k_PM_plane 12 rfl) rfl (fun h4 => ?_) (fun h4 => ?_)
      · have hV := hV.1 h4
        exact q_less (Nat.le_of_ble_eq_true rfl) (Nat.le_of_ble_eq_true rfl) (q_subk [0, 1, 2, 3] rfl hV)
      · have hV := hV.2 h4
        refine q_run k_PM_plane 13 2 29 rfl ?_
        show q_G l cx M_PM_plane 1 64 0 0 29 [(0, .inr (.inr x0)), (1, .inl x1), (2, .inl x2), (3, .inl x3)] [.inl (100 : Int32), .inl x3, .inr (.inr x0)] σ R
        refine q_icmp (q_dc k_PM_plane 15 rfl) rfl (fun h5 => ?_) (fun h5 => ?_)
        · have hV := hV.1 h5
          exact q_less (Nat.le_of_ble_eq_true rfl) (Nat.le_of_ble_eq_true rfl) (q_subk [0, 1, 2, 3] rfl hV)
        · have hV := hV.2 h5
          refine q_run k_PM_plane 16 1 33 rfl ?_
          show q_G l cx M_PM_plane 1 64 0 0 33 [(0, .inr (.inr x0)), (1, .inl x1), (2, .inl x2), (3, .inl x3)] [.inl (0 : Int32), .inr (.inr x0)] σ R
          refine q_goto (q_dc k_PM_plane 17 rfl) rfl ?_
          exact q_less (Nat.le_of_ble_eq_true rfl) (Nat.le_of_ble_eq_true rfl) (q_subk [0, 1, 2, 3] rfl hV)
  · have hV := hV.2 h2
    refine q_run k_PM_plane 5 1 10 rfl ?_
    show q_G l cx M_PM_plane 1 64 0 0 10 [(0, .inr (.inr x0)), (1, .inl x1), (2, .inl x2), (3, .inl x3)] [.inl (1 : Int32), .inr (.inr x0)] σ R
    refine q_goto (q_dc k_PM_plane 6 rfl) rfl ?_
    exact q_less (Nat.le_of_ble_eq_true rfl) (Nat.le_of_ble_eq_true rfl) (q_subk [0, 1, 2, 3] rfl hV)
def V_PM_corner (x0 : Nat) (x1 : Int32) (x2 : Int64) (x4 : Int64) (σ : q_S) (R : q_O → q_S → Prop) : Prop :=
  ∀ (P27 : Nat → Int32 → Int64 → Int64 → Int32 → Nat → q_S → Prop),
  ∀ (P47 : q_S → Prop),
  (∀ (x0 : Nat) (x1 : Int32) (x2 : Int64) (x4 : Int64) (y0 : Int32) (y1 : Nat) (σ : q_S), (q_K σ y1 = 7 ∧ ∀ σ1 : q_S, σ1 = q_wI σ y1 0 y0 → q_K σ1 x0 = 7 ∧ ((¬ (q_I σ1 x0 0) = (0 : Int32) → P47  σ1) ∧ (¬ (¬ (q_I σ1 x0 0) = (0 : Int32)) → q_K σ1 x0 = 7 ∧ (q_K σ1 (q_P σ1 x0 6) = 1000 ∨ q_K σ1 (q_P σ1 x0 6) = 2000) ∧ vp_in x1 (q_Z σ1 (q_P σ1 x0 6)) ∧ ((¬ (q_I σ1 (q_P σ1 x0 6) x1.toNatClampNeg) = (4 : Int32) → q_K σ1 x0 = 7 ∧ (q_K σ1 (q_P σ1 x0 6) = 1000 ∨ q_K σ1 (q_P σ1 x0 6) = 2000) ∧ vp_in x1 (q_Z σ1 (q_P σ1 x0 6)) ∧ ∀ v9 : Int32, v9 = ((4 : Int32) * x1) + (q_I σ1 (q_P σ1 x0 6) x1.toNatClampNeg) → q_K σ1 x0 = 7 ∧ (q_K σ1 (q_P σ1 x0 7) = 1000 ∨ q_K σ1 (q_P σ1 x0 7) = 2000) ∧ vp_in v9 (q_Z σ1 (q_P σ1 x0 7)) ∧ ((¬ (q_I σ1 (q_P σ1 x0 7) v9.toNatClampNeg) = (12 : Int32) → q_K σ1 x0 = 7 ∧ q_K σ1 x0 = 7 ∧ (q_K σ1 (q_P σ1 x0 7) = 1000 ∨ q_K σ1 (q_P σ1 x0 7) = 2000) ∧ vp_in v9 (q_Z σ1 (q_P σ1 x0 7)) ∧ q_K σ1 (q_P σ1 x0 8) = 1001 ∧ vp_in (((12 : Int32) * v9) + (q_I σ1 (q_P σ1 x0 7) v9.toNatClampNeg)) (q_Z σ1 (q_P σ1 x0 8)) ∧ ∀ σ17 : q_S, σ17 = q_wL σ1 (q_P σ1 x0 8) (((12 : Int32) * v9) + (q_I σ1 (q_P σ1 x0 7) v9.toNatClampNeg)).toNatClampNeg x2 → q_K σ17 x0 = 7 ∧ q_K σ17 x0 = 7 ∧ (q_K σ17 (q_P σ17 x0 7) = 1000 ∨ q_K σ17 (q_P σ17 x0 7) = 2000) ∧ vp_in v9 (q_Z σ17 (q_P σ17 x0 7)) ∧ q_K σ17 (q_P σ17 x0 9) = 1001 ∧ vp_in (((12 : Int32) * v9) + (q_I σ17 (q_P σ17 x0 7) v9.toNatClampNeg)) (q_Z σ17 (q_P σ17 x0 9)) ∧ ∀ σ24 : q_S, σ24 = q_wL σ17 (q_P σ17 x0 9) (((12 : Int32) * v9) + (q_I σ17 (q_P σ17 x0 7) v9.toNatClampNeg)).toNatClampNeg x4 → q_K σ24 x0 = 7 ∧ (q_K σ24 (q_P σ24 x0 7) = 1000 ∨ q_K σ24 (q_P σ24 x0 7) = 2000) ∧ vp_in v9 (q_Z σ24 (q_P σ24 x0 7)) ∧ q_K σ24 (q_P σ24 x0 7) = 1000 ∧ vp_in v9 (q_Z σ24 (q_P σ24 x0 7)) ∧ ∀ σ31 : q_S, σ31 = q_wI σ24 (q_P σ24 x0 7) v9.toNatClampNeg ((q_I σ24 (q_P σ24 x0 7) v9.toNatClampNeg) + (1 : Int32)) → R (.inl (some (.inl (1 : Int32)))) σ31) ∧ (¬ (¬ (q_I σ1 (q_P σ1 x0 7) v9.toNatClampNeg) = (12 : Int32)) → R (.inl (some (.inl (0 : Int32)))) σ1))) ∧ (¬ (¬ (q_I σ1 (q_P σ1 x0 6) x1.toNatClampNeg) = (4 : Int32)) → P47  σ1))))) → P27 x0 x1 x2 x4 y0 y1 σ) →
  (∀ (σ : q_S), (R (.inl (some (.inl (0 : Int32)))) σ) → P47 σ) →
  q_K σ x0 = 7 ∧ ((¬ (f_PM_isPlane σ x0 x1) = (0 : Int32) → (((f_PM_isCorner x2 x4) = (0 : Int32) → P27 x0 x1 x2 x4 (2 : Int32) x0 σ) ∧ (¬ ((f_PM_isCorner x2 x4) = (0 : Int32)) → P27 x0 x1 x2 x4 (0 : Int32) x0 σ))) ∧ (¬ (¬ (f_PM_isPlane σ x0 x1) = (0 : Int32)) → P27 x0 x1 x2 x4 (1 : Int32) x0 σ))
set_option maxRecDepth 100000 in
theorem t_PM_corner {l : Launch} {cx : q_C} {x0 : Nat} {x1 : Int32} {x2 : Int64} {x4 : Int64} {σ : q_S} {R : q_O → q_S → Prop} (hV : V_PM_corner x0 x1 x2 x4 σ R) : q_Ct l cx M_PM_corner 1 64 0 0 [q_r x0, q_i x1, q_l x2, q_l x4] σ R := by
  refine q_Ct.of p_PM_corner c_PM_corner rfl (Nat.le_of_ble_eq_true rfl) ?_
  have hV := hV (fun (x0 : Nat) (x1 : Int32) (x2 : Int64) (x4 : Int64) (y0 : Int32) (y1 : Nat) (σ : q_S) => q_G l cx M_PM_corner 1 64 0 0 27 [(0, .inr (.inr x0)), (1, .inl x1), (2, .inr (.inl x2)), (4, .inr (.inl x4))] [.inl y0, .inr (.inr y1)] σ R) (fun (σ : q_S) => q_G l cx M_PM_corner 1 64 0 0 47 [] [] σ R)
  have hV := hV (by
      intro x0 x1 x2 x4 y0 y1 σ hV
      show q_G l cx M_PM_corner 1 64 0 0 27 [(0, .inr (.inr x0)), (1, .inl x1), (2, .inr (.inl x2)), (4, .inr (.inl x4))] [.inl y0, .inr (.inr y1)] σ R
      refine q_run k_PM_corner 14 1 30 rfl ?_
      show q_K σ y1 = 7 ∧ q_G l cx M_PM_corner 1 64 0 0 30 [(0, .inr (.inr x0)), (1, .inl x1), (2, .inr (.inl x2)), (4, .inr (.inl x4))] [] (q_wI σ y1 0 y0) R
      obtain ⟨s2, hV⟩ := hV
      refine ⟨s2, ?_⟩
      refine q_let (fun σ1 => q_G l cx M_PM_corner 1 64 0 0 30 [(0, .inr (.inr x0)), (1, .inl x1), (2, .inr (.inl x2)), (4, .inr (.inl x4))] [] σ1 R) (q_wI σ y1 0 y0) (fun σ1 e_σ1 => ?_)
      have hV := hV σ1 e_σ1
      refine q_run k_PM_corner 15 2 34 rfl ?_
      show q_K σ1 x0 = 7 ∧ q_G l cx M_PM_corner 1 64 0 0 34 [(0, .inr (.inr x0)), (1, .inl x1), (2, .inr (.inl x2)), (4, .inr (.inl x4))] [.inl (q_I σ1 x0 0)] σ1 R
      obtain ⟨s3, hV⟩ := hV
      refine ⟨s3, ?_⟩
      refine q_ifz (q_dc k_PM_corner 17 rfl) rfl (fun h4 => ?_) (fun h4 => ?_)
      · have hV := hV.1 h4
        exact q_less (Nat.le_of_ble_eq_true rfl) (Nat.le_of_ble_eq_true rfl) (q_subk [] rfl hV)
      · have hV := hV.2 h4
        refine q_run k_PM_corner 18 5 44 rfl ?_
        show q_K σ1 x0 = 7 ∧ (q_K σ1 (q_P σ1 x0 6) = 1000 ∨ q_K σ1 (q_P σ1 x0 6) = 2000) ∧ vp_in x1 (q_Z σ1 (q_P σ1 x0 6)) ∧ q_G l cx M_PM_corner 1 64 0 0 44 [(0, .inr (.inr x0)), (1, .inl x1), (2, .inr (.inl x2)), (4, .inr (.inl x4))] [.inl (4 : Int32), .inl (q_I σ1 (q_P σ1 x0 6) x1.toNatClampNeg)] σ1 R
        obtain ⟨s5, s6, s7, hV⟩ := hV
        refine ⟨s5, s6, s7, ?_⟩
        refine q_icmp (q_dc k_PM_corner 23 rfl) rfl (fun h8 => ?_) (fun h8 => ?_)
        · have hV := hV.1 h8
          refine q_run k_PM_corner 26 9 61 rfl ?_
          show q_K σ1 x0 = 7 ∧ (q_K σ1 (q_P σ1 x0 6) = 1000 ∨ q_K σ1 (q_P σ1 x0 6) = 2000) ∧ vp_in x1 (q_Z σ1 (q_P σ1 x0 6)) ∧ q_G l cx M_PM_corner 1 64 0 0 61 [(6, .inl (((4 : Int32) * x1) + (q_I σ1 (q_P σ1 x0 6) x1.toNatClampNeg))), (0, .inr (.inr x0)), (1, .inl x1), (2, .inr (.inl x2)), (4, .inr (.inl x4))] [] σ1 R
          obtain ⟨s10, s11, s12, hV⟩ := hV
          refine ⟨s10, s11, s12, ?_⟩
          refine q_let (fun v9 => q_G l cx M_PM_corner 1 64 0 0 61 [(6, .inl v9), (0, .inr (.inr x0)), (1, .inl x1), (2, .inr (.inl x2)), (4, .inr (.inl x4))] [] σ1 R) (((4 : Int32) * x1) + (q_I σ1 (q_P σ1 x0 6) x1.toNatClampNeg)) (fun v9 e_v9 => ?_)
          have hV := hV v9 e_v9
          refine q_run k_PM_corner 35 5 70 rfl ?_
          show q_K σ1 x0 = 7 ∧ (q_K σ1 (q_P σ1 x0 7) = 1000 ∨ q_K σ1 (q_P σ1 x0 7) = 2000) ∧ vp_in v9 (q_Z σ1 (q_P σ1 x0 7)) ∧ q_G l cx M_PM_corner 1 64 0 0 70 [(6, .inl v9), (0, .inr (.inr x0)), (1, .inl x1), (2, .inr (.inl x2)), (4, .inr (.inl x4))] [.inl (12 : Int32), .inl (q_I σ1 (q_P σ1 x0 7) v9.toNatClampNeg)] σ1 R
          obtain ⟨s13, s14, s15, hV⟩ := hV
          refine ⟨s13, s14, s15, ?_⟩
          refine q_icmp (q_dc k_PM_corner 40 rfl) rfl (fun h16 => ?_) (fun h16 => ?_)
          · have hV := hV.1 h16
            refine q_run k_PM_corner 43 12 94 rfl ?_
            show q_K σ1 x0 = 7 ∧ q_K σ1 x0 = 7 ∧ (q_K σ1 (q_P σ1 x0 7) = 1000 ∨ q_K σ1 (q_P σ1 x0 7) = 2000) ∧ vp_in v9 (q_Z σ1 (q_P σ1 x0 7)) ∧ q_K σ1 (q_P σ1 x0 8) = 1001 ∧ vp_in (((12 : Int32) * v9) + (q_I σ1 (q_P σ1 x0 7) v9.toNatClampNeg)) (q_Z σ1 (q_P σ1 x0 8)) ∧ q_G l cx M_PM_corner 1 64 0 0 94 [(6, .inl v9), (0, .inr (.inr x0)), (1, .inl x1), (2, .inr (.inl x2)), (4, .inr (.inl x4))] [] (q_wL σ1 (q_P σ1 x0 8) (((12 : Int32) * v9) + (q_I σ1 (q_P σ1 x0 7) v9.toNatClampNeg)).toNatClampNeg x2) R
            obtain ⟨s18, s19, s20, s21, s22, s23, hV⟩ := hV
            refine ⟨s18, s19, s20, s21, s22, s23, ?_⟩
            refine q_let (fun σ17 => q_G l cx M_PM_corner 1 64 0 0 94 [(6, .inl v9), (0, .inr (.inr x0)), (1, .inl x1), (2, .inr (.inl x2)), (4, .inr (.inl x4))] [] σ17 R) (q_wL σ1 (q_P σ1 x0 8) (((12 : Int32) * v9) + (q_I σ1 (q_P σ1 x0 7) v9.toNatClampNeg)).toNatClampNeg x2) (fun σ17 e_σ17 => ?_)
            have hV := hV σ17 e_σ17
            refine q_run k_PM_corner 55 12 114 rfl ?_
            show q_K σ17 x0 = 7 ∧ q_K σ17 x0 = 7 ∧ (q_K σ17 (q_P σ17 x0 7) = 1000 ∨ q_K σ17 (q_P σ17 x0 7) = 2000) ∧ vp_in v9 (q_Z σ17 (q_P σ17 x0 7)) ∧ q_K σ17 (q_P σ17 x0 9) = 1001 ∧ vp_in (((12 : Int32) * v9) + (q_I σ17 (q_P σ17 x0 7) v9.toNatClampNeg)) (q_Z σ17 (q_P σ17 x0 9)) ∧ q_G l cx M_PM_corner 1 64 0 0 114 [(6, .inl v9), (0, .inr (.inr x0)), (1, .inl x1), (2, .inr (.inl x2)), (4, .inr (.inl x4))] [] (q_wL σ17 (q_P σ17 x0 9) (((12 : Int32) * v9) + (q_I σ17 (q_P σ17 x0 7) v9.toNatClampNeg)).toNatClampNeg x4) R
            obtain ⟨s25, s26, s27, s28, s29, s30, hV⟩ := hV
            refine ⟨s25, s26, s27, s28, s29, s30, ?_⟩
            refine q_let (fun σ24 => q_G l cx M_PM_corner 1 64 0 0 114 [(6, .inl v9), (0, .inr (.inr x0)), (1, .inl x1), (2, .inr (.inl x2)), (4, .inr (.inl x4))] [] σ24 R) (q_wL σ17 (q_P σ17 x0 9) (((12 : Int32) * v9) + (q_I σ17 (q_P σ17 x0 7) v9.toNatClampNeg)).toNatClampNeg x4) (fun σ24 e_σ24 => ?_)
            have hV := hV σ24 e_σ24
            refine q_run k_PM_corner 67 8 125 rfl ?_
            show q_K σ24 x0 = 7 ∧ (q_K σ24 (q_P σ24 x0 7) = 1000 ∨ q_K σ24 (q_P σ24 x0 7) = 2000) ∧ vp_in v9 (q_Z σ24 (q_P σ24 x0 7)) ∧ q_K σ24 (q_P σ24 x0 7) = 1000 ∧ vp_in v9 (q_Z σ24 (q_P σ24 x0 7)) ∧ q_G l cx M_PM_corner 1 64 0 0 125 [(6, .inl v9), (0, .inr (.inr x0)), (1, .inl x1), (2, .inr (.inl x2)), (4, .inr (.inl x4))] [] (q_wI σ24 (q_P σ24 x0 7) v9.toNatClampNeg ((q_I σ24 (q_P σ24 x0 7) v9.toNatClampNeg) + (1 : Int32))) R
            obtain ⟨s32, s33, s34, s35, s36, hV⟩ := hV
            refine ⟨s32, s33, s34, s35, s36, ?_⟩
            refine q_let (fun σ31 => q_G l cx M_PM_corner 1 64 0 0 125 [(6, .inl v9), (0, .inr (.inr x0)), (1, .inl x1), (2, .inr (.inl x2)), (4, .inr (.inl x4))] [] σ31 R) (q_wI σ24 (q_P σ24 x0 7) v9.toNatClampNeg ((q_I σ24 (q_P σ24 x0 7) v9.toNatClampNeg) + (1 : Int32))) (fun σ31 e_σ31 => ?_)
            have hV := hV σ31 e_σ31
            refine q_run k_PM_corner 75 1 126 rfl ?_
            show q_G l cx M_PM_corner 1 64 0 0 126 [(6, .inl v9), (0, .inr (.inr x0)), (1, .inl x1), (2, .inr (.inl x2)), (4, .inr (.inl x4))] [.inl (1 : Int32)] σ31 R
            exact q_zreturn (q_dc k_PM_corner 76 rfl) rfl (by decide) hV
          · have hV := hV.2 h16
            refine q_run k_PM_corner 41 1 74 rfl ?_
            show q_G l cx M_PM_corner 1 64 0 0 74 [(6, .inl v9), (0, .inr (.inr x0)), (1, .inl x1), (2, .inr (.inl x2)), (4, .inr (.inl x4))] [.inl (0 : Int32)] σ1 R
            exact q_zreturn (q_dc k_PM_corner 42 rfl) rfl (by decide) hV
        · have hV := hV.2 h8
          exact q_less (Nat.le_of_ble_eq_true rfl) (Nat.le_of_ble_eq_true rfl) (q_subk [] rfl hV))
  have hV := hV (by
      intro σ hV
      show q_G l cx M_PM_corner 1 64 0 0 47 [] [] σ R
      refine q_run k_PM_corner 24 1 48 rfl ?_
      show q_G l cx M_PM_corner 1 64 0 0 48 [] [.inl (0 : Int32)] σ R
      exact q_zreturn (q_dc k_PM_corner 25 rfl) rfl (by decide) hV)
  refine q_run k_PM_corner 0 3 3 rfl ?_
  show q_G l cx M_PM_corner 1 64 0 0 3 [(0, .inr (.inr x0)), (1, .inl x1), (2, .inr (.inl x2)), (4, .inr (.inl x4))] [.inl x1, .inr (.inr x0), .inr (.inr x0)] σ R
  obtain ⟨s1, hV⟩ := hV
  refine q_callV (st := [.inr (.inr x0)]) (as := [.inl x1]) (t_PM_isPlane (l := l) (cx := cx) (σ := σ) x0 x1 s1) (q_dc k_PM_corner 3 rfl) (Or.inl (List.mem_of_getElem? (i := 954) (by decide +kernel))) w_PM_isPlane n_PM_isPlane (ci := 6) rfl e_PM_isPlane a_PM_isPlane (q_wt (Nat.le_of_ble_eq_true rfl)) ⟨Nat.le_of_ble_eq_true rfl, Nat.le_of_ble_eq_true rfl⟩ s1 (fun v9 τ9 q9 => ?_) (fun n9 τ9 q9 => by cases q9.1)
  obtain ⟨q8, q7⟩ := q9
  cases q8
  rw [q7]
  show q_G l cx M_PM_corner 1 64 0 0 6 [(0, .inr (.inr x0)), (1, .inl x1), (2, .inr (.inl x2)), (4, .inr (.inl x4))] [.inl (f_PM_isPlane σ x0 x1), .inr (.inr x0)] σ R
  refine q_ifz (q_dc k_PM_corner 4 rfl) rfl (fun h2 => ?_) (fun h2 => ?_)
  · have hV := hV.1 h2
    refine q_run k_PM_corner 7 2 16 rfl ?_
    show q_G l cx M_PM_corner 1 64 0 0 16 [(0, .inr (.inr x0)), (1, .inl x1), (2, .inr (.inl x2)), (4, .inr (.inl x4))] [.inr (.inl x4), .inr (.inl x2), .inr (.inr x0)] σ R
    refine q_callS (st := [.inr (.inr x0)]) (t_PM_isCorner (l := l) (cx := cx) (σ := σ) x2 x4) (q_dc k_PM_corner 9 rfl) (Or.inl (List.mem_of_getElem? (i := 957) (by decide +kernel))) w_PM_isCorner s_PM_isCorner a_PM_isCorner (q_wt (Nat.le_of_ble_eq_true rfl)) ⟨Nat.le_of_ble_eq_true rfl, Nat.le_of_ble_eq_true rfl⟩ (fun v9 τ9 q9 => ?_) (fun n9 τ9 q9 => by cases q9.1)
    obtain ⟨q8, q7⟩ := q9
    cases q8
    rw [q7]
    show q_G l cx M_PM_corner 1 64 0 0 19 [(0, .inr (.inr x0)), (1, .inl x1), (2, .inr (.inl x2)), (4, .inr (.inl x4))] [.inl (f_PM_isCorner x2 x4), .inr (.inr x0)] σ R
    refine q_ifz (q_dc k_PM_corner 10 rfl) rfl (fun h3 => ?_) (fun h3 => ?_)
    · have hV := hV.1 h3
      refine q_run k_PM_corner 13 1 27 rfl ?_
      show q_G l cx M_PM_corner 1 64 0 0 27 [(0, .inr (.inr x0)), (1, .inl x1), (2, .inr (.inl x2)), (4, .inr (.inl x4))] [.inl (2 : Int32), .inr (.inr x0)] σ R
      exact q_less (Nat.le_of_ble_eq_true rfl) (Nat.le_of_ble_eq_true rfl) (q_subk [0, 1, 2, 3] rfl hV)
    · have hV := hV.2 h3
      refine q_run k_PM_corner 11 1 23 rfl ?_
      show q_G l cx M_PM_corner 1 64 0 0 23 [(0, .inr (.inr x0)), (1, .inl x1), (2, .inr (.inl x2)), (4, .inr (.inl x4))] [.inl (0 : Int32), .inr (.inr x0)] σ R
      refine q_goto (q_dc k_PM_corner 12 rfl) rfl ?_
      exact q_less (Nat.le_of_ble_eq_true rfl) (Nat.le_of_ble_eq_true rfl) (q_subk [0, 1, 2, 3] rfl hV)
  · have hV := hV.2 h2
    refine q_run k_PM_corner 5 1 10 rfl ?_
    show q_G l cx M_PM_corner 1 64 0 0 10 [(0, .inr (.inr x0)), (1, .inl x1), (2, .inr (.inl x2)), (4, .inr (.inl x4))] [.inl (1 : Int32), .inr (.inr x0)] σ R
    refine q_goto (q_dc k_PM_corner 6 rfl) rfl ?_
    exact q_less (Nat.le_of_ble_eq_true rfl) (Nat.le_of_ble_eq_true rfl) (q_subk [0, 1, 2, 3] rfl hV)
def V_PM_ring (x0 : Nat) (x1 : Int32) (σ : q_S) (R : q_O → q_S → Prop) : Prop :=
  ∀ (P14 : Nat → Int32 → Int32 → Nat → q_S → Prop),
  ∀ (P53 : q_S → Prop),
  (∀ (x0 : Nat) (x1 : Int32) (y0 : Int32) (y1 : Nat) (σ : q_S), (q_K σ y1 = 7 ∧ ∀ σ1 : q_S, σ1 = q_wI σ y1 0 y0 → q_K σ1 x0 = 7 ∧ ((¬ (q_I σ1 x0 0) = (0 : Int32) → P53  σ1) ∧ (¬ (¬ (q_I σ1 x0 0) = (0 : Int32)) → q_K σ1 x0 = 7 ∧ (q_K σ1 (q_P σ1 x0 6) = 1000 ∨ q_K σ1 (q_P σ1 x0 6) = 2000) ∧ vp_in x1 (q_Z σ1 (q_P σ1 x0 6)) ∧ (((q_I σ1 (q_P σ1 x0 6) x1.toNatClampNeg) = (4 : Int32) → P53  σ1) ∧ (¬ ((q_I σ1 (q_P σ1 x0 6) x1.toNatClampNeg) = (4 : Int32)) → q_K σ1 x0 = 7 ∧ q_K σ1 x0 = 7 ∧ (q_K σ1 (q_P σ1 x0 6) = 1000 ∨ q_K σ1 (q_P σ1 x0 6) = 2000) ∧ vp_in x1 (q_Z σ1 (q_P σ1 x0 6)) ∧ (q_K σ1 (q_P σ1 x0 7) = 1000 ∨ q_K σ1 (q_P σ1 x0 7) = 2000) ∧ vp_in (((4 : Int32) * x1) + (q_I σ1 (q_P σ1 x0 6) x1.toNatClampNeg)) (q_Z σ1 (q_P σ1 x0 7)) ∧ (((3 : Int32) ≤ (q_I σ1 (q_P σ1 x0 7) (((4 : Int32) * x1) + (q_I σ1 (q_P σ1 x0 6) x1.toNatClampNeg)).toNatClampNeg) → q_K σ1 x0 = 7 ∧ (q_K σ1 (q_P σ1 x0 6) = 1000 ∨ q_K σ1 (q_P σ1 x0 6) = 2000) ∧ vp_in x1 (q_Z σ1 (q_P σ1 x0 6)) ∧ q_K σ1 (q_P σ1 x0 6) = 1000 ∧ vp_in x1 (q_Z σ1 (q_P σ1 x0 6)) ∧ ∀ σ16 : q_S, σ16 = q_wI σ1 (q_P σ1 x0 6) x1.toNatClampNeg ((q_I σ1 (q_P σ1 x0 6) x1.toNatClampNeg) + (1 : Int32)) → R (.inl (some (.inl (1 : Int32)))) σ16) ∧ (¬ ((3 : Int32) ≤ (q_I σ1 (q_P σ1 x0 7) (((4 : Int32) * x1) + (q_I σ1 (q_P σ1 x0 6) x1.toNatClampNeg)).toNatClampNeg)) → P53  σ1))))))) → P14 x0 x1 y0 y1 σ) →
  (∀ (σ : q_S), (R (.inl (some (.inl (0 : Int32)))) σ) → P53 σ) →
  q_K σ x0 = 7 ∧ (((f_PM_isPlane σ x0 x1) = (0 : Int32) → P14 x0 x1 (1 : Int32) x0 σ) ∧ (¬ ((f_PM_isPlane σ x0 x1) = (0 : Int32)) → P14 x0 x1 (0 : Int32) x0 σ))
set_option maxRecDepth 100000 in
theorem t_PM_ring {l : Launch} {cx : q_C} {x0 : Nat} {x1 : Int32} {σ : q_S} {R : q_O → q_S → Prop} (hV : V_PM_ring x0 x1 σ R) : q_Ct l cx M_PM_ring 1 64 0 0 [q_r x0, q_i x1] σ R := by
  refine q_Ct.of p_PM_ring c_PM_ring rfl (Nat.le_of_ble_eq_true rfl) ?_
  have hV := hV (fun (x0 : Nat) (x1 : Int32) (y0 : Int32) (y1 : Nat) (σ : q_S) => q_G l cx M_PM_ring 1 64 0 0 14 [(0, .inr (.inr x0)), (1, .inl x1)] [.inl y0, .inr (.inr y1)] σ R) (fun (σ : q_S) => q_G l cx M_PM_ring 1 64 0 0 53 [] [] σ R)
  have hV := hV (by
      intro x0 x1 y0 y1 σ hV
      show q_G l cx M_PM_ring 1 64 0 0 14 [(0, .inr (.inr x0)), (1, .inl x1)] [.inl y0, .inr (.inr y1)] σ R
      refine q_run k_PM_ring 8 1 17 rfl ?_
      show q_K σ y1 = 7 ∧ q_G l cx M_PM_ring 1 64 0 0 17 [(0, .inr (.inr x0)), (1, .inl x1)] [] (q_wI σ y1 0 y0) R
      obtain ⟨s2, hV⟩ := hV
      refine ⟨s2, ?_⟩
      refine q_let (fun σ1 => q_G l cx M_PM_ring 1 64 0 0 17 [(0, .inr (.inr x0)), (1, .inl x1)] [] σ1 R) (q_wI σ y1 0 y0) (fun σ1 e_σ1 => ?_)
      have hV := hV σ1 e_σ1
      refine q_run k_PM_ring 9 2 21 rfl ?_
      show q_K σ1 x0 = 7 ∧ q_G l cx M_PM_ring 1 64 0 0 21 [(0, .inr (.inr x0)), (1, .inl x1)] [.inl (q_I σ1 x0 0)] σ1 R
      obtain ⟨s3, hV⟩ := hV
      refine ⟨s3, ?_⟩
      refine q_ifz (q_dc k_PM_ring 11 rfl) rfl (fun h4 => ?_) (fun h4 => ?_)
      · have hV := hV.1 h4
        exact q_less (Nat.le_of_ble_eq_true rfl) (Nat.le_of_ble_eq_true rfl) (q_subk [] rfl hV)
      · have hV := hV.2 h4
        refine q_run k_PM_ring 12 5 31 rfl ?_
        show q_K σ1 x0 = 7 ∧ (q_K σ1 (q_P σ1 x0 6) = 1000 ∨ q_K σ1 (q_P σ1 x0 6) = 2000) ∧ vp_in x1 (q_Z σ1 (q_P σ1 x0 6)) ∧ q_G l cx M_PM_ring 1 64 0 0 31 [(0, .inr (.inr x0)), (1, .inl x1)] [.inl (4 : Int32), .inl (q_I σ1 (q_P σ1 x0 6) x1.toNatClampNeg)] σ1 R
        obtain ⟨s5, s6, s7, hV⟩ := hV
        refine ⟨s5, s6, s7, ?_⟩
        refine q_icmp (q_dc k_PM_ring 17 rfl) rfl (fun h8 => ?_) (fun h8 => ?_)
        · have hV := hV.1 h8
          exact q_less (Nat.le_of_ble_eq_true rfl) (Nat.le_of_ble_eq_true rfl) (q_subk [] rfl hV)
        · have hV := hV.2 h8
          refine q_run k_PM_ring 18 12 50 rfl ?_
          show q_K σ1 x0 = 7 ∧ q_K σ1 x0 = 7 ∧ (q_K σ1 (q_P σ1 x0 6) = 1000 ∨ q_K σ1 (q_P σ1 x0 6) = 2000) ∧ vp_in x1 (q_Z σ1 (q_P σ1 x0 6)) ∧ (q_K σ1 (q_P σ1 x0 7) = 1000 ∨ q_K σ1 (q_P σ1 x0 7) = 2000) ∧ vp_in (((4 : Int32) * x1) + (q_I σ1 (q_P σ1 x0 6) x1.toNatClampNeg)) (q_Z σ1 (q_P σ1 x0 7)) ∧ q_G l cx M_PM_ring 1 64 0 0 50 [(0, .inr (.inr x0)), (1, .inl x1)] [.inl (3 : Int32), .inl (q_I σ1 (q_P σ1 x0 7) (((4 : Int32) * x1) + (q_I σ1 (q_P σ1 x0 6) x1.toNatClampNeg)).toNatClampNeg)] σ1 R
          obtain ⟨s9, s10, s11, s12, s13, s14, hV⟩ := hV
          refine ⟨s9, s10, s11, s12, s13, s14, ?_⟩
          refine q_icmp (q_dc k_PM_ring 30 rfl) rfl (fun h15 => ?_) (fun h15 => ?_)
          · have hV := hV.1 h15
            refine q_run k_PM_ring 33 8 65 rfl ?_
            show q_K σ1 x0 = 7 ∧ (q_K σ1 (q_P σ1 x0 6) = 1000 ∨ q_K σ1 (q_P σ1 x0 6) = 2000) ∧ vp_in x1 (q_Z σ1 (q_P σ1 x0 6)) ∧ q_K σ1 (q_P σ1 x0 6) = 1000 ∧ vp_in x1 (q_Z σ1 (q_P σ1 x0 6)) ∧ q_G l cx M_PM_ring 1 64 0 0 65 [(0, .inr (.inr x0)), (1, .inl x1)] [] (q_wI σ1 (q_P σ1 x0 6) x1.toNatClampNeg ((q_I σ1 (q_P σ1 x0 6) x1.toNatClampNeg) + (1 : Int32))) R
            obtain ⟨s17, s18, s19, s20, s21, hV⟩ := hV
            refine ⟨s17, s18, s19, s20, s21, ?_⟩
            refine q_let (fun σ16 => q_G l cx M_PM_ring 1 64 0 0 65 [(0, .inr (.inr x0)), (1, .inl x1)] [] σ16 R) (q_wI σ1 (q_P σ1 x0 6) x1.toNatClampNeg ((q_I σ1 (q_P σ1 x0 6) x1.toNatClampNeg) + (1 : Int32))) (fun σ16 e_σ16 => ?_)
            have hV := hV σ16 e_σ16
            refine q_run k_PM_ring 41 1 66 rfl ?_
            show q_G l cx M_PM_ring 1 64 0 0 66 [(0, .inr (.inr x0)), (1, .inl x1)] [.inl (1 : Int32)] σ16 R
            exact q_zreturn (q_dc k_PM_ring 42 rfl) rfl (by decide) hV
          · have hV := hV.2 h15
            exact q_less (Nat.le_of_ble_eq_true rfl) (Nat.le_of_ble_eq_true rfl) (q_subk [] rfl hV))
  have hV := hV (by
      intro σ hV
      show q_G l cx M_PM_ring 1 64 0 0 53 [] [] σ R
      refine q_run k_PM_ring 31 1 54 rfl ?_
      show q_G l cx M_PM_ring 1 64 0 0 54 [] [.inl (0 : Int32)] σ R
      exact q_zreturn (q_dc k_PM_ring 32 rfl) rfl (by decide) hV)
  refine q_run k_PM_ring 0 3 3 rfl ?_
  show q_G l cx M_PM_ring 1 64 0 0 3 [(0, .inr (.inr x0)), (1, .inl x1)] [.inl x1, .inr (.inr x0), .inr (.inr x0)] σ R
  obtain ⟨s1, hV⟩ := hV
  refine q_callV (st := [.inr (.inr x0)]) (as := [.inl x1]) (t_PM_isPlane (l := l) (cx := cx) (σ := σ) x0 x1 s1) (q_dc k_PM_ring 3 rfl) (Or.inl (List.mem_of_getElem? (i := 954) (by decide +kernel))) w_PM_isPlane n_PM_isPlane (ci := 6) rfl e_PM_isPlane a_PM_isPlane (q_wt (Nat.le_of_ble_eq_true rfl)) ⟨Nat.le_of_ble_eq_true rfl, Nat.le_of_ble_eq_true rfl⟩ s1 (fun v9 τ9 q9 => ?_) (fun n9 τ9 q9 => by cases q9.1)
  obtain ⟨q8, q7⟩ := q9
  cases q8
  rw [q7]
  show q_G l cx M_PM_ring 1 64 0 0 6 [(0, .inr (.inr x0)), (1, .inl x1)] [.inl (f_PM_isPlane σ x0 x1), .inr (.inr x0)] σ R
  refine q_ifz (q_dc k_PM_ring 4 rfl) rfl (fun h2 => ?_) (fun h2 => ?_)
  · have hV := hV.1 h2
    refine q_run k_PM_ring 7 1 14 rfl ?_
    show q_G l cx M_PM_ring 1 64 0 0 14 [(0, .inr (.inr x0)), (1, .inl x1)] [.inl (1 : Int32), .inr (.inr x0)] σ R
    exact q_less (Nat.le_of_ble_eq_true rfl) (Nat.le_of_ble_eq_true rfl) (q_subk [0, 1] rfl hV)
  · have hV := hV.2 h2
    refine q_run k_PM_ring 5 1 10 rfl ?_
    show q_G l cx M_PM_ring 1 64 0 0 10 [(0, .inr (.inr x0)), (1, .inl x1)] [.inl (0 : Int32), .inr (.inr x0)] σ R
    refine q_goto (q_dc k_PM_ring 6 rfl) rfl ?_
    exact q_less (Nat.le_of_ble_eq_true rfl) (Nat.le_of_ble_eq_true rfl) (q_subk [0, 1] rfl hV)
def V_PM_obstacle (x0 : Nat) (x1 : Int32) (x2 : Int32) (x3 : Int64) (x5 : Int64) (x7 : Int64) (σ : q_S) (R : q_O → q_S → Prop) : Prop :=
  ∀ (P49 : Nat → Int32 → Int32 → Int64 → Int64 → Int64 → Nat → q_S → Prop),
  ∀ (P50 : Nat → Int32 → Int32 → Int64 → Int64 → Int64 → Int32 → Nat → q_S → Prop),
  (∀ (x0 : Nat) (x1 : Int32) (x2 : Int32) (x3 : Int64) (x5 : Int64) (x7 : Int64) (y0 : Nat) (σ : q_S), (P50 x0 x1 x2 x3 x5 x7 (2 : Int32) y0 σ) → P49 x0 x1 x2 x3 x5 x7 y0 σ) →
  (∀ (x0 : Nat) (x1 : Int32) (x2 : Int32) (x3 : Int64) (x5 : Int64) (x7 : Int64) (y0 : Int32) (y1 : Nat) (σ : q_S), (q_K σ y1 = 7 ∧ ∀ σ1 : q_S, σ1 = q_wI σ y1 0 y0 → q_K σ1 x0 = 7 ∧ (((q_I σ1 x0 0) = (0 : Int32) → q_K σ1 x0 = 7 ∧ ((¬ (q_I σ1 x0 12) = (20 : Int32) → q_K σ1 x0 = 7 ∧ q_K σ1 x0 = 7 ∧ q_K σ1 (q_P σ1 x0 13) = 1000 ∧ vp_in (q_I σ1 x0 12) (q_Z σ1 (q_P σ1 x0 13)) ∧ ∀ σ7 : q_S, σ7 = q_wI σ1 (q_P σ1 x0 13) (q_I σ1 x0 12).toNatClampNeg x1 → q_K σ7 x0 = 7 ∧ q_K σ7 x0 = 7 ∧ q_K σ7 (q_P σ7 x0 14) = 1000 ∧ vp_in (q_I σ7 x0 12) (q_Z σ7 (q_P σ7 x0 14)) ∧ ∀ σ12 : q_S, σ12 = q_wI σ7 (q_P σ7 x0 14) (q_I σ7 x0 12).toNatClampNeg x2 → q_K σ12 x0 = 7 ∧ q_K σ12 x0 = 7 ∧ q_K σ12 (q_P σ12 x0 15) = 1001 ∧ vp_in ((3 : Int32) * (q_I σ12 x0 12)) (q_Z σ12 (q_P σ12 x0 15)) ∧ ∀ σ17 : q_S, σ17 = q_wL σ12 (q_P σ12 x0 15) ((3 : Int32) * (q_I σ12 x0 12)).toNatClampNeg x3 → q_K σ17 x0 = 7 ∧ q_K σ17 x0 = 7 ∧ q_K σ17 (q_P σ17 x0 15) = 1001 ∧ vp_in (((3 : Int32) * (q_I σ17 x0 12)) + (1 : Int32)) (q_Z σ17 (q_P σ17 x0 15)) ∧ ∀ σ22 : q_S, σ22 = q_wL σ17 (q_P σ17 x0 15) (((3 : Int32) * (q_I σ17 x0 12)) + (1 : Int32)).toNatClampNeg x5 → q_K σ22 x0 = 7 ∧ q_K σ22 x0 = 7 ∧ q_K σ22 (q_P σ22 x0 15) = 1001 ∧ vp_in (((3 : Int32) * (q_I σ22 x0 12)) + (2 : Int32)) (q_Z σ22 (q_P σ22 x0 15)) ∧ ∀ σ27 : q_S, σ27 = q_wL σ22 (q_P σ22 x0 15) (((3 : Int32) * (q_I σ22 x0 12)) + (2 : Int32)).toNatClampNeg x7 → q_K σ27 x0 = 7 ∧ q_K σ27 x0 = 7 ∧ ∀ σ32 : q_S, σ32 = q_wI σ27 x0 12 ((q_I σ27 x0 12) + (1 : Int32)) → q_K σ32 x0 = 7 ∧ R (.inl (some (.inl ((q_I σ32 x0 12) - (1 : Int32))))) σ32) ∧ (¬ (¬ (q_I σ1 x0 12) = (20 : Int32)) → R (.inl (some (.inl (-1 : Int32)))) σ1))) ∧ (¬ ((q_I σ1 x0 0) = (0 : Int32)) → R (.inl (some (.inl (0 : Int32)))) σ1))) → P50 x0 x1 x2 x3 x5 x7 y0 y1 σ) →
  q_K σ x0 = 7 ∧ ((¬ (f_PM_isLayer σ x0 x2) = (0 : Int32) → (((f_PM_isNet x1) = (0 : Int32) → P49 x0 x1 x2 x3 x5 x7 x0 σ) ∧ (¬ ((f_PM_isNet x1) = (0 : Int32)) → (((f_PM_isCorner x3 x5) = (0 : Int32) → P49 x0 x1 x2 x3 x5 x7 x0 σ) ∧ (¬ ((f_PM_isCorner x3 x5) = (0 : Int32)) → (((lg_cmp x7 (0 : Int64)) < (0 : Int32) → P49 x0 x1 x2 x3 x5 x7 x0 σ) ∧ (¬ ((lg_cmp x7 (0 : Int64)) < (0 : Int32)) → (((0 : Int32) < (lg_cmp x7 (20 : Int64)) → P49 x0 x1 x2 x3 x5 x7 x0 σ) ∧ (¬ ((0 : Int32) < (lg_cmp x7 (20 : Int64))) → P50 x0 x1 x2 x3 x5 x7 (0 : Int32) x0 σ))))))))) ∧ (¬ (¬ (f_PM_isLayer σ x0 x2) = (0 : Int32)) → P50 x0 x1 x2 x3 x5 x7 (1 : Int32) x0 σ))
set_option maxRecDepth 100000 in
theorem t_PM_obstacle {l : Launch} {cx : q_C} {x0 : Nat} {x1 : Int32} {x2 : Int32} {x3 : Int64} {x5 : Int64} {x7 : Int64} {σ : q_S} {R : q_O → q_S → Prop} (hV : V_PM_obstacle x0 x1 x2 x3 x5 x7 σ R) : q_Ct l cx M_PM_obstacle 1 64 0 0 [q_r x0, q_i x1, q_i x2, q_l x3, q_l x5, q_l x7] σ R := by
  refine q_Ct.of p_PM_obstacle c_PM_obstacle rfl (Nat.le_of_ble_eq_true rfl) ?_
  have hV := hV (fun (x0 : Nat) (x1 : Int32) (x2 : Int32) (x3 : Int64) (x5 : Int64) (x7 : Int64) (y0 : Nat) (σ : q_S) => q_G l cx M_PM_obstacle 1 64 0 0 49 [(0, .inr (.inr x0)), (1, .inl x1), (2, .inl x2), (3, .inr (.inl x3)), (5, .inr (.inl x5)), (7, .inr (.inl x7))] [.inr (.inr y0)] σ R) (fun (x0 : Nat) (x1 : Int32) (x2 : Int32) (x3 : Int64) (x5 : Int64) (x7 : Int64) (y0 : Int32) (y1 : Nat) (σ : q_S) => q_G l cx M_PM_obstacle 1 64 0 0 50 [(0, .inr (.inr x0)), (1, .inl x1), (2, .inl x2), (3, .inr (.inl x3)), (5, .inr (.inl x5)), (7, .inr (.inl x7))] [.inl y0, .inr (.inr y1)] σ R)
  have hV := hV (by
      intro x0 x1 x2 x3 x5 x7 y0 σ hV
      show q_G l cx M_PM_obstacle 1 64 0 0 49 [(0, .inr (.inr x0)), (1, .inl x1), (2, .inl x2), (3, .inr (.inl x3)), (5, .inr (.inl x5)), (7, .inr (.inl x7))] [.inr (.inr y0)] σ R
      refine q_run k_PM_obstacle 24 1 50 rfl ?_
      show q_G l cx M_PM_obstacle 1 64 0 0 50 [(0, .inr (.inr x0)), (1, .inl x1), (2, .inl x2), (3, .inr (.inl x3)), (5, .inr (.inl x5)), (7, .inr (.inl x7))] [.inl (2 : Int32), .inr (.inr y0)] σ R
      exact q_less (Nat.le_of_ble_eq_true rfl) (Nat.le_of_ble_eq_true rfl) (q_subk [0, 1, 2, 3, 4, 5] rfl hV))
  have hV := hV (by
      intro x0 x1 x2 x3 x5 x7 y0 y1 σ hV
      show q_G l cx M_PM_obstacle 1 64 0 0 50 [(0, .inr (.inr x0)), (1, .inl x1), (2, .inl x2), (3, .inr (.inl x3)), (5, .inr (.inl x5)), (7, .inr (.inl x7))] [.inl y0, .inr (.inr y1)] σ R
      refine q_run k_PM_obstacle 25 1 53 rfl ?_
      show q_K σ y1 = 7 ∧ q_G l cx M_PM_obstacle 1 64 0 0 53 [(0, .inr (.inr x0)), (1, .inl x1), (2, .inl x2), (3, .inr (.inl x3)), (5, .inr (.inl x5)), (7, .inr (.inl x7))] [] (q_wI σ y1 0 y0) R
      obtain ⟨s2, hV⟩ := hV
      refine ⟨s2, ?_⟩
      refine q_let (fun σ1 => q_G l cx M_PM_obstacle 1 64 0 0 53 [(0, .inr (.inr x0)), (1, .inl x1), (2, .inl x2), (3, .inr (.inl x3)), (5, .inr (.inl x5)), (7, .inr (.inl x7))] [] σ1 R) (q_wI σ y1 0 y0) (fun σ1 e_σ1 => ?_)
      have hV := hV σ1 e_σ1
      refine q_run k_PM_obstacle 26 2 57 rfl ?_
      show q_K σ1 x0 = 7 ∧ q_G l cx M_PM_obstacle 1 64 0 0 57 [(0, .inr (.inr x0)), (1, .inl x1), (2, .inl x2), (3, .inr (.inl x3)), (5, .inr (.inl x5)), (7, .inr (.inl x7))] [.inl (q_I σ1 x0 0)] σ1 R
      obtain ⟨s3, hV⟩ := hV
      refine ⟨s3, ?_⟩
      refine q_ifz (q_dc k_PM_obstacle 28 rfl) rfl (fun h4 => ?_) (fun h4 => ?_)
      · have hV := hV.1 h4
        refine q_run k_PM_obstacle 31 3 68 rfl ?_
        show q_K σ1 x0 = 7 ∧ q_G l cx M_PM_obstacle 1 64 0 0 68 [(0, .inr (.inr x0)), (1, .inl x1), (2, .inl x2), (3, .inr (.inl x3)), (5, .inr (.inl x5)), (7, .inr (.inl x7))] [.inl (20 : Int32), .inl (q_I σ1 x0 12)] σ1 R
        obtain ⟨s5, hV⟩ := hV
        refine ⟨s5, ?_⟩
        refine q_icmp (q_dc k_PM_obstacle 34 rfl) rfl (fun h6 => ?_) (fun h6 => ?_)
        · have hV := hV.1 h6
          refine q_run k_PM_obstacle 37 6 83 rfl ?_
          show q_K σ1 x0 = 7 ∧ q_K σ1 x0 = 7 ∧ q_K σ1 (q_P σ1 x0 13) = 1000 ∧ vp_in (q_I σ1 x0 12) (q_Z σ1 (q_P σ1 x0 13)) ∧ q_G l cx M_PM_obstacle 1 64 0 0 83 [(0, .inr (.inr x0)), (1, .inl x1), (2, .inl x2), (3, .inr (.inl x3)), (5, .inr (.inl x5)), (7, .inr (.inl x7))] [] (q_wI σ1 (q_P σ1 x0 13) (q_I σ1 x0 12).toNatClampNeg x1) R
          obtain ⟨s8, s9, s10, s11, hV⟩ := hV
          refine ⟨s8, s9, s10, s11, ?_⟩
          refine q_let (fun σ7 => q_G l cx M_PM_obstacle 1 64 0 0 83 [(0, .inr (.inr x0)), (1, .inl x1), (2, .inl x2), (3, .inr (.inl x3)), (5, .inr (.inl x5)), (7, .inr (.inl x7))] [] σ7 R) (q_wI σ1 (q_P σ1 x0 13) (q_I σ1 x0 12).toNatClampNeg x1) (fun σ7 e_σ7 => ?_)
          have hV := hV σ7 e_σ7
          refine q_run k_PM_obstacle 43 6 93 rfl ?_
          show q_K σ7 x0 = 7 ∧ q_K σ7 x0 = 7 ∧ q_K σ7 (q_P σ7 x0 14) = 1000 ∧ vp_in (q_I σ7 x0 12) (q_Z σ7 (q_P σ7 x0 14)) ∧ q_G l cx M_PM_obstacle 1 64 0 0 93 [(0, .inr (.inr x0)), (1, .inl x1), (2, .inl x2), (3, .inr (.inl x3)), (5, .inr (.inl x5)), (7, .inr (.inl x7))] [] (q_wI σ7 (q_P σ7 x0 14) (q_I σ7 x0 12).toNatClampNeg x2) R
          obtain ⟨s13, s14, s15, s16, hV⟩ := hV
          refine ⟨s13, s14, s15, s16, ?_⟩
          refine q_let (fun σ12 => q_G l cx M_PM_obstacle 1 64 0 0 93 [(0, .inr (.inr x0)), (1, .inl x1), (2, .inl x2), (3, .inr (.inl x3)), (5, .inr (.inl x5)), (7, .inr (.inl x7))] [] σ12 R) (q_wI σ7 (q_P σ7 x0 14) (q_I σ7 x0 12).toNatClampNeg x2) (fun σ12 e_σ12 => ?_)
          have hV := hV σ12 e_σ12
          refine q_run k_PM_obstacle 49 8 105 rfl ?_
          show q_K σ12 x0 = 7 ∧ q_K σ12 x0 = 7 ∧ q_K σ12 (q_P σ12 x0 15) = 1001 ∧ vp_in ((3 : Int32) * (q_I σ12 x0 12)) (q_Z σ12 (q_P σ12 x0 15)) ∧ q_G l cx M_PM_obstacle 1 64 0 0 105 [(0, .inr (.inr x0)), (1, .inl x1), (2, .inl x2), (3, .inr (.inl x3)), (5, .inr (.inl x5)), (7, .inr (.inl x7))] [] (q_wL σ12 (q_P σ12 x0 15) ((3 : Int32) * (q_I σ12 x0 12)).toNatClampNeg x3) R
          obtain ⟨s18, s19, s20, s21, hV⟩ := hV
          refine ⟨s18, s19, s20, s21, ?_⟩
          refine q_let (fun σ17 => q_G l cx M_PM_obstacle 1 64 0 0 105 [(0, .inr (.inr x0)), (1, .inl x1), (2, .inl x2), (3, .inr (.inl x3)), (5, .inr (.inl x5)), (7, .inr (.inl x7))] [] σ17 R) (q_wL σ12 (q_P σ12 x0 15) ((3 : Int32) * (q_I σ12 x0 12)).toNatClampNeg x3) (fun σ17 e_σ17 => ?_)
          have hV := hV σ17 e_σ17
          refine q_run k_PM_obstacle 57 10 120 rfl ?_
          show q_K σ17 x0 = 7 ∧ q_K σ17 x0 = 7 ∧ q_K σ17 (q_P σ17 x0 15) = 1001 ∧ vp_in (((3 : Int32) * (q_I σ17 x0 12)) + (1 : Int32)) (q_Z σ17 (q_P σ17 x0 15)) ∧ q_G l cx M_PM_obstacle 1 64 0 0 120 [(0, .inr (.inr x0)), (1, .inl x1), (2, .inl x2), (3, .inr (.inl x3)), (5, .inr (.inl x5)), (7, .inr (.inl x7))] [] (q_wL σ17 (q_P σ17 x0 15) (((3 : Int32) * (q_I σ17 x0 12)) + (1 : Int32)).toNatClampNeg x5) R
          obtain ⟨s23, s24, s25, s26, hV⟩ := hV
          refine ⟨s23, s24, s25, s26, ?_⟩
          refine q_let (fun σ22 => q_G l cx M_PM_obstacle 1 64 0 0 120 [(0, .inr (.inr x0)), (1, .inl x1), (2, .inl x2), (3, .inr (.inl x3)), (5, .inr (.inl x5)), (7, .inr (.inl x7))] [] σ22 R) (q_wL σ17 (q_P σ17 x0 15) (((3 : Int32) * (q_I σ17 x0 12)) + (1 : Int32)).toNatClampNeg x5) (fun σ22 e_σ22 => ?_)
          have hV := hV σ22 e_σ22
          refine q_run k_PM_obstacle 67 10 135 rfl ?_
          show q_K σ22 x0 = 7 ∧ q_K σ22 x0 = 7 ∧ q_K σ22 (q_P σ22 x0 15) = 1001 ∧ vp_in (((3 : Int32) * (q_I σ22 x0 12)) + (2 : Int32)) (q_Z σ22 (q_P σ22 x0 15)) ∧ q_G l cx M_PM_obstacle 1 64 0 0 135 [(0, .inr (.inr x0)), (1, .inl x1), (2, .inl x2), (3, .inr (.inl x3)), (5, .inr (.inl x5)), (7, .inr (.inl x7))] [] (q_wL σ22 (q_P σ22 x0 15) (((3 : Int32) * (q_I σ22 x0 12)) + (2 : Int32)).toNatClampNeg x7) R
          obtain ⟨s28, s29, s30, s31, hV⟩ := hV
          refine ⟨s28, s29, s30, s31, ?_⟩
          refine q_let (fun σ27 => q_G l cx M_PM_obstacle 1 64 0 0 135 [(0, .inr (.inr x0)), (1, .inl x1), (2, .inl x2), (3, .inr (.inl x3)), (5, .inr (.inl x5)), (7, .inr (.inl x7))] [] σ27 R) (q_wL σ22 (q_P σ22 x0 15) (((3 : Int32) * (q_I σ22 x0 12)) + (2 : Int32)).toNatClampNeg x7) (fun σ27 e_σ27 => ?_)
          have hV := hV σ27 e_σ27
          refine q_run k_PM_obstacle 77 6 145 rfl ?_
          show q_K σ27 x0 = 7 ∧ q_K σ27 x0 = 7 ∧ q_G l cx M_PM_obstacle 1 64 0 0 145 [(0, .inr (.inr x0)), (1, .inl x1), (2, .inl x2), (3, .inr (.inl x3)), (5, .inr (.inl x5)), (7, .inr (.inl x7))] [] (q_wI σ27 x0 12 ((q_I σ27 x0 12) + (1 : Int32))) R
          obtain ⟨s33, s34, hV⟩ := hV
          refine ⟨s33, s34, ?_⟩
          refine q_let (fun σ32 => q_G l cx M_PM_obstacle 1 64 0 0 145 [(0, .inr (.inr x0)), (1, .inl x1), (2, .inl x2), (3, .inr (.inl x3)), (5, .inr (.inl x5)), (7, .inr (.inl x7))] [] σ32 R) (q_wI σ27 x0 12 ((q_I σ27 x0 12) + (1 : Int32))) (fun σ32 e_σ32 => ?_)
          have hV := hV σ32 e_σ32
          refine q_run k_PM_obstacle 83 4 151 rfl ?_
          show q_K σ32 x0 = 7 ∧ q_G l cx M_PM_obstacle 1 64 0 0 151 [(0, .inr (.inr x0)), (1, .inl x1), (2, .inl x2), (3, .inr (.inl x3)), (5, .inr (.inl x5)), (7, .inr (.inl x7))] [.inl ((q_I σ32 x0 12) - (1 : Int32))] σ32 R
          obtain ⟨s35, hV⟩ := hV
          refine ⟨s35, ?_⟩
          exact q_ireturn (q_dc k_PM_obstacle 87 rfl) rfl hV
        · have hV := hV.2 h6
          refine q_run k_PM_obstacle 35 1 72 rfl ?_
          show q_G l cx M_PM_obstacle 1 64 0 0 72 [(0, .inr (.inr x0)), (1, .inl x1), (2, .inl x2), (3, .inr (.inl x3)), (5, .inr (.inl x5)), (7, .inr (.inl x7))] [.inl (-1 : Int32)] σ1 R
          exact q_ireturn (q_dc k_PM_obstacle 36 rfl) rfl hV
      · have hV := hV.2 h4
        refine q_run k_PM_obstacle 29 1 61 rfl ?_
        show q_G l cx M_PM_obstacle 1 64 0 0 61 [(0, .inr (.inr x0)), (1, .inl x1), (2, .inl x2), (3, .inr (.inl x3)), (5, .inr (.inl x5)), (7, .inr (.inl x7))] [.inl (0 : Int32)] σ1 R
        exact q_ireturn (q_dc k_PM_obstacle 30 rfl) rfl hV)
  refine q_run k_PM_obstacle 0 3 3 rfl ?_
  show q_G l cx M_PM_obstacle 1 64 0 0 3 [(0, .inr (.inr x0)), (1, .inl x1), (2, .inl x2), (3, .inr (.inl x3)), (5, .inr (.inl x5)), (7, .inr (.inl x7))] [.inl x2, .inr (.inr x0), .inr (.inr x0)] σ R
  obtain ⟨s1, hV⟩ := hV
  refine q_callV (st := [.inr (.inr x0)]) (as := [.inl x2]) (t_PM_isLayer (l := l) (cx := cx) (σ := σ) x0 x2 s1) (q_dc k_PM_obstacle 3 rfl) (Or.inl (List.mem_of_getElem? (i := 944) (by decide +kernel))) w_PM_isLayer n_PM_isLayer (ci := 6) rfl e_PM_isLayer a_PM_isLayer (q_wt (Nat.le_of_ble_eq_true rfl)) ⟨Nat.le_of_ble_eq_true rfl, Nat.le_of_ble_eq_true rfl⟩ s1 (fun v9 τ9 q9 => ?_) (fun n9 τ9 q9 => by cases q9.1)
  obtain ⟨q8, q7⟩ := q9
  cases q8
  rw [q7]
  show q_G l cx M_PM_obstacle 1 64 0 0 6 [(0, .inr (.inr x0)), (1, .inl x1), (2, .inl x2), (3, .inr (.inl x3)), (5, .inr (.inl x5)), (7, .inr (.inl x7))] [.inl (f_PM_isLayer σ x0 x2), .inr (.inr x0)] σ R
  refine q_ifz (q_dc k_PM_obstacle 4 rfl) rfl (fun h2 => ?_) (fun h2 => ?_)
  · have hV := hV.1 h2
    refine q_run k_PM_obstacle 7 1 14 rfl ?_
    show q_G l cx M_PM_obstacle 1 64 0 0 14 [(0, .inr (.inr x0)), (1, .inl x1), (2, .inl x2), (3, .inr (.inl x3)), (5, .inr (.inl x5)), (7, .inr (.inl x7))] [.inl x1, .inr (.inr x0)] σ R
    refine q_callS (st := [.inr (.inr x0)]) (t_PM_isNet (l := l) (cx := cx) (σ := σ) x1) (q_dc k_PM_obstacle 8 rfl) (Or.inl (List.mem_of_getElem? (i := 947) (by decide +kernel))) w_PM_isNet s_PM_isNet a_PM_isNet (q_wt (Nat.le_of_ble_eq_true rfl)) ⟨Nat.le_of_ble_eq_true rfl, Nat.le_of_ble_eq_true rfl⟩ (fun v9 τ9 q9 => ?_) (fun n9 τ9 q9 => by cases q9.1)
    obtain ⟨q8, q7⟩ := q9
    cases q8
    rw [q7]
    show q_G l cx M_PM_obstacle 1 64 0 0 17 [(0, .inr (.inr x0)), (1, .inl x1), (2, .inl x2), (3, .inr (.inl x3)), (5, .inr (.inl x5)), (7, .inr (.inl x7))] [.inl (f_PM_isNet x1), .inr (.inr x0)] σ R
    refine q_ifz (q_dc k_PM_obstacle 9 rfl) rfl (fun h3 => ?_) (fun h3 => ?_)
    · have hV := hV.1 h3
      exact q_less (Nat.le_of_ble_eq_true rfl) (Nat.le_of_ble_eq_true rfl) (q_subk [0, 1, 2, 3, 4, 5] rfl hV)
    · have hV := hV.2 h3
      refine q_run k_PM_obstacle 10 2 23 rfl ?_
      show q_G l cx M_PM_obstacle 1 64 0 0 23 [(0, .inr (.inr x0)), (1, .inl x1), (2, .inl x2), (3, .inr (.inl x3)), (5, .inr (.inl x5)), (7, .inr (.inl x7))] [.inr (.inl x5), .inr (.inl x3), .inr (.inr x0)] σ R
      refine q_callS (st := [.inr (.inr x0)]) (t_PM_isCorner (l := l) (cx := cx) (σ := σ) x3 x5) (q_dc k_PM_obstacle 12 rfl) (Or.inl (List.mem_of_getElem? (i := 957) (by decide +kernel))) w_PM_isCorner s_PM_isCorner a_PM_isCorner (q_wt (Nat.le_of_ble_eq_true rfl)) ⟨Nat.le_of_ble_eq_true rfl, Nat.le_of_ble_eq_true rfl⟩ (fun v9 τ9 q9 => ?_) (fun n9 τ9 q9 => by cases q9.1)
      obtain ⟨q8, q7⟩ := q9
      cases q8
      rw [q7]
      show q_G l cx M_PM_obstacle 1 64 0 0 26 [(0, .inr (.inr x0)), (1, .inl x1), (2, .inl x2), (3, .inr (.inl x3)), (5, .inr (.inl x5)), (7, .inr (.inl x7))] [.inl (f_PM_isCorner x3 x5), .inr (.inr x0)] σ R
      refine q_ifz (q_dc k_PM_obstacle 13 rfl) rfl (fun h4 => ?_) (fun h4 => ?_)
      · have hV := hV.1 h4
        exact q_less (Nat.le_of_ble_eq_true rfl) (Nat.le_of_ble_eq_true rfl) (q_subk [0, 1, 2, 3, 4, 5] rfl hV)
      · have hV := hV.2 h4
        refine q_run k_PM_obstacle 14 3 33 rfl ?_
        show q_G l cx M_PM_obstacle 1 64 0 0 33 [(0, .inr (.inr x0)), (1, .inl x1), (2, .inl x2), (3, .inr (.inl x3)), (5, .inr (.inl x5)), (7, .inr (.inl x7))] [.inl (lg_cmp x7 (0 : Int64)), .inr (.inr x0)] σ R
        refine q_ifz (q_dc k_PM_obstacle 17 rfl) rfl (fun h5 => ?_) (fun h5 => ?_)
        · have hV := hV.1 h5
          exact q_less (Nat.le_of_ble_eq_true rfl) (Nat.le_of_ble_eq_true rfl) (q_subk [0, 1, 2, 3, 4, 5] rfl hV)
        · have hV := hV.2 h5
          refine q_run k_PM_obstacle 18 3 42 rfl ?_
          show q_G l cx M_PM_obstacle 1 64 0 0 42 [(0, .inr (.inr x0)), (1, .inl x1), (2, .inl x2), (3, .inr (.inl x3)), (5, .inr (.inl x5)), (7, .inr (.inl x7))] [.inl (lg_cmp x7 (20 : Int64)), .inr (.inr x0)] σ R
          refine q_ifz (q_dc k_PM_obstacle 21 rfl) rfl (fun h6 => ?_) (fun h6 => ?_)
          · have hV := hV.1 h6
            exact q_less (Nat.le_of_ble_eq_true rfl) (Nat.le_of_ble_eq_true rfl) (q_subk [0, 1, 2, 3, 4, 5] rfl hV)
          · have hV := hV.2 h6
            refine q_run k_PM_obstacle 22 1 46 rfl ?_
            show q_G l cx M_PM_obstacle 1 64 0 0 46 [(0, .inr (.inr x0)), (1, .inl x1), (2, .inl x2), (3, .inr (.inl x3)), (5, .inr (.inl x5)), (7, .inr (.inl x7))] [.inl (0 : Int32), .inr (.inr x0)] σ R
            refine q_goto (q_dc k_PM_obstacle 23 rfl) rfl ?_
            exact q_less (Nat.le_of_ble_eq_true rfl) (Nat.le_of_ble_eq_true rfl) (q_subk [0, 1, 2, 3, 4, 5] rfl hV)
  · have hV := hV.2 h2
    refine q_run k_PM_obstacle 5 1 10 rfl ?_
    show q_G l cx M_PM_obstacle 1 64 0 0 10 [(0, .inr (.inr x0)), (1, .inl x1), (2, .inl x2), (3, .inr (.inl x3)), (5, .inr (.inl x5)), (7, .inr (.inl x7))] [.inl (1 : Int32), .inr (.inr x0)] σ R
    refine q_goto (q_dc k_PM_obstacle 6 rfl) rfl ?_
    exact q_less (Nat.le_of_ble_eq_true rfl) (Nat.le_of_ble_eq_true rfl) (q_subk [0, 1, 2, 3, 4, 5] rfl hV)
def V_PM_pad (x0 : Nat) (x1 : Int32) (x2 : Int32) (x3 : Int64) (x5 : Int64) (x7 : Int64) (x9 : Int64) (σ : q_S) (R : q_O → q_S → Prop) : Prop :=
  ∀ (P45 : Nat → Int32 → Int32 → Int64 → Int64 → Int64 → Int64 → q_S → Prop),
  ∀ (P46 : Nat → Int32 → Int32 → Int64 → Int64 → Int64 → Int64 → Int32 → q_S → Prop),
  ∀ (P96 : Nat → Int32 → Int32 → Int64 → Int64 → Int64 → Int64 → Int32 → q_S → Prop),
  ∀ (P97 : Nat → Int32 → Int32 → Int64 → Int64 → Int64 → Int64 → Int32 → Int32 → q_S → Prop),
  ∀ (P133 : Nat → Int32 → Int32 → Int64 → Int64 → Int64 → Int64 → Nat → q_S → Prop),
  ∀ (P134 : Nat → Int32 → Int32 → Int64 → Int64 → Int64 → Int64 → Int32 → Nat → q_S → Prop),
  (∀ (x0 : Nat) (x1 : Int32) (x2 : Int32) (x3 : Int64) (x5 : Int64) (x7 : Int64) (x9 : Int64) (σ : q_S), (P46 x0 x1 x2 x3 x5 x7 x9 (0 : Int32) σ) → P45 x0 x1 x2 x3 x5 x7 x9 σ) →
  (∀ (x0 : Nat) (x1 : Int32) (x2 : Int32) (x3 : Int64) (x5 : Int64) (x7 : Int64) (x9 : Int64) (y0 : Int32) (σ : q_S), ((((lg_cmp x5 (0 : Int64)) < (0 : Int32) → P96 x0 x1 x2 x3 x5 x7 x9 y0 σ) ∧ (¬ ((lg_cmp x5 (0 : Int64)) < (0 : Int32)) → (((0 : Int32) ≤ (lg_cmp x5 (24 : Int64)) → P96 x0 x1 x2 x3 x5 x7 x9 y0 σ) ∧ (¬ ((0 : Int32) ≤ (lg_cmp x5 (24 : Int64))) → (((lg_cmp x9 (1 : Int64)) < (0 : Int32) → P96 x0 x1 x2 x3 x5 x7 x9 y0 σ) ∧ (¬ ((lg_cmp x9 (1 : Int64)) < (0 : Int32)) → (((0 : Int32) < (lg_cmp x9 (24 : Int64)) → P96 x0 x1 x2 x3 x5 x7 x9 y0 σ) ∧ (¬ ((0 : Int32) < (lg_cmp x9 (24 : Int64))) → (((0 : Int32) < (lg_cmp (x5 + x9) (24 : Int64)) → P96 x0 x1 x2 x3 x5 x7 x9 y0 σ) ∧ (¬ ((0 : Int32) < (lg_cmp (x5 + x9) (24 : Int64))) → P97 x0 x1 x2 x3 x5 x7 x9 y0 (1 : Int32) σ))))))))))) → P46 x0 x1 x2 x3 x5 x7 x9 y0 σ) →
  (∀ (x0 : Nat) (x1 : Int32) (x2 : Int32) (x3 : Int64) (x5 : Int64) (x7 : Int64) (x9 : Int64) (x11 : Int32) (σ : q_S), (P97 x0 x1 x2 x3 x5 x7 x9 x11 (0 : Int32) σ) → P96 x0 x1 x2 x3 x5 x7 x9 x11 σ) →
  (∀ (x0 : Nat) (x1 : Int32) (x2 : Int32) (x3 : Int64) (x5 : Int64) (x7 : Int64) (x9 : Int64) (x11 : Int32) (y0 : Int32) (σ : q_S), (q_K σ x0 = 7 ∧ ((¬ (f_PM_isLayer σ x0 x2) = (0 : Int32) → (((f_PM_isNet x1) = (0 : Int32) → P133 x0 x1 x2 x3 x5 x7 x9 x0 σ) ∧ (¬ ((f_PM_isNet x1) = (0 : Int32)) → ((x11 = (0 : Int32) → P133 x0 x1 x2 x3 x5 x7 x9 x0 σ) ∧ (¬ (x11 = (0 : Int32)) → ((y0 = (0 : Int32) → P133 x0 x1 x2 x3 x5 x7 x9 x0 σ) ∧ (¬ (y0 = (0 : Int32)) → P134 x0 x1 x2 x3 x5 x7 x9 (0 : Int32) x0 σ))))))) ∧ (¬ (¬ (f_PM_isLayer σ x0 x2) = (0 : Int32)) → P134 x0 x1 x2 x3 x5 x7 x9 (1 : Int32) x0 σ))) → P97 x0 x1 x2 x3 x5 x7 x9 x11 y0 σ) →
  (∀ (x0 : Nat) (x1 : Int32) (x2 : Int32) (x3 : Int64) (x5 : Int64) (x7 : Int64) (x9 : Int64) (y0 : Nat) (σ : q_S), (P134 x0 x1 x2 x3 x5 x7 x9 (2 : Int32) y0 σ) → P133 x0 x1 x2 x3 x5 x7 x9 y0 σ) →
  (∀ (x0 : Nat) (x1 : Int32) (x2 : Int32) (x3 : Int64) (x5 : Int64) (x7 : Int64) (x9 : Int64) (y0 : Int32) (y1 : Nat) (σ : q_S), (q_K σ y1 = 7 ∧ ∀ σ1 : q_S, σ1 = q_wI σ y1 0 y0 → q_K σ1 x0 = 7 ∧ (((q_I σ1 x0 0) = (0 : Int32) → q_K σ1 x0 = 7 ∧ ((¬ (q_I σ1 x0 16) = (10 : Int32) → q_K σ1 x0 = 7 ∧ q_K σ1 x0 = 7 ∧ q_K σ1 (q_P σ1 x0 17) = 1000 ∧ vp_in (q_I σ1 x0 16) (q_Z σ1 (q_P σ1 x0 17)) ∧ ∀ σ7 : q_S, σ7 = q_wI σ1 (q_P σ1 x0 17) (q_I σ1 x0 16).toNatClampNeg x1 → q_K σ7 x0 = 7 ∧ q_K σ7 x0 = 7 ∧ q_K σ7 (q_P σ7 x0 18) = 1000 ∧ vp_in (q_I σ7 x0 16) (q_Z σ7 (q_P σ7 x0 18)) ∧ ∀ σ12 : q_S, σ12 = q_wI σ7 (q_P σ7 x0 18) (q_I σ7 x0 16).toNatClampNeg x2 → q_K σ12 x0 = 7 ∧ q_K σ12 x0 = 7 ∧ q_K σ12 (q_P σ12 x0 19) = 1000 ∧ vp_in ((4 : Int32) * (q_I σ12 x0 16)) (q_Z σ12 (q_P σ12 x0 19)) ∧ ∀ σ17 : q_S, σ17 = q_wI σ12 (q_P σ12 x0 19) ((4 : Int32) * (q_I σ12 x0 16)).toNatClampNeg x3.toInt32 → q_K σ17 x0 = 7 ∧ q_K σ17 x0 = 7 ∧ q_K σ17 (q_P σ17 x0 19) = 1000 ∧ vp_in (((4 : Int32) * (q_I σ17 x0 16)) + (1 : Int32)) (q_Z σ17 (q_P σ17 x0 19)) ∧ ∀ σ22 : q_S, σ22 = q_wI σ17 (q_P σ17 x0 19) (((4 : Int32) * (q_I σ17 x0 16)) + (1 : Int32)).toNatClampNeg x5.toInt32 → q_K σ22 x0 = 7 ∧ q_K σ22 x0 = 7 ∧ q_K σ22 (q_P σ22 x0 19) = 1000 ∧ vp_in (((4 : Int32) * (q_I σ22 x0 16)) + (2 : Int32)) (q_Z σ22 (q_P σ22 x0 19)) ∧ ∀ σ27 : q_S, σ27 = q_wI σ22 (q_P σ22 x0 19) (((4 : Int32) * (q_I σ22 x0 16)) + (2 : Int32)).toNatClampNeg x7.toInt32 → q_K σ27 x0 = 7 ∧ q_K σ27 x0 = 7 ∧ q_K σ27 (q_P σ27 x0 19) = 1000 ∧ vp_in (((4 : Int32) * (q_I σ27 x0 16)) + (3 : Int32)) (q_Z σ27 (q_P σ27 x0 19)) ∧ ∀ σ32 : q_S, σ32 = q_wI σ27 (q_P σ27 x0 19) (((4 : Int32) * (q_I σ27 x0 16)) + (3 : Int32)).toNatClampNeg x9.toInt32 → q_K σ32 x0 = 7 ∧ q_K σ32 x0 = 7 ∧ ∀ σ37 : q_S, σ37 = q_wI σ32 x0 16 ((q_I σ32 x0 16) + (1 : Int32)) → q_K σ37 x0 = 7 ∧ R (.inl (some (.inl ((q_I σ37 x0 16) - (1 : Int32))))) σ37) ∧ (¬ (¬ (q_I σ1 x0 16) = (10 : Int32)) → R (.inl (some (.inl (-1 : Int32)))) σ1))) ∧ (¬ ((q_I σ1 x0 0) = (0 : Int32)) → R (.inl (some (.inl (0 : Int32)))) σ1))) → P134 x0 x1 x2 x3 x5 x7 x9 y0 y1 σ) →
  (((lg_cmp x3 (0 : Int64)) < (0 : Int32) → P45 x0 x1 x2 x3 x5 x7 x9 σ) ∧ (¬ ((lg_cmp x3 (0 : Int64)) < (0 : Int32)) → (((0 : Int32) ≤ (lg_cmp x3 (32 : Int64)) → P45 x0 x1 x2 x3 x5 x7 x9 σ) ∧ (¬ ((0 : Int32) ≤ (lg_cmp x3 (32 : Int64))) → (((lg_cmp x7 (1 : Int64)) < (0 : Int32) → P45 x0 x1 x2 x3 x5 x7 x9 σ) ∧ (¬ ((lg_cmp x7 (1 : Int64)) < (0 : Int32)) → (((0 : Int32) < (lg_cmp x7 (32 : Int64)) → P45 x0 x1 x2 x3 x5 x7 x9 σ) ∧ (¬ ((0 : Int32) < (lg_cmp x7 (32 : Int64))) → (((0 : Int32) < (lg_cmp (x3 + x7) (32 : Int64)) → P45 x0 x1 x2 x3 x5 x7 x9 σ) ∧ (¬ ((0 : Int32) < (lg_cmp (x3 + x7) (32 : Int64))) → P46 x0 x1 x2 x3 x5 x7 x9 (1 : Int32) σ))))))))))
set_option maxRecDepth 100000 in
theorem t_PM_pad {l : Launch} {cx : q_C} {x0 : Nat} {x1 : Int32} {x2 : Int32} {x3 : Int64} {x5 : Int64} {x7 : Int64} {x9 : Int64} {σ : q_S} {R : q_O → q_S → Prop} (hV : V_PM_pad x0 x1 x2 x3 x5 x7 x9 σ R) : q_Ct l cx M_PM_pad 1 64 0 0 [q_r x0, q_i x1, q_i x2, q_l x3, q_l x5, q_l x7, q_l x9] σ R := by
  refine q_Ct.of p_PM_pad c_PM_pad rfl (Nat.le_of_ble_eq_true rfl) ?_
  have hV := hV (fun (x0 : Nat) (x1 : Int32) (x2 : Int32) (x3 : Int64) (x5 : Int64) (x7 : Int64) (x9 : Int64) (σ : q_S) => q_G l cx M_PM_pad 1 64 0 0 45 [(0, .inr (.inr x0)), (1, .inl x1), (2, .inl x2), (3, .inr (.inl x3)), (5, .inr (.inl x5)), (7, .inr (.inl x7)), (9, .inr (.inl x9))] [] σ R) (fun (x0 : Nat) (x1 : Int32) (x2 : Int32) (x3 : Int64) (x5 : Int64) (x7 : Int64) (x9 : Int64) (y0 : Int32) (σ : q_S) => q_G l cx M_PM_pad 1 64 0 0 46 [(0, .inr (.inr x0)), (1, .inl x1), (2, .inl x2), (3, .inr (.inl x3)), (5, .inr (.inl x5)), (7, .inr (.inl x7)), (9, .inr (.inl x9))] [.inl y0] σ R) (fun (x0 : Nat) (x1 : Int32) (x2 : Int32) (x3 : Int64) (x5 : Int64) (x7 : Int64) (x9 : Int64) (x11 : Int32) (σ : q_S) => q_G l cx M_PM_pad 1 64 0 0 96 [(0, .inr (.inr x0)), (1, .inl x1), (2, .inl x2), (3, .inr (.inl x3)), (5, .inr (.inl x5)), (7, .inr (.inl x7)), (9, .inr (.inl x9)), (11, .inl x11)] [] σ R) (fun (x0 : Nat) (x1 : Int32) (x2 : Int32) (x3 : Int64) (x5 : Int64) (x7 : Int64) (x9 : Int64) (x11 : Int32) (y0 : Int32) (σ : q_S) => q_G l cx M_PM_pad 1 64 0 0 97 [(0, .inr (.inr x0)), (1, .inl x1), (2, .inl x2), (3, .inr (.inl x3)), (5, .inr (.inl x5)), (7, .inr (.inl x7)), (9, .inr (.inl x9)), (11, .inl x11)] [.inl y0] σ R) (fun (x0 : Nat) (x1 : Int32) (x2 : Int32) (x3 : Int64) (x5 : Int64) (x7 : Int64) (x9 : Int64) (y0 : Nat) (σ : q_S) => q_G l cx M_PM_pad 1 64 0 0 133 [(0, .inr (.inr x0)), (1, .inl x1), (2, .inl x2), (3, .inr (.inl x3)), (5, .inr (.inl x5)), (7, .inr (.inl x7)), (9, .inr (.inl x9))] [.inr (.inr y0)] σ R) (fun (x0 : Nat) (x1 : Int32) (x2 : Int32) (x3 : Int64) (x5 : Int64) (x7 : Int64) (x9 : Int64) (y0 : Int32) (y1 : Nat) (σ : q_S) => q_G l cx M_PM_pad 1 64 0 0 134 [(0, .inr (.inr x0)), (1, .inl x1), (2, .inl x2), (3, .inr (.inl x3)), (5, .inr (.inl x5)), (7, .inr (.inl x7)), (9, .inr (.inl x9))] [.inl y0, .inr (.inr y1)] σ R)
  have hV := hV (by
      intro x0 x1 x2 x3 x5 x7 x9 σ hV
      show q_G l cx M_PM_pad 1 64 0 0 45 [(0, .inr (.inr x0)), (1, .inl x1), (2, .inl x2), (3, .inr (.inl x3)), (5, .inr (.inl x5)), (7, .inr (.inl x7)), (9, .inr (.inl x9))] [] σ R
      refine q_run k_PM_pad 24 1 46 rfl ?_
      show q_G l cx M_PM_pad 1 64 0 0 46 [(0, .inr (.inr x0)), (1, .inl x1), (2, .inl x2), (3, .inr (.inl x3)), (5, .inr (.inl x5)), (7, .inr (.inl x7)), (9, .inr (.inl x9))] [.inl (0 : Int32)] σ R
      exact q_less (Nat.le_of_ble_eq_true rfl) (Nat.le_of_ble_eq_true rfl) (q_subk [0, 1, 2, 3, 4, 5, 6] rfl hV))
  have hV := hV (by
      intro x0 x1 x2 x3 x5 x7 x9 y0 σ hV
      show q_G l cx M_PM_pad 1 64 0 0 46 [(0, .inr (.inr x0)), (1, .inl x1), (2, .inl x2), (3, .inr (.inl x3)), (5, .inr (.inl x5)), (7, .inr (.inl x7)), (9, .inr (.inl x9))] [.inl y0] σ R
      refine q_run k_PM_pad 25 4 52 rfl ?_
      show q_G l cx M_PM_pad 1 64 0 0 52 [(11, .inl y0), (0, .inr (.inr x0)), (1, .inl x1), (2, .inl x2), (3, .inr (.inl x3)), (5, .inr (.inl x5)), (7, .inr (.inl x7)), (9, .inr (.inl x9))] [.inl (lg_cmp x5 (0 : Int64))] σ R
      refine q_ifz (q_dc k_PM_pad 29 rfl) rfl (fun h1 => ?_) (fun h1 => ?_)
      · have hV := hV.1 h1
        exact q_less (Nat.le_of_ble_eq_true rfl) (Nat.le_of_ble_eq_true rfl) (q_subk [1, 2, 3, 4, 5, 6, 7, 0] rfl hV)
      · have hV := hV.2 h1
        refine q_run k_PM_pad 30 3 61 rfl ?_
        show q_G l cx M_PM_pad 1 64 0 0 61 [(11, .inl y0), (0, .inr (.inr x0)), (1, .inl x1), (2, .inl x2), (3, .inr (.inl x3)), (5, .inr (.inl x5)), (7, .inr (.inl x7)), (9, .inr (.inl x9))] [.inl (lg_cmp x5 (24 : Int64))] σ R
        refine q_ifz (q_dc k_PM_pad 33 rfl) rfl (fun h2 => ?_) (fun h2 => ?_)
        · have hV := hV.1 h2
          exact q_less (Nat.le_of_ble_eq_true rfl) (Nat.le_of_ble_eq_true rfl) (q_subk [1, 2, 3, 4, 5, 6, 7, 0] rfl hV)
        · have hV := hV.2 h2
          refine q_run k_PM_pad 34 3 68 rfl ?_
          show q_G l cx M_PM_pad 1 64 0 0 68 [(11, .inl y0), (0, .inr (.inr x0)), (1, .inl x1), (2, .inl x2), (3, .inr (.inl x3)), (5, .inr (.inl x5)), (7, .inr (.inl x7)), (9, .inr (.inl x9))] [.inl (lg_cmp x9 (1 : Int64))] σ R
          refine q_ifz (q_dc k_PM_pad 37 rfl) rfl (fun h3 => ?_) (fun h3 => ?_)
          · have hV := hV.1 h3
            exact q_less (Nat.le_of_ble_eq_true rfl) (Nat.le_of_ble_eq_true rfl) (q_subk [1, 2, 3, 4, 5, 6, 7, 0] rfl hV)
          · have hV := hV.2 h3
            refine q_run k_PM_pad 38 3 77 rfl ?_
            show q_G l cx M_PM_pad 1 64 0 0 77 [(11, .inl y0), (0, .inr (.inr x0)), (1, .inl x1), (2, .inl x2), (3, .inr (.inl x3)), (5, .inr (.inl x5)), (7, .inr (.inl x7)), (9, .inr (.inl x9))] [.inl (lg_cmp x9 (24 : Int64))] σ R
            refine q_ifz (q_dc k_PM_pad 41 rfl) rfl (fun h4 => ?_) (fun h4 => ?_)
            · have hV := hV.1 h4
              exact q_less (Nat.le_of_ble_eq_true rfl) (Nat.le_of_ble_eq_true rfl) (q_subk [1, 2, 3, 4, 5, 6, 7, 0] rfl hV)
            · have hV := hV.2 h4
              refine q_run k_PM_pad 42 5 89 rfl ?_
              show q_G l cx M_PM_pad 1 64 0 0 89 [(11, .inl y0), (0, .inr (.inr x0)), (1, .inl x1), (2, .inl x2), (3, .inr (.inl x3)), (5, .inr (.inl x5)), (7, .inr (.inl x7)), (9, .inr (.inl x9))] [.inl (lg_cmp (x5 + x9) (24 : Int64))] σ R
              refine q_ifz (q_dc k_PM_pad 47 rfl) rfl (fun h5 => ?_) (fun h5 => ?_)
              · have hV := hV.1 h5
                exact q_less (Nat.le_of_ble_eq_true rfl) (Nat.le_of_ble_eq_true rfl) (q_subk [1, 2, 3, 4, 5, 6, 7, 0] rfl hV)
              · have hV := hV.2 h5
                refine q_run k_PM_pad 48 1 93 rfl ?_
                show q_G l cx M_PM_pad 1 64 0 0 93 [(11, .inl y0), (0, .inr (.inr x0)), (1, .inl x1), (2, .inl x2), (3, .inr (.inl x3)), (5, .inr (.inl x5)), (7, .inr (.inl x7)), (9, .inr (.inl x9))] [.inl (1 : Int32)] σ R
                refine q_goto (q_dc k_PM_pad 49 rfl) rfl ?_
                exact q_less (Nat.le_of_ble_eq_true rfl) (Nat.le_of_ble_eq_true rfl) (q_subk [1, 2, 3, 4, 5, 6, 7, 0] rfl hV))
  have hV := hV (by
      intro x0 x1 x2 x3 x5 x7 x9 x11 σ hV
      show q_G l cx M_PM_pad 1 64 0 0 96 [(0, .inr (.inr x0)), (1, .inl x1), (2, .inl x2), (3, .inr (.inl x3)), (5, .inr (.inl x5)), (7, .inr (.inl x7)), (9, .inr (.inl x9)), (11, .inl x11)] [] σ R
      refine q_run k_PM_pad 50 1 97 rfl ?_
      show q_G l cx M_PM_pad 1 64 0 0 97 [(0, .inr (.inr x0)), (1, .inl x1), (2, .inl x2), (3, .inr (.inl x3)), (5, .inr (.inl x5)), (7, .inr (.inl x7)), (9, .inr (.inl x9)), (11, .inl x11)] [.inl (0 : Int32)] σ R
      exact q_less (Nat.le_of_ble_eq_true rfl) (Nat.le_of_ble_eq_true rfl) (q_subk [0, 1, 2, 3, 4, 5, 6, 7] rfl hV))
  have hV := hV (by
      intro x0 x1 x2 x3 x5 x7 x9 x11 y0 σ hV
      show q_G l cx M_PM_pad 1 64 0 0 97 [(0, .inr (.inr x0)), (1, .inl x1), (2, .inl x2), (3, .inr (.inl x3)), (5, .inr (.inl x5)), (7, .inr (.inl x7)), (9, .inr (.inl x9)), (11, .inl x11)] [.inl y0] σ R
      refine q_run k_PM_pad 51 4 102 rfl ?_
      show q_G l cx M_PM_pad 1 64 0 0 102 [(12, .inl y0), (0, .inr (.inr x0)), (1, .inl x1), (2, .inl x2), (3, .inr (.inl x3)), (5, .inr (.inl x5)), (7, .inr (.inl x7)), (9, .inr (.inl x9)), (11, .inl x11)] [.inl x2, .inr (.inr x0), .inr (.inr x0)] σ R
      obtain ⟨s1, hV⟩ := hV
      refine q_callV (st := [.inr (.inr x0)]) (as := [.inl x2]) (t_PM_isLayer (l := l) (cx := cx) (σ := σ) x0 x2 s1) (q_dc k_PM_pad 55 rfl) (Or.inl (List.mem_of_getElem? (i := 944) (by decide +kernel))) w_PM_isLayer n_PM_isLayer (ci := 6) rfl e_PM_isLayer a_PM_isLayer (q_wt (Nat.le_of_ble_eq_true rfl)) ⟨Nat.le_of_ble_eq_true rfl, Nat.le_of_ble_eq_true rfl⟩ s1 (fun v9 τ9 q9 => ?_) (fun n9 τ9 q9 => by cases q9.1)
      obtain ⟨q8, q7⟩ := q9
      cases q8
      rw [q7]
      show q_G l cx M_PM_pad 1 64 0 0 105 [(12, .inl y0), (0, .inr (.inr x0)), (1, .inl x1), (2, .inl x2), (3, .inr (.inl x3)), (5, .inr (.inl x5)), (7, .inr (.inl x7)), (9, .inr (.inl x9)), (11, .inl x11)] [.inl (f_PM_isLayer σ x0 x2), .inr (.inr x0)] σ R
      refine q_ifz (q_dc k_PM_pad 56 rfl) rfl (fun h2 => ?_) (fun h2 => ?_)
      · have hV := hV.1 h2
        refine q_run k_PM_pad 59 1 113 rfl ?_
        show q_G l cx M_PM_pad 1 64 0 0 113 [(12, .inl y0), (0, .inr (.inr x0)), (1, .inl x1), (2, .inl x2), (3, .inr (.inl x3)), (5, .inr (.inl x5)), (7, .inr (.inl x7)), (9, .inr (.inl x9)), (11, .inl x11)] [.inl x1, .inr (.inr x0)] σ R
        refine q_callS (st := [.inr (.inr x0)]) (t_PM_isNet (l := l) (cx := cx) (σ := σ) x1) (q_dc k_PM_pad 60 rfl) (Or.inl (List.mem_of_getElem? (i := 947) (by decide +kernel))) w_PM_isNet s_PM_isNet a_PM_isNet (q_wt (Nat.le_of_ble_eq_true rfl)) ⟨Nat.le_of_ble_eq_true rfl, Nat.le_of_ble_eq_true rfl⟩ (fun v9 τ9 q9 => ?_) (fun n9 τ9 q9 => by cases q9.1)
        obtain ⟨q8, q7⟩ := q9
        cases q8
        rw [q7]
        show q_G l cx M_PM_pad 1 64 0 0 116 [(12, .inl y0), (0, .inr (.inr x0)), (1, .inl x1), (2, .inl x2), (3, .inr (.inl x3)), (5, .inr (.inl x5)), (7, .inr (.inl x7)), (9, .inr (.inl x9)), (11, .inl x11)] [.inl (f_PM_isNet x1), .inr (.inr x0)] σ R
        refine q_ifz (q_dc k_PM_pad 61 rfl) rfl (fun h3 => ?_) (fun h3 => ?_)
        · have hV := hV.1 h3
          exact q_less (Nat.le_of_ble_eq_true rfl) (Nat.le_of_ble_eq_true rfl) (q_subk [1, 2, 3, 4, 5, 6, 7] rfl hV)
        · have hV := hV.2 h3
          refine q_run k_PM_pad 62 1 121 rfl ?_
          show q_G l cx M_PM_pad 1 64 0 0 121 [(12, .inl y0), (0, .inr (.inr x0)), (1, .inl x1), (2, .inl x2), (3, .inr (.inl x3)), (5, .inr (.inl x5)), (7, .inr (.inl x7)), (9, .inr (.inl x9)), (11, .inl x11)] [.inl x11, .inr (.inr x0)] σ R
          refine q_ifz (q_dc k_PM_pad 63 rfl) rfl (fun h4 => ?_) (fun h4 => ?_)
          · have hV := hV.1 h4
            exact q_less (Nat.le_of_ble_eq_true rfl) (Nat.le_of_ble_eq_true rfl) (q_subk [1, 2, 3, 4, 5, 6, 7] rfl hV)
          · have hV := hV.2 h4
            refine q_run k_PM_pad 64 1 126 rfl ?_
            show q_G l cx M_PM_pad 1 64 0 0 126 [(12, .inl y0), (0, .inr (.inr x0)), (1, .inl x1), (2, .inl x2), (3, .inr (.inl x3)), (5, .inr (.inl x5)), (7, .inr (.inl x7)), (9, .inr (.inl x9)), (11, .inl x11)] [.inl y0, .inr (.inr x0)] σ R
            refine q_ifz (q_dc k_PM_pad 65 rfl) rfl (fun h5 => ?_) (fun h5 => ?_)
            · have hV := hV.1 h5
              exact q_less (Nat.le_of_ble_eq_true rfl) (Nat.le_of_ble_eq_true rfl) (q_subk [1, 2, 3, 4, 5, 6, 7] rfl hV)
            · have hV := hV.2 h5
              refine q_run k_PM_pad 66 1 130 rfl ?_
              show q_G l cx M_PM_pad 1 64 0 0 130 [(12, .inl y0), (0, .inr (.inr x0)), (1, .inl x1), (2, .inl x2), (3, .inr (.inl x3)), (5, .inr (.inl x5)), (7, .inr (.inl x7)), (9, .inr (.inl x9)), (11, .inl x11)] [.inl (0 : Int32), .inr (.inr x0)] σ R
              refine q_goto (q_dc k_PM_pad 67 rfl) rfl ?_
              exact q_less (Nat.le_of_ble_eq_true rfl) (Nat.le_of_ble_eq_true rfl) (q_subk [1, 2, 3, 4, 5, 6, 7] rfl hV)
      · have hV := hV.2 h2
        refine q_run k_PM_pad 57 1 109 rfl ?_
        show q_G l cx M_PM_pad 1 64 0 0 109 [(12, .inl y0), (0, .inr (.inr x0)), (1, .inl x1), (2, .inl x2), (3, .inr (.inl x3)), (5, .inr (.inl x5)), (7, .inr (.inl x7)), (9, .inr (.inl x9)), (11, .inl x11)] [.inl (1 : Int32), .inr (.inr x0)] σ R
        refine q_goto (q_dc k_PM_pad 58 rfl) rfl ?_
        exact q_less (Nat.le_of_ble_eq_true rfl) (Nat.le_of_ble_eq_true rfl) (q_subk [1, 2, 3, 4, 5, 6, 7] rfl hV))
  have hV := hV (by
      intro x0 x1 x2 x3 x5 x7 x9 y0 σ hV
      show q_G l cx M_PM_pad 1 64 0 0 133 [(0, .inr (.inr x0)), (1, .inl x1), (2, .inl x2), (3, .inr (.inl x3)), (5, .inr (.inl x5)), (7, .inr (.inl x7)), (9, .inr (.inl x9))] [.inr (.inr y0)] σ R
      refine q_run k_PM_pad 68 1 134 rfl ?_
      show q_G l cx M_PM_pad 1 64 0 0 134 [(0, .inr (.inr x0)), (1, .inl x1), (2, .inl x2), (3, .inr (.inl x3)), (5, .inr (.inl x5)), (7, .inr (.inl x7)), (9, .inr (.inl x9))] [.inl (2 : Int32), .inr (.inr y0)] σ R
      exact q_less (Nat.le_of_ble_eq_true rfl) (Nat.le_of_ble_eq_true rfl) (q_subk [0, 1, 2, 3, 4, 5, 6] rfl hV))
  have hV := hV (by
      intro x0 x1 x2 x3 x5 x7 x9 y0 y1 σ hV
      show q_G l cx M_PM_pad 1 64 0 0 134 [(0, .inr (.inr x0)), (1, .inl x1), (2, .inl x2), (3, .inr (.inl x3)), (5, .inr (.inl x5)), (7, .inr (.inl x7)), (9, .inr (.inl x9))] [.inl y0, .inr (.inr y1)] σ R
      refine q_run k_PM_pad 69 1 137 rfl ?_
      show q_K σ y1 = 7 ∧ q_G l cx M_PM_pad 1 64 0 0 137 [(0, .inr (.inr x0)), (1, .inl x1), (2, .inl x2), (3, .inr (.inl x3)), (5, .inr (.inl x5)), (7, .inr (.inl x7)), (9, .inr (.inl x9))] [] (q_wI σ y1 0 y0) R
      obtain ⟨s2, hV⟩ := hV
      refine ⟨s2, ?_⟩
      refine q_let (fun σ1 => q_G l cx M_PM_pad 1 64 0 0 137 [(0, .inr (.inr x0)), (1, .inl x1), (2, .inl x2), (3, .inr (.inl x3)), (5, .inr (.inl x5)), (7, .inr (.inl x7)), (9, .inr (.inl x9))] [] σ1 R) (q_wI σ y1 0 y0) (fun σ1 e_σ1 => ?_)
      have hV := hV σ1 e_σ1
      refine q_run k_PM_pad 70 2 141 rfl ?_
      show q_K σ1 x0 = 7 ∧ q_G l cx M_PM_pad 1 64 0 0 141 [(0, .inr (.inr x0)), (1, .inl x1), (2, .inl x2), (3, .inr (.inl x3)), (5, .inr (.inl x5)), (7, .inr (.inl x7)), (9, .inr (.inl x9))] [.inl (q_I σ1 x0 0)] σ1 R
      obtain ⟨s3, hV⟩ := hV
      refine ⟨s3, ?_⟩
      refine q_ifz (q_dc k_PM_pad 72 rfl) rfl (fun h4 => ?_) (fun h4 => ?_)
      · have hV := hV.1 h4
        refine q_run k_PM_pad 75 3 152 rfl ?_
        show q_K σ1 x0 = 7 ∧ q_G l cx M_PM_pad 1 64 0 0 152 [(0, .inr (.inr x0)), (1, .inl x1), (2, .inl x2), (3, .inr (.inl x3)), (5, .inr (.inl x5)), (7, .inr (.inl x7)), (9, .inr (.inl x9))] [.inl (10 : Int32), .inl (q_I σ1 x0 16)] σ1 R
        obtain ⟨s5, hV⟩ := hV
        refine ⟨s5, ?_⟩
        refine q_icmp (q_dc k_PM_pad 78 rfl) rfl (fun h6 => ?_) (fun h6 => ?_)
        · have hV := hV.1 h6
          refine q_run k_PM_pad 81 6 167 rfl ?_
          show q_K σ1 x0 = 7 ∧ q_K σ1 x0 = 7 ∧ q_K σ1 (q_P σ1 x0 17) = 1000 ∧ vp_in (q_I σ1 x0 16) (q_Z σ1 (q_P σ1 x0 17)) ∧ q_G l cx M_PM_pad 1 64 0 0 167 [(0, .inr (.inr x0)), (1, .inl x1), (2, .inl x2), (3, .inr (.inl x3)), (5, .inr (.inl x5)), (7, .inr (.inl x7)), (9, .inr (.inl x9))] [] (q_wI σ1 (q_P σ1 x0 17) (q_I σ1 x0 16).toNatClampNeg x1) R
          obtain ⟨s8, s9, s10, s11, hV⟩ := hV
          refine ⟨s8, s9, s10, s11, ?_⟩
          refine q_let (fun σ7 => q_G l cx M_PM_pad 1 64 0 0 167 [(0, .inr (.inr x0)), (1, .inl x1), (2, .inl x2), (3, .inr (.inl x3)), (5, .inr (.inl x5)), (7, .inr (.inl x7)), (9, .inr (.inl x9))] [] σ7 R) (q_wI σ1 (q_P σ1 x0 17) (q_I σ1 x0 16).toNatClampNeg x1) (fun σ7 e_σ7 => ?_)
          have hV := hV σ7 e_σ7
          refine q_run k_PM_pad 87 6 177 rfl ?_
          show q_K σ7 x0 = 7 ∧ q_K σ7 x0 = 7 ∧ q_K σ7 (q_P σ7 x0 18) = 1000 ∧ vp_in (q_I σ7 x0 16) (q_Z σ7 (q_P σ7 x0 18)) ∧ q_G l cx M_PM_pad 1 64 0 0 177 [(0, .inr (.inr x0)), (1, .inl x1), (2, .inl x2), (3, .inr (.inl x3)), (5, .inr (.inl x5)), (7, .inr (.inl x7)), (9, .inr (.inl x9))] [] (q_wI σ7 (q_P σ7 x0 18) (q_I σ7 x0 16).toNatClampNeg x2) R
          obtain ⟨s13, s14, s15, s16, hV⟩ := hV
          refine ⟨s13, s14, s15, s16, ?_⟩
          refine q_let (fun σ12 => q_G l cx M_PM_pad 1 64 0 0 177 [(0, .inr (.inr x0)), (1, .inl x1), (2, .inl x2), (3, .inr (.inl x3)), (5, .inr (.inl x5)), (7, .inr (.inl x7)), (9, .inr (.inl x9))] [] σ12 R) (q_wI σ7 (q_P σ7 x0 18) (q_I σ7 x0 16).toNatClampNeg x2) (fun σ12 e_σ12 => ?_)
          have hV := hV σ12 e_σ12
          refine q_run k_PM_pad 93 9 190 rfl ?_
          show q_K σ12 x0 = 7 ∧ q_K σ12 x0 = 7 ∧ q_K σ12 (q_P σ12 x0 19) = 1000 ∧ vp_in ((4 : Int32) * (q_I σ12 x0 16)) (q_Z σ12 (q_P σ12 x0 19)) ∧ q_G l cx M_PM_pad 1 64 0 0 190 [(0, .inr (.inr x0)), (1, .inl x1), (2, .inl x2), (3, .inr (.inl x3)), (5, .inr (.inl x5)), (7, .inr (.inl x7)), (9, .inr (.inl x9))] [] (q_wI σ12 (q_P σ12 x0 19) ((4 : Int32) * (q_I σ12 x0 16)).toNatClampNeg x3.toInt32) R
          obtain ⟨s18, s19, s20, s21, hV⟩ := hV
          refine ⟨s18, s19, s20, s21, ?_⟩
          refine q_let (fun σ17 => q_G l cx M_PM_pad 1 64 0 0 190 [(0, .inr (.inr x0)), (1, .inl x1), (2, .inl x2), (3, .inr (.inl x3)), (5, .inr (.inl x5)), (7, .inr (.inl x7)), (9, .inr (.inl x9))] [] σ17 R) (q_wI σ12 (q_P σ12 x0 19) ((4 : Int32) * (q_I σ12 x0 16)).toNatClampNeg x3.toInt32) (fun σ17 e_σ17 => ?_)
          have hV := hV σ17 e_σ17
          refine q_run k_PM_pad 102 11 206 rfl ?_
          show q_K σ17 x0 = 7 ∧ q_K σ17 x0 = 7 ∧ q_K σ17 (q_P σ17 x0 19) = 1000 ∧ vp_in (((4 : Int32) * (q_I σ17 x0 16)) + (1 : Int32)) (q_Z σ17 (q_P σ17 x0 19)) ∧ q_G l cx M_PM_pad 1 64 0 0 206 [(0, .inr (.inr x0)), (1, .inl x1), (2, .inl x2), (3, .inr (.inl x3)), (5, .inr (.inl x5)), (7, .inr (.inl x7)), (9, .inr (.inl x9))] [] (q_wI σ17 (q_P σ17 x0 19) (((4 : Int32) * (q_I σ17 x0 16)) + (1 : Int32)).toNatClampNeg x5.toInt32) R
          obtain ⟨s23, s24, s25, s26, hV⟩ := hV
          refine ⟨s23, s24, s25, s26, ?_⟩
          refine q_let (fun σ22 => q_G l cx M_PM_pad 1 64 0 0 206 [(0, .inr (.inr x0)), (1, .inl x1), (2, .inl x2), (3, .inr (.inl x3)), (5, .inr (.inl x5)), (7, .inr (.inl x7)), (9, .inr (.inl x9))] [] σ22 R) (q_wI σ17 (q_P σ17 x0 19) (((4 : Int32) * (q_I σ17 x0 16)) + (1 : Int32)).toNatClampNeg x5.toInt32) (fun σ22 e_σ22 => ?_)
          have hV := hV σ22 e_σ22
          refine q_run k_PM_pad 113 11 222 rfl ?_
          show q_K σ22 x0 = 7 ∧ q_K σ22 x0 = 7 ∧ q_K σ22 (q_P σ22 x0 19) = 1000 ∧ vp_in (((4 : Int32) * (q_I σ22 x0 16)) + (2 : Int32)) (q_Z σ22 (q_P σ22 x0 19)) ∧ q_G l cx M_PM_pad 1 64 0 0 222 [(0, .inr (.inr x0)), (1, .inl x1), (2, .inl x2), (3, .inr (.inl x3)), (5, .inr (.inl x5)), (7, .inr (.inl x7)), (9, .inr (.inl x9))] [] (q_wI σ22 (q_P σ22 x0 19) (((4 : Int32) * (q_I σ22 x0 16)) + (2 : Int32)).toNatClampNeg x7.toInt32) R
          obtain ⟨s28, s29, s30, s31, hV⟩ := hV
          refine ⟨s28, s29, s30, s31, ?_⟩
          refine q_let (fun σ27 => q_G l cx M_PM_pad 1 64 0 0 222 [(0, .inr (.inr x0)), (1, .inl x1), (2, .inl x2), (3, .inr (.inl x3)), (5, .inr (.inl x5)), (7, .inr (.inl x7)), (9, .inr (.inl x9))] [] σ27 R) (q_wI σ22 (q_P σ22 x0 19) (((4 : Int32) * (q_I σ22 x0 16)) + (2 : Int32)).toNatClampNeg x7.toInt32) (fun σ27 e_σ27 => ?_)
          have hV := hV σ27 e_σ27
          refine q_run k_PM_pad 124 11 238 rfl ?_
          show q_K σ27 x0 = 7 ∧ q_K σ27 x0 = 7 ∧ q_K σ27 (q_P σ27 x0 19) = 1000 ∧ vp_in (((4 : Int32) * (q_I σ27 x0 16)) + (3 : Int32)) (q_Z σ27 (q_P σ27 x0 19)) ∧ q_G l cx M_PM_pad 1 64 0 0 238 [(0, .inr (.inr x0)), (1, .inl x1), (2, .inl x2), (3, .inr (.inl x3)), (5, .inr (.inl x5)), (7, .inr (.inl x7)), (9, .inr (.inl x9))] [] (q_wI σ27 (q_P σ27 x0 19) (((4 : Int32) * (q_I σ27 x0 16)) + (3 : Int32)).toNatClampNeg x9.toInt32) R
          obtain ⟨s33, s34, s35, s36, hV⟩ := hV
          refine ⟨s33, s34, s35, s36, ?_⟩
          refine q_let (fun σ32 => q_G l cx M_PM_pad 1 64 0 0 238 [(0, .inr (.inr x0)), (1, .inl x1), (2, .inl x2), (3, .inr (.inl x3)), (5, .inr (.inl x5)), (7, .inr (.inl x7)), (9, .inr (.inl x9))] [] σ32 R) (q_wI σ27 (q_P σ27 x0 19) (((4 : Int32) * (q_I σ27 x0 16)) + (3 : Int32)).toNatClampNeg x9.toInt32) (fun σ32 e_σ32 => ?_)
          have hV := hV σ32 e_σ32
          refine q_run k_PM_pad 135 6 248 rfl ?_
          show q_K σ32 x0 = 7 ∧ q_K σ32 x0 = 7 ∧ q_G l cx M_PM_pad 1 64 0 0 248 [(0, .inr (.inr x0)), (1, .inl x1), (2, .inl x2), (3, .inr (.inl x3)), (5, .inr (.inl x5)), (7, .inr (.inl x7)), (9, .inr (.inl x9))] [] (q_wI σ32 x0 16 ((q_I σ32 x0 16) + (1 : Int32))) R
          obtain ⟨s38, s39, hV⟩ := hV
          refine ⟨s38, s39, ?_⟩
          refine q_let (fun σ37 => q_G l cx M_PM_pad 1 64 0 0 248 [(0, .inr (.inr x0)), (1, .inl x1), (2, .inl x2), (3, .inr (.inl x3)), (5, .inr (.inl x5)), (7, .inr (.inl x7)), (9, .inr (.inl x9))] [] σ37 R) (q_wI σ32 x0 16 ((q_I σ32 x0 16) + (1 : Int32))) (fun σ37 e_σ37 => ?_)
          have hV := hV σ37 e_σ37
          refine q_run k_PM_pad 141 4 254 rfl ?_
          show q_K σ37 x0 = 7 ∧ q_G l cx M_PM_pad 1 64 0 0 254 [(0, .inr (.inr x0)), (1, .inl x1), (2, .inl x2), (3, .inr (.inl x3)), (5, .inr (.inl x5)), (7, .inr (.inl x7)), (9, .inr (.inl x9))] [.inl ((q_I σ37 x0 16) - (1 : Int32))] σ37 R
          obtain ⟨s40, hV⟩ := hV
          refine ⟨s40, ?_⟩
          exact q_ireturn (q_dc k_PM_pad 145 rfl) rfl hV
        · have hV := hV.2 h6
          refine q_run k_PM_pad 79 1 156 rfl ?_
          show q_G l cx M_PM_pad 1 64 0 0 156 [(0, .inr (.inr x0)), (1, .inl x1), (2, .inl x2), (3, .inr (.inl x3)), (5, .inr (.inl x5)), (7, .inr (.inl x7)), (9, .inr (.inl x9))] [.inl (-1 : Int32)] σ1 R
          exact q_ireturn (q_dc k_PM_pad 80 rfl) rfl hV
      · have hV := hV.2 h4
        refine q_run k_PM_pad 73 1 145 rfl ?_
        show q_G l cx M_PM_pad 1 64 0 0 145 [(0, .inr (.inr x0)), (1, .inl x1), (2, .inl x2), (3, .inr (.inl x3)), (5, .inr (.inl x5)), (7, .inr (.inl x7)), (9, .inr (.inl x9))] [.inl (0 : Int32)] σ1 R
        exact q_ireturn (q_dc k_PM_pad 74 rfl) rfl hV)
  refine q_run k_PM_pad 0 3 3 rfl ?_
  show q_G l cx M_PM_pad 1 64 0 0 3 [(0, .inr (.inr x0)), (1, .inl x1), (2, .inl x2), (3, .inr (.inl x3)), (5, .inr (.inl x5)), (7, .inr (.inl x7)), (9, .inr (.inl x9))] [.inl (lg_cmp x3 (0 : Int64))] σ R
  refine q_ifz (q_dc k_PM_pad 3 rfl) rfl (fun h1 => ?_) (fun h1 => ?_)
  · have hV := hV.1 h1
    exact q_less (Nat.le_of_ble_eq_true rfl) (Nat.le_of_ble_eq_true rfl) (q_subk [0, 1, 2, 3, 4, 5, 6] rfl hV)
  · have hV := hV.2 h1
    refine q_run k_PM_pad 4 3 11 rfl ?_
    show q_G l cx M_PM_pad 1 64 0 0 11 [(0, .inr (.inr x0)), (1, .inl x1), (2, .inl x2), (3, .inr (.inl x3)), (5, .inr (.inl x5)), (7, .inr (.inl x7)), (9, .inr (.inl x9))] [.inl (lg_cmp x3 (32 : Int64))] σ R
    refine q_ifz (q_dc k_PM_pad 7 rfl) rfl (fun h2 => ?_) (fun h2 => ?_)
    · have hV := hV.1 h2
      exact q_less (Nat.le_of_ble_eq_true rfl) (Nat.le_of_ble_eq_true rfl) (q_subk [0, 1, 2, 3, 4, 5, 6] rfl hV)
    · have hV := hV.2 h2
      refine q_run k_PM_pad 8 3 18 rfl ?_
      show q_G l cx M_PM_pad 1 64 0 0 18 [(0, .inr (.inr x0)), (1, .inl x1), (2, .inl x2), (3, .inr (.inl x3)), (5, .inr (.inl x5)), (7, .inr (.inl x7)), (9, .inr (.inl x9))] [.inl (lg_cmp x7 (1 : Int64))] σ R
      refine q_ifz (q_dc k_PM_pad 11 rfl) rfl (fun h3 => ?_) (fun h3 => ?_)
      · have hV := hV.1 h3
        exact q_less (Nat.le_of_ble_eq_true rfl) (Nat.le_of_ble_eq_true rfl) (q_subk [0, 1, 2, 3, 4, 5, 6] rfl hV)
      · have hV := hV.2 h3
        refine q_run k_PM_pad 12 3 27 rfl ?_
        show q_G l cx M_PM_pad 1 64 0 0 27 [(0, .inr (.inr x0)), (1, .inl x1), (2, .inl x2), (3, .inr (.inl x3)), (5, .inr (.inl x5)), (7, .inr (.inl x7)), (9, .inr (.inl x9))] [.inl (lg_cmp x7 (32 : Int64))] σ R
        refine q_ifz (q_dc k_PM_pad 15 rfl) rfl (fun h4 => ?_) (fun h4 => ?_)
        · have hV := hV.1 h4
          exact q_less (Nat.le_of_ble_eq_true rfl) (Nat.le_of_ble_eq_true rfl) (q_subk [0, 1, 2, 3, 4, 5, 6] rfl hV)
        · have hV := hV.2 h4
          refine q_run k_PM_pad 16 5 38 rfl ?_
          show q_G l cx M_PM_pad 1 64 0 0 38 [(0, .inr (.inr x0)), (1, .inl x1), (2, .inl x2), (3, .inr (.inl x3)), (5, .inr (.inl x5)), (7, .inr (.inl x7)), (9, .inr (.inl x9))] [.inl (lg_cmp (x3 + x7) (32 : Int64))] σ R
          refine q_ifz (q_dc k_PM_pad 21 rfl) rfl (fun h5 => ?_) (fun h5 => ?_)
          · have hV := hV.1 h5
            exact q_less (Nat.le_of_ble_eq_true rfl) (Nat.le_of_ble_eq_true rfl) (q_subk [0, 1, 2, 3, 4, 5, 6] rfl hV)
          · have hV := hV.2 h5
            refine q_run k_PM_pad 22 1 42 rfl ?_
            show q_G l cx M_PM_pad 1 64 0 0 42 [(0, .inr (.inr x0)), (1, .inl x1), (2, .inl x2), (3, .inr (.inl x3)), (5, .inr (.inl x5)), (7, .inr (.inl x7)), (9, .inr (.inl x9))] [.inl (1 : Int32)] σ R
            refine q_goto (q_dc k_PM_pad 23 rfl) rfl ?_
            exact q_less (Nat.le_of_ble_eq_true rfl) (Nat.le_of_ble_eq_true rfl) (q_subk [0, 1, 2, 3, 4, 5, 6] rfl hV)
def V_PM_rule (x0 : Nat) (x1 : Int32) (x2 : Int64) (σ : q_S) (R : q_O → q_S → Prop) : Prop :=
  ∀ (P10 : Nat → Int32 → Int64 → Int64 → q_S → Prop),
  ∀ (P21 : Nat → Int32 → Int64 → Int64 → q_S → Prop),
  ∀ (P41 : Nat → Int32 → Int64 → Int64 → Int64 → q_S → Prop),
  ∀ (P53 : Nat → Int32 → Int64 → Nat → q_S → Prop),
  ∀ (P71 : Nat → Int32 → Int64 → Nat → q_S → Prop),
  ∀ (P76 : Nat → Int32 → Int64 → Int32 → Nat → q_S → Prop),
  ∀ (P98 : q_S → Prop),
  (∀ (x0 : Nat) (x1 : Int32) (x2 : Int64) (y0 : Int64) (σ : q_S), (((x1 = (0 : Int32) → P21 x0 x1 x2 y0 σ) ∧ (¬ (x1 = (0 : Int32)) → ((¬ x1 = (2 : Int32) → ((¬ x1 = (1 : Int32) → P41 x0 x1 x2 y0 (1000 : Int64) σ) ∧ (¬ (¬ x1 = (1 : Int32)) → P41 x0 x1 x2 y0 (4 : Int64) σ))) ∧ (¬ (¬ x1 = (2 : Int32)) → P21 x0 x1 x2 y0 σ))))) → P10 x0 x1 x2 y0 σ) →
  (∀ (x0 : Nat) (x1 : Int32) (x2 : Int64) (x4 : Int64) (σ : q_S), (P41 x0 x1 x2 x4 (5 : Int64) σ) → P21 x0 x1 x2 x4 σ) →
  (∀ (x0 : Nat) (x1 : Int32) (x2 : Int64) (x4 : Int64) (y0 : Int64) (σ : q_S), (((x1 < (0 : Int32) → P53 x0 x1 x2 x0 σ) ∧ (¬ (x1 < (0 : Int32)) → ((x1 ≤ (3 : Int32) → (((lg_cmp x2 x4) < (0 : Int32) → P71 x0 x1 x2 x0 σ) ∧ (¬ ((lg_cmp x2 x4) < (0 : Int32)) → (((lg_cmp x2 y0) ≤ (0 : Int32) → P76 x0 x1 x2 (0 : Int32) x0 σ) ∧ (¬ ((lg_cmp x2 y0) ≤ (0 : Int32)) → P71 x0 x1 x2 x0 σ))))) ∧ (¬ (x1 ≤ (3 : Int32)) → P53 x0 x1 x2 x0 σ))))) → P41 x0 x1 x2 x4 y0 σ) →
  (∀ (x0 : Nat) (x1 : Int32) (x2 : Int64) (y0 : Nat) (σ : q_S), (P76 x0 x1 x2 (1 : Int32) y0 σ) → P53 x0 x1 x2 y0 σ) →
  (∀ (x0 : Nat) (x1 : Int32) (x2 : Int64) (y0 : Nat) (σ : q_S), (P76 x0 x1 x2 (2 : Int32) y0 σ) → P71 x0 x1 x2 y0 σ) →
  (∀ (x0 : Nat) (x1 : Int32) (x2 : Int64) (y0 : Int32) (y1 : Nat) (σ : q_S), (q_K σ y1 = 7 ∧ ∀ σ1 : q_S, σ1 = q_wI σ y1 0 y0 → q_K σ1 x0 = 7 ∧ ((¬ (q_I σ1 x0 0) = (0 : Int32) → P98  σ1) ∧ (¬ (¬ (q_I σ1 x0 0) = (0 : Int32)) → q_K σ1 x0 = 7 ∧ (q_K σ1 (q_P σ1 x0 20) = 1000 ∨ q_K σ1 (q_P σ1 x0 20) = 2000) ∧ vp_in x1 (q_Z σ1 (q_P σ1 x0 20)) ∧ ((¬ (lg_cmp ((q_I σ1 (q_P σ1 x0 20) x1.toNatClampNeg).toInt64) x2) = (0 : Int32) → q_K σ1 x0 = 7 ∧ q_K σ1 (q_P σ1 x0 20) = 1000 ∧ vp_in x1 (q_Z σ1 (q_P σ1 x0 20)) ∧ ∀ σ9 : q_S, σ9 = q_wI σ1 (q_P σ1 x0 20) x1.toNatClampNeg x2.toInt32 → R (.inl (some (.inl (1 : Int32)))) σ9) ∧ (¬ (¬ (lg_cmp ((q_I σ1 (q_P σ1 x0 20) x1.toNatClampNeg).toInt64) x2) = (0 : Int32)) → P98  σ1))))) → P76 x0 x1 x2 y0 y1 σ) →
  (∀ (σ : q_S), (R (.inl (some (.inl (0 : Int32)))) σ) → P98 σ) →
  ((¬ x1 = (2 : Int32) → P10 x0 x1 x2 (0 : Int64) σ) ∧ (¬ (¬ x1 = (2 : Int32)) → P10 x0 x1 x2 (1 : Int64) σ))
set_option maxRecDepth 100000 in
theorem t_PM_rule {l : Launch} {cx : q_C} {x0 : Nat} {x1 : Int32} {x2 : Int64} {σ : q_S} {R : q_O → q_S → Prop} (hV : V_PM_rule x0 x1 x2 σ R) : q_Ct l cx M_PM_rule 0 0 0 0 [q_r x0, q_i x1, q_l x2] σ R := by
  refine q_Ct.of p_PM_rule c_PM_rule rfl (Nat.le_of_ble_eq_true rfl) ?_
  have hV := hV (fun (x0 : Nat) (x1 : Int32) (x2 : Int64) (y0 : Int64) (σ : q_S) => q_G l cx M_PM_rule 0 0 0 0 10 [(0, .inr (.inr x0)), (1, .inl x1), (2, .inr (.inl x2))] [.inr (.inl y0)] σ R) (fun (x0 : Nat) (x1 : Int32) (x2 : Int64) (x4 : Int64) (σ : q_S) => q_G l cx M_PM_rule 0 0 0 0 21 [(0, .inr (.inr x0)), (1, .inl x1), (2, .inr (.inl x2)), (4, .inr (.inl x4))] [] σ R) (fun (x0 : Nat) (x1 : Int32) (x2 : Int64) (x4 : Int64) (y0 : Int64) (σ : q_S) => q_G l cx M_PM_rule 0 0 0 0 41 [(0, .inr (.inr x0)), (1, .inl x1), (2, .inr (.inl x2)), (4, .inr (.inl x4))] [.inr (.inl y0)] σ R) (fun (x0 : Nat) (x1 : Int32) (x2 : Int64) (y0 : Nat) (σ : q_S) => q_G l cx M_PM_rule 0 0 0 0 53 [(0, .inr (.inr x0)), (1, .inl x1), (2, .inr (.inl x2))] [.inr (.inr y0)] σ R) (fun (x0 : Nat) (x1 : Int32) (x2 : Int64) (y0 : Nat) (σ : q_S) => q_G l cx M_PM_rule 0 0 0 0 71 [(0, .inr (.inr x0)), (1, .inl x1), (2, .inr (.inl x2))] [.inr (.inr y0)] σ R) (fun (x0 : Nat) (x1 : Int32) (x2 : Int64) (y0 : Int32) (y1 : Nat) (σ : q_S) => q_G l cx M_PM_rule 0 0 0 0 76 [(0, .inr (.inr x0)), (1, .inl x1), (2, .inr (.inl x2))] [.inl y0, .inr (.inr y1)] σ R) (fun (σ : q_S) => q_G l cx M_PM_rule 0 0 0 0 98 [] [] σ R)
  have hV := hV (by
      intro x0 x1 x2 y0 σ hV
      show q_G l cx M_PM_rule 0 0 0 0 10 [(0, .inr (.inr x0)), (1, .inl x1), (2, .inr (.inl x2))] [.inr (.inl y0)] σ R
      refine q_run k_PM_rule 6 2 13 rfl ?_
      show q_G l cx M_PM_rule 0 0 0 0 13 [(4, .inr (.inl y0)), (0, .inr (.inr x0)), (1, .inl x1), (2, .inr (.inl x2))] [.inl x1] σ R
      refine q_ifz (q_dc k_PM_rule 8 rfl) rfl (fun h1 => ?_) (fun h1 => ?_)
      · have hV := hV.1 h1
        exact q_less (Nat.le_of_ble_eq_true rfl) (Nat.le_of_ble_eq_true rfl) (q_subk [1, 2, 3, 0] rfl hV)
      · have hV := hV.2 h1
        refine q_run k_PM_rule 9 2 18 rfl ?_
        show q_G l cx M_PM_rule 0 0 0 0 18 [(4, .inr (.inl y0)), (0, .inr (.inr x0)), (1, .inl x1), (2, .inr (.inl x2))] [.inl (2 : Int32), .inl x1] σ R
        refine q_icmp (q_dc k_PM_rule 11 rfl) rfl (fun h2 => ?_) (fun h2 => ?_)
        · have hV := hV.1 h2
          refine q_run k_PM_rule 14 2 29 rfl ?_
          show q_G l cx M_PM_rule 0 0 0 0 29 [(4, .inr (.inl y0)), (0, .inr (.inr x0)), (1, .inl x1), (2, .inr (.inl x2))] [.inl (1 : Int32), .inl x1] σ R
          refine q_icmp (q_dc k_PM_rule 16 rfl) rfl (fun h3 => ?_) (fun h3 => ?_)
          · have hV := hV.1 h3
            refine q_run k_PM_rule 19 1 41 rfl ?_
            show q_G l cx M_PM_rule 0 0 0 0 41 [(4, .inr (.inl y0)), (0, .inr (.inr x0)), (1, .inl x1), (2, .inr (.inl x2))] [.inr (.inl (1000 : Int64))] σ R
            exact q_less (Nat.le_of_ble_eq_true rfl) (Nat.le_of_ble_eq_true rfl) (q_subk [1, 2, 3, 0] rfl hV)
          · have hV := hV.2 h3
            refine q_run k_PM_rule 17 1 35 rfl ?_
            show q_G l cx M_PM_rule 0 0 0 0 35 [(4, .inr (.inl y0)), (0, .inr (.inr x0)), (1, .inl x1), (2, .inr (.inl x2))] [.inr (.inl (4 : Int64))] σ R
            refine q_goto (q_dc k_PM_rule 18 rfl) rfl ?_
            exact q_less (Nat.le_of_ble_eq_true rfl) (Nat.le_of_ble_eq_true rfl) (q_subk [1, 2, 3, 0] rfl hV)
        · have hV := hV.2 h2
          exact q_less (Nat.le_of_ble_eq_true rfl) (Nat.le_of_ble_eq_true rfl) (q_subk [1, 2, 3, 0] rfl hV))
  have hV := hV (by
      intro x0 x1 x2 x4 σ hV
      show q_G l cx M_PM_rule 0 0 0 0 21 [(0, .inr (.inr x0)), (1, .inl x1), (2, .inr (.inl x2)), (4, .inr (.inl x4))] [] σ R
      refine q_run k_PM_rule 12 1 24 rfl ?_
      show q_G l cx M_PM_rule 0 0 0 0 24 [(0, .inr (.inr x0)), (1, .inl x1), (2, .inr (.inl x2)), (4, .inr (.inl x4))] [.inr (.inl (5 : Int64))] σ R
      refine q_goto (q_dc k_PM_rule 13 rfl) rfl ?_
      exact q_less (Nat.le_of_ble_eq_true rfl) (Nat.le_of_ble_eq_true rfl) (q_subk [0, 1, 2, 3] rfl hV))
  have hV := hV (by
      intro x0 x1 x2 x4 y0 σ hV
      show q_G l cx M_PM_rule 0 0 0 0 41 [(0, .inr (.inr x0)), (1, .inl x1), (2, .inr (.inl x2)), (4, .inr (.inl x4))] [.inr (.inl y0)] σ R
      refine q_run k_PM_rule 20 3 45 rfl ?_
      show q_G l cx M_PM_rule 0 0 0 0 45 [(6, .inr (.inl y0)), (0, .inr (.inr x0)), (1, .inl x1), (2, .inr (.inl x2)), (4, .inr (.inl x4))] [.inl x1, .inr (.inr x0)] σ R
      refine q_ifz (q_dc k_PM_rule 23 rfl) rfl (fun h1 => ?_) (fun h1 => ?_)
      · have hV := hV.1 h1
        exact q_less (Nat.le_of_ble_eq_true rfl) (Nat.le_of_ble_eq_true rfl) (q_subk [1, 2, 3] rfl hV)
      · have hV := hV.2 h1
        refine q_run k_PM_rule 24 2 50 rfl ?_
        show q_G l cx M_PM_rule 0 0 0 0 50 [(6, .inr (.inl y0)), (0, .inr (.inr x0)), (1, .inl x1), (2, .inr (.inl x2)), (4, .inr (.inl x4))] [.inl (3 : Int32), .inl x1, .inr (.inr x0)] σ R
        refine q_icmp (q_dc k_PM_rule 26 rfl) rfl (fun h2 => ?_) (fun h2 => ?_)
        · have hV := hV.1 h2
          refine q_run k_PM_rule 29 3 61 rfl ?_
          show q_G l cx M_PM_rule 0 0 0 0 61 [(6, .inr (.inl y0)), (0, .inr (.inr x0)), (1, .inl x1), (2, .inr (.inl x2)), (4, .inr (.inl x4))] [.inl (lg_cmp x2 x4), .inr (.inr x0)] σ R
          refine q_ifz (q_dc k_PM_rule 32 rfl) rfl (fun h3 => ?_) (fun h3 => ?_)
          · have hV := hV.1 h3
            exact q_less (Nat.le_of_ble_eq_true rfl) (Nat.le_of_ble_eq_true rfl) (q_subk [1, 2, 3] rfl hV)
          · have hV := hV.2 h3
            refine q_run k_PM_rule 33 3 68 rfl ?_
            show q_G l cx M_PM_rule 0 0 0 0 68 [(6, .inr (.inl y0)), (0, .inr (.inr x0)), (1, .inl x1), (2, .inr (.inl x2)), (4, .inr (.inl x4))] [.inl (lg_cmp x2 y0), .inr (.inr x0)] σ R
            refine q_ifz (q_dc k_PM_rule 36 rfl) rfl (fun h4 => ?_) (fun h4 => ?_)
            · have hV := hV.1 h4
              refine q_run k_PM_rule 39 1 76 rfl ?_
              show q_G l cx M_PM_rule 0 0 0 0 76 [(6, .inr (.inl y0)), (0, .inr (.inr x0)), (1, .inl x1), (2, .inr (.inl x2)), (4, .inr (.inl x4))] [.inl (0 : Int32), .inr (.inr x0)] σ R
              exact q_less (Nat.le_of_ble_eq_true rfl) (Nat.le_of_ble_eq_true rfl) (q_subk [1, 2, 3] rfl hV)
            · have hV := hV.2 h4
              exact q_less (Nat.le_of_ble_eq_true rfl) (Nat.le_of_ble_eq_true rfl) (q_subk [1, 2, 3] rfl hV)
        · have hV := hV.2 h2
          exact q_less (Nat.le_of_ble_eq_true rfl) (Nat.le_of_ble_eq_true rfl) (q_subk [1, 2, 3] rfl hV))
  have hV := hV (by
      intro x0 x1 x2 y0 σ hV
      show q_G l cx M_PM_rule 0 0 0 0 53 [(0, .inr (.inr x0)), (1, .inl x1), (2, .inr (.inl x2))] [.inr (.inr y0)] σ R
      refine q_run k_PM_rule 27 1 54 rfl ?_
      show q_G l cx M_PM_rule 0 0 0 0 54 [(0, .inr (.inr x0)), (1, .inl x1), (2, .inr (.inl x2))] [.inl (1 : Int32), .inr (.inr y0)] σ R
      refine q_goto (q_dc k_PM_rule 28 rfl) rfl ?_
      exact q_less (Nat.le_of_ble_eq_true rfl) (Nat.le_of_ble_eq_true rfl) (q_subk [0, 1, 2] rfl hV))
  have hV := hV (by
      intro x0 x1 x2 y0 σ hV
      show q_G l cx M_PM_rule 0 0 0 0 71 [(0, .inr (.inr x0)), (1, .inl x1), (2, .inr (.inl x2))] [.inr (.inr y0)] σ R
      refine q_run k_PM_rule 37 1 72 rfl ?_
      show q_G l cx M_PM_rule 0 0 0 0 72 [(0, .inr (.inr x0)), (1, .inl x1), (2, .inr (.inl x2))] [.inl (2 : Int32), .inr (.inr y0)] σ R
      refine q_goto (q_dc k_PM_rule 38 rfl) rfl ?_
      exact q_less (Nat.le_of_ble_eq_true rfl) (Nat.le_of_ble_eq_true rfl) (q_subk [0, 1, 2] rfl hV))
  have hV := hV (by
      intro x0 x1 x2 y0 y1 σ hV
      show q_G l cx M_PM_rule 0 0 0 0 76 [(0, .inr (.inr x0)), (1, .inl x1), (2, .inr (.inl x2))] [.inl y0, .inr (.inr y1)] σ R
      refine q_run k_PM_rule 40 1 79 rfl ?_
      show q_K σ y1 = 7 ∧ q_G l cx M_PM_rule 0 0 0 0 79 [(0, .inr (.inr x0)), (1, .inl x1), (2, .inr (.inl x2))] [] (q_wI σ y1 0 y0) R
      obtain ⟨s2, hV⟩ := hV
      refine ⟨s2, ?_⟩
      refine q_let (fun σ1 => q_G l cx M_PM_rule 0 0 0 0 79 [(0, .inr (.inr x0)), (1, .inl x1), (2, .inr (.inl x2))] [] σ1 R) (q_wI σ y1 0 y0) (fun σ1 e_σ1 => ?_)
      have hV := hV σ1 e_σ1
      refine q_run k_PM_rule 41 2 83 rfl ?_
      show q_K σ1 x0 = 7 ∧ q_G l cx M_PM_rule 0 0 0 0 83 [(0, .inr (.inr x0)), (1, .inl x1), (2, .inr (.inl x2))] [.inl (q_I σ1 x0 0)] σ1 R
      obtain ⟨s3, hV⟩ := hV
      refine ⟨s3, ?_⟩
      refine q_ifz (q_dc k_PM_rule 43 rfl) rfl (fun h4 => ?_) (fun h4 => ?_)
      · have hV := hV.1 h4
        exact q_less (Nat.le_of_ble_eq_true rfl) (Nat.le_of_ble_eq_true rfl) (q_subk [] rfl hV)
      · have hV := hV.2 h4
        refine q_run k_PM_rule 44 7 95 rfl ?_
        show q_K σ1 x0 = 7 ∧ (q_K σ1 (q_P σ1 x0 20) = 1000 ∨ q_K σ1 (q_P σ1 x0 20) = 2000) ∧ vp_in x1 (q_Z σ1 (q_P σ1 x0 20)) ∧ q_G l cx M_PM_rule 0 0 0 0 95 [(0, .inr (.inr x0)), (1, .inl x1), (2, .inr (.inl x2))] [.inl (lg_cmp ((q_I σ1 (q_P σ1 x0 20) x1.toNatClampNeg).toInt64) x2)] σ1 R
        obtain ⟨s5, s6, s7, hV⟩ := hV
        refine ⟨s5, s6, s7, ?_⟩
        refine q_ifz (q_dc k_PM_rule 51 rfl) rfl (fun h8 => ?_) (fun h8 => ?_)
        · have hV := hV.1 h8
          refine q_run k_PM_rule 54 6 108 rfl ?_
          show q_K σ1 x0 = 7 ∧ q_K σ1 (q_P σ1 x0 20) = 1000 ∧ vp_in x1 (q_Z σ1 (q_P σ1 x0 20)) ∧ q_G l cx M_PM_rule 0 0 0 0 108 [(0, .inr (.inr x0)), (1, .inl x1), (2, .inr (.inl x2))] [] (q_wI σ1 (q_P σ1 x0 20) x1.toNatClampNeg x2.toInt32) R
          obtain ⟨s10, s11, s12, hV⟩ := hV
          refine ⟨s10, s11, s12, ?_⟩
          refine q_let (fun σ9 => q_G l cx M_PM_rule 0 0 0 0 108 [(0, .inr (.inr x0)), (1, .inl x1), (2, .inr (.inl x2))] [] σ9 R) (q_wI σ1 (q_P σ1 x0 20) x1.toNatClampNeg x2.toInt32) (fun σ9 e_σ9 => ?_)
          have hV := hV σ9 e_σ9
          refine q_run k_PM_rule 60 1 109 rfl ?_
          show q_G l cx M_PM_rule 0 0 0 0 109 [(0, .inr (.inr x0)), (1, .inl x1), (2, .inr (.inl x2))] [.inl (1 : Int32)] σ9 R
          exact q_zreturn (q_dc k_PM_rule 61 rfl) rfl (by decide) hV
        · have hV := hV.2 h8
          exact q_less (Nat.le_of_ble_eq_true rfl) (Nat.le_of_ble_eq_true rfl) (q_subk [] rfl hV))
  have hV := hV (by
      intro σ hV
      show q_G l cx M_PM_rule 0 0 0 0 98 [] [] σ R
      refine q_run k_PM_rule 52 1 99 rfl ?_
      show q_G l cx M_PM_rule 0 0 0 0 99 [] [.inl (0 : Int32)] σ R
      exact q_zreturn (q_dc k_PM_rule 53 rfl) rfl (by decide) hV)
  refine q_run k_PM_rule 0 2 2 rfl ?_
  show q_G l cx M_PM_rule 0 0 0 0 2 [(0, .inr (.inr x0)), (1, .inl x1), (2, .inr (.inl x2))] [.inl (2 : Int32), .inl x1] σ R
  refine q_icmp (q_dc k_PM_rule 2 rfl) rfl (fun h1 => ?_) (fun h1 => ?_)
  · have hV := hV.1 h1
    refine q_run k_PM_rule 5 1 10 rfl ?_
    show q_G l cx M_PM_rule 0 0 0 0 10 [(0, .inr (.inr x0)), (1, .inl x1), (2, .inr (.inl x2))] [.inr (.inl (0 : Int64))] σ R
    exact q_less (Nat.le_of_ble_eq_true rfl) (Nat.le_of_ble_eq_true rfl) (q_subk [0, 1, 2] rfl hV)
  · have hV := hV.2 h1
    refine q_run k_PM_rule 3 1 6 rfl ?_
    show q_G l cx M_PM_rule 0 0 0 0 6 [(0, .inr (.inr x0)), (1, .inl x1), (2, .inr (.inl x2))] [.inr (.inl (1 : Int64))] σ R
    refine q_goto (q_dc k_PM_rule 4 rfl) rfl ?_
    exact q_less (Nat.le_of_ble_eq_true rfl) (Nat.le_of_ble_eq_true rfl) (q_subk [0, 1, 2] rfl hV)
def V_PM_hatch (x0 : Nat) (x1 : Int32) (x2 : Int64) (x4 : Int64) (σ : q_S) (R : q_O → q_S → Prop) : Prop :=
  ∀ (P41 : Nat → Int32 → Int64 → Int64 → Nat → q_S → Prop),
  ∀ (P46 : Nat → Int32 → Int64 → Int64 → Int32 → Nat → q_S → Prop),
  ∀ (P81 : q_S → Prop),
  ∀ (P83 : Nat → Int32 → Int64 → Int64 → q_S → Prop),
  (∀ (x0 : Nat) (x1 : Int32) (x2 : Int64) (x4 : Int64) (y0 : Nat) (σ : q_S), (P46 x0 x1 x2 x4 (2 : Int32) y0 σ) → P41 x0 x1 x2 x4 y0 σ) →
  (∀ (x0 : Nat) (x1 : Int32) (x2 : Int64) (x4 : Int64) (y0 : Int32) (y1 : Nat) (σ : q_S), (q_K σ y1 = 7 ∧ ∀ σ1 : q_S, σ1 = q_wI σ y1 0 y0 → q_K σ1 x0 = 7 ∧ ((¬ (q_I σ1 x0 0) = (0 : Int32) → P81  σ1) ∧ (¬ (¬ (q_I σ1 x0 0) = (0 : Int32)) → q_K σ1 x0 = 7 ∧ (q_K σ1 (q_P σ1 x0 10) = 1000 ∨ q_K σ1 (q_P σ1 x0 10) = 2000) ∧ vp_in x1 (q_Z σ1 (q_P σ1 x0 10)) ∧ ((¬ (lg_cmp ((q_I σ1 (q_P σ1 x0 10) x1.toNatClampNeg).toInt64) x2) = (0 : Int32) → P83 x0 x1 x2 x4 σ1) ∧ (¬ (¬ (lg_cmp ((q_I σ1 (q_P σ1 x0 10) x1.toNatClampNeg).toInt64) x2) = (0 : Int32)) → q_K σ1 x0 = 7 ∧ (q_K σ1 (q_P σ1 x0 11) = 1000 ∨ q_K σ1 (q_P σ1 x0 11) = 2000) ∧ vp_in x1 (q_Z σ1 (q_P σ1 x0 11)) ∧ ((¬ (lg_cmp ((q_I σ1 (q_P σ1 x0 11) x1.toNatClampNeg).toInt64) x4) = (0 : Int32) → P83 x0 x1 x2 x4 σ1) ∧ (¬ (¬ (lg_cmp ((q_I σ1 (q_P σ1 x0 11) x1.toNatClampNeg).toInt64) x4) = (0 : Int32)) → P81  σ1))))))) → P46 x0 x1 x2 x4 y0 y1 σ) →
  (∀ (σ : q_S), (R (.inl (some (.inl (0 : Int32)))) σ) → P81 σ) →
  (∀ (x0 : Nat) (x1 : Int32) (x2 : Int64) (x4 : Int64) (σ : q_S), (q_K σ x0 = 7 ∧ q_K σ (q_P σ x0 10) = 1000 ∧ vp_in x1 (q_Z σ (q_P σ x0 10)) ∧ ∀ σ1 : q_S, σ1 = q_wI σ (q_P σ x0 10) x1.toNatClampNeg x2.toInt32 → q_K σ1 x0 = 7 ∧ q_K σ1 (q_P σ1 x0 11) = 1000 ∧ vp_in x1 (q_Z σ1 (q_P σ1 x0 11)) ∧ ∀ σ5 : q_S, σ5 = q_wI σ1 (q_P σ1 x0 11) x1.toNatClampNeg x4.toInt32 → R (.inl (some (.inl (1 : Int32)))) σ5) → P83 x0 x1 x2 x4 σ) →
  q_K σ x0 = 7 ∧ ((¬ (f_PM_isPlane σ x0 x1) = (0 : Int32) → (((lg_cmp x2 (0 : Int64)) < (0 : Int32) → P41 x0 x1 x2 x4 x0 σ) ∧ (¬ ((lg_cmp x2 (0 : Int64)) < (0 : Int32)) → (((0 : Int32) < (lg_cmp x2 (16 : Int64)) → P41 x0 x1 x2 x4 x0 σ) ∧ (¬ ((0 : Int32) < (lg_cmp x2 (16 : Int64))) → (((lg_cmp x4 (0 : Int64)) < (0 : Int32) → P41 x0 x1 x2 x4 x0 σ) ∧ (¬ ((lg_cmp x4 (0 : Int64)) < (0 : Int32)) → (((lg_cmp x4 x2) ≤ (0 : Int32) → P46 x0 x1 x2 x4 (0 : Int32) x0 σ) ∧ (¬ ((lg_cmp x4 x2) ≤ (0 : Int32)) → P41 x0 x1 x2 x4 x0 σ))))))))) ∧ (¬ (¬ (f_PM_isPlane σ x0 x1) = (0 : Int32)) → P46 x0 x1 x2 x4 (1 : Int32) x0 σ))
set_option maxRecDepth 100000 in
theorem t_PM_hatch {l : Launch} {cx : q_C} {x0 : Nat} {x1 : Int32} {x2 : Int64} {x4 : Int64} {σ : q_S} {R : q_O → q_S → Prop} (hV : V_PM_hatch x0 x1 x2 x4 σ R) : q_Ct l cx M_PM_hatch 1 64 0 0 [q_r x0, q_i x1, q_l x2, q_l x4] σ R := by
  refine q_Ct.of p_PM_hatch c_PM_hatch rfl (Nat.le_of_ble_eq_true rfl) ?_
  have hV := hV (fun (x0 : Nat) (x1 : Int32) (x2 : Int64) (x4 : Int64) (y0 : Nat) (σ : q_S) => q_G l cx M_PM_hatch 1 64 0 0 41 [(0, .inr (.inr x0)), (1, .inl x1), (2, .inr (.inl x2)), (4, .inr (.inl x4))] [.inr (.inr y0)] σ R) (fun (x0 : Nat) (x1 : Int32) (x2 : Int64) (x4 : Int64) (y0 : Int32) (y1 : Nat) (σ : q_S) => q_G l cx M_PM_hatch 1 64 0 0 46 [(0, .inr (.inr x0)), (1, .inl x1), (2, .inr (.inl x2)), (4, .inr (.inl x4))] [.inl y0, .inr (.inr y1)] σ R) (fun (σ : q_S) => q_G l cx M_PM_hatch 1 64 0 0 81 [] [] σ R) (fun (x0 : Nat) (x1 : Int32) (x2 : Int64) (x4 : Int64) (σ : q_S) => q_G l cx M_PM_hatch 1 64 0 0 83 [(0, .inr (.inr x0)), (1, .inl x1), (2, .inr (.inl x2)), (4, .inr (.inl x4))] [] σ R)
  have hV := hV (by
      intro x0 x1 x2 x4 y0 σ hV
      show q_G l cx M_PM_hatch 1 64 0 0 41 [(0, .inr (.inr x0)), (1, .inl x1), (2, .inr (.inl x2)), (4, .inr (.inl x4))] [.inr (.inr y0)] σ R
      refine q_run k_PM_hatch 23 1 42 rfl ?_
      show q_G l cx M_PM_hatch 1 64 0 0 42 [(0, .inr (.inr x0)), (1, .inl x1), (2, .inr (.inl x2)), (4, .inr (.inl x4))] [.inl (2 : Int32), .inr (.inr y0)] σ R
      refine q_goto (q_dc k_PM_hatch 24 rfl) rfl ?_
      exact q_less (Nat.le_of_ble_eq_true rfl) (Nat.le_of_ble_eq_true rfl) (q_subk [0, 1, 2, 3] rfl hV))
  have hV := hV (by
      intro x0 x1 x2 x4 y0 y1 σ hV
      show q_G l cx M_PM_hatch 1 64 0 0 46 [(0, .inr (.inr x0)), (1, .inl x1), (2, .inr (.inl x2)), (4, .inr (.inl x4))] [.inl y0, .inr (.inr y1)] σ R
      refine q_run k_PM_hatch 26 1 49 rfl ?_
      show q_K σ y1 = 7 ∧ q_G l cx M_PM_hatch 1 64 0 0 49 [(0, .inr (.inr x0)), (1, .inl x1), (2, .inr (.inl x2)), (4, .inr (.inl x4))] [] (q_wI σ y1 0 y0) R
      obtain ⟨s2, hV⟩ := hV
      refine ⟨s2, ?_⟩
      refine q_let (fun σ1 => q_G l cx M_PM_hatch 1 64 0 0 49 [(0, .inr (.inr x0)), (1, .inl x1), (2, .inr (.inl x2)), (4, .inr (.inl x4))] [] σ1 R) (q_wI σ y1 0 y0) (fun σ1 e_σ1 => ?_)
      have hV := hV σ1 e_σ1
      refine q_run k_PM_hatch 27 2 53 rfl ?_
      show q_K σ1 x0 = 7 ∧ q_G l cx M_PM_hatch 1 64 0 0 53 [(0, .inr (.inr x0)), (1, .inl x1), (2, .inr (.inl x2)), (4, .inr (.inl x4))] [.inl (q_I σ1 x0 0)] σ1 R
      obtain ⟨s3, hV⟩ := hV
      refine ⟨s3, ?_⟩
      refine q_ifz (q_dc k_PM_hatch 29 rfl) rfl (fun h4 => ?_) (fun h4 => ?_)
      · have hV := hV.1 h4
        exact q_less (Nat.le_of_ble_eq_true rfl) (Nat.le_of_ble_eq_true rfl) (q_subk [] rfl hV)
      · have hV := hV.2 h4
        refine q_run k_PM_hatch 30 7 65 rfl ?_
        show q_K σ1 x0 = 7 ∧ (q_K σ1 (q_P σ1 x0 10) = 1000 ∨ q_K σ1 (q_P σ1 x0 10) = 2000) ∧ vp_in x1 (q_Z σ1 (q_P σ1 x0 10)) ∧ q_G l cx M_PM_hatch 1 64 0 0 65 [(0, .inr (.inr x0)), (1, .inl x1), (2, .inr (.inl x2)), (4, .inr (.inl x4))] [.inl (lg_cmp ((q_I σ1 (q_P σ1 x0 10) x1.toNatClampNeg).toInt64) x2)] σ1 R
        obtain ⟨s5, s6, s7, hV⟩ := hV
        refine ⟨s5, s6, s7, ?_⟩
        refine q_ifz (q_dc k_PM_hatch 37 rfl) rfl (fun h8 => ?_) (fun h8 => ?_)
        · have hV := hV.1 h8
          exact q_less (Nat.le_of_ble_eq_true rfl) (Nat.le_of_ble_eq_true rfl) (q_subk [0, 1, 2, 3] rfl hV)
        · have hV := hV.2 h8
          refine q_run k_PM_hatch 38 7 78 rfl ?_
          show q_K σ1 x0 = 7 ∧ (q_K σ1 (q_P σ1 x0 11) = 1000 ∨ q_K σ1 (q_P σ1 x0 11) = 2000) ∧ vp_in x1 (q_Z σ1 (q_P σ1 x0 11)) ∧ q_G l cx M_PM_hatch 1 64 0 0 78 [(0, .inr (.inr x0)), (1, .inl x1), (2, .inr (.inl x2)), (4, .inr (.inl x4))] [.inl (lg_cmp ((q_I σ1 (q_P σ1 x0 11) x1.toNatClampNeg).toInt64) x4)] σ1 R
          obtain ⟨s9, s10, s11, hV⟩ := hV
          refine ⟨s9, s10, s11, ?_⟩
          refine q_ifz (q_dc k_PM_hatch 45 rfl) rfl (fun h12 => ?_) (fun h12 => ?_)
          · have hV := hV.1 h12
            exact q_less (Nat.le_of_ble_eq_true rfl) (Nat.le_of_ble_eq_true rfl) (q_subk [0, 1, 2, 3] rfl hV)
          · have hV := hV.2 h12
            exact q_less (Nat.le_of_ble_eq_true rfl) (Nat.le_of_ble_eq_true rfl) (q_subk [] rfl hV))
  have hV := hV (by
      intro σ hV
      show q_G l cx M_PM_hatch 1 64 0 0 81 [] [] σ R
      refine q_run k_PM_hatch 46 1 82 rfl ?_
      show q_G l cx M_PM_hatch 1 64 0 0 82 [] [.inl (0 : Int32)] σ R
      exact q_zreturn (q_dc k_PM_hatch 47 rfl) rfl (by decide) hV)
  have hV := hV (by
      intro x0 x1 x2 x4 σ hV
      show q_G l cx M_PM_hatch 1 64 0 0 83 [(0, .inr (.inr x0)), (1, .inl x1), (2, .inr (.inl x2)), (4, .inr (.inl x4))] [] σ R
      refine q_run k_PM_hatch 48 6 91 rfl ?_
      show q_K σ x0 = 7 ∧ q_K σ (q_P σ x0 10) = 1000 ∧ vp_in x1 (q_Z σ (q_P σ x0 10)) ∧ q_G l cx M_PM_hatch 1 64 0 0 91 [(0, .inr (.inr x0)), (1, .inl x1), (2, .inr (.inl x2)), (4, .inr (.inl x4))] [] (q_wI σ (q_P σ x0 10) x1.toNatClampNeg x2.toInt32) R
      obtain ⟨s2, s3, s4, hV⟩ := hV
      refine ⟨s2, s3, s4, ?_⟩
      refine q_let (fun σ1 => q_G l cx M_PM_hatch 1 64 0 0 91 [(0, .inr (.inr x0)), (1, .inl x1), (2, .inr (.inl x2)), (4, .inr (.inl x4))] [] σ1 R) (q_wI σ (q_P σ x0 10) x1.toNatClampNeg x2.toInt32) (fun σ1 e_σ1 => ?_)
      have hV := hV σ1 e_σ1
      refine q_run k_PM_hatch 54 6 100 rfl ?_
      show q_K σ1 x0 = 7 ∧ q_K σ1 (q_P σ1 x0 11) = 1000 ∧ vp_in x1 (q_Z σ1 (q_P σ1 x0 11)) ∧ q_G l cx M_PM_hatch 1 64 0 0 100 [(0, .inr (.inr x0)), (1, .inl x1), (2, .inr (.inl x2)), (4, .inr (.inl x4))] [] (q_wI σ1 (q_P σ1 x0 11) x1.toNatClampNeg x4.toInt32) R
      obtain ⟨s6, s7, s8, hV⟩ := hV
      refine ⟨s6, s7, s8, ?_⟩
      refine q_let (fun σ5 => q_G l cx M_PM_hatch 1 64 0 0 100 [(0, .inr (.inr x0)), (1, .inl x1), (2, .inr (.inl x2)), (4, .inr (.inl x4))] [] σ5 R) (q_wI σ1 (q_P σ1 x0 11) x1.toNatClampNeg x4.toInt32) (fun σ5 e_σ5 => ?_)
      have hV := hV σ5 e_σ5
      refine q_run k_PM_hatch 60 1 101 rfl ?_
      show q_G l cx M_PM_hatch 1 64 0 0 101 [(0, .inr (.inr x0)), (1, .inl x1), (2, .inr (.inl x2)), (4, .inr (.inl x4))] [.inl (1 : Int32)] σ5 R
      exact q_zreturn (q_dc k_PM_hatch 61 rfl) rfl (by decide) hV)
  refine q_run k_PM_hatch 0 3 3 rfl ?_
  show q_G l cx M_PM_hatch 1 64 0 0 3 [(0, .inr (.inr x0)), (1, .inl x1), (2, .inr (.inl x2)), (4, .inr (.inl x4))] [.inl x1, .inr (.inr x0), .inr (.inr x0)] σ R
  obtain ⟨s1, hV⟩ := hV
  refine q_callV (st := [.inr (.inr x0)]) (as := [.inl x1]) (t_PM_isPlane (l := l) (cx := cx) (σ := σ) x0 x1 s1) (q_dc k_PM_hatch 3 rfl) (Or.inl (List.mem_of_getElem? (i := 954) (by decide +kernel))) w_PM_isPlane n_PM_isPlane (ci := 6) rfl e_PM_isPlane a_PM_isPlane (q_wt (Nat.le_of_ble_eq_true rfl)) ⟨Nat.le_of_ble_eq_true rfl, Nat.le_of_ble_eq_true rfl⟩ s1 (fun v9 τ9 q9 => ?_) (fun n9 τ9 q9 => by cases q9.1)
  obtain ⟨q8, q7⟩ := q9
  cases q8
  rw [q7]
  show q_G l cx M_PM_hatch 1 64 0 0 6 [(0, .inr (.inr x0)), (1, .inl x1), (2, .inr (.inl x2)), (4, .inr (.inl x4))] [.inl (f_PM_isPlane σ x0 x1), .inr (.inr x0)] σ R
  refine q_ifz (q_dc k_PM_hatch 4 rfl) rfl (fun h2 => ?_) (fun h2 => ?_)
  · have hV := hV.1 h2
    refine q_run k_PM_hatch 7 3 16 rfl ?_
    show q_G l cx M_PM_hatch 1 64 0 0 16 [(0, .inr (.inr x0)), (1, .inl x1), (2, .inr (.inl x2)), (4, .inr (.inl x4))] [.inl (lg_cmp x2 (0 : Int64)), .inr (.inr x0)] σ R
    refine q_ifz (q_dc k_PM_hatch 10 rfl) rfl (fun h3 => ?_) (fun h3 => ?_)
    · have hV := hV.1 h3
      exact q_less (Nat.le_of_ble_eq_true rfl) (Nat.le_of_ble_eq_true rfl) (q_subk [0, 1, 2, 3] rfl hV)
    · have hV := hV.2 h3
      refine q_run k_PM_hatch 11 3 24 rfl ?_
      show q_G l cx M_PM_hatch 1 64 0 0 24 [(0, .inr (.inr x0)), (1, .inl x1), (2, .inr (.inl x2)), (4, .inr (.inl x4))] [.inl (lg_cmp x2 (16 : Int64)), .inr (.inr x0)] σ R
      refine q_ifz (q_dc k_PM_hatch 14 rfl) rfl (fun h4 => ?_) (fun h4 => ?_)
      · have hV := hV.1 h4
        exact q_less (Nat.le_of_ble_eq_true rfl) (Nat.le_of_ble_eq_true rfl) (q_subk [0, 1, 2, 3] rfl hV)
      · have hV := hV.2 h4
        refine q_run k_PM_hatch 15 3 31 rfl ?_
        show q_G l cx M_PM_hatch 1 64 0 0 31 [(0, .inr (.inr x0)), (1, .inl x1), (2, .inr (.inl x2)), (4, .inr (.inl x4))] [.inl (lg_cmp x4 (0 : Int64)), .inr (.inr x0)] σ R
        refine q_ifz (q_dc k_PM_hatch 18 rfl) rfl (fun h5 => ?_) (fun h5 => ?_)
        · have hV := hV.1 h5
          exact q_less (Nat.le_of_ble_eq_true rfl) (Nat.le_of_ble_eq_true rfl) (q_subk [0, 1, 2, 3] rfl hV)
        · have hV := hV.2 h5
          refine q_run k_PM_hatch 19 3 38 rfl ?_
          show q_G l cx M_PM_hatch 1 64 0 0 38 [(0, .inr (.inr x0)), (1, .inl x1), (2, .inr (.inl x2)), (4, .inr (.inl x4))] [.inl (lg_cmp x4 x2), .inr (.inr x0)] σ R
          refine q_ifz (q_dc k_PM_hatch 22 rfl) rfl (fun h6 => ?_) (fun h6 => ?_)
          · have hV := hV.1 h6
            refine q_run k_PM_hatch 25 1 46 rfl ?_
            show q_G l cx M_PM_hatch 1 64 0 0 46 [(0, .inr (.inr x0)), (1, .inl x1), (2, .inr (.inl x2)), (4, .inr (.inl x4))] [.inl (0 : Int32), .inr (.inr x0)] σ R
            exact q_less (Nat.le_of_ble_eq_true rfl) (Nat.le_of_ble_eq_true rfl) (q_subk [0, 1, 2, 3] rfl hV)
          · have hV := hV.2 h6
            exact q_less (Nat.le_of_ble_eq_true rfl) (Nat.le_of_ble_eq_true rfl) (q_subk [0, 1, 2, 3] rfl hV)
  · have hV := hV.2 h2
    refine q_run k_PM_hatch 5 1 10 rfl ?_
    show q_G l cx M_PM_hatch 1 64 0 0 10 [(0, .inr (.inr x0)), (1, .inl x1), (2, .inr (.inl x2)), (4, .inr (.inl x4))] [.inl (1 : Int32), .inr (.inr x0)] σ R
    refine q_goto (q_dc k_PM_hatch 6 rfl) rfl ?_
    exact q_less (Nat.le_of_ble_eq_true rfl) (Nat.le_of_ble_eq_true rfl) (q_subk [0, 1, 2, 3] rfl hV)
def V_PM_isInside (x0 : Nat) (x1 : Int32) (x2 : Int32) (x3 : Int32) (σ : q_S) (R : q_O → q_S → Prop) : Prop :=
  ∀ (P8 : Nat → Int32 → Int32 → Int32 → Int32 → Int32 → q_S → Prop),
  ∀ (P35 : Nat → Int32 → Int32 → Int32 → Int32 → Int32 → Int32 → Int32 → q_S → Prop),
  ∀ (P97 : Nat → Int32 → Int32 → Int32 → Int32 → Int32 → Int32 → Int32 → Int32 → Int32 → q_S → Prop),
  ∀ (P98 : Nat → Int32 → Int32 → Int32 → Int32 → Int32 → Int32 → Int32 → Int32 → Int32 → Int32 → q_S → Prop),
  ∀ (P130 : Nat → Int32 → Int32 → Int32 → Int32 → Int32 → Int32 → Int32 → Int32 → Int32 → Int32 → q_S → Prop),
  ∀ (P131 : Nat → Int32 → Int32 → Int32 → Int32 → Int32 → Int32 → Int32 → Int32 → Int32 → Int32 → Int32 → q_S → Prop),
  ∀ (P146 : Nat → Int32 → Int32 → Int32 → Int32 → Int32 → Int32 → Int32 → Int32 → Int32 → Int32 → q_S → Prop),
  ∀ (P259 : Nat → Int32 → Int32 → Int32 → Int32 → Int32 → Int32 → Int32 → Int32 → q_S → Prop),
  ∀ (P267 : Nat → Int32 → Int32 → Int32 → Int32 → Int32 → Int32 → Int32 → q_S → Prop),
  ∀ (P269 : Nat → Int32 → Int32 → Int32 → Int32 → Int32 → Int32 → Int32 → q_S → Prop),
  (∀ (x0 : Nat) (x1 : Int32) (x2 : Int32) (x3 : Int32) (x4 : Int32) (x5 : Int32) (σ : q_S), (q_K σ x0 = 7 ∧ (q_K σ (q_P σ x0 6) = 1000 ∨ q_K σ (q_P σ x0 6) = 2000) ∧ vp_in x1 (q_Z σ (q_P σ x0 6)) ∧ (((((4 : Int32) * x1) + (q_I σ (q_P σ x0 6) x1.toNatClampNeg)) ≤ x5 → ((x4 = 0 ∨ x4 = 1) ∧ R (.inl (some (.inl x4))) σ)) ∧ (¬ ((((4 : Int32) * x1) + (q_I σ (q_P σ x0 6) x1.toNatClampNeg)) ≤ x5) → q_K σ x0 = 7 ∧ (q_K σ (q_P σ x0 7) = 1000 ∨ q_K σ (q_P σ x0 7) = 2000) ∧ vp_in x5 (q_Z σ (q_P σ x0 7)) ∧ ∀ v5 : Int32, v5 = q_I σ (q_P σ x0 7) x5.toNatClampNeg → P35 x0 x1 x2 x3 x4 x5 v5 (0 : Int32) σ))) → P8 x0 x1 x2 x3 x4 x5 σ) →
  (∀ (x0 : Nat) (x1 : Int32) (x2 : Int32) (x3 : Int32) (x4 : Int32) (x5 : Int32) (x6 : Int32) (x7 : Int32) (σ : q_S), (((x6 ≤ x7 → ∀ v2 : Int32, v2 = x5 + (1 : Int32) → P8 x0 x1 x2 x3 x4 v2 σ) ∧ (¬ (x6 ≤ x7) → ∀ v3 : Int32, v3 = ((12 : Int32) * x5) + x7 → ¬ x6 = 0 ∧ ∀ v4 : Int32, v4 = ((12 : Int32) * x5) + ((x7 + (1 : Int32)) - (x7 + (1 : Int32)) / x6 * x6) → q_K σ x0 = 7 ∧ q_K σ (q_P σ x0 9) = 1001 ∧ vp_in v4 (q_Z σ (q_P σ x0 9)) ∧ (((lg_cmp (q_L σ (q_P σ x0 9) v4.toNatClampNeg) x3.toInt64) ≤ (0 : Int32) → P97 x0 x1 x2 x3 x4 x5 x6 x7 v3 v4 σ) ∧ (¬ ((lg_cmp (q_L σ (q_P σ x0 9) v4.toNatClampNeg) x3.toInt64) ≤ (0 : Int32)) → q_K σ x0 = 7 ∧ q_K σ (q_P σ x0 9) = 1001 ∧ vp_in v3 (q_Z σ (q_P σ x0 9)) ∧ (((0 : Int32) < (lg_cmp (q_L σ (q_P σ x0 9) v3.toNatClampNeg) x3.toInt64) → P97 x0 x1 x2 x3 x4 x5 x6 x7 v3 v4 σ) ∧ (¬ ((0 : Int32) < (lg_cmp (q_L σ (q_P σ x0 9) v3.toNatClampNeg) x3.toInt64)) → P98 x0 x1 x2 x3 x4 x5 x6 x7 v3 v4 (1 : Int32) σ))))))) → P35 x0 x1 x2 x3 x4 x5 x6 x7 σ) →
  (∀ (x0 : Nat) (x1 : Int32) (x2 : Int32) (x3 : Int32) (x4 : Int32) (x5 : Int32) (x6 : Int32) (x7 : Int32) (x8 : Int32) (x9 : Int32) (σ : q_S), (P98 x0 x1 x2 x3 x4 x5 x6 x7 x8 x9 (0 : Int32) σ) → P97 x0 x1 x2 x3 x4 x5 x6 x7 x8 x9 σ) →
  (∀ (x0 : Nat) (x1 : Int32) (x2 : Int32) (x3 : Int32) (x4 : Int32) (x5 : Int32) (x6 : Int32) (x7 : Int32) (x8 : Int32) (x9 : Int32) (y0 : Int32) (σ : q_S), (q_K σ x0 = 7 ∧ q_K σ (q_P σ x0 9) = 1001 ∧ vp_in x8 (q_Z σ (q_P σ x0 9)) ∧ (((lg_cmp (q_L σ (q_P σ x0 9) x8.toNatClampNeg) x3.toInt64) ≤ (0 : Int32) → P130 x0 x1 x2 x3 x4 x5 x6 x7 x8 x9 y0 σ) ∧ (¬ ((lg_cmp (q_L σ (q_P σ x0 9) x8.toNatClampNeg) x3.toInt64) ≤ (0 : Int32)) → q_K σ x0 = 7 ∧ q_K σ (q_P σ x0 9) = 1001 ∧ vp_in x9 (q_Z σ (q_P σ x0 9)) ∧ (((0 : Int32) < (lg_cmp (q_L σ (q_P σ x0 9) x9.toNatClampNeg) x3.toInt64) → P130 x0 x1 x2 x3 x4 x5 x6 x7 x8 x9 y0 σ) ∧ (¬ ((0 : Int32) < (lg_cmp (q_L σ (q_P σ x0 9) x9.toNatClampNeg) x3.toInt64)) → P131 x0 x1 x2 x3 x4 x5 x6 x7 x8 x9 y0 (1 : Int32) σ))))) → P98 x0 x1 x2 x3 x4 x5 x6 x7 x8 x9 y0 σ) →
  (∀ (x0 : Nat) (x1 : Int32) (x2 : Int32) (x3 : Int32) (x4 : Int32) (x5 : Int32) (x6 : Int32) (x7 : Int32) (x8 : Int32) (x9 : Int32) (x10 : Int32) (σ : q_S), (P131 x0 x1 x2 x3 x4 x5 x6 x7 x8 x9 x10 (0 : Int32) σ) → P130 x0 x1 x2 x3 x4 x5 x6 x7 x8 x9 x10 σ) →
  (∀ (x0 : Nat) (x1 : Int32) (x2 : Int32) (x3 : Int32) (x4 : Int32) (x5 : Int32) (x6 : Int32) (x7 : Int32) (x8 : Int32) (x9 : Int32) (x10 : Int32) (y0 : Int32) (σ : q_S), (((¬ x10 = (0 : Int32) → P146 x0 x1 x2 x3 x4 x5 x6 x7 x8 x9 x10 σ) ∧ (¬ (¬ x10 = (0 : Int32)) → ((¬ y0 = (0 : Int32) → P146 x0 x1 x2 x3 x4 x5 x6 x7 x8 x9 x10 σ) ∧ (¬ (¬ y0 = (0 : Int32)) → P269 x0 x1 x2 x3 x4 x5 x6 x7 σ))))) → P131 x0 x1 x2 x3 x4 x5 x6 x7 x8 x9 x10 y0 σ) →
  (∀ (x0 : Nat) (x1 : Int32) (x2 : Int32) (x3 : Int32) (x4 : Int32) (x5 : Int32) (x6 : Int32) (x7 : Int32) (x8 : Int32) (x9 : Int32) (x10 : Int32) (σ : q_S), (q_K σ x0 = 7 ∧ q_K σ (q_P σ x0 9) = 1001 ∧ vp_in x9 (q_Z σ (q_P σ x0 9)) ∧ q_K σ x0 = 7 ∧ q_K σ (q_P σ x0 9) = 1001 ∧ vp_in x8 (q_Z σ (q_P σ x0 9)) ∧ ∀ v1 : Int64, v1 = (q_L σ (q_P σ x0 9) x9.toNatClampNeg) - (q_L σ (q_P σ x0 9) x8.toNatClampNeg) → q_K σ x0 = 7 ∧ q_K σ (q_P σ x0 8) = 1001 ∧ vp_in x8 (q_Z σ (q_P σ x0 8)) ∧ q_K σ x0 = 7 ∧ q_K σ (q_P σ x0 9) = 1001 ∧ vp_in x8 (q_Z σ (q_P σ x0 9)) ∧ q_K σ x0 = 7 ∧ q_K σ (q_P σ x0 8) = 1001 ∧ vp_in x9 (q_Z σ (q_P σ x0 8)) ∧ q_K σ x0 = 7 ∧ q_K σ (q_P σ x0 8) = 1001 ∧ vp_in x8 (q_Z σ (q_P σ x0 8)) ∧ ∀ v8 : Int64, v8 = (((((2 : Int64) * (q_L σ (q_P σ x0 8) x8.toNatClampNeg)) - ((2 : Int64) * x2.toInt64)) - (1 : Int64)) * v1) + (((((2 : Int64) * x3.toInt64) + (1 : Int64)) - ((2 : Int64) * (q_L σ (q_P σ x0 9) x8.toNatClampNeg))) * ((q_L σ (q_P σ x0 8) x9.toNatClampNeg) - (q_L σ (q_P σ x0 8) x8.toNatClampNeg))) → ((x10 = (0 : Int32) → (((0 : Int32) ≤ (lg_cmp v8 (0 : Int64)) → P259 x0 x1 x2 x3 x5 x6 x7 (0 : Int32) x4 σ) ∧ (¬ ((0 : Int32) ≤ (lg_cmp v8 (0 : Int64))) → P259 x0 x1 x2 x3 x5 x6 x7 (1 : Int32) x4 σ))) ∧ (¬ (x10 = (0 : Int32)) → (((lg_cmp v8 (0 : Int64)) ≤ (0 : Int32) → P259 x0 x1 x2 x3 x5 x6 x7 (0 : Int32) x4 σ) ∧ (¬ ((lg_cmp v8 (0 : Int64)) ≤ (0 : Int32)) → P259 x0 x1 x2 x3 x5 x6 x7 (1 : Int32) x4 σ))))) → P146 x0 x1 x2 x3 x4 x5 x6 x7 x8 x9 x10 σ) →
  (∀ (x0 : Nat) (x1 : Int32) (x2 : Int32) (x3 : Int32) (x5 : Int32) (x6 : Int32) (x7 : Int32) (y0 : Int32) (y1 : Int32) (σ : q_S), (((y1 = y0 → P267 x0 x1 x2 x3 x5 x6 x7 (0 : Int32) σ) ∧ (¬ (y1 = y0) → P267 x0 x1 x2 x3 x5 x6 x7 (1 : Int32) σ))) → P259 x0 x1 x2 x3 x5 x6 x7 y0 y1 σ) →
  (∀ (x0 : Nat) (x1 : Int32) (x2 : Int32) (x3 : Int32) (x5 : Int32) (x6 : Int32) (x7 : Int32) (y0 : Int32) (σ : q_S), (P269 x0 x1 x2 x3 y0 x5 x6 x7 σ) → P267 x0 x1 x2 x3 x5 x6 x7 y0 σ) →
  (∀ (x0 : Nat) (x1 : Int32) (x2 : Int32) (x3 : Int32) (x4 : Int32) (x5 : Int32) (x6 : Int32) (x7 : Int32) (σ : q_S), (∀ v1 : Int32, v1 = x7 + (1 : Int32) → P35 x0 x1 x2 x3 x4 x5 x6 v1 σ) → P269 x0 x1 x2 x3 x4 x5 x6 x7 σ) →
  ∀ v1 : Int32, v1 = (4 : Int32) * x1 → P8 x0 x1 x2 x3 (0 : Int32) v1 σ
set_option maxRecDepth 100000 in
theorem t_PM_isInside {l : Launch} {cx : q_C} {x0 : Nat} {x1 : Int32} {x2 : Int32} {x3 : Int32} {σ : q_S} {R : q_O → q_S → Prop} (hV : V_PM_isInside x0 x1 x2 x3 σ R) : q_Ct l cx M_PM_isInside 0 0 0 0 [q_r x0, q_i x1, q_i x2, q_i x3] σ R := by
  refine q_Ct.of p_PM_isInside c_PM_isInside rfl (Nat.le_of_ble_eq_true rfl) ?_
  have hV := hV (fun (x0 : Nat) (x1 : Int32) (x2 : Int32) (x3 : Int32) (x4 : Int32) (x5 : Int32) (σ : q_S) => q_G l cx M_PM_isInside 0 0 0 0 8 [(0, .inr (.inr x0)), (1, .inl x1), (2, .inl x2), (3, .inl x3), (4, .inl x4), (5, .inl x5)] [] σ R) (fun (x0 : Nat) (x1 : Int32) (x2 : Int32) (x3 : Int32) (x4 : Int32) (x5 : Int32) (x6 : Int32) (x7 : Int32) (σ : q_S) => q_G l cx M_PM_isInside 0 0 0 0 35 [(0, .inr (.inr x0)), (1, .inl x1), (2, .inl x2), (3, .inl x3), (4, .inl x4), (5, .inl x5), (6, .inl x6), (7, .inl x7)] [] σ R) (fun (x0 : Nat) (x1 : Int32) (x2 : Int32) (x3 : Int32) (x4 : Int32) (x5 : Int32) (x6 : Int32) (x7 : Int32) (x8 : Int32) (x9 : Int32) (σ : q_S) => q_G l cx M_PM_isInside 0 0 0 0 97 [(0, .inr (.inr x0)), (1, .inl x1), (2, .inl x2), (3, .inl x3), (4, .inl x4), (5, .inl x5), (6, .inl x6), (7, .inl x7), (8, .inl x8), (9, .inl x9)] [] σ R) (fun (x0 : Nat) (x1 : Int32) (x2 : Int32) (x3 : Int32) (x4 : Int32) (x5 : Int32) (x6 : Int32) (x7 : Int32) (x8 : Int32) (x9 : Int32) (y0 : Int32) (σ : q_S) => q_G l cx M_PM_isInside 0 0 0 0 98 [(0, .inr (.inr x0)), (1, .inl x1), (2, .inl x2), (3, .inl x3), (4, .inl x4), (5, .inl x5), (6, .inl x6), (7, .inl x7), (8, .inl x8), (9, .inl x9)] [.inl y0] σ R) (fun (x0 : Nat) (x1 : Int32) (x2 : Int32) (x3 : Int32) (x4 : Int32) (x5 : Int32) (x6 : Int32) (x7 : Int32) (x8 : Int32) (x9 : Int32) (x10 : Int32) (σ : q_S) => q_G l cx M_PM_isInside 0 0 0 0 130 [(0, .inr (.inr x0)), (1, .inl x1), (2, .inl x2), (3, .inl x3), (4, .inl x4), (5, .inl x5), (6, .inl x6), (7, .inl x7), (8, .inl x8), (9, .inl x9), (10, .inl x10)] [] σ R) (fun (x0 : Nat) (x1 : Int32) (x2 : Int32) (x3 : Int32) (x4 : Int32) (x5 : Int32) (x6 : Int32) (x7 : Int32) (x8 : Int32) (x9 : Int32) (x10 : Int32) (y0 : Int32) (σ : q_S) => q_G l cx M_PM_isInside 0 0 0 0 131 [(0, .inr (.inr x0)), (1, .inl x1), (2, .inl x2), (3, .inl x3), (4, .inl x4), (5, .inl x5), (6, .inl x6), (7, .inl x7), (8, .inl x8), (9, .inl x9), (10, .inl x10)] [.inl y0] σ R) (fun (x0 : Nat) (x1 : Int32) (x2 : Int32) (x3 : Int32) (x4 : Int32) (x5 : Int32) (x6 : Int32) (x7 : Int32) (x8 : Int32) (x9 : Int32) (x10 : Int32) (σ : q_S) => q_G l cx M_PM_isInside 0 0 0 0 146 [(0, .inr (.inr x0)), (1, .inl x1), (2, .inl x2), (3, .inl x3), (4, .inl x4), (5, .inl x5), (6, .inl x6), (7, .inl x7), (8, .inl x8), (9, .inl x9), (10, .inl x10)] [] σ R) (fun (x0 : Nat) (x1 : Int32) (x2 : Int32) (x3 : Int32) (x5 : Int32) (x6 : Int32) (x7 : Int32) (y0 : Int32) (y1 : Int32) (σ : q_S) => q_G l cx M_PM_isInside 0 0 0 0 259 [(0, .inr (.inr x0)), (1, .inl x1), (2, .inl x2), (3, .inl x3), (5, .inl x5), (6, .inl x6), (7, .inl x7)] [.inl y0, .inl y1] σ R) (fun (x0 : Nat) (x1 : Int32) (x2 : Int32) (x3 : Int32) (x5 : Int32) (x6 : Int32) (x7 : Int32) (y0 : Int32) (σ : q_S) => q_G l cx M_PM_isInside 0 0 0 0 267 [(0, .inr (.inr x0)), (1, .inl x1), (2, .inl x2), (3, .inl x3), (5, .inl x5), (6, .inl x6), (7, .inl x7)] [.inl y0] σ R) (fun (x0 : Nat) (x1 : Int32) (x2 : Int32) (x3 : Int32) (x4 : Int32) (x5 : Int32) (x6 : Int32) (x7 : Int32) (σ : q_S) => q_G l cx M_PM_isInside 0 0 0 0 269 [(0, .inr (.inr x0)), (1, .inl x1), (2, .inl x2), (3, .inl x3), (4, .inl x4), (5, .inl x5), (6, .inl x6), (7, .inl x7)] [] σ R)
  have hV := hV (by
      intro x0 x1 x2 x3 x4 x5 σ hV
      show q_G l cx M_PM_isInside 0 0 0 0 8 [(0, .inr (.inr x0)), (1, .inl x1), (2, .inl x2), (3, .inl x3), (4, .inl x4), (5, .inl x5)] [] σ R
      refine q_run k_PM_isInside 6 9 20 rfl ?_
      show q_K σ x0 = 7 ∧ (q_K σ (q_P σ x0 6) = 1000 ∨ q_K σ (q_P σ x0 6) = 2000) ∧ vp_in x1 (q_Z σ (q_P σ x0 6)) ∧ q_G l cx M_PM_isInside 0 0 0 0 20 [(0, .inr (.inr x0)), (1, .inl x1), (2, .inl x2), (3, .inl x3), (4, .inl x4), (5, .inl x5)] [.inl (((4 : Int32) * x1) + (q_I σ (q_P σ x0 6) x1.toNatClampNeg)), .inl x5] σ R
      obtain ⟨s1, s2, s3, hV⟩ := hV
      refine ⟨s1, s2, s3, ?_⟩
      refine q_icmp (q_dc k_PM_isInside 15 rfl) rfl (fun h4 => ?_) (fun h4 => ?_)
      · have hV := hV.1 h4
        refine q_run k_PM_isInside 164 1 283 rfl ?_
        show q_G l cx M_PM_isInside 0 0 0 0 283 [(0, .inr (.inr x0)), (1, .inl x1), (2, .inl x2), (3, .inl x3), (4, .inl x4), (5, .inl x5)] [.inl x4] σ R
        exact q_zreturn (q_dc k_PM_isInside 165 rfl) rfl hV.1 hV.2
      · have hV := hV.2 h4
        refine q_run k_PM_isInside 16 5 32 rfl ?_
        show q_K σ x0 = 7 ∧ (q_K σ (q_P σ x0 7) = 1000 ∨ q_K σ (q_P σ x0 7) = 2000) ∧ vp_in x5 (q_Z σ (q_P σ x0 7)) ∧ q_G l cx M_PM_isInside 0 0 0 0 32 [(6, .inl (q_I σ (q_P σ x0 7) x5.toNatClampNeg)), (0, .inr (.inr x0)), (1, .inl x1), (2, .inl x2), (3, .inl x3), (4, .inl x4), (5, .inl x5)] [] σ R
        obtain ⟨s6, s7, s8, hV⟩ := hV
        refine ⟨s6, s7, s8, ?_⟩
        refine q_let (fun v5 => q_G l cx M_PM_isInside 0 0 0 0 32 [(6, .inl v5), (0, .inr (.inr x0)), (1, .inl x1), (2, .inl x2), (3, .inl x3), (4, .inl x4), (5, .inl x5)] [] σ R) (q_I σ (q_P σ x0 7) x5.toNatClampNeg) (fun v5 e_v5 => ?_)
        have hV := hV v5 e_v5
        refine q_run k_PM_isInside 21 2 35 rfl ?_
        show q_G l cx M_PM_isInside 0 0 0 0 35 [(7, .inl (0 : Int32)), (6, .inl v5), (0, .inr (.inr x0)), (1, .inl x1), (2, .inl x2), (3, .inl x3), (4, .inl x4), (5, .inl x5)] [] σ R
        exact q_less (Nat.le_of_ble_eq_true rfl) (Nat.le_of_ble_eq_true rfl) (q_subk [2, 3, 4, 5, 6, 7, 1, 0] rfl hV))
  have hV := hV (by
      intro x0 x1 x2 x3 x4 x5 x6 x7 σ hV
      show q_G l cx M_PM_isInside 0 0 0 0 35 [(0, .inr (.inr x0)), (1, .inl x1), (2, .inl x2), (3, .inl x3), (4, .inl x4), (5, .inl x5), (6, .inl x6), (7, .inl x7)] [] σ R
      refine q_run k_PM_isInside 23 2 39 rfl ?_
      show q_G l cx M_PM_isInside 0 0 0 0 39 [(0, .inr (.inr x0)), (1, .inl x1), (2, .inl x2), (3, .inl x3), (4, .inl x4), (5, .inl x5), (6, .inl x6), (7, .inl x7)] [.inl x6, .inl x7] σ R
      refine q_icmp (q_dc k_PM_isInside 25 rfl) rfl (fun h1 => ?_) (fun h1 => ?_)
      · have hV := hV.1 h1
        refine q_run k_PM_isInside 162 1 278 rfl ?_
        show q_G l cx M_PM_isInside 0 0 0 0 278 [(5, .inl (x5 + (1 : Int32))), (0, .inr (.inr x0)), (1, .inl x1), (2, .inl x2), (3, .inl x3), (4, .inl x4), (6, .inl x6), (7, .inl x7)] [] σ R
        refine q_let (fun v2 => q_G l cx M_PM_isInside 0 0 0 0 278 [(5, .inl v2), (0, .inr (.inr x0)), (1, .inl x1), (2, .inl x2), (3, .inl x3), (4, .inl x4), (6, .inl x6), (7, .inl x7)] [] σ R) (x5 + (1 : Int32)) (fun v2 e_v2 => ?_)
        have hV := hV v2 e_v2
        refine q_goto (q_dc k_PM_isInside 163 rfl) rfl ?_
        exact q_less (Nat.le_of_ble_eq_true rfl) (Nat.le_of_ble_eq_true rfl) (q_subk [1, 2, 3, 4, 5, 0] rfl hV)
      · have hV := hV.2 h1
        refine q_run k_PM_isInside 26 6 52 rfl ?_
        show q_G l cx M_PM_isInside 0 0 0 0 52 [(8, .inl (((12 : Int32) * x5) + x7)), (0, .inr (.inr x0)), (1, .inl x1), (2, .inl x2), (3, .inl x3), (4, .inl x4), (5, .inl x5), (6, .inl x6), (7, .inl x7)] [] σ R
        refine q_let (fun v3 => q_G l cx M_PM_isInside 0 0 0 0 52 [(8, .inl v3), (0, .inr (.inr x0)), (1, .inl x1), (2, .inl x2), (3, .inl x3), (4, .inl x4), (5, .inl x5), (6, .inl x6), (7, .inl x7)] [] σ R) (((12 : Int32) * x5) + x7) (fun v3 e_v3 => ?_)
        have hV := hV v3 e_v3
        refine q_run k_PM_isInside 32 10 67 rfl ?_
        show ¬ x6 = 0 ∧ q_G l cx M_PM_isInside 0 0 0 0 67 [(9, .inl (((12 : Int32) * x5) + ((x7 + (1 : Int32)) - (x7 + (1 : Int32)) / x6 * x6))), (8, .inl v3), (0, .inr (.inr x0)), (1, .inl x1), (2, .inl x2), (3, .inl x3), (4, .inl x4), (5, .inl x5), (6, .inl x6), (7, .inl x7)] [] σ R
        obtain ⟨s5, hV⟩ := hV
        refine ⟨s5, ?_⟩
        refine q_let (fun v4 => q_G l cx M_PM_isInside 0 0 0 0 67 [(9, .inl v4), (8, .inl v3), (0, .inr (.inr x0)), (1, .inl x1), (2, .inl x2), (3, .inl x3), (4, .inl x4), (5, .inl x5), (6, .inl x6), (7, .inl x7)] [] σ R) (((12 : Int32) * x5) + ((x7 + (1 : Int32)) - (x7 + (1 : Int32)) / x6 * x6)) (fun v4 e_v4 => ?_)
        have hV := hV v4 e_v4
        refine q_run k_PM_isInside 42 7 77 rfl ?_
        show q_K σ x0 = 7 ∧ q_K σ (q_P σ x0 9) = 1001 ∧ vp_in v4 (q_Z σ (q_P σ x0 9)) ∧ q_G l cx M_PM_isInside 0 0 0 0 77 [(9, .inl v4), (8, .inl v3), (0, .inr (.inr x0)), (1, .inl x1), (2, .inl x2), (3, .inl x3), (4, .inl x4), (5, .inl x5), (6, .inl x6), (7, .inl x7)] [.inl (lg_cmp (q_L σ (q_P σ x0 9) v4.toNatClampNeg) x3.toInt64)] σ R
        obtain ⟨s6, s7, s8, hV⟩ := hV
        refine ⟨s6, s7, s8, ?_⟩
        refine q_ifz (q_dc k_PM_isInside 49 rfl) rfl (fun h9 => ?_) (fun h9 => ?_)
        · have hV := hV.1 h9
          exact q_less (Nat.le_of_ble_eq_true rfl) (Nat.le_of_ble_eq_true rfl) (q_subk [2, 3, 4, 5, 6, 7, 8, 9, 1, 0] rfl hV)
        · have hV := hV.2 h9
          refine q_run k_PM_isInside 50 7 90 rfl ?_
          show q_K σ x0 = 7 ∧ q_K σ (q_P σ x0 9) = 1001 ∧ vp_in v3 (q_Z σ (q_P σ x0 9)) ∧ q_G l cx M_PM_isInside 0 0 0 0 90 [(9, .inl v4), (8, .inl v3), (0, .inr (.inr x0)), (1, .inl x1), (2, .inl x2), (3, .inl x3), (4, .inl x4), (5, .inl x5), (6, .inl x6), (7, .inl x7)] [.inl (lg_cmp (q_L σ (q_P σ x0 9) v3.toNatClampNeg) x3.toInt64)] σ R
          obtain ⟨s10, s11, s12, hV⟩ := hV
          refine ⟨s10, s11, s12, ?_⟩
          refine q_ifz (q_dc k_PM_isInside 57 rfl) rfl (fun h13 => ?_) (fun h13 => ?_)
          · have hV := hV.1 h13
            exact q_less (Nat.le_of_ble_eq_true rfl) (Nat.le_of_ble_eq_true rfl) (q_subk [2, 3, 4, 5, 6, 7, 8, 9, 1, 0] rfl hV)
          · have hV := hV.2 h13
            refine q_run k_PM_isInside 58 1 94 rfl ?_
            show q_G l cx M_PM_isInside 0 0 0 0 94 [(9, .inl v4), (8, .inl v3), (0, .inr (.inr x0)), (1, .inl x1), (2, .inl x2), (3, .inl x3), (4, .inl x4), (5, .inl x5), (6, .inl x6), (7, .inl x7)] [.inl (1 : Int32)] σ R
            refine q_goto (q_dc k_PM_isInside 59 rfl) rfl ?_
            exact q_less (Nat.le_of_ble_eq_true rfl) (Nat.le_of_ble_eq_true rfl) (q_subk [2, 3, 4, 5, 6, 7, 8, 9, 1, 0] rfl hV))
  have hV := hV (by
      intro x0 x1 x2 x3 x4 x5 x6 x7 x8 x9 σ hV
      show q_G l cx M_PM_isInside 0 0 0 0 97 [(0, .inr (.inr x0)), (1, .inl x1), (2, .inl x2), (3, .inl x3), (4, .inl x4), (5, .inl x5), (6, .inl x6), (7, .inl x7), (8, .inl x8), (9, .inl x9)] [] σ R
      refine q_run k_PM_isInside 60 1 98 rfl ?_
      show q_G l cx M_PM_isInside 0 0 0 0 98 [(0, .inr (.inr x0)), (1, .inl x1), (2, .inl x2), (3, .inl x3), (4, .inl x4), (5, .inl x5), (6, .inl x6), (7, .inl x7), (8, .inl x8), (9, .inl x9)] [.inl (0 : Int32)] σ R
      exact q_less (Nat.le_of_ble_eq_true rfl) (Nat.le_of_ble_eq_true rfl) (q_subk [0, 1, 2, 3, 4, 5, 6, 7, 8, 9] rfl hV))
  have hV := hV (by
      intro x0 x1 x2 x3 x4 x5 x6 x7 x8 x9 y0 σ hV
      show q_G l cx M_PM_isInside 0 0 0 0 98 [(0, .inr (.inr x0)), (1, .inl x1), (2, .inl x2), (3, .inl x3), (4, .inl x4), (5, .inl x5), (6, .inl x6), (7, .inl x7), (8, .inl x8), (9, .inl x9)] [.inl y0] σ R
      refine q_run k_PM_isInside 61 8 110 rfl ?_
      show q_K σ x0 = 7 ∧ q_K σ (q_P σ x0 9) = 1001 ∧ vp_in x8 (q_Z σ (q_P σ x0 9)) ∧ q_G l cx M_PM_isInside 0 0 0 0 110 [(10, .inl y0), (0, .inr (.inr x0)), (1, .inl x1), (2, .inl x2), (3, .inl x3), (4, .inl x4), (5, .inl x5), (6, .inl x6), (7, .inl x7), (8, .inl x8), (9, .inl x9)] [.inl (lg_cmp (q_L σ (q_P σ x0 9) x8.toNatClampNeg) x3.toInt64)] σ R
      obtain ⟨s1, s2, s3, hV⟩ := hV
      refine ⟨s1, s2, s3, ?_⟩
      refine q_ifz (q_dc k_PM_isInside 69 rfl) rfl (fun h4 => ?_) (fun h4 => ?_)
      · have hV := hV.1 h4
        exact q_less (Nat.le_of_ble_eq_true rfl) (Nat.le_of_ble_eq_true rfl) (q_subk [1, 2, 3, 4, 5, 6, 7, 8, 9, 10, 0] rfl hV)
      · have hV := hV.2 h4
        refine q_run k_PM_isInside 70 7 123 rfl ?_
        show q_K σ x0 = 7 ∧ q_K σ (q_P σ x0 9) = 1001 ∧ vp_in x9 (q_Z σ (q_P σ x0 9)) ∧ q_G l cx M_PM_isInside 0 0 0 0 123 [(10, .inl y0), (0, .inr (.inr x0)), (1, .inl x1), (2, .inl x2), (3, .inl x3), (4, .inl x4), (5, .inl x5), (6, .inl x6), (7, .inl x7), (8, .inl x8), (9, .inl x9)] [.inl (lg_cmp (q_L σ (q_P σ x0 9) x9.toNatClampNeg) x3.toInt64)] σ R
        obtain ⟨s5, s6, s7, hV⟩ := hV
        refine ⟨s5, s6, s7, ?_⟩
        refine q_ifz (q_dc k_PM_isInside 77 rfl) rfl (fun h8 => ?_) (fun h8 => ?_)
        · have hV := hV.1 h8
          exact q_less (Nat.le_of_ble_eq_true rfl) (Nat.le_of_ble_eq_true rfl) (q_subk [1, 2, 3, 4, 5, 6, 7, 8, 9, 10, 0] rfl hV)
        · have hV := hV.2 h8
          refine q_run k_PM_isInside 78 1 127 rfl ?_
          show q_G l cx M_PM_isInside 0 0 0 0 127 [(10, .inl y0), (0, .inr (.inr x0)), (1, .inl x1), (2, .inl x2), (3, .inl x3), (4, .inl x4), (5, .inl x5), (6, .inl x6), (7, .inl x7), (8, .inl x8), (9, .inl x9)] [.inl (1 : Int32)] σ R
          refine q_goto (q_dc k_PM_isInside 79 rfl) rfl ?_
          exact q_less (Nat.le_of_ble_eq_true rfl) (Nat.le_of_ble_eq_true rfl) (q_subk [1, 2, 3, 4, 5, 6, 7, 8, 9, 10, 0] rfl hV))
  have hV := hV (by
      intro x0 x1 x2 x3 x4 x5 x6 x7 x8 x9 x10 σ hV
      show q_G l cx M_PM_isInside 0 0 0 0 130 [(0, .inr (.inr x0)), (1, .inl x1), (2, .inl x2), (3, .inl x3), (4, .inl x4), (5, .inl x5), (6, .inl x6), (7, .inl x7), (8, .inl x8), (9, .inl x9), (10, .inl x10)] [] σ R
      refine q_run k_PM_isInside 80 1 131 rfl ?_
      show q_G l cx M_PM_isInside 0 0 0 0 131 [(0, .inr (.inr x0)), (1, .inl x1), (2, .inl x2), (3, .inl x3), (4, .inl x4), (5, .inl x5), (6, .inl x6), (7, .inl x7), (8, .inl x8), (9, .inl x9), (10, .inl x10)] [.inl (0 : Int32)] σ R
      exact q_less (Nat.le_of_ble_eq_true rfl) (Nat.le_of_ble_eq_true rfl) (q_subk [0, 1, 2, 3, 4, 5, 6, 7, 8, 9, 10] rfl hV))
  have hV := hV (by
      intro x0 x1 x2 x3 x4 x5 x6 x7 x8 x9 x10 y0 σ hV
      show q_G l cx M_PM_isInside 0 0 0 0 131 [(0, .inr (.inr x0)), (1, .inl x1), (2, .inl x2), (3, .inl x3), (4, .inl x4), (5, .inl x5), (6, .inl x6), (7, .inl x7), (8, .inl x8), (9, .inl x9), (10, .inl x10)] [.inl y0] σ R
      refine q_run k_PM_isInside 81 2 135 rfl ?_
      show q_G l cx M_PM_isInside 0 0 0 0 135 [(11, .inl y0), (0, .inr (.inr x0)), (1, .inl x1), (2, .inl x2), (3, .inl x3), (4, .inl x4), (5, .inl x5), (6, .inl x6), (7, .inl x7), (8, .inl x8), (9, .inl x9), (10, .inl x10)] [.inl x10] σ R
      refine q_ifz (q_dc k_PM_isInside 83 rfl) rfl (fun h1 => ?_) (fun h1 => ?_)
      · have hV := hV.1 h1
        exact q_less (Nat.le_of_ble_eq_true rfl) (Nat.le_of_ble_eq_true rfl) (q_subk [1, 2, 3, 4, 5, 6, 7, 8, 9, 10, 11] rfl hV)
      · have hV := hV.2 h1
        refine q_run k_PM_isInside 84 1 140 rfl ?_
        show q_G l cx M_PM_isInside 0 0 0 0 140 [(11, .inl y0), (0, .inr (.inr x0)), (1, .inl x1), (2, .inl x2), (3, .inl x3), (4, .inl x4), (5, .inl x5), (6, .inl x6), (7, .inl x7), (8, .inl x8), (9, .inl x9), (10, .inl x10)] [.inl y0] σ R
        refine q_ifz (q_dc k_PM_isInside 85 rfl) rfl (fun h2 => ?_) (fun h2 => ?_)
        · have hV := hV.1 h2
          exact q_less (Nat.le_of_ble_eq_true rfl) (Nat.le_of_ble_eq_true rfl) (q_subk [1, 2, 3, 4, 5, 6, 7, 8, 9, 10, 11] rfl hV)
        · have hV := hV.2 h2
          refine q_goto (q_dc k_PM_isInside 86 rfl) rfl ?_
          exact q_less (Nat.le_of_ble_eq_true rfl) (Nat.le_of_ble_eq_true rfl) (q_subk [1, 2, 3, 4, 5, 6, 7, 8] rfl hV))
  have hV := hV (by
      intro x0 x1 x2 x3 x4 x5 x6 x7 x8 x9 x10 σ hV
      show q_G l cx M_PM_isInside 0 0 0 0 146 [(0, .inr (.inr x0)), (1, .inl x1), (2, .inl x2), (3, .inl x3), (4, .inl x4), (5, .inl x5), (6, .inl x6), (7, .inl x7), (8, .inl x8), (9, .inl x9), (10, .inl x10)] [] σ R
      refine q_run k_PM_isInside 87 10 163 rfl ?_
      show q_K σ x0 = 7 ∧ q_K σ (q_P σ x0 9) = 1001 ∧ vp_in x9 (q_Z σ (q_P σ x0 9)) ∧ q_K σ x0 = 7 ∧ q_K σ (q_P σ x0 9) = 1001 ∧ vp_in x8 (q_Z σ (q_P σ x0 9)) ∧ q_G l cx M_PM_isInside 0 0 0 0 163 [(12, .inr (.inl ((q_L σ (q_P σ x0 9) x9.toNatClampNeg) - (q_L σ (q_P σ x0 9) x8.toNatClampNeg)))), (0, .inr (.inr x0)), (1, .inl x1), (2, .inl x2), (3, .inl x3), (4, .inl x4), (5, .inl x5), (6, .inl x6), (7, .inl x7), (8, .inl x8), (9, .inl x9), (10, .inl x10)] [] σ R
      obtain ⟨s2, s3, s4, s5, s6, s7, hV⟩ := hV
      refine ⟨s2, s3, s4, s5, s6, s7, ?_⟩
      refine q_let (fun v1 => q_G l cx M_PM_isInside 0 0 0 0 163 [(12, .inr (.inl v1)), (0, .inr (.inr x0)), (1, .inl x1), (2, .inl x2), (3, .inl x3), (4, .inl x4), (5, .inl x5), (6, .inl x6), (7, .inl x7), (8, .inl x8), (9, .inl x9), (10, .inl x10)] [] σ R) ((q_L σ (q_P σ x0 9) x9.toNatClampNeg) - (q_L σ (q_P σ x0 9) x8.toNatClampNeg)) (fun v1 e_v1 => ?_)
      have hV := hV v1 e_v1
      refine q_run k_PM_isInside 97 40 225 rfl ?_
      show q_K σ x0 = 7 ∧ q_K σ (q_P σ x0 8) = 1001 ∧ vp_in x8 (q_Z σ (q_P σ x0 8)) ∧ q_K σ x0 = 7 ∧ q_K σ (q_P σ x0 9) = 1001 ∧ vp_in x8 (q_Z σ (q_P σ x0 9)) ∧ q_K σ x0 = 7 ∧ q_K σ (q_P σ x0 8) = 1001 ∧ vp_in x9 (q_Z σ (q_P σ x0 8)) ∧ q_K σ x0 = 7 ∧ q_K σ (q_P σ x0 8) = 1001 ∧ vp_in x8 (q_Z σ (q_P σ x0 8)) ∧ q_G l cx M_PM_isInside 0 0 0 0 225 [(14, .inr (.inl ((((((2 : Int64) * (q_L σ (q_P σ x0 8) x8.toNatClampNeg)) - ((2 : Int64) * x2.toInt64)) - (1 : Int64)) * v1) + (((((2 : Int64) * x3.toInt64) + (1 : Int64)) - ((2 : Int64) * (q_L σ (q_P σ x0 9) x8.toNatClampNeg))) * ((q_L σ (q_P σ x0 8) x9.toNatClampNeg) - (q_L σ (q_P σ x0 8) x8.toNatClampNeg)))))), (12, .inr (.inl v1)), (0, .inr (.inr x0)), (1, .inl x1), (2, .inl x2), (3, .inl x3), (4, .inl x4), (5, .inl x5), (6, .inl x6), (7, .inl x7), (8, .inl x8), (9, .inl x9), (10, .inl x10)] [] σ R
      obtain ⟨s9, s10, s11, s12, s13, s14, s15, s16, s17, s18, s19, s20, hV⟩ := hV
      refine ⟨s9, s10, s11, s12, s13, s14, s15, s16, s17, s18, s19, s20, ?_⟩
      refine q_let (fun v8 => q_G l cx M_PM_isInside 0 0 0 0 225 [(14, .inr (.inl v8)), (12, .inr (.inl v1)), (0, .inr (.inr x0)), (1, .inl x1), (2, .inl x2), (3, .inl x3), (4, .inl x4), (5, .inl x5), (6, .inl x6), (7, .inl x7), (8, .inl x8), (9, .inl x9), (10, .inl x10)] [] σ R) ((((((2 : Int64) * (q_L σ (q_P σ x0 8) x8.toNatClampNeg)) - ((2 : Int64) * x2.toInt64)) - (1 : Int64)) * v1) + (((((2 : Int64) * x3.toInt64) + (1 : Int64)) - ((2 : Int64) * (q_L σ (q_P σ x0 9) x8.toNatClampNeg))) * ((q_L σ (q_P σ x0 8) x9.toNatClampNeg) - (q_L σ (q_P σ x0 8) x8.toNatClampNeg)))) (fun v8 e_v8 => ?_)
      have hV := hV v8 e_v8
      refine q_run k_PM_isInside 137 2 229 rfl ?_
      show q_G l cx M_PM_isInside 0 0 0 0 229 [(14, .inr (.inl v8)), (12, .inr (.inl v1)), (0, .inr (.inr x0)), (1, .inl x1), (2, .inl x2), (3, .inl x3), (4, .inl x4), (5, .inl x5), (6, .inl x6), (7, .inl x7), (8, .inl x8), (9, .inl x9), (10, .inl x10)] [.inl x10, .inl x4] σ R
      refine q_ifz (q_dc k_PM_isInside 139 rfl) rfl (fun h21 => ?_) (fun h21 => ?_)
      · have hV := hV.1 h21
        refine q_run k_PM_isInside 148 3 251 rfl ?_
        show q_G l cx M_PM_isInside 0 0 0 0 251 [(14, .inr (.inl v8)), (12, .inr (.inl v1)), (0, .inr (.inr x0)), (1, .inl x1), (2, .inl x2), (3, .inl x3), (4, .inl x4), (5, .inl x5), (6, .inl x6), (7, .inl x7), (8, .inl x8), (9, .inl x9), (10, .inl x10)] [.inl (lg_cmp v8 (0 : Int64)), .inl x4] σ R
        refine q_ifz (q_dc k_PM_isInside 151 rfl) rfl (fun h22 => ?_) (fun h22 => ?_)
        · have hV := hV.1 h22
          refine q_run k_PM_isInside 154 1 259 rfl ?_
          show q_G l cx M_PM_isInside 0 0 0 0 259 [(14, .inr (.inl v8)), (12, .inr (.inl v1)), (0, .inr (.inr x0)), (1, .inl x1), (2, .inl x2), (3, .inl x3), (4, .inl x4), (5, .inl x5), (6, .inl x6), (7, .inl x7), (8, .inl x8), (9, .inl x9), (10, .inl x10)] [.inl (0 : Int32), .inl x4] σ R
          exact q_less (Nat.le_of_ble_eq_true rfl) (Nat.le_of_ble_eq_true rfl) (q_subk [2, 3, 4, 5, 7, 8, 9] rfl hV)
        · have hV := hV.2 h22
          refine q_run k_PM_isInside 152 1 255 rfl ?_
          show q_G l cx M_PM_isInside 0 0 0 0 255 [(14, .inr (.inl v8)), (12, .inr (.inl v1)), (0, .inr (.inr x0)), (1, .inl x1), (2, .inl x2), (3, .inl x3), (4, .inl x4), (5, .inl x5), (6, .inl x6), (7, .inl x7), (8, .inl x8), (9, .inl x9), (10, .inl x10)] [.inl (1 : Int32), .inl x4] σ R
          refine q_goto (q_dc k_PM_isInside 153 rfl) rfl ?_
          exact q_less (Nat.le_of_ble_eq_true rfl) (Nat.le_of_ble_eq_true rfl) (q_subk [2, 3, 4, 5, 7, 8, 9] rfl hV)
      · have hV := hV.2 h21
        refine q_run k_PM_isInside 140 3 236 rfl ?_
        show q_G l cx M_PM_isInside 0 0 0 0 236 [(14, .inr (.inl v8)), (12, .inr (.inl v1)), (0, .inr (.inr x0)), (1, .inl x1), (2, .inl x2), (3, .inl x3), (4, .inl x4), (5, .inl x5), (6, .inl x6), (7, .inl x7), (8, .inl x8), (9, .inl x9), (10, .inl x10)] [.inl (lg_cmp v8 (0 : Int64)), .inl x4] σ R
        refine q_ifz (q_dc k_PM_isInside 143 rfl) rfl (fun h23 => ?_) (fun h23 => ?_)
        · have hV := hV.1 h23
          refine q_run k_PM_isInside 146 1 244 rfl ?_
          show q_G l cx M_PM_isInside 0 0 0 0 244 [(14, .inr (.inl v8)), (12, .inr (.inl v1)), (0, .inr (.inr x0)), (1, .inl x1), (2, .inl x2), (3, .inl x3), (4, .inl x4), (5, .inl x5), (6, .inl x6), (7, .inl x7), (8, .inl x8), (9, .inl x9), (10, .inl x10)] [.inl (0 : Int32), .inl x4] σ R
          refine q_goto (q_dc k_PM_isInside 147 rfl) rfl ?_
          exact q_less (Nat.le_of_ble_eq_true rfl) (Nat.le_of_ble_eq_true rfl) (q_subk [2, 3, 4, 5, 7, 8, 9] rfl hV)
        · have hV := hV.2 h23
          refine q_run k_PM_isInside 144 1 240 rfl ?_
          show q_G l cx M_PM_isInside 0 0 0 0 240 [(14, .inr (.inl v8)), (12, .inr (.inl v1)), (0, .inr (.inr x0)), (1, .inl x1), (2, .inl x2), (3, .inl x3), (4, .inl x4), (5, .inl x5), (6, .inl x6), (7, .inl x7), (8, .inl x8), (9, .inl x9), (10, .inl x10)] [.inl (1 : Int32), .inl x4] σ R
          refine q_goto (q_dc k_PM_isInside 145 rfl) rfl ?_
          exact q_less (Nat.le_of_ble_eq_true rfl) (Nat.le_of_ble_eq_true rfl) (q_subk [2, 3, 4, 5, 7, 8, 9] rfl hV))
  have hV := hV (by
      intro x0 x1 x2 x3 x5 x6 x7 y0 y1 σ hV
      show q_G l cx M_PM_isInside 0 0 0 0 259 [(0, .inr (.inr x0)), (1, .inl x1), (2, .inl x2), (3, .inl x3), (5, .inl x5), (6, .inl x6), (7, .inl x7)] [.inl y0, .inl y1] σ R
      refine q_icmp (q_dc k_PM_isInside 155 rfl) rfl (fun h1 => ?_) (fun h1 => ?_)
      · have hV := hV.1 h1
        refine q_run k_PM_isInside 158 1 267 rfl ?_
        show q_G l cx M_PM_isInside 0 0 0 0 267 [(0, .inr (.inr x0)), (1, .inl x1), (2, .inl x2), (3, .inl x3), (5, .inl x5), (6, .inl x6), (7, .inl x7)] [.inl (0 : Int32)] σ R
        exact q_less (Nat.le_of_ble_eq_true rfl) (Nat.le_of_ble_eq_true rfl) (q_subk [0, 1, 2, 3, 4, 5, 6] rfl hV)
      · have hV := hV.2 h1
        refine q_run k_PM_isInside 156 1 263 rfl ?_
        show q_G l cx M_PM_isInside 0 0 0 0 263 [(0, .inr (.inr x0)), (1, .inl x1), (2, .inl x2), (3, .inl x3), (5, .inl x5), (6, .inl x6), (7, .inl x7)] [.inl (1 : Int32)] σ R
        refine q_goto (q_dc k_PM_isInside 157 rfl) rfl ?_
        exact q_less (Nat.le_of_ble_eq_true rfl) (Nat.le_of_ble_eq_true rfl) (q_subk [0, 1, 2, 3, 4, 5, 6] rfl hV))
  have hV := hV (by
      intro x0 x1 x2 x3 x5 x6 x7 y0 σ hV
      show q_G l cx M_PM_isInside 0 0 0 0 267 [(0, .inr (.inr x0)), (1, .inl x1), (2, .inl x2), (3, .inl x3), (5, .inl x5), (6, .inl x6), (7, .inl x7)] [.inl y0] σ R
      refine q_run k_PM_isInside 159 1 269 rfl ?_
      show q_G l cx M_PM_isInside 0 0 0 0 269 [(4, .inl y0), (0, .inr (.inr x0)), (1, .inl x1), (2, .inl x2), (3, .inl x3), (5, .inl x5), (6, .inl x6), (7, .inl x7)] [] σ R
      exact q_less (Nat.le_of_ble_eq_true rfl) (Nat.le_of_ble_eq_true rfl) (q_subk [1, 2, 3, 4, 0, 5, 6, 7] rfl hV))
  have hV := hV (by
      intro x0 x1 x2 x3 x4 x5 x6 x7 σ hV
      show q_G l cx M_PM_isInside 0 0 0 0 269 [(0, .inr (.inr x0)), (1, .inl x1), (2, .inl x2), (3, .inl x3), (4, .inl x4), (5, .inl x5), (6, .inl x6), (7, .inl x7)] [] σ R
      refine q_run k_PM_isInside 160 1 272 rfl ?_
      show q_G l cx M_PM_isInside 0 0 0 0 272 [(7, .inl (x7 + (1 : Int32))), (0, .inr (.inr x0)), (1, .inl x1), (2, .inl x2), (3, .inl x3), (4, .inl x4), (5, .inl x5), (6, .inl x6)] [] σ R
      refine q_let (fun v1 => q_G l cx M_PM_isInside 0 0 0 0 272 [(7, .inl v1), (0, .inr (.inr x0)), (1, .inl x1), (2, .inl x2), (3, .inl x3), (4, .inl x4), (5, .inl x5), (6, .inl x6)] [] σ R) (x7 + (1 : Int32)) (fun v1 e_v1 => ?_)
      have hV := hV v1 e_v1
      refine q_goto (q_dc k_PM_isInside 161 rfl) rfl ?_
      exact q_less (Nat.le_of_ble_eq_true rfl) (Nat.le_of_ble_eq_true rfl) (q_subk [1, 2, 3, 4, 5, 6, 7, 0] rfl hV))
  refine q_run k_PM_isInside 0 6 8 rfl ?_
  show q_G l cx M_PM_isInside 0 0 0 0 8 [(5, .inl ((4 : Int32) * x1)), (4, .inl (0 : Int32)), (0, .inr (.inr x0)), (1, .inl x1), (2, .inl x2), (3, .inl x3)] [] σ R
  refine q_let (fun v1 => q_G l cx M_PM_isInside 0 0 0 0 8 [(5, .inl v1), (4, .inl (0 : Int32)), (0, .inr (.inr x0)), (1, .inl x1), (2, .inl x2), (3, .inl x3)] [] σ R) ((4 : Int32) * x1) (fun v1 e_v1 => ?_)
  have hV := hV v1 e_v1
  exact q_less (Nat.le_of_ble_eq_true rfl) (Nat.le_of_ble_eq_true rfl) (q_subk [2, 3, 4, 5, 1, 0] rfl hV)
def V_PM_isInObstacle (x0 : Nat) (x1 : Int32) (x2 : Int32) (x3 : Int32) (σ : q_S) (R : q_O → q_S → Prop) : Prop :=
  ∀ (P3 : Nat → Int32 → Int32 → Int32 → Int32 → q_S → Prop),
  ∀ (P144 : Nat → Int32 → Int32 → Int32 → Int32 → q_S → Prop),
  (∀ (x0 : Nat) (x1 : Int32) (x2 : Int32) (x3 : Int32) (x4 : Int32) (σ : q_S), (q_K σ x0 = 7 ∧ (((q_I σ x0 12) ≤ x4 → R (.inl (some (.inl (0 : Int32)))) σ) ∧ (¬ ((q_I σ x0 12) ≤ x4) → q_K σ x0 = 7 ∧ (q_K σ (q_P σ x0 14) = 1000 ∨ q_K σ (q_P σ x0 14) = 2000) ∧ vp_in x4 (q_Z σ (q_P σ x0 14)) ∧ q_K σ x0 = 7 ∧ (q_K σ (q_P σ x0 4) = 1000 ∨ q_K σ (q_P σ x0 4) = 2000) ∧ vp_in x1 (q_Z σ (q_P σ x0 4)) ∧ ((¬ (q_I σ (q_P σ x0 14) x4.toNatClampNeg) = (q_I σ (q_P σ x0 4) x1.toNatClampNeg) → P144 x0 x1 x2 x3 x4 σ) ∧ (¬ (¬ (q_I σ (q_P σ x0 14) x4.toNatClampNeg) = (q_I σ (q_P σ x0 4) x1.toNatClampNeg)) → q_K σ x0 = 7 ∧ (q_K σ (q_P σ x0 13) = 1000 ∨ q_K σ (q_P σ x0 13) = 2000) ∧ vp_in x4 (q_Z σ (q_P σ x0 13)) ∧ q_K σ x0 = 7 ∧ (q_K σ (q_P σ x0 3) = 1000 ∨ q_K σ (q_P σ x0 3) = 2000) ∧ vp_in x1 (q_Z σ (q_P σ x0 3)) ∧ ((¬ (q_I σ (q_P σ x0 13) x4.toNatClampNeg) = (q_I σ (q_P σ x0 3) x1.toNatClampNeg) → q_K σ x0 = 7 ∧ q_K σ (q_P σ x0 15) = 1001 ∧ vp_in ((3 : Int32) * x4) (q_Z σ (q_P σ x0 15)) ∧ ∀ v17 : Int64, v17 = (((2 : Int64) * x2.toInt64) + (1 : Int64)) - ((2 : Int64) * (q_L σ (q_P σ x0 15) ((3 : Int32) * x4).toNatClampNeg)) → q_K σ x0 = 7 ∧ q_K σ (q_P σ x0 15) = 1001 ∧ vp_in (((3 : Int32) * x4) + (1 : Int32)) (q_Z σ (q_P σ x0 15)) ∧ ∀ v21 : Int64, v21 = (((2 : Int64) * x3.toInt64) + (1 : Int64)) - ((2 : Int64) * (q_L σ (q_P σ x0 15) (((3 : Int32) * x4) + (1 : Int32)).toNatClampNeg)) → q_K σ x0 = 7 ∧ q_K σ (q_P σ x0 15) = 1001 ∧ vp_in (((3 : Int32) * x4) + (2 : Int32)) (q_Z σ (q_P σ x0 15)) ∧ q_K σ x0 = 7 ∧ (q_K σ (q_P σ x0 20) = 1000 ∨ q_K σ (q_P σ x0 20) = 2000) ∧ vp_in (0 : Int32) (q_Z σ (q_P σ x0 20)) ∧ ∀ v25 : Int64, v25 = (2 : Int64) * ((q_L σ (q_P σ x0 15) (((3 : Int32) * x4) + (2 : Int32)).toNatClampNeg) + ((q_I σ (q_P σ x0 20) (0 : Int32).toNatClampNeg).toInt64)) → (((0 : Int32) < (lg_cmp ((v17 * v17) + (v21 * v21)) (v25 * v25)) → P144 x0 x1 x2 x3 x4 σ) ∧ (¬ ((0 : Int32) < (lg_cmp ((v17 * v17) + (v21 * v21)) (v25 * v25))) → R (.inl (some (.inl (1 : Int32)))) σ))) ∧ (¬ (¬ (q_I σ (q_P σ x0 13) x4.toNatClampNeg) = (q_I σ (q_P σ x0 3) x1.toNatClampNeg)) → P144 x0 x1 x2 x3 x4 σ))))))) → P3 x0 x1 x2 x3 x4 σ) →
  (∀ (x0 : Nat) (x1 : Int32) (x2 : Int32) (x3 : Int32) (x4 : Int32) (σ : q_S), (∀ v1 : Int32, v1 = x4 + (1 : Int32) → P3 x0 x1 x2 x3 v1 σ) → P144 x0 x1 x2 x3 x4 σ) →
  P3 x0 x1 x2 x3 (0 : Int32) σ
set_option maxRecDepth 100000 in
theorem t_PM_isInObstacle {l : Launch} {cx : q_C} {x0 : Nat} {x1 : Int32} {x2 : Int32} {x3 : Int32} {σ : q_S} {R : q_O → q_S → Prop} (hV : V_PM_isInObstacle x0 x1 x2 x3 σ R) : q_Ct l cx M_PM_isInObstacle 0 0 0 0 [q_r x0, q_i x1, q_i x2, q_i x3] σ R := by
  refine q_Ct.of p_PM_isInObstacle c_PM_isInObstacle rfl (Nat.le_of_ble_eq_true rfl) ?_
  have hV := hV (fun (x0 : Nat) (x1 : Int32) (x2 : Int32) (x3 : Int32) (x4 : Int32) (σ : q_S) => q_G l cx M_PM_isInObstacle 0 0 0 0 3 [(0, .inr (.inr x0)), (1, .inl x1), (2, .inl x2), (3, .inl x3), (4, .inl x4)] [] σ R) (fun (x0 : Nat) (x1 : Int32) (x2 : Int32) (x3 : Int32) (x4 : Int32) (σ : q_S) => q_G l cx M_PM_isInObstacle 0 0 0 0 144 [(0, .inr (.inr x0)), (1, .inl x1), (2, .inl x2), (3, .inl x3), (4, .inl x4)] [] σ R)
  have hV := hV (by
      intro x0 x1 x2 x3 x4 σ hV
      show q_G l cx M_PM_isInObstacle 0 0 0 0 3 [(0, .inr (.inr x0)), (1, .inl x1), (2, .inl x2), (3, .inl x3), (4, .inl x4)] [] σ R
      refine q_run k_PM_isInObstacle 2 3 9 rfl ?_
      show q_K σ x0 = 7 ∧ q_G l cx M_PM_isInObstacle 0 0 0 0 9 [(0, .inr (.inr x0)), (1, .inl x1), (2, .inl x2), (3, .inl x3), (4, .inl x4)] [.inl (q_I σ x0 12), .inl x4] σ R
      obtain ⟨s1, hV⟩ := hV
      refine ⟨s1, ?_⟩
      refine q_icmp (q_dc k_PM_isInObstacle 5 rfl) rfl (fun h2 => ?_) (fun h2 => ?_)
      · have hV := hV.1 h2
        refine q_run k_PM_isInObstacle 92 1 151 rfl ?_
        show q_G l cx M_PM_isInObstacle 0 0 0 0 151 [(0, .inr (.inr x0)), (1, .inl x1), (2, .inl x2), (3, .inl x3), (4, .inl x4)] [.inl (0 : Int32)] σ R
        exact q_zreturn (q_dc k_PM_isInObstacle 93 rfl) rfl (by decide) hV
      · have hV := hV.2 h2
        refine q_run k_PM_isInObstacle 6 8 25 rfl ?_
        show q_K σ x0 = 7 ∧ (q_K σ (q_P σ x0 14) = 1000 ∨ q_K σ (q_P σ x0 14) = 2000) ∧ vp_in x4 (q_Z σ (q_P σ x0 14)) ∧ q_K σ x0 = 7 ∧ (q_K σ (q_P σ x0 4) = 1000 ∨ q_K σ (q_P σ x0 4) = 2000) ∧ vp_in x1 (q_Z σ (q_P σ x0 4)) ∧ q_G l cx M_PM_isInObstacle 0 0 0 0 25 [(0, .inr (.inr x0)), (1, .inl x1), (2, .inl x2), (3, .inl x3), (4, .inl x4)] [.inl (q_I σ (q_P σ x0 4) x1.toNatClampNeg), .inl (q_I σ (q_P σ x0 14) x4.toNatClampNeg)] σ R
        obtain ⟨s3, s4, s5, s6, s7, s8, hV⟩ := hV
        refine ⟨s3, s4, s5, s6, s7, s8, ?_⟩
        refine q_icmp (q_dc k_PM_isInObstacle 14 rfl) rfl (fun h9 => ?_) (fun h9 => ?_)
        · have hV := hV.1 h9
          exact q_less (Nat.le_of_ble_eq_true rfl) (Nat.le_of_ble_eq_true rfl) (q_subk [0, 1, 2, 3, 4] rfl hV)
        · have hV := hV.2 h9
          refine q_run k_PM_isInObstacle 15 8 41 rfl ?_
          show q_K σ x0 = 7 ∧ (q_K σ (q_P σ x0 13) = 1000 ∨ q_K σ (q_P σ x0 13) = 2000) ∧ vp_in x4 (q_Z σ (q_P σ x0 13)) ∧ q_K σ x0 = 7 ∧ (q_K σ (q_P σ x0 3) = 1000 ∨ q_K σ (q_P σ x0 3) = 2000) ∧ vp_in x1 (q_Z σ (q_P σ x0 3)) ∧ q_G l cx M_PM_isInObstacle 0 0 0 0 41 [(0, .inr (.inr x0)), (1, .inl x1), (2, .inl x2), (3, .inl x3), (4, .inl x4)] [.inl (q_I σ (q_P σ x0 3) x1.toNatClampNeg), .inl (q_I σ (q_P σ x0 13) x4.toNatClampNeg)] σ R
          obtain ⟨s10, s11, s12, s13, s14, s15, hV⟩ := hV
          refine ⟨s10, s11, s12, s13, s14, s15, ?_⟩
          refine q_icmp (q_dc k_PM_isInObstacle 23 rfl) rfl (fun h16 => ?_) (fun h16 => ?_)
          · have hV := hV.1 h16
            refine q_run k_PM_isInObstacle 25 16 71 rfl ?_
            show q_K σ x0 = 7 ∧ q_K σ (q_P σ x0 15) = 1001 ∧ vp_in ((3 : Int32) * x4) (q_Z σ (q_P σ x0 15)) ∧ q_G l cx M_PM_isInObstacle 0 0 0 0 71 [(5, .inr (.inl ((((2 : Int64) * x2.toInt64) + (1 : Int64)) - ((2 : Int64) * (q_L σ (q_P σ x0 15) ((3 : Int32) * x4).toNatClampNeg))))), (0, .inr (.inr x0)), (1, .inl x1), (2, .inl x2), (3, .inl x3), (4, .inl x4)] [] σ R
            obtain ⟨s18, s19, s20, hV⟩ := hV
            refine ⟨s18, s19, s20, ?_⟩
            refine q_let (fun v17 => q_G l cx M_PM_isInObstacle 0 0 0 0 71 [(5, .inr (.inl v17)), (0, .inr (.inr x0)), (1, .inl x1), (2, .inl x2), (3, .inl x3), (4, .inl x4)] [] σ R) ((((2 : Int64) * x2.toInt64) + (1 : Int64)) - ((2 : Int64) * (q_L σ (q_P σ x0 15) ((3 : Int32) * x4).toNatClampNeg))) (fun v17 e_v17 => ?_)
            have hV := hV v17 e_v17
            refine q_run k_PM_isInObstacle 41 18 97 rfl ?_
            show q_K σ x0 = 7 ∧ q_K σ (q_P σ x0 15) = 1001 ∧ vp_in (((3 : Int32) * x4) + (1 : Int32)) (q_Z σ (q_P σ x0 15)) ∧ q_G l cx M_PM_isInObstacle 0 0 0 0 97 [(7, .inr (.inl ((((2 : Int64) * x3.toInt64) + (1 : Int64)) - ((2 : Int64) * (q_L σ (q_P σ x0 15) (((3 : Int32) * x4) + (1 : Int32)).toNatClampNeg))))), (5, .inr (.inl v17)), (0, .inr (.inr x0)), (1, .inl x1), (2, .inl x2), (3, .inl x3), (4, .inl x4)] [] σ R
            obtain ⟨s22, s23, s24, hV⟩ := hV
            refine ⟨s22, s23, s24, ?_⟩
            refine q_let (fun v21 => q_G l cx M_PM_isInObstacle 0 0 0 0 97 [(7, .inr (.inl v21)), (5, .inr (.inl v17)), (0, .inr (.inr x0)), (1, .inl x1), (2, .inl x2), (3, .inl x3), (4, .inl x4)] [] σ R) ((((2 : Int64) * x3.toInt64) + (1 : Int64)) - ((2 : Int64) * (q_L σ (q_P σ x0 15) (((3 : Int32) * x4) + (1 : Int32)).toNatClampNeg))) (fun v21 e_v21 => ?_)
            have hV := hV v21 e_v21
            refine q_run k_PM_isInObstacle 59 17 122 rfl ?_
            show q_K σ x0 = 7 ∧ q_K σ (q_P σ x0 15) = 1001 ∧ vp_in (((3 : Int32) * x4) + (2 : Int32)) (q_Z σ (q_P σ x0 15)) ∧ q_K σ x0 = 7 ∧ (q_K σ (q_P σ x0 20) = 1000 ∨ q_K σ (q_P σ x0 20) = 2000) ∧ vp_in (0 : Int32) (q_Z σ (q_P σ x0 20)) ∧ q_G l cx M_PM_isInObstacle 0 0 0 0 122 [(9, .inr (.inl ((2 : Int64) * ((q_L σ (q_P σ x0 15) (((3 : Int32) * x4) + (2 : Int32)).toNatClampNeg) + ((q_I σ (q_P σ x0 20) (0 : Int32).toNatClampNeg).toInt64))))), (7, .inr (.inl v21)), (5, .inr (.inl v17)), (0, .inr (.inr x0)), (1, .inl x1), (2, .inl x2), (3, .inl x3), (4, .inl x4)] [] σ R
            obtain ⟨s26, s27, s28, s29, s30, s31, hV⟩ := hV
            refine ⟨s26, s27, s28, s29, s30, s31, ?_⟩
            refine q_let (fun v25 => q_G l cx M_PM_isInObstacle 0 0 0 0 122 [(9, .inr (.inl v25)), (7, .inr (.inl v21)), (5, .inr (.inl v17)), (0, .inr (.inr x0)), (1, .inl x1), (2, .inl x2), (3, .inl x3), (4, .inl x4)] [] σ R) ((2 : Int64) * ((q_L σ (q_P σ x0 15) (((3 : Int32) * x4) + (2 : Int32)).toNatClampNeg) + ((q_I σ (q_P σ x0 20) (0 : Int32).toNatClampNeg).toInt64))) (fun v25 e_v25 => ?_)
            have hV := hV v25 e_v25
            refine q_run k_PM_isInObstacle 76 11 139 rfl ?_
            show q_G l cx M_PM_isInObstacle 0 0 0 0 139 [(9, .inr (.inl v25)), (7, .inr (.inl v21)), (5, .inr (.inl v17)), (0, .inr (.inr x0)), (1, .inl x1), (2, .inl x2), (3, .inl x3), (4, .inl x4)] [.inl (lg_cmp ((v17 * v17) + (v21 * v21)) (v25 * v25))] σ R
            refine q_ifz (q_dc k_PM_isInObstacle 87 rfl) rfl (fun h32 => ?_) (fun h32 => ?_)
            · have hV := hV.1 h32
              exact q_less (Nat.le_of_ble_eq_true rfl) (Nat.le_of_ble_eq_true rfl) (q_subk [3, 4, 5, 6, 7] rfl hV)
            · have hV := hV.2 h32
              refine q_run k_PM_isInObstacle 88 1 143 rfl ?_
              show q_G l cx M_PM_isInObstacle 0 0 0 0 143 [(9, .inr (.inl v25)), (7, .inr (.inl v21)), (5, .inr (.inl v17)), (0, .inr (.inr x0)), (1, .inl x1), (2, .inl x2), (3, .inl x3), (4, .inl x4)] [.inl (1 : Int32)] σ R
              exact q_zreturn (q_dc k_PM_isInObstacle 89 rfl) rfl (by decide) hV
          · have hV := hV.2 h16
            refine q_goto (q_dc k_PM_isInObstacle 24 rfl) rfl ?_
            exact q_less (Nat.le_of_ble_eq_true rfl) (Nat.le_of_ble_eq_true rfl) (q_subk [0, 1, 2, 3, 4] rfl hV))
  have hV := hV (by
      intro x0 x1 x2 x3 x4 σ hV
      show q_G l cx M_PM_isInObstacle 0 0 0 0 144 [(0, .inr (.inr x0)), (1, .inl x1), (2, .inl x2), (3, .inl x3), (4, .inl x4)] [] σ R
      refine q_run k_PM_isInObstacle 90 1 147 rfl ?_
      show q_G l cx M_PM_isInObstacle 0 0 0 0 147 [(4, .inl (x4 + (1 : Int32))), (0, .inr (.inr x0)), (1, .inl x1), (2, .inl x2), (3, .inl x3)] [] σ R
      refine q_let (fun v1 => q_G l cx M_PM_isInObstacle 0 0 0 0 147 [(4, .inl v1), (0, .inr (.inr x0)), (1, .inl x1), (2, .inl x2), (3, .inl x3)] [] σ R) (x4 + (1 : Int32)) (fun v1 e_v1 => ?_)
      have hV := hV v1 e_v1
      refine q_goto (q_dc k_PM_isInObstacle 91 rfl) rfl ?_
      exact q_less (Nat.le_of_ble_eq_true rfl) (Nat.le_of_ble_eq_true rfl) (q_subk [1, 2, 3, 4, 0] rfl hV))
  refine q_run k_PM_isInObstacle 0 2 3 rfl ?_
  show q_G l cx M_PM_isInObstacle 0 0 0 0 3 [(4, .inl (0 : Int32)), (0, .inr (.inr x0)), (1, .inl x1), (2, .inl x2), (3, .inl x3)] [] σ R
  exact q_less (Nat.le_of_ble_eq_true rfl) (Nat.le_of_ble_eq_true rfl) (q_subk [1, 2, 3, 4, 0] rfl hV)
def V_PM_spokeBits (x0 : Nat) (x1 : Int32) (x2 : Int32) (x3 : Int32) (σ : q_S) (R : q_O → q_S → Prop) : Prop :=
  ∀ (P128 : Int64 → q_S → Prop),
  ∀ (P156 : Int64 → q_S → Prop),
  ∀ (P185 : q_S → Prop),
  ∀ (P186 : Int64 → q_S → Prop),
  ∀ (P210 : q_S → Prop),
  ∀ (P211 : Int64 → q_S → Prop),
  (∀ (y0 : Int64) (σ : q_S), (R (.inl (some (.inr (.inl y0)))) σ) → P128 y0 σ) →
  (∀ (y0 : Int64) (σ : q_S), (R (.inl (some (.inr (.inl y0)))) σ) → P156 y0 σ) →
  (∀ (σ : q_S), (P186 (0 : Int64) σ) → P185 σ) →
  (∀ (y0 : Int64) (σ : q_S), (R (.inl (some (.inr (.inl y0)))) σ) → P186 y0 σ) →
  (∀ (σ : q_S), (P211 (0 : Int64) σ) → P210 σ) →
  (∀ (y0 : Int64) (σ : q_S), (R (.inl (some (.inr (.inl y0)))) σ) → P211 y0 σ) →
  q_K σ x0 = 7 ∧ (q_K σ (q_P σ x0 19) = 1000 ∨ q_K σ (q_P σ x0 19) = 2000) ∧ vp_in ((4 : Int32) * x1) (q_Z σ (q_P σ x0 19)) ∧ ∀ v1 : Int32, v1 = q_I σ (q_P σ x0 19) ((4 : Int32) * x1).toNatClampNeg → q_K σ x0 = 7 ∧ (q_K σ (q_P σ x0 19) = 1000 ∨ q_K σ (q_P σ x0 19) = 2000) ∧ vp_in (((4 : Int32) * x1) + (1 : Int32)) (q_Z σ (q_P σ x0 19)) ∧ ∀ v5 : Int32, v5 = q_I σ (q_P σ x0 19) (((4 : Int32) * x1) + (1 : Int32)).toNatClampNeg → q_K σ x0 = 7 ∧ (q_K σ (q_P σ x0 19) = 1000 ∨ q_K σ (q_P σ x0 19) = 2000) ∧ vp_in (((4 : Int32) * x1) + (2 : Int32)) (q_Z σ (q_P σ x0 19)) ∧ ∀ v9 : Int32, v9 = (v1 + (q_I σ (q_P σ x0 19) (((4 : Int32) * x1) + (2 : Int32)).toNatClampNeg)) - (1 : Int32) → q_K σ x0 = 7 ∧ (q_K σ (q_P σ x0 19) = 1000 ∨ q_K σ (q_P σ x0 19) = 2000) ∧ vp_in (((4 : Int32) * x1) + (3 : Int32)) (q_Z σ (q_P σ x0 19)) ∧ ∀ v13 : Int32, v13 = (v5 + (q_I σ (q_P σ x0 19) (((4 : Int32) * x1) + (3 : Int32)).toNatClampNeg)) - (1 : Int32) → q_K σ x0 = 7 ∧ (q_K σ (q_P σ x0 19) = 1000 ∨ q_K σ (q_P σ x0 19) = 2000) ∧ vp_in (((4 : Int32) * x1) + (3 : Int32)) (q_Z σ (q_P σ x0 19)) ∧ ¬ (2 : Int32) = 0 ∧ ∀ v17 : Int32, v17 = v5 + (((q_I σ (q_P σ x0 19) (((4 : Int32) * x1) + (3 : Int32)).toNatClampNeg) - (1 : Int32)) / (2 : Int32)) → q_K σ x0 = 7 ∧ (q_K σ (q_P σ x0 19) = 1000 ∨ q_K σ (q_P σ x0 19) = 2000) ∧ vp_in (((4 : Int32) * x1) + (2 : Int32)) (q_Z σ (q_P σ x0 19)) ∧ ¬ (2 : Int32) = 0 ∧ ∀ v22 : Int32, v22 = v1 + (((q_I σ (q_P σ x0 19) (((4 : Int32) * x1) + (2 : Int32)).toNatClampNeg) - (1 : Int32)) / (2 : Int32)) → q_K σ x0 = 7 ∧ (q_K σ (q_P σ x0 20) = 1000 ∨ q_K σ (q_P σ x0 20) = 2000) ∧ vp_in (1 : Int32) (q_Z σ (q_P σ x0 20)) ∧ ∀ v27 : Int32, v27 = q_I σ (q_P σ x0 20) (1 : Int32).toNatClampNeg → ((¬ x2 = (0 : Int32) → ((¬ x2 = (2 : Int32) → ((¬ x2 = (1 : Int32) → ((v5 ≤ x3 → P210  σ) ∧ (¬ (v5 ≤ x3) → ((x3 < (v5 - v27) → P210  σ) ∧ (¬ (x3 < (v5 - v27)) → P211 (f_PM_bit v22) σ))))) ∧ (¬ (¬ x2 = (1 : Int32)) → ((x3 ≤ v13 → P185  σ) ∧ (¬ (x3 ≤ v13) → (((v13 + v27) < x3 → P185  σ) ∧ (¬ ((v13 + v27) < x3) → P186 (f_PM_bit v22) σ))))))) ∧ (¬ (¬ x2 = (2 : Int32)) → ((¬ x3 = v17 → P156 (0 : Int64) σ) ∧ (¬ (¬ x3 = v17) → V_PM_span (v1 - v27) (v1 - (1 : Int32)) σ (q_cl' (fun v41 σ42 => P156 v41 σ42) (fun n9 σ9 => R (.inr n9) σ9))))))) ∧ (¬ (¬ x2 = (0 : Int32)) → ((¬ x3 = v17 → P128 (0 : Int64) σ) ∧ (¬ (¬ x3 = v17) → V_PM_span (v9 + (1 : Int32)) (v9 + v27) σ (q_cl' (fun v46 σ47 => P128 v46 σ47) (fun n9 σ9 => R (.inr n9) σ9))))))
set_option maxRecDepth 100000 in
theorem t_PM_spokeBits {l : Launch} {cx : q_C} {x0 : Nat} {x1 : Int32} {x2 : Int32} {x3 : Int32} {σ : q_S} {R : q_O → q_S → Prop} (hV : V_PM_spokeBits x0 x1 x2 x3 σ R) : q_Ct l cx M_PM_spokeBits 2 128 0 0 [q_r x0, q_i x1, q_i x2, q_i x3] σ R := by
  refine q_Ct.of p_PM_spokeBits c_PM_spokeBits rfl (Nat.le_of_ble_eq_true rfl) ?_
  have hV := hV (fun (y0 : Int64) (σ : q_S) => q_G l cx M_PM_spokeBits 2 128 0 0 128 [] [.inr (.inl y0)] σ R) (fun (y0 : Int64) (σ : q_S) => q_G l cx M_PM_spokeBits 2 128 0 0 156 [] [.inr (.inl y0)] σ R) (fun (σ : q_S) => q_G l cx M_PM_spokeBits 2 128 0 0 185 [] [] σ R) (fun (y0 : Int64) (σ : q_S) => q_G l cx M_PM_spokeBits 2 128 0 0 186 [] [.inr (.inl y0)] σ R) (fun (σ : q_S) => q_G l cx M_PM_spokeBits 2 128 0 0 210 [] [] σ R) (fun (y0 : Int64) (σ : q_S) => q_G l cx M_PM_spokeBits 2 128 0 0 211 [] [.inr (.inl y0)] σ R)
  have hV := hV (by
      intro y0 σ hV
      show q_G l cx M_PM_spokeBits 2 128 0 0 128 [] [.inr (.inl y0)] σ R
      exact q_lreturn (q_dc k_PM_spokeBits 91 rfl) rfl hV)
  have hV := hV (by
      intro y0 σ hV
      show q_G l cx M_PM_spokeBits 2 128 0 0 156 [] [.inr (.inl y0)] σ R
      exact q_lreturn (q_dc k_PM_spokeBits 107 rfl) rfl hV)
  have hV := hV (by
      intro σ hV
      show q_G l cx M_PM_spokeBits 2 128 0 0 185 [] [] σ R
      refine q_run k_PM_spokeBits 122 1 186 rfl ?_
      show q_G l cx M_PM_spokeBits 2 128 0 0 186 [] [.inr (.inl (0 : Int64))] σ R
      exact q_less (Nat.le_of_ble_eq_true rfl) (Nat.le_of_ble_eq_true rfl) (q_subk [] rfl hV))
  have hV := hV (by
      intro y0 σ hV
      show q_G l cx M_PM_spokeBits 2 128 0 0 186 [] [.inr (.inl y0)] σ R
      exact q_lreturn (q_dc k_PM_spokeBits 123 rfl) rfl hV)
  have hV := hV (by
      intro σ hV
      show q_G l cx M_PM_spokeBits 2 128 0 0 210 [] [] σ R
      refine q_run k_PM_spokeBits 135 1 211 rfl ?_
      show q_G l cx M_PM_spokeBits 2 128 0 0 211 [] [.inr (.inl (0 : Int64))] σ R
      exact q_less (Nat.le_of_ble_eq_true rfl) (Nat.le_of_ble_eq_true rfl) (q_subk [] rfl hV))
  have hV := hV (by
      intro y0 σ hV
      show q_G l cx M_PM_spokeBits 2 128 0 0 211 [] [.inr (.inl y0)] σ R
      exact q_lreturn (q_dc k_PM_spokeBits 136 rfl) rfl hV)
  refine q_run k_PM_spokeBits 0 7 10 rfl ?_
  show q_K σ x0 = 7 ∧ (q_K σ (q_P σ x0 19) = 1000 ∨ q_K σ (q_P σ x0 19) = 2000) ∧ vp_in ((4 : Int32) * x1) (q_Z σ (q_P σ x0 19)) ∧ q_G l cx M_PM_spokeBits 2 128 0 0 10 [(4, .inl (q_I σ (q_P σ x0 19) ((4 : Int32) * x1).toNatClampNeg)), (0, .inr (.inr x0)), (1, .inl x1), (2, .inl x2), (3, .inl x3)] [] σ R
  obtain ⟨s2, s3, s4, hV⟩ := hV
  refine ⟨s2, s3, s4, ?_⟩
  refine q_let (fun v1 => q_G l cx M_PM_spokeBits 2 128 0 0 10 [(4, .inl v1), (0, .inr (.inr x0)), (1, .inl x1), (2, .inl x2), (3, .inl x3)] [] σ R) (q_I σ (q_P σ x0 19) ((4 : Int32) * x1).toNatClampNeg) (fun v1 e_v1 => ?_)
  have hV := hV v1 e_v1
  refine q_run k_PM_spokeBits 7 9 22 rfl ?_
  show q_K σ x0 = 7 ∧ (q_K σ (q_P σ x0 19) = 1000 ∨ q_K σ (q_P σ x0 19) = 2000) ∧ vp_in (((4 : Int32) * x1) + (1 : Int32)) (q_Z σ (q_P σ x0 19)) ∧ q_G l cx M_PM_spokeBits 2 128 0 0 22 [(5, .inl (q_I σ (q_P σ x0 19) (((4 : Int32) * x1) + (1 : Int32)).toNatClampNeg)), (4, .inl v1), (0, .inr (.inr x0)), (1, .inl x1), (2, .inl x2), (3, .inl x3)] [] σ R
  obtain ⟨s6, s7, s8, hV⟩ := hV
  refine ⟨s6, s7, s8, ?_⟩
  refine q_let (fun v5 => q_G l cx M_PM_spokeBits 2 128 0 0 22 [(5, .inl v5), (4, .inl v1), (0, .inr (.inr x0)), (1, .inl x1), (2, .inl x2), (3, .inl x3)] [] σ R) (q_I σ (q_P σ x0 19) (((4 : Int32) * x1) + (1 : Int32)).toNatClampNeg) (fun v5 e_v5 => ?_)
  have hV := hV v5 e_v5
  refine q_run k_PM_spokeBits 16 13 39 rfl ?_
  show q_K σ x0 = 7 ∧ (q_K σ (q_P σ x0 19) = 1000 ∨ q_K σ (q_P σ x0 19) = 2000) ∧ vp_in (((4 : Int32) * x1) + (2 : Int32)) (q_Z σ (q_P σ x0 19)) ∧ q_G l cx M_PM_spokeBits 2 128 0 0 39 [(6, .inl ((v1 + (q_I σ (q_P σ x0 19) (((4 : Int32) * x1) + (2 : Int32)).toNatClampNeg)) - (1 : Int32))), (5, .inl v5), (4, .inl v1), (0, .inr (.inr x0)), (1, .inl x1), (2, .inl x2), (3, .inl x3)] [] σ R
  obtain ⟨s10, s11, s12, hV⟩ := hV
  refine ⟨s10, s11, s12, ?_⟩
  refine q_let (fun v9 => q_G l cx M_PM_spokeBits 2 128 0 0 39 [(6, .inl v9), (5, .inl v5), (4, .inl v1), (0, .inr (.inr x0)), (1, .inl x1), (2, .inl x2), (3, .inl x3)] [] σ R) ((v1 + (q_I σ (q_P σ x0 19) (((4 : Int32) * x1) + (2 : Int32)).toNatClampNeg)) - (1 : Int32)) (fun v9 e_v9 => ?_)
  have hV := hV v9 e_v9
  refine q_run k_PM_spokeBits 29 13 56 rfl ?_
  show q_K σ x0 = 7 ∧ (q_K σ (q_P σ x0 19) = 1000 ∨ q_K σ (q_P σ x0 19) = 2000) ∧ vp_in (((4 : Int32) * x1) + (3 : Int32)) (q_Z σ (q_P σ x0 19)) ∧ q_G l cx M_PM_spokeBits 2 128 0 0 56 [(7, .inl ((v5 + (q_I σ (q_P σ x0 19) (((4 : Int32) * x1) + (3 : Int32)).toNatClampNeg)) - (1 : Int32))), (6, .inl v9), (5, .inl v5), (4, .inl v1), (0, .inr (.inr x0)), (1, .inl x1), (2, .inl x2), (3, .inl x3)] [] σ R
  obtain ⟨s14, s15, s16, hV⟩ := hV
  refine ⟨s14, s15, s16, ?_⟩
  refine q_let (fun v13 => q_G l cx M_PM_spokeBits 2 128 0 0 56 [(7, .inl v13), (6, .inl v9), (5, .inl v5), (4, .inl v1), (0, .inr (.inr x0)), (1, .inl x1), (2, .inl x2), (3, .inl x3)] [] σ R) ((v5 + (q_I σ (q_P σ x0 19) (((4 : Int32) * x1) + (3 : Int32)).toNatClampNeg)) - (1 : Int32)) (fun v13 e_v13 => ?_)
  have hV := hV v13 e_v13
  refine q_run k_PM_spokeBits 42 15 75 rfl ?_
  show q_K σ x0 = 7 ∧ (q_K σ (q_P σ x0 19) = 1000 ∨ q_K σ (q_P σ x0 19) = 2000) ∧ vp_in (((4 : Int32) * x1) + (3 : Int32)) (q_Z σ (q_P σ x0 19)) ∧ ¬ (2 : Int32) = 0 ∧ q_G l cx M_PM_spokeBits 2 128 0 0 75 [(8, .inl (v5 + (((q_I σ (q_P σ x0 19) (((4 : Int32) * x1) + (3 : Int32)).toNatClampNeg) - (1 : Int32)) / (2 : Int32)))), (7, .inl v13), (6, .inl v9), (5, .inl v5), (4, .inl v1), (0, .inr (.inr x0)), (1, .inl x1), (2, .inl x2), (3, .inl x3)] [] σ R
  obtain ⟨s18, s19, s20, s21, hV⟩ := hV
  refine ⟨s18, s19, s20, s21, ?_⟩
  refine q_let (fun v17 => q_G l cx M_PM_spokeBits 2 128 0 0 75 [(8, .inl v17), (7, .inl v13), (6, .inl v9), (5, .inl v5), (4, .inl v1), (0, .inr (.inr x0)), (1, .inl x1), (2, .inl x2), (3, .inl x3)] [] σ R) (v5 + (((q_I σ (q_P σ x0 19) (((4 : Int32) * x1) + (3 : Int32)).toNatClampNeg) - (1 : Int32)) / (2 : Int32))) (fun v17 e_v17 => ?_)
  have hV := hV v17 e_v17
  refine q_run k_PM_spokeBits 57 15 94 rfl ?_
  show q_K σ x0 = 7 ∧ (q_K σ (q_P σ x0 19) = 1000 ∨ q_K σ (q_P σ x0 19) = 2000) ∧ vp_in (((4 : Int32) * x1) + (2 : Int32)) (q_Z σ (q_P σ x0 19)) ∧ ¬ (2 : Int32) = 0 ∧ q_G l cx M_PM_spokeBits 2 128 0 0 94 [(9, .inl (v1 + (((q_I σ (q_P σ x0 19) (((4 : Int32) * x1) + (2 : Int32)).toNatClampNeg) - (1 : Int32)) / (2 : Int32)))), (8, .inl v17), (7, .inl v13), (6, .inl v9), (5, .inl v5), (4, .inl v1), (0, .inr (.inr x0)), (1, .inl x1), (2, .inl x2), (3, .inl x3)] [] σ R
  obtain ⟨s23, s24, s25, s26, hV⟩ := hV
  refine ⟨s23, s24, s25, s26, ?_⟩
  refine q_let (fun v22 => q_G l cx M_PM_spokeBits 2 128 0 0 94 [(9, .inl v22), (8, .inl v17), (7, .inl v13), (6, .inl v9), (5, .inl v5), (4, .inl v1), (0, .inr (.inr x0)), (1, .inl x1), (2, .inl x2), (3, .inl x3)] [] σ R) (v1 + (((q_I σ (q_P σ x0 19) (((4 : Int32) * x1) + (2 : Int32)).toNatClampNeg) - (1 : Int32)) / (2 : Int32))) (fun v22 e_v22 => ?_)
  have hV := hV v22 e_v22
  refine q_run k_PM_spokeBits 72 5 102 rfl ?_
  show q_K σ x0 = 7 ∧ (q_K σ (q_P σ x0 20) = 1000 ∨ q_K σ (q_P σ x0 20) = 2000) ∧ vp_in (1 : Int32) (q_Z σ (q_P σ x0 20)) ∧ q_G l cx M_PM_spokeBits 2 128 0 0 102 [(10, .inl (q_I σ (q_P σ x0 20) (1 : Int32).toNatClampNeg)), (9, .inl v22), (8, .inl v17), (7, .inl v13), (6, .inl v9), (5, .inl v5), (4, .inl v1), (0, .inr (.inr x0)), (1, .inl x1), (2, .inl x2), (3, .inl x3)] [] σ R
  obtain ⟨s28, s29, s30, hV⟩ := hV
  refine ⟨s28, s29, s30, ?_⟩
  refine q_let (fun v27 => q_G l cx M_PM_spokeBits 2 128 0 0 102 [(10, .inl v27), (9, .inl v22), (8, .inl v17), (7, .inl v13), (6, .inl v9), (5, .inl v5), (4, .inl v1), (0, .inr (.inr x0)), (1, .inl x1), (2, .inl x2), (3, .inl x3)] [] σ R) (q_I σ (q_P σ x0 20) (1 : Int32).toNatClampNeg) (fun v27 e_v27 => ?_)
  have hV := hV v27 e_v27
  refine q_run k_PM_spokeBits 77 1 103 rfl ?_
  show q_G l cx M_PM_spokeBits 2 128 0 0 103 [(10, .inl v27), (9, .inl v22), (8, .inl v17), (7, .inl v13), (6, .inl v9), (5, .inl v5), (4, .inl v1), (0, .inr (.inr x0)), (1, .inl x1), (2, .inl x2), (3, .inl x3)] [.inl x2] σ R
  refine q_ifz (q_dc k_PM_spokeBits 78 rfl) rfl (fun h31 => ?_) (fun h31 => ?_)
  · have hV := hV.1 h31
    refine q_run k_PM_spokeBits 92 2 131 rfl ?_
    show q_G l cx M_PM_spokeBits 2 128 0 0 131 [(10, .inl v27), (9, .inl v22), (8, .inl v17), (7, .inl v13), (6, .inl v9), (5, .inl v5), (4, .inl v1), (0, .inr (.inr x0)), (1, .inl x1), (2, .inl x2), (3, .inl x3)] [.inl (2 : Int32), .inl x2] σ R
    refine q_icmp (q_dc k_PM_spokeBits 94 rfl) rfl (fun h32 => ?_) (fun h32 => ?_)
    · have hV := hV.1 h32
      refine q_run k_PM_spokeBits 108 2 159 rfl ?_
      show q_G l cx M_PM_spokeBits 2 128 0 0 159 [(10, .inl v27), (9, .inl v22), (8, .inl v17), (7, .inl v13), (6, .inl v9), (5, .inl v5), (4, .inl v1), (0, .inr (.inr x0)), (1, .inl x1), (2, .inl x2), (3, .inl x3)] [.inl (1 : Int32), .inl x2] σ R
      refine q_icmp (q_dc k_PM_spokeBits 110 rfl) rfl (fun h33 => ?_) (fun h33 => ?_)
      · have hV := hV.1 h33
        refine q_run k_PM_spokeBits 124 2 190 rfl ?_
        show q_G l cx M_PM_spokeBits 2 128 0 0 190 [(10, .inl v27), (9, .inl v22), (8, .inl v17), (7, .inl v13), (6, .inl v9), (5, .inl v5), (4, .inl v1), (0, .inr (.inr x0)), (1, .inl x1), (2, .inl x2), (3, .inl x3)] [.inl v5, .inl x3] σ R
        refine q_icmp (q_dc k_PM_spokeBits 126 rfl) rfl (fun h34 => ?_) (fun h34 => ?_)
        · have hV := hV.1 h34
          exact q_less (Nat.le_of_ble_eq_true rfl) (Nat.le_of_ble_eq_true rfl) (q_subk [] rfl hV)
        · have hV := hV.2 h34
          refine q_run k_PM_spokeBits 127 4 199 rfl ?_
          show q_G l cx M_PM_spokeBits 2 128 0 0 199 [(10, .inl v27), (9, .inl v22), (8, .inl v17), (7, .inl v13), (6, .inl v9), (5, .inl v5), (4, .inl v1), (0, .inr (.inr x0)), (1, .inl x1), (2, .inl x2), (3, .inl x3)] [.inl (v5 - v27), .inl x3] σ R
          refine q_icmp (q_dc k_PM_spokeBits 131 rfl) rfl (fun h35 => ?_) (fun h35 => ?_)
          · have hV := hV.1 h35
            exact q_less (Nat.le_of_ble_eq_true rfl) (Nat.le_of_ble_eq_true rfl) (q_subk [] rfl hV)
          · have hV := hV.2 h35
            refine q_run k_PM_spokeBits 132 1 204 rfl ?_
            show q_G l cx M_PM_spokeBits 2 128 0 0 204 [(10, .inl v27), (9, .inl v22), (8, .inl v17), (7, .inl v13), (6, .inl v9), (5, .inl v5), (4, .inl v1), (0, .inr (.inr x0)), (1, .inl x1), (2, .inl x2), (3, .inl x3)] [.inl v22] σ R
            refine q_callS (st := []) (t_PM_bit (l := l) (cx := cx) (σ := σ) v22) (q_dc k_PM_spokeBits 133 rfl) (Or.inl (List.mem_of_getElem? (i := 1007) (by decide +kernel))) w_PM_bit s_PM_bit a_PM_bit (q_wt (Nat.le_of_ble_eq_true rfl)) ⟨Nat.le_of_ble_eq_true rfl, Nat.le_of_ble_eq_true rfl⟩ (fun v9 τ9 q9 => ?_) (fun n9 τ9 q9 => by cases q9.1)
            obtain ⟨q8, q7⟩ := q9
            cases q8
            rw [q7]
            show q_G l cx M_PM_spokeBits 2 128 0 0 207 [(10, .inl v27), (9, .inl v22), (8, .inl v17), (7, .inl v13), (6, .inl v9), (5, .inl v5), (4, .inl v1), (0, .inr (.inr x0)), (1, .inl x1), (2, .inl x2), (3, .inl x3)] [.inr (.inl (f_PM_bit v22))] σ R
            refine q_goto (q_dc k_PM_spokeBits 134 rfl) rfl ?_
            exact q_less (Nat.le_of_ble_eq_true rfl) (Nat.le_of_ble_eq_true rfl) (q_subk [] rfl hV)
      · have hV := hV.2 h33
        refine q_run k_PM_spokeBits 111 2 165 rfl ?_
        show q_G l cx M_PM_spokeBits 2 128 0 0 165 [(10, .inl v27), (9, .inl v22), (8, .inl v17), (7, .inl v13), (6, .inl v9), (5, .inl v5), (4, .inl v1), (0, .inr (.inr x0)), (1, .inl x1), (2, .inl x2), (3, .inl x3)] [.inl v13, .inl x3] σ R
        refine q_icmp (q_dc k_PM_spokeBits 113 rfl) rfl (fun h36 => ?_) (fun h36 => ?_)
        · have hV := hV.1 h36
          exact q_less (Nat.le_of_ble_eq_true rfl) (Nat.le_of_ble_eq_true rfl) (q_subk [] rfl hV)
        · have hV := hV.2 h36
          refine q_run k_PM_spokeBits 114 4 174 rfl ?_
          show q_G l cx M_PM_spokeBits 2 128 0 0 174 [(10, .inl v27), (9, .inl v22), (8, .inl v17), (7, .inl v13), (6, .inl v9), (5, .inl v5), (4, .inl v1), (0, .inr (.inr x0)), (1, .inl x1), (2, .inl x2), (3, .inl x3)] [.inl (v13 + v27), .inl x3] σ R
          refine q_icmp (q_dc k_PM_spokeBits 118 rfl) rfl (fun h37 => ?_) (fun h37 => ?_)
          · have hV := hV.1 h37
            exact q_less (Nat.le_of_ble_eq_true rfl) (Nat.le_of_ble_eq_true rfl) (q_subk [] rfl hV)
          · have hV := hV.2 h37
            refine q_run k_PM_spokeBits 119 1 179 rfl ?_
            show q_G l cx M_PM_spokeBits 2 128 0 0 179 [(10, .inl v27), (9, .inl v22), (8, .inl v17), (7, .inl v13), (6, .inl v9), (5, .inl v5), (4, .inl v1), (0, .inr (.inr x0)), (1, .inl x1), (2, .inl x2), (3, .inl x3)] [.inl v22] σ R
            refine q_callS (st := []) (t_PM_bit (l := l) (cx := cx) (σ := σ) v22) (q_dc k_PM_spokeBits 120 rfl) (Or.inl (List.mem_of_getElem? (i := 1007) (by decide +kernel))) w_PM_bit s_PM_bit a_PM_bit (q_wt (Nat.le_of_ble_eq_true rfl)) ⟨Nat.le_of_ble_eq_true rfl, Nat.le_of_ble_eq_true rfl⟩ (fun v9 τ9 q9 => ?_) (fun n9 τ9 q9 => by cases q9.1)
            obtain ⟨q8, q7⟩ := q9
            cases q8
            rw [q7]
            show q_G l cx M_PM_spokeBits 2 128 0 0 182 [(10, .inl v27), (9, .inl v22), (8, .inl v17), (7, .inl v13), (6, .inl v9), (5, .inl v5), (4, .inl v1), (0, .inr (.inr x0)), (1, .inl x1), (2, .inl x2), (3, .inl x3)] [.inr (.inl (f_PM_bit v22))] σ R
            refine q_goto (q_dc k_PM_spokeBits 121 rfl) rfl ?_
            exact q_less (Nat.le_of_ble_eq_true rfl) (Nat.le_of_ble_eq_true rfl) (q_subk [] rfl hV)
    · have hV := hV.2 h32
      refine q_run k_PM_spokeBits 95 2 137 rfl ?_
      show q_G l cx M_PM_spokeBits 2 128 0 0 137 [(10, .inl v27), (9, .inl v22), (8, .inl v17), (7, .inl v13), (6, .inl v9), (5, .inl v5), (4, .inl v1), (0, .inr (.inr x0)), (1, .inl x1), (2, .inl x2), (3, .inl x3)] [.inl v17, .inl x3] σ R
      refine q_icmp (q_dc k_PM_spokeBits 97 rfl) rfl (fun h38 => ?_) (fun h38 => ?_)
      · have hV := hV.1 h38
        refine q_run k_PM_spokeBits 106 1 156 rfl ?_
        show q_G l cx M_PM_spokeBits 2 128 0 0 156 [(10, .inl v27), (9, .inl v22), (8, .inl v17), (7, .inl v13), (6, .inl v9), (5, .inl v5), (4, .inl v1), (0, .inr (.inr x0)), (1, .inl x1), (2, .inl x2), (3, .inl x3)] [.inr (.inl (0 : Int64))] σ R
        exact q_less (Nat.le_of_ble_eq_true rfl) (Nat.le_of_ble_eq_true rfl) (q_subk [] rfl hV)
      · have hV := hV.2 h38
        refine q_run k_PM_spokeBits 98 6 149 rfl ?_
        show q_G l cx M_PM_spokeBits 2 128 0 0 149 [(10, .inl v27), (9, .inl v22), (8, .inl v17), (7, .inl v13), (6, .inl v9), (5, .inl v5), (4, .inl v1), (0, .inr (.inr x0)), (1, .inl x1), (2, .inl x2), (3, .inl x3)] [.inl (v1 - (1 : Int32)), .inl (v1 - v27)] σ R
        refine q_callS (st := []) (t_PM_span (l := l) (cx := cx)  hV) (q_dc k_PM_spokeBits 104 rfl) (Or.inl (List.mem_of_getElem? (i := 1016) (by decide +kernel))) w_PM_span s_PM_span a_PM_span (q_wt (Nat.le_of_ble_eq_true rfl)) ⟨Nat.le_of_ble_eq_true rfl, Nat.le_of_ble_eq_true rfl⟩ (fun v9 τ9 q9 => ?_) (fun n9 τ9 q9 => q_T.leave rfl q9)
        obtain ⟨v41, rfl, hV⟩ := q_cl_elim q9
        clear q9
        have hV := hV
        revert hV
        generalize τ9 = σ42
        intro hV
        show q_G l cx M_PM_spokeBits 2 128 0 0 152 [(10, .inl v27), (9, .inl v22), (8, .inl v17), (7, .inl v13), (6, .inl v9), (5, .inl v5), (4, .inl v1), (0, .inr (.inr x0)), (1, .inl x1), (2, .inl x2), (3, .inl x3)] [.inr (.inl v41)] σ42 R
        refine q_goto (q_dc k_PM_spokeBits 105 rfl) rfl ?_
        exact q_less (Nat.le_of_ble_eq_true rfl) (Nat.le_of_ble_eq_true rfl) (q_subk [] rfl hV)
  · have hV := hV.2 h31
    refine q_run k_PM_spokeBits 79 2 109 rfl ?_
    show q_G l cx M_PM_spokeBits 2 128 0 0 109 [(10, .inl v27), (9, .inl v22), (8, .inl v17), (7, .inl v13), (6, .inl v9), (5, .inl v5), (4, .inl v1), (0, .inr (.inr x0)), (1, .inl x1), (2, .inl x2), (3, .inl x3)] [.inl v17, .inl x3] σ R
    refine q_icmp (q_dc k_PM_spokeBits 81 rfl) rfl (fun h43 => ?_) (fun h43 => ?_)
    · have hV := hV.1 h43
      refine q_run k_PM_spokeBits 90 1 128 rfl ?_
      show q_G l cx M_PM_spokeBits 2 128 0 0 128 [(10, .inl v27), (9, .inl v22), (8, .inl v17), (7, .inl v13), (6, .inl v9), (5, .inl v5), (4, .inl v1), (0, .inr (.inr x0)), (1, .inl x1), (2, .inl x2), (3, .inl x3)] [.inr (.inl (0 : Int64))] σ R
      exact q_less (Nat.le_of_ble_eq_true rfl) (Nat.le_of_ble_eq_true rfl) (q_subk [] rfl hV)
    · have hV := hV.2 h43
      refine q_run k_PM_spokeBits 82 6 121 rfl ?_
      show q_G l cx M_PM_spokeBits 2 128 0 0 121 [(10, .inl v27), (9, .inl v22), (8, .inl v17), (7, .inl v13), (6, .inl v9), (5, .inl v5), (4, .inl v1), (0, .inr (.inr x0)), (1, .inl x1), (2, .inl x2), (3, .inl x3)] [.inl (v9 + v27), .inl (v9 + (1 : Int32))] σ R
      refine q_callS (st := []) (t_PM_span (l := l) (cx := cx)  hV) (q_dc k_PM_spokeBits 88 rfl) (Or.inl (List.mem_of_getElem? (i := 1016) (by decide +kernel))) w_PM_span s_PM_span a_PM_span (q_wt (Nat.le_of_ble_eq_true rfl)) ⟨Nat.le_of_ble_eq_true rfl, Nat.le_of_ble_eq_true rfl⟩ (fun v9 τ9 q9 => ?_) (fun n9 τ9 q9 => q_T.leave rfl q9)
      obtain ⟨v46, rfl, hV⟩ := q_cl_elim q9
      clear q9
      have hV := hV
      revert hV
      generalize τ9 = σ47
      intro hV
      show q_G l cx M_PM_spokeBits 2 128 0 0 124 [(10, .inl v27), (9, .inl v22), (8, .inl v17), (7, .inl v13), (6, .inl v9), (5, .inl v5), (4, .inl v1), (0, .inr (.inr x0)), (1, .inl x1), (2, .inl x2), (3, .inl x3)] [.inr (.inl v46)] σ47 R
      refine q_goto (q_dc k_PM_spokeBits 89 rfl) rfl ?_
      exact q_less (Nat.le_of_ble_eq_true rfl) (Nat.le_of_ble_eq_true rfl) (q_subk [] rfl hV)
def V_PM_barredByPad (x0 : Nat) (x1 : Int32) (x2 : Int32) (x3 : Int32) (σ : q_S) (R : q_O → q_S → Prop) : Prop :=
  ∀ (P103 : Nat → Int32 → Int32 → Int32 → Int32 → Int32 → Int32 → Int32 → Int32 → q_S → Prop),
  ∀ (P173 : Nat → Int32 → Int32 → Int64 → Int32 → q_S → Prop),
  (∀ (x0 : Nat) (x1 : Int32) (x2 : Int32) (x3 : Int32) (x4 : Int32) (x5 : Int32) (x6 : Int32) (x7 : Int32) (y0 : Int32) (σ : q_S), (V_PM_rectangle (x4 - y0) (x5 - y0) (x6 + y0) (x7 + y0) x3 σ (q_cl' (fun v3 σ4 => q_K σ4 x0 = 7 ∧ (q_K σ4 (q_P σ4 x0 17) = 1000 ∨ q_K σ4 (q_P σ4 x0 17) = 2000) ∧ vp_in x2 (q_Z σ4 (q_P σ4 x0 17)) ∧ q_K σ4 x0 = 7 ∧ (q_K σ4 (q_P σ4 x0 3) = 1000 ∨ q_K σ4 (q_P σ4 x0 3) = 2000) ∧ vp_in x1 (q_Z σ4 (q_P σ4 x0 3)) ∧ (((q_I σ4 (q_P σ4 x0 17) x2.toNatClampNeg) = (q_I σ4 (q_P σ4 x0 3) x1.toNatClampNeg) → V_PM_rectangle x4 x5 x6 x7 x3 σ4 (q_cl' (fun v14 σ15 => ∀ v16 : Int64, v16 = v3 &&& (v14 ^^^ (-1 : Int64)) → P173 x0 x2 x3 v16 (0 : Int32) σ15) (fun n9 σ9 => R (.inr n9) σ9))) ∧ (¬ ((q_I σ4 (q_P σ4 x0 17) x2.toNatClampNeg) = (q_I σ4 (q_P σ4 x0 3) x1.toNatClampNeg)) → R (.inl (some (.inr (.inl v3)))) σ4))) (fun n9 σ9 => R (.inr n9) σ9))) → P103 x0 x1 x2 x3 x4 x5 x6 x7 y0 σ) →
  (∀ (x0 : Nat) (x2 : Int32) (x3 : Int32) (x9 : Int64) (x11 : Int32) (σ : q_S), ((((4 : Int32) ≤ x11 → R (.inl (some (.inr (.inl x9)))) σ) ∧ (¬ ((4 : Int32) ≤ x11) → q_K σ x0 = 7 ∧ V_PM_spokeBits x0 x2 x11 x3 σ (q_cl' (fun v5 σ6 => ∀ v7 : Int64, v7 = x9 &&& (v5 ^^^ (-1 : Int64)) → ∀ v8 : Int32, v8 = x11 + (1 : Int32) → P173 x0 x2 x3 v7 v8 σ6) (fun n9 σ9 => R (.inr n9) σ9))))) → P173 x0 x2 x3 x9 x11 σ) →
  q_K σ x0 = 7 ∧ (q_K σ (q_P σ x0 18) = 1000 ∨ q_K σ (q_P σ x0 18) = 2000) ∧ vp_in x2 (q_Z σ (q_P σ x0 18)) ∧ q_K σ x0 = 7 ∧ (q_K σ (q_P σ x0 4) = 1000 ∨ q_K σ (q_P σ x0 4) = 2000) ∧ vp_in x1 (q_Z σ (q_P σ x0 4)) ∧ (((q_I σ (q_P σ x0 18) x2.toNatClampNeg) = (q_I σ (q_P σ x0 4) x1.toNatClampNeg) → q_K σ x0 = 7 ∧ (q_K σ (q_P σ x0 19) = 1000 ∨ q_K σ (q_P σ x0 19) = 2000) ∧ vp_in ((4 : Int32) * x2) (q_Z σ (q_P σ x0 19)) ∧ ∀ v8 : Int32, v8 = q_I σ (q_P σ x0 19) ((4 : Int32) * x2).toNatClampNeg → q_K σ x0 = 7 ∧ (q_K σ (q_P σ x0 19) = 1000 ∨ q_K σ (q_P σ x0 19) = 2000) ∧ vp_in (((4 : Int32) * x2) + (1 : Int32)) (q_Z σ (q_P σ x0 19)) ∧ ∀ v12 : Int32, v12 = q_I σ (q_P σ x0 19) (((4 : Int32) * x2) + (1 : Int32)).toNatClampNeg → q_K σ x0 = 7 ∧ (q_K σ (q_P σ x0 19) = 1000 ∨ q_K σ (q_P σ x0 19) = 2000) ∧ vp_in (((4 : Int32) * x2) + (2 : Int32)) (q_Z σ (q_P σ x0 19)) ∧ ∀ v16 : Int32, v16 = (v8 + (q_I σ (q_P σ x0 19) (((4 : Int32) * x2) + (2 : Int32)).toNatClampNeg)) - (1 : Int32) → q_K σ x0 = 7 ∧ (q_K σ (q_P σ x0 19) = 1000 ∨ q_K σ (q_P σ x0 19) = 2000) ∧ vp_in (((4 : Int32) * x2) + (3 : Int32)) (q_Z σ (q_P σ x0 19)) ∧ ∀ v20 : Int32, v20 = (v12 + (q_I σ (q_P σ x0 19) (((4 : Int32) * x2) + (3 : Int32)).toNatClampNeg)) - (1 : Int32) → q_K σ x0 = 7 ∧ (q_K σ (q_P σ x0 17) = 1000 ∨ q_K σ (q_P σ x0 17) = 2000) ∧ vp_in x2 (q_Z σ (q_P σ x0 17)) ∧ q_K σ x0 = 7 ∧ (q_K σ (q_P σ x0 3) = 1000 ∨ q_K σ (q_P σ x0 3) = 2000) ∧ vp_in x1 (q_Z σ (q_P σ x0 3)) ∧ ((¬ (q_I σ (q_P σ x0 17) x2.toNatClampNeg) = (q_I σ (q_P σ x0 3) x1.toNatClampNeg) → q_K σ x0 = 7 ∧ (q_K σ (q_P σ x0 20) = 1000 ∨ q_K σ (q_P σ x0 20) = 2000) ∧ vp_in (0 : Int32) (q_Z σ (q_P σ x0 20)) ∧ P103 x0 x1 x2 x3 v8 v12 v16 v20 (q_I σ (q_P σ x0 20) (0 : Int32).toNatClampNeg) σ) ∧ (¬ (¬ (q_I σ (q_P σ x0 17) x2.toNatClampNeg) = (q_I σ (q_P σ x0 3) x1.toNatClampNeg)) → q_K σ x0 = 7 ∧ (q_K σ (q_P σ x0 20) = 1000 ∨ q_K σ (q_P σ x0 20) = 2000) ∧ vp_in (1 : Int32) (q_Z σ (q_P σ x0 20)) ∧ P103 x0 x1 x2 x3 v8 v12 v16 v20 (q_I σ (q_P σ x0 20) (1 : Int32).toNatClampNeg) σ))) ∧ (¬ ((q_I σ (q_P σ x0 18) x2.toNatClampNeg) = (q_I σ (q_P σ x0 4) x1.toNatClampNeg)) → R (.inl (some (.inr (.inl (0 : Int64))))) σ))
set_option maxRecDepth 100000 in
theorem t_PM_barredByPad {l : Launch} {cx : q_C} {x0 : Nat} {x1 : Int32} {x2 : Int32} {x3 : Int32} {σ : q_S} {R : q_O → q_S → Prop} (hV : V_PM_barredByPad x0 x1 x2 x3 σ R) : q_Ct l cx M_PM_barredByPad 3 192 0 0 [q_r x0, q_i x1, q_i x2, q_i x3] σ R := by
  refine q_Ct.of p_PM_barredByPad c_PM_barredByPad rfl (Nat.le_of_ble_eq_true rfl) ?_
  have hV := hV (fun (x0 : Nat) (x1 : Int32) (x2 : Int32) (x3 : Int32) (x4 : Int32) (x5 : Int32) (x6 : Int32) (x7 : Int32) (y0 : Int32) (σ : q_S) => q_G l cx M_PM_barredByPad 3 192 0 0 103 [(0, .inr (.inr x0)), (1, .inl x1), (2, .inl x2), (3, .inl x3), (4, .inl x4), (5, .inl x5), (6, .inl x6), (7, .inl x7)] [.inl y0] σ R) (fun (x0 : Nat) (x2 : Int32) (x3 : Int32) (x9 : Int64) (x11 : Int32) (σ : q_S) => q_G l cx M_PM_barredByPad 3 192 0 0 173 [(0, .inr (.inr x0)), (2, .inl x2), (3, .inl x3), (9, .inr (.inl x9)), (11, .inl x11)] [] σ R)
  have hV := hV (by
      intro x0 x1 x2 x3 x4 x5 x6 x7 y0 σ hV
      show q_G l cx M_PM_barredByPad 3 192 0 0 103 [(0, .inr (.inr x0)), (1, .inl x1), (2, .inl x2), (3, .inl x3), (4, .inl x4), (5, .inl x5), (6, .inl x6), (7, .inl x7)] [.inl y0] σ R
      refine q_run k_PM_barredByPad 71 14 126 rfl ?_
      show q_G l cx M_PM_barredByPad 3 192 0 0 126 [(8, .inl y0), (0, .inr (.inr x0)), (1, .inl x1), (2, .inl x2), (3, .inl x3), (4, .inl x4), (5, .inl x5), (6, .inl x6), (7, .inl x7)] [.inl x3, .inl (x7 + y0), .inl (x6 + y0), .inl (x5 - y0), .inl (x4 - y0)] σ R
      refine q_callS (st := []) (t_PM_rectangle (l := l) (cx := cx)  hV) (q_dc k_PM_barredByPad 85 rfl) (Or.inl (List.mem_of_getElem? (i := 1013) (by decide +kernel))) w_PM_rectangle s_PM_rectangle a_PM_rectangle (q_wt (Nat.le_of_ble_eq_true rfl)) ⟨Nat.le_of_ble_eq_true rfl, Nat.le_of_ble_eq_true rfl⟩ (fun v9 τ9 q9 => ?_) (fun n9 τ9 q9 => q_T.leave rfl q9)
      obtain ⟨v3, rfl, hV⟩ := q_cl_elim q9
      clear q9
      have hV := hV
      revert hV
      generalize τ9 = σ4
      intro hV
      show q_G l cx M_PM_barredByPad 3 192 0 0 129 [(8, .inl y0), (0, .inr (.inr x0)), (1, .inl x1), (2, .inl x2), (3, .inl x3), (4, .inl x4), (5, .inl x5), (6, .inl x6), (7, .inl x7)] [.inr (.inl v3)] σ4 R
      refine q_run k_PM_barredByPad 86 9 143 rfl ?_
      show q_K σ4 x0 = 7 ∧ (q_K σ4 (q_P σ4 x0 17) = 1000 ∨ q_K σ4 (q_P σ4 x0 17) = 2000) ∧ vp_in x2 (q_Z σ4 (q_P σ4 x0 17)) ∧ q_K σ4 x0 = 7 ∧ (q_K σ4 (q_P σ4 x0 3) = 1000 ∨ q_K σ4 (q_P σ4 x0 3) = 2000) ∧ vp_in x1 (q_Z σ4 (q_P σ4 x0 3)) ∧ q_G l cx M_PM_barredByPad 3 192 0 0 143 [(9, .inr (.inl v3)), (8, .inl y0), (0, .inr (.inr x0)), (1, .inl x1), (2, .inl x2), (3, .inl x3), (4, .inl x4), (5, .inl x5), (6, .inl x6), (7, .inl x7)] [.inl (q_I σ4 (q_P σ4 x0 3) x1.toNatClampNeg), .inl (q_I σ4 (q_P σ4 x0 17) x2.toNatClampNeg)] σ4 R
      obtain ⟨s5, s6, s7, s8, s9, s10, hV⟩ := hV
      refine ⟨s5, s6, s7, s8, s9, s10, ?_⟩
      refine q_icmp (q_dc k_PM_barredByPad 95 rfl) rfl (fun h11 => ?_) (fun h11 => ?_)
      · have hV := hV.1 h11
        refine q_run k_PM_barredByPad 98 6 160 rfl ?_
        show q_G l cx M_PM_barredByPad 3 192 0 0 160 [(9, .inr (.inl v3)), (8, .inl y0), (0, .inr (.inr x0)), (1, .inl x1), (2, .inl x2), (3, .inl x3), (4, .inl x4), (5, .inl x5), (6, .inl x6), (7, .inl x7)] [.inl x3, .inl x7, .inl x6, .inl x5, .inl x4, .inr (.inl v3)] σ4 R
        refine q_callS (st := [.inr (.inl v3)]) (t_PM_rectangle (l := l) (cx := cx)  hV) (q_dc k_PM_barredByPad 104 rfl) (Or.inl (List.mem_of_getElem? (i := 1013) (by decide +kernel))) w_PM_rectangle s_PM_rectangle a_PM_rectangle (q_wt (Nat.le_of_ble_eq_true rfl)) ⟨Nat.le_of_ble_eq_true rfl, Nat.le_of_ble_eq_true rfl⟩ (fun v9 τ9 q9 => ?_) (fun n9 τ9 q9 => q_T.leave rfl q9)
        obtain ⟨v14, rfl, hV⟩ := q_cl_elim q9
        clear q9
        have hV := hV
        revert hV
        generalize τ9 = σ15
        intro hV
        show q_G l cx M_PM_barredByPad 3 192 0 0 163 [(9, .inr (.inl v3)), (8, .inl y0), (0, .inr (.inr x0)), (1, .inl x1), (2, .inl x2), (3, .inl x3), (4, .inl x4), (5, .inl x5), (6, .inl x6), (7, .inl x7)] [.inr (.inl v14), .inr (.inl v3)] σ15 R
        refine q_run k_PM_barredByPad 105 4 170 rfl ?_
        show q_G l cx M_PM_barredByPad 3 192 0 0 170 [(9, .inr (.inl (v3 &&& (v14 ^^^ (-1 : Int64))))), (8, .inl y0), (0, .inr (.inr x0)), (1, .inl x1), (2, .inl x2), (3, .inl x3), (4, .inl x4), (5, .inl x5), (6, .inl x6), (7, .inl x7)] [] σ15 R
        refine q_let (fun v16 => q_G l cx M_PM_barredByPad 3 192 0 0 170 [(9, .inr (.inl v16)), (8, .inl y0), (0, .inr (.inr x0)), (1, .inl x1), (2, .inl x2), (3, .inl x3), (4, .inl x4), (5, .inl x5), (6, .inl x6), (7, .inl x7)] [] σ15 R) (v3 &&& (v14 ^^^ (-1 : Int64))) (fun v16 e_v16 => ?_)
        have hV := hV v16 e_v16
        refine q_run k_PM_barredByPad 109 2 173 rfl ?_
        show q_G l cx M_PM_barredByPad 3 192 0 0 173 [(11, .inl (0 : Int32)), (9, .inr (.inl v16)), (8, .inl y0), (0, .inr (.inr x0)), (1, .inl x1), (2, .inl x2), (3, .inl x3), (4, .inl x4), (5, .inl x5), (6, .inl x6), (7, .inl x7)] [] σ15 R
        exact q_less (Nat.le_of_ble_eq_true rfl) (Nat.le_of_ble_eq_true rfl) (q_subk [3, 5, 6, 1, 0] rfl hV)
      · have hV := hV.2 h11
        refine q_run k_PM_barredByPad 96 1 148 rfl ?_
        show q_G l cx M_PM_barredByPad 3 192 0 0 148 [(9, .inr (.inl v3)), (8, .inl y0), (0, .inr (.inr x0)), (1, .inl x1), (2, .inl x2), (3, .inl x3), (4, .inl x4), (5, .inl x5), (6, .inl x6), (7, .inl x7)] [.inr (.inl v3)] σ4 R
        exact q_lreturn (q_dc k_PM_barredByPad 97 rfl) rfl hV)
  have hV := hV (by
      intro x0 x2 x3 x9 x11 σ hV
      show q_G l cx M_PM_barredByPad 3 192 0 0 173 [(0, .inr (.inr x0)), (2, .inl x2), (3, .inl x3), (9, .inr (.inl x9)), (11, .inl x11)] [] σ R
      refine q_run k_PM_barredByPad 111 2 176 rfl ?_
      show q_G l cx M_PM_barredByPad 3 192 0 0 176 [(0, .inr (.inr x0)), (2, .inl x2), (3, .inl x3), (9, .inr (.inl x9)), (11, .inl x11)] [.inl (4 : Int32), .inl x11] σ R
      refine q_icmp (q_dc k_PM_barredByPad 113 rfl) rfl (fun h1 => ?_) (fun h1 => ?_)
      · have hV := hV.1 h1
        refine q_run k_PM_barredByPad 126 1 204 rfl ?_
        show q_G l cx M_PM_barredByPad 3 192 0 0 204 [(0, .inr (.inr x0)), (2, .inl x2), (3, .inl x3), (9, .inr (.inl x9)), (11, .inl x11)] [.inr (.inl x9)] σ R
        exact q_lreturn (q_dc k_PM_barredByPad 127 rfl) rfl hV
      · have hV := hV.2 h1
        refine q_run k_PM_barredByPad 114 5 186 rfl ?_
        show q_G l cx M_PM_barredByPad 3 192 0 0 186 [(0, .inr (.inr x0)), (2, .inl x2), (3, .inl x3), (9, .inr (.inl x9)), (11, .inl x11)] [.inl x3, .inl x11, .inl x2, .inr (.inr x0), .inr (.inl x9)] σ R
        obtain ⟨s2, hV⟩ := hV
        refine q_callV (st := [.inr (.inl x9)]) (as := [.inl x2, .inl x11, .inl x3]) (t_PM_spokeBits (l := l) (cx := cx)  hV) (q_dc k_PM_barredByPad 119 rfl) (Or.inl (List.mem_of_getElem? (i := 1020) (by decide +kernel))) w_PM_spokeBits n_PM_spokeBits (ci := 6) rfl e_PM_spokeBits a_PM_spokeBits (q_wt (Nat.le_of_ble_eq_true rfl)) ⟨Nat.le_of_ble_eq_true rfl, Nat.le_of_ble_eq_true rfl⟩ s2 (fun v9 τ9 q9 => ?_) (fun n9 τ9 q9 => q_T.leave rfl q9)
        obtain ⟨v5, rfl, hV⟩ := q_cl_elim q9
        clear q9
        have hV := hV
        revert hV
        generalize τ9 = σ6
        intro hV
        show q_G l cx M_PM_barredByPad 3 192 0 0 189 [(0, .inr (.inr x0)), (2, .inl x2), (3, .inl x3), (9, .inr (.inl x9)), (11, .inl x11)] [.inr (.inl v5), .inr (.inl x9)] σ6 R
        refine q_run k_PM_barredByPad 120 4 196 rfl ?_
        show q_G l cx M_PM_barredByPad 3 192 0 0 196 [(9, .inr (.inl (x9 &&& (v5 ^^^ (-1 : Int64))))), (0, .inr (.inr x0)), (2, .inl x2), (3, .inl x3), (11, .inl x11)] [] σ6 R
        refine q_let (fun v7 => q_G l cx M_PM_barredByPad 3 192 0 0 196 [(9, .inr (.inl v7)), (0, .inr (.inr x0)), (2, .inl x2), (3, .inl x3), (11, .inl x11)] [] σ6 R) (x9 &&& (v5 ^^^ (-1 : Int64))) (fun v7 e_v7 => ?_)
        have hV := hV v7 e_v7
        refine q_run k_PM_barredByPad 124 1 199 rfl ?_
        show q_G l cx M_PM_barredByPad 3 192 0 0 199 [(11, .inl (x11 + (1 : Int32))), (9, .inr (.inl v7)), (0, .inr (.inr x0)), (2, .inl x2), (3, .inl x3)] [] σ6 R
        refine q_let (fun v8 => q_G l cx M_PM_barredByPad 3 192 0 0 199 [(11, .inl v8), (9, .inr (.inl v7)), (0, .inr (.inr x0)), (2, .inl x2), (3, .inl x3)] [] σ6 R) (x11 + (1 : Int32)) (fun v8 e_v8 => ?_)
        have hV := hV v8 e_v8
        refine q_goto (q_dc k_PM_barredByPad 125 rfl) rfl ?_
        exact q_less (Nat.le_of_ble_eq_true rfl) (Nat.le_of_ble_eq_true rfl) (q_subk [2, 3, 4, 1, 0] rfl hV))
  refine q_run k_PM_barredByPad 0 8 12 rfl ?_
  show q_K σ x0 = 7 ∧ (q_K σ (q_P σ x0 18) = 1000 ∨ q_K σ (q_P σ x0 18) = 2000) ∧ vp_in x2 (q_Z σ (q_P σ x0 18)) ∧ q_K σ x0 = 7 ∧ (q_K σ (q_P σ x0 4) = 1000 ∨ q_K σ (q_P σ x0 4) = 2000) ∧ vp_in x1 (q_Z σ (q_P σ x0 4)) ∧ q_G l cx M_PM_barredByPad 3 192 0 0 12 [(0, .inr (.inr x0)), (1, .inl x1), (2, .inl x2), (3, .inl x3)] [.inl (q_I σ (q_P σ x0 4) x1.toNatClampNeg), .inl (q_I σ (q_P σ x0 18) x2.toNatClampNeg)] σ R
  obtain ⟨s1, s2, s3, s4, s5, s6, hV⟩ := hV
  refine ⟨s1, s2, s3, s4, s5, s6, ?_⟩
  refine q_icmp (q_dc k_PM_barredByPad 8 rfl) rfl (fun h7 => ?_) (fun h7 => ?_)
  · have hV := hV.1 h7
    refine q_run k_PM_barredByPad 11 7 27 rfl ?_
    show q_K σ x0 = 7 ∧ (q_K σ (q_P σ x0 19) = 1000 ∨ q_K σ (q_P σ x0 19) = 2000) ∧ vp_in ((4 : Int32) * x2) (q_Z σ (q_P σ x0 19)) ∧ q_G l cx M_PM_barredByPad 3 192 0 0 27 [(4, .inl (q_I σ (q_P σ x0 19) ((4 : Int32) * x2).toNatClampNeg)), (0, .inr (.inr x0)), (1, .inl x1), (2, .inl x2), (3, .inl x3)] [] σ R
    obtain ⟨s9, s10, s11, hV⟩ := hV
    refine ⟨s9, s10, s11, ?_⟩
    refine q_let (fun v8 => q_G l cx M_PM_barredByPad 3 192 0 0 27 [(4, .inl v8), (0, .inr (.inr x0)), (1, .inl x1), (2, .inl x2), (3, .inl x3)] [] σ R) (q_I σ (q_P σ x0 19) ((4 : Int32) * x2).toNatClampNeg) (fun v8 e_v8 => ?_)
    have hV := hV v8 e_v8
    refine q_run k_PM_barredByPad 18 9 39 rfl ?_
    show q_K σ x0 = 7 ∧ (q_K σ (q_P σ x0 19) = 1000 ∨ q_K σ (q_P σ x0 19) = 2000) ∧ vp_in (((4 : Int32) * x2) + (1 : Int32)) (q_Z σ (q_P σ x0 19)) ∧ q_G l cx M_PM_barredByPad 3 192 0 0 39 [(5, .inl (q_I σ (q_P σ x0 19) (((4 : Int32) * x2) + (1 : Int32)).toNatClampNeg)), (4, .inl v8), (0, .inr (.inr x0)), (1, .inl x1), (2, .inl x2), (3, .inl x3)] [] σ R
    obtain ⟨s13, s14, s15, hV⟩ := hV
    refine ⟨s13, s14, s15, ?_⟩
    refine q_let (fun v12 => q_G l cx M_PM_barredByPad 3 192 0 0 39 [(5, .inl v12), (4, .inl v8), (0, .inr (.inr x0)), (1, .inl x1), (2, .inl x2), (3, .inl x3)] [] σ R) (q_I σ (q_P σ x0 19) (((4 : Int32) * x2) + (1 : Int32)).toNatClampNeg) (fun v12 e_v12 => ?_)
    have hV := hV v12 e_v12
    refine q_run k_PM_barredByPad 27 13 56 rfl ?_
    show q_K σ x0 = 7 ∧ (q_K σ (q_P σ x0 19) = 1000 ∨ q_K σ (q_P σ x0 19) = 2000) ∧ vp_in (((4 : Int32) * x2) + (2 : Int32)) (q_Z σ (q_P σ x0 19)) ∧ q_G l cx M_PM_barredByPad 3 192 0 0 56 [(6, .inl ((v8 + (q_I σ (q_P σ x0 19) (((4 : Int32) * x2) + (2 : Int32)).toNatClampNeg)) - (1 : Int32))), (5, .inl v12), (4, .inl v8), (0, .inr (.inr x0)), (1, .inl x1), (2, .inl x2), (3, .inl x3)] [] σ R
    obtain ⟨s17, s18, s19, hV⟩ := hV
    refine ⟨s17, s18, s19, ?_⟩
    refine q_let (fun v16 => q_G l cx M_PM_barredByPad 3 192 0 0 56 [(6, .inl v16), (5, .inl v12), (4, .inl v8), (0, .inr (.inr x0)), (1, .inl x1), (2, .inl x2), (3, .inl x3)] [] σ R) ((v8 + (q_I σ (q_P σ x0 19) (((4 : Int32) * x2) + (2 : Int32)).toNatClampNeg)) - (1 : Int32)) (fun v16 e_v16 => ?_)
    have hV := hV v16 e_v16
    refine q_run k_PM_barredByPad 40 13 73 rfl ?_
    show q_K σ x0 = 7 ∧ (q_K σ (q_P σ x0 19) = 1000 ∨ q_K σ (q_P σ x0 19) = 2000) ∧ vp_in (((4 : Int32) * x2) + (3 : Int32)) (q_Z σ (q_P σ x0 19)) ∧ q_G l cx M_PM_barredByPad 3 192 0 0 73 [(7, .inl ((v12 + (q_I σ (q_P σ x0 19) (((4 : Int32) * x2) + (3 : Int32)).toNatClampNeg)) - (1 : Int32))), (6, .inl v16), (5, .inl v12), (4, .inl v8), (0, .inr (.inr x0)), (1, .inl x1), (2, .inl x2), (3, .inl x3)] [] σ R
    obtain ⟨s21, s22, s23, hV⟩ := hV
    refine ⟨s21, s22, s23, ?_⟩
    refine q_let (fun v20 => q_G l cx M_PM_barredByPad 3 192 0 0 73 [(7, .inl v20), (6, .inl v16), (5, .inl v12), (4, .inl v8), (0, .inr (.inr x0)), (1, .inl x1), (2, .inl x2), (3, .inl x3)] [] σ R) ((v12 + (q_I σ (q_P σ x0 19) (((4 : Int32) * x2) + (3 : Int32)).toNatClampNeg)) - (1 : Int32)) (fun v20 e_v20 => ?_)
    have hV := hV v20 e_v20
    refine q_run k_PM_barredByPad 53 8 85 rfl ?_
    show q_K σ x0 = 7 ∧ (q_K σ (q_P σ x0 17) = 1000 ∨ q_K σ (q_P σ x0 17) = 2000) ∧ vp_in x2 (q_Z σ (q_P σ x0 17)) ∧ q_K σ x0 = 7 ∧ (q_K σ (q_P σ x0 3) = 1000 ∨ q_K σ (q_P σ x0 3) = 2000) ∧ vp_in x1 (q_Z σ (q_P σ x0 3)) ∧ q_G l cx M_PM_barredByPad 3 192 0 0 85 [(7, .inl v20), (6, .inl v16), (5, .inl v12), (4, .inl v8), (0, .inr (.inr x0)), (1, .inl x1), (2, .inl x2), (3, .inl x3)] [.inl (q_I σ (q_P σ x0 3) x1.toNatClampNeg), .inl (q_I σ (q_P σ x0 17) x2.toNatClampNeg)] σ R
    obtain ⟨s24, s25, s26, s27, s28, s29, hV⟩ := hV
    refine ⟨s24, s25, s26, s27, s28, s29, ?_⟩
    refine q_icmp (q_dc k_PM_barredByPad 61 rfl) rfl (fun h30 => ?_) (fun h30 => ?_)
    · have hV := hV.1 h30
      refine q_run k_PM_barredByPad 67 4 103 rfl ?_
      show q_K σ x0 = 7 ∧ (q_K σ (q_P σ x0 20) = 1000 ∨ q_K σ (q_P σ x0 20) = 2000) ∧ vp_in (0 : Int32) (q_Z σ (q_P σ x0 20)) ∧ q_G l cx M_PM_barredByPad 3 192 0 0 103 [(7, .inl v20), (6, .inl v16), (5, .inl v12), (4, .inl v8), (0, .inr (.inr x0)), (1, .inl x1), (2, .inl x2), (3, .inl x3)] [.inl (q_I σ (q_P σ x0 20) (0 : Int32).toNatClampNeg)] σ R
      obtain ⟨s31, s32, s33, hV⟩ := hV
      refine ⟨s31, s32, s33, ?_⟩
      exact q_less (Nat.le_of_ble_eq_true rfl) (Nat.le_of_ble_eq_true rfl) (q_subk [4, 5, 6, 7, 3, 2, 1, 0] rfl hV)
    · have hV := hV.2 h30
      refine q_run k_PM_barredByPad 62 4 94 rfl ?_
      show q_K σ x0 = 7 ∧ (q_K σ (q_P σ x0 20) = 1000 ∨ q_K σ (q_P σ x0 20) = 2000) ∧ vp_in (1 : Int32) (q_Z σ (q_P σ x0 20)) ∧ q_G l cx M_PM_barredByPad 3 192 0 0 94 [(7, .inl v20), (6, .inl v16), (5, .inl v12), (4, .inl v8), (0, .inr (.inr x0)), (1, .inl x1), (2, .inl x2), (3, .inl x3)] [.inl (q_I σ (q_P σ x0 20) (1 : Int32).toNatClampNeg)] σ R
      obtain ⟨s34, s35, s36, hV⟩ := hV
      refine ⟨s34, s35, s36, ?_⟩
      refine q_goto (q_dc k_PM_barredByPad 66 rfl) rfl ?_
      exact q_less (Nat.le_of_ble_eq_true rfl) (Nat.le_of_ble_eq_true rfl) (q_subk [4, 5, 6, 7, 3, 2, 1, 0] rfl hV)
  · have hV := hV.2 h7
    refine q_run k_PM_barredByPad 9 1 16 rfl ?_
    show q_G l cx M_PM_barredByPad 3 192 0 0 16 [(0, .inr (.inr x0)), (1, .inl x1), (2, .inl x2), (3, .inl x3)] [.inr (.inl (0 : Int64))] σ R
    exact q_lreturn (q_dc k_PM_barredByPad 10 rfl) rfl hV
def V_PM_barredByPlanes (x0 : Nat) (x1 : Int32) (x2 : Int32) (σ : q_S) (R : q_O → q_S → Prop) : Prop :=
  ∀ (P5 : Nat → Int32 → Int32 → Int64 → Int32 → q_S → Prop),
  ∀ (P69 : Nat → Int32 → Int32 → Int64 → Int32 → Int32 → q_S → Prop),
  ∀ (P120 : Nat → Int32 → Int32 → Int32 → Int32 → Int64 → q_S → Prop),
  ∀ (P121 : Nat → Int32 → Int32 → Int32 → Int32 → Int64 → Int64 → q_S → Prop),
  ∀ (P129 : Nat → Int32 → Int32 → Int64 → Int32 → q_S → Prop),
  (∀ (x0 : Nat) (x1 : Int32) (x2 : Int32) (x3 : Int64) (x5 : Int32) (σ : q_S), (q_K σ x0 = 7 ∧ (((q_I σ x0 2) ≤ x5 → R (.inl (some (.inr (.inl x3)))) σ) ∧ (¬ ((q_I σ x0 2) ≤ x5) → q_K σ x0 = 7 ∧ q_K σ (q_P σ x0 27) = 1003 ∧ vp_in x5 (q_Z σ (q_P σ x0 27)) ∧ (((q_I σ (q_P σ x0 27) x5.toNatClampNeg) = (0 : Int32) → P129 x0 x1 x2 x3 x5 σ) ∧ (¬ ((q_I σ (q_P σ x0 27) x5.toNatClampNeg) = (0 : Int32)) → q_K σ x0 = 7 ∧ (q_K σ (q_P σ x0 4) = 1000 ∨ q_K σ (q_P σ x0 4) = 2000) ∧ vp_in x5 (q_Z σ (q_P σ x0 4)) ∧ q_K σ x0 = 7 ∧ (q_K σ (q_P σ x0 4) = 1000 ∨ q_K σ (q_P σ x0 4) = 2000) ∧ vp_in x1 (q_Z σ (q_P σ x0 4)) ∧ ((¬ (q_I σ (q_P σ x0 4) x5.toNatClampNeg) = (q_I σ (q_P σ x0 4) x1.toNatClampNeg) → P129 x0 x1 x2 x3 x5 σ) ∧ (¬ (¬ (q_I σ (q_P σ x0 4) x5.toNatClampNeg) = (q_I σ (q_P σ x0 4) x1.toNatClampNeg)) → q_K σ x0 = 7 ∧ (q_K σ (q_P σ x0 3) = 1000 ∨ q_K σ (q_P σ x0 3) = 2000) ∧ vp_in x5 (q_Z σ (q_P σ x0 3)) ∧ q_K σ x0 = 7 ∧ (q_K σ (q_P σ x0 3) = 1000 ∨ q_K σ (q_P σ x0 3) = 2000) ∧ vp_in x1 (q_Z σ (q_P σ x0 3)) ∧ ((¬ (q_I σ (q_P σ x0 3) x5.toNatClampNeg) = (q_I σ (q_P σ x0 3) x1.toNatClampNeg) → q_K σ x0 = 7 ∧ (q_K σ (q_P σ x0 20) = 1000 ∨ q_K σ (q_P σ x0 20) = 2000) ∧ vp_in (0 : Int32) (q_Z σ (q_P σ x0 20)) ∧ ∀ v21 : Int32, v21 = x2 - (q_I σ (q_P σ x0 20) (0 : Int32).toNatClampNeg) → P69 x0 x1 x2 x3 x5 v21 σ) ∧ (¬ (¬ (q_I σ (q_P σ x0 3) x5.toNatClampNeg) = (q_I σ (q_P σ x0 3) x1.toNatClampNeg)) → P129 x0 x1 x2 x3 x5 σ))))))))) → P5 x0 x1 x2 x3 x5 σ) →
  (∀ (x0 : Nat) (x1 : Int32) (x2 : Int32) (x3 : Int64) (x5 : Int32) (x6 : Int32) (σ : q_S), (q_K σ x0 = 7 ∧ (q_K σ (q_P σ x0 20) = 1000 ∨ q_K σ (q_P σ x0 20) = 2000) ∧ vp_in (0 : Int32) (q_Z σ (q_P σ x0 20)) ∧ (((x2 + (q_I σ (q_P σ x0 20) (0 : Int32).toNatClampNeg)) < x6 → P129 x0 x1 x2 x3 x5 σ) ∧ (¬ ((x2 + (q_I σ (q_P σ x0 20) (0 : Int32).toNatClampNeg)) < x6) → ((x6 < (0 : Int32) → P120 x0 x1 x2 x5 x6 x3 σ) ∧ (¬ (x6 < (0 : Int32)) → (((24 : Int32) ≤ x6 → P120 x0 x1 x2 x5 x6 x3 σ) ∧ (¬ ((24 : Int32) ≤ x6) → q_K σ x0 = 7 ∧ q_K σ (q_P σ x0 22) = 1001 ∧ vp_in (((24 : Int32) * x5) + x6) (q_Z σ (q_P σ x0 22)) ∧ q_K σ x0 = 7 ∧ (q_K σ (q_P σ x0 20) = 1000 ∨ q_K σ (q_P σ x0 20) = 2000) ∧ vp_in (0 : Int32) (q_Z σ (q_P σ x0 20)) ∧ V_PM_wide (q_L σ (q_P σ x0 22) (((24 : Int32) * x5) + x6).toNatClampNeg) (q_I σ (q_P σ x0 20) (0 : Int32).toNatClampNeg) σ (q_cl' (fun v15 σ16 => P121 x0 x1 x2 x5 x6 v15 x3 σ16) (fun n9 σ9 => R (.inr n9) σ9))))))))) → P69 x0 x1 x2 x3 x5 x6 σ) →
  (∀ (x0 : Nat) (x1 : Int32) (x2 : Int32) (x5 : Int32) (x6 : Int32) (y0 : Int64) (σ : q_S), (P121 x0 x1 x2 x5 x6 (0 : Int64) y0 σ) → P120 x0 x1 x2 x5 x6 y0 σ) →
  (∀ (x0 : Nat) (x1 : Int32) (x2 : Int32) (x5 : Int32) (x6 : Int32) (y0 : Int64) (y1 : Int64) (σ : q_S), (∀ v1 : Int64, v1 = y1 ||| y0 → ∀ v2 : Int32, v2 = x6 + (1 : Int32) → P69 x0 x1 x2 v1 x5 v2 σ) → P121 x0 x1 x2 x5 x6 y0 y1 σ) →
  (∀ (x0 : Nat) (x1 : Int32) (x2 : Int32) (x3 : Int64) (x5 : Int32) (σ : q_S), (∀ v1 : Int32, v1 = x5 + (1 : Int32) → P5 x0 x1 x2 x3 v1 σ) → P129 x0 x1 x2 x3 x5 σ) →
  P5 x0 x1 x2 (0 : Int64) (0 : Int32) σ
set_option maxRecDepth 100000 in
theorem t_PM_barredByPlanes {l : Launch} {cx : q_C} {x0 : Nat} {x1 : Int32} {x2 : Int32} {σ : q_S} {R : q_O → q_S → Prop} (hV : V_PM_barredByPlanes x0 x1 x2 σ R) : q_Ct l cx M_PM_barredByPlanes 1 64 0 0 [q_r x0, q_i x1, q_i x2] σ R := by
  refine q_Ct.of p_PM_barredByPlanes c_PM_barredByPlanes rfl (Nat.le_of_ble_eq_true rfl) ?_
  have hV := hV (fun (x0 : Nat) (x1 : Int32) (x2 : Int32) (x3 : Int64) (x5 : Int32) (σ : q_S) => q_G l cx M_PM_barredByPlanes 1 64 0 0 5 [(0, .inr (.inr x0)), (1, .inl x1), (2, .inl x2), (3, .inr (.inl x3)), (5, .inl x5)] [] σ R) (fun (x0 : Nat) (x1 : Int32) (x2 : Int32) (x3 : Int64) (x5 : Int32) (x6 : Int32) (σ : q_S) => q_G l cx M_PM_barredByPlanes 1 64 0 0 69 [(0, .inr (.inr x0)), (1, .inl x1), (2, .inl x2), (3, .inr (.inl x3)), (5, .inl x5), (6, .inl x6)] [] σ R) (fun (x0 : Nat) (x1 : Int32) (x2 : Int32) (x5 : Int32) (x6 : Int32) (y0 : Int64) (σ : q_S) => q_G l cx M_PM_barredByPlanes 1 64 0 0 120 [(0, .inr (.inr x0)), (1, .inl x1), (2, .inl x2), (5, .inl x5), (6, .inl x6)] [.inr (.inl y0)] σ R) (fun (x0 : Nat) (x1 : Int32) (x2 : Int32) (x5 : Int32) (x6 : Int32) (y0 : Int64) (y1 : Int64) (σ : q_S) => q_G l cx M_PM_barredByPlanes 1 64 0 0 121 [(0, .inr (.inr x0)), (1, .inl x1), (2, .inl x2), (5, .inl x5), (6, .inl x6)] [.inr (.inl y0), .inr (.inl y1)] σ R) (fun (x0 : Nat) (x1 : Int32) (x2 : Int32) (x3 : Int64) (x5 : Int32) (σ : q_S) => q_G l cx M_PM_barredByPlanes 1 64 0 0 129 [(0, .inr (.inr x0)), (1, .inl x1), (2, .inl x2), (3, .inr (.inl x3)), (5, .inl x5)] [] σ R)
  have hV := hV (by
      intro x0 x1 x2 x3 x5 σ hV
      show q_G l cx M_PM_barredByPlanes 1 64 0 0 5 [(0, .inr (.inr x0)), (1, .inl x1), (2, .inl x2), (3, .inr (.inl x3)), (5, .inl x5)] [] σ R
      refine q_run k_PM_barredByPlanes 4 3 11 rfl ?_
      show q_K σ x0 = 7 ∧ q_G l cx M_PM_barredByPlanes 1 64 0 0 11 [(0, .inr (.inr x0)), (1, .inl x1), (2, .inl x2), (3, .inr (.inl x3)), (5, .inl x5)] [.inl (q_I σ x0 2), .inl x5] σ R
      obtain ⟨s1, hV⟩ := hV
      refine ⟨s1, ?_⟩
      refine q_icmp (q_dc k_PM_barredByPlanes 7 rfl) rfl (fun h2 => ?_) (fun h2 => ?_)
      · have hV := hV.1 h2
        refine q_run k_PM_barredByPlanes 74 1 136 rfl ?_
        show q_G l cx M_PM_barredByPlanes 1 64 0 0 136 [(0, .inr (.inr x0)), (1, .inl x1), (2, .inl x2), (3, .inr (.inl x3)), (5, .inl x5)] [.inr (.inl x3)] σ R
        exact q_lreturn (q_dc k_PM_barredByPlanes 75 rfl) rfl hV
      · have hV := hV.2 h2
        refine q_run k_PM_barredByPlanes 8 4 21 rfl ?_
        show q_K σ x0 = 7 ∧ q_K σ (q_P σ x0 27) = 1003 ∧ vp_in x5 (q_Z σ (q_P σ x0 27)) ∧ q_G l cx M_PM_barredByPlanes 1 64 0 0 21 [(0, .inr (.inr x0)), (1, .inl x1), (2, .inl x2), (3, .inr (.inl x3)), (5, .inl x5)] [.inl (q_I σ (q_P σ x0 27) x5.toNatClampNeg)] σ R
        obtain ⟨s3, s4, s5, hV⟩ := hV
        refine ⟨s3, s4, s5, ?_⟩
        refine q_ifz (q_dc k_PM_barredByPlanes 12 rfl) rfl (fun h6 => ?_) (fun h6 => ?_)
        · have hV := hV.1 h6
          exact q_less (Nat.le_of_ble_eq_true rfl) (Nat.le_of_ble_eq_true rfl) (q_subk [0, 1, 2, 3, 4] rfl hV)
        · have hV := hV.2 h6
          refine q_run k_PM_barredByPlanes 13 8 37 rfl ?_
          show q_K σ x0 = 7 ∧ (q_K σ (q_P σ x0 4) = 1000 ∨ q_K σ (q_P σ x0 4) = 2000) ∧ vp_in x5 (q_Z σ (q_P σ x0 4)) ∧ q_K σ x0 = 7 ∧ (q_K σ (q_P σ x0 4) = 1000 ∨ q_K σ (q_P σ x0 4) = 2000) ∧ vp_in x1 (q_Z σ (q_P σ x0 4)) ∧ q_G l cx M_PM_barredByPlanes 1 64 0 0 37 [(0, .inr (.inr x0)), (1, .inl x1), (2, .inl x2), (3, .inr (.inl x3)), (5, .inl x5)] [.inl (q_I σ (q_P σ x0 4) x1.toNatClampNeg), .inl (q_I σ (q_P σ x0 4) x5.toNatClampNeg)] σ R
          obtain ⟨s7, s8, s9, s10, s11, s12, hV⟩ := hV
          refine ⟨s7, s8, s9, s10, s11, s12, ?_⟩
          refine q_icmp (q_dc k_PM_barredByPlanes 21 rfl) rfl (fun h13 => ?_) (fun h13 => ?_)
          · have hV := hV.1 h13
            exact q_less (Nat.le_of_ble_eq_true rfl) (Nat.le_of_ble_eq_true rfl) (q_subk [0, 1, 2, 3, 4] rfl hV)
          · have hV := hV.2 h13
            refine q_run k_PM_barredByPlanes 22 8 53 rfl ?_
            show q_K σ x0 = 7 ∧ (q_K σ (q_P σ x0 3) = 1000 ∨ q_K σ (q_P σ x0 3) = 2000) ∧ vp_in x5 (q_Z σ (q_P σ x0 3)) ∧ q_K σ x0 = 7 ∧ (q_K σ (q_P σ x0 3) = 1000 ∨ q_K σ (q_P σ x0 3) = 2000) ∧ vp_in x1 (q_Z σ (q_P σ x0 3)) ∧ q_G l cx M_PM_barredByPlanes 1 64 0 0 53 [(0, .inr (.inr x0)), (1, .inl x1), (2, .inl x2), (3, .inr (.inl x3)), (5, .inl x5)] [.inl (q_I σ (q_P σ x0 3) x1.toNatClampNeg), .inl (q_I σ (q_P σ x0 3) x5.toNatClampNeg)] σ R
            obtain ⟨s14, s15, s16, s17, s18, s19, hV⟩ := hV
            refine ⟨s14, s15, s16, s17, s18, s19, ?_⟩
            refine q_icmp (q_dc k_PM_barredByPlanes 30 rfl) rfl (fun h20 => ?_) (fun h20 => ?_)
            · have hV := hV.1 h20
              refine q_run k_PM_barredByPlanes 32 7 69 rfl ?_
              show q_K σ x0 = 7 ∧ (q_K σ (q_P σ x0 20) = 1000 ∨ q_K σ (q_P σ x0 20) = 2000) ∧ vp_in (0 : Int32) (q_Z σ (q_P σ x0 20)) ∧ q_G l cx M_PM_barredByPlanes 1 64 0 0 69 [(6, .inl (x2 - (q_I σ (q_P σ x0 20) (0 : Int32).toNatClampNeg))), (0, .inr (.inr x0)), (1, .inl x1), (2, .inl x2), (3, .inr (.inl x3)), (5, .inl x5)] [] σ R
              obtain ⟨s22, s23, s24, hV⟩ := hV
              refine ⟨s22, s23, s24, ?_⟩
              refine q_let (fun v21 => q_G l cx M_PM_barredByPlanes 1 64 0 0 69 [(6, .inl v21), (0, .inr (.inr x0)), (1, .inl x1), (2, .inl x2), (3, .inr (.inl x3)), (5, .inl x5)] [] σ R) (x2 - (q_I σ (q_P σ x0 20) (0 : Int32).toNatClampNeg)) (fun v21 e_v21 => ?_)
              have hV := hV v21 e_v21
              exact q_less (Nat.le_of_ble_eq_true rfl) (Nat.le_of_ble_eq_true rfl) (q_subk [1, 2, 3, 4, 5, 0] rfl hV)
            · have hV := hV.2 h20
              refine q_goto (q_dc k_PM_barredByPlanes 31 rfl) rfl ?_
              exact q_less (Nat.le_of_ble_eq_true rfl) (Nat.le_of_ble_eq_true rfl) (q_subk [0, 1, 2, 3, 4] rfl hV))
  have hV := hV (by
      intro x0 x1 x2 x3 x5 x6 σ hV
      show q_G l cx M_PM_barredByPlanes 1 64 0 0 69 [(0, .inr (.inr x0)), (1, .inl x1), (2, .inl x2), (3, .inr (.inl x3)), (5, .inl x5), (6, .inl x6)] [] σ R
      refine q_run k_PM_barredByPlanes 39 7 79 rfl ?_
      show q_K σ x0 = 7 ∧ (q_K σ (q_P σ x0 20) = 1000 ∨ q_K σ (q_P σ x0 20) = 2000) ∧ vp_in (0 : Int32) (q_Z σ (q_P σ x0 20)) ∧ q_G l cx M_PM_barredByPlanes 1 64 0 0 79 [(0, .inr (.inr x0)), (1, .inl x1), (2, .inl x2), (3, .inr (.inl x3)), (5, .inl x5), (6, .inl x6)] [.inl (x2 + (q_I σ (q_P σ x0 20) (0 : Int32).toNatClampNeg)), .inl x6] σ R
      obtain ⟨s1, s2, s3, hV⟩ := hV
      refine ⟨s1, s2, s3, ?_⟩
      refine q_icmp (q_dc k_PM_barredByPlanes 46 rfl) rfl (fun h4 => ?_) (fun h4 => ?_)
      · have hV := hV.1 h4
        exact q_less (Nat.le_of_ble_eq_true rfl) (Nat.le_of_ble_eq_true rfl) (q_subk [0, 1, 2, 3, 4] rfl hV)
      · have hV := hV.2 h4
        refine q_run k_PM_barredByPlanes 47 2 85 rfl ?_
        show q_G l cx M_PM_barredByPlanes 1 64 0 0 85 [(0, .inr (.inr x0)), (1, .inl x1), (2, .inl x2), (3, .inr (.inl x3)), (5, .inl x5), (6, .inl x6)] [.inl x6, .inr (.inl x3)] σ R
        refine q_ifz (q_dc k_PM_barredByPlanes 49 rfl) rfl (fun h5 => ?_) (fun h5 => ?_)
        · have hV := hV.1 h5
          exact q_less (Nat.le_of_ble_eq_true rfl) (Nat.le_of_ble_eq_true rfl) (q_subk [0, 1, 2, 4, 5] rfl hV)
        · have hV := hV.2 h5
          refine q_run k_PM_barredByPlanes 50 2 92 rfl ?_
          show q_G l cx M_PM_barredByPlanes 1 64 0 0 92 [(0, .inr (.inr x0)), (1, .inl x1), (2, .inl x2), (3, .inr (.inl x3)), (5, .inl x5), (6, .inl x6)] [.inl (24 : Int32), .inl x6, .inr (.inl x3)] σ R
          refine q_icmp (q_dc k_PM_barredByPlanes 52 rfl) rfl (fun h6 => ?_) (fun h6 => ?_)
          · have hV := hV.1 h6
            exact q_less (Nat.le_of_ble_eq_true rfl) (Nat.le_of_ble_eq_true rfl) (q_subk [0, 1, 2, 4, 5] rfl hV)
          · have hV := hV.2 h6
            refine q_run k_PM_barredByPlanes 53 12 114 rfl ?_
            show q_K σ x0 = 7 ∧ q_K σ (q_P σ x0 22) = 1001 ∧ vp_in (((24 : Int32) * x5) + x6) (q_Z σ (q_P σ x0 22)) ∧ q_K σ x0 = 7 ∧ (q_K σ (q_P σ x0 20) = 1000 ∨ q_K σ (q_P σ x0 20) = 2000) ∧ vp_in (0 : Int32) (q_Z σ (q_P σ x0 20)) ∧ q_G l cx M_PM_barredByPlanes 1 64 0 0 114 [(0, .inr (.inr x0)), (1, .inl x1), (2, .inl x2), (3, .inr (.inl x3)), (5, .inl x5), (6, .inl x6)] [.inl (q_I σ (q_P σ x0 20) (0 : Int32).toNatClampNeg), .inr (.inl (q_L σ (q_P σ x0 22) (((24 : Int32) * x5) + x6).toNatClampNeg)), .inr (.inl x3)] σ R
            obtain ⟨s7, s8, s9, s10, s11, s12, hV⟩ := hV
            refine ⟨s7, s8, s9, s10, s11, s12, ?_⟩
            refine q_callS (st := [.inr (.inl x3)]) (t_PM_wide (l := l) (cx := cx)  hV) (q_dc k_PM_barredByPlanes 65 rfl) (Or.inl (List.mem_of_getElem? (i := 1026) (by decide +kernel))) w_PM_wide s_PM_wide a_PM_wide (q_wt (Nat.le_of_ble_eq_true rfl)) ⟨Nat.le_of_ble_eq_true rfl, Nat.le_of_ble_eq_true rfl⟩ (fun v9 τ9 q9 => ?_) (fun n9 τ9 q9 => q_T.leave rfl q9)
            obtain ⟨v15, rfl, hV⟩ := q_cl_elim q9
            clear q9
            have hV := hV
            revert hV
            generalize τ9 = σ16
            intro hV
            show q_G l cx M_PM_barredByPlanes 1 64 0 0 117 [(0, .inr (.inr x0)), (1, .inl x1), (2, .inl x2), (3, .inr (.inl x3)), (5, .inl x5), (6, .inl x6)] [.inr (.inl v15), .inr (.inl x3)] σ16 R
            refine q_goto (q_dc k_PM_barredByPlanes 66 rfl) rfl ?_
            exact q_less (Nat.le_of_ble_eq_true rfl) (Nat.le_of_ble_eq_true rfl) (q_subk [0, 1, 2, 4, 5] rfl hV))
  have hV := hV (by
      intro x0 x1 x2 x5 x6 y0 σ hV
      show q_G l cx M_PM_barredByPlanes 1 64 0 0 120 [(0, .inr (.inr x0)), (1, .inl x1), (2, .inl x2), (5, .inl x5), (6, .inl x6)] [.inr (.inl y0)] σ R
      refine q_run k_PM_barredByPlanes 67 1 121 rfl ?_
      show q_G l cx M_PM_barredByPlanes 1 64 0 0 121 [(0, .inr (.inr x0)), (1, .inl x1), (2, .inl x2), (5, .inl x5), (6, .inl x6)] [.inr (.inl (0 : Int64)), .inr (.inl y0)] σ R
      exact q_less (Nat.le_of_ble_eq_true rfl) (Nat.le_of_ble_eq_true rfl) (q_subk [0, 1, 2, 3, 4] rfl hV))
  have hV := hV (by
      intro x0 x1 x2 x5 x6 y0 y1 σ hV
      show q_G l cx M_PM_barredByPlanes 1 64 0 0 121 [(0, .inr (.inr x0)), (1, .inl x1), (2, .inl x2), (5, .inl x5), (6, .inl x6)] [.inr (.inl y0), .inr (.inl y1)] σ R
      refine q_run k_PM_barredByPlanes 68 2 123 rfl ?_
      show q_G l cx M_PM_barredByPlanes 1 64 0 0 123 [(3, .inr (.inl (y1 ||| y0))), (0, .inr (.inr x0)), (1, .inl x1), (2, .inl x2), (5, .inl x5), (6, .inl x6)] [] σ R
      refine q_let (fun v1 => q_G l cx M_PM_barredByPlanes 1 64 0 0 123 [(3, .inr (.inl v1)), (0, .inr (.inr x0)), (1, .inl x1), (2, .inl x2), (5, .inl x5), (6, .inl x6)] [] σ R) (y1 ||| y0) (fun v1 e_v1 => ?_)
      have hV := hV v1 e_v1
      refine q_run k_PM_barredByPlanes 70 1 126 rfl ?_
      show q_G l cx M_PM_barredByPlanes 1 64 0 0 126 [(6, .inl (x6 + (1 : Int32))), (3, .inr (.inl v1)), (0, .inr (.inr x0)), (1, .inl x1), (2, .inl x2), (5, .inl x5)] [] σ R
      refine q_let (fun v2 => q_G l cx M_PM_barredByPlanes 1 64 0 0 126 [(6, .inl v2), (3, .inr (.inl v1)), (0, .inr (.inr x0)), (1, .inl x1), (2, .inl x2), (5, .inl x5)] [] σ R) (x6 + (1 : Int32)) (fun v2 e_v2 => ?_)
      have hV := hV v2 e_v2
      refine q_goto (q_dc k_PM_barredByPlanes 71 rfl) rfl ?_
      exact q_less (Nat.le_of_ble_eq_true rfl) (Nat.le_of_ble_eq_true rfl) (q_subk [2, 3, 4, 1, 5, 0] rfl hV))
  have hV := hV (by
      intro x0 x1 x2 x3 x5 σ hV
      show q_G l cx M_PM_barredByPlanes 1 64 0 0 129 [(0, .inr (.inr x0)), (1, .inl x1), (2, .inl x2), (3, .inr (.inl x3)), (5, .inl x5)] [] σ R
      refine q_run k_PM_barredByPlanes 72 1 132 rfl ?_
      show q_G l cx M_PM_barredByPlanes 1 64 0 0 132 [(5, .inl (x5 + (1 : Int32))), (0, .inr (.inr x0)), (1, .inl x1), (2, .inl x2), (3, .inr (.inl x3))] [] σ R
      refine q_let (fun v1 => q_G l cx M_PM_barredByPlanes 1 64 0 0 132 [(5, .inl v1), (0, .inr (.inr x0)), (1, .inl x1), (2, .inl x2), (3, .inr (.inl x3))] [] σ R) (x5 + (1 : Int32)) (fun v1 e_v1 => ?_)
      have hV := hV v1 e_v1
      refine q_goto (q_dc k_PM_barredByPlanes 73 rfl) rfl ?_
      exact q_less (Nat.le_of_ble_eq_true rfl) (Nat.le_of_ble_eq_true rfl) (q_subk [1, 2, 3, 4, 0] rfl hV))
  refine q_run k_PM_barredByPlanes 0 4 5 rfl ?_
  show q_G l cx M_PM_barredByPlanes 1 64 0 0 5 [(5, .inl (0 : Int32)), (3, .inr (.inl (0 : Int64))), (0, .inr (.inr x0)), (1, .inl x1), (2, .inl x2)] [] σ R
  exact q_less (Nat.le_of_ble_eq_true rfl) (Nat.le_of_ble_eq_true rfl) (q_subk [2, 3, 4, 1, 0] rfl hV)
def V_PM_findFree (x0 : Nat) (x1 : Int32) (σ : q_S) (R : q_O → q_S → Prop) : Prop :=
  ∀ (P2 : Nat → Int32 → Int32 → q_S → Prop),
  ∀ (P13 : Nat → Int32 → Int32 → Int64 → Int32 → q_S → Prop),
  ∀ (P51 : Nat → Int32 → Int32 → Int32 → Int64 → q_S → Prop),
  ∀ (P52 : Nat → Int32 → Int32 → Int32 → Int64 → Int64 → q_S → Prop),
  ∀ (P63 : Nat → Int32 → Int32 → Int64 → Int32 → q_S → Prop),
  (∀ (x0 : Nat) (x1 : Int32) (x2 : Int32) (σ : q_S), ((((24 : Int32) ≤ x2 → R (.inl none) σ) ∧ (¬ ((24 : Int32) ≤ x2) → P13 x0 x1 x2 (0 : Int64) (0 : Int32) σ))) → P2 x0 x1 x2 σ) →
  (∀ (x0 : Nat) (x1 : Int32) (x2 : Int32) (x3 : Int64) (x5 : Int32) (σ : q_S), ((((32 : Int32) ≤ x5 → P63 x0 x1 x2 x3 (0 : Int32) σ) ∧ (¬ ((32 : Int32) ≤ x5) → q_K σ x0 = 7 ∧ V_PM_isInside x0 x1 x5 x2 σ (q_ci (fun v5 σ6 => ((v5 = (0 : Int32) → P51 x0 x1 x2 x5 x3 σ6) ∧ (¬ (v5 = (0 : Int32)) → q_K σ6 x0 = 7 ∧ V_PM_isInObstacle x0 x1 x5 x2 σ6 (q_ci (fun v11 σ12 => ((¬ v11 = (0 : Int32) → P51 x0 x1 x2 x5 x3 σ12) ∧ (¬ (¬ v11 = (0 : Int32)) → P52 x0 x1 x2 x5 (f_PM_bit x5) x3 σ12))) (fun n9 σ9 => R (.inr n9) σ9))))) (fun n9 σ9 => R (.inr n9) σ9))))) → P13 x0 x1 x2 x3 x5 σ) →
  (∀ (x0 : Nat) (x1 : Int32) (x2 : Int32) (x5 : Int32) (y0 : Int64) (σ : q_S), (P52 x0 x1 x2 x5 (0 : Int64) y0 σ) → P51 x0 x1 x2 x5 y0 σ) →
  (∀ (x0 : Nat) (x1 : Int32) (x2 : Int32) (x5 : Int32) (y0 : Int64) (y1 : Int64) (σ : q_S), (∀ v1 : Int64, v1 = y1 ||| y0 → ∀ v2 : Int32, v2 = x5 + (1 : Int32) → P13 x0 x1 x2 v1 v2 σ) → P52 x0 x1 x2 x5 y0 y1 σ) →
  (∀ (x0 : Nat) (x1 : Int32) (x2 : Int32) (x3 : Int64) (x5 : Int32) (σ : q_S), (q_K σ x0 = 7 ∧ (((q_I σ x0 16) ≤ x5 → q_K σ x0 = 7 ∧ q_K σ x0 = 7 ∧ V_PM_barredByPlanes x0 x1 x2 σ (q_cl' (fun v7 σ8 => q_K σ8 (q_P σ x0 28) = 1001 ∧ vp_in x2 (q_Z σ8 (q_P σ x0 28)) ∧ ∀ σ9 : q_S, σ9 = q_wL σ8 (q_P σ x0 28) x2.toNatClampNeg (x3 &&& (v7 ^^^ (-1 : Int64))) → ∀ v12 : Int32, v12 = x2 + (1 : Int32) → P2 x0 x1 v12 σ9) (fun n9 σ9 => R (.inr n9) σ9))) ∧ (¬ ((q_I σ x0 16) ≤ x5) → q_K σ x0 = 7 ∧ V_PM_barredByPad x0 x1 x5 x2 σ (q_cl' (fun v16 σ17 => ∀ v18 : Int64, v18 = x3 &&& (v16 ^^^ (-1 : Int64)) → ∀ v19 : Int32, v19 = x5 + (1 : Int32) → P63 x0 x1 x2 v18 v19 σ17) (fun n9 σ9 => R (.inr n9) σ9))))) → P63 x0 x1 x2 x3 x5 σ) →
  P2 x0 x1 (0 : Int32) σ
set_option maxRecDepth 100000 in
theorem t_PM_findFree {l : Launch} {cx : q_C} {x0 : Nat} {x1 : Int32} {σ : q_S} {R : q_O → q_S → Prop} (hV : V_PM_findFree x0 x1 σ R) : q_Ct l cx M_PM_findFree 4 256 0 0 [q_r x0, q_i x1] σ R := by
  refine q_Ct.of p_PM_findFree c_PM_findFree rfl (Nat.le_of_ble_eq_true rfl) ?_
  have hV := hV (fun (x0 : Nat) (x1 : Int32) (x2 : Int32) (σ : q_S) => q_G l cx M_PM_findFree 4 256 0 0 2 [(0, .inr (.inr x0)), (1, .inl x1), (2, .inl x2)] [] σ R) (fun (x0 : Nat) (x1 : Int32) (x2 : Int32) (x3 : Int64) (x5 : Int32) (σ : q_S) => q_G l cx M_PM_findFree 4 256 0 0 13 [(0, .inr (.inr x0)), (1, .inl x1), (2, .inl x2), (3, .inr (.inl x3)), (5, .inl x5)] [] σ R) (fun (x0 : Nat) (x1 : Int32) (x2 : Int32) (x5 : Int32) (y0 : Int64) (σ : q_S) => q_G l cx M_PM_findFree 4 256 0 0 51 [(0, .inr (.inr x0)), (1, .inl x1), (2, .inl x2), (5, .inl x5)] [.inr (.inl y0)] σ R) (fun (x0 : Nat) (x1 : Int32) (x2 : Int32) (x5 : Int32) (y0 : Int64) (y1 : Int64) (σ : q_S) => q_G l cx M_PM_findFree 4 256 0 0 52 [(0, .inr (.inr x0)), (1, .inl x1), (2, .inl x2), (5, .inl x5)] [.inr (.inl y0), .inr (.inl y1)] σ R) (fun (x0 : Nat) (x1 : Int32) (x2 : Int32) (x3 : Int64) (x5 : Int32) (σ : q_S) => q_G l cx M_PM_findFree 4 256 0 0 63 [(0, .inr (.inr x0)), (1, .inl x1), (2, .inl x2), (3, .inr (.inl x3)), (5, .inl x5)] [] σ R)
  have hV := hV (by
      intro x0 x1 x2 σ hV
      show q_G l cx M_PM_findFree 4 256 0 0 2 [(0, .inr (.inr x0)), (1, .inl x1), (2, .inl x2)] [] σ R
      refine q_run k_PM_findFree 2 2 5 rfl ?_
      show q_G l cx M_PM_findFree 4 256 0 0 5 [(0, .inr (.inr x0)), (1, .inl x1), (2, .inl x2)] [.inl (24 : Int32), .inl x2] σ R
      refine q_icmp (q_dc k_PM_findFree 4 rfl) rfl (fun h1 => ?_) (fun h1 => ?_)
      · have hV := hV.1 h1
        exact q_vreturn (q_dc k_PM_findFree 65 rfl) rfl hV
      · have hV := hV.2 h1
        refine q_run k_PM_findFree 5 4 13 rfl ?_
        show q_G l cx M_PM_findFree 4 256 0 0 13 [(5, .inl (0 : Int32)), (3, .inr (.inl (0 : Int64))), (0, .inr (.inr x0)), (1, .inl x1), (2, .inl x2)] [] σ R
        exact q_less (Nat.le_of_ble_eq_true rfl) (Nat.le_of_ble_eq_true rfl) (q_subk [2, 3, 4, 1, 0] rfl hV))
  have hV := hV (by
      intro x0 x1 x2 x3 x5 σ hV
      show q_G l cx M_PM_findFree 4 256 0 0 13 [(0, .inr (.inr x0)), (1, .inl x1), (2, .inl x2), (3, .inr (.inl x3)), (5, .inl x5)] [] σ R
      refine q_run k_PM_findFree 9 2 17 rfl ?_
      show q_G l cx M_PM_findFree 4 256 0 0 17 [(0, .inr (.inr x0)), (1, .inl x1), (2, .inl x2), (3, .inr (.inl x3)), (5, .inl x5)] [.inl (32 : Int32), .inl x5] σ R
      refine q_icmp (q_dc k_PM_findFree 11 rfl) rfl (fun h1 => ?_) (fun h1 => ?_)
      · have hV := hV.1 h1
        refine q_run k_PM_findFree 33 2 63 rfl ?_
        show q_G l cx M_PM_findFree 4 256 0 0 63 [(5, .inl (0 : Int32)), (0, .inr (.inr x0)), (1, .inl x1), (2, .inl x2), (3, .inr (.inl x3))] [] σ R
        exact q_less (Nat.le_of_ble_eq_true rfl) (Nat.le_of_ble_eq_true rfl) (q_subk [1, 2, 3, 4, 0] rfl hV)
      · have hV := hV.2 h1
        refine q_run k_PM_findFree 12 5 26 rfl ?_
        show q_G l cx M_PM_findFree 4 256 0 0 26 [(0, .inr (.inr x0)), (1, .inl x1), (2, .inl x2), (3, .inr (.inl x3)), (5, .inl x5)] [.inl x2, .inl x5, .inl x1, .inr (.inr x0), .inr (.inl x3)] σ R
        obtain ⟨s2, hV⟩ := hV
        refine q_callV (st := [.inr (.inl x3)]) (as := [.inl x1, .inl x5, .inl x2]) (t_PM_isInside (l := l) (cx := cx)  hV) (q_dc k_PM_findFree 17 rfl) (Or.inl (List.mem_of_getElem? (i := 1000) (by decide +kernel))) w_PM_isInside n_PM_isInside (ci := 6) rfl e_PM_isInside a_PM_isInside (q_wt (Nat.le_of_ble_eq_true rfl)) ⟨Nat.le_of_ble_eq_true rfl, Nat.le_of_ble_eq_true rfl⟩ s2 (fun v9 τ9 q9 => ?_) (fun n9 τ9 q9 => q_T.leave rfl q9)
        obtain ⟨v5, rfl, hV⟩ := q_ci_elim q9
        clear q9
        have hV := hV
        revert hV
        generalize τ9 = σ6
        intro hV
        show q_G l cx M_PM_findFree 4 256 0 0 29 [(0, .inr (.inr x0)), (1, .inl x1), (2, .inl x2), (3, .inr (.inl x3)), (5, .inl x5)] [.inl v5, .inr (.inl x3)] σ6 R
        refine q_ifz (q_dc k_PM_findFree 18 rfl) rfl (fun h7 => ?_) (fun h7 => ?_)
        · have hV := hV.1 h7
          exact q_less (Nat.le_of_ble_eq_true rfl) (Nat.le_of_ble_eq_true rfl) (q_subk [0, 1, 2, 4] rfl hV)
        · have hV := hV.2 h7
          refine q_run k_PM_findFree 19 4 37 rfl ?_
          show q_G l cx M_PM_findFree 4 256 0 0 37 [(0, .inr (.inr x0)), (1, .inl x1), (2, .inl x2), (3, .inr (.inl x3)), (5, .inl x5)] [.inl x2, .inl x5, .inl x1, .inr (.inr x0), .inr (.inl x3)] σ6 R
          obtain ⟨s8, hV⟩ := hV
          refine q_callV (st := [.inr (.inl x3)]) (as := [.inl x1, .inl x5, .inl x2]) (t_PM_isInObstacle (l := l) (cx := cx)  hV) (q_dc k_PM_findFree 23 rfl) (Or.inl (List.mem_of_getElem? (i := 1004) (by decide +kernel))) w_PM_isInObstacle n_PM_isInObstacle (ci := 6) rfl e_PM_isInObstacle a_PM_isInObstacle (q_wt (Nat.le_of_ble_eq_true rfl)) ⟨Nat.le_of_ble_eq_true rfl, Nat.le_of_ble_eq_true rfl⟩ s8 (fun v9 τ9 q9 => ?_) (fun n9 τ9 q9 => q_T.leave rfl q9)
          obtain ⟨v11, rfl, hV⟩ := q_ci_elim q9
          clear q9
          have hV := hV
          revert hV
          generalize τ9 = σ12
          intro hV
          show q_G l cx M_PM_findFree 4 256 0 0 40 [(0, .inr (.inr x0)), (1, .inl x1), (2, .inl x2), (3, .inr (.inl x3)), (5, .inl x5)] [.inl v11, .inr (.inl x3)] σ12 R
          refine q_ifz (q_dc k_PM_findFree 24 rfl) rfl (fun h13 => ?_) (fun h13 => ?_)
          · have hV := hV.1 h13
            exact q_less (Nat.le_of_ble_eq_true rfl) (Nat.le_of_ble_eq_true rfl) (q_subk [0, 1, 2, 4] rfl hV)
          · have hV := hV.2 h13
            refine q_run k_PM_findFree 25 1 45 rfl ?_
            show q_G l cx M_PM_findFree 4 256 0 0 45 [(0, .inr (.inr x0)), (1, .inl x1), (2, .inl x2), (3, .inr (.inl x3)), (5, .inl x5)] [.inl x5, .inr (.inl x3)] σ12 R
            refine q_callS (st := [.inr (.inl x3)]) (t_PM_bit (l := l) (cx := cx) (σ := σ12) x5) (q_dc k_PM_findFree 26 rfl) (Or.inl (List.mem_of_getElem? (i := 1007) (by decide +kernel))) w_PM_bit s_PM_bit a_PM_bit (q_wt (Nat.le_of_ble_eq_true rfl)) ⟨Nat.le_of_ble_eq_true rfl, Nat.le_of_ble_eq_true rfl⟩ (fun v9 τ9 q9 => ?_) (fun n9 τ9 q9 => by cases q9.1)
            obtain ⟨q8, q7⟩ := q9
            cases q8
            rw [q7]
            show q_G l cx M_PM_findFree 4 256 0 0 48 [(0, .inr (.inr x0)), (1, .inl x1), (2, .inl x2), (3, .inr (.inl x3)), (5, .inl x5)] [.inr (.inl (f_PM_bit x5)), .inr (.inl x3)] σ12 R
            refine q_goto (q_dc k_PM_findFree 27 rfl) rfl ?_
            exact q_less (Nat.le_of_ble_eq_true rfl) (Nat.le_of_ble_eq_true rfl) (q_subk [0, 1, 2, 4] rfl hV))
  have hV := hV (by
      intro x0 x1 x2 x5 y0 σ hV
      show q_G l cx M_PM_findFree 4 256 0 0 51 [(0, .inr (.inr x0)), (1, .inl x1), (2, .inl x2), (5, .inl x5)] [.inr (.inl y0)] σ R
      refine q_run k_PM_findFree 28 1 52 rfl ?_
      show q_G l cx M_PM_findFree 4 256 0 0 52 [(0, .inr (.inr x0)), (1, .inl x1), (2, .inl x2), (5, .inl x5)] [.inr (.inl (0 : Int64)), .inr (.inl y0)] σ R
      exact q_less (Nat.le_of_ble_eq_true rfl) (Nat.le_of_ble_eq_true rfl) (q_subk [0, 1, 2, 3] rfl hV))
  have hV := hV (by
      intro x0 x1 x2 x5 y0 y1 σ hV
      show q_G l cx M_PM_findFree 4 256 0 0 52 [(0, .inr (.inr x0)), (1, .inl x1), (2, .inl x2), (5, .inl x5)] [.inr (.inl y0), .inr (.inl y1)] σ R
      refine q_run k_PM_findFree 29 2 54 rfl ?_
      show q_G l cx M_PM_findFree 4 256 0 0 54 [(3, .inr (.inl (y1 ||| y0))), (0, .inr (.inr x0)), (1, .inl x1), (2, .inl x2), (5, .inl x5)] [] σ R
      refine q_let (fun v1 => q_G l cx M_PM_findFree 4 256 0 0 54 [(3, .inr (.inl v1)), (0, .inr (.inr x0)), (1, .inl x1), (2, .inl x2), (5, .inl x5)] [] σ R) (y1 ||| y0) (fun v1 e_v1 => ?_)
      have hV := hV v1 e_v1
      refine q_run k_PM_findFree 31 1 57 rfl ?_
      show q_G l cx M_PM_findFree 4 256 0 0 57 [(5, .inl (x5 + (1 : Int32))), (3, .inr (.inl v1)), (0, .inr (.inr x0)), (1, .inl x1), (2, .inl x2)] [] σ R
      refine q_let (fun v2 => q_G l cx M_PM_findFree 4 256 0 0 57 [(5, .inl v2), (3, .inr (.inl v1)), (0, .inr (.inr x0)), (1, .inl x1), (2, .inl x2)] [] σ R) (x5 + (1 : Int32)) (fun v2 e_v2 => ?_)
      have hV := hV v2 e_v2
      refine q_goto (q_dc k_PM_findFree 32 rfl) rfl ?_
      exact q_less (Nat.le_of_ble_eq_true rfl) (Nat.le_of_ble_eq_true rfl) (q_subk [2, 3, 4, 1, 0] rfl hV))
  have hV := hV (by
      intro x0 x1 x2 x3 x5 σ hV
      show q_G l cx M_PM_findFree 4 256 0 0 63 [(0, .inr (.inr x0)), (1, .inl x1), (2, .inl x2), (3, .inr (.inl x3)), (5, .inl x5)] [] σ R
      refine q_run k_PM_findFree 35 3 69 rfl ?_
      show q_K σ x0 = 7 ∧ q_G l cx M_PM_findFree 4 256 0 0 69 [(0, .inr (.inr x0)), (1, .inl x1), (2, .inl x2), (3, .inr (.inl x3)), (5, .inl x5)] [.inl (q_I σ x0 16), .inl x5] σ R
      obtain ⟨s1, hV⟩ := hV
      refine ⟨s1, ?_⟩
      refine q_icmp (q_dc k_PM_findFree 38 rfl) rfl (fun h2 => ?_) (fun h2 => ?_)
      · have hV := hV.1 h2
        refine q_run k_PM_findFree 51 7 102 rfl ?_
        show q_K σ x0 = 7 ∧ q_G l cx M_PM_findFree 4 256 0 0 102 [(0, .inr (.inr x0)), (1, .inl x1), (2, .inl x2), (3, .inr (.inl x3)), (5, .inl x5)] [.inl x2, .inl x1, .inr (.inr x0), .inr (.inl x3), .inl x2, .inr (.inr (q_P σ x0 28))] σ R
        obtain ⟨s3, hV⟩ := hV
        refine ⟨s3, ?_⟩
        obtain ⟨s4, hV⟩ := hV
        refine q_callV (st := [.inr (.inl x3), .inl x2, .inr (.inr (q_P σ x0 28))]) (as := [.inl x1, .inl x2]) (t_PM_barredByPlanes (l := l) (cx := cx)  hV) (q_dc k_PM_findFree 58 rfl) (Or.inl (List.mem_of_getElem? (i := 1023) (by decide +kernel))) w_PM_barredByPlanes n_PM_barredByPlanes (ci := 6) rfl e_PM_barredByPlanes a_PM_barredByPlanes (q_wt (Nat.le_of_ble_eq_true rfl)) ⟨Nat.le_of_ble_eq_true rfl, Nat.le_of_ble_eq_true rfl⟩ s4 (fun v9 τ9 q9 => ?_) (fun n9 τ9 q9 => q_T.leave rfl q9)
        obtain ⟨v7, rfl, hV⟩ := q_cl_elim q9
        clear q9
        have hV := hV
        revert hV
        generalize τ9 = σ8
        intro hV
        show q_G l cx M_PM_findFree 4 256 0 0 105 [(0, .inr (.inr x0)), (1, .inl x1), (2, .inl x2), (3, .inr (.inl x3)), (5, .inl x5)] [.inr (.inl v7), .inr (.inl x3), .inl x2, .inr (.inr (q_P σ x0 28))] σ8 R
        refine q_run k_PM_findFree 59 4 111 rfl ?_
        show q_K σ8 (q_P σ x0 28) = 1001 ∧ vp_in x2 (q_Z σ8 (q_P σ x0 28)) ∧ q_G l cx M_PM_findFree 4 256 0 0 111 [(0, .inr (.inr x0)), (1, .inl x1), (2, .inl x2), (3, .inr (.inl x3)), (5, .inl x5)] [] (q_wL σ8 (q_P σ x0 28) x2.toNatClampNeg (x3 &&& (v7 ^^^ (-1 : Int64)))) R
        obtain ⟨s10, s11, hV⟩ := hV
        refine ⟨s10, s11, ?_⟩
        refine q_let (fun σ9 => q_G l cx M_PM_findFree 4 256 0 0 111 [(0, .inr (.inr x0)), (1, .inl x1), (2, .inl x2), (3, .inr (.inl x3)), (5, .inl x5)] [] σ9 R) (q_wL σ8 (q_P σ x0 28) x2.toNatClampNeg (x3 &&& (v7 ^^^ (-1 : Int64)))) (fun σ9 e_σ9 => ?_)
        have hV := hV σ9 e_σ9
        refine q_run k_PM_findFree 63 1 114 rfl ?_
        show q_G l cx M_PM_findFree 4 256 0 0 114 [(2, .inl (x2 + (1 : Int32))), (0, .inr (.inr x0)), (1, .inl x1), (3, .inr (.inl x3)), (5, .inl x5)] [] σ9 R
        refine q_let (fun v12 => q_G l cx M_PM_findFree 4 256 0 0 114 [(2, .inl v12), (0, .inr (.inr x0)), (1, .inl x1), (3, .inr (.inl x3)), (5, .inl x5)] [] σ9 R) (x2 + (1 : Int32)) (fun v12 e_v12 => ?_)
        have hV := hV v12 e_v12
        refine q_goto (q_dc k_PM_findFree 64 rfl) rfl ?_
        exact q_less (Nat.le_of_ble_eq_true rfl) (Nat.le_of_ble_eq_true rfl) (q_subk [1, 2, 0] rfl hV)
      · have hV := hV.2 h2
        refine q_run k_PM_findFree 39 5 78 rfl ?_
        show q_G l cx M_PM_findFree 4 256 0 0 78 [(0, .inr (.inr x0)), (1, .inl x1), (2, .inl x2), (3, .inr (.inl x3)), (5, .inl x5)] [.inl x2, .inl x5, .inl x1, .inr (.inr x0), .inr (.inl x3)] σ R
        obtain ⟨s13, hV⟩ := hV
        refine q_callV (st := [.inr (.inl x3)]) (as := [.inl x1, .inl x5, .inl x2]) (t_PM_barredByPad (l := l) (cx := cx)  hV) (q_dc k_PM_findFree 44 rfl) (Or.inl (List.mem_of_getElem? (i := 1010) (by decide +kernel))) w_PM_barredByPad n_PM_barredByPad (ci := 6) rfl e_PM_barredByPad a_PM_barredByPad (q_wt (Nat.le_of_ble_eq_true rfl)) ⟨Nat.le_of_ble_eq_true rfl, Nat.le_of_ble_eq_true rfl⟩ s13 (fun v9 τ9 q9 => ?_) (fun n9 τ9 q9 => q_T.leave rfl q9)
        obtain ⟨v16, rfl, hV⟩ := q_cl_elim q9
        clear q9
        have hV := hV
        revert hV
        generalize τ9 = σ17
        intro hV
        show q_G l cx M_PM_findFree 4 256 0 0 81 [(0, .inr (.inr x0)), (1, .inl x1), (2, .inl x2), (3, .inr (.inl x3)), (5, .inl x5)] [.inr (.inl v16), .inr (.inl x3)] σ17 R
        refine q_run k_PM_findFree 45 4 87 rfl ?_
        show q_G l cx M_PM_findFree 4 256 0 0 87 [(3, .inr (.inl (x3 &&& (v16 ^^^ (-1 : Int64))))), (0, .inr (.inr x0)), (1, .inl x1), (2, .inl x2), (5, .inl x5)] [] σ17 R
        refine q_let (fun v18 => q_G l cx M_PM_findFree 4 256 0 0 87 [(3, .inr (.inl v18)), (0, .inr (.inr x0)), (1, .inl x1), (2, .inl x2), (5, .inl x5)] [] σ17 R) (x3 &&& (v16 ^^^ (-1 : Int64))) (fun v18 e_v18 => ?_)
        have hV := hV v18 e_v18
        refine q_run k_PM_findFree 49 1 90 rfl ?_
        show q_G l cx M_PM_findFree 4 256 0 0 90 [(5, .inl (x5 + (1 : Int32))), (3, .inr (.inl v18)), (0, .inr (.inr x0)), (1, .inl x1), (2, .inl x2)] [] σ17 R
        refine q_let (fun v19 => q_G l cx M_PM_findFree 4 256 0 0 90 [(5, .inl v19), (3, .inr (.inl v18)), (0, .inr (.inr x0)), (1, .inl x1), (2, .inl x2)] [] σ17 R) (x5 + (1 : Int32)) (fun v19 e_v19 => ?_)
        have hV := hV v19 e_v19
        refine q_goto (q_dc k_PM_findFree 50 rfl) rfl ?_
        exact q_less (Nat.le_of_ble_eq_true rfl) (Nat.le_of_ble_eq_true rfl) (q_subk [2, 3, 4, 1, 0] rfl hV))
  refine q_run k_PM_findFree 0 2 2 rfl ?_
  show q_G l cx M_PM_findFree 4 256 0 0 2 [(2, .inl (0 : Int32)), (0, .inr (.inr x0)), (1, .inl x1)] [] σ R
  exact q_less (Nat.le_of_ble_eq_true rfl) (Nat.le_of_ble_eq_true rfl) (q_subk [1, 2, 0] rfl hV)
def V_PM_takeNecks (x0 : Nat) (σ : q_S) (R : q_O → q_S → Prop) : Prop :=
  ∀ (P9 : Nat → Int32 → Int32 → q_S → Prop),
  ∀ (P30 : Nat → Int32 → Int32 → q_S → Prop),
  ∀ (P45 : Nat → Int32 → Int32 → Int64 → Int32 → q_S → Prop),
  ∀ (P54 : Nat → Int32 → Int32 → Int64 → Int32 → Int32 → q_S → Prop),
  ∀ (P90 : Nat → Int32 → Int32 → Int64 → Int32 → q_S → Prop),
  ∀ (P99 : Nat → Int32 → Int32 → Int64 → Int32 → Int32 → q_S → Prop),
  ∀ (P154 : Nat → Int32 → Int32 → q_S → Prop),
  ∀ (P180 : Nat → Int32 → q_S → Prop),
  ∀ (P185 : Nat → Int32 → Int32 → q_S → Prop),
  (∀ (x0 : Nat) (x1 : Int32) (x2 : Int32) (σ : q_S), ((((24 : Int32) ≤ x2 → P30 x0 x1 (0 : Int32) σ) ∧ (¬ ((24 : Int32) ≤ x2) → q_K σ x0 = 7 ∧ q_K σ (q_P σ x0 30) = 1001 ∧ vp_in x2 (q_Z σ (q_P σ x0 30)) ∧ ∀ σ2 : q_S, σ2 = q_wL σ (q_P σ x0 30) x2.toNatClampNeg (0 : Int64) → ∀ v6 : Int32, v6 = x2 + (1 : Int32) → P9 x0 x1 v6 σ2))) → P9 x0 x1 x2 σ) →
  (∀ (x0 : Nat) (x1 : Int32) (x2 : Int32) (σ : q_S), ((((24 : Int32) < (x2 + x1) → P154 x0 (0 : Int32) (0 : Int32) σ) ∧ (¬ ((24 : Int32) < (x2 + x1)) → P45 x0 x1 x2 (4294967295 : Int64) (0 : Int32) σ))) → P30 x0 x1 x2 σ) →
  (∀ (x0 : Nat) (x1 : Int32) (x2 : Int32) (x3 : Int64) (x5 : Int32) (σ : q_S), (((x1 ≤ x5 → P90 x0 x1 x2 x3 (0 : Int32) σ) ∧ (¬ (x1 ≤ x5) → P54 x0 x1 x2 x3 x5 (0 : Int32) σ))) → P45 x0 x1 x2 x3 x5 σ) →
  (∀ (x0 : Nat) (x1 : Int32) (x2 : Int32) (x3 : Int64) (x5 : Int32) (x6 : Int32) (σ : q_S), (((x1 ≤ x6 → ∀ v2 : Int32, v2 = x5 + (1 : Int32) → P45 x0 x1 x2 x3 v2 σ) ∧ (¬ (x1 ≤ x6) → q_K σ x0 = 7 ∧ q_K σ (q_P σ x0 28) = 1001 ∧ vp_in (x2 + x5) (q_Z σ (q_P σ x0 28)) ∧ ∀ v3 : Int64, v3 = x3 &&& ((q_L σ (q_P σ x0 28) (x2 + x5).toNatClampNeg) >>> (x6.toInt64 &&& 63)) → ∀ v7 : Int32, v7 = x6 + (1 : Int32) → P54 x0 x1 x2 v3 x5 v7 σ))) → P54 x0 x1 x2 x3 x5 x6 σ) →
  (∀ (x0 : Nat) (x1 : Int32) (x2 : Int32) (x3 : Int64) (x5 : Int32) (σ : q_S), (((x1 ≤ x5 → ∀ v2 : Int32, v2 = x2 + (1 : Int32) → P30 x0 x1 v2 σ) ∧ (¬ (x1 ≤ x5) → P99 x0 x1 x2 x3 x5 (0 : Int32) σ))) → P90 x0 x1 x2 x3 x5 σ) →
  (∀ (x0 : Nat) (x1 : Int32) (x2 : Int32) (x3 : Int64) (x5 : Int32) (x6 : Int32) (σ : q_S), (((x1 ≤ x6 → ∀ v2 : Int32, v2 = x5 + (1 : Int32) → P90 x0 x1 x2 x3 v2 σ) ∧ (¬ (x1 ≤ x6) → q_K σ x0 = 7 ∧ q_K σ x0 = 7 ∧ q_K σ (q_P σ x0 30) = 1001 ∧ vp_in (x2 + x5) (q_Z σ (q_P σ x0 30)) ∧ q_K σ (q_P σ x0 30) = 1001 ∧ vp_in (x2 + x5) (q_Z σ (q_P σ x0 30)) ∧ ∀ σ3 : q_S, σ3 = q_wL σ (q_P σ x0 30) (x2 + x5).toNatClampNeg ((q_L σ (q_P σ x0 30) (x2 + x5).toNatClampNeg) ||| ((x3 <<< (x6.toInt64 &&& 63)) &&& (4294967295 : Int64))) → ∀ v10 : Int32, v10 = x6 + (1 : Int32) → P99 x0 x1 x2 x3 x5 v10 σ3))) → P99 x0 x1 x2 x3 x5 x6 σ) →
  (∀ (x0 : Nat) (x2 : Int32) (x3 : Int32) (σ : q_S), ((((24 : Int32) ≤ x3 → ((x2 = 0 ∨ x2 = 1) ∧ R (.inl (some (.inl x2))) σ)) ∧ (¬ ((24 : Int32) ≤ x3) → ((¬ x2 = (0 : Int32) → P180 x0 x3 σ) ∧ (¬ (¬ x2 = (0 : Int32)) → q_K σ x0 = 7 ∧ q_K σ (q_P σ x0 28) = 1001 ∧ vp_in x3 (q_Z σ (q_P σ x0 28)) ∧ q_K σ x0 = 7 ∧ q_K σ (q_P σ x0 30) = 1001 ∧ vp_in x3 (q_Z σ (q_P σ x0 30)) ∧ (((lg_cmp (q_L σ (q_P σ x0 28) x3.toNatClampNeg) (q_L σ (q_P σ x0 30) x3.toNatClampNeg)) = (0 : Int32) → P185 x0 x3 (0 : Int32) σ) ∧ (¬ ((lg_cmp (q_L σ (q_P σ x0 28) x3.toNatClampNeg) (q_L σ (q_P σ x0 30) x3.toNatClampNeg)) = (0 : Int32)) → P180 x0 x3 σ))))))) → P154 x0 x2 x3 σ) →
  (∀ (x0 : Nat) (x3 : Int32) (σ : q_S), (P185 x0 x3 (1 : Int32) σ) → P180 x0 x3 σ) →
  (∀ (x0 : Nat) (x3 : Int32) (y0 : Int32) (σ : q_S), (q_K σ x0 = 7 ∧ q_K σ x0 = 7 ∧ q_K σ (q_P σ x0 30) = 1001 ∧ vp_in x3 (q_Z σ (q_P σ x0 30)) ∧ q_K σ (q_P σ x0 28) = 1001 ∧ vp_in x3 (q_Z σ (q_P σ x0 28)) ∧ ∀ σ1 : q_S, σ1 = q_wL σ (q_P σ x0 28) x3.toNatClampNeg (q_L σ (q_P σ x0 30) x3.toNatClampNeg) → ∀ v8 : Int32, v8 = x3 + (1 : Int32) → P154 x0 y0 v8 σ1) → P185 x0 x3 y0 σ) →
  q_K σ x0 = 7 ∧ (q_K σ (q_P σ x0 20) = 1000 ∨ q_K σ (q_P σ x0 20) = 2000) ∧ vp_in (2 : Int32) (q_Z σ (q_P σ x0 20)) ∧ ∀ v1 : Int32, v1 = q_I σ (q_P σ x0 20) (2 : Int32).toNatClampNeg → P9 x0 v1 (0 : Int32) σ
set_option maxRecDepth 100000 in
theorem t_PM_takeNecks {l : Launch} {cx : q_C} {x0 : Nat} {σ : q_S} {R : q_O → q_S → Prop} (hV : V_PM_takeNecks x0 σ R) : q_Ct l cx M_PM_takeNecks 0 0 0 0 [q_r x0] σ R := by
  refine q_Ct.of p_PM_takeNecks c_PM_takeNecks rfl (Nat.le_of_ble_eq_true rfl) ?_
  have hV := hV (fun (x0 : Nat) (x1 : Int32) (x2 : Int32) (σ : q_S) => q_G l cx M_PM_takeNecks 0 0 0 0 9 [(0, .inr (.inr x0)), (1, .inl x1), (2, .inl x2)] [] σ R) (fun (x0 : Nat) (x1 : Int32) (x2 : Int32) (σ : q_S) => q_G l cx M_PM_takeNecks 0 0 0 0 30 [(0, .inr (.inr x0)), (1, .inl x1), (2, .inl x2)] [] σ R) (fun (x0 : Nat) (x1 : Int32) (x2 : Int32) (x3 : Int64) (x5 : Int32) (σ : q_S) => q_G l cx M_PM_takeNecks 0 0 0 0 45 [(0, .inr (.inr x0)), (1, .inl x1), (2, .inl x2), (3, .inr (.inl x3)), (5, .inl x5)] [] σ R) (fun (x0 : Nat) (x1 : Int32) (x2 : Int32) (x3 : Int64) (x5 : Int32) (x6 : Int32) (σ : q_S) => q_G l cx M_PM_takeNecks 0 0 0 0 54 [(0, .inr (.inr x0)), (1, .inl x1), (2, .inl x2), (3, .inr (.inl x3)), (5, .inl x5), (6, .inl x6)] [] σ R) (fun (x0 : Nat) (x1 : Int32) (x2 : Int32) (x3 : Int64) (x5 : Int32) (σ : q_S) => q_G l cx M_PM_takeNecks 0 0 0 0 90 [(0, .inr (.inr x0)), (1, .inl x1), (2, .inl x2), (3, .inr (.inl x3)), (5, .inl x5)] [] σ R) (fun (x0 : Nat) (x1 : Int32) (x2 : Int32) (x3 : Int64) (x5 : Int32) (x6 : Int32) (σ : q_S) => q_G l cx M_PM_takeNecks 0 0 0 0 99 [(0, .inr (.inr x0)), (1, .inl x1), (2, .inl x2), (3, .inr (.inl x3)), (5, .inl x5), (6, .inl x6)] [] σ R) (fun (x0 : Nat) (x2 : Int32) (x3 : Int32) (σ : q_S) => q_G l cx M_PM_takeNecks 0 0 0 0 154 [(0, .inr (.inr x0)), (2, .inl x2), (3, .inl x3)] [] σ R) (fun (x0 : Nat) (x3 : Int32) (σ : q_S) => q_G l cx M_PM_takeNecks 0 0 0 0 180 [(0, .inr (.inr x0)), (3, .inl x3)] [] σ R) (fun (x0 : Nat) (x3 : Int32) (y0 : Int32) (σ : q_S) => q_G l cx M_PM_takeNecks 0 0 0 0 185 [(0, .inr (.inr x0)), (3, .inl x3)] [.inl y0] σ R)
  have hV := hV (by
      intro x0 x1 x2 σ hV
      show q_G l cx M_PM_takeNecks 0 0 0 0 9 [(0, .inr (.inr x0)), (1, .inl x1), (2, .inl x2)] [] σ R
      refine q_run k_PM_takeNecks 7 2 12 rfl ?_
      show q_G l cx M_PM_takeNecks 0 0 0 0 12 [(0, .inr (.inr x0)), (1, .inl x1), (2, .inl x2)] [.inl (24 : Int32), .inl x2] σ R
      refine q_icmp (q_dc k_PM_takeNecks 9 rfl) rfl (fun h1 => ?_) (fun h1 => ?_)
      · have hV := hV.1 h1
        refine q_run k_PM_takeNecks 17 2 30 rfl ?_
        show q_G l cx M_PM_takeNecks 0 0 0 0 30 [(2, .inl (0 : Int32)), (0, .inr (.inr x0)), (1, .inl x1)] [] σ R
        exact q_less (Nat.le_of_ble_eq_true rfl) (Nat.le_of_ble_eq_true rfl) (q_subk [1, 2, 0] rfl hV)
      · have hV := hV.2 h1
        refine q_run k_PM_takeNecks 10 5 22 rfl ?_
        show q_K σ x0 = 7 ∧ q_K σ (q_P σ x0 30) = 1001 ∧ vp_in x2 (q_Z σ (q_P σ x0 30)) ∧ q_G l cx M_PM_takeNecks 0 0 0 0 22 [(0, .inr (.inr x0)), (1, .inl x1), (2, .inl x2)] [] (q_wL σ (q_P σ x0 30) x2.toNatClampNeg (0 : Int64)) R
        obtain ⟨s3, s4, s5, hV⟩ := hV
        refine ⟨s3, s4, s5, ?_⟩
        refine q_let (fun σ2 => q_G l cx M_PM_takeNecks 0 0 0 0 22 [(0, .inr (.inr x0)), (1, .inl x1), (2, .inl x2)] [] σ2 R) (q_wL σ (q_P σ x0 30) x2.toNatClampNeg (0 : Int64)) (fun σ2 e_σ2 => ?_)
        have hV := hV σ2 e_σ2
        refine q_run k_PM_takeNecks 15 1 25 rfl ?_
        show q_G l cx M_PM_takeNecks 0 0 0 0 25 [(2, .inl (x2 + (1 : Int32))), (0, .inr (.inr x0)), (1, .inl x1)] [] σ2 R
        refine q_let (fun v6 => q_G l cx M_PM_takeNecks 0 0 0 0 25 [(2, .inl v6), (0, .inr (.inr x0)), (1, .inl x1)] [] σ2 R) (x2 + (1 : Int32)) (fun v6 e_v6 => ?_)
        have hV := hV v6 e_v6
        refine q_goto (q_dc k_PM_takeNecks 16 rfl) rfl ?_
        exact q_less (Nat.le_of_ble_eq_true rfl) (Nat.le_of_ble_eq_true rfl) (q_subk [1, 2, 0] rfl hV))
  have hV := hV (by
      intro x0 x1 x2 σ hV
      show q_G l cx M_PM_takeNecks 0 0 0 0 30 [(0, .inr (.inr x0)), (1, .inl x1), (2, .inl x2)] [] σ R
      refine q_run k_PM_takeNecks 19 4 35 rfl ?_
      show q_G l cx M_PM_takeNecks 0 0 0 0 35 [(0, .inr (.inr x0)), (1, .inl x1), (2, .inl x2)] [.inl (24 : Int32), .inl (x2 + x1)] σ R
      refine q_icmp (q_dc k_PM_takeNecks 23 rfl) rfl (fun h1 => ?_) (fun h1 => ?_)
      · have hV := hV.1 h1
        refine q_run k_PM_takeNecks 85 4 154 rfl ?_
        show q_G l cx M_PM_takeNecks 0 0 0 0 154 [(3, .inl (0 : Int32)), (2, .inl (0 : Int32)), (0, .inr (.inr x0)), (1, .inl x1)] [] σ R
        exact q_less (Nat.le_of_ble_eq_true rfl) (Nat.le_of_ble_eq_true rfl) (q_subk [2, 1, 0] rfl hV)
      · have hV := hV.2 h1
        refine q_run k_PM_takeNecks 24 4 45 rfl ?_
        show q_G l cx M_PM_takeNecks 0 0 0 0 45 [(5, .inl (0 : Int32)), (3, .inr (.inl (4294967295 : Int64))), (0, .inr (.inr x0)), (1, .inl x1), (2, .inl x2)] [] σ R
        exact q_less (Nat.le_of_ble_eq_true rfl) (Nat.le_of_ble_eq_true rfl) (q_subk [2, 3, 4, 1, 0] rfl hV))
  have hV := hV (by
      intro x0 x1 x2 x3 x5 σ hV
      show q_G l cx M_PM_takeNecks 0 0 0 0 45 [(0, .inr (.inr x0)), (1, .inl x1), (2, .inl x2), (3, .inr (.inl x3)), (5, .inl x5)] [] σ R
      refine q_run k_PM_takeNecks 28 2 48 rfl ?_
      show q_G l cx M_PM_takeNecks 0 0 0 0 48 [(0, .inr (.inr x0)), (1, .inl x1), (2, .inl x2), (3, .inr (.inl x3)), (5, .inl x5)] [.inl x1, .inl x5] σ R
      refine q_icmp (q_dc k_PM_takeNecks 30 rfl) rfl (fun h1 => ?_) (fun h1 => ?_)
      · have hV := hV.1 h1
        refine q_run k_PM_takeNecks 51 2 90 rfl ?_
        show q_G l cx M_PM_takeNecks 0 0 0 0 90 [(5, .inl (0 : Int32)), (0, .inr (.inr x0)), (1, .inl x1), (2, .inl x2), (3, .inr (.inl x3))] [] σ R
        exact q_less (Nat.le_of_ble_eq_true rfl) (Nat.le_of_ble_eq_true rfl) (q_subk [1, 2, 3, 4, 0] rfl hV)
      · have hV := hV.2 h1
        refine q_run k_PM_takeNecks 31 2 54 rfl ?_
        show q_G l cx M_PM_takeNecks 0 0 0 0 54 [(6, .inl (0 : Int32)), (0, .inr (.inr x0)), (1, .inl x1), (2, .inl x2), (3, .inr (.inl x3)), (5, .inl x5)] [] σ R
        exact q_less (Nat.le_of_ble_eq_true rfl) (Nat.le_of_ble_eq_true rfl) (q_subk [1, 2, 3, 4, 5, 0] rfl hV))
  have hV := hV (by
      intro x0 x1 x2 x3 x5 x6 σ hV
      show q_G l cx M_PM_takeNecks 0 0 0 0 54 [(0, .inr (.inr x0)), (1, .inl x1), (2, .inl x2), (3, .inr (.inl x3)), (5, .inl x5), (6, .inl x6)] [] σ R
      refine q_run k_PM_takeNecks 33 2 57 rfl ?_
      show q_G l cx M_PM_takeNecks 0 0 0 0 57 [(0, .inr (.inr x0)), (1, .inl x1), (2, .inl x2), (3, .inr (.inl x3)), (5, .inl x5), (6, .inl x6)] [.inl x1, .inl x6] σ R
      refine q_icmp (q_dc k_PM_takeNecks 35 rfl) rfl (fun h1 => ?_) (fun h1 => ?_)
      · have hV := hV.1 h1
        refine q_run k_PM_takeNecks 49 1 84 rfl ?_
        show q_G l cx M_PM_takeNecks 0 0 0 0 84 [(5, .inl (x5 + (1 : Int32))), (0, .inr (.inr x0)), (1, .inl x1), (2, .inl x2), (3, .inr (.inl x3)), (6, .inl x6)] [] σ R
        refine q_let (fun v2 => q_G l cx M_PM_takeNecks 0 0 0 0 84 [(5, .inl v2), (0, .inr (.inr x0)), (1, .inl x1), (2, .inl x2), (3, .inr (.inl x3)), (6, .inl x6)] [] σ R) (x5 + (1 : Int32)) (fun v2 e_v2 => ?_)
        have hV := hV v2 e_v2
        refine q_goto (q_dc k_PM_takeNecks 50 rfl) rfl ?_
        exact q_less (Nat.le_of_ble_eq_true rfl) (Nat.le_of_ble_eq_true rfl) (q_subk [1, 2, 3, 4, 0] rfl hV)
      · have hV := hV.2 h1
        refine q_run k_PM_takeNecks 36 11 75 rfl ?_
        show q_K σ x0 = 7 ∧ q_K σ (q_P σ x0 28) = 1001 ∧ vp_in (x2 + x5) (q_Z σ (q_P σ x0 28)) ∧ q_G l cx M_PM_takeNecks 0 0 0 0 75 [(3, .inr (.inl (x3 &&& ((q_L σ (q_P σ x0 28) (x2 + x5).toNatClampNeg) >>> (x6.toInt64 &&& 63))))), (0, .inr (.inr x0)), (1, .inl x1), (2, .inl x2), (5, .inl x5), (6, .inl x6)] [] σ R
        obtain ⟨s4, s5, s6, hV⟩ := hV
        refine ⟨s4, s5, s6, ?_⟩
        refine q_let (fun v3 => q_G l cx M_PM_takeNecks 0 0 0 0 75 [(3, .inr (.inl v3)), (0, .inr (.inr x0)), (1, .inl x1), (2, .inl x2), (5, .inl x5), (6, .inl x6)] [] σ R) (x3 &&& ((q_L σ (q_P σ x0 28) (x2 + x5).toNatClampNeg) >>> (x6.toInt64 &&& 63))) (fun v3 e_v3 => ?_)
        have hV := hV v3 e_v3
        refine q_run k_PM_takeNecks 47 1 78 rfl ?_
        show q_G l cx M_PM_takeNecks 0 0 0 0 78 [(6, .inl (x6 + (1 : Int32))), (3, .inr (.inl v3)), (0, .inr (.inr x0)), (1, .inl x1), (2, .inl x2), (5, .inl x5)] [] σ R
        refine q_let (fun v7 => q_G l cx M_PM_takeNecks 0 0 0 0 78 [(6, .inl v7), (3, .inr (.inl v3)), (0, .inr (.inr x0)), (1, .inl x1), (2, .inl x2), (5, .inl x5)] [] σ R) (x6 + (1 : Int32)) (fun v7 e_v7 => ?_)
        have hV := hV v7 e_v7
        refine q_goto (q_dc k_PM_takeNecks 48 rfl) rfl ?_
        exact q_less (Nat.le_of_ble_eq_true rfl) (Nat.le_of_ble_eq_true rfl) (q_subk [2, 3, 4, 1, 5, 0] rfl hV))
  have hV := hV (by
      intro x0 x1 x2 x3 x5 σ hV
      show q_G l cx M_PM_takeNecks 0 0 0 0 90 [(0, .inr (.inr x0)), (1, .inl x1), (2, .inl x2), (3, .inr (.inl x3)), (5, .inl x5)] [] σ R
      refine q_run k_PM_takeNecks 53 2 93 rfl ?_
      show q_G l cx M_PM_takeNecks 0 0 0 0 93 [(0, .inr (.inr x0)), (1, .inl x1), (2, .inl x2), (3, .inr (.inl x3)), (5, .inl x5)] [.inl x1, .inl x5] σ R
      refine q_icmp (q_dc k_PM_takeNecks 55 rfl) rfl (fun h1 => ?_) (fun h1 => ?_)
      · have hV := hV.1 h1
        refine q_run k_PM_takeNecks 83 1 147 rfl ?_
        show q_G l cx M_PM_takeNecks 0 0 0 0 147 [(2, .inl (x2 + (1 : Int32))), (0, .inr (.inr x0)), (1, .inl x1), (3, .inr (.inl x3)), (5, .inl x5)] [] σ R
        refine q_let (fun v2 => q_G l cx M_PM_takeNecks 0 0 0 0 147 [(2, .inl v2), (0, .inr (.inr x0)), (1, .inl x1), (3, .inr (.inl x3)), (5, .inl x5)] [] σ R) (x2 + (1 : Int32)) (fun v2 e_v2 => ?_)
        have hV := hV v2 e_v2
        refine q_goto (q_dc k_PM_takeNecks 84 rfl) rfl ?_
        exact q_less (Nat.le_of_ble_eq_true rfl) (Nat.le_of_ble_eq_true rfl) (q_subk [1, 2, 0] rfl hV)
      · have hV := hV.2 h1
        refine q_run k_PM_takeNecks 56 2 99 rfl ?_
        show q_G l cx M_PM_takeNecks 0 0 0 0 99 [(6, .inl (0 : Int32)), (0, .inr (.inr x0)), (1, .inl x1), (2, .inl x2), (3, .inr (.inl x3)), (5, .inl x5)] [] σ R
        exact q_less (Nat.le_of_ble_eq_true rfl) (Nat.le_of_ble_eq_true rfl) (q_subk [1, 2, 3, 4, 5, 0] rfl hV))
  have hV := hV (by
      intro x0 x1 x2 x3 x5 x6 σ hV
      show q_G l cx M_PM_takeNecks 0 0 0 0 99 [(0, .inr (.inr x0)), (1, .inl x1), (2, .inl x2), (3, .inr (.inl x3)), (5, .inl x5), (6, .inl x6)] [] σ R
      refine q_run k_PM_takeNecks 58 2 102 rfl ?_
      show q_G l cx M_PM_takeNecks 0 0 0 0 102 [(0, .inr (.inr x0)), (1, .inl x1), (2, .inl x2), (3, .inr (.inl x3)), (5, .inl x5), (6, .inl x6)] [.inl x1, .inl x6] σ R
      refine q_icmp (q_dc k_PM_takeNecks 60 rfl) rfl (fun h1 => ?_) (fun h1 => ?_)
      · have hV := hV.1 h1
        refine q_run k_PM_takeNecks 81 1 141 rfl ?_
        show q_G l cx M_PM_takeNecks 0 0 0 0 141 [(5, .inl (x5 + (1 : Int32))), (0, .inr (.inr x0)), (1, .inl x1), (2, .inl x2), (3, .inr (.inl x3)), (6, .inl x6)] [] σ R
        refine q_let (fun v2 => q_G l cx M_PM_takeNecks 0 0 0 0 141 [(5, .inl v2), (0, .inr (.inr x0)), (1, .inl x1), (2, .inl x2), (3, .inr (.inl x3)), (6, .inl x6)] [] σ R) (x5 + (1 : Int32)) (fun v2 e_v2 => ?_)
        have hV := hV v2 e_v2
        refine q_goto (q_dc k_PM_takeNecks 82 rfl) rfl ?_
        exact q_less (Nat.le_of_ble_eq_true rfl) (Nat.le_of_ble_eq_true rfl) (q_subk [1, 2, 3, 4, 0] rfl hV)
      · have hV := hV.2 h1
        refine q_run k_PM_takeNecks 61 18 132 rfl ?_
        show q_K σ x0 = 7 ∧ q_K σ x0 = 7 ∧ q_K σ (q_P σ x0 30) = 1001 ∧ vp_in (x2 + x5) (q_Z σ (q_P σ x0 30)) ∧ q_K σ (q_P σ x0 30) = 1001 ∧ vp_in (x2 + x5) (q_Z σ (q_P σ x0 30)) ∧ q_G l cx M_PM_takeNecks 0 0 0 0 132 [(0, .inr (.inr x0)), (1, .inl x1), (2, .inl x2), (3, .inr (.inl x3)), (5, .inl x5), (6, .inl x6)] [] (q_wL σ (q_P σ x0 30) (x2 + x5).toNatClampNeg ((q_L σ (q_P σ x0 30) (x2 + x5).toNatClampNeg) ||| ((x3 <<< (x6.toInt64 &&& 63)) &&& (4294967295 : Int64)))) R
        obtain ⟨s4, s5, s6, s7, s8, s9, hV⟩ := hV
        refine ⟨s4, s5, s6, s7, s8, s9, ?_⟩
        refine q_let (fun σ3 => q_G l cx M_PM_takeNecks 0 0 0 0 132 [(0, .inr (.inr x0)), (1, .inl x1), (2, .inl x2), (3, .inr (.inl x3)), (5, .inl x5), (6, .inl x6)] [] σ3 R) (q_wL σ (q_P σ x0 30) (x2 + x5).toNatClampNeg ((q_L σ (q_P σ x0 30) (x2 + x5).toNatClampNeg) ||| ((x3 <<< (x6.toInt64 &&& 63)) &&& (4294967295 : Int64)))) (fun σ3 e_σ3 => ?_)
        have hV := hV σ3 e_σ3
        refine q_run k_PM_takeNecks 79 1 135 rfl ?_
        show q_G l cx M_PM_takeNecks 0 0 0 0 135 [(6, .inl (x6 + (1 : Int32))), (0, .inr (.inr x0)), (1, .inl x1), (2, .inl x2), (3, .inr (.inl x3)), (5, .inl x5)] [] σ3 R
        refine q_let (fun v10 => q_G l cx M_PM_takeNecks 0 0 0 0 135 [(6, .inl v10), (0, .inr (.inr x0)), (1, .inl x1), (2, .inl x2), (3, .inr (.inl x3)), (5, .inl x5)] [] σ3 R) (x6 + (1 : Int32)) (fun v10 e_v10 => ?_)
        have hV := hV v10 e_v10
        refine q_goto (q_dc k_PM_takeNecks 80 rfl) rfl ?_
        exact q_less (Nat.le_of_ble_eq_true rfl) (Nat.le_of_ble_eq_true rfl) (q_subk [1, 2, 3, 4, 5, 0] rfl hV))
  have hV := hV (by
      intro x0 x2 x3 σ hV
      show q_G l cx M_PM_takeNecks 0 0 0 0 154 [(0, .inr (.inr x0)), (2, .inl x2), (3, .inl x3)] [] σ R
      refine q_run k_PM_takeNecks 89 2 157 rfl ?_
      show q_G l cx M_PM_takeNecks 0 0 0 0 157 [(0, .inr (.inr x0)), (2, .inl x2), (3, .inl x3)] [.inl (24 : Int32), .inl x3] σ R
      refine q_icmp (q_dc k_PM_takeNecks 91 rfl) rfl (fun h1 => ?_) (fun h1 => ?_)
      · have hV := hV.1 h1
        refine q_run k_PM_takeNecks 118 1 205 rfl ?_
        show q_G l cx M_PM_takeNecks 0 0 0 0 205 [(0, .inr (.inr x0)), (2, .inl x2), (3, .inl x3)] [.inl x2] σ R
        exact q_zreturn (q_dc k_PM_takeNecks 119 rfl) rfl hV.1 hV.2
      · have hV := hV.2 h1
        refine q_run k_PM_takeNecks 92 1 161 rfl ?_
        show q_G l cx M_PM_takeNecks 0 0 0 0 161 [(0, .inr (.inr x0)), (2, .inl x2), (3, .inl x3)] [.inl x2] σ R
        refine q_ifz (q_dc k_PM_takeNecks 93 rfl) rfl (fun h2 => ?_) (fun h2 => ?_)
        · have hV := hV.1 h2
          exact q_less (Nat.le_of_ble_eq_true rfl) (Nat.le_of_ble_eq_true rfl) (q_subk [0, 2] rfl hV)
        · have hV := hV.2 h2
          refine q_run k_PM_takeNecks 94 9 177 rfl ?_
          show q_K σ x0 = 7 ∧ q_K σ (q_P σ x0 28) = 1001 ∧ vp_in x3 (q_Z σ (q_P σ x0 28)) ∧ q_K σ x0 = 7 ∧ q_K σ (q_P σ x0 30) = 1001 ∧ vp_in x3 (q_Z σ (q_P σ x0 30)) ∧ q_G l cx M_PM_takeNecks 0 0 0 0 177 [(0, .inr (.inr x0)), (2, .inl x2), (3, .inl x3)] [.inl (lg_cmp (q_L σ (q_P σ x0 28) x3.toNatClampNeg) (q_L σ (q_P σ x0 30) x3.toNatClampNeg))] σ R
          obtain ⟨s3, s4, s5, s6, s7, s8, hV⟩ := hV
          refine ⟨s3, s4, s5, s6, s7, s8, ?_⟩
          refine q_ifz (q_dc k_PM_takeNecks 103 rfl) rfl (fun h9 => ?_) (fun h9 => ?_)
          · have hV := hV.1 h9
            refine q_run k_PM_takeNecks 106 1 185 rfl ?_
            show q_G l cx M_PM_takeNecks 0 0 0 0 185 [(0, .inr (.inr x0)), (2, .inl x2), (3, .inl x3)] [.inl (0 : Int32)] σ R
            exact q_less (Nat.le_of_ble_eq_true rfl) (Nat.le_of_ble_eq_true rfl) (q_subk [0, 2] rfl hV)
          · have hV := hV.2 h9
            exact q_less (Nat.le_of_ble_eq_true rfl) (Nat.le_of_ble_eq_true rfl) (q_subk [0, 2] rfl hV))
  have hV := hV (by
      intro x0 x3 σ hV
      show q_G l cx M_PM_takeNecks 0 0 0 0 180 [(0, .inr (.inr x0)), (3, .inl x3)] [] σ R
      refine q_run k_PM_takeNecks 104 1 181 rfl ?_
      show q_G l cx M_PM_takeNecks 0 0 0 0 181 [(0, .inr (.inr x0)), (3, .inl x3)] [.inl (1 : Int32)] σ R
      refine q_goto (q_dc k_PM_takeNecks 105 rfl) rfl ?_
      exact q_less (Nat.le_of_ble_eq_true rfl) (Nat.le_of_ble_eq_true rfl) (q_subk [0, 1] rfl hV))
  have hV := hV (by
      intro x0 x3 y0 σ hV
      show q_G l cx M_PM_takeNecks 0 0 0 0 185 [(0, .inr (.inr x0)), (3, .inl x3)] [.inl y0] σ R
      refine q_run k_PM_takeNecks 107 9 198 rfl ?_
      show q_K σ x0 = 7 ∧ q_K σ x0 = 7 ∧ q_K σ (q_P σ x0 30) = 1001 ∧ vp_in x3 (q_Z σ (q_P σ x0 30)) ∧ q_K σ (q_P σ x0 28) = 1001 ∧ vp_in x3 (q_Z σ (q_P σ x0 28)) ∧ q_G l cx M_PM_takeNecks 0 0 0 0 198 [(2, .inl y0), (0, .inr (.inr x0)), (3, .inl x3)] [] (q_wL σ (q_P σ x0 28) x3.toNatClampNeg (q_L σ (q_P σ x0 30) x3.toNatClampNeg)) R
      obtain ⟨s2, s3, s4, s5, s6, s7, hV⟩ := hV
      refine ⟨s2, s3, s4, s5, s6, s7, ?_⟩
      refine q_let (fun σ1 => q_G l cx M_PM_takeNecks 0 0 0 0 198 [(2, .inl y0), (0, .inr (.inr x0)), (3, .inl x3)] [] σ1 R) (q_wL σ (q_P σ x0 28) x3.toNatClampNeg (q_L σ (q_P σ x0 30) x3.toNatClampNeg)) (fun σ1 e_σ1 => ?_)
      have hV := hV σ1 e_σ1
      refine q_run k_PM_takeNecks 116 1 201 rfl ?_
      show q_G l cx M_PM_takeNecks 0 0 0 0 201 [(3, .inl (x3 + (1 : Int32))), (2, .inl y0), (0, .inr (.inr x0))] [] σ1 R
      refine q_let (fun v8 => q_G l cx M_PM_takeNecks 0 0 0 0 201 [(3, .inl v8), (2, .inl y0), (0, .inr (.inr x0))] [] σ1 R) (x3 + (1 : Int32)) (fun v8 e_v8 => ?_)
      have hV := hV v8 e_v8
      refine q_goto (q_dc k_PM_takeNecks 117 rfl) rfl ?_
      exact q_less (Nat.le_of_ble_eq_true rfl) (Nat.le_of_ble_eq_true rfl) (q_subk [2, 1, 0] rfl hV))
  refine q_run k_PM_takeNecks 0 5 7 rfl ?_
  show q_K σ x0 = 7 ∧ (q_K σ (q_P σ x0 20) = 1000 ∨ q_K σ (q_P σ x0 20) = 2000) ∧ vp_in (2 : Int32) (q_Z σ (q_P σ x0 20)) ∧ q_G l cx M_PM_takeNecks 0 0 0 0 7 [(1, .inl (q_I σ (q_P σ x0 20) (2 : Int32).toNatClampNeg)), (0, .inr (.inr x0))] [] σ R
  obtain ⟨s2, s3, s4, hV⟩ := hV
  refine ⟨s2, s3, s4, ?_⟩
  refine q_let (fun v1 => q_G l cx M_PM_takeNecks 0 0 0 0 7 [(1, .inl v1), (0, .inr (.inr x0))] [] σ R) (q_I σ (q_P σ x0 20) (2 : Int32).toNatClampNeg) (fun v1 e_v1 => ?_)
  have hV := hV v1 e_v1
  refine q_run k_PM_takeNecks 5 2 9 rfl ?_
  show q_G l cx M_PM_takeNecks 0 0 0 0 9 [(2, .inl (0 : Int32)), (1, .inl v1), (0, .inr (.inr x0))] [] σ R
  exact q_less (Nat.le_of_ble_eq_true rfl) (Nat.le_of_ble_eq_true rfl) (q_subk [2, 1, 0] rfl hV)
def V_PM_hatchFree (x0 : Nat) (x1 : Int32) (σ : q_S) (R : q_O → q_S → Prop) : Prop :=
  ∀ (P17 : Nat → Int32 → Int32 → Int64 → Int32 → q_S → Prop),
  ∀ (P47 : Nat → Int32 → Int32 → Int32 → Int64 → Int64 → q_S → Prop),
  ∀ (P58 : Nat → Int32 → Int32 → Int64 → Int32 → q_S → Prop),
  ∀ (P94 : Nat → Int32 → Int32 → Int64 → Int32 → q_S → Prop),
  (∀ (x0 : Nat) (x1 : Int32) (x2 : Int32) (x3 : Int64) (x5 : Int32) (σ : q_S), ((((32 : Int32) ≤ x5 → P58 x0 x1 x2 x3 (0 : Int32) σ) ∧ (¬ ((32 : Int32) ≤ x5) → ¬ x2 = 0 ∧ q_K σ x0 = 7 ∧ (q_K σ (q_P σ x0 11) = 1000 ∨ q_K σ (q_P σ x0 11) = 2000) ∧ vp_in x1 (q_Z σ (q_P σ x0 11)) ∧ (((q_I σ (q_P σ x0 11) x1.toNatClampNeg) ≤ (x5 - x5 / x2 * x2) → P47 x0 x1 x2 x5 (0 : Int64) x3 σ) ∧ (¬ ((q_I σ (q_P σ x0 11) x1.toNatClampNeg) ≤ (x5 - x5 / x2 * x2)) → P47 x0 x1 x2 x5 (f_PM_bit x5) x3 σ))))) → P17 x0 x1 x2 x3 x5 σ) →
  (∀ (x0 : Nat) (x1 : Int32) (x2 : Int32) (x5 : Int32) (y0 : Int64) (y1 : Int64) (σ : q_S), (∀ v1 : Int64, v1 = y1 ||| y0 → ∀ v2 : Int32, v2 = x5 + (1 : Int32) → P17 x0 x1 x2 v1 v2 σ) → P47 x0 x1 x2 x5 y0 y1 σ) →
  (∀ (x0 : Nat) (x1 : Int32) (x2 : Int32) (x3 : Int64) (x5 : Int32) (σ : q_S), ((((24 : Int32) ≤ x5 → R (.inl none) σ) ∧ (¬ ((24 : Int32) ≤ x5) → ¬ x2 = 0 ∧ q_K σ x0 = 7 ∧ (q_K σ (q_P σ x0 11) = 1000 ∨ q_K σ (q_P σ x0 11) = 2000) ∧ vp_in x1 (q_Z σ (q_P σ x0 11)) ∧ (((x5 - x5 / x2 * x2) < (q_I σ (q_P σ x0 11) x1.toNatClampNeg) → P94 x0 x1 x2 x3 x5 σ) ∧ (¬ ((x5 - x5 / x2 * x2) < (q_I σ (q_P σ x0 11) x1.toNatClampNeg)) → q_K σ x0 = 7 ∧ q_K σ x0 = 7 ∧ q_K σ (q_P σ x0 28) = 1001 ∧ vp_in x5 (q_Z σ (q_P σ x0 28)) ∧ q_K σ (q_P σ x0 28) = 1001 ∧ vp_in x5 (q_Z σ (q_P σ x0 28)) ∧ ∀ σ7 : q_S, σ7 = q_wL σ (q_P σ x0 28) x5.toNatClampNeg ((q_L σ (q_P σ x0 28) x5.toNatClampNeg) &&& x3) → P94 x0 x1 x2 x3 x5 σ7))))) → P58 x0 x1 x2 x3 x5 σ) →
  (∀ (x0 : Nat) (x1 : Int32) (x2 : Int32) (x3 : Int64) (x5 : Int32) (σ : q_S), (∀ v1 : Int32, v1 = x5 + (1 : Int32) → P58 x0 x1 x2 x3 v1 σ) → P94 x0 x1 x2 x3 x5 σ) →
  q_K σ x0 = 7 ∧ (q_K σ (q_P σ x0 10) = 1000 ∨ q_K σ (q_P σ x0 10) = 2000) ∧ vp_in x1 (q_Z σ (q_P σ x0 10)) ∧ ∀ v1 : Int32, v1 = q_I σ (q_P σ x0 10) x1.toNatClampNeg → ((¬ v1 = (0 : Int32) → P17 x0 x1 v1 (0 : Int64) (0 : Int32) σ) ∧ (¬ (¬ v1 = (0 : Int32)) → R (.inl none) σ))
set_option maxRecDepth 100000 in
theorem t_PM_hatchFree {l : Launch} {cx : q_C} {x0 : Nat} {x1 : Int32} {σ : q_S} {R : q_O → q_S → Prop} (hV : V_PM_hatchFree x0 x1 σ R) : q_Ct l cx M_PM_hatchFree 1 64 0 0 [q_r x0, q_i x1] σ R := by
  refine q_Ct.of p_PM_hatchFree c_PM_hatchFree rfl (Nat.le_of_ble_eq_true rfl) ?_
  have hV := hV (fun (x0 : Nat) (x1 : Int32) (x2 : Int32) (x3 : Int64) (x5 : Int32) (σ : q_S) => q_G l cx M_PM_hatchFree 1 64 0 0 17 [(0, .inr (.inr x0)), (1, .inl x1), (2, .inl x2), (3, .inr (.inl x3)), (5, .inl x5)] [] σ R) (fun (x0 : Nat) (x1 : Int32) (x2 : Int32) (x5 : Int32) (y0 : Int64) (y1 : Int64) (σ : q_S) => q_G l cx M_PM_hatchFree 1 64 0 0 47 [(0, .inr (.inr x0)), (1, .inl x1), (2, .inl x2), (5, .inl x5)] [.inr (.inl y0), .inr (.inl y1)] σ R) (fun (x0 : Nat) (x1 : Int32) (x2 : Int32) (x3 : Int64) (x5 : Int32) (σ : q_S) => q_G l cx M_PM_hatchFree 1 64 0 0 58 [(0, .inr (.inr x0)), (1, .inl x1), (2, .inl x2), (3, .inr (.inl x3)), (5, .inl x5)] [] σ R) (fun (x0 : Nat) (x1 : Int32) (x2 : Int32) (x3 : Int64) (x5 : Int32) (σ : q_S) => q_G l cx M_PM_hatchFree 1 64 0 0 94 [(0, .inr (.inr x0)), (1, .inl x1), (2, .inl x2), (3, .inr (.inl x3)), (5, .inl x5)] [] σ R)
  have hV := hV (by
      intro x0 x1 x2 x3 x5 σ hV
      show q_G l cx M_PM_hatchFree 1 64 0 0 17 [(0, .inr (.inr x0)), (1, .inl x1), (2, .inl x2), (3, .inr (.inl x3)), (5, .inl x5)] [] σ R
      refine q_run k_PM_hatchFree 12 2 21 rfl ?_
      show q_G l cx M_PM_hatchFree 1 64 0 0 21 [(0, .inr (.inr x0)), (1, .inl x1), (2, .inl x2), (3, .inr (.inl x3)), (5, .inl x5)] [.inl (32 : Int32), .inl x5] σ R
      refine q_icmp (q_dc k_PM_hatchFree 14 rfl) rfl (fun h1 => ?_) (fun h1 => ?_)
      · have hV := hV.1 h1
        refine q_run k_PM_hatchFree 32 2 58 rfl ?_
        show q_G l cx M_PM_hatchFree 1 64 0 0 58 [(5, .inl (0 : Int32)), (0, .inr (.inr x0)), (1, .inl x1), (2, .inl x2), (3, .inr (.inl x3))] [] σ R
        exact q_less (Nat.le_of_ble_eq_true rfl) (Nat.le_of_ble_eq_true rfl) (q_subk [1, 2, 3, 4, 0] rfl hV)
      · have hV := hV.2 h1
        refine q_run k_PM_hatchFree 15 8 35 rfl ?_
        show ¬ x2 = 0 ∧ q_K σ x0 = 7 ∧ (q_K σ (q_P σ x0 11) = 1000 ∨ q_K σ (q_P σ x0 11) = 2000) ∧ vp_in x1 (q_Z σ (q_P σ x0 11)) ∧ q_G l cx M_PM_hatchFree 1 64 0 0 35 [(0, .inr (.inr x0)), (1, .inl x1), (2, .inl x2), (3, .inr (.inl x3)), (5, .inl x5)] [.inl (q_I σ (q_P σ x0 11) x1.toNatClampNeg), .inl (x5 - x5 / x2 * x2), .inr (.inl x3)] σ R
        obtain ⟨s2, s3, s4, s5, hV⟩ := hV
        refine ⟨s2, s3, s4, s5, ?_⟩
        refine q_icmp (q_dc k_PM_hatchFree 23 rfl) rfl (fun h6 => ?_) (fun h6 => ?_)
        · have hV := hV.1 h6
          refine q_run k_PM_hatchFree 27 1 47 rfl ?_
          show q_G l cx M_PM_hatchFree 1 64 0 0 47 [(0, .inr (.inr x0)), (1, .inl x1), (2, .inl x2), (3, .inr (.inl x3)), (5, .inl x5)] [.inr (.inl (0 : Int64)), .inr (.inl x3)] σ R
          exact q_less (Nat.le_of_ble_eq_true rfl) (Nat.le_of_ble_eq_true rfl) (q_subk [0, 1, 2, 4] rfl hV)
        · have hV := hV.2 h6
          refine q_run k_PM_hatchFree 24 1 40 rfl ?_
          show q_G l cx M_PM_hatchFree 1 64 0 0 40 [(0, .inr (.inr x0)), (1, .inl x1), (2, .inl x2), (3, .inr (.inl x3)), (5, .inl x5)] [.inl x5, .inr (.inl x3)] σ R
          refine q_callS (st := [.inr (.inl x3)]) (t_PM_bit (l := l) (cx := cx) (σ := σ) x5) (q_dc k_PM_hatchFree 25 rfl) (Or.inl (List.mem_of_getElem? (i := 1007) (by decide +kernel))) w_PM_bit s_PM_bit a_PM_bit (q_wt (Nat.le_of_ble_eq_true rfl)) ⟨Nat.le_of_ble_eq_true rfl, Nat.le_of_ble_eq_true rfl⟩ (fun v9 τ9 q9 => ?_) (fun n9 τ9 q9 => by cases q9.1)
          obtain ⟨q8, q7⟩ := q9
          cases q8
          rw [q7]
          show q_G l cx M_PM_hatchFree 1 64 0 0 43 [(0, .inr (.inr x0)), (1, .inl x1), (2, .inl x2), (3, .inr (.inl x3)), (5, .inl x5)] [.inr (.inl (f_PM_bit x5)), .inr (.inl x3)] σ R
          refine q_goto (q_dc k_PM_hatchFree 26 rfl) rfl ?_
          exact q_less (Nat.le_of_ble_eq_true rfl) (Nat.le_of_ble_eq_true rfl) (q_subk [0, 1, 2, 4] rfl hV))
  have hV := hV (by
      intro x0 x1 x2 x5 y0 y1 σ hV
      show q_G l cx M_PM_hatchFree 1 64 0 0 47 [(0, .inr (.inr x0)), (1, .inl x1), (2, .inl x2), (5, .inl x5)] [.inr (.inl y0), .inr (.inl y1)] σ R
      refine q_run k_PM_hatchFree 28 2 49 rfl ?_
      show q_G l cx M_PM_hatchFree 1 64 0 0 49 [(3, .inr (.inl (y1 ||| y0))), (0, .inr (.inr x0)), (1, .inl x1), (2, .inl x2), (5, .inl x5)] [] σ R
      refine q_let (fun v1 => q_G l cx M_PM_hatchFree 1 64 0 0 49 [(3, .inr (.inl v1)), (0, .inr (.inr x0)), (1, .inl x1), (2, .inl x2), (5, .inl x5)] [] σ R) (y1 ||| y0) (fun v1 e_v1 => ?_)
      have hV := hV v1 e_v1
      refine q_run k_PM_hatchFree 30 1 52 rfl ?_
      show q_G l cx M_PM_hatchFree 1 64 0 0 52 [(5, .inl (x5 + (1 : Int32))), (3, .inr (.inl v1)), (0, .inr (.inr x0)), (1, .inl x1), (2, .inl x2)] [] σ R
      refine q_let (fun v2 => q_G l cx M_PM_hatchFree 1 64 0 0 52 [(5, .inl v2), (3, .inr (.inl v1)), (0, .inr (.inr x0)), (1, .inl x1), (2, .inl x2)] [] σ R) (x5 + (1 : Int32)) (fun v2 e_v2 => ?_)
      have hV := hV v2 e_v2
      refine q_goto (q_dc k_PM_hatchFree 31 rfl) rfl ?_
      exact q_less (Nat.le_of_ble_eq_true rfl) (Nat.le_of_ble_eq_true rfl) (q_subk [2, 3, 4, 1, 0] rfl hV))
  have hV := hV (by
      intro x0 x1 x2 x3 x5 σ hV
      show q_G l cx M_PM_hatchFree 1 64 0 0 58 [(0, .inr (.inr x0)), (1, .inl x1), (2, .inl x2), (3, .inr (.inl x3)), (5, .inl x5)] [] σ R
      refine q_run k_PM_hatchFree 34 2 62 rfl ?_
      show q_G l cx M_PM_hatchFree 1 64 0 0 62 [(0, .inr (.inr x0)), (1, .inl x1), (2, .inl x2), (3, .inr (.inl x3)), (5, .inl x5)] [.inl (24 : Int32), .inl x5] σ R
      refine q_icmp (q_dc k_PM_hatchFree 36 rfl) rfl (fun h1 => ?_) (fun h1 => ?_)
      · have hV := hV.1 h1
        exact q_vreturn (q_dc k_PM_hatchFree 57 rfl) rfl hV
      · have hV := hV.2 h1
        refine q_run k_PM_hatchFree 37 7 75 rfl ?_
        show ¬ x2 = 0 ∧ q_K σ x0 = 7 ∧ (q_K σ (q_P σ x0 11) = 1000 ∨ q_K σ (q_P σ x0 11) = 2000) ∧ vp_in x1 (q_Z σ (q_P σ x0 11)) ∧ q_G l cx M_PM_hatchFree 1 64 0 0 75 [(0, .inr (.inr x0)), (1, .inl x1), (2, .inl x2), (3, .inr (.inl x3)), (5, .inl x5)] [.inl (q_I σ (q_P σ x0 11) x1.toNatClampNeg), .inl (x5 - x5 / x2 * x2)] σ R
        obtain ⟨s2, s3, s4, s5, hV⟩ := hV
        refine ⟨s2, s3, s4, s5, ?_⟩
        refine q_icmp (q_dc k_PM_hatchFree 44 rfl) rfl (fun h6 => ?_) (fun h6 => ?_)
        · have hV := hV.1 h6
          exact q_less (Nat.le_of_ble_eq_true rfl) (Nat.le_of_ble_eq_true rfl) (q_subk [0, 1, 2, 3, 4] rfl hV)
        · have hV := hV.2 h6
          refine q_run k_PM_hatchFree 45 10 94 rfl ?_
          show q_K σ x0 = 7 ∧ q_K σ x0 = 7 ∧ q_K σ (q_P σ x0 28) = 1001 ∧ vp_in x5 (q_Z σ (q_P σ x0 28)) ∧ q_K σ (q_P σ x0 28) = 1001 ∧ vp_in x5 (q_Z σ (q_P σ x0 28)) ∧ q_G l cx M_PM_hatchFree 1 64 0 0 94 [(0, .inr (.inr x0)), (1, .inl x1), (2, .inl x2), (3, .inr (.inl x3)), (5, .inl x5)] [] (q_wL σ (q_P σ x0 28) x5.toNatClampNeg ((q_L σ (q_P σ x0 28) x5.toNatClampNeg) &&& x3)) R
          obtain ⟨s8, s9, s10, s11, s12, s13, hV⟩ := hV
          refine ⟨s8, s9, s10, s11, s12, s13, ?_⟩
          refine q_let (fun σ7 => q_G l cx M_PM_hatchFree 1 64 0 0 94 [(0, .inr (.inr x0)), (1, .inl x1), (2, .inl x2), (3, .inr (.inl x3)), (5, .inl x5)] [] σ7 R) (q_wL σ (q_P σ x0 28) x5.toNatClampNeg ((q_L σ (q_P σ x0 28) x5.toNatClampNeg) &&& x3)) (fun σ7 e_σ7 => ?_)
          have hV := hV σ7 e_σ7
          exact q_less (Nat.le_of_ble_eq_true rfl) (Nat.le_of_ble_eq_true rfl) (q_subk [0, 1, 2, 3, 4] rfl hV))
  have hV := hV (by
      intro x0 x1 x2 x3 x5 σ hV
      show q_G l cx M_PM_hatchFree 1 64 0 0 94 [(0, .inr (.inr x0)), (1, .inl x1), (2, .inl x2), (3, .inr (.inl x3)), (5, .inl x5)] [] σ R
      refine q_run k_PM_hatchFree 55 1 97 rfl ?_
      show q_G l cx M_PM_hatchFree 1 64 0 0 97 [(5, .inl (x5 + (1 : Int32))), (0, .inr (.inr x0)), (1, .inl x1), (2, .inl x2), (3, .inr (.inl x3))] [] σ R
      refine q_let (fun v1 => q_G l cx M_PM_hatchFree 1 64 0 0 97 [(5, .inl v1), (0, .inr (.inr x0)), (1, .inl x1), (2, .inl x2), (3, .inr (.inl x3))] [] σ R) (x5 + (1 : Int32)) (fun v1 e_v1 => ?_)
      have hV := hV v1 e_v1
      refine q_goto (q_dc k_PM_hatchFree 56 rfl) rfl ?_
      exact q_less (Nat.le_of_ble_eq_true rfl) (Nat.le_of_ble_eq_true rfl) (q_subk [1, 2, 3, 4, 0] rfl hV))
  refine q_run k_PM_hatchFree 0 5 7 rfl ?_
  show q_K σ x0 = 7 ∧ (q_K σ (q_P σ x0 10) = 1000 ∨ q_K σ (q_P σ x0 10) = 2000) ∧ vp_in x1 (q_Z σ (q_P σ x0 10)) ∧ q_G l cx M_PM_hatchFree 1 64 0 0 7 [(2, .inl (q_I σ (q_P σ x0 10) x1.toNatClampNeg)), (0, .inr (.inr x0)), (1, .inl x1)] [] σ R
  obtain ⟨s2, s3, s4, hV⟩ := hV
  refine ⟨s2, s3, s4, ?_⟩
  refine q_let (fun v1 => q_G l cx M_PM_hatchFree 1 64 0 0 7 [(2, .inl v1), (0, .inr (.inr x0)), (1, .inl x1)] [] σ R) (q_I σ (q_P σ x0 10) x1.toNatClampNeg) (fun v1 e_v1 => ?_)
  have hV := hV v1 e_v1
  refine q_run k_PM_hatchFree 5 1 8 rfl ?_
  show q_G l cx M_PM_hatchFree 1 64 0 0 8 [(2, .inl v1), (0, .inr (.inr x0)), (1, .inl x1)] [.inl v1] σ R
  refine q_ifz (q_dc k_PM_hatchFree 6 rfl) rfl (fun h5 => ?_) (fun h5 => ?_)
  · have hV := hV.1 h5
    refine q_run k_PM_hatchFree 8 4 17 rfl ?_
    show q_G l cx M_PM_hatchFree 1 64 0 0 17 [(5, .inl (0 : Int32)), (3, .inr (.inl (0 : Int64))), (2, .inl v1), (0, .inr (.inr x0)), (1, .inl x1)] [] σ R
    exact q_less (Nat.le_of_ble_eq_true rfl) (Nat.le_of_ble_eq_true rfl) (q_subk [3, 4, 2, 1, 0] rfl hV)
  · have hV := hV.2 h5
    exact q_vreturn (q_dc k_PM_hatchFree 7 rfl) rfl hV
def V_PM_nextPiece (x0 : Nat) (σ : q_S) (R : q_O → q_S → Prop) : Prop :=
  ∀ (P4 : Nat → Int32 → Int32 → q_S → Prop),
  ∀ (P58 : Nat → Int32 → Int32 → q_S → Prop),
  ∀ (P66 : Nat → Int32 → Int32 → q_S → Prop),
  ∀ (P74 : Nat → Int32 → Int32 → Int32 → q_S → Prop),
  ∀ (P106 : Nat → Int32 → Int32 → Int32 → Int64 → Int64 → q_S → Prop),
  ∀ (P125 : Nat → Int32 → Int32 → Int32 → Int64 → Int64 → q_S → Prop),
  ∀ (P155 : Nat → Int32 → Int32 → Int64 → q_S → Prop),
  ∀ (P160 : Nat → Int32 → Int32 → Int64 → Int32 → q_S → Prop),
  ∀ (P180 : Nat → Int32 → Int32 → q_S → Prop),
  (∀ (x0 : Nat) (x1 : Int32) (x2 : Int32) (σ : q_S), ((((24 : Int32) ≤ x2 → P66 x0 x1 x1 σ) ∧ (¬ ((24 : Int32) ≤ x2) → q_K σ x0 = 7 ∧ q_K σ (q_P σ x0 29) = 1001 ∧ vp_in x2 (q_Z σ (q_P σ x0 29)) ∧ ∀ σ2 : q_S, σ2 = q_wL σ (q_P σ x0 29) x2.toNatClampNeg (0 : Int64) → ((¬ x1 = (0 : Int32) → P58 x0 x1 x2 σ2) ∧ (¬ (¬ x1 = (0 : Int32)) → q_K σ2 x0 = 7 ∧ q_K σ2 (q_P σ2 x0 31) = 1001 ∧ vp_in x2 (q_Z σ2 (q_P σ2 x0 31)) ∧ ((¬ (lg_cmp (q_L σ2 (q_P σ2 x0 31) x2.toNatClampNeg) (0 : Int64)) = (0 : Int32) → q_K σ2 x0 = 7 ∧ q_K σ2 x0 = 7 ∧ q_K σ2 (q_P σ2 x0 31) = 1001 ∧ vp_in x2 (q_Z σ2 (q_P σ2 x0 31)) ∧ q_K σ2 x0 = 7 ∧ q_K σ2 (q_P σ2 x0 31) = 1001 ∧ vp_in x2 (q_Z σ2 (q_P σ2 x0 31)) ∧ q_K σ2 (q_P σ2 x0 29) = 1001 ∧ vp_in x2 (q_Z σ2 (q_P σ2 x0 29)) ∧ ∀ σ11 : q_S, σ11 = q_wL σ2 (q_P σ2 x0 29) x2.toNatClampNeg ((q_L σ2 (q_P σ2 x0 31) x2.toNatClampNeg) &&& ((0 : Int64) - (q_L σ2 (q_P σ2 x0 31) x2.toNatClampNeg))) → P58 x0 (1 : Int32) x2 σ11) ∧ (¬ (¬ (lg_cmp (q_L σ2 (q_P σ2 x0 31) x2.toNatClampNeg) (0 : Int64)) = (0 : Int32)) → P58 x0 x1 x2 σ2))))))) → P4 x0 x1 x2 σ) →
  (∀ (x0 : Nat) (x1 : Int32) (x2 : Int32) (σ : q_S), (∀ v1 : Int32, v1 = x2 + (1 : Int32) → P4 x0 x1 v1 σ) → P58 x0 x1 x2 σ) →
  (∀ (x0 : Nat) (x1 : Int32) (x2 : Int32) (σ : q_S), (((x2 = (0 : Int32) → P180 x0 x1 (0 : Int32) σ) ∧ (¬ (x2 = (0 : Int32)) → P74 x0 x1 (0 : Int32) (0 : Int32) σ))) → P66 x0 x1 x2 σ) →
  (∀ (x0 : Nat) (x1 : Int32) (x2 : Int32) (x3 : Int32) (σ : q_S), ((((24 : Int32) ≤ x3 → P66 x0 x1 x2 σ) ∧ (¬ ((24 : Int32) ≤ x3) → q_K σ x0 = 7 ∧ q_K σ (q_P σ x0 29) = 1001 ∧ vp_in x3 (q_Z σ (q_P σ x0 29)) ∧ V_PM_wide (q_L σ (q_P σ x0 29) x3.toNatClampNeg) (1 : Int32) σ (q_cl' (fun v7 σ8 => ((x3 ≤ (0 : Int32) → P106 x0 x1 x2 x3 (0 : Int64) v7 σ8) ∧ (¬ (x3 ≤ (0 : Int32)) → q_K σ8 x0 = 7 ∧ q_K σ8 (q_P σ8 x0 29) = 1001 ∧ vp_in (x3 - (1 : Int32)) (q_Z σ8 (q_P σ8 x0 29)) ∧ P106 x0 x1 x2 x3 (q_L σ8 (q_P σ8 x0 29) (x3 - (1 : Int32)).toNatClampNeg) v7 σ8))) (fun n9 σ9 => R (.inr n9) σ9))))) → P74 x0 x1 x2 x3 σ) →
  (∀ (x0 : Nat) (x1 : Int32) (x2 : Int32) (x3 : Int32) (y0 : Int64) (y1 : Int64) (σ : q_S), ((((23 : Int32) ≤ x3 → P125 x0 x1 x2 x3 (0 : Int64) (y1 ||| y0) σ) ∧ (¬ ((23 : Int32) ≤ x3) → q_K σ x0 = 7 ∧ q_K σ (q_P σ x0 29) = 1001 ∧ vp_in (x3 + (1 : Int32)) (q_Z σ (q_P σ x0 29)) ∧ P125 x0 x1 x2 x3 (q_L σ (q_P σ x0 29) (x3 + (1 : Int32)).toNatClampNeg) (y1 ||| y0) σ))) → P106 x0 x1 x2 x3 y0 y1 σ) →
  (∀ (x0 : Nat) (x1 : Int32) (x2 : Int32) (x3 : Int32) (y0 : Int64) (y1 : Int64) (σ : q_S), (∀ v1 : Int64, v1 = y1 ||| y0 → q_K σ x0 = 7 ∧ q_K σ (q_P σ x0 31) = 1001 ∧ vp_in x3 (q_Z σ (q_P σ x0 31)) ∧ ∀ v2 : Int64, v2 = v1 &&& (q_L σ (q_P σ x0 31) x3.toNatClampNeg) → ((¬ x2 = (0 : Int32) → P155 x0 x1 x3 v2 σ) ∧ (¬ (¬ x2 = (0 : Int32)) → q_K σ x0 = 7 ∧ q_K σ (q_P σ x0 29) = 1001 ∧ vp_in x3 (q_Z σ (q_P σ x0 29)) ∧ (((lg_cmp v2 (q_L σ (q_P σ x0 29) x3.toNatClampNeg)) = (0 : Int32) → P160 x0 x1 x3 v2 (0 : Int32) σ) ∧ (¬ ((lg_cmp v2 (q_L σ (q_P σ x0 29) x3.toNatClampNeg)) = (0 : Int32)) → P155 x0 x1 x3 v2 σ))))) → P125 x0 x1 x2 x3 y0 y1 σ) →
  (∀ (x0 : Nat) (x1 : Int32) (x3 : Int32) (x4 : Int64) (σ : q_S), (P160 x0 x1 x3 x4 (1 : Int32) σ) → P155 x0 x1 x3 x4 σ) →
  (∀ (x0 : Nat) (x1 : Int32) (x3 : Int32) (x4 : Int64) (y0 : Int32) (σ : q_S), (q_K σ x0 = 7 ∧ q_K σ (q_P σ x0 29) = 1001 ∧ vp_in x3 (q_Z σ (q_P σ x0 29)) ∧ ∀ σ1 : q_S, σ1 = q_wL σ (q_P σ x0 29) x3.toNatClampNeg x4 → ∀ v5 : Int32, v5 = x3 + (1 : Int32) → P74 x0 x1 y0 v5 σ1) → P160 x0 x1 x3 x4 y0 σ) →
  (∀ (x0 : Nat) (x1 : Int32) (x3 : Int32) (σ : q_S), ((((24 : Int32) ≤ x3 → ((x1 = 0 ∨ x1 = 1) ∧ R (.inl (some (.inl x1))) σ)) ∧ (¬ ((24 : Int32) ≤ x3) → q_K σ x0 = 7 ∧ q_K σ x0 = 7 ∧ q_K σ (q_P σ x0 31) = 1001 ∧ vp_in x3 (q_Z σ (q_P σ x0 31)) ∧ q_K σ x0 = 7 ∧ q_K σ (q_P σ x0 29) = 1001 ∧ vp_in x3 (q_Z σ (q_P σ x0 29)) ∧ q_K σ (q_P σ x0 31) = 1001 ∧ vp_in x3 (q_Z σ (q_P σ x0 31)) ∧ ∀ σ2 : q_S, σ2 = q_wL σ (q_P σ x0 31) x3.toNatClampNeg ((q_L σ (q_P σ x0 31) x3.toNatClampNeg) &&& ((q_L σ (q_P σ x0 29) x3.toNatClampNeg) ^^^ (-1 : Int64))) → ∀ v12 : Int32, v12 = x3 + (1 : Int32) → P180 x0 x1 v12 σ2))) → P180 x0 x1 x3 σ) →
  P4 x0 (0 : Int32) (0 : Int32) σ
set_option maxRecDepth 100000 in
theorem t_PM_nextPiece {l : Launch} {cx : q_C} {x0 : Nat} {σ : q_S} {R : q_O → q_S → Prop} (hV : V_PM_nextPiece x0 σ R) : q_Ct l cx M_PM_nextPiece 1 64 0 0 [q_r x0] σ R := by
  refine q_Ct.of p_PM_nextPiece c_PM_nextPiece rfl (Nat.le_of_ble_eq_true rfl) ?_
  have hV := hV (fun (x0 : Nat) (x1 : Int32) (x2 : Int32) (σ : q_S) => q_G l cx M_PM_nextPiece 1 64 0 0 4 [(0, .inr (.inr x0)), (1, .inl x1), (2, .inl x2)] [] σ R) (fun (x0 : Nat) (x1 : Int32) (x2 : Int32) (σ : q_S) => q_G l cx M_PM_nextPiece 1 64 0 0 58 [(0, .inr (.inr x0)), (1, .inl x1), (2, .inl x2)] [] σ R) (fun (x0 : Nat) (x1 : Int32) (x2 : Int32) (σ : q_S) => q_G l cx M_PM_nextPiece 1 64 0 0 66 [(0, .inr (.inr x0)), (1, .inl x1), (2, .inl x2)] [] σ R) (fun (x0 : Nat) (x1 : Int32) (x2 : Int32) (x3 : Int32) (σ : q_S) => q_G l cx M_PM_nextPiece 1 64 0 0 74 [(0, .inr (.inr x0)), (1, .inl x1), (2, .inl x2), (3, .inl x3)] [] σ R) (fun (x0 : Nat) (x1 : Int32) (x2 : Int32) (x3 : Int32) (y0 : Int64) (y1 : Int64) (σ : q_S) => q_G l cx M_PM_nextPiece 1 64 0 0 106 [(0, .inr (.inr x0)), (1, .inl x1), (2, .inl x2), (3, .inl x3)] [.inr (.inl y0), .inr (.inl y1)] σ R) (fun (x0 : Nat) (x1 : Int32) (x2 : Int32) (x3 : Int32) (y0 : Int64) (y1 : Int64) (σ : q_S) => q_G l cx M_PM_nextPiece 1 64 0 0 125 [(0, .inr (.inr x0)), (1, .inl x1), (2, .inl x2), (3, .inl x3)] [.inr (.inl y0), .inr (.inl y1)] σ R) (fun (x0 : Nat) (x1 : Int32) (x3 : Int32) (x4 : Int64) (σ : q_S) => q_G l cx M_PM_nextPiece 1 64 0 0 155 [(0, .inr (.inr x0)), (1, .inl x1), (3, .inl x3), (4, .inr (.inl x4))] [] σ R) (fun (x0 : Nat) (x1 : Int32) (x3 : Int32) (x4 : Int64) (y0 : Int32) (σ : q_S) => q_G l cx M_PM_nextPiece 1 64 0 0 160 [(0, .inr (.inr x0)), (1, .inl x1), (3, .inl x3), (4, .inr (.inl x4))] [.inl y0] σ R) (fun (x0 : Nat) (x1 : Int32) (x3 : Int32) (σ : q_S) => q_G l cx M_PM_nextPiece 1 64 0 0 180 [(0, .inr (.inr x0)), (1, .inl x1), (3, .inl x3)] [] σ R)
  have hV := hV (by
      intro x0 x1 x2 σ hV
      show q_G l cx M_PM_nextPiece 1 64 0 0 4 [(0, .inr (.inr x0)), (1, .inl x1), (2, .inl x2)] [] σ R
      refine q_run k_PM_nextPiece 4 2 7 rfl ?_
      show q_G l cx M_PM_nextPiece 1 64 0 0 7 [(0, .inr (.inr x0)), (1, .inl x1), (2, .inl x2)] [.inl (24 : Int32), .inl x2] σ R
      refine q_icmp (q_dc k_PM_nextPiece 6 rfl) rfl (fun h1 => ?_) (fun h1 => ?_)
      · have hV := hV.1 h1
        refine q_run k_PM_nextPiece 41 2 66 rfl ?_
        show q_G l cx M_PM_nextPiece 1 64 0 0 66 [(2, .inl x1), (0, .inr (.inr x0)), (1, .inl x1)] [] σ R
        exact q_less (Nat.le_of_ble_eq_true rfl) (Nat.le_of_ble_eq_true rfl) (q_subk [1, 2, 0] rfl hV)
      · have hV := hV.2 h1
        refine q_run k_PM_nextPiece 7 5 17 rfl ?_
        show q_K σ x0 = 7 ∧ q_K σ (q_P σ x0 29) = 1001 ∧ vp_in x2 (q_Z σ (q_P σ x0 29)) ∧ q_G l cx M_PM_nextPiece 1 64 0 0 17 [(0, .inr (.inr x0)), (1, .inl x1), (2, .inl x2)] [] (q_wL σ (q_P σ x0 29) x2.toNatClampNeg (0 : Int64)) R
        obtain ⟨s3, s4, s5, hV⟩ := hV
        refine ⟨s3, s4, s5, ?_⟩
        refine q_let (fun σ2 => q_G l cx M_PM_nextPiece 1 64 0 0 17 [(0, .inr (.inr x0)), (1, .inl x1), (2, .inl x2)] [] σ2 R) (q_wL σ (q_P σ x0 29) x2.toNatClampNeg (0 : Int64)) (fun σ2 e_σ2 => ?_)
        have hV := hV σ2 e_σ2
        refine q_run k_PM_nextPiece 12 1 18 rfl ?_
        show q_G l cx M_PM_nextPiece 1 64 0 0 18 [(0, .inr (.inr x0)), (1, .inl x1), (2, .inl x2)] [.inl x1] σ2 R
        refine q_ifz (q_dc k_PM_nextPiece 13 rfl) rfl (fun h6 => ?_) (fun h6 => ?_)
        · have hV := hV.1 h6
          exact q_less (Nat.le_of_ble_eq_true rfl) (Nat.le_of_ble_eq_true rfl) (q_subk [0, 1, 2] rfl hV)
        · have hV := hV.2 h6
          refine q_run k_PM_nextPiece 14 6 29 rfl ?_
          show q_K σ2 x0 = 7 ∧ q_K σ2 (q_P σ2 x0 31) = 1001 ∧ vp_in x2 (q_Z σ2 (q_P σ2 x0 31)) ∧ q_G l cx M_PM_nextPiece 1 64 0 0 29 [(0, .inr (.inr x0)), (1, .inl x1), (2, .inl x2)] [.inl (lg_cmp (q_L σ2 (q_P σ2 x0 31) x2.toNatClampNeg) (0 : Int64))] σ2 R
          obtain ⟨s7, s8, s9, hV⟩ := hV
          refine ⟨s7, s8, s9, ?_⟩
          refine q_ifz (q_dc k_PM_nextPiece 20 rfl) rfl (fun h10 => ?_) (fun h10 => ?_)
          · have hV := hV.1 h10
            refine q_run k_PM_nextPiece 22 15 56 rfl ?_
            show q_K σ2 x0 = 7 ∧ q_K σ2 x0 = 7 ∧ q_K σ2 (q_P σ2 x0 31) = 1001 ∧ vp_in x2 (q_Z σ2 (q_P σ2 x0 31)) ∧ q_K σ2 x0 = 7 ∧ q_K σ2 (q_P σ2 x0 31) = 1001 ∧ vp_in x2 (q_Z σ2 (q_P σ2 x0 31)) ∧ q_K σ2 (q_P σ2 x0 29) = 1001 ∧ vp_in x2 (q_Z σ2 (q_P σ2 x0 29)) ∧ q_G l cx M_PM_nextPiece 1 64 0 0 56 [(0, .inr (.inr x0)), (1, .inl x1), (2, .inl x2)] [] (q_wL σ2 (q_P σ2 x0 29) x2.toNatClampNeg ((q_L σ2 (q_P σ2 x0 31) x2.toNatClampNeg) &&& ((0 : Int64) - (q_L σ2 (q_P σ2 x0 31) x2.toNatClampNeg)))) R
            obtain ⟨s12, s13, s14, s15, s16, s17, s18, s19, s20, hV⟩ := hV
            refine ⟨s12, s13, s14, s15, s16, s17, s18, s19, s20, ?_⟩
            refine q_let (fun σ11 => q_G l cx M_PM_nextPiece 1 64 0 0 56 [(0, .inr (.inr x0)), (1, .inl x1), (2, .inl x2)] [] σ11 R) (q_wL σ2 (q_P σ2 x0 29) x2.toNatClampNeg ((q_L σ2 (q_P σ2 x0 31) x2.toNatClampNeg) &&& ((0 : Int64) - (q_L σ2 (q_P σ2 x0 31) x2.toNatClampNeg)))) (fun σ11 e_σ11 => ?_)
            have hV := hV σ11 e_σ11
            refine q_run k_PM_nextPiece 37 2 58 rfl ?_
            show q_G l cx M_PM_nextPiece 1 64 0 0 58 [(1, .inl (1 : Int32)), (0, .inr (.inr x0)), (2, .inl x2)] [] σ11 R
            exact q_less (Nat.le_of_ble_eq_true rfl) (Nat.le_of_ble_eq_true rfl) (q_subk [1, 0, 2] rfl hV)
          · have hV := hV.2 h10
            refine q_goto (q_dc k_PM_nextPiece 21 rfl) rfl ?_
            exact q_less (Nat.le_of_ble_eq_true rfl) (Nat.le_of_ble_eq_true rfl) (q_subk [0, 1, 2] rfl hV))
  have hV := hV (by
      intro x0 x1 x2 σ hV
      show q_G l cx M_PM_nextPiece 1 64 0 0 58 [(0, .inr (.inr x0)), (1, .inl x1), (2, .inl x2)] [] σ R
      refine q_run k_PM_nextPiece 39 1 61 rfl ?_
      show q_G l cx M_PM_nextPiece 1 64 0 0 61 [(2, .inl (x2 + (1 : Int32))), (0, .inr (.inr x0)), (1, .inl x1)] [] σ R
      refine q_let (fun v1 => q_G l cx M_PM_nextPiece 1 64 0 0 61 [(2, .inl v1), (0, .inr (.inr x0)), (1, .inl x1)] [] σ R) (x2 + (1 : Int32)) (fun v1 e_v1 => ?_)
      have hV := hV v1 e_v1
      refine q_goto (q_dc k_PM_nextPiece 40 rfl) rfl ?_
      exact q_less (Nat.le_of_ble_eq_true rfl) (Nat.le_of_ble_eq_true rfl) (q_subk [1, 2, 0] rfl hV))
  have hV := hV (by
      intro x0 x1 x2 σ hV
      show q_G l cx M_PM_nextPiece 1 64 0 0 66 [(0, .inr (.inr x0)), (1, .inl x1), (2, .inl x2)] [] σ R
      refine q_run k_PM_nextPiece 43 1 67 rfl ?_
      show q_G l cx M_PM_nextPiece 1 64 0 0 67 [(0, .inr (.inr x0)), (1, .inl x1), (2, .inl x2)] [.inl x2] σ R
      refine q_ifz (q_dc k_PM_nextPiece 44 rfl) rfl (fun h1 => ?_) (fun h1 => ?_)
      · have hV := hV.1 h1
        refine q_run k_PM_nextPiece 110 2 180 rfl ?_
        show q_G l cx M_PM_nextPiece 1 64 0 0 180 [(3, .inl (0 : Int32)), (0, .inr (.inr x0)), (1, .inl x1), (2, .inl x2)] [] σ R
        exact q_less (Nat.le_of_ble_eq_true rfl) (Nat.le_of_ble_eq_true rfl) (q_subk [1, 2, 0] rfl hV)
      · have hV := hV.2 h1
        refine q_run k_PM_nextPiece 45 4 74 rfl ?_
        show q_G l cx M_PM_nextPiece 1 64 0 0 74 [(3, .inl (0 : Int32)), (2, .inl (0 : Int32)), (0, .inr (.inr x0)), (1, .inl x1)] [] σ R
        exact q_less (Nat.le_of_ble_eq_true rfl) (Nat.le_of_ble_eq_true rfl) (q_subk [2, 3, 1, 0] rfl hV))
  have hV := hV (by
      intro x0 x1 x2 x3 σ hV
      show q_G l cx M_PM_nextPiece 1 64 0 0 74 [(0, .inr (.inr x0)), (1, .inl x1), (2, .inl x2), (3, .inl x3)] [] σ R
      refine q_run k_PM_nextPiece 49 2 77 rfl ?_
      show q_G l cx M_PM_nextPiece 1 64 0 0 77 [(0, .inr (.inr x0)), (1, .inl x1), (2, .inl x2), (3, .inl x3)] [.inl (24 : Int32), .inl x3] σ R
      refine q_icmp (q_dc k_PM_nextPiece 51 rfl) rfl (fun h1 => ?_) (fun h1 => ?_)
      · have hV := hV.1 h1
        refine q_goto (q_dc k_PM_nextPiece 109 rfl) rfl ?_
        exact q_less (Nat.le_of_ble_eq_true rfl) (Nat.le_of_ble_eq_true rfl) (q_subk [0, 1, 2] rfl hV)
      · have hV := hV.2 h1
        refine q_run k_PM_nextPiece 52 5 87 rfl ?_
        show q_K σ x0 = 7 ∧ q_K σ (q_P σ x0 29) = 1001 ∧ vp_in x3 (q_Z σ (q_P σ x0 29)) ∧ q_G l cx M_PM_nextPiece 1 64 0 0 87 [(0, .inr (.inr x0)), (1, .inl x1), (2, .inl x2), (3, .inl x3)] [.inl (1 : Int32), .inr (.inl (q_L σ (q_P σ x0 29) x3.toNatClampNeg))] σ R
        obtain ⟨s2, s3, s4, hV⟩ := hV
        refine ⟨s2, s3, s4, ?_⟩
        refine q_callS (st := []) (t_PM_wide (l := l) (cx := cx)  hV) (q_dc k_PM_nextPiece 57 rfl) (Or.inl (List.mem_of_getElem? (i := 1026) (by decide +kernel))) w_PM_wide s_PM_wide a_PM_wide (q_wt (Nat.le_of_ble_eq_true rfl)) ⟨Nat.le_of_ble_eq_true rfl, Nat.le_of_ble_eq_true rfl⟩ (fun v9 τ9 q9 => ?_) (fun n9 τ9 q9 => q_T.leave rfl q9)
        obtain ⟨v7, rfl, hV⟩ := q_cl_elim q9
        clear q9
        have hV := hV
        revert hV
        generalize τ9 = σ8
        intro hV
        show q_G l cx M_PM_nextPiece 1 64 0 0 90 [(0, .inr (.inr x0)), (1, .inl x1), (2, .inl x2), (3, .inl x3)] [.inr (.inl v7)] σ8 R
        refine q_run k_PM_nextPiece 58 1 91 rfl ?_
        show q_G l cx M_PM_nextPiece 1 64 0 0 91 [(0, .inr (.inr x0)), (1, .inl x1), (2, .inl x2), (3, .inl x3)] [.inl x3, .inr (.inl v7)] σ8 R
        refine q_ifz (q_dc k_PM_nextPiece 59 rfl) rfl (fun h9 => ?_) (fun h9 => ?_)
        · have hV := hV.1 h9
          refine q_run k_PM_nextPiece 67 1 106 rfl ?_
          show q_G l cx M_PM_nextPiece 1 64 0 0 106 [(0, .inr (.inr x0)), (1, .inl x1), (2, .inl x2), (3, .inl x3)] [.inr (.inl (0 : Int64)), .inr (.inl v7)] σ8 R
          exact q_less (Nat.le_of_ble_eq_true rfl) (Nat.le_of_ble_eq_true rfl) (q_subk [0, 1, 2, 3] rfl hV)
        · have hV := hV.2 h9
          refine q_run k_PM_nextPiece 60 6 102 rfl ?_
          show q_K σ8 x0 = 7 ∧ q_K σ8 (q_P σ8 x0 29) = 1001 ∧ vp_in (x3 - (1 : Int32)) (q_Z σ8 (q_P σ8 x0 29)) ∧ q_G l cx M_PM_nextPiece 1 64 0 0 102 [(0, .inr (.inr x0)), (1, .inl x1), (2, .inl x2), (3, .inl x3)] [.inr (.inl (q_L σ8 (q_P σ8 x0 29) (x3 - (1 : Int32)).toNatClampNeg)), .inr (.inl v7)] σ8 R
          obtain ⟨s10, s11, s12, hV⟩ := hV
          refine ⟨s10, s11, s12, ?_⟩
          refine q_goto (q_dc k_PM_nextPiece 66 rfl) rfl ?_
          exact q_less (Nat.le_of_ble_eq_true rfl) (Nat.le_of_ble_eq_true rfl) (q_subk [0, 1, 2, 3] rfl hV))
  have hV := hV (by
      intro x0 x1 x2 x3 y0 y1 σ hV
      show q_G l cx M_PM_nextPiece 1 64 0 0 106 [(0, .inr (.inr x0)), (1, .inl x1), (2, .inl x2), (3, .inl x3)] [.inr (.inl y0), .inr (.inl y1)] σ R
      refine q_run k_PM_nextPiece 68 3 110 rfl ?_
      show q_G l cx M_PM_nextPiece 1 64 0 0 110 [(0, .inr (.inr x0)), (1, .inl x1), (2, .inl x2), (3, .inl x3)] [.inl (23 : Int32), .inl x3, .inr (.inl (y1 ||| y0))] σ R
      refine q_icmp (q_dc k_PM_nextPiece 71 rfl) rfl (fun h1 => ?_) (fun h1 => ?_)
      · have hV := hV.1 h1
        refine q_run k_PM_nextPiece 79 1 125 rfl ?_
        show q_G l cx M_PM_nextPiece 1 64 0 0 125 [(0, .inr (.inr x0)), (1, .inl x1), (2, .inl x2), (3, .inl x3)] [.inr (.inl (0 : Int64)), .inr (.inl (y1 ||| y0))] σ R
        exact q_less (Nat.le_of_ble_eq_true rfl) (Nat.le_of_ble_eq_true rfl) (q_subk [0, 1, 2, 3] rfl hV)
      · have hV := hV.2 h1
        refine q_run k_PM_nextPiece 72 6 121 rfl ?_
        show q_K σ x0 = 7 ∧ q_K σ (q_P σ x0 29) = 1001 ∧ vp_in (x3 + (1 : Int32)) (q_Z σ (q_P σ x0 29)) ∧ q_G l cx M_PM_nextPiece 1 64 0 0 121 [(0, .inr (.inr x0)), (1, .inl x1), (2, .inl x2), (3, .inl x3)] [.inr (.inl (q_L σ (q_P σ x0 29) (x3 + (1 : Int32)).toNatClampNeg)), .inr (.inl (y1 ||| y0))] σ R
        obtain ⟨s2, s3, s4, hV⟩ := hV
        refine ⟨s2, s3, s4, ?_⟩
        refine q_goto (q_dc k_PM_nextPiece 78 rfl) rfl ?_
        exact q_less (Nat.le_of_ble_eq_true rfl) (Nat.le_of_ble_eq_true rfl) (q_subk [0, 1, 2, 3] rfl hV))
  have hV := hV (by
      intro x0 x1 x2 x3 y0 y1 σ hV
      show q_G l cx M_PM_nextPiece 1 64 0 0 125 [(0, .inr (.inr x0)), (1, .inl x1), (2, .inl x2), (3, .inl x3)] [.inr (.inl y0), .inr (.inl y1)] σ R
      refine q_run k_PM_nextPiece 80 2 128 rfl ?_
      show q_G l cx M_PM_nextPiece 1 64 0 0 128 [(4, .inr (.inl (y1 ||| y0))), (0, .inr (.inr x0)), (1, .inl x1), (2, .inl x2), (3, .inl x3)] [] σ R
      refine q_let (fun v1 => q_G l cx M_PM_nextPiece 1 64 0 0 128 [(4, .inr (.inl v1)), (0, .inr (.inr x0)), (1, .inl x1), (2, .inl x2), (3, .inl x3)] [] σ R) (y1 ||| y0) (fun v1 e_v1 => ?_)
      have hV := hV v1 e_v1
      refine q_run k_PM_nextPiece 82 7 139 rfl ?_
      show q_K σ x0 = 7 ∧ q_K σ (q_P σ x0 31) = 1001 ∧ vp_in x3 (q_Z σ (q_P σ x0 31)) ∧ q_G l cx M_PM_nextPiece 1 64 0 0 139 [(4, .inr (.inl (v1 &&& (q_L σ (q_P σ x0 31) x3.toNatClampNeg)))), (0, .inr (.inr x0)), (1, .inl x1), (2, .inl x2), (3, .inl x3)] [] σ R
      obtain ⟨s3, s4, s5, hV⟩ := hV
      refine ⟨s3, s4, s5, ?_⟩
      refine q_let (fun v2 => q_G l cx M_PM_nextPiece 1 64 0 0 139 [(4, .inr (.inl v2)), (0, .inr (.inr x0)), (1, .inl x1), (2, .inl x2), (3, .inl x3)] [] σ R) (v1 &&& (q_L σ (q_P σ x0 31) x3.toNatClampNeg)) (fun v2 e_v2 => ?_)
      have hV := hV v2 e_v2
      refine q_run k_PM_nextPiece 89 1 140 rfl ?_
      show q_G l cx M_PM_nextPiece 1 64 0 0 140 [(4, .inr (.inl v2)), (0, .inr (.inr x0)), (1, .inl x1), (2, .inl x2), (3, .inl x3)] [.inl x2] σ R
      refine q_ifz (q_dc k_PM_nextPiece 90 rfl) rfl (fun h6 => ?_) (fun h6 => ?_)
      · have hV := hV.1 h6
        exact q_less (Nat.le_of_ble_eq_true rfl) (Nat.le_of_ble_eq_true rfl) (q_subk [1, 2, 4, 0] rfl hV)
      · have hV := hV.2 h6
        refine q_run k_PM_nextPiece 91 6 152 rfl ?_
        show q_K σ x0 = 7 ∧ q_K σ (q_P σ x0 29) = 1001 ∧ vp_in x3 (q_Z σ (q_P σ x0 29)) ∧ q_G l cx M_PM_nextPiece 1 64 0 0 152 [(4, .inr (.inl v2)), (0, .inr (.inr x0)), (1, .inl x1), (2, .inl x2), (3, .inl x3)] [.inl (lg_cmp v2 (q_L σ (q_P σ x0 29) x3.toNatClampNeg))] σ R
        obtain ⟨s7, s8, s9, hV⟩ := hV
        refine ⟨s7, s8, s9, ?_⟩
        refine q_ifz (q_dc k_PM_nextPiece 97 rfl) rfl (fun h10 => ?_) (fun h10 => ?_)
        · have hV := hV.1 h10
          refine q_run k_PM_nextPiece 100 1 160 rfl ?_
          show q_G l cx M_PM_nextPiece 1 64 0 0 160 [(4, .inr (.inl v2)), (0, .inr (.inr x0)), (1, .inl x1), (2, .inl x2), (3, .inl x3)] [.inl (0 : Int32)] σ R
          exact q_less (Nat.le_of_ble_eq_true rfl) (Nat.le_of_ble_eq_true rfl) (q_subk [1, 2, 4, 0] rfl hV)
        · have hV := hV.2 h10
          exact q_less (Nat.le_of_ble_eq_true rfl) (Nat.le_of_ble_eq_true rfl) (q_subk [1, 2, 4, 0] rfl hV))
  have hV := hV (by
      intro x0 x1 x3 x4 σ hV
      show q_G l cx M_PM_nextPiece 1 64 0 0 155 [(0, .inr (.inr x0)), (1, .inl x1), (3, .inl x3), (4, .inr (.inl x4))] [] σ R
      refine q_run k_PM_nextPiece 98 1 156 rfl ?_
      show q_G l cx M_PM_nextPiece 1 64 0 0 156 [(0, .inr (.inr x0)), (1, .inl x1), (3, .inl x3), (4, .inr (.inl x4))] [.inl (1 : Int32)] σ R
      refine q_goto (q_dc k_PM_nextPiece 99 rfl) rfl ?_
      exact q_less (Nat.le_of_ble_eq_true rfl) (Nat.le_of_ble_eq_true rfl) (q_subk [0, 1, 2, 3] rfl hV))
  have hV := hV (by
      intro x0 x1 x3 x4 y0 σ hV
      show q_G l cx M_PM_nextPiece 1 64 0 0 160 [(0, .inr (.inr x0)), (1, .inl x1), (3, .inl x3), (4, .inr (.inl x4))] [.inl y0] σ R
      refine q_run k_PM_nextPiece 101 6 169 rfl ?_
      show q_K σ x0 = 7 ∧ q_K σ (q_P σ x0 29) = 1001 ∧ vp_in x3 (q_Z σ (q_P σ x0 29)) ∧ q_G l cx M_PM_nextPiece 1 64 0 0 169 [(2, .inl y0), (0, .inr (.inr x0)), (1, .inl x1), (3, .inl x3), (4, .inr (.inl x4))] [] (q_wL σ (q_P σ x0 29) x3.toNatClampNeg x4) R
      obtain ⟨s2, s3, s4, hV⟩ := hV
      refine ⟨s2, s3, s4, ?_⟩
      refine q_let (fun σ1 => q_G l cx M_PM_nextPiece 1 64 0 0 169 [(2, .inl y0), (0, .inr (.inr x0)), (1, .inl x1), (3, .inl x3), (4, .inr (.inl x4))] [] σ1 R) (q_wL σ (q_P σ x0 29) x3.toNatClampNeg x4) (fun σ1 e_σ1 => ?_)
      have hV := hV σ1 e_σ1
      refine q_run k_PM_nextPiece 107 1 172 rfl ?_
      show q_G l cx M_PM_nextPiece 1 64 0 0 172 [(3, .inl (x3 + (1 : Int32))), (2, .inl y0), (0, .inr (.inr x0)), (1, .inl x1), (4, .inr (.inl x4))] [] σ1 R
      refine q_let (fun v5 => q_G l cx M_PM_nextPiece 1 64 0 0 172 [(3, .inl v5), (2, .inl y0), (0, .inr (.inr x0)), (1, .inl x1), (4, .inr (.inl x4))] [] σ1 R) (x3 + (1 : Int32)) (fun v5 e_v5 => ?_)
      have hV := hV v5 e_v5
      refine q_goto (q_dc k_PM_nextPiece 108 rfl) rfl ?_
      exact q_less (Nat.le_of_ble_eq_true rfl) (Nat.le_of_ble_eq_true rfl) (q_subk [2, 3, 1, 0] rfl hV))
  have hV := hV (by
      intro x0 x1 x3 σ hV
      show q_G l cx M_PM_nextPiece 1 64 0 0 180 [(0, .inr (.inr x0)), (1, .inl x1), (3, .inl x3)] [] σ R
      refine q_run k_PM_nextPiece 112 2 183 rfl ?_
      show q_G l cx M_PM_nextPiece 1 64 0 0 183 [(0, .inr (.inr x0)), (1, .inl x1), (3, .inl x3)] [.inl (24 : Int32), .inl x3] σ R
      refine q_icmp (q_dc k_PM_nextPiece 114 rfl) rfl (fun h1 => ?_) (fun h1 => ?_)
      · have hV := hV.1 h1
        refine q_run k_PM_nextPiece 132 1 216 rfl ?_
        show q_G l cx M_PM_nextPiece 1 64 0 0 216 [(0, .inr (.inr x0)), (1, .inl x1), (3, .inl x3)] [.inl x1] σ R
        exact q_zreturn (q_dc k_PM_nextPiece 133 rfl) rfl hV.1 hV.2
      · have hV := hV.2 h1
        refine q_run k_PM_nextPiece 115 15 209 rfl ?_
        show q_K σ x0 = 7 ∧ q_K σ x0 = 7 ∧ q_K σ (q_P σ x0 31) = 1001 ∧ vp_in x3 (q_Z σ (q_P σ x0 31)) ∧ q_K σ x0 = 7 ∧ q_K σ (q_P σ x0 29) = 1001 ∧ vp_in x3 (q_Z σ (q_P σ x0 29)) ∧ q_K σ (q_P σ x0 31) = 1001 ∧ vp_in x3 (q_Z σ (q_P σ x0 31)) ∧ q_G l cx M_PM_nextPiece 1 64 0 0 209 [(0, .inr (.inr x0)), (1, .inl x1), (3, .inl x3)] [] (q_wL σ (q_P σ x0 31) x3.toNatClampNeg ((q_L σ (q_P σ x0 31) x3.toNatClampNeg) &&& ((q_L σ (q_P σ x0 29) x3.toNatClampNeg) ^^^ (-1 : Int64)))) R
        obtain ⟨s3, s4, s5, s6, s7, s8, s9, s10, s11, hV⟩ := hV
        refine ⟨s3, s4, s5, s6, s7, s8, s9, s10, s11, ?_⟩
        refine q_let (fun σ2 => q_G l cx M_PM_nextPiece 1 64 0 0 209 [(0, .inr (.inr x0)), (1, .inl x1), (3, .inl x3)] [] σ2 R) (q_wL σ (q_P σ x0 31) x3.toNatClampNeg ((q_L σ (q_P σ x0 31) x3.toNatClampNeg) &&& ((q_L σ (q_P σ x0 29) x3.toNatClampNeg) ^^^ (-1 : Int64)))) (fun σ2 e_σ2 => ?_)
        have hV := hV σ2 e_σ2
        refine q_run k_PM_nextPiece 130 1 212 rfl ?_
        show q_G l cx M_PM_nextPiece 1 64 0 0 212 [(3, .inl (x3 + (1 : Int32))), (0, .inr (.inr x0)), (1, .inl x1)] [] σ2 R
        refine q_let (fun v12 => q_G l cx M_PM_nextPiece 1 64 0 0 212 [(3, .inl v12), (0, .inr (.inr x0)), (1, .inl x1)] [] σ2 R) (x3 + (1 : Int32)) (fun v12 e_v12 => ?_)
        have hV := hV v12 e_v12
        refine q_goto (q_dc k_PM_nextPiece 131 rfl) rfl ?_
        exact q_less (Nat.le_of_ble_eq_true rfl) (Nat.le_of_ble_eq_true rfl) (q_subk [1, 2, 0] rfl hV))
  refine q_run k_PM_nextPiece 0 4 4 rfl ?_
  show q_G l cx M_PM_nextPiece 1 64 0 0 4 [(2, .inl (0 : Int32)), (1, .inl (0 : Int32)), (0, .inr (.inr x0))] [] σ R
  exact q_less (Nat.le_of_ble_eq_true rfl) (Nat.le_of_ble_eq_true rfl) (q_subk [2, 1, 0] rfl hV)
def V_PM_count (x0 : Int64) (σ : q_S) (R : q_O → q_S → Prop) : Prop :=
  ∀ (P4 : Int32 → Int64 → q_S → Prop),
  (∀ (x2 : Int32) (x3 : Int64) (σ : q_S), ((((lg_cmp x3 (0 : Int64)) = (0 : Int32) → R (.inl (some (.inl x2))) σ) ∧ (¬ ((lg_cmp x3 (0 : Int64)) = (0 : Int32)) → ∀ v2 : Int32, v2 = x2 + (1 : Int32) → ∀ v3 : Int64, v3 = x3 &&& (x3 - (1 : Int64)) → P4 v2 v3 σ))) → P4 x2 x3 σ) →
  P4 (0 : Int32) x0 σ
set_option maxRecDepth 100000 in
theorem t_PM_count {l : Launch} {cx : q_C} {x0 : Int64} {σ : q_S} {R : q_O → q_S → Prop} (hV : V_PM_count x0 σ R) : q_Ct l cx M_PM_count 0 0 0 0 [q_l x0] σ R := by
  refine q_Ct.of p_PM_count c_PM_count rfl (Nat.le_of_ble_eq_true rfl) ?_
  have hV := hV (fun (x2 : Int32) (x3 : Int64) (σ : q_S) => q_G l cx M_PM_count 0 0 0 0 4 [(2, .inl x2), (3, .inr (.inl x3))] [] σ R)
  have hV := hV (by
      intro x2 x3 σ hV
      show q_G l cx M_PM_count 0 0 0 0 4 [(2, .inl x2), (3, .inr (.inl x3))] [] σ R
      refine q_run k_PM_count 4 3 7 rfl ?_
      show q_G l cx M_PM_count 0 0 0 0 7 [(2, .inl x2), (3, .inr (.inl x3))] [.inl (lg_cmp x3 (0 : Int64))] σ R
      refine q_ifz (q_dc k_PM_count 7 rfl) rfl (fun h1 => ?_) (fun h1 => ?_)
      · have hV := hV.1 h1
        refine q_run k_PM_count 16 1 23 rfl ?_
        show q_G l cx M_PM_count 0 0 0 0 23 [(2, .inl x2), (3, .inr (.inl x3))] [.inl x2] σ R
        exact q_ireturn (q_dc k_PM_count 17 rfl) rfl hV
      · have hV := hV.2 h1
        refine q_run k_PM_count 8 1 13 rfl ?_
        show q_G l cx M_PM_count 0 0 0 0 13 [(2, .inl (x2 + (1 : Int32))), (3, .inr (.inl x3))] [] σ R
        refine q_let (fun v2 => q_G l cx M_PM_count 0 0 0 0 13 [(2, .inl v2), (3, .inr (.inl x3))] [] σ R) (x2 + (1 : Int32)) (fun v2 e_v2 => ?_)
        have hV := hV v2 e_v2
        refine q_run k_PM_count 9 6 19 rfl ?_
        show q_G l cx M_PM_count 0 0 0 0 19 [(3, .inr (.inl (x3 &&& (x3 - (1 : Int64))))), (2, .inl v2)] [] σ R
        refine q_let (fun v3 => q_G l cx M_PM_count 0 0 0 0 19 [(3, .inr (.inl v3)), (2, .inl v2)] [] σ R) (x3 &&& (x3 - (1 : Int64))) (fun v3 e_v3 => ?_)
        have hV := hV v3 e_v3
        refine q_goto (q_dc k_PM_count 15 rfl) rfl ?_
        exact q_less (Nat.le_of_ble_eq_true rfl) (Nat.le_of_ble_eq_true rfl) (q_subk [1, 0] rfl hV))
  refine q_run k_PM_count 0 4 4 rfl ?_
  show q_G l cx M_PM_count 0 0 0 0 4 [(3, .inr (.inl x0)), (2, .inl (0 : Int32)), (0, .inr (.inl x0))] [] σ R
  exact q_less (Nat.le_of_ble_eq_true rfl) (Nat.le_of_ble_eq_true rfl) (q_subk [1, 0] rfl hV)
def V_PM_hasPad (x0 : Nat) (x1 : Int32) (σ : q_S) (R : q_O → q_S → Prop) : Prop :=
  ∀ (P2 : Nat → Int32 → Int32 → q_S → Prop),
  ∀ (P54 : Nat → Int32 → Int32 → Int32 → q_S → Prop),
  ∀ (P131 : Nat → Int32 → Int32 → q_S → Prop),
  (∀ (x0 : Nat) (x1 : Int32) (x2 : Int32) (σ : q_S), (q_K σ x0 = 7 ∧ (((q_I σ x0 16) ≤ x2 → R (.inl (some (.inl (0 : Int32)))) σ) ∧ (¬ ((q_I σ x0 16) ≤ x2) → q_K σ x0 = 7 ∧ (q_K σ (q_P σ x0 18) = 1000 ∨ q_K σ (q_P σ x0 18) = 2000) ∧ vp_in x2 (q_Z σ (q_P σ x0 18)) ∧ q_K σ x0 = 7 ∧ (q_K σ (q_P σ x0 4) = 1000 ∨ q_K σ (q_P σ x0 4) = 2000) ∧ vp_in x1 (q_Z σ (q_P σ x0 4)) ∧ ((¬ (q_I σ (q_P σ x0 18) x2.toNatClampNeg) = (q_I σ (q_P σ x0 4) x1.toNatClampNeg) → P131 x0 x1 x2 σ) ∧ (¬ (¬ (q_I σ (q_P σ x0 18) x2.toNatClampNeg) = (q_I σ (q_P σ x0 4) x1.toNatClampNeg)) → q_K σ x0 = 7 ∧ (q_K σ (q_P σ x0 17) = 1000 ∨ q_K σ (q_P σ x0 17) = 2000) ∧ vp_in x2 (q_Z σ (q_P σ x0 17)) ∧ q_K σ x0 = 7 ∧ (q_K σ (q_P σ x0 3) = 1000 ∨ q_K σ (q_P σ x0 3) = 2000) ∧ vp_in x1 (q_Z σ (q_P σ x0 3)) ∧ (((q_I σ (q_P σ x0 17) x2.toNatClampNeg) = (q_I σ (q_P σ x0 3) x1.toNatClampNeg) → q_K σ x0 = 7 ∧ (q_K σ (q_P σ x0 19) = 1000 ∨ q_K σ (q_P σ x0 19) = 2000) ∧ vp_in (((4 : Int32) * x2) + (1 : Int32)) (q_Z σ (q_P σ x0 19)) ∧ ∀ v17 : Int32, v17 = q_I σ (q_P σ x0 19) (((4 : Int32) * x2) + (1 : Int32)).toNatClampNeg → P54 x0 x1 x2 v17 σ) ∧ (¬ ((q_I σ (q_P σ x0 17) x2.toNatClampNeg) = (q_I σ (q_P σ x0 3) x1.toNatClampNeg)) → P131 x0 x1 x2 σ))))))) → P2 x0 x1 x2 σ) →
  (∀ (x0 : Nat) (x1 : Int32) (x2 : Int32) (x3 : Int32) (σ : q_S), (q_K σ x0 = 7 ∧ (q_K σ (q_P σ x0 19) = 1000 ∨ q_K σ (q_P σ x0 19) = 2000) ∧ vp_in (((4 : Int32) * x2) + (1 : Int32)) (q_Z σ (q_P σ x0 19)) ∧ q_K σ x0 = 7 ∧ (q_K σ (q_P σ x0 19) = 1000 ∨ q_K σ (q_P σ x0 19) = 2000) ∧ vp_in (((4 : Int32) * x2) + (3 : Int32)) (q_Z σ (q_P σ x0 19)) ∧ ((((q_I σ (q_P σ x0 19) (((4 : Int32) * x2) + (1 : Int32)).toNatClampNeg) + (q_I σ (q_P σ x0 19) (((4 : Int32) * x2) + (3 : Int32)).toNatClampNeg)) ≤ x3 → P131 x0 x1 x2 σ) ∧ (¬ (((q_I σ (q_P σ x0 19) (((4 : Int32) * x2) + (1 : Int32)).toNatClampNeg) + (q_I σ (q_P σ x0 19) (((4 : Int32) * x2) + (3 : Int32)).toNatClampNeg)) ≤ x3) → q_K σ x0 = 7 ∧ q_K σ (q_P σ x0 29) = 1001 ∧ vp_in x3 (q_Z σ (q_P σ x0 29)) ∧ q_K σ x0 = 7 ∧ (q_K σ (q_P σ x0 19) = 1000 ∨ q_K σ (q_P σ x0 19) = 2000) ∧ vp_in ((4 : Int32) * x2) (q_Z σ (q_P σ x0 19)) ∧ q_K σ x0 = 7 ∧ (q_K σ (q_P σ x0 19) = 1000 ∨ q_K σ (q_P σ x0 19) = 2000) ∧ vp_in ((4 : Int32) * x2) (q_Z σ (q_P σ x0 19)) ∧ q_K σ x0 = 7 ∧ (q_K σ (q_P σ x0 19) = 1000 ∨ q_K σ (q_P σ x0 19) = 2000) ∧ vp_in (((4 : Int32) * x2) + (2 : Int32)) (q_Z σ (q_P σ x0 19)) ∧ V_PM_span (q_I σ (q_P σ x0 19) ((4 : Int32) * x2).toNatClampNeg) (((q_I σ (q_P σ x0 19) ((4 : Int32) * x2).toNatClampNeg) + (q_I σ (q_P σ x0 19) (((4 : Int32) * x2) + (2 : Int32)).toNatClampNeg)) - (1 : Int32)) σ (q_cl' (fun v22 σ23 => (((lg_cmp ((q_L σ (q_P σ x0 29) x3.toNatClampNeg) &&& v22) (0 : Int64)) = (0 : Int32) → ∀ v25 : Int32, v25 = x3 + (1 : Int32) → P54 x0 x1 x2 v25 σ23) ∧ (¬ ((lg_cmp ((q_L σ (q_P σ x0 29) x3.toNatClampNeg) &&& v22) (0 : Int64)) = (0 : Int32)) → R (.inl (some (.inl (1 : Int32)))) σ23))) (fun n9 σ9 => R (.inr n9) σ9))))) → P54 x0 x1 x2 x3 σ) →
  (∀ (x0 : Nat) (x1 : Int32) (x2 : Int32) (σ : q_S), (∀ v1 : Int32, v1 = x2 + (1 : Int32) → P2 x0 x1 v1 σ) → P131 x0 x1 x2 σ) →
  P2 x0 x1 (0 : Int32) σ
set_option maxRecDepth 100000 in
theorem t_PM_hasPad {l : Launch} {cx : q_C} {x0 : Nat} {x1 : Int32} {σ : q_S} {R : q_O → q_S → Prop} (hV : V_PM_hasPad x0 x1 σ R) : q_Ct l cx M_PM_hasPad 2 128 0 0 [q_r x0, q_i x1] σ R := by
  refine q_Ct.of p_PM_hasPad c_PM_hasPad rfl (Nat.le_of_ble_eq_true rfl) ?_
  have hV := hV (fun (x0 : Nat) (x1 : Int32) (x2 : Int32) (σ : q_S) => q_G l cx M_PM_hasPad 2 128 0 0 2 [(0, .inr (.inr x0)), (1, .inl x1), (2, .inl x2)] [] σ R) (fun (x0 : Nat) (x1 : Int32) (x2 : Int32) (x3 : Int32) (σ : q_S) => q_G l cx M_PM_hasPad 2 128 0 0 54 [(0, .inr (.inr x0)), (1, .inl x1), (2, .inl x2), (3, .inl x3)] [] σ R) (fun (x0 : Nat) (x1 : Int32) (x2 : Int32) (σ : q_S) => q_G l cx M_PM_hasPad 2 128 0 0 131 [(0, .inr (.inr x0)), (1, .inl x1), (2, .inl x2)] [] σ R)
  have hV := hV (by
      intro x0 x1 x2 σ hV
      show q_G l cx M_PM_hasPad 2 128 0 0 2 [(0, .inr (.inr x0)), (1, .inl x1), (2, .inl x2)] [] σ R
      refine q_run k_PM_hasPad 2 3 7 rfl ?_
      show q_K σ x0 = 7 ∧ q_G l cx M_PM_hasPad 2 128 0 0 7 [(0, .inr (.inr x0)), (1, .inl x1), (2, .inl x2)] [.inl (q_I σ x0 16), .inl x2] σ R
      obtain ⟨s1, hV⟩ := hV
      refine ⟨s1, ?_⟩
      refine q_icmp (q_dc k_PM_hasPad 5 rfl) rfl (fun h2 => ?_) (fun h2 => ?_)
      · have hV := hV.1 h2
        refine q_run k_PM_hasPad 91 1 138 rfl ?_
        show q_G l cx M_PM_hasPad 2 128 0 0 138 [(0, .inr (.inr x0)), (1, .inl x1), (2, .inl x2)] [.inl (0 : Int32)] σ R
        exact q_zreturn (q_dc k_PM_hasPad 92 rfl) rfl (by decide) hV
      · have hV := hV.2 h2
        refine q_run k_PM_hasPad 6 8 22 rfl ?_
        show q_K σ x0 = 7 ∧ (q_K σ (q_P σ x0 18) = 1000 ∨ q_K σ (q_P σ x0 18) = 2000) ∧ vp_in x2 (q_Z σ (q_P σ x0 18)) ∧ q_K σ x0 = 7 ∧ (q_K σ (q_P σ x0 4) = 1000 ∨ q_K σ (q_P σ x0 4) = 2000) ∧ vp_in x1 (q_Z σ (q_P σ x0 4)) ∧ q_G l cx M_PM_hasPad 2 128 0 0 22 [(0, .inr (.inr x0)), (1, .inl x1), (2, .inl x2)] [.inl (q_I σ (q_P σ x0 4) x1.toNatClampNeg), .inl (q_I σ (q_P σ x0 18) x2.toNatClampNeg)] σ R
        obtain ⟨s3, s4, s5, s6, s7, s8, hV⟩ := hV
        refine ⟨s3, s4, s5, s6, s7, s8, ?_⟩
        refine q_icmp (q_dc k_PM_hasPad 14 rfl) rfl (fun h9 => ?_) (fun h9 => ?_)
        · have hV := hV.1 h9
          exact q_less (Nat.le_of_ble_eq_true rfl) (Nat.le_of_ble_eq_true rfl) (q_subk [0, 1, 2] rfl hV)
        · have hV := hV.2 h9
          refine q_run k_PM_hasPad 15 8 37 rfl ?_
          show q_K σ x0 = 7 ∧ (q_K σ (q_P σ x0 17) = 1000 ∨ q_K σ (q_P σ x0 17) = 2000) ∧ vp_in x2 (q_Z σ (q_P σ x0 17)) ∧ q_K σ x0 = 7 ∧ (q_K σ (q_P σ x0 3) = 1000 ∨ q_K σ (q_P σ x0 3) = 2000) ∧ vp_in x1 (q_Z σ (q_P σ x0 3)) ∧ q_G l cx M_PM_hasPad 2 128 0 0 37 [(0, .inr (.inr x0)), (1, .inl x1), (2, .inl x2)] [.inl (q_I σ (q_P σ x0 3) x1.toNatClampNeg), .inl (q_I σ (q_P σ x0 17) x2.toNatClampNeg)] σ R
          obtain ⟨s10, s11, s12, s13, s14, s15, hV⟩ := hV
          refine ⟨s10, s11, s12, s13, s14, s15, ?_⟩
          refine q_icmp (q_dc k_PM_hasPad 23 rfl) rfl (fun h16 => ?_) (fun h16 => ?_)
          · have hV := hV.1 h16
            refine q_run k_PM_hasPad 25 9 54 rfl ?_
            show q_K σ x0 = 7 ∧ (q_K σ (q_P σ x0 19) = 1000 ∨ q_K σ (q_P σ x0 19) = 2000) ∧ vp_in (((4 : Int32) * x2) + (1 : Int32)) (q_Z σ (q_P σ x0 19)) ∧ q_G l cx M_PM_hasPad 2 128 0 0 54 [(3, .inl (q_I σ (q_P σ x0 19) (((4 : Int32) * x2) + (1 : Int32)).toNatClampNeg)), (0, .inr (.inr x0)), (1, .inl x1), (2, .inl x2)] [] σ R
            obtain ⟨s18, s19, s20, hV⟩ := hV
            refine ⟨s18, s19, s20, ?_⟩
            refine q_let (fun v17 => q_G l cx M_PM_hasPad 2 128 0 0 54 [(3, .inl v17), (0, .inr (.inr x0)), (1, .inl x1), (2, .inl x2)] [] σ R) (q_I σ (q_P σ x0 19) (((4 : Int32) * x2) + (1 : Int32)).toNatClampNeg) (fun v17 e_v17 => ?_)
            have hV := hV v17 e_v17
            exact q_less (Nat.le_of_ble_eq_true rfl) (Nat.le_of_ble_eq_true rfl) (q_subk [1, 2, 3, 0] rfl hV)
          · have hV := hV.2 h16
            refine q_goto (q_dc k_PM_hasPad 24 rfl) rfl ?_
            exact q_less (Nat.le_of_ble_eq_true rfl) (Nat.le_of_ble_eq_true rfl) (q_subk [0, 1, 2] rfl hV))
  have hV := hV (by
      intro x0 x1 x2 x3 σ hV
      show q_G l cx M_PM_hasPad 2 128 0 0 54 [(0, .inr (.inr x0)), (1, .inl x1), (2, .inl x2), (3, .inl x3)] [] σ R
      refine q_run k_PM_hasPad 34 18 76 rfl ?_
      show q_K σ x0 = 7 ∧ (q_K σ (q_P σ x0 19) = 1000 ∨ q_K σ (q_P σ x0 19) = 2000) ∧ vp_in (((4 : Int32) * x2) + (1 : Int32)) (q_Z σ (q_P σ x0 19)) ∧ q_K σ x0 = 7 ∧ (q_K σ (q_P σ x0 19) = 1000 ∨ q_K σ (q_P σ x0 19) = 2000) ∧ vp_in (((4 : Int32) * x2) + (3 : Int32)) (q_Z σ (q_P σ x0 19)) ∧ q_G l cx M_PM_hasPad 2 128 0 0 76 [(0, .inr (.inr x0)), (1, .inl x1), (2, .inl x2), (3, .inl x3)] [.inl ((q_I σ (q_P σ x0 19) (((4 : Int32) * x2) + (1 : Int32)).toNatClampNeg) + (q_I σ (q_P σ x0 19) (((4 : Int32) * x2) + (3 : Int32)).toNatClampNeg)), .inl x3] σ R
      obtain ⟨s1, s2, s3, s4, s5, s6, hV⟩ := hV
      refine ⟨s1, s2, s3, s4, s5, s6, ?_⟩
      refine q_icmp (q_dc k_PM_hasPad 52 rfl) rfl (fun h7 => ?_) (fun h7 => ?_)
      · have hV := hV.1 h7
        exact q_less (Nat.le_of_ble_eq_true rfl) (Nat.le_of_ble_eq_true rfl) (q_subk [0, 1, 2] rfl hV)
      · have hV := hV.2 h7
        refine q_run k_PM_hasPad 53 27 114 rfl ?_
        show q_K σ x0 = 7 ∧ q_K σ (q_P σ x0 29) = 1001 ∧ vp_in x3 (q_Z σ (q_P σ x0 29)) ∧ q_K σ x0 = 7 ∧ (q_K σ (q_P σ x0 19) = 1000 ∨ q_K σ (q_P σ x0 19) = 2000) ∧ vp_in ((4 : Int32) * x2) (q_Z σ (q_P σ x0 19)) ∧ q_K σ x0 = 7 ∧ (q_K σ (q_P σ x0 19) = 1000 ∨ q_K σ (q_P σ x0 19) = 2000) ∧ vp_in ((4 : Int32) * x2) (q_Z σ (q_P σ x0 19)) ∧ q_K σ x0 = 7 ∧ (q_K σ (q_P σ x0 19) = 1000 ∨ q_K σ (q_P σ x0 19) = 2000) ∧ vp_in (((4 : Int32) * x2) + (2 : Int32)) (q_Z σ (q_P σ x0 19)) ∧ q_G l cx M_PM_hasPad 2 128 0 0 114 [(0, .inr (.inr x0)), (1, .inl x1), (2, .inl x2), (3, .inl x3)] [.inl (((q_I σ (q_P σ x0 19) ((4 : Int32) * x2).toNatClampNeg) + (q_I σ (q_P σ x0 19) (((4 : Int32) * x2) + (2 : Int32)).toNatClampNeg)) - (1 : Int32)), .inl (q_I σ (q_P σ x0 19) ((4 : Int32) * x2).toNatClampNeg), .inr (.inl (q_L σ (q_P σ x0 29) x3.toNatClampNeg))] σ R
        obtain ⟨s8, s9, s10, s11, s12, s13, s14, s15, s16, s17, s18, s19, hV⟩ := hV
        refine ⟨s8, s9, s10, s11, s12, s13, s14, s15, s16, s17, s18, s19, ?_⟩
        refine q_callS (st := [.inr (.inl (q_L σ (q_P σ x0 29) x3.toNatClampNeg))]) (t_PM_span (l := l) (cx := cx)  hV) (q_dc k_PM_hasPad 80 rfl) (Or.inl (List.mem_of_getElem? (i := 1016) (by decide +kernel))) w_PM_span s_PM_span a_PM_span (q_wt (Nat.le_of_ble_eq_true rfl)) ⟨Nat.le_of_ble_eq_true rfl, Nat.le_of_ble_eq_true rfl⟩ (fun v9 τ9 q9 => ?_) (fun n9 τ9 q9 => q_T.leave rfl q9)
        obtain ⟨v22, rfl, hV⟩ := q_cl_elim q9
        clear q9
        have hV := hV
        revert hV
        generalize τ9 = σ23
        intro hV
        show q_G l cx M_PM_hasPad 2 128 0 0 117 [(0, .inr (.inr x0)), (1, .inl x1), (2, .inl x2), (3, .inl x3)] [.inr (.inl v22), .inr (.inl (q_L σ (q_P σ x0 29) x3.toNatClampNeg))] σ23 R
        refine q_run k_PM_hasPad 81 3 120 rfl ?_
        show q_G l cx M_PM_hasPad 2 128 0 0 120 [(0, .inr (.inr x0)), (1, .inl x1), (2, .inl x2), (3, .inl x3)] [.inl (lg_cmp ((q_L σ (q_P σ x0 29) x3.toNatClampNeg) &&& v22) (0 : Int64))] σ23 R
        refine q_ifz (q_dc k_PM_hasPad 84 rfl) rfl (fun h24 => ?_) (fun h24 => ?_)
        · have hV := hV.1 h24
          refine q_run k_PM_hasPad 87 1 128 rfl ?_
          show q_G l cx M_PM_hasPad 2 128 0 0 128 [(3, .inl (x3 + (1 : Int32))), (0, .inr (.inr x0)), (1, .inl x1), (2, .inl x2)] [] σ23 R
          refine q_let (fun v25 => q_G l cx M_PM_hasPad 2 128 0 0 128 [(3, .inl v25), (0, .inr (.inr x0)), (1, .inl x1), (2, .inl x2)] [] σ23 R) (x3 + (1 : Int32)) (fun v25 e_v25 => ?_)
          have hV := hV v25 e_v25
          refine q_goto (q_dc k_PM_hasPad 88 rfl) rfl ?_
          exact q_less (Nat.le_of_ble_eq_true rfl) (Nat.le_of_ble_eq_true rfl) (q_subk [1, 2, 3, 0] rfl hV)
        · have hV := hV.2 h24
          refine q_run k_PM_hasPad 85 1 124 rfl ?_
          show q_G l cx M_PM_hasPad 2 128 0 0 124 [(0, .inr (.inr x0)), (1, .inl x1), (2, .inl x2), (3, .inl x3)] [.inl (1 : Int32)] σ23 R
          exact q_zreturn (q_dc k_PM_hasPad 86 rfl) rfl (by decide) hV)
  have hV := hV (by
      intro x0 x1 x2 σ hV
      show q_G l cx M_PM_hasPad 2 128 0 0 131 [(0, .inr (.inr x0)), (1, .inl x1), (2, .inl x2)] [] σ R
      refine q_run k_PM_hasPad 89 1 134 rfl ?_
      show q_G l cx M_PM_hasPad 2 128 0 0 134 [(2, .inl (x2 + (1 : Int32))), (0, .inr (.inr x0)), (1, .inl x1)] [] σ R
      refine q_let (fun v1 => q_G l cx M_PM_hasPad 2 128 0 0 134 [(2, .inl v1), (0, .inr (.inr x0)), (1, .inl x1)] [] σ R) (x2 + (1 : Int32)) (fun v1 e_v1 => ?_)
      have hV := hV v1 e_v1
      refine q_goto (q_dc k_PM_hasPad 90 rfl) rfl ?_
      exact q_less (Nat.le_of_ble_eq_true rfl) (Nat.le_of_ble_eq_true rfl) (q_subk [1, 2, 0] rfl hV))
  refine q_run k_PM_hasPad 0 2 2 rfl ?_
  show q_G l cx M_PM_hasPad 2 128 0 0 2 [(2, .inl (0 : Int32)), (0, .inr (.inr x0)), (1, .inl x1)] [] σ R
  exact q_less (Nat.le_of_ble_eq_true rfl) (Nat.le_of_ble_eq_true rfl) (q_subk [1, 2, 0] rfl hV)
def V_PM_takeIslands (x0 : Nat) (x1 : Int32) (σ : q_S) (R : q_O → q_S → Prop) : Prop :=
  ∀ (P4 : Nat → Int32 → Int32 → Int32 → q_S → Prop),
  ∀ (P28 : Nat → Int32 → Int32 → q_S → Prop),
  ∀ (P40 : Nat → Int32 → Int32 → Int32 → Int32 → q_S → Prop),
  ∀ (P93 : Nat → Int32 → Int32 → Int32 → q_S → Prop),
  (∀ (x0 : Nat) (x1 : Int32) (x2 : Int32) (x3 : Int32) (σ : q_S), ((((24 : Int32) ≤ x3 → P28 x0 x1 x2 σ) ∧ (¬ ((24 : Int32) ≤ x3) → q_K σ x0 = 7 ∧ q_K σ x0 = 7 ∧ q_K σ (q_P σ x0 28) = 1001 ∧ vp_in x3 (q_Z σ (q_P σ x0 28)) ∧ q_K σ (q_P σ x0 31) = 1001 ∧ vp_in x3 (q_Z σ (q_P σ x0 31)) ∧ ∀ σ2 : q_S, σ2 = q_wL σ (q_P σ x0 31) x3.toNatClampNeg (q_L σ (q_P σ x0 28) x3.toNatClampNeg) → ∀ v9 : Int32, v9 = x3 + (1 : Int32) → P4 x0 x1 x2 v9 σ2))) → P4 x0 x1 x2 x3 σ) →
  (∀ (x0 : Nat) (x1 : Int32) (x2 : Int32) (σ : q_S), (q_K σ x0 = 7 ∧ V_PM_nextPiece x0 σ (q_ci (fun v4 σ5 => ((v4 = (0 : Int32) → R (.inl (some (.inl x2))) σ5) ∧ (¬ (v4 = (0 : Int32)) → P40 x0 x1 x2 (0 : Int32) (0 : Int32) σ5))) (fun n9 σ9 => R (.inr n9) σ9))) → P28 x0 x1 x2 σ) →
  (∀ (x0 : Nat) (x1 : Int32) (x2 : Int32) (x3 : Int32) (x4 : Int32) (σ : q_S), ((((24 : Int32) ≤ x4 → q_K σ x0 = 7 ∧ (q_K σ (q_P σ x0 20) = 1000 ∨ q_K σ (q_P σ x0 20) = 2000) ∧ vp_in (3 : Int32) (q_Z σ (q_P σ x0 20)) ∧ (((q_I σ (q_P σ x0 20) (3 : Int32).toNatClampNeg) ≤ x3 → P28 x0 x1 x2 σ) ∧ (¬ ((q_I σ (q_P σ x0 20) (3 : Int32).toNatClampNeg) ≤ x3) → q_K σ x0 = 7 ∧ V_PM_hasPad x0 x1 σ (q_ci (fun v9 σ10 => ((v9 = (0 : Int32) → ∀ v12 : Int32, v12 = x2 + (1 : Int32) → P93 x0 x1 v12 (0 : Int32) σ10) ∧ (¬ (v9 = (0 : Int32)) → P28 x0 x1 x2 σ10))) (fun n9 σ9 => R (.inr n9) σ9))))) ∧ (¬ ((24 : Int32) ≤ x4) → q_K σ x0 = 7 ∧ q_K σ (q_P σ x0 29) = 1001 ∧ vp_in x4 (q_Z σ (q_P σ x0 29)) ∧ V_PM_count (q_L σ (q_P σ x0 29) x4.toNatClampNeg) σ (q_ci (fun v18 σ19 => ∀ v20 : Int32, v20 = x3 + v18 → ∀ v21 : Int32, v21 = x4 + (1 : Int32) → P40 x0 x1 x2 v20 v21 σ19) (fun n9 σ9 => R (.inr n9) σ9))))) → P40 x0 x1 x2 x3 x4 σ) →
  (∀ (x0 : Nat) (x1 : Int32) (x2 : Int32) (x4 : Int32) (σ : q_S), ((((24 : Int32) ≤ x4 → P28 x0 x1 x2 σ) ∧ (¬ ((24 : Int32) ≤ x4) → q_K σ x0 = 7 ∧ q_K σ x0 = 7 ∧ q_K σ (q_P σ x0 28) = 1001 ∧ vp_in x4 (q_Z σ (q_P σ x0 28)) ∧ q_K σ x0 = 7 ∧ q_K σ (q_P σ x0 29) = 1001 ∧ vp_in x4 (q_Z σ (q_P σ x0 29)) ∧ q_K σ (q_P σ x0 28) = 1001 ∧ vp_in x4 (q_Z σ (q_P σ x0 28)) ∧ ∀ σ2 : q_S, σ2 = q_wL σ (q_P σ x0 28) x4.toNatClampNeg ((q_L σ (q_P σ x0 28) x4.toNatClampNeg) &&& ((q_L σ (q_P σ x0 29) x4.toNatClampNeg) ^^^ (-1 : Int64))) → ∀ v12 : Int32, v12 = x4 + (1 : Int32) → P93 x0 x1 x2 v12 σ2))) → P93 x0 x1 x2 x4 σ) →
  P4 x0 x1 (0 : Int32) (0 : Int32) σ
set_option maxRecDepth 100000 in
theorem t_PM_takeIslands {l : Launch} {cx : q_C} {x0 : Nat} {x1 : Int32} {σ : q_S} {R : q_O → q_S → Prop} (hV : V_PM_takeIslands x0 x1 σ R) : q_Ct l cx M_PM_takeIslands 3 192 0 0 [q_r x0, q_i x1] σ R := by
  refine q_Ct.of p_PM_takeIslands c_PM_takeIslands rfl (Nat.le_of_ble_eq_true rfl) ?_
  have hV := hV (fun (x0 : Nat) (x1 : Int32) (x2 : Int32) (x3 : Int32) (σ : q_S) => q_G l cx M_PM_takeIslands 3 192 0 0 4 [(0, .inr (.inr x0)), (1, .inl x1), (2, .inl x2), (3, .inl x3)] [] σ R) (fun (x0 : Nat) (x1 : Int32) (x2 : Int32) (σ : q_S) => q_G l cx M_PM_takeIslands 3 192 0 0 28 [(0, .inr (.inr x0)), (1, .inl x1), (2, .inl x2)] [] σ R) (fun (x0 : Nat) (x1 : Int32) (x2 : Int32) (x3 : Int32) (x4 : Int32) (σ : q_S) => q_G l cx M_PM_takeIslands 3 192 0 0 40 [(0, .inr (.inr x0)), (1, .inl x1), (2, .inl x2), (3, .inl x3), (4, .inl x4)] [] σ R) (fun (x0 : Nat) (x1 : Int32) (x2 : Int32) (x4 : Int32) (σ : q_S) => q_G l cx M_PM_takeIslands 3 192 0 0 93 [(0, .inr (.inr x0)), (1, .inl x1), (2, .inl x2), (4, .inl x4)] [] σ R)
  have hV := hV (by
      intro x0 x1 x2 x3 σ hV
      show q_G l cx M_PM_takeIslands 3 192 0 0 4 [(0, .inr (.inr x0)), (1, .inl x1), (2, .inl x2), (3, .inl x3)] [] σ R
      refine q_run k_PM_takeIslands 4 2 7 rfl ?_
      show q_G l cx M_PM_takeIslands 3 192 0 0 7 [(0, .inr (.inr x0)), (1, .inl x1), (2, .inl x2), (3, .inl x3)] [.inl (24 : Int32), .inl x3] σ R
      refine q_icmp (q_dc k_PM_takeIslands 6 rfl) rfl (fun h1 => ?_) (fun h1 => ?_)
      · have hV := hV.1 h1
        exact q_less (Nat.le_of_ble_eq_true rfl) (Nat.le_of_ble_eq_true rfl) (q_subk [0, 1, 2] rfl hV)
      · have hV := hV.2 h1
        refine q_run k_PM_takeIslands 7 8 22 rfl ?_
        show q_K σ x0 = 7 ∧ q_K σ x0 = 7 ∧ q_K σ (q_P σ x0 28) = 1001 ∧ vp_in x3 (q_Z σ (q_P σ x0 28)) ∧ q_K σ (q_P σ x0 31) = 1001 ∧ vp_in x3 (q_Z σ (q_P σ x0 31)) ∧ q_G l cx M_PM_takeIslands 3 192 0 0 22 [(0, .inr (.inr x0)), (1, .inl x1), (2, .inl x2), (3, .inl x3)] [] (q_wL σ (q_P σ x0 31) x3.toNatClampNeg (q_L σ (q_P σ x0 28) x3.toNatClampNeg)) R
        obtain ⟨s3, s4, s5, s6, s7, s8, hV⟩ := hV
        refine ⟨s3, s4, s5, s6, s7, s8, ?_⟩
        refine q_let (fun σ2 => q_G l cx M_PM_takeIslands 3 192 0 0 22 [(0, .inr (.inr x0)), (1, .inl x1), (2, .inl x2), (3, .inl x3)] [] σ2 R) (q_wL σ (q_P σ x0 31) x3.toNatClampNeg (q_L σ (q_P σ x0 28) x3.toNatClampNeg)) (fun σ2 e_σ2 => ?_)
        have hV := hV σ2 e_σ2
        refine q_run k_PM_takeIslands 15 1 25 rfl ?_
        show q_G l cx M_PM_takeIslands 3 192 0 0 25 [(3, .inl (x3 + (1 : Int32))), (0, .inr (.inr x0)), (1, .inl x1), (2, .inl x2)] [] σ2 R
        refine q_let (fun v9 => q_G l cx M_PM_takeIslands 3 192 0 0 25 [(3, .inl v9), (0, .inr (.inr x0)), (1, .inl x1), (2, .inl x2)] [] σ2 R) (x3 + (1 : Int32)) (fun v9 e_v9 => ?_)
        have hV := hV v9 e_v9
        refine q_goto (q_dc k_PM_takeIslands 16 rfl) rfl ?_
        exact q_less (Nat.le_of_ble_eq_true rfl) (Nat.le_of_ble_eq_true rfl) (q_subk [1, 2, 3, 0] rfl hV))
  have hV := hV (by
      intro x0 x1 x2 σ hV
      show q_G l cx M_PM_takeIslands 3 192 0 0 28 [(0, .inr (.inr x0)), (1, .inl x1), (2, .inl x2)] [] σ R
      refine q_run k_PM_takeIslands 17 1 29 rfl ?_
      show q_G l cx M_PM_takeIslands 3 192 0 0 29 [(0, .inr (.inr x0)), (1, .inl x1), (2, .inl x2)] [.inr (.inr x0)] σ R
      obtain ⟨s1, hV⟩ := hV
      refine q_callV (st := []) (as := []) (t_PM_nextPiece (l := l) (cx := cx)  hV) (q_dc k_PM_takeIslands 18 rfl) (Or.inl (List.mem_of_getElem? (i := 1039) (by decide +kernel))) w_PM_nextPiece n_PM_nextPiece (ci := 6) rfl e_PM_nextPiece a_PM_nextPiece (q_wt (Nat.le_of_ble_eq_true rfl)) ⟨Nat.le_of_ble_eq_true rfl, Nat.le_of_ble_eq_true rfl⟩ s1 (fun v9 τ9 q9 => ?_) (fun n9 τ9 q9 => q_T.leave rfl q9)
      obtain ⟨v4, rfl, hV⟩ := q_ci_elim q9
      clear q9
      have hV := hV
      revert hV
      generalize τ9 = σ5
      intro hV
      show q_G l cx M_PM_takeIslands 3 192 0 0 32 [(0, .inr (.inr x0)), (1, .inl x1), (2, .inl x2)] [.inl v4] σ5 R
      refine q_ifz (q_dc k_PM_takeIslands 19 rfl) rfl (fun h6 => ?_) (fun h6 => ?_)
      · have hV := hV.1 h6
        refine q_run k_PM_takeIslands 72 1 136 rfl ?_
        show q_G l cx M_PM_takeIslands 3 192 0 0 136 [(0, .inr (.inr x0)), (1, .inl x1), (2, .inl x2)] [.inl x2] σ5 R
        exact q_ireturn (q_dc k_PM_takeIslands 73 rfl) rfl hV
      · have hV := hV.2 h6
        refine q_run k_PM_takeIslands 20 4 40 rfl ?_
        show q_G l cx M_PM_takeIslands 3 192 0 0 40 [(4, .inl (0 : Int32)), (3, .inl (0 : Int32)), (0, .inr (.inr x0)), (1, .inl x1), (2, .inl x2)] [] σ5 R
        exact q_less (Nat.le_of_ble_eq_true rfl) (Nat.le_of_ble_eq_true rfl) (q_subk [2, 3, 4, 1, 0] rfl hV))
  have hV := hV (by
      intro x0 x1 x2 x3 x4 σ hV
      show q_G l cx M_PM_takeIslands 3 192 0 0 40 [(0, .inr (.inr x0)), (1, .inl x1), (2, .inl x2), (3, .inl x3), (4, .inl x4)] [] σ R
      refine q_run k_PM_takeIslands 24 2 44 rfl ?_
      show q_G l cx M_PM_takeIslands 3 192 0 0 44 [(0, .inr (.inr x0)), (1, .inl x1), (2, .inl x2), (3, .inl x3), (4, .inl x4)] [.inl (24 : Int32), .inl x4] σ R
      refine q_icmp (q_dc k_PM_takeIslands 26 rfl) rfl (fun h1 => ?_) (fun h1 => ?_)
      · have hV := hV.1 h1
        refine q_run k_PM_takeIslands 37 5 73 rfl ?_
        show q_K σ x0 = 7 ∧ (q_K σ (q_P σ x0 20) = 1000 ∨ q_K σ (q_P σ x0 20) = 2000) ∧ vp_in (3 : Int32) (q_Z σ (q_P σ x0 20)) ∧ q_G l cx M_PM_takeIslands 3 192 0 0 73 [(0, .inr (.inr x0)), (1, .inl x1), (2, .inl x2), (3, .inl x3), (4, .inl x4)] [.inl (q_I σ (q_P σ x0 20) (3 : Int32).toNatClampNeg), .inl x3] σ R
        obtain ⟨s2, s3, s4, hV⟩ := hV
        refine ⟨s2, s3, s4, ?_⟩
        refine q_icmp (q_dc k_PM_takeIslands 42 rfl) rfl (fun h5 => ?_) (fun h5 => ?_)
        · have hV := hV.1 h5
          exact q_less (Nat.le_of_ble_eq_true rfl) (Nat.le_of_ble_eq_true rfl) (q_subk [0, 1, 2] rfl hV)
        · have hV := hV.2 h5
          refine q_run k_PM_takeIslands 43 2 78 rfl ?_
          show q_G l cx M_PM_takeIslands 3 192 0 0 78 [(0, .inr (.inr x0)), (1, .inl x1), (2, .inl x2), (3, .inl x3), (4, .inl x4)] [.inl x1, .inr (.inr x0)] σ R
          obtain ⟨s6, hV⟩ := hV
          refine q_callV (st := []) (as := [.inl x1]) (t_PM_hasPad (l := l) (cx := cx)  hV) (q_dc k_PM_takeIslands 45 rfl) (Or.inl (List.mem_of_getElem? (i := 1045) (by decide +kernel))) w_PM_hasPad n_PM_hasPad (ci := 6) rfl e_PM_hasPad a_PM_hasPad (q_wt (Nat.le_of_ble_eq_true rfl)) ⟨Nat.le_of_ble_eq_true rfl, Nat.le_of_ble_eq_true rfl⟩ s6 (fun v9 τ9 q9 => ?_) (fun n9 τ9 q9 => q_T.leave rfl q9)
          obtain ⟨v9, rfl, hV⟩ := q_ci_elim q9
          clear q9
          have hV := hV
          revert hV
          generalize τ9 = σ10
          intro hV
          show q_G l cx M_PM_takeIslands 3 192 0 0 81 [(0, .inr (.inr x0)), (1, .inl x1), (2, .inl x2), (3, .inl x3), (4, .inl x4)] [.inl v9] σ10 R
          refine q_ifz (q_dc k_PM_takeIslands 46 rfl) rfl (fun h11 => ?_) (fun h11 => ?_)
          · have hV := hV.1 h11
            refine q_run k_PM_takeIslands 48 1 90 rfl ?_
            show q_G l cx M_PM_takeIslands 3 192 0 0 90 [(2, .inl (x2 + (1 : Int32))), (0, .inr (.inr x0)), (1, .inl x1), (3, .inl x3), (4, .inl x4)] [] σ10 R
            refine q_let (fun v12 => q_G l cx M_PM_takeIslands 3 192 0 0 90 [(2, .inl v12), (0, .inr (.inr x0)), (1, .inl x1), (3, .inl x3), (4, .inl x4)] [] σ10 R) (x2 + (1 : Int32)) (fun v12 e_v12 => ?_)
            have hV := hV v12 e_v12
            refine q_run k_PM_takeIslands 49 2 93 rfl ?_
            show q_G l cx M_PM_takeIslands 3 192 0 0 93 [(4, .inl (0 : Int32)), (2, .inl v12), (0, .inr (.inr x0)), (1, .inl x1), (3, .inl x3)] [] σ10 R
            exact q_less (Nat.le_of_ble_eq_true rfl) (Nat.le_of_ble_eq_true rfl) (q_subk [2, 3, 1, 0] rfl hV)
          · have hV := hV.2 h11
            refine q_goto (q_dc k_PM_takeIslands 47 rfl) rfl ?_
            exact q_less (Nat.le_of_ble_eq_true rfl) (Nat.le_of_ble_eq_true rfl) (q_subk [0, 1, 2] rfl hV)
      · have hV := hV.2 h1
        refine q_run k_PM_takeIslands 27 5 55 rfl ?_
        show q_K σ x0 = 7 ∧ q_K σ (q_P σ x0 29) = 1001 ∧ vp_in x4 (q_Z σ (q_P σ x0 29)) ∧ q_G l cx M_PM_takeIslands 3 192 0 0 55 [(0, .inr (.inr x0)), (1, .inl x1), (2, .inl x2), (3, .inl x3), (4, .inl x4)] [.inr (.inl (q_L σ (q_P σ x0 29) x4.toNatClampNeg)), .inl x3] σ R
        obtain ⟨s13, s14, s15, hV⟩ := hV
        refine ⟨s13, s14, s15, ?_⟩
        refine q_callS (st := [.inl x3]) (t_PM_count (l := l) (cx := cx)  hV) (q_dc k_PM_takeIslands 32 rfl) (Or.inl (List.mem_of_getElem? (i := 1042) (by decide +kernel))) w_PM_count s_PM_count a_PM_count (q_wt (Nat.le_of_ble_eq_true rfl)) ⟨Nat.le_of_ble_eq_true rfl, Nat.le_of_ble_eq_true rfl⟩ (fun v9 τ9 q9 => ?_) (fun n9 τ9 q9 => q_T.leave rfl q9)
        obtain ⟨v18, rfl, hV⟩ := q_ci_elim q9
        clear q9
        have hV := hV
        revert hV
        generalize τ9 = σ19
        intro hV
        show q_G l cx M_PM_takeIslands 3 192 0 0 58 [(0, .inr (.inr x0)), (1, .inl x1), (2, .inl x2), (3, .inl x3), (4, .inl x4)] [.inl v18, .inl x3] σ19 R
        refine q_run k_PM_takeIslands 33 2 60 rfl ?_
        show q_G l cx M_PM_takeIslands 3 192 0 0 60 [(3, .inl (x3 + v18)), (0, .inr (.inr x0)), (1, .inl x1), (2, .inl x2), (4, .inl x4)] [] σ19 R
        refine q_let (fun v20 => q_G l cx M_PM_takeIslands 3 192 0 0 60 [(3, .inl v20), (0, .inr (.inr x0)), (1, .inl x1), (2, .inl x2), (4, .inl x4)] [] σ19 R) (x3 + v18) (fun v20 e_v20 => ?_)
        have hV := hV v20 e_v20
        refine q_run k_PM_takeIslands 35 1 63 rfl ?_
        show q_G l cx M_PM_takeIslands 3 192 0 0 63 [(4, .inl (x4 + (1 : Int32))), (3, .inl v20), (0, .inr (.inr x0)), (1, .inl x1), (2, .inl x2)] [] σ19 R
        refine q_let (fun v21 => q_G l cx M_PM_takeIslands 3 192 0 0 63 [(4, .inl v21), (3, .inl v20), (0, .inr (.inr x0)), (1, .inl x1), (2, .inl x2)] [] σ19 R) (x4 + (1 : Int32)) (fun v21 e_v21 => ?_)
        have hV := hV v21 e_v21
        refine q_goto (q_dc k_PM_takeIslands 36 rfl) rfl ?_
        exact q_less (Nat.le_of_ble_eq_true rfl) (Nat.le_of_ble_eq_true rfl) (q_subk [2, 3, 4, 1, 0] rfl hV))
  have hV := hV (by
      intro x0 x1 x2 x4 σ hV
      show q_G l cx M_PM_takeIslands 3 192 0 0 93 [(0, .inr (.inr x0)), (1, .inl x1), (2, .inl x2), (4, .inl x4)] [] σ R
      refine q_run k_PM_takeIslands 51 2 97 rfl ?_
      show q_G l cx M_PM_takeIslands 3 192 0 0 97 [(0, .inr (.inr x0)), (1, .inl x1), (2, .inl x2), (4, .inl x4)] [.inl (24 : Int32), .inl x4] σ R
      refine q_icmp (q_dc k_PM_takeIslands 53 rfl) rfl (fun h1 => ?_) (fun h1 => ?_)
      · have hV := hV.1 h1
        refine q_goto (q_dc k_PM_takeIslands 71 rfl) rfl ?_
        exact q_less (Nat.le_of_ble_eq_true rfl) (Nat.le_of_ble_eq_true rfl) (q_subk [0, 1, 2] rfl hV)
      · have hV := hV.2 h1
        refine q_run k_PM_takeIslands 54 15 126 rfl ?_
        show q_K σ x0 = 7 ∧ q_K σ x0 = 7 ∧ q_K σ (q_P σ x0 28) = 1001 ∧ vp_in x4 (q_Z σ (q_P σ x0 28)) ∧ q_K σ x0 = 7 ∧ q_K σ (q_P σ x0 29) = 1001 ∧ vp_in x4 (q_Z σ (q_P σ x0 29)) ∧ q_K σ (q_P σ x0 28) = 1001 ∧ vp_in x4 (q_Z σ (q_P σ x0 28)) ∧ q_G l cx M_PM_takeIslands 3 192 0 0 126 [(0, .inr (.inr x0)), (1, .inl x1), (2, .inl x2), (4, .inl x4)] [] (q_wL σ (q_P σ x0 28) x4.toNatClampNeg ((q_L σ (q_P σ x0 28) x4.toNatClampNeg) &&& ((q_L σ (q_P σ x0 29) x4.toNatClampNeg) ^^^ (-1 : Int64)))) R
        obtain ⟨s3, s4, s5, s6, s7, s8, s9, s10, s11, hV⟩ := hV
        refine ⟨s3, s4, s5, s6, s7, s8, s9, s10, s11, ?_⟩
        refine q_let (fun σ2 => q_G l cx M_PM_takeIslands 3 192 0 0 126 [(0, .inr (.inr x0)), (1, .inl x1), (2, .inl x2), (4, .inl x4)] [] σ2 R) (q_wL σ (q_P σ x0 28) x4.toNatClampNeg ((q_L σ (q_P σ x0 28) x4.toNatClampNeg) &&& ((q_L σ (q_P σ x0 29) x4.toNatClampNeg) ^^^ (-1 : Int64)))) (fun σ2 e_σ2 => ?_)
        have hV := hV σ2 e_σ2
        refine q_run k_PM_takeIslands 69 1 129 rfl ?_
        show q_G l cx M_PM_takeIslands 3 192 0 0 129 [(4, .inl (x4 + (1 : Int32))), (0, .inr (.inr x0)), (1, .inl x1), (2, .inl x2)] [] σ2 R
        refine q_let (fun v12 => q_G l cx M_PM_takeIslands 3 192 0 0 129 [(4, .inl v12), (0, .inr (.inr x0)), (1, .inl x1), (2, .inl x2)] [] σ2 R) (x4 + (1 : Int32)) (fun v12 e_v12 => ?_)
        have hV := hV v12 e_v12
        refine q_goto (q_dc k_PM_takeIslands 70 rfl) rfl ?_
        exact q_less (Nat.le_of_ble_eq_true rfl) (Nat.le_of_ble_eq_true rfl) (q_subk [1, 2, 3, 0] rfl hV))
  refine q_run k_PM_takeIslands 0 4 4 rfl ?_
  show q_G l cx M_PM_takeIslands 3 192 0 0 4 [(3, .inl (0 : Int32)), (2, .inl (0 : Int32)), (0, .inr (.inr x0)), (1, .inl x1)] [] σ R
  exact q_less (Nat.le_of_ble_eq_true rfl) (Nat.le_of_ble_eq_true rfl) (q_subk [2, 3, 1, 0] rfl hV)
def V_PM_fillPlane (x0 : Nat) (x1 : Int32) (σ : q_S) (R : q_O → q_S → Prop) : Prop :=
  ∀ (P33 : Nat → Int32 → Int32 → q_S → Prop),
  (∀ (x0 : Nat) (x1 : Int32) (x2 : Int32) (σ : q_S), ((((24 : Int32) ≤ x2 → q_K σ x0 = 7 ∧ ((1 : Int32) = 0 ∨ (1 : Int32) = 1) ∧ q_K σ (q_P σ x0 27) = 1003 ∧ vp_in x1 (q_Z σ (q_P σ x0 27)) ∧ ∀ σ2 : q_S, σ2 = q_wI σ (q_P σ x0 27) x1.toNatClampNeg (1 : Int32) → R (.inl none) σ2) ∧ (¬ ((24 : Int32) ≤ x2) → q_K σ x0 = 7 ∧ q_K σ x0 = 7 ∧ q_K σ (q_P σ x0 28) = 1001 ∧ vp_in x2 (q_Z σ (q_P σ x0 28)) ∧ q_K σ (q_P σ x0 22) = 1001 ∧ vp_in (((24 : Int32) * x1) + x2) (q_Z σ (q_P σ x0 22)) ∧ ∀ σ7 : q_S, σ7 = q_wL σ (q_P σ x0 22) (((24 : Int32) * x1) + x2).toNatClampNeg (q_L σ (q_P σ x0 28) x2.toNatClampNeg) → ∀ v14 : Int32, v14 = x2 + (1 : Int32) → P33 x0 x1 v14 σ7))) → P33 x0 x1 x2 σ) →
  q_K σ x0 = 7 ∧ V_PM_findFree x0 x1 σ (q_cv (fun σ5 => q_K σ5 x0 = 7 ∧ q_K σ5 x0 = 7 ∧ V_PM_takeNecks x0 σ5 (q_ci (fun v10 σ11 => (v10 = 0 ∨ v10 = 1) ∧ q_K σ11 (q_P σ5 x0 26) = 1003 ∧ vp_in x1 (q_Z σ11 (q_P σ5 x0 26)) ∧ ∀ σ12 : q_S, σ12 = q_wI σ11 (q_P σ5 x0 26) x1.toNatClampNeg v10 → q_K σ12 x0 = 7 ∧ V_PM_hatchFree x0 x1 σ12 (q_cv (fun σ20 => q_K σ20 x0 = 7 ∧ q_K σ20 x0 = 7 ∧ V_PM_takeIslands x0 x1 σ20 (q_ci (fun v25 σ26 => q_K σ26 (q_P σ20 x0 25) = 1000 ∧ vp_in x1 (q_Z σ26 (q_P σ20 x0 25)) ∧ ∀ σ27 : q_S, σ27 = q_wI σ26 (q_P σ20 x0 25) x1.toNatClampNeg v25 → P33 x0 x1 (0 : Int32) σ27) (fun n9 σ9 => R (.inr n9) σ9))) (fun n9 σ9 => R (.inr n9) σ9))) (fun n9 σ9 => R (.inr n9) σ9))) (fun n9 σ9 => R (.inr n9) σ9))
set_option maxRecDepth 100000 in
theorem t_PM_fillPlane {l : Launch} {cx : q_C} {x0 : Nat} {x1 : Int32} {σ : q_S} {R : q_O → q_S → Prop} (hV : V_PM_fillPlane x0 x1 σ R) : q_Ct l cx M_PM_fillPlane 5 320 0 0 [q_r x0, q_i x1] σ R := by
  refine q_Ct.of p_PM_fillPlane c_PM_fillPlane rfl (Nat.le_of_ble_eq_true rfl) ?_
  have hV := hV (fun (x0 : Nat) (x1 : Int32) (x2 : Int32) (σ : q_S) => q_G l cx M_PM_fillPlane 5 320 0 0 33 [(0, .inr (.inr x0)), (1, .inl x1), (2, .inl x2)] [] σ R)
  have hV := hV (by
      intro x0 x1 x2 σ hV
      show q_G l cx M_PM_fillPlane 5 320 0 0 33 [(0, .inr (.inr x0)), (1, .inl x1), (2, .inl x2)] [] σ R
      refine q_run k_PM_fillPlane 21 2 36 rfl ?_
      show q_G l cx M_PM_fillPlane 5 320 0 0 36 [(0, .inr (.inr x0)), (1, .inl x1), (2, .inl x2)] [.inl (24 : Int32), .inl x2] σ R
      refine q_icmp (q_dc k_PM_fillPlane 23 rfl) rfl (fun h1 => ?_) (fun h1 => ?_)
      · have hV := hV.1 h1
        refine q_run k_PM_fillPlane 38 5 69 rfl ?_
        show q_K σ x0 = 7 ∧ ((1 : Int32) = 0 ∨ (1 : Int32) = 1) ∧ q_K σ (q_P σ x0 27) = 1003 ∧ vp_in x1 (q_Z σ (q_P σ x0 27)) ∧ q_G l cx M_PM_fillPlane 5 320 0 0 69 [(0, .inr (.inr x0)), (1, .inl x1), (2, .inl x2)] [] (q_wI σ (q_P σ x0 27) x1.toNatClampNeg (1 : Int32)) R
        obtain ⟨s3, s4, s5, s6, hV⟩ := hV
        refine ⟨s3, s4, s5, s6, ?_⟩
        refine q_let (fun σ2 => q_G l cx M_PM_fillPlane 5 320 0 0 69 [(0, .inr (.inr x0)), (1, .inl x1), (2, .inl x2)] [] σ2 R) (q_wI σ (q_P σ x0 27) x1.toNatClampNeg (1 : Int32)) (fun σ2 e_σ2 => ?_)
        have hV := hV σ2 e_σ2
        exact q_vreturn (q_dc k_PM_fillPlane 43 rfl) rfl hV
      · have hV := hV.2 h1
        refine q_run k_PM_fillPlane 24 12 56 rfl ?_
        show q_K σ x0 = 7 ∧ q_K σ x0 = 7 ∧ q_K σ (q_P σ x0 28) = 1001 ∧ vp_in x2 (q_Z σ (q_P σ x0 28)) ∧ q_K σ (q_P σ x0 22) = 1001 ∧ vp_in (((24 : Int32) * x1) + x2) (q_Z σ (q_P σ x0 22)) ∧ q_G l cx M_PM_fillPlane 5 320 0 0 56 [(0, .inr (.inr x0)), (1, .inl x1), (2, .inl x2)] [] (q_wL σ (q_P σ x0 22) (((24 : Int32) * x1) + x2).toNatClampNeg (q_L σ (q_P σ x0 28) x2.toNatClampNeg)) R
        obtain ⟨s8, s9, s10, s11, s12, s13, hV⟩ := hV
        refine ⟨s8, s9, s10, s11, s12, s13, ?_⟩
        refine q_let (fun σ7 => q_G l cx M_PM_fillPlane 5 320 0 0 56 [(0, .inr (.inr x0)), (1, .inl x1), (2, .inl x2)] [] σ7 R) (q_wL σ (q_P σ x0 22) (((24 : Int32) * x1) + x2).toNatClampNeg (q_L σ (q_P σ x0 28) x2.toNatClampNeg)) (fun σ7 e_σ7 => ?_)
        have hV := hV σ7 e_σ7
        refine q_run k_PM_fillPlane 36 1 59 rfl ?_
        show q_G l cx M_PM_fillPlane 5 320 0 0 59 [(2, .inl (x2 + (1 : Int32))), (0, .inr (.inr x0)), (1, .inl x1)] [] σ7 R
        refine q_let (fun v14 => q_G l cx M_PM_fillPlane 5 320 0 0 59 [(2, .inl v14), (0, .inr (.inr x0)), (1, .inl x1)] [] σ7 R) (x2 + (1 : Int32)) (fun v14 e_v14 => ?_)
        have hV := hV v14 e_v14
        refine q_goto (q_dc k_PM_fillPlane 37 rfl) rfl ?_
        exact q_less (Nat.le_of_ble_eq_true rfl) (Nat.le_of_ble_eq_true rfl) (q_subk [1, 2, 0] rfl hV))
  refine q_run k_PM_fillPlane 0 2 2 rfl ?_
  show q_G l cx M_PM_fillPlane 5 320 0 0 2 [(0, .inr (.inr x0)), (1, .inl x1)] [.inl x1, .inr (.inr x0)] σ R
  obtain ⟨s1, hV⟩ := hV
  refine q_callV (st := []) (as := [.inl x1]) (t_PM_findFree (l := l) (cx := cx)  hV) (q_dc k_PM_fillPlane 2 rfl) (Or.inl (List.mem_of_getElem? (i := 997) (by decide +kernel))) w_PM_findFree n_PM_findFree (ci := 6) rfl e_PM_findFree a_PM_findFree (q_wt (Nat.le_of_ble_eq_true rfl)) ⟨Nat.le_of_ble_eq_true rfl, Nat.le_of_ble_eq_true rfl⟩ s1 (fun v9 τ9 q9 => ?_) (fun n9 τ9 q9 => q_T.leave rfl q9)
  obtain ⟨rfl, hV⟩ := q_cv_elim q9
  clear q9
  have hV := hV
  revert hV
  generalize τ9 = σ5
  intro hV
  show q_G l cx M_PM_fillPlane 5 320 0 0 5 [(0, .inr (.inr x0)), (1, .inl x1)] [] σ5 R
  refine q_run k_PM_fillPlane 3 4 11 rfl ?_
  show q_K σ5 x0 = 7 ∧ q_G l cx M_PM_fillPlane 5 320 0 0 11 [(0, .inr (.inr x0)), (1, .inl x1)] [.inr (.inr x0), .inl x1, .inr (.inr (q_P σ5 x0 26))] σ5 R
  obtain ⟨s6, hV⟩ := hV
  refine ⟨s6, ?_⟩
  obtain ⟨s7, hV⟩ := hV
  refine q_callV (st := [.inl x1, .inr (.inr (q_P σ5 x0 26))]) (as := []) (t_PM_takeNecks (l := l) (cx := cx)  hV) (q_dc k_PM_fillPlane 7 rfl) (Or.inl (List.mem_of_getElem? (i := 1030) (by decide +kernel))) w_PM_takeNecks n_PM_takeNecks (ci := 6) rfl e_PM_takeNecks a_PM_takeNecks (q_wt (Nat.le_of_ble_eq_true rfl)) ⟨Nat.le_of_ble_eq_true rfl, Nat.le_of_ble_eq_true rfl⟩ s7 (fun v9 τ9 q9 => ?_) (fun n9 τ9 q9 => q_T.leave rfl q9)
  obtain ⟨v10, rfl, hV⟩ := q_ci_elim q9
  clear q9
  have hV := hV
  revert hV
  generalize τ9 = σ11
  intro hV
  show q_G l cx M_PM_fillPlane 5 320 0 0 14 [(0, .inr (.inr x0)), (1, .inl x1)] [.inl v10, .inl x1, .inr (.inr (q_P σ5 x0 26))] σ11 R
  refine q_run k_PM_fillPlane 8 1 15 rfl ?_
  show (v10 = 0 ∨ v10 = 1) ∧ q_K σ11 (q_P σ5 x0 26) = 1003 ∧ vp_in x1 (q_Z σ11 (q_P σ5 x0 26)) ∧ q_G l cx M_PM_fillPlane 5 320 0 0 15 [(0, .inr (.inr x0)), (1, .inl x1)] [] (q_wI σ11 (q_P σ5 x0 26) x1.toNatClampNeg v10) R
  obtain ⟨s13, s14, s15, hV⟩ := hV
  refine ⟨s13, s14, s15, ?_⟩
  refine q_let (fun σ12 => q_G l cx M_PM_fillPlane 5 320 0 0 15 [(0, .inr (.inr x0)), (1, .inl x1)] [] σ12 R) (q_wI σ11 (q_P σ5 x0 26) x1.toNatClampNeg v10) (fun σ12 e_σ12 => ?_)
  have hV := hV σ12 e_σ12
  refine q_run k_PM_fillPlane 9 2 17 rfl ?_
  show q_G l cx M_PM_fillPlane 5 320 0 0 17 [(0, .inr (.inr x0)), (1, .inl x1)] [.inl x1, .inr (.inr x0)] σ12 R
  obtain ⟨s16, hV⟩ := hV
  refine q_callV (st := []) (as := [.inl x1]) (t_PM_hatchFree (l := l) (cx := cx)  hV) (q_dc k_PM_fillPlane 11 rfl) (Or.inl (List.mem_of_getElem? (i := 1033) (by decide +kernel))) w_PM_hatchFree n_PM_hatchFree (ci := 6) rfl e_PM_hatchFree a_PM_hatchFree (q_wt (Nat.le_of_ble_eq_true rfl)) ⟨Nat.le_of_ble_eq_true rfl, Nat.le_of_ble_eq_true rfl⟩ s16 (fun v9 τ9 q9 => ?_) (fun n9 τ9 q9 => q_T.leave rfl q9)
  obtain ⟨rfl, hV⟩ := q_cv_elim q9
  clear q9
  have hV := hV
  revert hV
  generalize τ9 = σ20
  intro hV
  show q_G l cx M_PM_fillPlane 5 320 0 0 20 [(0, .inr (.inr x0)), (1, .inl x1)] [] σ20 R
  refine q_run k_PM_fillPlane 12 5 27 rfl ?_
  show q_K σ20 x0 = 7 ∧ q_G l cx M_PM_fillPlane 5 320 0 0 27 [(0, .inr (.inr x0)), (1, .inl x1)] [.inl x1, .inr (.inr x0), .inl x1, .inr (.inr (q_P σ20 x0 25))] σ20 R
  obtain ⟨s21, hV⟩ := hV
  refine ⟨s21, ?_⟩
  obtain ⟨s22, hV⟩ := hV
  refine q_callV (st := [.inl x1, .inr (.inr (q_P σ20 x0 25))]) (as := [.inl x1]) (t_PM_takeIslands (l := l) (cx := cx)  hV) (q_dc k_PM_fillPlane 17 rfl) (Or.inl (List.mem_of_getElem? (i := 1036) (by decide +kernel))) w_PM_takeIslands n_PM_takeIslands (ci := 6) rfl e_PM_takeIslands a_PM_takeIslands (q_wt (Nat.le_of_ble_eq_true rfl)) ⟨Nat.le_of_ble_eq_true rfl, Nat.le_of_ble_eq_true rfl⟩ s22 (fun v9 τ9 q9 => ?_) (fun n9 τ9 q9 => q_T.leave rfl q9)
  obtain ⟨v25, rfl, hV⟩ := q_ci_elim q9
  clear q9
  have hV := hV
  revert hV
  generalize τ9 = σ26
  intro hV
  show q_G l cx M_PM_fillPlane 5 320 0 0 30 [(0, .inr (.inr x0)), (1, .inl x1)] [.inl v25, .inl x1, .inr (.inr (q_P σ20 x0 25))] σ26 R
  refine q_run k_PM_fillPlane 18 1 31 rfl ?_
  show q_K σ26 (q_P σ20 x0 25) = 1000 ∧ vp_in x1 (q_Z σ26 (q_P σ20 x0 25)) ∧ q_G l cx M_PM_fillPlane 5 320 0 0 31 [(0, .inr (.inr x0)), (1, .inl x1)] [] (q_wI σ26 (q_P σ20 x0 25) x1.toNatClampNeg v25) R
  obtain ⟨s28, s29, hV⟩ := hV
  refine ⟨s28, s29, ?_⟩
  refine q_let (fun σ27 => q_G l cx M_PM_fillPlane 5 320 0 0 31 [(0, .inr (.inr x0)), (1, .inl x1)] [] σ27 R) (q_wI σ26 (q_P σ20 x0 25) x1.toNatClampNeg v25) (fun σ27 e_σ27 => ?_)
  have hV := hV σ27 e_σ27
  refine q_run k_PM_fillPlane 19 2 33 rfl ?_
  show q_G l cx M_PM_fillPlane 5 320 0 0 33 [(2, .inl (0 : Int32)), (0, .inr (.inr x0)), (1, .inl x1)] [] σ27 R
  exact q_less (Nat.le_of_ble_eq_true rfl) (Nat.le_of_ble_eq_true rfl) (q_subk [1, 2, 0] rfl hV)
def V_PM_fillAll (x0 : Nat) (σ : q_S) (R : q_O → q_S → Prop) : Prop :=
  ∀ (P2 : Nat → Int32 → q_S → Prop),
  ∀ (P23 : Nat → Int32 → q_S → Prop),
  ∀ (P35 : Nat → Int32 → Int32 → Int32 → q_S → Prop),
  ∀ (P72 : Nat → Int32 → Int32 → q_S → Prop),
  ∀ (P76 : Nat → Int32 → Int32 → Int32 → q_S → Prop),
  ∀ (P77 : Nat → Int32 → Int32 → Int32 → q_S → Prop),
  (∀ (x0 : Nat) (x1 : Int32) (σ : q_S), ((((8 : Int32) ≤ x1 → P23 x0 (0 : Int32) σ) ∧ (¬ ((8 : Int32) ≤ x1) → q_K σ x0 = 7 ∧ ((0 : Int32) = 0 ∨ (0 : Int32) = 1) ∧ q_K σ (q_P σ x0 27) = 1003 ∧ vp_in x1 (q_Z σ (q_P σ x0 27)) ∧ ∀ σ2 : q_S, σ2 = q_wI σ (q_P σ x0 27) x1.toNatClampNeg (0 : Int32) → ∀ v7 : Int32, v7 = x1 + (1 : Int32) → P2 x0 v7 σ2))) → P2 x0 x1 σ) →
  (∀ (x0 : Nat) (x1 : Int32) (σ : q_S), (q_K σ x0 = 7 ∧ (((q_I σ x0 2) ≤ x1 → R (.inl none) σ) ∧ (¬ ((q_I σ x0 2) ≤ x1) → P35 x0 x1 (-1 : Int32) (0 : Int32) σ))) → P23 x0 x1 σ) →
  (∀ (x0 : Nat) (x1 : Int32) (x2 : Int32) (x3 : Int32) (σ : q_S), (q_K σ x0 = 7 ∧ (((q_I σ x0 2) ≤ x3 → q_K σ x0 = 7 ∧ V_PM_fillPlane x0 x2 σ (q_cv (fun σ7 => ∀ v8 : Int32, v8 = x1 + (1 : Int32) → P23 x0 v8 σ7) (fun n9 σ9 => R (.inr n9) σ9))) ∧ (¬ ((q_I σ x0 2) ≤ x3) → q_K σ x0 = 7 ∧ q_K σ (q_P σ x0 27) = 1003 ∧ vp_in x3 (q_Z σ (q_P σ x0 27)) ∧ ((¬ (q_I σ (q_P σ x0 27) x3.toNatClampNeg) = (0 : Int32) → P76 x0 x1 x2 x3 σ) ∧ (¬ (¬ (q_I σ (q_P σ x0 27) x3.toNatClampNeg) = (0 : Int32)) → ((x2 = (-1 : Int32) → P72 x0 x1 x3 σ) ∧ (¬ (x2 = (-1 : Int32)) → q_K σ x0 = 7 ∧ (q_K σ (q_P σ x0 5) = 1000 ∨ q_K σ (q_P σ x0 5) = 2000) ∧ vp_in x3 (q_Z σ (q_P σ x0 5)) ∧ q_K σ x0 = 7 ∧ (q_K σ (q_P σ x0 5) = 1000 ∨ q_K σ (q_P σ x0 5) = 2000) ∧ vp_in x2 (q_Z σ (q_P σ x0 5)) ∧ (((q_I σ (q_P σ x0 5) x3.toNatClampNeg) ≤ (q_I σ (q_P σ x0 5) x2.toNatClampNeg) → P76 x0 x1 x2 x3 σ) ∧ (¬ ((q_I σ (q_P σ x0 5) x3.toNatClampNeg) ≤ (q_I σ (q_P σ x0 5) x2.toNatClampNeg)) → P72 x0 x1 x3 σ))))))))) → P35 x0 x1 x2 x3 σ) →
  (∀ (x0 : Nat) (x1 : Int32) (x3 : Int32) (σ : q_S), (P77 x0 x1 x3 x3 σ) → P72 x0 x1 x3 σ) →
  (∀ (x0 : Nat) (x1 : Int32) (x2 : Int32) (x3 : Int32) (σ : q_S), (P77 x0 x1 x3 x2 σ) → P76 x0 x1 x2 x3 σ) →
  (∀ (x0 : Nat) (x1 : Int32) (x3 : Int32) (y0 : Int32) (σ : q_S), (∀ v1 : Int32, v1 = x3 + (1 : Int32) → P35 x0 x1 y0 v1 σ) → P77 x0 x1 x3 y0 σ) →
  P2 x0 (0 : Int32) σ
set_option maxRecDepth 100000 in
theorem t_PM_fillAll {l : Launch} {cx : q_C} {x0 : Nat} {σ : q_S} {R : q_O → q_S → Prop} (hV : V_PM_fillAll x0 σ R) : q_Ct l cx M_PM_fillAll 6 384 0 0 [q_r x0] σ R := by
  refine q_Ct.of p_PM_fillAll c_PM_fillAll rfl (Nat.le_of_ble_eq_true rfl) ?_
  have hV := hV (fun (x0 : Nat) (x1 : Int32) (σ : q_S) => q_G l cx M_PM_fillAll 6 384 0 0 2 [(0, .inr (.inr x0)), (1, .inl x1)] [] σ R) (fun (x0 : Nat) (x1 : Int32) (σ : q_S) => q_G l cx M_PM_fillAll 6 384 0 0 23 [(0, .inr (.inr x0)), (1, .inl x1)] [] σ R) (fun (x0 : Nat) (x1 : Int32) (x2 : Int32) (x3 : Int32) (σ : q_S) => q_G l cx M_PM_fillAll 6 384 0 0 35 [(0, .inr (.inr x0)), (1, .inl x1), (2, .inl x2), (3, .inl x3)] [] σ R) (fun (x0 : Nat) (x1 : Int32) (x3 : Int32) (σ : q_S) => q_G l cx M_PM_fillAll 6 384 0 0 72 [(0, .inr (.inr x0)), (1, .inl x1), (3, .inl x3)] [] σ R) (fun (x0 : Nat) (x1 : Int32) (x2 : Int32) (x3 : Int32) (σ : q_S) => q_G l cx M_PM_fillAll 6 384 0 0 76 [(0, .inr (.inr x0)), (1, .inl x1), (2, .inl x2), (3, .inl x3)] [] σ R) (fun (x0 : Nat) (x1 : Int32) (x3 : Int32) (y0 : Int32) (σ : q_S) => q_G l cx M_PM_fillAll 6 384 0 0 77 [(0, .inr (.inr x0)), (1, .inl x1), (3, .inl x3)] [.inl y0] σ R)
  have hV := hV (by
      intro x0 x1 σ hV
      show q_G l cx M_PM_fillAll 6 384 0 0 2 [(0, .inr (.inr x0)), (1, .inl x1)] [] σ R
      refine q_run k_PM_fillAll 2 2 5 rfl ?_
      show q_G l cx M_PM_fillAll 6 384 0 0 5 [(0, .inr (.inr x0)), (1, .inl x1)] [.inl (8 : Int32), .inl x1] σ R
      refine q_icmp (q_dc k_PM_fillAll 4 rfl) rfl (fun h1 => ?_) (fun h1 => ?_)
      · have hV := hV.1 h1
        refine q_run k_PM_fillAll 12 2 23 rfl ?_
        show q_G l cx M_PM_fillAll 6 384 0 0 23 [(1, .inl (0 : Int32)), (0, .inr (.inr x0))] [] σ R
        exact q_less (Nat.le_of_ble_eq_true rfl) (Nat.le_of_ble_eq_true rfl) (q_subk [1, 0] rfl hV)
      · have hV := hV.2 h1
        refine q_run k_PM_fillAll 5 5 15 rfl ?_
        show q_K σ x0 = 7 ∧ ((0 : Int32) = 0 ∨ (0 : Int32) = 1) ∧ q_K σ (q_P σ x0 27) = 1003 ∧ vp_in x1 (q_Z σ (q_P σ x0 27)) ∧ q_G l cx M_PM_fillAll 6 384 0 0 15 [(0, .inr (.inr x0)), (1, .inl x1)] [] (q_wI σ (q_P σ x0 27) x1.toNatClampNeg (0 : Int32)) R
        obtain ⟨s3, s4, s5, s6, hV⟩ := hV
        refine ⟨s3, s4, s5, s6, ?_⟩
        refine q_let (fun σ2 => q_G l cx M_PM_fillAll 6 384 0 0 15 [(0, .inr (.inr x0)), (1, .inl x1)] [] σ2 R) (q_wI σ (q_P σ x0 27) x1.toNatClampNeg (0 : Int32)) (fun σ2 e_σ2 => ?_)
        have hV := hV σ2 e_σ2
        refine q_run k_PM_fillAll 10 1 18 rfl ?_
        show q_G l cx M_PM_fillAll 6 384 0 0 18 [(1, .inl (x1 + (1 : Int32))), (0, .inr (.inr x0))] [] σ2 R
        refine q_let (fun v7 => q_G l cx M_PM_fillAll 6 384 0 0 18 [(1, .inl v7), (0, .inr (.inr x0))] [] σ2 R) (x1 + (1 : Int32)) (fun v7 e_v7 => ?_)
        have hV := hV v7 e_v7
        refine q_goto (q_dc k_PM_fillAll 11 rfl) rfl ?_
        exact q_less (Nat.le_of_ble_eq_true rfl) (Nat.le_of_ble_eq_true rfl) (q_subk [1, 0] rfl hV))
  have hV := hV (by
      intro x0 x1 σ hV
      show q_G l cx M_PM_fillAll 6 384 0 0 23 [(0, .inr (.inr x0)), (1, .inl x1)] [] σ R
      refine q_run k_PM_fillAll 14 3 28 rfl ?_
      show q_K σ x0 = 7 ∧ q_G l cx M_PM_fillAll 6 384 0 0 28 [(0, .inr (.inr x0)), (1, .inl x1)] [.inl (q_I σ x0 2), .inl x1] σ R
      obtain ⟨s1, hV⟩ := hV
      refine ⟨s1, ?_⟩
      refine q_icmp (q_dc k_PM_fillAll 17 rfl) rfl (fun h2 => ?_) (fun h2 => ?_)
      · have hV := hV.1 h2
        exact q_vreturn (q_dc k_PM_fillAll 54 rfl) rfl hV
      · have hV := hV.2 h2
        refine q_run k_PM_fillAll 18 4 35 rfl ?_
        show q_G l cx M_PM_fillAll 6 384 0 0 35 [(3, .inl (0 : Int32)), (2, .inl (-1 : Int32)), (0, .inr (.inr x0)), (1, .inl x1)] [] σ R
        exact q_less (Nat.le_of_ble_eq_true rfl) (Nat.le_of_ble_eq_true rfl) (q_subk [2, 3, 1, 0] rfl hV))
  have hV := hV (by
      intro x0 x1 x2 x3 σ hV
      show q_G l cx M_PM_fillAll 6 384 0 0 35 [(0, .inr (.inr x0)), (1, .inl x1), (2, .inl x2), (3, .inl x3)] [] σ R
      refine q_run k_PM_fillAll 22 3 40 rfl ?_
      show q_K σ x0 = 7 ∧ q_G l cx M_PM_fillAll 6 384 0 0 40 [(0, .inr (.inr x0)), (1, .inl x1), (2, .inl x2), (3, .inl x3)] [.inl (q_I σ x0 2), .inl x3] σ R
      obtain ⟨s1, hV⟩ := hV
      refine ⟨s1, ?_⟩
      refine q_icmp (q_dc k_PM_fillAll 25 rfl) rfl (fun h2 => ?_) (fun h2 => ?_)
      · have hV := hV.1 h2
        refine q_run k_PM_fillAll 49 2 86 rfl ?_
        show q_G l cx M_PM_fillAll 6 384 0 0 86 [(0, .inr (.inr x0)), (1, .inl x1), (2, .inl x2), (3, .inl x3)] [.inl x2, .inr (.inr x0)] σ R
        obtain ⟨s3, hV⟩ := hV
        refine q_callV (st := []) (as := [.inl x2]) (t_PM_fillPlane (l := l) (cx := cx)  hV) (q_dc k_PM_fillAll 51 rfl) (Or.inl (List.mem_of_getElem? (i := 994) (by decide +kernel))) w_PM_fillPlane n_PM_fillPlane (ci := 6) rfl e_PM_fillPlane a_PM_fillPlane (q_wt (Nat.le_of_ble_eq_true rfl)) ⟨Nat.le_of_ble_eq_true rfl, Nat.le_of_ble_eq_true rfl⟩ s3 (fun v9 τ9 q9 => ?_) (fun n9 τ9 q9 => q_T.leave rfl q9)
        obtain ⟨rfl, hV⟩ := q_cv_elim q9
        clear q9
        have hV := hV
        revert hV
        generalize τ9 = σ7
        intro hV
        show q_G l cx M_PM_fillAll 6 384 0 0 89 [(0, .inr (.inr x0)), (1, .inl x1), (2, .inl x2), (3, .inl x3)] [] σ7 R
        refine q_run k_PM_fillAll 52 1 92 rfl ?_
        show q_G l cx M_PM_fillAll 6 384 0 0 92 [(1, .inl (x1 + (1 : Int32))), (0, .inr (.inr x0)), (2, .inl x2), (3, .inl x3)] [] σ7 R
        refine q_let (fun v8 => q_G l cx M_PM_fillAll 6 384 0 0 92 [(1, .inl v8), (0, .inr (.inr x0)), (2, .inl x2), (3, .inl x3)] [] σ7 R) (x1 + (1 : Int32)) (fun v8 e_v8 => ?_)
        have hV := hV v8 e_v8
        refine q_goto (q_dc k_PM_fillAll 53 rfl) rfl ?_
        exact q_less (Nat.le_of_ble_eq_true rfl) (Nat.le_of_ble_eq_true rfl) (q_subk [1, 0] rfl hV)
      · have hV := hV.2 h2
        refine q_run k_PM_fillAll 26 4 49 rfl ?_
        show q_K σ x0 = 7 ∧ q_K σ (q_P σ x0 27) = 1003 ∧ vp_in x3 (q_Z σ (q_P σ x0 27)) ∧ q_G l cx M_PM_fillAll 6 384 0 0 49 [(0, .inr (.inr x0)), (1, .inl x1), (2, .inl x2), (3, .inl x3)] [.inl (q_I σ (q_P σ x0 27) x3.toNatClampNeg)] σ R
        obtain ⟨s9, s10, s11, hV⟩ := hV
        refine ⟨s9, s10, s11, ?_⟩
        refine q_ifz (q_dc k_PM_fillAll 30 rfl) rfl (fun h12 => ?_) (fun h12 => ?_)
        · have hV := hV.1 h12
          exact q_less (Nat.le_of_ble_eq_true rfl) (Nat.le_of_ble_eq_true rfl) (q_subk [0, 1, 2, 3] rfl hV)
        · have hV := hV.2 h12
          refine q_run k_PM_fillAll 31 2 54 rfl ?_
          show q_G l cx M_PM_fillAll 6 384 0 0 54 [(0, .inr (.inr x0)), (1, .inl x1), (2, .inl x2), (3, .inl x3)] [.inl (-1 : Int32), .inl x2] σ R
          refine q_icmp (q_dc k_PM_fillAll 33 rfl) rfl (fun h13 => ?_) (fun h13 => ?_)
          · have hV := hV.1 h13
            exact q_less (Nat.le_of_ble_eq_true rfl) (Nat.le_of_ble_eq_true rfl) (q_subk [0, 1, 3] rfl hV)
          · have hV := hV.2 h13
            refine q_run k_PM_fillAll 34 8 69 rfl ?_
            show q_K σ x0 = 7 ∧ (q_K σ (q_P σ x0 5) = 1000 ∨ q_K σ (q_P σ x0 5) = 2000) ∧ vp_in x3 (q_Z σ (q_P σ x0 5)) ∧ q_K σ x0 = 7 ∧ (q_K σ (q_P σ x0 5) = 1000 ∨ q_K σ (q_P σ x0 5) = 2000) ∧ vp_in x2 (q_Z σ (q_P σ x0 5)) ∧ q_G l cx M_PM_fillAll 6 384 0 0 69 [(0, .inr (.inr x0)), (1, .inl x1), (2, .inl x2), (3, .inl x3)] [.inl (q_I σ (q_P σ x0 5) x2.toNatClampNeg), .inl (q_I σ (q_P σ x0 5) x3.toNatClampNeg)] σ R
            obtain ⟨s14, s15, s16, s17, s18, s19, hV⟩ := hV
            refine ⟨s14, s15, s16, s17, s18, s19, ?_⟩
            refine q_icmp (q_dc k_PM_fillAll 42 rfl) rfl (fun h20 => ?_) (fun h20 => ?_)
            · have hV := hV.1 h20
              exact q_less (Nat.le_of_ble_eq_true rfl) (Nat.le_of_ble_eq_true rfl) (q_subk [0, 1, 2, 3] rfl hV)
            · have hV := hV.2 h20
              exact q_less (Nat.le_of_ble_eq_true rfl) (Nat.le_of_ble_eq_true rfl) (q_subk [0, 1, 3] rfl hV))
  have hV := hV (by
      intro x0 x1 x3 σ hV
      show q_G l cx M_PM_fillAll 6 384 0 0 72 [(0, .inr (.inr x0)), (1, .inl x1), (3, .inl x3)] [] σ R
      refine q_run k_PM_fillAll 43 1 73 rfl ?_
      show q_G l cx M_PM_fillAll 6 384 0 0 73 [(0, .inr (.inr x0)), (1, .inl x1), (3, .inl x3)] [.inl x3] σ R
      refine q_goto (q_dc k_PM_fillAll 44 rfl) rfl ?_
      exact q_less (Nat.le_of_ble_eq_true rfl) (Nat.le_of_ble_eq_true rfl) (q_subk [0, 1, 2] rfl hV))
  have hV := hV (by
      intro x0 x1 x2 x3 σ hV
      show q_G l cx M_PM_fillAll 6 384 0 0 76 [(0, .inr (.inr x0)), (1, .inl x1), (2, .inl x2), (3, .inl x3)] [] σ R
      refine q_run k_PM_fillAll 45 1 77 rfl ?_
      show q_G l cx M_PM_fillAll 6 384 0 0 77 [(0, .inr (.inr x0)), (1, .inl x1), (2, .inl x2), (3, .inl x3)] [.inl x2] σ R
      exact q_less (Nat.le_of_ble_eq_true rfl) (Nat.le_of_ble_eq_true rfl) (q_subk [0, 1, 3] rfl hV))
  have hV := hV (by
      intro x0 x1 x3 y0 σ hV
      show q_G l cx M_PM_fillAll 6 384 0 0 77 [(0, .inr (.inr x0)), (1, .inl x1), (3, .inl x3)] [.inl y0] σ R
      refine q_run k_PM_fillAll 46 2 81 rfl ?_
      show q_G l cx M_PM_fillAll 6 384 0 0 81 [(3, .inl (x3 + (1 : Int32))), (2, .inl y0), (0, .inr (.inr x0)), (1, .inl x1)] [] σ R
      refine q_let (fun v1 => q_G l cx M_PM_fillAll 6 384 0 0 81 [(3, .inl v1), (2, .inl y0), (0, .inr (.inr x0)), (1, .inl x1)] [] σ R) (x3 + (1 : Int32)) (fun v1 e_v1 => ?_)
      have hV := hV v1 e_v1
      refine q_goto (q_dc k_PM_fillAll 48 rfl) rfl ?_
      exact q_less (Nat.le_of_ble_eq_true rfl) (Nat.le_of_ble_eq_true rfl) (q_subk [2, 3, 1, 0] rfl hV))
  refine q_run k_PM_fillAll 0 2 2 rfl ?_
  show q_G l cx M_PM_fillAll 6 384 0 0 2 [(1, .inl (0 : Int32)), (0, .inr (.inr x0))] [] σ R
  exact q_less (Nat.le_of_ble_eq_true rfl) (Nat.le_of_ble_eq_true rfl) (q_subk [1, 0] rfl hV)
def V_PM_look (x0 : Nat) (x1 : Int32) (σ : q_S) (R : q_O → q_S → Prop) : Prop :=
  ∀ (P2 : Nat → Int32 → Int32 → q_S → Prop),
  (∀ (x0 : Nat) (x1 : Int32) (x2 : Int32) (σ : q_S), ((((24 : Int32) ≤ x2 → R (.inl none) σ) ∧ (¬ ((24 : Int32) ≤ x2) → q_K σ x0 = 7 ∧ q_K σ x0 = 7 ∧ q_K σ (q_P σ x0 21) = 1001 ∧ vp_in (((24 : Int32) * x1) + x2) (q_Z σ (q_P σ x0 21)) ∧ q_K σ (q_P σ x0 31) = 1001 ∧ vp_in x2 (q_Z σ (q_P σ x0 31)) ∧ ∀ σ2 : q_S, σ2 = q_wL σ (q_P σ x0 31) x2.toNatClampNeg (q_L σ (q_P σ x0 21) (((24 : Int32) * x1) + x2).toNatClampNeg) → ∀ v9 : Int32, v9 = x2 + (1 : Int32) → P2 x0 x1 v9 σ2))) → P2 x0 x1 x2 σ) →
  P2 x0 x1 (0 : Int32) σ
set_option maxRecDepth 100000 in
theorem t_PM_look {l : Launch} {cx : q_C} {x0 : Nat} {x1 : Int32} {σ : q_S} {R : q_O → q_S → Prop} (hV : V_PM_look x0 x1 σ R) : q_Ct l cx M_PM_look 0 0 0 0 [q_r x0, q_i x1] σ R := by
  refine q_Ct.of p_PM_look c_PM_look rfl (Nat.le_of_ble_eq_true rfl) ?_
  have hV := hV (fun (x0 : Nat) (x1 : Int32) (x2 : Int32) (σ : q_S) => q_G l cx M_PM_look 0 0 0 0 2 [(0, .inr (.inr x0)), (1, .inl x1), (2, .inl x2)] [] σ R)
  have hV := hV (by
      intro x0 x1 x2 σ hV
      show q_G l cx M_PM_look 0 0 0 0 2 [(0, .inr (.inr x0)), (1, .inl x1), (2, .inl x2)] [] σ R
      refine q_run k_PM_look 2 2 5 rfl ?_
      show q_G l cx M_PM_look 0 0 0 0 5 [(0, .inr (.inr x0)), (1, .inl x1), (2, .inl x2)] [.inl (24 : Int32), .inl x2] σ R
      refine q_icmp (q_dc k_PM_look 4 rfl) rfl (fun h1 => ?_) (fun h1 => ?_)
      · have hV := hV.1 h1
        exact q_vreturn (q_dc k_PM_look 19 rfl) rfl hV
      · have hV := hV.2 h1
        refine q_run k_PM_look 5 12 25 rfl ?_
        show q_K σ x0 = 7 ∧ q_K σ x0 = 7 ∧ q_K σ (q_P σ x0 21) = 1001 ∧ vp_in (((24 : Int32) * x1) + x2) (q_Z σ (q_P σ x0 21)) ∧ q_K σ (q_P σ x0 31) = 1001 ∧ vp_in x2 (q_Z σ (q_P σ x0 31)) ∧ q_G l cx M_PM_look 0 0 0 0 25 [(0, .inr (.inr x0)), (1, .inl x1), (2, .inl x2)] [] (q_wL σ (q_P σ x0 31) x2.toNatClampNeg (q_L σ (q_P σ x0 21) (((24 : Int32) * x1) + x2).toNatClampNeg)) R
        obtain ⟨s3, s4, s5, s6, s7, s8, hV⟩ := hV
        refine ⟨s3, s4, s5, s6, s7, s8, ?_⟩
        refine q_let (fun σ2 => q_G l cx M_PM_look 0 0 0 0 25 [(0, .inr (.inr x0)), (1, .inl x1), (2, .inl x2)] [] σ2 R) (q_wL σ (q_P σ x0 31) x2.toNatClampNeg (q_L σ (q_P σ x0 21) (((24 : Int32) * x1) + x2).toNatClampNeg)) (fun σ2 e_σ2 => ?_)
        have hV := hV σ2 e_σ2
        refine q_run k_PM_look 17 1 28 rfl ?_
        show q_G l cx M_PM_look 0 0 0 0 28 [(2, .inl (x2 + (1 : Int32))), (0, .inr (.inr x0)), (1, .inl x1)] [] σ2 R
        refine q_let (fun v9 => q_G l cx M_PM_look 0 0 0 0 28 [(2, .inl v9), (0, .inr (.inr x0)), (1, .inl x1)] [] σ2 R) (x2 + (1 : Int32)) (fun v9 e_v9 => ?_)
        have hV := hV v9 e_v9
        refine q_goto (q_dc k_PM_look 18 rfl) rfl ?_
        exact q_less (Nat.le_of_ble_eq_true rfl) (Nat.le_of_ble_eq_true rfl) (q_subk [1, 2, 0] rfl hV))
  refine q_run k_PM_look 0 2 2 rfl ?_
  show q_G l cx M_PM_look 0 0 0 0 2 [(2, .inl (0 : Int32)), (0, .inr (.inr x0)), (1, .inl x1)] [] σ R
  exact q_less (Nat.le_of_ble_eq_true rfl) (Nat.le_of_ble_eq_true rfl) (q_subk [1, 2, 0] rfl hV)
def V_PM_fill (x0 : Nat) (σ : q_S) (R : q_O → q_S → Prop) : Prop :=
  ∀ (P13 : Nat → Int32 → Int32 → q_S → Prop),
  ∀ (P23 : Nat → Int32 → Int32 → Int32 → q_S → Prop),
  ∀ (P86 : Nat → Int32 → Int32 → q_S → Prop),
  (∀ (x0 : Nat) (x1 : Int32) (x2 : Int32) (σ : q_S), (q_K σ x0 = 7 ∧ (((q_I σ x0 2) ≤ x2 → R (.inl (some (.inl x1))) σ) ∧ (¬ ((q_I σ x0 2) ≤ x2) → P23 x0 x1 x2 (0 : Int32) σ))) → P13 x0 x1 x2 σ) →
  (∀ (x0 : Nat) (x1 : Int32) (x2 : Int32) (x3 : Int32) (σ : q_S), ((((24 : Int32) ≤ x3 → q_K σ x0 = 7 ∧ q_K σ x0 = 7 ∧ (q_K σ (q_P σ x0 25) = 1000 ∨ q_K σ (q_P σ x0 25) = 2000) ∧ vp_in x2 (q_Z σ (q_P σ x0 25)) ∧ q_K σ (q_P σ x0 23) = 1000 ∧ vp_in x2 (q_Z σ (q_P σ x0 23)) ∧ ∀ σ2 : q_S, σ2 = q_wI σ (q_P σ x0 23) x2.toNatClampNeg (q_I σ (q_P σ x0 25) x2.toNatClampNeg) → q_K σ2 x0 = 7 ∧ q_K σ2 x0 = 7 ∧ q_K σ2 (q_P σ2 x0 26) = 1003 ∧ vp_in x2 (q_Z σ2 (q_P σ2 x0 26)) ∧ ((q_I σ2 (q_P σ2 x0 26) x2.toNatClampNeg) = 0 ∨ (q_I σ2 (q_P σ2 x0 26) x2.toNatClampNeg) = 1) ∧ q_K σ2 (q_P σ2 x0 24) = 1003 ∧ vp_in x2 (q_Z σ2 (q_P σ2 x0 24)) ∧ ∀ σ9 : q_S, σ9 = q_wI σ2 (q_P σ2 x0 24) x2.toNatClampNeg (q_I σ2 (q_P σ2 x0 26) x2.toNatClampNeg) → q_K σ9 x0 = 7 ∧ V_PM_look x0 x2 σ9 (q_cv (fun σ21 => P86 x0 x1 x2 σ21) (fun n9 σ9 => R (.inr n9) σ9))) ∧ (¬ ((24 : Int32) ≤ x3) → q_K σ x0 = 7 ∧ q_K σ x0 = 7 ∧ q_K σ (q_P σ x0 22) = 1001 ∧ vp_in (((24 : Int32) * x2) + x3) (q_Z σ (q_P σ x0 22)) ∧ q_K σ (q_P σ x0 21) = 1001 ∧ vp_in (((24 : Int32) * x2) + x3) (q_Z σ (q_P σ x0 21)) ∧ ∀ σ22 : q_S, σ22 = q_wL σ (q_P σ x0 21) (((24 : Int32) * x2) + x3).toNatClampNeg (q_L σ (q_P σ x0 22) (((24 : Int32) * x2) + x3).toNatClampNeg) → ∀ v29 : Int32, v29 = x3 + (1 : Int32) → P23 x0 x1 x2 v29 σ22))) → P23 x0 x1 x2 x3 σ) →
  (∀ (x0 : Nat) (x1 : Int32) (x2 : Int32) (σ : q_S), (q_K σ x0 = 7 ∧ V_PM_nextPiece x0 σ (q_ci (fun v4 σ5 => ((v4 = (0 : Int32) → ∀ v7 : Int32, v7 = x2 + (1 : Int32) → P13 x0 x1 v7 σ5) ∧ (¬ (v4 = (0 : Int32)) → ∀ v8 : Int32, v8 = x1 + (1 : Int32) → P86 x0 v8 x2 σ5))) (fun n9 σ9 => R (.inr n9) σ9))) → P86 x0 x1 x2 σ) →
  q_K σ x0 = 7 ∧ ∀ σ1 : q_S, σ1 = q_wI σ x0 0 (0 : Int32) → q_K σ1 x0 = 7 ∧ V_PM_fillAll x0 σ1 (q_cv (fun σ7 => P13 x0 (0 : Int32) (0 : Int32) σ7) (fun n9 σ9 => R (.inr n9) σ9))
set_option maxRecDepth 100000 in
theorem t_PM_fill {l : Launch} {cx : q_C} {x0 : Nat} {σ : q_S} {R : q_O → q_S → Prop} (hV : V_PM_fill x0 σ R) : q_Ct l cx M_PM_fill 7 448 0 0 [q_r x0] σ R := by
  refine q_Ct.of p_PM_fill c_PM_fill rfl (Nat.le_of_ble_eq_true rfl) ?_
  have hV := hV (fun (x0 : Nat) (x1 : Int32) (x2 : Int32) (σ : q_S) => q_G l cx M_PM_fill 7 448 0 0 13 [(0, .inr (.inr x0)), (1, .inl x1), (2, .inl x2)] [] σ R) (fun (x0 : Nat) (x1 : Int32) (x2 : Int32) (x3 : Int32) (σ : q_S) => q_G l cx M_PM_fill 7 448 0 0 23 [(0, .inr (.inr x0)), (1, .inl x1), (2, .inl x2), (3, .inl x3)] [] σ R) (fun (x0 : Nat) (x1 : Int32) (x2 : Int32) (σ : q_S) => q_G l cx M_PM_fill 7 448 0 0 86 [(0, .inr (.inr x0)), (1, .inl x1), (2, .inl x2)] [] σ R)
  have hV := hV (by
      intro x0 x1 x2 σ hV
      show q_G l cx M_PM_fill 7 448 0 0 13 [(0, .inr (.inr x0)), (1, .inl x1), (2, .inl x2)] [] σ R
      refine q_run k_PM_fill 9 3 18 rfl ?_
      show q_K σ x0 = 7 ∧ q_G l cx M_PM_fill 7 448 0 0 18 [(0, .inr (.inr x0)), (1, .inl x1), (2, .inl x2)] [.inl (q_I σ x0 2), .inl x2] σ R
      obtain ⟨s1, hV⟩ := hV
      refine ⟨s1, ?_⟩
      refine q_icmp (q_dc k_PM_fill 12 rfl) rfl (fun h2 => ?_) (fun h2 => ?_)
      · have hV := hV.1 h2
        refine q_run k_PM_fill 62 1 106 rfl ?_
        show q_G l cx M_PM_fill 7 448 0 0 106 [(0, .inr (.inr x0)), (1, .inl x1), (2, .inl x2)] [.inl x1] σ R
        exact q_ireturn (q_dc k_PM_fill 63 rfl) rfl hV
      · have hV := hV.2 h2
        refine q_run k_PM_fill 13 2 23 rfl ?_
        show q_G l cx M_PM_fill 7 448 0 0 23 [(3, .inl (0 : Int32)), (0, .inr (.inr x0)), (1, .inl x1), (2, .inl x2)] [] σ R
        exact q_less (Nat.le_of_ble_eq_true rfl) (Nat.le_of_ble_eq_true rfl) (q_subk [1, 2, 3, 0] rfl hV))
  have hV := hV (by
      intro x0 x1 x2 x3 σ hV
      show q_G l cx M_PM_fill 7 448 0 0 23 [(0, .inr (.inr x0)), (1, .inl x1), (2, .inl x2), (3, .inl x3)] [] σ R
      refine q_run k_PM_fill 15 2 26 rfl ?_
      show q_G l cx M_PM_fill 7 448 0 0 26 [(0, .inr (.inr x0)), (1, .inl x1), (2, .inl x2), (3, .inl x3)] [.inl (24 : Int32), .inl x3] σ R
      refine q_icmp (q_dc k_PM_fill 17 rfl) rfl (fun h1 => ?_) (fun h1 => ?_)
      · have hV := hV.1 h1
        refine q_run k_PM_fill 36 8 69 rfl ?_
        show q_K σ x0 = 7 ∧ q_K σ x0 = 7 ∧ (q_K σ (q_P σ x0 25) = 1000 ∨ q_K σ (q_P σ x0 25) = 2000) ∧ vp_in x2 (q_Z σ (q_P σ x0 25)) ∧ q_K σ (q_P σ x0 23) = 1000 ∧ vp_in x2 (q_Z σ (q_P σ x0 23)) ∧ q_G l cx M_PM_fill 7 448 0 0 69 [(0, .inr (.inr x0)), (1, .inl x1), (2, .inl x2), (3, .inl x3)] [] (q_wI σ (q_P σ x0 23) x2.toNatClampNeg (q_I σ (q_P σ x0 25) x2.toNatClampNeg)) R
        obtain ⟨s3, s4, s5, s6, s7, s8, hV⟩ := hV
        refine ⟨s3, s4, s5, s6, s7, s8, ?_⟩
        refine q_let (fun σ2 => q_G l cx M_PM_fill 7 448 0 0 69 [(0, .inr (.inr x0)), (1, .inl x1), (2, .inl x2), (3, .inl x3)] [] σ2 R) (q_wI σ (q_P σ x0 23) x2.toNatClampNeg (q_I σ (q_P σ x0 25) x2.toNatClampNeg)) (fun σ2 e_σ2 => ?_)
        have hV := hV σ2 e_σ2
        refine q_run k_PM_fill 44 8 81 rfl ?_
        show q_K σ2 x0 = 7 ∧ q_K σ2 x0 = 7 ∧ q_K σ2 (q_P σ2 x0 26) = 1003 ∧ vp_in x2 (q_Z σ2 (q_P σ2 x0 26)) ∧ ((q_I σ2 (q_P σ2 x0 26) x2.toNatClampNeg) = 0 ∨ (q_I σ2 (q_P σ2 x0 26) x2.toNatClampNeg) = 1) ∧ q_K σ2 (q_P σ2 x0 24) = 1003 ∧ vp_in x2 (q_Z σ2 (q_P σ2 x0 24)) ∧ q_G l cx M_PM_fill 7 448 0 0 81 [(0, .inr (.inr x0)), (1, .inl x1), (2, .inl x2), (3, .inl x3)] [] (q_wI σ2 (q_P σ2 x0 24) x2.toNatClampNeg (q_I σ2 (q_P σ2 x0 26) x2.toNatClampNeg)) R
        obtain ⟨s10, s11, s12, s13, s14, s15, s16, hV⟩ := hV
        refine ⟨s10, s11, s12, s13, s14, s15, s16, ?_⟩
        refine q_let (fun σ9 => q_G l cx M_PM_fill 7 448 0 0 81 [(0, .inr (.inr x0)), (1, .inl x1), (2, .inl x2), (3, .inl x3)] [] σ9 R) (q_wI σ2 (q_P σ2 x0 24) x2.toNatClampNeg (q_I σ2 (q_P σ2 x0 26) x2.toNatClampNeg)) (fun σ9 e_σ9 => ?_)
        have hV := hV σ9 e_σ9
        refine q_run k_PM_fill 52 2 83 rfl ?_
        show q_G l cx M_PM_fill 7 448 0 0 83 [(0, .inr (.inr x0)), (1, .inl x1), (2, .inl x2), (3, .inl x3)] [.inl x2, .inr (.inr x0)] σ9 R
        obtain ⟨s17, hV⟩ := hV
        refine q_callV (st := []) (as := [.inl x2]) (t_PM_look (l := l) (cx := cx)  hV) (q_dc k_PM_fill 54 rfl) (Or.inl (List.mem_of_getElem? (i := 1048) (by decide +kernel))) w_PM_look n_PM_look (ci := 6) rfl e_PM_look a_PM_look (q_wt (Nat.le_of_ble_eq_true rfl)) ⟨Nat.le_of_ble_eq_true rfl, Nat.le_of_ble_eq_true rfl⟩ s17 (fun v9 τ9 q9 => ?_) (fun n9 τ9 q9 => q_T.leave rfl q9)
        obtain ⟨rfl, hV⟩ := q_cv_elim q9
        clear q9
        have hV := hV
        revert hV
        generalize τ9 = σ21
        intro hV
        show q_G l cx M_PM_fill 7 448 0 0 86 [(0, .inr (.inr x0)), (1, .inl x1), (2, .inl x2), (3, .inl x3)] [] σ21 R
        exact q_less (Nat.le_of_ble_eq_true rfl) (Nat.le_of_ble_eq_true rfl) (q_subk [0, 1, 2] rfl hV)
      · have hV := hV.2 h1
        refine q_run k_PM_fill 18 16 51 rfl ?_
        show q_K σ x0 = 7 ∧ q_K σ x0 = 7 ∧ q_K σ (q_P σ x0 22) = 1001 ∧ vp_in (((24 : Int32) * x2) + x3) (q_Z σ (q_P σ x0 22)) ∧ q_K σ (q_P σ x0 21) = 1001 ∧ vp_in (((24 : Int32) * x2) + x3) (q_Z σ (q_P σ x0 21)) ∧ q_G l cx M_PM_fill 7 448 0 0 51 [(0, .inr (.inr x0)), (1, .inl x1), (2, .inl x2), (3, .inl x3)] [] (q_wL σ (q_P σ x0 21) (((24 : Int32) * x2) + x3).toNatClampNeg (q_L σ (q_P σ x0 22) (((24 : Int32) * x2) + x3).toNatClampNeg)) R
        obtain ⟨s23, s24, s25, s26, s27, s28, hV⟩ := hV
        refine ⟨s23, s24, s25, s26, s27, s28, ?_⟩
        refine q_let (fun σ22 => q_G l cx M_PM_fill 7 448 0 0 51 [(0, .inr (.inr x0)), (1, .inl x1), (2, .inl x2), (3, .inl x3)] [] σ22 R) (q_wL σ (q_P σ x0 21) (((24 : Int32) * x2) + x3).toNatClampNeg (q_L σ (q_P σ x0 22) (((24 : Int32) * x2) + x3).toNatClampNeg)) (fun σ22 e_σ22 => ?_)
        have hV := hV σ22 e_σ22
        refine q_run k_PM_fill 34 1 54 rfl ?_
        show q_G l cx M_PM_fill 7 448 0 0 54 [(3, .inl (x3 + (1 : Int32))), (0, .inr (.inr x0)), (1, .inl x1), (2, .inl x2)] [] σ22 R
        refine q_let (fun v29 => q_G l cx M_PM_fill 7 448 0 0 54 [(3, .inl v29), (0, .inr (.inr x0)), (1, .inl x1), (2, .inl x2)] [] σ22 R) (x3 + (1 : Int32)) (fun v29 e_v29 => ?_)
        have hV := hV v29 e_v29
        refine q_goto (q_dc k_PM_fill 35 rfl) rfl ?_
        exact q_less (Nat.le_of_ble_eq_true rfl) (Nat.le_of_ble_eq_true rfl) (q_subk [1, 2, 3, 0] rfl hV))
  have hV := hV (by
      intro x0 x1 x2 σ hV
      show q_G l cx M_PM_fill 7 448 0 0 86 [(0, .inr (.inr x0)), (1, .inl x1), (2, .inl x2)] [] σ R
      refine q_run k_PM_fill 55 1 87 rfl ?_
      show q_G l cx M_PM_fill 7 448 0 0 87 [(0, .inr (.inr x0)), (1, .inl x1), (2, .inl x2)] [.inr (.inr x0)] σ R
      obtain ⟨s1, hV⟩ := hV
      refine q_callV (st := []) (as := []) (t_PM_nextPiece (l := l) (cx := cx)  hV) (q_dc k_PM_fill 56 rfl) (Or.inl (List.mem_of_getElem? (i := 1039) (by decide +kernel))) w_PM_nextPiece n_PM_nextPiece (ci := 6) rfl e_PM_nextPiece a_PM_nextPiece (q_wt (Nat.le_of_ble_eq_true rfl)) ⟨Nat.le_of_ble_eq_true rfl, Nat.le_of_ble_eq_true rfl⟩ s1 (fun v9 τ9 q9 => ?_) (fun n9 τ9 q9 => q_T.leave rfl q9)
      obtain ⟨v4, rfl, hV⟩ := q_ci_elim q9
      clear q9
      have hV := hV
      revert hV
      generalize τ9 = σ5
      intro hV
      show q_G l cx M_PM_fill 7 448 0 0 90 [(0, .inr (.inr x0)), (1, .inl x1), (2, .inl x2)] [.inl v4] σ5 R
      refine q_ifz (q_dc k_PM_fill 57 rfl) rfl (fun h6 => ?_) (fun h6 => ?_)
      · have hV := hV.1 h6
        refine q_run k_PM_fill 60 1 102 rfl ?_
        show q_G l cx M_PM_fill 7 448 0 0 102 [(2, .inl (x2 + (1 : Int32))), (0, .inr (.inr x0)), (1, .inl x1)] [] σ5 R
        refine q_let (fun v7 => q_G l cx M_PM_fill 7 448 0 0 102 [(2, .inl v7), (0, .inr (.inr x0)), (1, .inl x1)] [] σ5 R) (x2 + (1 : Int32)) (fun v7 e_v7 => ?_)
        have hV := hV v7 e_v7
        refine q_goto (q_dc k_PM_fill 61 rfl) rfl ?_
        exact q_less (Nat.le_of_ble_eq_true rfl) (Nat.le_of_ble_eq_true rfl) (q_subk [1, 2, 0] rfl hV)
      · have hV := hV.2 h6
        refine q_run k_PM_fill 58 1 96 rfl ?_
        show q_G l cx M_PM_fill 7 448 0 0 96 [(1, .inl (x1 + (1 : Int32))), (0, .inr (.inr x0)), (2, .inl x2)] [] σ5 R
        refine q_let (fun v8 => q_G l cx M_PM_fill 7 448 0 0 96 [(1, .inl v8), (0, .inr (.inr x0)), (2, .inl x2)] [] σ5 R) (x1 + (1 : Int32)) (fun v8 e_v8 => ?_)
        have hV := hV v8 e_v8
        refine q_goto (q_dc k_PM_fill 59 rfl) rfl ?_
        exact q_less (Nat.le_of_ble_eq_true rfl) (Nat.le_of_ble_eq_true rfl) (q_subk [1, 0, 2] rfl hV))
  refine q_run k_PM_fill 0 3 5 rfl ?_
  show q_K σ x0 = 7 ∧ q_G l cx M_PM_fill 7 448 0 0 5 [(0, .inr (.inr x0))] [] (q_wI σ x0 0 (0 : Int32)) R
  obtain ⟨s2, hV⟩ := hV
  refine ⟨s2, ?_⟩
  refine q_let (fun σ1 => q_G l cx M_PM_fill 7 448 0 0 5 [(0, .inr (.inr x0))] [] σ1 R) (q_wI σ x0 0 (0 : Int32)) (fun σ1 e_σ1 => ?_)
  have hV := hV σ1 e_σ1
  refine q_run k_PM_fill 3 1 6 rfl ?_
  show q_G l cx M_PM_fill 7 448 0 0 6 [(0, .inr (.inr x0))] [.inr (.inr x0)] σ1 R
  obtain ⟨s3, hV⟩ := hV
  refine q_callV (st := []) (as := []) (t_PM_fillAll (l := l) (cx := cx)  hV) (q_dc k_PM_fill 4 rfl) (Or.inl (List.mem_of_getElem? (i := 991) (by decide +kernel))) w_PM_fillAll n_PM_fillAll (ci := 6) rfl e_PM_fillAll a_PM_fillAll (q_wt (Nat.le_of_ble_eq_true rfl)) ⟨Nat.le_of_ble_eq_true rfl, Nat.le_of_ble_eq_true rfl⟩ s3 (fun v9 τ9 q9 => ?_) (fun n9 τ9 q9 => q_T.leave rfl q9)
  obtain ⟨rfl, hV⟩ := q_cv_elim q9
  clear q9
  have hV := hV
  revert hV
  generalize τ9 = σ7
  intro hV
  show q_G l cx M_PM_fill 7 448 0 0 9 [(0, .inr (.inr x0))] [] σ7 R
  refine q_run k_PM_fill 5 4 13 rfl ?_
  show q_G l cx M_PM_fill 7 448 0 0 13 [(2, .inl (0 : Int32)), (1, .inl (0 : Int32)), (0, .inr (.inr x0))] [] σ7 R
  exact q_less (Nat.le_of_ble_eq_true rfl) (Nat.le_of_ble_eq_true rfl) (q_subk [2, 1, 0] rfl hV)
def V_PM_changed (x0 : Nat) (x1 : Int64) (x3 : Int64) (x5 : Int64) (x7 : Int64) (σ : q_S) (R : q_O → q_S → Prop) : Prop :=
  ∀ (P12 : Nat → Int64 → Int64 → Int64 → Int64 → Int32 → q_S → Prop),
  ∀ (P24 : Nat → Int64 → Int64 → Int64 → Int64 → Int32 → Int32 → q_S → Prop),
  ∀ (P34 : Nat → Int64 → Int64 → Int64 → Int64 → Int32 → Int32 → Int32 → q_S → Prop),
  ∀ (P79 : Nat → Int64 → Int64 → Int64 → Int64 → Int32 → Int32 → Int32 → q_S → Prop),
  ∀ (P80 : Nat → Int64 → Int64 → Int64 → Int64 → Int32 → Int32 → Int32 → Int32 → q_S → Prop),
  ∀ (P127 : Nat → Int64 → Int64 → Int64 → Int64 → Int32 → Int32 → Int32 → q_S → Prop),
  (∀ (x0 : Nat) (x1 : Int64) (x3 : Int64) (x5 : Int64) (x7 : Int64) (x9 : Int32) (σ : q_S), (q_K σ x0 = 7 ∧ (((q_I σ x0 2) ≤ x9 → R (.inl (some (.inl (1 : Int32)))) σ) ∧ (¬ ((q_I σ x0 2) ≤ x9) → P24 x0 x1 x3 x5 x7 x9 (0 : Int32) σ))) → P12 x0 x1 x3 x5 x7 x9 σ) →
  (∀ (x0 : Nat) (x1 : Int64) (x3 : Int64) (x5 : Int64) (x7 : Int64) (x9 : Int32) (x10 : Int32) (σ : q_S), ((((24 : Int32) ≤ x10 → ∀ v2 : Int32, v2 = x9 + (1 : Int32) → P12 x0 x1 x3 x5 x7 v2 σ) ∧ (¬ ((24 : Int32) ≤ x10) → P34 x0 x1 x3 x5 x7 x9 x10 (0 : Int32) σ))) → P24 x0 x1 x3 x5 x7 x9 x10 σ) →
  (∀ (x0 : Nat) (x1 : Int64) (x3 : Int64) (x5 : Int64) (x7 : Int64) (x9 : Int32) (x10 : Int32) (x11 : Int32) (σ : q_S), ((((32 : Int32) ≤ x11 → ∀ v2 : Int32, v2 = x10 + (1 : Int32) → P24 x0 x1 x3 x5 x7 x9 v2 σ) ∧ (¬ ((32 : Int32) ≤ x11) → (((lg_cmp x11.toInt64 x1) < (0 : Int32) → P79 x0 x1 x3 x5 x7 x9 x10 x11 σ) ∧ (¬ ((lg_cmp x11.toInt64 x1) < (0 : Int32)) → (((0 : Int32) < (lg_cmp x11.toInt64 x5) → P79 x0 x1 x3 x5 x7 x9 x10 x11 σ) ∧ (¬ ((0 : Int32) < (lg_cmp x11.toInt64 x5)) → (((lg_cmp x10.toInt64 x3) < (0 : Int32) → P79 x0 x1 x3 x5 x7 x9 x10 x11 σ) ∧ (¬ ((lg_cmp x10.toInt64 x3) < (0 : Int32)) → (((0 : Int32) < (lg_cmp x10.toInt64 x7) → P79 x0 x1 x3 x5 x7 x9 x10 x11 σ) ∧ (¬ ((0 : Int32) < (lg_cmp x10.toInt64 x7)) → P80 x0 x1 x3 x5 x7 x9 x10 x11 (1 : Int32) σ))))))))))) → P34 x0 x1 x3 x5 x7 x9 x10 x11 σ) →
  (∀ (x0 : Nat) (x1 : Int64) (x3 : Int64) (x5 : Int64) (x7 : Int64) (x9 : Int32) (x10 : Int32) (x11 : Int32) (σ : q_S), (P80 x0 x1 x3 x5 x7 x9 x10 x11 (0 : Int32) σ) → P79 x0 x1 x3 x5 x7 x9 x10 x11 σ) →
  (∀ (x0 : Nat) (x1 : Int64) (x3 : Int64) (x5 : Int64) (x7 : Int64) (x9 : Int32) (x10 : Int32) (x11 : Int32) (y0 : Int32) (σ : q_S), (((y0 = (0 : Int32) → P127 x0 x1 x3 x5 x7 x9 x10 x11 σ) ∧ (¬ (y0 = (0 : Int32)) → q_K σ x0 = 7 ∧ q_K σ (q_P σ x0 21) = 1001 ∧ vp_in (((24 : Int32) * x9) + x10) (q_Z σ (q_P σ x0 21)) ∧ q_K σ x0 = 7 ∧ q_K σ (q_P σ x0 22) = 1001 ∧ vp_in (((24 : Int32) * x9) + x10) (q_Z σ (q_P σ x0 22)) ∧ (((lg_cmp (((q_L σ (q_P σ x0 21) (((24 : Int32) * x9) + x10).toNatClampNeg) ^^^ (q_L σ (q_P σ x0 22) (((24 : Int32) * x9) + x10).toNatClampNeg)) &&& (f_PM_bit x11)) (0 : Int64)) = (0 : Int32) → P127 x0 x1 x3 x5 x7 x9 x10 x11 σ) ∧ (¬ ((lg_cmp (((q_L σ (q_P σ x0 21) (((24 : Int32) * x9) + x10).toNatClampNeg) ^^^ (q_L σ (q_P σ x0 22) (((24 : Int32) * x9) + x10).toNatClampNeg)) &&& (f_PM_bit x11)) (0 : Int64)) = (0 : Int32)) → R (.inl (some (.inl (0 : Int32)))) σ))))) → P80 x0 x1 x3 x5 x7 x9 x10 x11 y0 σ) →
  (∀ (x0 : Nat) (x1 : Int64) (x3 : Int64) (x5 : Int64) (x7 : Int64) (x9 : Int32) (x10 : Int32) (x11 : Int32) (σ : q_S), (∀ v1 : Int32, v1 = x11 + (1 : Int32) → P34 x0 x1 x3 x5 x7 x9 x10 v1 σ) → P127 x0 x1 x3 x5 x7 x9 x10 x11 σ) →
  q_K σ x0 = 7 ∧ ∀ σ1 : q_S, σ1 = q_wI σ x0 0 (0 : Int32) → q_K σ1 x0 = 7 ∧ V_PM_fillAll x0 σ1 (q_cv (fun σ7 => P12 x0 x1 x3 x5 x7 (0 : Int32) σ7) (fun n9 σ9 => R (.inr n9) σ9))
set_option maxRecDepth 100000 in
theorem t_PM_changed {l : Launch} {cx : q_C} {x0 : Nat} {x1 : Int64} {x3 : Int64} {x5 : Int64} {x7 : Int64} {σ : q_S} {R : q_O → q_S → Prop} (hV : V_PM_changed x0 x1 x3 x5 x7 σ R) : q_Ct l cx M_PM_changed 7 448 0 0 [q_r x0, q_l x1, q_l x3, q_l x5, q_l x7] σ R := by
  refine q_Ct.of p_PM_changed c_PM_changed rfl (Nat.le_of_ble_eq_true rfl) ?_
  have hV := hV (fun (x0 : Nat) (x1 : Int64) (x3 : Int64) (x5 : Int64) (x7 : Int64) (x9 : Int32) (σ : q_S) => q_G l cx M_PM_changed 7 448 0 0 12 [(0, .inr (.inr x0)), (1, .inr (.inl x1)), (3, .inr (.inl x3)), (5, .inr (.inl x5)), (7, .inr (.inl x7)), (9, .inl x9)] [] σ R) (fun (x0 : Nat) (x1 : Int64) (x3 : Int64) (x5 : Int64) (x7 : Int64) (x9 : Int32) (x10 : Int32) (σ : q_S) => q_G l cx M_PM_changed 7 448 0 0 24 [(0, .inr (.inr x0)), (1, .inr (.inl x1)), (3, .inr (.inl x3)), (5, .inr (.inl x5)), (7, .inr (.inl x7)), (9, .inl x9), (10, .inl x10)] [] σ R) (fun (x0 : Nat) (x1 : Int64) (x3 : Int64) (x5 : Int64) (x7 : Int64) (x9 : Int32) (x10 : Int32) (x11 : Int32) (σ : q_S) => q_G l cx M_PM_changed 7 448 0 0 34 [(0, .inr (.inr x0)), (1, .inr (.inl x1)), (3, .inr (.inl x3)), (5, .inr (.inl x5)), (7, .inr (.inl x7)), (9, .inl x9), (10, .inl x10), (11, .inl x11)] [] σ R) (fun (x0 : Nat) (x1 : Int64) (x3 : Int64) (x5 : Int64) (x7 : Int64) (x9 : Int32) (x10 : Int32) (x11 : Int32) (σ : q_S) => q_G l cx M_PM_changed 7 448 0 0 79 [(0, .inr (.inr x0)), (1, .inr (.inl x1)), (3, .inr (.inl x3)), (5, .inr (.inl x5)), (7, .inr (.inl x7)), (9, .inl x9), (10, .inl x10), (11, .inl x11)] [] σ R) (fun (x0 : Nat) (x1 : Int64) (x3 : Int64) (x5 : Int64) (x7 : Int64) (x9 : Int32) (x10 : Int32) (x11 : Int32) (y0 : Int32) (σ : q_S) => q_G l cx M_PM_changed 7 448 0 0 80 [(0, .inr (.inr x0)), (1, .inr (.inl x1)), (3, .inr (.inl x3)), (5, .inr (.inl x5)), (7, .inr (.inl x7)), (9, .inl x9), (10, .inl x10), (11, .inl x11)] [.inl y0] σ R) (fun (x0 : Nat) (x1 : Int64) (x3 : Int64) (x5 : Int64) (x7 : Int64) (x9 : Int32) (x10 : Int32) (x11 : Int32) (σ : q_S) => q_G l cx M_PM_changed 7 448 0 0 127 [(0, .inr (.inr x0)), (1, .inr (.inl x1)), (3, .inr (.inl x3)), (5, .inr (.inl x5)), (7, .inr (.inl x7)), (9, .inl x9), (10, .inl x10), (11, .inl x11)] [] σ R)
  have hV := hV (by
      intro x0 x1 x3 x5 x7 x9 σ hV
      show q_G l cx M_PM_changed 7 448 0 0 12 [(0, .inr (.inr x0)), (1, .inr (.inl x1)), (3, .inr (.inl x3)), (5, .inr (.inl x5)), (7, .inr (.inl x7)), (9, .inl x9)] [] σ R
      refine q_run k_PM_changed 7 3 18 rfl ?_
      show q_K σ x0 = 7 ∧ q_G l cx M_PM_changed 7 448 0 0 18 [(0, .inr (.inr x0)), (1, .inr (.inl x1)), (3, .inr (.inl x3)), (5, .inr (.inl x5)), (7, .inr (.inl x7)), (9, .inl x9)] [.inl (q_I σ x0 2), .inl x9] σ R
      obtain ⟨s1, hV⟩ := hV
      refine ⟨s1, ?_⟩
      refine q_icmp (q_dc k_PM_changed 10 rfl) rfl (fun h2 => ?_) (fun h2 => ?_)
      · have hV := hV.1 h2
        refine q_run k_PM_changed 78 1 146 rfl ?_
        show q_G l cx M_PM_changed 7 448 0 0 146 [(0, .inr (.inr x0)), (1, .inr (.inl x1)), (3, .inr (.inl x3)), (5, .inr (.inl x5)), (7, .inr (.inl x7)), (9, .inl x9)] [.inl (1 : Int32)] σ R
        exact q_zreturn (q_dc k_PM_changed 79 rfl) rfl (by decide) hV
      · have hV := hV.2 h2
        refine q_run k_PM_changed 11 2 24 rfl ?_
        show q_G l cx M_PM_changed 7 448 0 0 24 [(10, .inl (0 : Int32)), (0, .inr (.inr x0)), (1, .inr (.inl x1)), (3, .inr (.inl x3)), (5, .inr (.inl x5)), (7, .inr (.inl x7)), (9, .inl x9)] [] σ R
        exact q_less (Nat.le_of_ble_eq_true rfl) (Nat.le_of_ble_eq_true rfl) (q_subk [1, 2, 3, 4, 5, 6, 0] rfl hV))
  have hV := hV (by
      intro x0 x1 x3 x5 x7 x9 x10 σ hV
      show q_G l cx M_PM_changed 7 448 0 0 24 [(0, .inr (.inr x0)), (1, .inr (.inl x1)), (3, .inr (.inl x3)), (5, .inr (.inl x5)), (7, .inr (.inl x7)), (9, .inl x9), (10, .inl x10)] [] σ R
      refine q_run k_PM_changed 13 2 28 rfl ?_
      show q_G l cx M_PM_changed 7 448 0 0 28 [(0, .inr (.inr x0)), (1, .inr (.inl x1)), (3, .inr (.inl x3)), (5, .inr (.inl x5)), (7, .inr (.inl x7)), (9, .inl x9), (10, .inl x10)] [.inl (24 : Int32), .inl x10] σ R
      refine q_icmp (q_dc k_PM_changed 15 rfl) rfl (fun h1 => ?_) (fun h1 => ?_)
      · have hV := hV.1 h1
        refine q_run k_PM_changed 76 1 142 rfl ?_
        show q_G l cx M_PM_changed 7 448 0 0 142 [(9, .inl (x9 + (1 : Int32))), (0, .inr (.inr x0)), (1, .inr (.inl x1)), (3, .inr (.inl x3)), (5, .inr (.inl x5)), (7, .inr (.inl x7)), (10, .inl x10)] [] σ R
        refine q_let (fun v2 => q_G l cx M_PM_changed 7 448 0 0 142 [(9, .inl v2), (0, .inr (.inr x0)), (1, .inr (.inl x1)), (3, .inr (.inl x3)), (5, .inr (.inl x5)), (7, .inr (.inl x7)), (10, .inl x10)] [] σ R) (x9 + (1 : Int32)) (fun v2 e_v2 => ?_)
        have hV := hV v2 e_v2
        refine q_goto (q_dc k_PM_changed 77 rfl) rfl ?_
        exact q_less (Nat.le_of_ble_eq_true rfl) (Nat.le_of_ble_eq_true rfl) (q_subk [1, 2, 3, 4, 5, 0] rfl hV)
      · have hV := hV.2 h1
        refine q_run k_PM_changed 16 2 34 rfl ?_
        show q_G l cx M_PM_changed 7 448 0 0 34 [(11, .inl (0 : Int32)), (0, .inr (.inr x0)), (1, .inr (.inl x1)), (3, .inr (.inl x3)), (5, .inr (.inl x5)), (7, .inr (.inl x7)), (9, .inl x9), (10, .inl x10)] [] σ R
        exact q_less (Nat.le_of_ble_eq_true rfl) (Nat.le_of_ble_eq_true rfl) (q_subk [1, 2, 3, 4, 5, 6, 7, 0] rfl hV))
  have hV := hV (by
      intro x0 x1 x3 x5 x7 x9 x10 x11 σ hV
      show q_G l cx M_PM_changed 7 448 0 0 34 [(0, .inr (.inr x0)), (1, .inr (.inl x1)), (3, .inr (.inl x3)), (5, .inr (.inl x5)), (7, .inr (.inl x7)), (9, .inl x9), (10, .inl x10), (11, .inl x11)] [] σ R
      refine q_run k_PM_changed 18 2 38 rfl ?_
      show q_G l cx M_PM_changed 7 448 0 0 38 [(0, .inr (.inr x0)), (1, .inr (.inl x1)), (3, .inr (.inl x3)), (5, .inr (.inl x5)), (7, .inr (.inl x7)), (9, .inl x9), (10, .inl x10), (11, .inl x11)] [.inl (32 : Int32), .inl x11] σ R
      refine q_icmp (q_dc k_PM_changed 20 rfl) rfl (fun h1 => ?_) (fun h1 => ?_)
      · have hV := hV.1 h1
        refine q_run k_PM_changed 74 1 136 rfl ?_
        show q_G l cx M_PM_changed 7 448 0 0 136 [(10, .inl (x10 + (1 : Int32))), (0, .inr (.inr x0)), (1, .inr (.inl x1)), (3, .inr (.inl x3)), (5, .inr (.inl x5)), (7, .inr (.inl x7)), (9, .inl x9), (11, .inl x11)] [] σ R
        refine q_let (fun v2 => q_G l cx M_PM_changed 7 448 0 0 136 [(10, .inl v2), (0, .inr (.inr x0)), (1, .inr (.inl x1)), (3, .inr (.inl x3)), (5, .inr (.inl x5)), (7, .inr (.inl x7)), (9, .inl x9), (11, .inl x11)] [] σ R) (x10 + (1 : Int32)) (fun v2 e_v2 => ?_)
        have hV := hV v2 e_v2
        refine q_goto (q_dc k_PM_changed 75 rfl) rfl ?_
        exact q_less (Nat.le_of_ble_eq_true rfl) (Nat.le_of_ble_eq_true rfl) (q_subk [1, 2, 3, 4, 5, 6, 0] rfl hV)
      · have hV := hV.2 h1
        refine q_run k_PM_changed 21 4 46 rfl ?_
        show q_G l cx M_PM_changed 7 448 0 0 46 [(0, .inr (.inr x0)), (1, .inr (.inl x1)), (3, .inr (.inl x3)), (5, .inr (.inl x5)), (7, .inr (.inl x7)), (9, .inl x9), (10, .inl x10), (11, .inl x11)] [.inl (lg_cmp x11.toInt64 x1)] σ R
        refine q_ifz (q_dc k_PM_changed 25 rfl) rfl (fun h3 => ?_) (fun h3 => ?_)
        · have hV := hV.1 h3
          exact q_less (Nat.le_of_ble_eq_true rfl) (Nat.le_of_ble_eq_true rfl) (q_subk [0, 1, 2, 3, 4, 5, 6, 7] rfl hV)
        · have hV := hV.2 h3
          refine q_run k_PM_changed 26 4 55 rfl ?_
          show q_G l cx M_PM_changed 7 448 0 0 55 [(0, .inr (.inr x0)), (1, .inr (.inl x1)), (3, .inr (.inl x3)), (5, .inr (.inl x5)), (7, .inr (.inl x7)), (9, .inl x9), (10, .inl x10), (11, .inl x11)] [.inl (lg_cmp x11.toInt64 x5)] σ R
          refine q_ifz (q_dc k_PM_changed 30 rfl) rfl (fun h4 => ?_) (fun h4 => ?_)
          · have hV := hV.1 h4
            exact q_less (Nat.le_of_ble_eq_true rfl) (Nat.le_of_ble_eq_true rfl) (q_subk [0, 1, 2, 3, 4, 5, 6, 7] rfl hV)
          · have hV := hV.2 h4
            refine q_run k_PM_changed 31 4 63 rfl ?_
            show q_G l cx M_PM_changed 7 448 0 0 63 [(0, .inr (.inr x0)), (1, .inr (.inl x1)), (3, .inr (.inl x3)), (5, .inr (.inl x5)), (7, .inr (.inl x7)), (9, .inl x9), (10, .inl x10), (11, .inl x11)] [.inl (lg_cmp x10.toInt64 x3)] σ R
            refine q_ifz (q_dc k_PM_changed 35 rfl) rfl (fun h5 => ?_) (fun h5 => ?_)
            · have hV := hV.1 h5
              exact q_less (Nat.le_of_ble_eq_true rfl) (Nat.le_of_ble_eq_true rfl) (q_subk [0, 1, 2, 3, 4, 5, 6, 7] rfl hV)
            · have hV := hV.2 h5
              refine q_run k_PM_changed 36 4 72 rfl ?_
              show q_G l cx M_PM_changed 7 448 0 0 72 [(0, .inr (.inr x0)), (1, .inr (.inl x1)), (3, .inr (.inl x3)), (5, .inr (.inl x5)), (7, .inr (.inl x7)), (9, .inl x9), (10, .inl x10), (11, .inl x11)] [.inl (lg_cmp x10.toInt64 x7)] σ R
              refine q_ifz (q_dc k_PM_changed 40 rfl) rfl (fun h6 => ?_) (fun h6 => ?_)
              · have hV := hV.1 h6
                exact q_less (Nat.le_of_ble_eq_true rfl) (Nat.le_of_ble_eq_true rfl) (q_subk [0, 1, 2, 3, 4, 5, 6, 7] rfl hV)
              · have hV := hV.2 h6
                refine q_run k_PM_changed 41 1 76 rfl ?_
                show q_G l cx M_PM_changed 7 448 0 0 76 [(0, .inr (.inr x0)), (1, .inr (.inl x1)), (3, .inr (.inl x3)), (5, .inr (.inl x5)), (7, .inr (.inl x7)), (9, .inl x9), (10, .inl x10), (11, .inl x11)] [.inl (1 : Int32)] σ R
                refine q_goto (q_dc k_PM_changed 42 rfl) rfl ?_
                exact q_less (Nat.le_of_ble_eq_true rfl) (Nat.le_of_ble_eq_true rfl) (q_subk [0, 1, 2, 3, 4, 5, 6, 7] rfl hV))
  have hV := hV (by
      intro x0 x1 x3 x5 x7 x9 x10 x11 σ hV
      show q_G l cx M_PM_changed 7 448 0 0 79 [(0, .inr (.inr x0)), (1, .inr (.inl x1)), (3, .inr (.inl x3)), (5, .inr (.inl x5)), (7, .inr (.inl x7)), (9, .inl x9), (10, .inl x10), (11, .inl x11)] [] σ R
      refine q_run k_PM_changed 43 1 80 rfl ?_
      show q_G l cx M_PM_changed 7 448 0 0 80 [(0, .inr (.inr x0)), (1, .inr (.inl x1)), (3, .inr (.inl x3)), (5, .inr (.inl x5)), (7, .inr (.inl x7)), (9, .inl x9), (10, .inl x10), (11, .inl x11)] [.inl (0 : Int32)] σ R
      exact q_less (Nat.le_of_ble_eq_true rfl) (Nat.le_of_ble_eq_true rfl) (q_subk [0, 1, 2, 3, 4, 5, 6, 7] rfl hV))
  have hV := hV (by
      intro x0 x1 x3 x5 x7 x9 x10 x11 y0 σ hV
      show q_G l cx M_PM_changed 7 448 0 0 80 [(0, .inr (.inr x0)), (1, .inr (.inl x1)), (3, .inr (.inl x3)), (5, .inr (.inl x5)), (7, .inr (.inl x7)), (9, .inl x9), (10, .inl x10), (11, .inl x11)] [.inl y0] σ R
      refine q_run k_PM_changed 44 2 84 rfl ?_
      show q_G l cx M_PM_changed 7 448 0 0 84 [(12, .inl y0), (0, .inr (.inr x0)), (1, .inr (.inl x1)), (3, .inr (.inl x3)), (5, .inr (.inl x5)), (7, .inr (.inl x7)), (9, .inl x9), (10, .inl x10), (11, .inl x11)] [.inl y0] σ R
      refine q_ifz (q_dc k_PM_changed 46 rfl) rfl (fun h1 => ?_) (fun h1 => ?_)
      · have hV := hV.1 h1
        exact q_less (Nat.le_of_ble_eq_true rfl) (Nat.le_of_ble_eq_true rfl) (q_subk [1, 2, 3, 4, 5, 6, 7, 8] rfl hV)
      · have hV := hV.2 h1
        refine q_run k_PM_changed 47 18 116 rfl ?_
        show q_K σ x0 = 7 ∧ q_K σ (q_P σ x0 21) = 1001 ∧ vp_in (((24 : Int32) * x9) + x10) (q_Z σ (q_P σ x0 21)) ∧ q_K σ x0 = 7 ∧ q_K σ (q_P σ x0 22) = 1001 ∧ vp_in (((24 : Int32) * x9) + x10) (q_Z σ (q_P σ x0 22)) ∧ q_G l cx M_PM_changed 7 448 0 0 116 [(12, .inl y0), (0, .inr (.inr x0)), (1, .inr (.inl x1)), (3, .inr (.inl x3)), (5, .inr (.inl x5)), (7, .inr (.inl x7)), (9, .inl x9), (10, .inl x10), (11, .inl x11)] [.inl x11, .inr (.inl ((q_L σ (q_P σ x0 21) (((24 : Int32) * x9) + x10).toNatClampNeg) ^^^ (q_L σ (q_P σ x0 22) (((24 : Int32) * x9) + x10).toNatClampNeg)))] σ R
        obtain ⟨s2, s3, s4, s5, s6, s7, hV⟩ := hV
        refine ⟨s2, s3, s4, s5, s6, s7, ?_⟩
        refine q_callS (st := [.inr (.inl ((q_L σ (q_P σ x0 21) (((24 : Int32) * x9) + x10).toNatClampNeg) ^^^ (q_L σ (q_P σ x0 22) (((24 : Int32) * x9) + x10).toNatClampNeg)))]) (t_PM_bit (l := l) (cx := cx) (σ := σ) x11) (q_dc k_PM_changed 65 rfl) (Or.inl (List.mem_of_getElem? (i := 1007) (by decide +kernel))) w_PM_bit s_PM_bit a_PM_bit (q_wt (Nat.le_of_ble_eq_true rfl)) ⟨Nat.le_of_ble_eq_true rfl, Nat.le_of_ble_eq_true rfl⟩ (fun v9 τ9 q9 => ?_) (fun n9 τ9 q9 => by cases q9.1)
        obtain ⟨q8, q7⟩ := q9
        cases q8
        rw [q7]
        show q_G l cx M_PM_changed 7 448 0 0 119 [(12, .inl y0), (0, .inr (.inr x0)), (1, .inr (.inl x1)), (3, .inr (.inl x3)), (5, .inr (.inl x5)), (7, .inr (.inl x7)), (9, .inl x9), (10, .inl x10), (11, .inl x11)] [.inr (.inl (f_PM_bit x11)), .inr (.inl ((q_L σ (q_P σ x0 21) (((24 : Int32) * x9) + x10).toNatClampNeg) ^^^ (q_L σ (q_P σ x0 22) (((24 : Int32) * x9) + x10).toNatClampNeg)))] σ R
        refine q_run k_PM_changed 66 3 122 rfl ?_
        show q_G l cx M_PM_changed 7 448 0 0 122 [(12, .inl y0), (0, .inr (.inr x0)), (1, .inr (.inl x1)), (3, .inr (.inl x3)), (5, .inr (.inl x5)), (7, .inr (.inl x7)), (9, .inl x9), (10, .inl x10), (11, .inl x11)] [.inl (lg_cmp (((q_L σ (q_P σ x0 21) (((24 : Int32) * x9) + x10).toNatClampNeg) ^^^ (q_L σ (q_P σ x0 22) (((24 : Int32) * x9) + x10).toNatClampNeg)) &&& (f_PM_bit x11)) (0 : Int64))] σ R
        refine q_ifz (q_dc k_PM_changed 69 rfl) rfl (fun h8 => ?_) (fun h8 => ?_)
        · have hV := hV.1 h8
          exact q_less (Nat.le_of_ble_eq_true rfl) (Nat.le_of_ble_eq_true rfl) (q_subk [1, 2, 3, 4, 5, 6, 7, 8] rfl hV)
        · have hV := hV.2 h8
          refine q_run k_PM_changed 70 1 126 rfl ?_
          show q_G l cx M_PM_changed 7 448 0 0 126 [(12, .inl y0), (0, .inr (.inr x0)), (1, .inr (.inl x1)), (3, .inr (.inl x3)), (5, .inr (.inl x5)), (7, .inr (.inl x7)), (9, .inl x9), (10, .inl x10), (11, .inl x11)] [.inl (0 : Int32)] σ R
          exact q_zreturn (q_dc k_PM_changed 71 rfl) rfl (by decide) hV)
  have hV := hV (by
      intro x0 x1 x3 x5 x7 x9 x10 x11 σ hV
      show q_G l cx M_PM_changed 7 448 0 0 127 [(0, .inr (.inr x0)), (1, .inr (.inl x1)), (3, .inr (.inl x3)), (5, .inr (.inl x5)), (7, .inr (.inl x7)), (9, .inl x9), (10, .inl x10), (11, .inl x11)] [] σ R
      refine q_run k_PM_changed 72 1 130 rfl ?_
      show q_G l cx M_PM_changed 7 448 0 0 130 [(11, .inl (x11 + (1 : Int32))), (0, .inr (.inr x0)), (1, .inr (.inl x1)), (3, .inr (.inl x3)), (5, .inr (.inl x5)), (7, .inr (.inl x7)), (9, .inl x9), (10, .inl x10)] [] σ R
      refine q_let (fun v1 => q_G l cx M_PM_changed 7 448 0 0 130 [(11, .inl v1), (0, .inr (.inr x0)), (1, .inr (.inl x1)), (3, .inr (.inl x3)), (5, .inr (.inl x5)), (7, .inr (.inl x7)), (9, .inl x9), (10, .inl x10)] [] σ R) (x11 + (1 : Int32)) (fun v1 e_v1 => ?_)
      have hV := hV v1 e_v1
      refine q_goto (q_dc k_PM_changed 73 rfl) rfl ?_
      exact q_less (Nat.le_of_ble_eq_true rfl) (Nat.le_of_ble_eq_true rfl) (q_subk [1, 2, 3, 4, 5, 6, 7, 0] rfl hV))
  refine q_run k_PM_changed 0 3 5 rfl ?_
  show q_K σ x0 = 7 ∧ q_G l cx M_PM_changed 7 448 0 0 5 [(0, .inr (.inr x0)), (1, .inr (.inl x1)), (3, .inr (.inl x3)), (5, .inr (.inl x5)), (7, .inr (.inl x7))] [] (q_wI σ x0 0 (0 : Int32)) R
  obtain ⟨s2, hV⟩ := hV
  refine ⟨s2, ?_⟩
  refine q_let (fun σ1 => q_G l cx M_PM_changed 7 448 0 0 5 [(0, .inr (.inr x0)), (1, .inr (.inl x1)), (3, .inr (.inl x3)), (5, .inr (.inl x5)), (7, .inr (.inl x7))] [] σ1 R) (q_wI σ x0 0 (0 : Int32)) (fun σ1 e_σ1 => ?_)
  have hV := hV σ1 e_σ1
  refine q_run k_PM_changed 3 1 6 rfl ?_
  show q_G l cx M_PM_changed 7 448 0 0 6 [(0, .inr (.inr x0)), (1, .inr (.inl x1)), (3, .inr (.inl x3)), (5, .inr (.inl x5)), (7, .inr (.inl x7))] [.inr (.inr x0)] σ1 R
  obtain ⟨s3, hV⟩ := hV
  refine q_callV (st := []) (as := []) (t_PM_fillAll (l := l) (cx := cx)  hV) (q_dc k_PM_changed 4 rfl) (Or.inl (List.mem_of_getElem? (i := 991) (by decide +kernel))) w_PM_fillAll n_PM_fillAll (ci := 6) rfl e_PM_fillAll a_PM_fillAll (q_wt (Nat.le_of_ble_eq_true rfl)) ⟨Nat.le_of_ble_eq_true rfl, Nat.le_of_ble_eq_true rfl⟩ s3 (fun v9 τ9 q9 => ?_) (fun n9 τ9 q9 => q_T.leave rfl q9)
  obtain ⟨rfl, hV⟩ := q_cv_elim q9
  clear q9
  have hV := hV
  revert hV
  generalize τ9 = σ7
  intro hV
  show q_G l cx M_PM_changed 7 448 0 0 9 [(0, .inr (.inr x0)), (1, .inr (.inl x1)), (3, .inr (.inl x3)), (5, .inr (.inl x5)), (7, .inr (.inl x7))] [] σ7 R
  refine q_run k_PM_changed 5 2 12 rfl ?_
  show q_G l cx M_PM_changed 7 448 0 0 12 [(9, .inl (0 : Int32)), (0, .inr (.inr x0)), (1, .inr (.inl x1)), (3, .inr (.inl x3)), (5, .inr (.inl x5)), (7, .inr (.inl x7))] [] σ7 R
  exact q_less (Nat.le_of_ble_eq_true rfl) (Nat.le_of_ble_eq_true rfl) (q_subk [1, 2, 3, 4, 5, 0] rfl hV)
def V_PM_in (x0 : Nat) (x1 : Int32) (x2 : Int64) (x4 : Int64) (σ : q_S) (R : q_O → q_S → Prop) : Prop :=
  ∀ (P14 : Nat → Int32 → Int64 → Int64 → Int32 → Nat → q_S → Prop),
  ∀ (P54 : q_S → Prop),
  ∀ (P85 : Int32 → q_S → Prop),
  (∀ (x0 : Nat) (x1 : Int32) (x2 : Int64) (x4 : Int64) (y0 : Int32) (y1 : Nat) (σ : q_S), (q_K σ y1 = 7 ∧ ∀ σ1 : q_S, σ1 = q_wI σ y1 0 y0 → q_K σ1 x0 = 7 ∧ ((¬ (q_I σ1 x0 0) = (0 : Int32) → P54  σ1) ∧ (¬ (¬ (q_I σ1 x0 0) = (0 : Int32)) → (((lg_cmp x2 (0 : Int64)) < (0 : Int32) → P54  σ1) ∧ (¬ ((lg_cmp x2 (0 : Int64)) < (0 : Int32)) → (((0 : Int32) ≤ (lg_cmp x2 (32 : Int64)) → P54  σ1) ∧ (¬ ((0 : Int32) ≤ (lg_cmp x2 (32 : Int64))) → (((lg_cmp x4 (0 : Int64)) < (0 : Int32) → P54  σ1) ∧ (¬ ((lg_cmp x4 (0 : Int64)) < (0 : Int32)) → (((lg_cmp x4 (24 : Int64)) < (0 : Int32) → q_K σ1 x0 = 7 ∧ q_K σ1 (q_P σ1 x0 21) = 1001 ∧ vp_in (((24 : Int32) * x1) + x4.toInt32) (q_Z σ1 (q_P σ1 x0 21)) ∧ (((lg_cmp ((q_L σ1 (q_P σ1 x0 21) (((24 : Int32) * x1) + x4.toInt32).toNatClampNeg) &&& (f_PM_bit x2.toInt32)) (0 : Int64)) = (0 : Int32) → P85 (0 : Int32) σ1) ∧ (¬ ((lg_cmp ((q_L σ1 (q_P σ1 x0 21) (((24 : Int32) * x1) + x4.toInt32).toNatClampNeg) &&& (f_PM_bit x2.toInt32)) (0 : Int64)) = (0 : Int32)) → P85 (1 : Int32) σ1))) ∧ (¬ ((lg_cmp x4 (24 : Int64)) < (0 : Int32)) → P54  σ1))))))))))) → P14 x0 x1 x2 x4 y0 y1 σ) →
  (∀ (σ : q_S), (R (.inl (some (.inl (0 : Int32)))) σ) → P54 σ) →
  (∀ (y0 : Int32) (σ : q_S), (((y0 = 0 ∨ y0 = 1) ∧ R (.inl (some (.inl y0))) σ)) → P85 y0 σ) →
  q_K σ x0 = 7 ∧ (((f_PM_isPlane σ x0 x1) = (0 : Int32) → P14 x0 x1 x2 x4 (1 : Int32) x0 σ) ∧ (¬ ((f_PM_isPlane σ x0 x1) = (0 : Int32)) → P14 x0 x1 x2 x4 (0 : Int32) x0 σ))
set_option maxRecDepth 100000 in
theorem t_PM_in {l : Launch} {cx : q_C} {x0 : Nat} {x1 : Int32} {x2 : Int64} {x4 : Int64} {σ : q_S} {R : q_O → q_S → Prop} (hV : V_PM_in x0 x1 x2 x4 σ R) : q_Ct l cx M_PM_in 1 64 0 0 [q_r x0, q_i x1, q_l x2, q_l x4] σ R := by
  refine q_Ct.of p_PM_in c_PM_in rfl (Nat.le_of_ble_eq_true rfl) ?_
  have hV := hV (fun (x0 : Nat) (x1 : Int32) (x2 : Int64) (x4 : Int64) (y0 : Int32) (y1 : Nat) (σ : q_S) => q_G l cx M_PM_in 1 64 0 0 14 [(0, .inr (.inr x0)), (1, .inl x1), (2, .inr (.inl x2)), (4, .inr (.inl x4))] [.inl y0, .inr (.inr y1)] σ R) (fun (σ : q_S) => q_G l cx M_PM_in 1 64 0 0 54 [] [] σ R) (fun (y0 : Int32) (σ : q_S) => q_G l cx M_PM_in 1 64 0 0 85 [] [.inl y0] σ R)
  have hV := hV (by
      intro x0 x1 x2 x4 y0 y1 σ hV
      show q_G l cx M_PM_in 1 64 0 0 14 [(0, .inr (.inr x0)), (1, .inl x1), (2, .inr (.inl x2)), (4, .inr (.inl x4))] [.inl y0, .inr (.inr y1)] σ R
      refine q_run k_PM_in 8 1 17 rfl ?_
      show q_K σ y1 = 7 ∧ q_G l cx M_PM_in 1 64 0 0 17 [(0, .inr (.inr x0)), (1, .inl x1), (2, .inr (.inl x2)), (4, .inr (.inl x4))] [] (q_wI σ y1 0 y0) R
      obtain ⟨s2, hV⟩ := hV
      refine ⟨s2, ?_⟩
      refine q_let (fun σ1 => q_G l cx M_PM_in 1 64 0 0 17 [(0, .inr (.inr x0)), (1, .inl x1), (2, .inr (.inl x2)), (4, .inr (.inl x4))] [] σ1 R) (q_wI σ y1 0 y0) (fun σ1 e_σ1 => ?_)
      have hV := hV σ1 e_σ1
      refine q_run k_PM_in 9 2 21 rfl ?_
      show q_K σ1 x0 = 7 ∧ q_G l cx M_PM_in 1 64 0 0 21 [(0, .inr (.inr x0)), (1, .inl x1), (2, .inr (.inl x2)), (4, .inr (.inl x4))] [.inl (q_I σ1 x0 0)] σ1 R
      obtain ⟨s3, hV⟩ := hV
      refine ⟨s3, ?_⟩
      refine q_ifz (q_dc k_PM_in 11 rfl) rfl (fun h4 => ?_) (fun h4 => ?_)
      · have hV := hV.1 h4
        exact q_less (Nat.le_of_ble_eq_true rfl) (Nat.le_of_ble_eq_true rfl) (q_subk [] rfl hV)
      · have hV := hV.2 h4
        refine q_run k_PM_in 12 3 27 rfl ?_
        show q_G l cx M_PM_in 1 64 0 0 27 [(0, .inr (.inr x0)), (1, .inl x1), (2, .inr (.inl x2)), (4, .inr (.inl x4))] [.inl (lg_cmp x2 (0 : Int64))] σ1 R
        refine q_ifz (q_dc k_PM_in 15 rfl) rfl (fun h5 => ?_) (fun h5 => ?_)
        · have hV := hV.1 h5
          exact q_less (Nat.le_of_ble_eq_true rfl) (Nat.le_of_ble_eq_true rfl) (q_subk [] rfl hV)
        · have hV := hV.2 h5
          refine q_run k_PM_in 16 3 35 rfl ?_
          show q_G l cx M_PM_in 1 64 0 0 35 [(0, .inr (.inr x0)), (1, .inl x1), (2, .inr (.inl x2)), (4, .inr (.inl x4))] [.inl (lg_cmp x2 (32 : Int64))] σ1 R
          refine q_ifz (q_dc k_PM_in 19 rfl) rfl (fun h6 => ?_) (fun h6 => ?_)
          · have hV := hV.1 h6
            exact q_less (Nat.le_of_ble_eq_true rfl) (Nat.le_of_ble_eq_true rfl) (q_subk [] rfl hV)
          · have hV := hV.2 h6
            refine q_run k_PM_in 20 3 42 rfl ?_
            show q_G l cx M_PM_in 1 64 0 0 42 [(0, .inr (.inr x0)), (1, .inl x1), (2, .inr (.inl x2)), (4, .inr (.inl x4))] [.inl (lg_cmp x4 (0 : Int64))] σ1 R
            refine q_ifz (q_dc k_PM_in 23 rfl) rfl (fun h7 => ?_) (fun h7 => ?_)
            · have hV := hV.1 h7
              exact q_less (Nat.le_of_ble_eq_true rfl) (Nat.le_of_ble_eq_true rfl) (q_subk [] rfl hV)
            · have hV := hV.2 h7
              refine q_run k_PM_in 24 3 51 rfl ?_
              show q_G l cx M_PM_in 1 64 0 0 51 [(0, .inr (.inr x0)), (1, .inl x1), (2, .inr (.inl x2)), (4, .inr (.inl x4))] [.inl (lg_cmp x4 (24 : Int64))] σ1 R
              refine q_ifz (q_dc k_PM_in 27 rfl) rfl (fun h8 => ?_) (fun h8 => ?_)
              · have hV := hV.1 h8
                refine q_run k_PM_in 30 11 71 rfl ?_
                show q_K σ1 x0 = 7 ∧ q_K σ1 (q_P σ1 x0 21) = 1001 ∧ vp_in (((24 : Int32) * x1) + x4.toInt32) (q_Z σ1 (q_P σ1 x0 21)) ∧ q_G l cx M_PM_in 1 64 0 0 71 [(0, .inr (.inr x0)), (1, .inl x1), (2, .inr (.inl x2)), (4, .inr (.inl x4))] [.inl x2.toInt32, .inr (.inl (q_L σ1 (q_P σ1 x0 21) (((24 : Int32) * x1) + x4.toInt32).toNatClampNeg))] σ1 R
                obtain ⟨s9, s10, s11, hV⟩ := hV
                refine ⟨s9, s10, s11, ?_⟩
                refine q_callS (st := [.inr (.inl (q_L σ1 (q_P σ1 x0 21) (((24 : Int32) * x1) + x4.toInt32).toNatClampNeg))]) (t_PM_bit (l := l) (cx := cx) (σ := σ1) x2.toInt32) (q_dc k_PM_in 41 rfl) (Or.inl (List.mem_of_getElem? (i := 1007) (by decide +kernel))) w_PM_bit s_PM_bit a_PM_bit (q_wt (Nat.le_of_ble_eq_true rfl)) ⟨Nat.le_of_ble_eq_true rfl, Nat.le_of_ble_eq_true rfl⟩ (fun v9 τ9 q9 => ?_) (fun n9 τ9 q9 => by cases q9.1)
                obtain ⟨q8, q7⟩ := q9
                cases q8
                rw [q7]
                show q_G l cx M_PM_in 1 64 0 0 74 [(0, .inr (.inr x0)), (1, .inl x1), (2, .inr (.inl x2)), (4, .inr (.inl x4))] [.inr (.inl (f_PM_bit x2.toInt32)), .inr (.inl (q_L σ1 (q_P σ1 x0 21) (((24 : Int32) * x1) + x4.toInt32).toNatClampNeg))] σ1 R
                refine q_run k_PM_in 42 3 77 rfl ?_
                show q_G l cx M_PM_in 1 64 0 0 77 [(0, .inr (.inr x0)), (1, .inl x1), (2, .inr (.inl x2)), (4, .inr (.inl x4))] [.inl (lg_cmp ((q_L σ1 (q_P σ1 x0 21) (((24 : Int32) * x1) + x4.toInt32).toNatClampNeg) &&& (f_PM_bit x2.toInt32)) (0 : Int64))] σ1 R
                refine q_ifz (q_dc k_PM_in 45 rfl) rfl (fun h12 => ?_) (fun h12 => ?_)
                · have hV := hV.1 h12
                  refine q_run k_PM_in 48 1 85 rfl ?_
                  show q_G l cx M_PM_in 1 64 0 0 85 [(0, .inr (.inr x0)), (1, .inl x1), (2, .inr (.inl x2)), (4, .inr (.inl x4))] [.inl (0 : Int32)] σ1 R
                  exact q_less (Nat.le_of_ble_eq_true rfl) (Nat.le_of_ble_eq_true rfl) (q_subk [] rfl hV)
                · have hV := hV.2 h12
                  refine q_run k_PM_in 46 1 81 rfl ?_
                  show q_G l cx M_PM_in 1 64 0 0 81 [(0, .inr (.inr x0)), (1, .inl x1), (2, .inr (.inl x2)), (4, .inr (.inl x4))] [.inl (1 : Int32)] σ1 R
                  refine q_goto (q_dc k_PM_in 47 rfl) rfl ?_
                  exact q_less (Nat.le_of_ble_eq_true rfl) (Nat.le_of_ble_eq_true rfl) (q_subk [] rfl hV)
              · have hV := hV.2 h8
                exact q_less (Nat.le_of_ble_eq_true rfl) (Nat.le_of_ble_eq_true rfl) (q_subk [] rfl hV))
  have hV := hV (by
      intro σ hV
      show q_G l cx M_PM_in 1 64 0 0 54 [] [] σ R
      refine q_run k_PM_in 28 1 55 rfl ?_
      show q_G l cx M_PM_in 1 64 0 0 55 [] [.inl (0 : Int32)] σ R
      exact q_zreturn (q_dc k_PM_in 29 rfl) rfl (by decide) hV)
  have hV := hV (by
      intro y0 σ hV
      show q_G l cx M_PM_in 1 64 0 0 85 [] [.inl y0] σ R
      exact q_zreturn (q_dc k_PM_in 49 rfl) rfl hV.1 hV.2)
  refine q_run k_PM_in 0 3 3 rfl ?_
  show q_G l cx M_PM_in 1 64 0 0 3 [(0, .inr (.inr x0)), (1, .inl x1), (2, .inr (.inl x2)), (4, .inr (.inl x4))] [.inl x1, .inr (.inr x0), .inr (.inr x0)] σ R
  obtain ⟨s1, hV⟩ := hV
  refine q_callV (st := [.inr (.inr x0)]) (as := [.inl x1]) (t_PM_isPlane (l := l) (cx := cx) (σ := σ) x0 x1 s1) (q_dc k_PM_in 3 rfl) (Or.inl (List.mem_of_getElem? (i := 954) (by decide +kernel))) w_PM_isPlane n_PM_isPlane (ci := 6) rfl e_PM_isPlane a_PM_isPlane (q_wt (Nat.le_of_ble_eq_true rfl)) ⟨Nat.le_of_ble_eq_true rfl, Nat.le_of_ble_eq_true rfl⟩ s1 (fun v9 τ9 q9 => ?_) (fun n9 τ9 q9 => by cases q9.1)
  obtain ⟨q8, q7⟩ := q9
  cases q8
  rw [q7]
  show q_G l cx M_PM_in 1 64 0 0 6 [(0, .inr (.inr x0)), (1, .inl x1), (2, .inr (.inl x2)), (4, .inr (.inl x4))] [.inl (f_PM_isPlane σ x0 x1), .inr (.inr x0)] σ R
  refine q_ifz (q_dc k_PM_in 4 rfl) rfl (fun h2 => ?_) (fun h2 => ?_)
  · have hV := hV.1 h2
    refine q_run k_PM_in 7 1 14 rfl ?_
    show q_G l cx M_PM_in 1 64 0 0 14 [(0, .inr (.inr x0)), (1, .inl x1), (2, .inr (.inl x2)), (4, .inr (.inl x4))] [.inl (1 : Int32), .inr (.inr x0)] σ R
    exact q_less (Nat.le_of_ble_eq_true rfl) (Nat.le_of_ble_eq_true rfl) (q_subk [0, 1, 2, 3] rfl hV)
  · have hV := hV.2 h2
    refine q_run k_PM_in 5 1 10 rfl ?_
    show q_G l cx M_PM_in 1 64 0 0 10 [(0, .inr (.inr x0)), (1, .inl x1), (2, .inr (.inl x2)), (4, .inr (.inl x4))] [.inl (0 : Int32), .inr (.inr x0)] σ R
    refine q_goto (q_dc k_PM_in 6 rfl) rfl ?_
    exact q_less (Nat.le_of_ble_eq_true rfl) (Nat.le_of_ble_eq_true rfl) (q_subk [0, 1, 2, 3] rfl hV)
def V_PM_islands (x0 : Nat) (x1 : Int32) (σ : q_S) (R : q_O → q_S → Prop) : Prop :=
  ∀ (P14 : Nat → Int32 → Int32 → Nat → q_S → Prop),
  ∀ (P34 : Int32 → q_S → Prop),
  (∀ (x0 : Nat) (x1 : Int32) (y0 : Int32) (y1 : Nat) (σ : q_S), (q_K σ y1 = 7 ∧ ∀ σ1 : q_S, σ1 = q_wI σ y1 0 y0 → q_K σ1 x0 = 7 ∧ ((¬ (q_I σ1 x0 0) = (0 : Int32) → P34 (0 : Int32) σ1) ∧ (¬ (¬ (q_I σ1 x0 0) = (0 : Int32)) → q_K σ1 x0 = 7 ∧ (q_K σ1 (q_P σ1 x0 23) = 1000 ∨ q_K σ1 (q_P σ1 x0 23) = 2000) ∧ vp_in x1 (q_Z σ1 (q_P σ1 x0 23)) ∧ P34 (q_I σ1 (q_P σ1 x0 23) x1.toNatClampNeg) σ1))) → P14 x0 x1 y0 y1 σ) →
  (∀ (y0 : Int32) (σ : q_S), (R (.inl (some (.inl y0))) σ) → P34 y0 σ) →
  q_K σ x0 = 7 ∧ (((f_PM_isPlane σ x0 x1) = (0 : Int32) → P14 x0 x1 (1 : Int32) x0 σ) ∧ (¬ ((f_PM_isPlane σ x0 x1) = (0 : Int32)) → P14 x0 x1 (0 : Int32) x0 σ))
set_option maxRecDepth 100000 in
theorem t_PM_islands {l : Launch} {cx : q_C} {x0 : Nat} {x1 : Int32} {σ : q_S} {R : q_O → q_S → Prop} (hV : V_PM_islands x0 x1 σ R) : q_Ct l cx M_PM_islands 1 64 0 0 [q_r x0, q_i x1] σ R := by
  refine q_Ct.of p_PM_islands c_PM_islands rfl (Nat.le_of_ble_eq_true rfl) ?_
  have hV := hV (fun (x0 : Nat) (x1 : Int32) (y0 : Int32) (y1 : Nat) (σ : q_S) => q_G l cx M_PM_islands 1 64 0 0 14 [(0, .inr (.inr x0)), (1, .inl x1)] [.inl y0, .inr (.inr y1)] σ R) (fun (y0 : Int32) (σ : q_S) => q_G l cx M_PM_islands 1 64 0 0 34 [] [.inl y0] σ R)
  have hV := hV (by
      intro x0 x1 y0 y1 σ hV
      show q_G l cx M_PM_islands 1 64 0 0 14 [(0, .inr (.inr x0)), (1, .inl x1)] [.inl y0, .inr (.inr y1)] σ R
      refine q_run k_PM_islands 8 1 17 rfl ?_
      show q_K σ y1 = 7 ∧ q_G l cx M_PM_islands 1 64 0 0 17 [(0, .inr (.inr x0)), (1, .inl x1)] [] (q_wI σ y1 0 y0) R
      obtain ⟨s2, hV⟩ := hV
      refine ⟨s2, ?_⟩
      refine q_let (fun σ1 => q_G l cx M_PM_islands 1 64 0 0 17 [(0, .inr (.inr x0)), (1, .inl x1)] [] σ1 R) (q_wI σ y1 0 y0) (fun σ1 e_σ1 => ?_)
      have hV := hV σ1 e_σ1
      refine q_run k_PM_islands 9 2 21 rfl ?_
      show q_K σ1 x0 = 7 ∧ q_G l cx M_PM_islands 1 64 0 0 21 [(0, .inr (.inr x0)), (1, .inl x1)] [.inl (q_I σ1 x0 0)] σ1 R
      obtain ⟨s3, hV⟩ := hV
      refine ⟨s3, ?_⟩
      refine q_ifz (q_dc k_PM_islands 11 rfl) rfl (fun h4 => ?_) (fun h4 => ?_)
      · have hV := hV.1 h4
        refine q_run k_PM_islands 17 1 34 rfl ?_
        show q_G l cx M_PM_islands 1 64 0 0 34 [(0, .inr (.inr x0)), (1, .inl x1)] [.inl (0 : Int32)] σ1 R
        exact q_less (Nat.le_of_ble_eq_true rfl) (Nat.le_of_ble_eq_true rfl) (q_subk [] rfl hV)
      · have hV := hV.2 h4
        refine q_run k_PM_islands 12 4 30 rfl ?_
        show q_K σ1 x0 = 7 ∧ (q_K σ1 (q_P σ1 x0 23) = 1000 ∨ q_K σ1 (q_P σ1 x0 23) = 2000) ∧ vp_in x1 (q_Z σ1 (q_P σ1 x0 23)) ∧ q_G l cx M_PM_islands 1 64 0 0 30 [(0, .inr (.inr x0)), (1, .inl x1)] [.inl (q_I σ1 (q_P σ1 x0 23) x1.toNatClampNeg)] σ1 R
        obtain ⟨s5, s6, s7, hV⟩ := hV
        refine ⟨s5, s6, s7, ?_⟩
        refine q_goto (q_dc k_PM_islands 16 rfl) rfl ?_
        exact q_less (Nat.le_of_ble_eq_true rfl) (Nat.le_of_ble_eq_true rfl) (q_subk [] rfl hV))
  have hV := hV (by
      intro y0 σ hV
      show q_G l cx M_PM_islands 1 64 0 0 34 [] [.inl y0] σ R
      exact q_ireturn (q_dc k_PM_islands 18 rfl) rfl hV)
  refine q_run k_PM_islands 0 3 3 rfl ?_
  show q_G l cx M_PM_islands 1 64 0 0 3 [(0, .inr (.inr x0)), (1, .inl x1)] [.inl x1, .inr (.inr x0), .inr (.inr x0)] σ R
  obtain ⟨s1, hV⟩ := hV
  refine q_callV (st := [.inr (.inr x0)]) (as := [.inl x1]) (t_PM_isPlane (l := l) (cx := cx) (σ := σ) x0 x1 s1) (q_dc k_PM_islands 3 rfl) (Or.inl (List.mem_of_getElem? (i := 954) (by decide +kernel))) w_PM_isPlane n_PM_isPlane (ci := 6) rfl e_PM_isPlane a_PM_isPlane (q_wt (Nat.le_of_ble_eq_true rfl)) ⟨Nat.le_of_ble_eq_true rfl, Nat.le_of_ble_eq_true rfl⟩ s1 (fun v9 τ9 q9 => ?_) (fun n9 τ9 q9 => by cases q9.1)
  obtain ⟨q8, q7⟩ := q9
  cases q8
  rw [q7]
  show q_G l cx M_PM_islands 1 64 0 0 6 [(0, .inr (.inr x0)), (1, .inl x1)] [.inl (f_PM_isPlane σ x0 x1), .inr (.inr x0)] σ R
  refine q_ifz (q_dc k_PM_islands 4 rfl) rfl (fun h2 => ?_) (fun h2 => ?_)
  · have hV := hV.1 h2
    refine q_run k_PM_islands 7 1 14 rfl ?_
    show q_G l cx M_PM_islands 1 64 0 0 14 [(0, .inr (.inr x0)), (1, .inl x1)] [.inl (1 : Int32), .inr (.inr x0)] σ R
    exact q_less (Nat.le_of_ble_eq_true rfl) (Nat.le_of_ble_eq_true rfl) (q_subk [0, 1] rfl hV)
  · have hV := hV.2 h2
    refine q_run k_PM_islands 5 1 10 rfl ?_
    show q_G l cx M_PM_islands 1 64 0 0 10 [(0, .inr (.inr x0)), (1, .inl x1)] [.inl (0 : Int32), .inr (.inr x0)] σ R
    refine q_goto (q_dc k_PM_islands 6 rfl) rfl ?_
    exact q_less (Nat.le_of_ble_eq_true rfl) (Nat.le_of_ble_eq_true rfl) (q_subk [0, 1] rfl hV)
def V_PM_narrow (x0 : Nat) (x1 : Int32) (σ : q_S) (R : q_O → q_S → Prop) : Prop :=
  ∀ (P14 : Nat → Int32 → Int32 → Nat → q_S → Prop),
  ∀ (P37 : q_S → Prop),
  ∀ (P38 : Int32 → q_S → Prop),
  (∀ (x0 : Nat) (x1 : Int32) (y0 : Int32) (y1 : Nat) (σ : q_S), (q_K σ y1 = 7 ∧ ∀ σ1 : q_S, σ1 = q_wI σ y1 0 y0 → q_K σ1 x0 = 7 ∧ ((¬ (q_I σ1 x0 0) = (0 : Int32) → P37  σ1) ∧ (¬ (¬ (q_I σ1 x0 0) = (0 : Int32)) → q_K σ1 x0 = 7 ∧ q_K σ1 (q_P σ1 x0 24) = 1003 ∧ vp_in x1 (q_Z σ1 (q_P σ1 x0 24)) ∧ (((q_I σ1 (q_P σ1 x0 24) x1.toNatClampNeg) = (0 : Int32) → P37  σ1) ∧ (¬ ((q_I σ1 (q_P σ1 x0 24) x1.toNatClampNeg) = (0 : Int32)) → P38 (1 : Int32) σ1))))) → P14 x0 x1 y0 y1 σ) →
  (∀ (σ : q_S), (P38 (0 : Int32) σ) → P37 σ) →
  (∀ (y0 : Int32) (σ : q_S), (((y0 = 0 ∨ y0 = 1) ∧ R (.inl (some (.inl y0))) σ)) → P38 y0 σ) →
  q_K σ x0 = 7 ∧ (((f_PM_isPlane σ x0 x1) = (0 : Int32) → P14 x0 x1 (1 : Int32) x0 σ) ∧ (¬ ((f_PM_isPlane σ x0 x1) = (0 : Int32)) → P14 x0 x1 (0 : Int32) x0 σ))
set_option maxRecDepth 100000 in
theorem t_PM_narrow {l : Launch} {cx : q_C} {x0 : Nat} {x1 : Int32} {σ : q_S} {R : q_O → q_S → Prop} (hV : V_PM_narrow x0 x1 σ R) : q_Ct l cx M_PM_narrow 1 64 0 0 [q_r x0, q_i x1] σ R := by
  refine q_Ct.of p_PM_narrow c_PM_narrow rfl (Nat.le_of_ble_eq_true rfl) ?_
  have hV := hV (fun (x0 : Nat) (x1 : Int32) (y0 : Int32) (y1 : Nat) (σ : q_S) => q_G l cx M_PM_narrow 1 64 0 0 14 [(0, .inr (.inr x0)), (1, .inl x1)] [.inl y0, .inr (.inr y1)] σ R) (fun (σ : q_S) => q_G l cx M_PM_narrow 1 64 0 0 37 [] [] σ R) (fun (y0 : Int32) (σ : q_S) => q_G l cx M_PM_narrow 1 64 0 0 38 [] [.inl y0] σ R)
  have hV := hV (by
      intro x0 x1 y0 y1 σ hV
      show q_G l cx M_PM_narrow 1 64 0 0 14 [(0, .inr (.inr x0)), (1, .inl x1)] [.inl y0, .inr (.inr y1)] σ R
      refine q_run k_PM_narrow 8 1 17 rfl ?_
      show q_K σ y1 = 7 ∧ q_G l cx M_PM_narrow 1 64 0 0 17 [(0, .inr (.inr x0)), (1, .inl x1)] [] (q_wI σ y1 0 y0) R
      obtain ⟨s2, hV⟩ := hV
      refine ⟨s2, ?_⟩
      refine q_let (fun σ1 => q_G l cx M_PM_narrow 1 64 0 0 17 [(0, .inr (.inr x0)), (1, .inl x1)] [] σ1 R) (q_wI σ y1 0 y0) (fun σ1 e_σ1 => ?_)
      have hV := hV σ1 e_σ1
      refine q_run k_PM_narrow 9 2 21 rfl ?_
      show q_K σ1 x0 = 7 ∧ q_G l cx M_PM_narrow 1 64 0 0 21 [(0, .inr (.inr x0)), (1, .inl x1)] [.inl (q_I σ1 x0 0)] σ1 R
      obtain ⟨s3, hV⟩ := hV
      refine ⟨s3, ?_⟩
      refine q_ifz (q_dc k_PM_narrow 11 rfl) rfl (fun h4 => ?_) (fun h4 => ?_)
      · have hV := hV.1 h4
        exact q_less (Nat.le_of_ble_eq_true rfl) (Nat.le_of_ble_eq_true rfl) (q_subk [] rfl hV)
      · have hV := hV.2 h4
        refine q_run k_PM_narrow 12 4 30 rfl ?_
        show q_K σ1 x0 = 7 ∧ q_K σ1 (q_P σ1 x0 24) = 1003 ∧ vp_in x1 (q_Z σ1 (q_P σ1 x0 24)) ∧ q_G l cx M_PM_narrow 1 64 0 0 30 [(0, .inr (.inr x0)), (1, .inl x1)] [.inl (q_I σ1 (q_P σ1 x0 24) x1.toNatClampNeg)] σ1 R
        obtain ⟨s5, s6, s7, hV⟩ := hV
        refine ⟨s5, s6, s7, ?_⟩
        refine q_ifz (q_dc k_PM_narrow 16 rfl) rfl (fun h8 => ?_) (fun h8 => ?_)
        · have hV := hV.1 h8
          exact q_less (Nat.le_of_ble_eq_true rfl) (Nat.le_of_ble_eq_true rfl) (q_subk [] rfl hV)
        · have hV := hV.2 h8
          refine q_run k_PM_narrow 17 1 34 rfl ?_
          show q_G l cx M_PM_narrow 1 64 0 0 34 [(0, .inr (.inr x0)), (1, .inl x1)] [.inl (1 : Int32)] σ1 R
          refine q_goto (q_dc k_PM_narrow 18 rfl) rfl ?_
          exact q_less (Nat.le_of_ble_eq_true rfl) (Nat.le_of_ble_eq_true rfl) (q_subk [] rfl hV))
  have hV := hV (by
      intro σ hV
      show q_G l cx M_PM_narrow 1 64 0 0 37 [] [] σ R
      refine q_run k_PM_narrow 19 1 38 rfl ?_
      show q_G l cx M_PM_narrow 1 64 0 0 38 [] [.inl (0 : Int32)] σ R
      exact q_less (Nat.le_of_ble_eq_true rfl) (Nat.le_of_ble_eq_true rfl) (q_subk [] rfl hV))
  have hV := hV (by
      intro y0 σ hV
      show q_G l cx M_PM_narrow 1 64 0 0 38 [] [.inl y0] σ R
      exact q_zreturn (q_dc k_PM_narrow 20 rfl) rfl hV.1 hV.2)
  refine q_run k_PM_narrow 0 3 3 rfl ?_
  show q_G l cx M_PM_narrow 1 64 0 0 3 [(0, .inr (.inr x0)), (1, .inl x1)] [.inl x1, .inr (.inr x0), .inr (.inr x0)] σ R
  obtain ⟨s1, hV⟩ := hV
  refine q_callV (st := [.inr (.inr x0)]) (as := [.inl x1]) (t_PM_isPlane (l := l) (cx := cx) (σ := σ) x0 x1 s1) (q_dc k_PM_narrow 3 rfl) (Or.inl (List.mem_of_getElem? (i := 954) (by decide +kernel))) w_PM_isPlane n_PM_isPlane (ci := 6) rfl e_PM_isPlane a_PM_isPlane (q_wt (Nat.le_of_ble_eq_true rfl)) ⟨Nat.le_of_ble_eq_true rfl, Nat.le_of_ble_eq_true rfl⟩ s1 (fun v9 τ9 q9 => ?_) (fun n9 τ9 q9 => by cases q9.1)
  obtain ⟨q8, q7⟩ := q9
  cases q8
  rw [q7]
  show q_G l cx M_PM_narrow 1 64 0 0 6 [(0, .inr (.inr x0)), (1, .inl x1)] [.inl (f_PM_isPlane σ x0 x1), .inr (.inr x0)] σ R
  refine q_ifz (q_dc k_PM_narrow 4 rfl) rfl (fun h2 => ?_) (fun h2 => ?_)
  · have hV := hV.1 h2
    refine q_run k_PM_narrow 7 1 14 rfl ?_
    show q_G l cx M_PM_narrow 1 64 0 0 14 [(0, .inr (.inr x0)), (1, .inl x1)] [.inl (1 : Int32), .inr (.inr x0)] σ R
    exact q_less (Nat.le_of_ble_eq_true rfl) (Nat.le_of_ble_eq_true rfl) (q_subk [0, 1] rfl hV)
  · have hV := hV.2 h2
    refine q_run k_PM_narrow 5 1 10 rfl ?_
    show q_G l cx M_PM_narrow 1 64 0 0 10 [(0, .inr (.inr x0)), (1, .inl x1)] [.inl (0 : Int32), .inr (.inr x0)] σ R
    refine q_goto (q_dc k_PM_narrow 6 rfl) rfl ?_
    exact q_less (Nat.le_of_ble_eq_true rfl) (Nat.le_of_ble_eq_true rfl) (q_subk [0, 1] rfl hV)
def V_PM_findPiece (x0 : Nat) (x1 : Int32) (x2 : Int32) (σ : q_S) (R : q_O → q_S → Prop) : Prop :=
  ∀ (P12 : q_S → Prop),
  ∀ (P21 : Nat → Int32 → Int32 → q_S → Prop),
  (∀ (σ : q_S), (R (.inl (some (.inl (0 : Int32)))) σ) → P12 σ) →
  (∀ (x0 : Nat) (x2 : Int32) (x3 : Int32) (σ : q_S), (((x2 < x3 → R (.inl (some (.inl (1 : Int32)))) σ) ∧ (¬ (x2 < x3) → q_K σ x0 = 7 ∧ V_PM_nextPiece x0 σ (q_ci (fun v5 σ6 => ((¬ v5 = (0 : Int32) → ∀ v8 : Int32, v8 = x3 + (1 : Int32) → P21 x0 x2 v8 σ6) ∧ (¬ (¬ v5 = (0 : Int32)) → R (.inl (some (.inl (0 : Int32)))) σ6))) (fun n9 σ9 => R (.inr n9) σ9))))) → P21 x0 x2 x3 σ) →
  q_K σ x0 = 7 ∧ (((f_PM_isPlane σ x0 x1) = (0 : Int32) → P12  σ) ∧ (¬ ((f_PM_isPlane σ x0 x1) = (0 : Int32)) → (((0 : Int32) ≤ x2 → q_K σ x0 = 7 ∧ V_PM_look x0 x1 σ (q_cv (fun σ8 => P21 x0 x2 (0 : Int32) σ8) (fun n9 σ9 => R (.inr n9) σ9))) ∧ (¬ ((0 : Int32) ≤ x2) → P12  σ))))
set_option maxRecDepth 100000 in
theorem t_PM_findPiece {l : Launch} {cx : q_C} {x0 : Nat} {x1 : Int32} {x2 : Int32} {σ : q_S} {R : q_O → q_S → Prop} (hV : V_PM_findPiece x0 x1 x2 σ R) : q_Ct l cx M_PM_findPiece 2 128 0 0 [q_r x0, q_i x1, q_i x2] σ R := by
  refine q_Ct.of p_PM_findPiece c_PM_findPiece rfl (Nat.le_of_ble_eq_true rfl) ?_
  have hV := hV (fun (σ : q_S) => q_G l cx M_PM_findPiece 2 128 0 0 12 [] [] σ R) (fun (x0 : Nat) (x2 : Int32) (x3 : Int32) (σ : q_S) => q_G l cx M_PM_findPiece 2 128 0 0 21 [(0, .inr (.inr x0)), (2, .inl x2), (3, .inl x3)] [] σ R)
  have hV := hV (by
      intro σ hV
      show q_G l cx M_PM_findPiece 2 128 0 0 12 [] [] σ R
      refine q_run k_PM_findPiece 6 1 13 rfl ?_
      show q_G l cx M_PM_findPiece 2 128 0 0 13 [] [.inl (0 : Int32)] σ R
      exact q_zreturn (q_dc k_PM_findPiece 7 rfl) rfl (by decide) hV)
  have hV := hV (by
      intro x0 x2 x3 σ hV
      show q_G l cx M_PM_findPiece 2 128 0 0 21 [(0, .inr (.inr x0)), (2, .inl x2), (3, .inl x3)] [] σ R
      refine q_run k_PM_findPiece 13 2 23 rfl ?_
      show q_G l cx M_PM_findPiece 2 128 0 0 23 [(0, .inr (.inr x0)), (2, .inl x2), (3, .inl x3)] [.inl x2, .inl x3] σ R
      refine q_icmp (q_dc k_PM_findPiece 15 rfl) rfl (fun h1 => ?_) (fun h1 => ?_)
      · have hV := hV.1 h1
        refine q_run k_PM_findPiece 23 1 42 rfl ?_
        show q_G l cx M_PM_findPiece 2 128 0 0 42 [(0, .inr (.inr x0)), (2, .inl x2), (3, .inl x3)] [.inl (1 : Int32)] σ R
        exact q_zreturn (q_dc k_PM_findPiece 24 rfl) rfl (by decide) hV
      · have hV := hV.2 h1
        refine q_run k_PM_findPiece 16 1 27 rfl ?_
        show q_G l cx M_PM_findPiece 2 128 0 0 27 [(0, .inr (.inr x0)), (2, .inl x2), (3, .inl x3)] [.inr (.inr x0)] σ R
        obtain ⟨s2, hV⟩ := hV
        refine q_callV (st := []) (as := []) (t_PM_nextPiece (l := l) (cx := cx)  hV) (q_dc k_PM_findPiece 17 rfl) (Or.inl (List.mem_of_getElem? (i := 1039) (by decide +kernel))) w_PM_nextPiece n_PM_nextPiece (ci := 6) rfl e_PM_nextPiece a_PM_nextPiece (q_wt (Nat.le_of_ble_eq_true rfl)) ⟨Nat.le_of_ble_eq_true rfl, Nat.le_of_ble_eq_true rfl⟩ s2 (fun v9 τ9 q9 => ?_) (fun n9 τ9 q9 => q_T.leave rfl q9)
        obtain ⟨v5, rfl, hV⟩ := q_ci_elim q9
        clear q9
        have hV := hV
        revert hV
        generalize τ9 = σ6
        intro hV
        show q_G l cx M_PM_findPiece 2 128 0 0 30 [(0, .inr (.inr x0)), (2, .inl x2), (3, .inl x3)] [.inl v5] σ6 R
        refine q_ifz (q_dc k_PM_findPiece 18 rfl) rfl (fun h7 => ?_) (fun h7 => ?_)
        · have hV := hV.1 h7
          refine q_run k_PM_findPiece 21 1 38 rfl ?_
          show q_G l cx M_PM_findPiece 2 128 0 0 38 [(3, .inl (x3 + (1 : Int32))), (0, .inr (.inr x0)), (2, .inl x2)] [] σ6 R
          refine q_let (fun v8 => q_G l cx M_PM_findPiece 2 128 0 0 38 [(3, .inl v8), (0, .inr (.inr x0)), (2, .inl x2)] [] σ6 R) (x3 + (1 : Int32)) (fun v8 e_v8 => ?_)
          have hV := hV v8 e_v8
          refine q_goto (q_dc k_PM_findPiece 22 rfl) rfl ?_
          exact q_less (Nat.le_of_ble_eq_true rfl) (Nat.le_of_ble_eq_true rfl) (q_subk [1, 2, 0] rfl hV)
        · have hV := hV.2 h7
          refine q_run k_PM_findPiece 19 1 34 rfl ?_
          show q_G l cx M_PM_findPiece 2 128 0 0 34 [(0, .inr (.inr x0)), (2, .inl x2), (3, .inl x3)] [.inl (0 : Int32)] σ6 R
          exact q_zreturn (q_dc k_PM_findPiece 20 rfl) rfl (by decide) hV)
  refine q_run k_PM_findPiece 0 2 2 rfl ?_
  show q_G l cx M_PM_findPiece 2 128 0 0 2 [(0, .inr (.inr x0)), (1, .inl x1), (2, .inl x2)] [.inl x1, .inr (.inr x0)] σ R
  obtain ⟨s1, hV⟩ := hV
  refine q_callV (st := []) (as := [.inl x1]) (t_PM_isPlane (l := l) (cx := cx) (σ := σ) x0 x1 s1) (q_dc k_PM_findPiece 2 rfl) (Or.inl (List.mem_of_getElem? (i := 954) (by decide +kernel))) w_PM_isPlane n_PM_isPlane (ci := 6) rfl e_PM_isPlane a_PM_isPlane (q_wt (Nat.le_of_ble_eq_true rfl)) ⟨Nat.le_of_ble_eq_true rfl, Nat.le_of_ble_eq_true rfl⟩ s1 (fun v9 τ9 q9 => ?_) (fun n9 τ9 q9 => by cases q9.1)
  obtain ⟨q8, q7⟩ := q9
  cases q8
  rw [q7]
  show q_G l cx M_PM_findPiece 2 128 0 0 5 [(0, .inr (.inr x0)), (1, .inl x1), (2, .inl x2)] [.inl (f_PM_isPlane σ x0 x1)] σ R
  refine q_ifz (q_dc k_PM_findPiece 3 rfl) rfl (fun h2 => ?_) (fun h2 => ?_)
  · have hV := hV.1 h2
    exact q_less (Nat.le_of_ble_eq_true rfl) (Nat.le_of_ble_eq_true rfl) (q_subk [] rfl hV)
  · have hV := hV.2 h2
    refine q_run k_PM_findPiece 4 1 9 rfl ?_
    show q_G l cx M_PM_findPiece 2 128 0 0 9 [(0, .inr (.inr x0)), (1, .inl x1), (2, .inl x2)] [.inl x2] σ R
    refine q_ifz (q_dc k_PM_findPiece 5 rfl) rfl (fun h3 => ?_) (fun h3 => ?_)
    · have hV := hV.1 h3
      refine q_run k_PM_findPiece 8 2 16 rfl ?_
      show q_G l cx M_PM_findPiece 2 128 0 0 16 [(0, .inr (.inr x0)), (1, .inl x1), (2, .inl x2)] [.inl x1, .inr (.inr x0)] σ R
      obtain ⟨s4, hV⟩ := hV
      refine q_callV (st := []) (as := [.inl x1]) (t_PM_look (l := l) (cx := cx)  hV) (q_dc k_PM_findPiece 10 rfl) (Or.inl (List.mem_of_getElem? (i := 1048) (by decide +kernel))) w_PM_look n_PM_look (ci := 6) rfl e_PM_look a_PM_look (q_wt (Nat.le_of_ble_eq_true rfl)) ⟨Nat.le_of_ble_eq_true rfl, Nat.le_of_ble_eq_true rfl⟩ s4 (fun v9 τ9 q9 => ?_) (fun n9 τ9 q9 => q_T.leave rfl q9)
      obtain ⟨rfl, hV⟩ := q_cv_elim q9
      clear q9
      have hV := hV
      revert hV
      generalize τ9 = σ8
      intro hV
      show q_G l cx M_PM_findPiece 2 128 0 0 19 [(0, .inr (.inr x0)), (1, .inl x1), (2, .inl x2)] [] σ8 R
      refine q_run k_PM_findPiece 11 2 21 rfl ?_
      show q_G l cx M_PM_findPiece 2 128 0 0 21 [(3, .inl (0 : Int32)), (0, .inr (.inr x0)), (1, .inl x1), (2, .inl x2)] [] σ8 R
      exact q_less (Nat.le_of_ble_eq_true rfl) (Nat.le_of_ble_eq_true rfl) (q_subk [1, 3, 0] rfl hV)
    · have hV := hV.2 h3
      exact q_less (Nat.le_of_ble_eq_true rfl) (Nat.le_of_ble_eq_true rfl) (q_subk [] rfl hV)
def V_PM_growAskew (x0 : Nat) (σ : q_S) (R : q_O → q_S → Prop) : Prop :=
  ∀ (P2 : Nat → Int32 → q_S → Prop),
  ∀ (P10 : Nat → Int32 → Int32 → q_S → Prop),
  ∀ (P38 : Nat → Int32 → Int32 → Int64 → Int64 → q_S → Prop),
  ∀ (P57 : Nat → Int32 → Int32 → Int64 → Int64 → q_S → Prop),
  ∀ (P87 : Nat → Int32 → Int64 → q_S → Prop),
  ∀ (P92 : Nat → Int32 → Int64 → Int32 → q_S → Prop),
  (∀ (x0 : Nat) (x1 : Int32) (σ : q_S), (((x1 = (0 : Int32) → R (.inl none) σ) ∧ (¬ (x1 = (0 : Int32)) → P10 x0 (0 : Int32) (0 : Int32) σ))) → P2 x0 x1 σ) →
  (∀ (x0 : Nat) (x1 : Int32) (x2 : Int32) (σ : q_S), ((((24 : Int32) ≤ x2 → P2 x0 x1 σ) ∧ (¬ ((24 : Int32) ≤ x2) → q_K σ x0 = 7 ∧ q_K σ (q_P σ x0 29) = 1001 ∧ vp_in x2 (q_Z σ (q_P σ x0 29)) ∧ ((x2 ≤ (0 : Int32) → P38 x0 x1 x2 (0 : Int64) (q_L σ (q_P σ x0 29) x2.toNatClampNeg) σ) ∧ (¬ (x2 ≤ (0 : Int32)) → q_K σ x0 = 7 ∧ q_K σ (q_P σ x0 29) = 1001 ∧ vp_in (x2 - (1 : Int32)) (q_Z σ (q_P σ x0 29)) ∧ P38 x0 x1 x2 (q_L σ (q_P σ x0 29) (x2 - (1 : Int32)).toNatClampNeg) (q_L σ (q_P σ x0 29) x2.toNatClampNeg) σ))))) → P10 x0 x1 x2 σ) →
  (∀ (x0 : Nat) (x1 : Int32) (x2 : Int32) (y0 : Int64) (y1 : Int64) (σ : q_S), ((((23 : Int32) ≤ x2 → P57 x0 x1 x2 (0 : Int64) (y1 ||| y0) σ) ∧ (¬ ((23 : Int32) ≤ x2) → q_K σ x0 = 7 ∧ q_K σ (q_P σ x0 29) = 1001 ∧ vp_in (x2 + (1 : Int32)) (q_Z σ (q_P σ x0 29)) ∧ P57 x0 x1 x2 (q_L σ (q_P σ x0 29) (x2 + (1 : Int32)).toNatClampNeg) (y1 ||| y0) σ))) → P38 x0 x1 x2 y0 y1 σ) →
  (∀ (x0 : Nat) (x1 : Int32) (x2 : Int32) (y0 : Int64) (y1 : Int64) (σ : q_S), (∀ v1 : Int64, v1 = y1 ||| y0 → V_PM_wide v1 (1 : Int32) σ (q_cl' (fun v4 σ5 => q_K σ5 x0 = 7 ∧ q_K σ5 (q_P σ5 x0 31) = 1001 ∧ vp_in x2 (q_Z σ5 (q_P σ5 x0 31)) ∧ ∀ v6 : Int64, v6 = v4 &&& (q_L σ5 (q_P σ5 x0 31) x2.toNatClampNeg) → ((¬ x1 = (0 : Int32) → P87 x0 x2 v6 σ5) ∧ (¬ (¬ x1 = (0 : Int32)) → q_K σ5 x0 = 7 ∧ q_K σ5 (q_P σ5 x0 29) = 1001 ∧ vp_in x2 (q_Z σ5 (q_P σ5 x0 29)) ∧ (((lg_cmp v6 (q_L σ5 (q_P σ5 x0 29) x2.toNatClampNeg)) = (0 : Int32) → P92 x0 x2 v6 (0 : Int32) σ5) ∧ (¬ ((lg_cmp v6 (q_L σ5 (q_P σ5 x0 29) x2.toNatClampNeg)) = (0 : Int32)) → P87 x0 x2 v6 σ5))))) (fun n9 σ9 => R (.inr n9) σ9))) → P57 x0 x1 x2 y0 y1 σ) →
  (∀ (x0 : Nat) (x2 : Int32) (x3 : Int64) (σ : q_S), (P92 x0 x2 x3 (1 : Int32) σ) → P87 x0 x2 x3 σ) →
  (∀ (x0 : Nat) (x2 : Int32) (x3 : Int64) (y0 : Int32) (σ : q_S), (q_K σ x0 = 7 ∧ q_K σ (q_P σ x0 29) = 1001 ∧ vp_in x2 (q_Z σ (q_P σ x0 29)) ∧ ∀ σ1 : q_S, σ1 = q_wL σ (q_P σ x0 29) x2.toNatClampNeg x3 → ∀ v5 : Int32, v5 = x2 + (1 : Int32) → P10 x0 y0 v5 σ1) → P92 x0 x2 x3 y0 σ) →
  P2 x0 (1 : Int32) σ
set_option maxRecDepth 100000 in
theorem t_PM_growAskew {l : Launch} {cx : q_C} {x0 : Nat} {σ : q_S} {R : q_O → q_S → Prop} (hV : V_PM_growAskew x0 σ R) : q_Ct l cx M_PM_growAskew 1 64 0 0 [q_r x0] σ R := by
  refine q_Ct.of p_PM_growAskew c_PM_growAskew rfl (Nat.le_of_ble_eq_true rfl) ?_
  have hV := hV (fun (x0 : Nat) (x1 : Int32) (σ : q_S) => q_G l cx M_PM_growAskew 1 64 0 0 2 [(0, .inr (.inr x0)), (1, .inl x1)] [] σ R) (fun (x0 : Nat) (x1 : Int32) (x2 : Int32) (σ : q_S) => q_G l cx M_PM_growAskew 1 64 0 0 10 [(0, .inr (.inr x0)), (1, .inl x1), (2, .inl x2)] [] σ R) (fun (x0 : Nat) (x1 : Int32) (x2 : Int32) (y0 : Int64) (y1 : Int64) (σ : q_S) => q_G l cx M_PM_growAskew 1 64 0 0 38 [(0, .inr (.inr x0)), (1, .inl x1), (2, .inl x2)] [.inr (.inl y0), .inr (.inl y1)] σ R) (fun (x0 : Nat) (x1 : Int32) (x2 : Int32) (y0 : Int64) (y1 : Int64) (σ : q_S) => q_G l cx M_PM_growAskew 1 64 0 0 57 [(0, .inr (.inr x0)), (1, .inl x1), (2, .inl x2)] [.inr (.inl y0), .inr (.inl y1)] σ R) (fun (x0 : Nat) (x2 : Int32) (x3 : Int64) (σ : q_S) => q_G l cx M_PM_growAskew 1 64 0 0 87 [(0, .inr (.inr x0)), (2, .inl x2), (3, .inr (.inl x3))] [] σ R) (fun (x0 : Nat) (x2 : Int32) (x3 : Int64) (y0 : Int32) (σ : q_S) => q_G l cx M_PM_growAskew 1 64 0 0 92 [(0, .inr (.inr x0)), (2, .inl x2), (3, .inr (.inl x3))] [.inl y0] σ R)
  have hV := hV (by
      intro x0 x1 σ hV
      show q_G l cx M_PM_growAskew 1 64 0 0 2 [(0, .inr (.inr x0)), (1, .inl x1)] [] σ R
      refine q_run k_PM_growAskew 2 1 3 rfl ?_
      show q_G l cx M_PM_growAskew 1 64 0 0 3 [(0, .inr (.inr x0)), (1, .inl x1)] [.inl x1] σ R
      refine q_ifz (q_dc k_PM_growAskew 3 rfl) rfl (fun h1 => ?_) (fun h1 => ?_)
      · have hV := hV.1 h1
        exact q_vreturn (q_dc k_PM_growAskew 69 rfl) rfl hV
      · have hV := hV.2 h1
        refine q_run k_PM_growAskew 4 4 10 rfl ?_
        show q_G l cx M_PM_growAskew 1 64 0 0 10 [(2, .inl (0 : Int32)), (1, .inl (0 : Int32)), (0, .inr (.inr x0))] [] σ R
        exact q_less (Nat.le_of_ble_eq_true rfl) (Nat.le_of_ble_eq_true rfl) (q_subk [2, 1, 0] rfl hV))
  have hV := hV (by
      intro x0 x1 x2 σ hV
      show q_G l cx M_PM_growAskew 1 64 0 0 10 [(0, .inr (.inr x0)), (1, .inl x1), (2, .inl x2)] [] σ R
      refine q_run k_PM_growAskew 8 2 13 rfl ?_
      show q_G l cx M_PM_growAskew 1 64 0 0 13 [(0, .inr (.inr x0)), (1, .inl x1), (2, .inl x2)] [.inl (24 : Int32), .inl x2] σ R
      refine q_icmp (q_dc k_PM_growAskew 10 rfl) rfl (fun h1 => ?_) (fun h1 => ?_)
      · have hV := hV.1 h1
        refine q_goto (q_dc k_PM_growAskew 68 rfl) rfl ?_
        exact q_less (Nat.le_of_ble_eq_true rfl) (Nat.le_of_ble_eq_true rfl) (q_subk [0, 1] rfl hV)
      · have hV := hV.2 h1
        refine q_run k_PM_growAskew 11 5 23 rfl ?_
        show q_K σ x0 = 7 ∧ q_K σ (q_P σ x0 29) = 1001 ∧ vp_in x2 (q_Z σ (q_P σ x0 29)) ∧ q_G l cx M_PM_growAskew 1 64 0 0 23 [(0, .inr (.inr x0)), (1, .inl x1), (2, .inl x2)] [.inl x2, .inr (.inl (q_L σ (q_P σ x0 29) x2.toNatClampNeg))] σ R
        obtain ⟨s2, s3, s4, hV⟩ := hV
        refine ⟨s2, s3, s4, ?_⟩
        refine q_ifz (q_dc k_PM_growAskew 16 rfl) rfl (fun h5 => ?_) (fun h5 => ?_)
        · have hV := hV.1 h5
          refine q_run k_PM_growAskew 24 1 38 rfl ?_
          show q_G l cx M_PM_growAskew 1 64 0 0 38 [(0, .inr (.inr x0)), (1, .inl x1), (2, .inl x2)] [.inr (.inl (0 : Int64)), .inr (.inl (q_L σ (q_P σ x0 29) x2.toNatClampNeg))] σ R
          exact q_less (Nat.le_of_ble_eq_true rfl) (Nat.le_of_ble_eq_true rfl) (q_subk [0, 1, 2] rfl hV)
        · have hV := hV.2 h5
          refine q_run k_PM_growAskew 17 6 34 rfl ?_
          show q_K σ x0 = 7 ∧ q_K σ (q_P σ x0 29) = 1001 ∧ vp_in (x2 - (1 : Int32)) (q_Z σ (q_P σ x0 29)) ∧ q_G l cx M_PM_growAskew 1 64 0 0 34 [(0, .inr (.inr x0)), (1, .inl x1), (2, .inl x2)] [.inr (.inl (q_L σ (q_P σ x0 29) (x2 - (1 : Int32)).toNatClampNeg)), .inr (.inl (q_L σ (q_P σ x0 29) x2.toNatClampNeg))] σ R
          obtain ⟨s6, s7, s8, hV⟩ := hV
          refine ⟨s6, s7, s8, ?_⟩
          refine q_goto (q_dc k_PM_growAskew 23 rfl) rfl ?_
          exact q_less (Nat.le_of_ble_eq_true rfl) (Nat.le_of_ble_eq_true rfl) (q_subk [0, 1, 2] rfl hV))
  have hV := hV (by
      intro x0 x1 x2 y0 y1 σ hV
      show q_G l cx M_PM_growAskew 1 64 0 0 38 [(0, .inr (.inr x0)), (1, .inl x1), (2, .inl x2)] [.inr (.inl y0), .inr (.inl y1)] σ R
      refine q_run k_PM_growAskew 25 3 42 rfl ?_
      show q_G l cx M_PM_growAskew 1 64 0 0 42 [(0, .inr (.inr x0)), (1, .inl x1), (2, .inl x2)] [.inl (23 : Int32), .inl x2, .inr (.inl (y1 ||| y0))] σ R
      refine q_icmp (q_dc k_PM_growAskew 28 rfl) rfl (fun h1 => ?_) (fun h1 => ?_)
      · have hV := hV.1 h1
        refine q_run k_PM_growAskew 36 1 57 rfl ?_
        show q_G l cx M_PM_growAskew 1 64 0 0 57 [(0, .inr (.inr x0)), (1, .inl x1), (2, .inl x2)] [.inr (.inl (0 : Int64)), .inr (.inl (y1 ||| y0))] σ R
        exact q_less (Nat.le_of_ble_eq_true rfl) (Nat.le_of_ble_eq_true rfl) (q_subk [0, 1, 2] rfl hV)
      · have hV := hV.2 h1
        refine q_run k_PM_growAskew 29 6 53 rfl ?_
        show q_K σ x0 = 7 ∧ q_K σ (q_P σ x0 29) = 1001 ∧ vp_in (x2 + (1 : Int32)) (q_Z σ (q_P σ x0 29)) ∧ q_G l cx M_PM_growAskew 1 64 0 0 53 [(0, .inr (.inr x0)), (1, .inl x1), (2, .inl x2)] [.inr (.inl (q_L σ (q_P σ x0 29) (x2 + (1 : Int32)).toNatClampNeg)), .inr (.inl (y1 ||| y0))] σ R
        obtain ⟨s2, s3, s4, hV⟩ := hV
        refine ⟨s2, s3, s4, ?_⟩
        refine q_goto (q_dc k_PM_growAskew 35 rfl) rfl ?_
        exact q_less (Nat.le_of_ble_eq_true rfl) (Nat.le_of_ble_eq_true rfl) (q_subk [0, 1, 2] rfl hV))
  have hV := hV (by
      intro x0 x1 x2 y0 y1 σ hV
      show q_G l cx M_PM_growAskew 1 64 0 0 57 [(0, .inr (.inr x0)), (1, .inl x1), (2, .inl x2)] [.inr (.inl y0), .inr (.inl y1)] σ R
      refine q_run k_PM_growAskew 37 2 59 rfl ?_
      show q_G l cx M_PM_growAskew 1 64 0 0 59 [(3, .inr (.inl (y1 ||| y0))), (0, .inr (.inr x0)), (1, .inl x1), (2, .inl x2)] [] σ R
      refine q_let (fun v1 => q_G l cx M_PM_growAskew 1 64 0 0 59 [(3, .inr (.inl v1)), (0, .inr (.inr x0)), (1, .inl x1), (2, .inl x2)] [] σ R) (y1 ||| y0) (fun v1 e_v1 => ?_)
      have hV := hV v1 e_v1
      refine q_run k_PM_growAskew 39 2 61 rfl ?_
      show q_G l cx M_PM_growAskew 1 64 0 0 61 [(3, .inr (.inl v1)), (0, .inr (.inr x0)), (1, .inl x1), (2, .inl x2)] [.inl (1 : Int32), .inr (.inl v1)] σ R
      refine q_callS (st := []) (t_PM_wide (l := l) (cx := cx)  hV) (q_dc k_PM_growAskew 41 rfl) (Or.inl (List.mem_of_getElem? (i := 1026) (by decide +kernel))) w_PM_wide s_PM_wide a_PM_wide (q_wt (Nat.le_of_ble_eq_true rfl)) ⟨Nat.le_of_ble_eq_true rfl, Nat.le_of_ble_eq_true rfl⟩ (fun v9 τ9 q9 => ?_) (fun n9 τ9 q9 => q_T.leave rfl q9)
      obtain ⟨v4, rfl, hV⟩ := q_cl_elim q9
      clear q9
      have hV := hV
      revert hV
      generalize τ9 = σ5
      intro hV
      show q_G l cx M_PM_growAskew 1 64 0 0 64 [(3, .inr (.inl v1)), (0, .inr (.inr x0)), (1, .inl x1), (2, .inl x2)] [.inr (.inl v4)] σ5 R
      refine q_run k_PM_growAskew 42 6 72 rfl ?_
      show q_K σ5 x0 = 7 ∧ q_K σ5 (q_P σ5 x0 31) = 1001 ∧ vp_in x2 (q_Z σ5 (q_P σ5 x0 31)) ∧ q_G l cx M_PM_growAskew 1 64 0 0 72 [(3, .inr (.inl (v4 &&& (q_L σ5 (q_P σ5 x0 31) x2.toNatClampNeg)))), (0, .inr (.inr x0)), (1, .inl x1), (2, .inl x2)] [] σ5 R
      obtain ⟨s7, s8, s9, hV⟩ := hV
      refine ⟨s7, s8, s9, ?_⟩
      refine q_let (fun v6 => q_G l cx M_PM_growAskew 1 64 0 0 72 [(3, .inr (.inl v6)), (0, .inr (.inr x0)), (1, .inl x1), (2, .inl x2)] [] σ5 R) (v4 &&& (q_L σ5 (q_P σ5 x0 31) x2.toNatClampNeg)) (fun v6 e_v6 => ?_)
      have hV := hV v6 e_v6
      refine q_run k_PM_growAskew 48 1 73 rfl ?_
      show q_G l cx M_PM_growAskew 1 64 0 0 73 [(3, .inr (.inl v6)), (0, .inr (.inr x0)), (1, .inl x1), (2, .inl x2)] [.inl x1] σ5 R
      refine q_ifz (q_dc k_PM_growAskew 49 rfl) rfl (fun h10 => ?_) (fun h10 => ?_)
      · have hV := hV.1 h10
        exact q_less (Nat.le_of_ble_eq_true rfl) (Nat.le_of_ble_eq_true rfl) (q_subk [1, 3, 0] rfl hV)
      · have hV := hV.2 h10
        refine q_run k_PM_growAskew 50 6 84 rfl ?_
        show q_K σ5 x0 = 7 ∧ q_K σ5 (q_P σ5 x0 29) = 1001 ∧ vp_in x2 (q_Z σ5 (q_P σ5 x0 29)) ∧ q_G l cx M_PM_growAskew 1 64 0 0 84 [(3, .inr (.inl v6)), (0, .inr (.inr x0)), (1, .inl x1), (2, .inl x2)] [.inl (lg_cmp v6 (q_L σ5 (q_P σ5 x0 29) x2.toNatClampNeg))] σ5 R
        obtain ⟨s11, s12, s13, hV⟩ := hV
        refine ⟨s11, s12, s13, ?_⟩
        refine q_ifz (q_dc k_PM_growAskew 56 rfl) rfl (fun h14 => ?_) (fun h14 => ?_)
        · have hV := hV.1 h14
          refine q_run k_PM_growAskew 59 1 92 rfl ?_
          show q_G l cx M_PM_growAskew 1 64 0 0 92 [(3, .inr (.inl v6)), (0, .inr (.inr x0)), (1, .inl x1), (2, .inl x2)] [.inl (0 : Int32)] σ5 R
          exact q_less (Nat.le_of_ble_eq_true rfl) (Nat.le_of_ble_eq_true rfl) (q_subk [1, 3, 0] rfl hV)
        · have hV := hV.2 h14
          exact q_less (Nat.le_of_ble_eq_true rfl) (Nat.le_of_ble_eq_true rfl) (q_subk [1, 3, 0] rfl hV))
  have hV := hV (by
      intro x0 x2 x3 σ hV
      show q_G l cx M_PM_growAskew 1 64 0 0 87 [(0, .inr (.inr x0)), (2, .inl x2), (3, .inr (.inl x3))] [] σ R
      refine q_run k_PM_growAskew 57 1 88 rfl ?_
      show q_G l cx M_PM_growAskew 1 64 0 0 88 [(0, .inr (.inr x0)), (2, .inl x2), (3, .inr (.inl x3))] [.inl (1 : Int32)] σ R
      refine q_goto (q_dc k_PM_growAskew 58 rfl) rfl ?_
      exact q_less (Nat.le_of_ble_eq_true rfl) (Nat.le_of_ble_eq_true rfl) (q_subk [0, 1, 2] rfl hV))
  have hV := hV (by
      intro x0 x2 x3 y0 σ hV
      show q_G l cx M_PM_growAskew 1 64 0 0 92 [(0, .inr (.inr x0)), (2, .inl x2), (3, .inr (.inl x3))] [.inl y0] σ R
      refine q_run k_PM_growAskew 60 6 100 rfl ?_
      show q_K σ x0 = 7 ∧ q_K σ (q_P σ x0 29) = 1001 ∧ vp_in x2 (q_Z σ (q_P σ x0 29)) ∧ q_G l cx M_PM_growAskew 1 64 0 0 100 [(1, .inl y0), (0, .inr (.inr x0)), (2, .inl x2), (3, .inr (.inl x3))] [] (q_wL σ (q_P σ x0 29) x2.toNatClampNeg x3) R
      obtain ⟨s2, s3, s4, hV⟩ := hV
      refine ⟨s2, s3, s4, ?_⟩
      refine q_let (fun σ1 => q_G l cx M_PM_growAskew 1 64 0 0 100 [(1, .inl y0), (0, .inr (.inr x0)), (2, .inl x2), (3, .inr (.inl x3))] [] σ1 R) (q_wL σ (q_P σ x0 29) x2.toNatClampNeg x3) (fun σ1 e_σ1 => ?_)
      have hV := hV σ1 e_σ1
      refine q_run k_PM_growAskew 66 1 103 rfl ?_
      show q_G l cx M_PM_growAskew 1 64 0 0 103 [(2, .inl (x2 + (1 : Int32))), (1, .inl y0), (0, .inr (.inr x0)), (3, .inr (.inl x3))] [] σ1 R
      refine q_let (fun v5 => q_G l cx M_PM_growAskew 1 64 0 0 103 [(2, .inl v5), (1, .inl y0), (0, .inr (.inr x0)), (3, .inr (.inl x3))] [] σ1 R) (x2 + (1 : Int32)) (fun v5 e_v5 => ?_)
      have hV := hV v5 e_v5
      refine q_goto (q_dc k_PM_growAskew 67 rfl) rfl ?_
      exact q_less (Nat.le_of_ble_eq_true rfl) (Nat.le_of_ble_eq_true rfl) (q_subk [2, 1, 0] rfl hV))
  refine q_run k_PM_growAskew 0 2 2 rfl ?_
  show q_G l cx M_PM_growAskew 1 64 0 0 2 [(1, .inl (1 : Int32)), (0, .inr (.inr x0))] [] σ R
  exact q_less (Nat.le_of_ble_eq_true rfl) (Nat.le_of_ble_eq_true rfl) (q_subk [1, 0] rfl hV)
def V_PM_nextHole (x0 : Nat) (σ : q_S) (R : q_O → q_S → Prop) : Prop :=
  ∀ (P2 : Nat → Int32 → q_S → Prop),
  ∀ (P10 : Nat → Int32 → Int32 → q_S → Prop),
  ∀ (P64 : Nat → Int32 → Int32 → q_S → Prop),
  ∀ (P103 : Nat → Int32 → q_S → Prop),
  ∀ (P108 : Nat → Int32 → Int32 → q_S → Prop),
  ∀ (P111 : Nat → Int32 → Int32 → Int32 → q_S → Prop),
  ∀ (P140 : Nat → Int32 → Int32 → q_S → Prop),
  ∀ (P145 : Nat → Int32 → Int32 → Int32 → q_S → Prop),
  (∀ (x0 : Nat) (x1 : Int32) (σ : q_S), (((x1 = (0 : Int32) → R (.inl (some (.inl (0 : Int32)))) σ) ∧ (¬ (x1 = (0 : Int32)) → P10 x0 (0 : Int32) (0 : Int32) σ))) → P2 x0 x1 σ) →
  (∀ (x0 : Nat) (x1 : Int32) (x2 : Int32) (σ : q_S), ((((24 : Int32) ≤ x2 → ((¬ x1 = (0 : Int32) → q_K σ x0 = 7 ∧ V_PM_growAskew x0 σ (q_cv (fun σ7 => q_K σ7 x0 = 7 ∧ q_K σ7 (q_P σ7 x0 29) = 1001 ∧ vp_in (0 : Int32) (q_Z σ7 (q_P σ7 x0 29)) ∧ ((¬ (lg_cmp (q_L σ7 (q_P σ7 x0 29) (0 : Int32).toNatClampNeg) (0 : Int64)) = (0 : Int32) → P103 x0 x1 σ7) ∧ (¬ (¬ (lg_cmp (q_L σ7 (q_P σ7 x0 29) (0 : Int32).toNatClampNeg) (0 : Int64)) = (0 : Int32)) → q_K σ7 x0 = 7 ∧ q_K σ7 (q_P σ7 x0 29) = 1001 ∧ vp_in (23 : Int32) (q_Z σ7 (q_P σ7 x0 29)) ∧ (((lg_cmp (q_L σ7 (q_P σ7 x0 29) (23 : Int32).toNatClampNeg) (0 : Int64)) = (0 : Int32) → P108 x0 x1 (0 : Int32) σ7) ∧ (¬ ((lg_cmp (q_L σ7 (q_P σ7 x0 29) (23 : Int32).toNatClampNeg) (0 : Int64)) = (0 : Int32)) → P103 x0 x1 σ7))))) (fun n9 σ9 => R (.inr n9) σ9))) ∧ (¬ (¬ x1 = (0 : Int32)) → R (.inl (some (.inl (0 : Int32)))) σ))) ∧ (¬ ((24 : Int32) ≤ x2) → q_K σ x0 = 7 ∧ q_K σ (q_P σ x0 29) = 1001 ∧ vp_in x2 (q_Z σ (q_P σ x0 29)) ∧ ∀ σ16 : q_S, σ16 = q_wL σ (q_P σ x0 29) x2.toNatClampNeg (0 : Int64) → ((¬ x1 = (0 : Int32) → P64 x0 x1 x2 σ16) ∧ (¬ (¬ x1 = (0 : Int32)) → q_K σ16 x0 = 7 ∧ q_K σ16 (q_P σ16 x0 31) = 1001 ∧ vp_in x2 (q_Z σ16 (q_P σ16 x0 31)) ∧ ((¬ (lg_cmp (q_L σ16 (q_P σ16 x0 31) x2.toNatClampNeg) (0 : Int64)) = (0 : Int32) → q_K σ16 x0 = 7 ∧ q_K σ16 x0 = 7 ∧ q_K σ16 (q_P σ16 x0 31) = 1001 ∧ vp_in x2 (q_Z σ16 (q_P σ16 x0 31)) ∧ q_K σ16 x0 = 7 ∧ q_K σ16 (q_P σ16 x0 31) = 1001 ∧ vp_in x2 (q_Z σ16 (q_P σ16 x0 31)) ∧ q_K σ16 (q_P σ16 x0 29) = 1001 ∧ vp_in x2 (q_Z σ16 (q_P σ16 x0 29)) ∧ ∀ σ25 : q_S, σ25 = q_wL σ16 (q_P σ16 x0 29) x2.toNatClampNeg ((q_L σ16 (q_P σ16 x0 31) x2.toNatClampNeg) &&& ((0 : Int64) - (q_L σ16 (q_P σ16 x0 31) x2.toNatClampNeg))) → P64 x0 (1 : Int32) x2 σ25) ∧ (¬ (¬ (lg_cmp (q_L σ16 (q_P σ16 x0 31) x2.toNatClampNeg) (0 : Int64)) = (0 : Int32)) → P64 x0 x1 x2 σ16))))))) → P10 x0 x1 x2 σ) →
  (∀ (x0 : Nat) (x1 : Int32) (x2 : Int32) (σ : q_S), (∀ v1 : Int32, v1 = x2 + (1 : Int32) → P10 x0 x1 v1 σ) → P64 x0 x1 x2 σ) →
  (∀ (x0 : Nat) (x1 : Int32) (σ : q_S), (P108 x0 x1 (1 : Int32) σ) → P103 x0 x1 σ) →
  (∀ (x0 : Nat) (x1 : Int32) (y0 : Int32) (σ : q_S), (P111 x0 x1 y0 (0 : Int32) σ) → P108 x0 x1 y0 σ) →
  (∀ (x0 : Nat) (x1 : Int32) (x2 : Int32) (x3 : Int32) (σ : q_S), ((((24 : Int32) ≤ x3 → ((¬ x2 = (0 : Int32) → P2 x0 x1 σ) ∧ (¬ (¬ x2 = (0 : Int32)) → R (.inl (some (.inl (1 : Int32)))) σ))) ∧ (¬ ((24 : Int32) ≤ x3) → ((¬ x2 = (0 : Int32) → P140 x0 x1 x3 σ) ∧ (¬ (¬ x2 = (0 : Int32)) → q_K σ x0 = 7 ∧ q_K σ (q_P σ x0 29) = 1001 ∧ vp_in x3 (q_Z σ (q_P σ x0 29)) ∧ (((lg_cmp ((q_L σ (q_P σ x0 29) x3.toNatClampNeg) &&& ((1 : Int64) ||| (f_PM_bit (31 : Int32)))) (0 : Int64)) = (0 : Int32) → P145 x0 x1 x3 (0 : Int32) σ) ∧ (¬ ((lg_cmp ((q_L σ (q_P σ x0 29) x3.toNatClampNeg) &&& ((1 : Int64) ||| (f_PM_bit (31 : Int32)))) (0 : Int64)) = (0 : Int32)) → P140 x0 x1 x3 σ))))))) → P111 x0 x1 x2 x3 σ) →
  (∀ (x0 : Nat) (x1 : Int32) (x3 : Int32) (σ : q_S), (P145 x0 x1 x3 (1 : Int32) σ) → P140 x0 x1 x3 σ) →
  (∀ (x0 : Nat) (x1 : Int32) (x3 : Int32) (y0 : Int32) (σ : q_S), (q_K σ x0 = 7 ∧ q_K σ x0 = 7 ∧ q_K σ (q_P σ x0 31) = 1001 ∧ vp_in x3 (q_Z σ (q_P σ x0 31)) ∧ q_K σ x0 = 7 ∧ q_K σ (q_P σ x0 29) = 1001 ∧ vp_in x3 (q_Z σ (q_P σ x0 29)) ∧ q_K σ (q_P σ x0 31) = 1001 ∧ vp_in x3 (q_Z σ (q_P σ x0 31)) ∧ ∀ σ1 : q_S, σ1 = q_wL σ (q_P σ x0 31) x3.toNatClampNeg ((q_L σ (q_P σ x0 31) x3.toNatClampNeg) &&& ((q_L σ (q_P σ x0 29) x3.toNatClampNeg) ^^^ (-1 : Int64))) → ∀ v11 : Int32, v11 = x3 + (1 : Int32) → P111 x0 x1 y0 v11 σ1) → P145 x0 x1 x3 y0 σ) →
  P2 x0 (1 : Int32) σ
set_option maxRecDepth 100000 in
theorem t_PM_nextHole {l : Launch} {cx : q_C} {x0 : Nat} {σ : q_S} {R : q_O → q_S → Prop} (hV : V_PM_nextHole x0 σ R) : q_Ct l cx M_PM_nextHole 2 128 0 0 [q_r x0] σ R := by
  refine q_Ct.of p_PM_nextHole c_PM_nextHole rfl (Nat.le_of_ble_eq_true rfl) ?_
  have hV := hV (fun (x0 : Nat) (x1 : Int32) (σ : q_S) => q_G l cx M_PM_nextHole 2 128 0 0 2 [(0, .inr (.inr x0)), (1, .inl x1)] [] σ R) (fun (x0 : Nat) (x1 : Int32) (x2 : Int32) (σ : q_S) => q_G l cx M_PM_nextHole 2 128 0 0 10 [(0, .inr (.inr x0)), (1, .inl x1), (2, .inl x2)] [] σ R) (fun (x0 : Nat) (x1 : Int32) (x2 : Int32) (σ : q_S) => q_G l cx M_PM_nextHole 2 128 0 0 64 [(0, .inr (.inr x0)), (1, .inl x1), (2, .inl x2)] [] σ R) (fun (x0 : Nat) (x1 : Int32) (σ : q_S) => q_G l cx M_PM_nextHole 2 128 0 0 103 [(0, .inr (.inr x0)), (1, .inl x1)] [] σ R) (fun (x0 : Nat) (x1 : Int32) (y0 : Int32) (σ : q_S) => q_G l cx M_PM_nextHole 2 128 0 0 108 [(0, .inr (.inr x0)), (1, .inl x1)] [.inl y0] σ R) (fun (x0 : Nat) (x1 : Int32) (x2 : Int32) (x3 : Int32) (σ : q_S) => q_G l cx M_PM_nextHole 2 128 0 0 111 [(0, .inr (.inr x0)), (1, .inl x1), (2, .inl x2), (3, .inl x3)] [] σ R) (fun (x0 : Nat) (x1 : Int32) (x3 : Int32) (σ : q_S) => q_G l cx M_PM_nextHole 2 128 0 0 140 [(0, .inr (.inr x0)), (1, .inl x1), (3, .inl x3)] [] σ R) (fun (x0 : Nat) (x1 : Int32) (x3 : Int32) (y0 : Int32) (σ : q_S) => q_G l cx M_PM_nextHole 2 128 0 0 145 [(0, .inr (.inr x0)), (1, .inl x1), (3, .inl x3)] [.inl y0] σ R)
  have hV := hV (by
      intro x0 x1 σ hV
      show q_G l cx M_PM_nextHole 2 128 0 0 2 [(0, .inr (.inr x0)), (1, .inl x1)] [] σ R
      refine q_run k_PM_nextHole 2 1 3 rfl ?_
      show q_G l cx M_PM_nextHole 2 128 0 0 3 [(0, .inr (.inr x0)), (1, .inl x1)] [.inl x1] σ R
      refine q_ifz (q_dc k_PM_nextHole 3 rfl) rfl (fun h1 => ?_) (fun h1 => ?_)
      · have hV := hV.1 h1
        refine q_run k_PM_nextHole 114 1 185 rfl ?_
        show q_G l cx M_PM_nextHole 2 128 0 0 185 [(0, .inr (.inr x0)), (1, .inl x1)] [.inl (0 : Int32)] σ R
        exact q_zreturn (q_dc k_PM_nextHole 115 rfl) rfl (by decide) hV
      · have hV := hV.2 h1
        refine q_run k_PM_nextHole 4 4 10 rfl ?_
        show q_G l cx M_PM_nextHole 2 128 0 0 10 [(2, .inl (0 : Int32)), (1, .inl (0 : Int32)), (0, .inr (.inr x0))] [] σ R
        exact q_less (Nat.le_of_ble_eq_true rfl) (Nat.le_of_ble_eq_true rfl) (q_subk [2, 1, 0] rfl hV))
  have hV := hV (by
      intro x0 x1 x2 σ hV
      show q_G l cx M_PM_nextHole 2 128 0 0 10 [(0, .inr (.inr x0)), (1, .inl x1), (2, .inl x2)] [] σ R
      refine q_run k_PM_nextHole 8 2 13 rfl ?_
      show q_G l cx M_PM_nextHole 2 128 0 0 13 [(0, .inr (.inr x0)), (1, .inl x1), (2, .inl x2)] [.inl (24 : Int32), .inl x2] σ R
      refine q_icmp (q_dc k_PM_nextHole 10 rfl) rfl (fun h1 => ?_) (fun h1 => ?_)
      · have hV := hV.1 h1
        refine q_run k_PM_nextHole 45 1 71 rfl ?_
        show q_G l cx M_PM_nextHole 2 128 0 0 71 [(0, .inr (.inr x0)), (1, .inl x1), (2, .inl x2)] [.inl x1] σ R
        refine q_ifz (q_dc k_PM_nextHole 46 rfl) rfl (fun h2 => ?_) (fun h2 => ?_)
        · have hV := hV.1 h2
          refine q_run k_PM_nextHole 49 1 77 rfl ?_
          show q_G l cx M_PM_nextHole 2 128 0 0 77 [(0, .inr (.inr x0)), (1, .inl x1), (2, .inl x2)] [.inr (.inr x0)] σ R
          obtain ⟨s3, hV⟩ := hV
          refine q_callV (st := []) (as := []) (t_PM_growAskew (l := l) (cx := cx)  hV) (q_dc k_PM_nextHole 50 rfl) (Or.inl (List.mem_of_getElem? (i := 1080) (by decide +kernel))) w_PM_growAskew n_PM_growAskew (ci := 6) rfl e_PM_growAskew a_PM_growAskew (q_wt (Nat.le_of_ble_eq_true rfl)) ⟨Nat.le_of_ble_eq_true rfl, Nat.le_of_ble_eq_true rfl⟩ s3 (fun v9 τ9 q9 => ?_) (fun n9 τ9 q9 => q_T.leave rfl q9)
          obtain ⟨rfl, hV⟩ := q_cv_elim q9
          clear q9
          have hV := hV
          revert hV
          generalize τ9 = σ7
          intro hV
          show q_G l cx M_PM_nextHole 2 128 0 0 80 [(0, .inr (.inr x0)), (1, .inl x1), (2, .inl x2)] [] σ7 R
          refine q_run k_PM_nextHole 51 6 88 rfl ?_
          show q_K σ7 x0 = 7 ∧ q_K σ7 (q_P σ7 x0 29) = 1001 ∧ vp_in (0 : Int32) (q_Z σ7 (q_P σ7 x0 29)) ∧ q_G l cx M_PM_nextHole 2 128 0 0 88 [(0, .inr (.inr x0)), (1, .inl x1), (2, .inl x2)] [.inl (lg_cmp (q_L σ7 (q_P σ7 x0 29) (0 : Int32).toNatClampNeg) (0 : Int64))] σ7 R
          obtain ⟨s8, s9, s10, hV⟩ := hV
          refine ⟨s8, s9, s10, ?_⟩
          refine q_ifz (q_dc k_PM_nextHole 57 rfl) rfl (fun h11 => ?_) (fun h11 => ?_)
          · have hV := hV.1 h11
            exact q_less (Nat.le_of_ble_eq_true rfl) (Nat.le_of_ble_eq_true rfl) (q_subk [0, 1] rfl hV)
          · have hV := hV.2 h11
            refine q_run k_PM_nextHole 58 6 100 rfl ?_
            show q_K σ7 x0 = 7 ∧ q_K σ7 (q_P σ7 x0 29) = 1001 ∧ vp_in (23 : Int32) (q_Z σ7 (q_P σ7 x0 29)) ∧ q_G l cx M_PM_nextHole 2 128 0 0 100 [(0, .inr (.inr x0)), (1, .inl x1), (2, .inl x2)] [.inl (lg_cmp (q_L σ7 (q_P σ7 x0 29) (23 : Int32).toNatClampNeg) (0 : Int64))] σ7 R
            obtain ⟨s12, s13, s14, hV⟩ := hV
            refine ⟨s12, s13, s14, ?_⟩
            refine q_ifz (q_dc k_PM_nextHole 64 rfl) rfl (fun h15 => ?_) (fun h15 => ?_)
            · have hV := hV.1 h15
              refine q_run k_PM_nextHole 67 1 108 rfl ?_
              show q_G l cx M_PM_nextHole 2 128 0 0 108 [(0, .inr (.inr x0)), (1, .inl x1), (2, .inl x2)] [.inl (0 : Int32)] σ7 R
              exact q_less (Nat.le_of_ble_eq_true rfl) (Nat.le_of_ble_eq_true rfl) (q_subk [0, 1] rfl hV)
            · have hV := hV.2 h15
              exact q_less (Nat.le_of_ble_eq_true rfl) (Nat.le_of_ble_eq_true rfl) (q_subk [0, 1] rfl hV)
        · have hV := hV.2 h2
          refine q_run k_PM_nextHole 47 1 75 rfl ?_
          show q_G l cx M_PM_nextHole 2 128 0 0 75 [(0, .inr (.inr x0)), (1, .inl x1), (2, .inl x2)] [.inl (0 : Int32)] σ R
          exact q_zreturn (q_dc k_PM_nextHole 48 rfl) rfl (by decide) hV
      · have hV := hV.2 h1
        refine q_run k_PM_nextHole 11 5 23 rfl ?_
        show q_K σ x0 = 7 ∧ q_K σ (q_P σ x0 29) = 1001 ∧ vp_in x2 (q_Z σ (q_P σ x0 29)) ∧ q_G l cx M_PM_nextHole 2 128 0 0 23 [(0, .inr (.inr x0)), (1, .inl x1), (2, .inl x2)] [] (q_wL σ (q_P σ x0 29) x2.toNatClampNeg (0 : Int64)) R
        obtain ⟨s17, s18, s19, hV⟩ := hV
        refine ⟨s17, s18, s19, ?_⟩
        refine q_let (fun σ16 => q_G l cx M_PM_nextHole 2 128 0 0 23 [(0, .inr (.inr x0)), (1, .inl x1), (2, .inl x2)] [] σ16 R) (q_wL σ (q_P σ x0 29) x2.toNatClampNeg (0 : Int64)) (fun σ16 e_σ16 => ?_)
        have hV := hV σ16 e_σ16
        refine q_run k_PM_nextHole 16 1 24 rfl ?_
        show q_G l cx M_PM_nextHole 2 128 0 0 24 [(0, .inr (.inr x0)), (1, .inl x1), (2, .inl x2)] [.inl x1] σ16 R
        refine q_ifz (q_dc k_PM_nextHole 17 rfl) rfl (fun h20 => ?_) (fun h20 => ?_)
        · have hV := hV.1 h20
          exact q_less (Nat.le_of_ble_eq_true rfl) (Nat.le_of_ble_eq_true rfl) (q_subk [0, 1, 2] rfl hV)
        · have hV := hV.2 h20
          refine q_run k_PM_nextHole 18 6 35 rfl ?_
          show q_K σ16 x0 = 7 ∧ q_K σ16 (q_P σ16 x0 31) = 1001 ∧ vp_in x2 (q_Z σ16 (q_P σ16 x0 31)) ∧ q_G l cx M_PM_nextHole 2 128 0 0 35 [(0, .inr (.inr x0)), (1, .inl x1), (2, .inl x2)] [.inl (lg_cmp (q_L σ16 (q_P σ16 x0 31) x2.toNatClampNeg) (0 : Int64))] σ16 R
          obtain ⟨s21, s22, s23, hV⟩ := hV
          refine ⟨s21, s22, s23, ?_⟩
          refine q_ifz (q_dc k_PM_nextHole 24 rfl) rfl (fun h24 => ?_) (fun h24 => ?_)
          · have hV := hV.1 h24
            refine q_run k_PM_nextHole 26 15 62 rfl ?_
            show q_K σ16 x0 = 7 ∧ q_K σ16 x0 = 7 ∧ q_K σ16 (q_P σ16 x0 31) = 1001 ∧ vp_in x2 (q_Z σ16 (q_P σ16 x0 31)) ∧ q_K σ16 x0 = 7 ∧ q_K σ16 (q_P σ16 x0 31) = 1001 ∧ vp_in x2 (q_Z σ16 (q_P σ16 x0 31)) ∧ q_K σ16 (q_P σ16 x0 29) = 1001 ∧ vp_in x2 (q_Z σ16 (q_P σ16 x0 29)) ∧ q_G l cx M_PM_nextHole 2 128 0 0 62 [(0, .inr (.inr x0)), (1, .inl x1), (2, .inl x2)] [] (q_wL σ16 (q_P σ16 x0 29) x2.toNatClampNeg ((q_L σ16 (q_P σ16 x0 31) x2.toNatClampNeg) &&& ((0 : Int64) - (q_L σ16 (q_P σ16 x0 31) x2.toNatClampNeg)))) R
            obtain ⟨s26, s27, s28, s29, s30, s31, s32, s33, s34, hV⟩ := hV
            refine ⟨s26, s27, s28, s29, s30, s31, s32, s33, s34, ?_⟩
            refine q_let (fun σ25 => q_G l cx M_PM_nextHole 2 128 0 0 62 [(0, .inr (.inr x0)), (1, .inl x1), (2, .inl x2)] [] σ25 R) (q_wL σ16 (q_P σ16 x0 29) x2.toNatClampNeg ((q_L σ16 (q_P σ16 x0 31) x2.toNatClampNeg) &&& ((0 : Int64) - (q_L σ16 (q_P σ16 x0 31) x2.toNatClampNeg)))) (fun σ25 e_σ25 => ?_)
            have hV := hV σ25 e_σ25
            refine q_run k_PM_nextHole 41 2 64 rfl ?_
            show q_G l cx M_PM_nextHole 2 128 0 0 64 [(1, .inl (1 : Int32)), (0, .inr (.inr x0)), (2, .inl x2)] [] σ25 R
            exact q_less (Nat.le_of_ble_eq_true rfl) (Nat.le_of_ble_eq_true rfl) (q_subk [1, 0, 2] rfl hV)
          · have hV := hV.2 h24
            refine q_goto (q_dc k_PM_nextHole 25 rfl) rfl ?_
            exact q_less (Nat.le_of_ble_eq_true rfl) (Nat.le_of_ble_eq_true rfl) (q_subk [0, 1, 2] rfl hV))
  have hV := hV (by
      intro x0 x1 x2 σ hV
      show q_G l cx M_PM_nextHole 2 128 0 0 64 [(0, .inr (.inr x0)), (1, .inl x1), (2, .inl x2)] [] σ R
      refine q_run k_PM_nextHole 43 1 67 rfl ?_
      show q_G l cx M_PM_nextHole 2 128 0 0 67 [(2, .inl (x2 + (1 : Int32))), (0, .inr (.inr x0)), (1, .inl x1)] [] σ R
      refine q_let (fun v1 => q_G l cx M_PM_nextHole 2 128 0 0 67 [(2, .inl v1), (0, .inr (.inr x0)), (1, .inl x1)] [] σ R) (x2 + (1 : Int32)) (fun v1 e_v1 => ?_)
      have hV := hV v1 e_v1
      refine q_goto (q_dc k_PM_nextHole 44 rfl) rfl ?_
      exact q_less (Nat.le_of_ble_eq_true rfl) (Nat.le_of_ble_eq_true rfl) (q_subk [1, 2, 0] rfl hV))
  have hV := hV (by
      intro x0 x1 σ hV
      show q_G l cx M_PM_nextHole 2 128 0 0 103 [(0, .inr (.inr x0)), (1, .inl x1)] [] σ R
      refine q_run k_PM_nextHole 65 1 104 rfl ?_
      show q_G l cx M_PM_nextHole 2 128 0 0 104 [(0, .inr (.inr x0)), (1, .inl x1)] [.inl (1 : Int32)] σ R
      refine q_goto (q_dc k_PM_nextHole 66 rfl) rfl ?_
      exact q_less (Nat.le_of_ble_eq_true rfl) (Nat.le_of_ble_eq_true rfl) (q_subk [0, 1] rfl hV))
  have hV := hV (by
      intro x0 x1 y0 σ hV
      show q_G l cx M_PM_nextHole 2 128 0 0 108 [(0, .inr (.inr x0)), (1, .inl x1)] [.inl y0] σ R
      refine q_run k_PM_nextHole 68 3 111 rfl ?_
      show q_G l cx M_PM_nextHole 2 128 0 0 111 [(3, .inl (0 : Int32)), (2, .inl y0), (0, .inr (.inr x0)), (1, .inl x1)] [] σ R
      exact q_less (Nat.le_of_ble_eq_true rfl) (Nat.le_of_ble_eq_true rfl) (q_subk [2, 3, 1, 0] rfl hV))
  have hV := hV (by
      intro x0 x1 x2 x3 σ hV
      show q_G l cx M_PM_nextHole 2 128 0 0 111 [(0, .inr (.inr x0)), (1, .inl x1), (2, .inl x2), (3, .inl x3)] [] σ R
      refine q_run k_PM_nextHole 71 2 114 rfl ?_
      show q_G l cx M_PM_nextHole 2 128 0 0 114 [(0, .inr (.inr x0)), (1, .inl x1), (2, .inl x2), (3, .inl x3)] [.inl (24 : Int32), .inl x3] σ R
      refine q_icmp (q_dc k_PM_nextHole 73 rfl) rfl (fun h1 => ?_) (fun h1 => ?_)
      · have hV := hV.1 h1
        refine q_run k_PM_nextHole 109 1 176 rfl ?_
        show q_G l cx M_PM_nextHole 2 128 0 0 176 [(0, .inr (.inr x0)), (1, .inl x1), (2, .inl x2), (3, .inl x3)] [.inl x2] σ R
        refine q_ifz (q_dc k_PM_nextHole 110 rfl) rfl (fun h2 => ?_) (fun h2 => ?_)
        · have hV := hV.1 h2
          refine q_goto (q_dc k_PM_nextHole 113 rfl) rfl ?_
          exact q_less (Nat.le_of_ble_eq_true rfl) (Nat.le_of_ble_eq_true rfl) (q_subk [0, 1] rfl hV)
        · have hV := hV.2 h2
          refine q_run k_PM_nextHole 111 1 180 rfl ?_
          show q_G l cx M_PM_nextHole 2 128 0 0 180 [(0, .inr (.inr x0)), (1, .inl x1), (2, .inl x2), (3, .inl x3)] [.inl (1 : Int32)] σ R
          exact q_zreturn (q_dc k_PM_nextHole 112 rfl) rfl (by decide) hV
      · have hV := hV.2 h1
        refine q_run k_PM_nextHole 74 1 118 rfl ?_
        show q_G l cx M_PM_nextHole 2 128 0 0 118 [(0, .inr (.inr x0)), (1, .inl x1), (2, .inl x2), (3, .inl x3)] [.inl x2] σ R
        refine q_ifz (q_dc k_PM_nextHole 75 rfl) rfl (fun h3 => ?_) (fun h3 => ?_)
        · have hV := hV.1 h3
          exact q_less (Nat.le_of_ble_eq_true rfl) (Nat.le_of_ble_eq_true rfl) (q_subk [0, 1, 3] rfl hV)
        · have hV := hV.2 h3
          refine q_run k_PM_nextHole 76 6 130 rfl ?_
          show q_K σ x0 = 7 ∧ q_K σ (q_P σ x0 29) = 1001 ∧ vp_in x3 (q_Z σ (q_P σ x0 29)) ∧ q_G l cx M_PM_nextHole 2 128 0 0 130 [(0, .inr (.inr x0)), (1, .inl x1), (2, .inl x2), (3, .inl x3)] [.inl (31 : Int32), .inr (.inl (1 : Int64)), .inr (.inl (q_L σ (q_P σ x0 29) x3.toNatClampNeg))] σ R
          obtain ⟨s4, s5, s6, hV⟩ := hV
          refine ⟨s4, s5, s6, ?_⟩
          refine q_callS (st := [.inr (.inl (1 : Int64)), .inr (.inl (q_L σ (q_P σ x0 29) x3.toNatClampNeg))]) (t_PM_bit (l := l) (cx := cx) (σ := σ) (31 : Int32)) (q_dc k_PM_nextHole 82 rfl) (Or.inl (List.mem_of_getElem? (i := 1007) (by decide +kernel))) w_PM_bit s_PM_bit a_PM_bit (q_wt (Nat.le_of_ble_eq_true rfl)) ⟨Nat.le_of_ble_eq_true rfl, Nat.le_of_ble_eq_true rfl⟩ (fun v9 τ9 q9 => ?_) (fun n9 τ9 q9 => by cases q9.1)
          obtain ⟨q8, q7⟩ := q9
          cases q8
          rw [q7]
          show q_G l cx M_PM_nextHole 2 128 0 0 133 [(0, .inr (.inr x0)), (1, .inl x1), (2, .inl x2), (3, .inl x3)] [.inr (.inl (f_PM_bit (31 : Int32))), .inr (.inl (1 : Int64)), .inr (.inl (q_L σ (q_P σ x0 29) x3.toNatClampNeg))] σ R
          refine q_run k_PM_nextHole 83 4 137 rfl ?_
          show q_G l cx M_PM_nextHole 2 128 0 0 137 [(0, .inr (.inr x0)), (1, .inl x1), (2, .inl x2), (3, .inl x3)] [.inl (lg_cmp ((q_L σ (q_P σ x0 29) x3.toNatClampNeg) &&& ((1 : Int64) ||| (f_PM_bit (31 : Int32)))) (0 : Int64))] σ R
          refine q_ifz (q_dc k_PM_nextHole 87 rfl) rfl (fun h7 => ?_) (fun h7 => ?_)
          · have hV := hV.1 h7
            refine q_run k_PM_nextHole 90 1 145 rfl ?_
            show q_G l cx M_PM_nextHole 2 128 0 0 145 [(0, .inr (.inr x0)), (1, .inl x1), (2, .inl x2), (3, .inl x3)] [.inl (0 : Int32)] σ R
            exact q_less (Nat.le_of_ble_eq_true rfl) (Nat.le_of_ble_eq_true rfl) (q_subk [0, 1, 3] rfl hV)
          · have hV := hV.2 h7
            exact q_less (Nat.le_of_ble_eq_true rfl) (Nat.le_of_ble_eq_true rfl) (q_subk [0, 1, 3] rfl hV))
  have hV := hV (by
      intro x0 x1 x3 σ hV
      show q_G l cx M_PM_nextHole 2 128 0 0 140 [(0, .inr (.inr x0)), (1, .inl x1), (3, .inl x3)] [] σ R
      refine q_run k_PM_nextHole 88 1 141 rfl ?_
      show q_G l cx M_PM_nextHole 2 128 0 0 141 [(0, .inr (.inr x0)), (1, .inl x1), (3, .inl x3)] [.inl (1 : Int32)] σ R
      refine q_goto (q_dc k_PM_nextHole 89 rfl) rfl ?_
      exact q_less (Nat.le_of_ble_eq_true rfl) (Nat.le_of_ble_eq_true rfl) (q_subk [0, 1, 2] rfl hV))
  have hV := hV (by
      intro x0 x1 x3 y0 σ hV
      show q_G l cx M_PM_nextHole 2 128 0 0 145 [(0, .inr (.inr x0)), (1, .inl x1), (3, .inl x3)] [.inl y0] σ R
      refine q_run k_PM_nextHole 91 16 169 rfl ?_
      show q_K σ x0 = 7 ∧ q_K σ x0 = 7 ∧ q_K σ (q_P σ x0 31) = 1001 ∧ vp_in x3 (q_Z σ (q_P σ x0 31)) ∧ q_K σ x0 = 7 ∧ q_K σ (q_P σ x0 29) = 1001 ∧ vp_in x3 (q_Z σ (q_P σ x0 29)) ∧ q_K σ (q_P σ x0 31) = 1001 ∧ vp_in x3 (q_Z σ (q_P σ x0 31)) ∧ q_G l cx M_PM_nextHole 2 128 0 0 169 [(2, .inl y0), (0, .inr (.inr x0)), (1, .inl x1), (3, .inl x3)] [] (q_wL σ (q_P σ x0 31) x3.toNatClampNeg ((q_L σ (q_P σ x0 31) x3.toNatClampNeg) &&& ((q_L σ (q_P σ x0 29) x3.toNatClampNeg) ^^^ (-1 : Int64)))) R
      obtain ⟨s2, s3, s4, s5, s6, s7, s8, s9, s10, hV⟩ := hV
      refine ⟨s2, s3, s4, s5, s6, s7, s8, s9, s10, ?_⟩
      refine q_let (fun σ1 => q_G l cx M_PM_nextHole 2 128 0 0 169 [(2, .inl y0), (0, .inr (.inr x0)), (1, .inl x1), (3, .inl x3)] [] σ1 R) (q_wL σ (q_P σ x0 31) x3.toNatClampNeg ((q_L σ (q_P σ x0 31) x3.toNatClampNeg) &&& ((q_L σ (q_P σ x0 29) x3.toNatClampNeg) ^^^ (-1 : Int64)))) (fun σ1 e_σ1 => ?_)
      have hV := hV σ1 e_σ1
      refine q_run k_PM_nextHole 107 1 172 rfl ?_
      show q_G l cx M_PM_nextHole 2 128 0 0 172 [(3, .inl (x3 + (1 : Int32))), (2, .inl y0), (0, .inr (.inr x0)), (1, .inl x1)] [] σ1 R
      refine q_let (fun v11 => q_G l cx M_PM_nextHole 2 128 0 0 172 [(3, .inl v11), (2, .inl y0), (0, .inr (.inr x0)), (1, .inl x1)] [] σ1 R) (x3 + (1 : Int32)) (fun v11 e_v11 => ?_)
      have hV := hV v11 e_v11
      refine q_goto (q_dc k_PM_nextHole 108 rfl) rfl ?_
      exact q_less (Nat.le_of_ble_eq_true rfl) (Nat.le_of_ble_eq_true rfl) (q_subk [2, 3, 1, 0] rfl hV))
  refine q_run k_PM_nextHole 0 2 2 rfl ?_
  show q_G l cx M_PM_nextHole 2 128 0 0 2 [(1, .inl (1 : Int32)), (0, .inr (.inr x0))] [] σ R
  exact q_less (Nat.le_of_ble_eq_true rfl) (Nat.le_of_ble_eq_true rfl) (q_subk [1, 0] rfl hV)
def V_PM_takeOutside (x0 : Nat) (σ : q_S) (R : q_O → q_S → Prop) : Prop :=
  ∀ (P2 : Nat → Int32 → q_S → Prop),
  (∀ (x0 : Nat) (x1 : Int32) (σ : q_S), ((((24 : Int32) ≤ x1 → R (.inl none) σ) ∧ (¬ ((24 : Int32) ≤ x1) → q_K σ x0 = 7 ∧ q_K σ x0 = 7 ∧ q_K σ (q_P σ x0 29) = 1001 ∧ vp_in x1 (q_Z σ (q_P σ x0 29)) ∧ q_K σ (q_P σ x0 31) = 1001 ∧ vp_in x1 (q_Z σ (q_P σ x0 31)) ∧ ∀ σ2 : q_S, σ2 = q_wL σ (q_P σ x0 31) x1.toNatClampNeg ((4294967295 : Int64) &&& ((q_L σ (q_P σ x0 29) x1.toNatClampNeg) ^^^ (-1 : Int64))) → ∀ v9 : Int32, v9 = x1 + (1 : Int32) → P2 x0 v9 σ2))) → P2 x0 x1 σ) →
  P2 x0 (0 : Int32) σ
set_option maxRecDepth 100000 in
theorem t_PM_takeOutside {l : Launch} {cx : q_C} {x0 : Nat} {σ : q_S} {R : q_O → q_S → Prop} (hV : V_PM_takeOutside x0 σ R) : q_Ct l cx M_PM_takeOutside 0 0 0 0 [q_r x0] σ R := by
  refine q_Ct.of p_PM_takeOutside c_PM_takeOutside rfl (Nat.le_of_ble_eq_true rfl) ?_
  have hV := hV (fun (x0 : Nat) (x1 : Int32) (σ : q_S) => q_G l cx M_PM_takeOutside 0 0 0 0 2 [(0, .inr (.inr x0)), (1, .inl x1)] [] σ R)
  have hV := hV (by
      intro x0 x1 σ hV
      show q_G l cx M_PM_takeOutside 0 0 0 0 2 [(0, .inr (.inr x0)), (1, .inl x1)] [] σ R
      refine q_run k_PM_takeOutside 2 2 5 rfl ?_
      show q_G l cx M_PM_takeOutside 0 0 0 0 5 [(0, .inr (.inr x0)), (1, .inl x1)] [.inl (24 : Int32), .inl x1] σ R
      refine q_icmp (q_dc k_PM_takeOutside 4 rfl) rfl (fun h1 => ?_) (fun h1 => ?_)
      · have hV := hV.1 h1
        exact q_vreturn (q_dc k_PM_takeOutside 19 rfl) rfl hV
      · have hV := hV.2 h1
        refine q_run k_PM_takeOutside 5 12 28 rfl ?_
        show q_K σ x0 = 7 ∧ q_K σ x0 = 7 ∧ q_K σ (q_P σ x0 29) = 1001 ∧ vp_in x1 (q_Z σ (q_P σ x0 29)) ∧ q_K σ (q_P σ x0 31) = 1001 ∧ vp_in x1 (q_Z σ (q_P σ x0 31)) ∧ q_G l cx M_PM_takeOutside 0 0 0 0 28 [(0, .inr (.inr x0)), (1, .inl x1)] [] (q_wL σ (q_P σ x0 31) x1.toNatClampNeg ((4294967295 : Int64) &&& ((q_L σ (q_P σ x0 29) x1.toNatClampNeg) ^^^ (-1 : Int64)))) R
        obtain ⟨s3, s4, s5, s6, s7, s8, hV⟩ := hV
        refine ⟨s3, s4, s5, s6, s7, s8, ?_⟩
        refine q_let (fun σ2 => q_G l cx M_PM_takeOutside 0 0 0 0 28 [(0, .inr (.inr x0)), (1, .inl x1)] [] σ2 R) (q_wL σ (q_P σ x0 31) x1.toNatClampNeg ((4294967295 : Int64) &&& ((q_L σ (q_P σ x0 29) x1.toNatClampNeg) ^^^ (-1 : Int64)))) (fun σ2 e_σ2 => ?_)
        have hV := hV σ2 e_σ2
        refine q_run k_PM_takeOutside 17 1 31 rfl ?_
        show q_G l cx M_PM_takeOutside 0 0 0 0 31 [(1, .inl (x1 + (1 : Int32))), (0, .inr (.inr x0))] [] σ2 R
        refine q_let (fun v9 => q_G l cx M_PM_takeOutside 0 0 0 0 31 [(1, .inl v9), (0, .inr (.inr x0))] [] σ2 R) (x1 + (1 : Int32)) (fun v9 e_v9 => ?_)
        have hV := hV v9 e_v9
        refine q_goto (q_dc k_PM_takeOutside 18 rfl) rfl ?_
        exact q_less (Nat.le_of_ble_eq_true rfl) (Nat.le_of_ble_eq_true rfl) (q_subk [1, 0] rfl hV))
  refine q_run k_PM_takeOutside 0 2 2 rfl ?_
  show q_G l cx M_PM_takeOutside 0 0 0 0 2 [(1, .inl (0 : Int32)), (0, .inr (.inr x0))] [] σ R
  exact q_less (Nat.le_of_ble_eq_true rfl) (Nat.le_of_ble_eq_true rfl) (q_subk [1, 0] rfl hV)
def V_PM_rings (x0 : Nat) (x1 : Int32) (x2 : Int32) (σ : q_S) (R : q_O → q_S → Prop) : Prop :=
  ∀ (P15 : Nat → Int32 → Nat → q_S → Prop),
  ∀ (P33 : Nat → Int32 → q_S → Prop),
  (∀ (x0 : Nat) (y0 : Int32) (y1 : Nat) (σ : q_S), (q_K σ y1 = 7 ∧ ∀ σ1 : q_S, σ1 = q_wI σ y1 0 y0 → q_K σ1 x0 = 7 ∧ (((q_I σ1 x0 0) = (0 : Int32) → q_K σ1 x0 = 7 ∧ V_PM_takeOutside x0 σ1 (q_cv (fun σ9 => P33 x0 (1 : Int32) σ9) (fun n9 σ9 => R (.inr n9) σ9))) ∧ (¬ ((q_I σ1 x0 0) = (0 : Int32)) → R (.inl (some (.inl (0 : Int32)))) σ1))) → P15 x0 y0 y1 σ) →
  (∀ (x0 : Nat) (x3 : Int32) (σ : q_S), (q_K σ x0 = 7 ∧ V_PM_nextHole x0 σ (q_ci (fun v4 σ5 => ((v4 = (0 : Int32) → R (.inl (some (.inl x3))) σ5) ∧ (¬ (v4 = (0 : Int32)) → ∀ v7 : Int32, v7 = x3 + (1 : Int32) → P33 x0 v7 σ5))) (fun n9 σ9 => R (.inr n9) σ9))) → P33 x0 x3 σ) →
  q_K σ x0 = 7 ∧ V_PM_findPiece x0 x1 x2 σ (q_ci (fun v4 σ5 => ((v4 = (0 : Int32) → P15 x0 (1 : Int32) x0 σ5) ∧ (¬ (v4 = (0 : Int32)) → P15 x0 (0 : Int32) x0 σ5))) (fun n9 σ9 => R (.inr n9) σ9))
set_option maxRecDepth 100000 in
theorem t_PM_rings {l : Launch} {cx : q_C} {x0 : Nat} {x1 : Int32} {x2 : Int32} {σ : q_S} {R : q_O → q_S → Prop} (hV : V_PM_rings x0 x1 x2 σ R) : q_Ct l cx M_PM_rings 3 192 0 0 [q_r x0, q_i x1, q_i x2] σ R := by
  refine q_Ct.of p_PM_rings c_PM_rings rfl (Nat.le_of_ble_eq_true rfl) ?_
  have hV := hV (fun (x0 : Nat) (y0 : Int32) (y1 : Nat) (σ : q_S) => q_G l cx M_PM_rings 3 192 0 0 15 [(0, .inr (.inr x0))] [.inl y0, .inr (.inr y1)] σ R) (fun (x0 : Nat) (x3 : Int32) (σ : q_S) => q_G l cx M_PM_rings 3 192 0 0 33 [(0, .inr (.inr x0)), (3, .inl x3)] [] σ R)
  have hV := hV (by
      intro x0 y0 y1 σ hV
      show q_G l cx M_PM_rings 3 192 0 0 15 [(0, .inr (.inr x0))] [.inl y0, .inr (.inr y1)] σ R
      refine q_run k_PM_rings 9 1 18 rfl ?_
      show q_K σ y1 = 7 ∧ q_G l cx M_PM_rings 3 192 0 0 18 [(0, .inr (.inr x0))] [] (q_wI σ y1 0 y0) R
      obtain ⟨s2, hV⟩ := hV
      refine ⟨s2, ?_⟩
      refine q_let (fun σ1 => q_G l cx M_PM_rings 3 192 0 0 18 [(0, .inr (.inr x0))] [] σ1 R) (q_wI σ y1 0 y0) (fun σ1 e_σ1 => ?_)
      have hV := hV σ1 e_σ1
      refine q_run k_PM_rings 10 2 22 rfl ?_
      show q_K σ1 x0 = 7 ∧ q_G l cx M_PM_rings 3 192 0 0 22 [(0, .inr (.inr x0))] [.inl (q_I σ1 x0 0)] σ1 R
      obtain ⟨s3, hV⟩ := hV
      refine ⟨s3, ?_⟩
      refine q_ifz (q_dc k_PM_rings 12 rfl) rfl (fun h4 => ?_) (fun h4 => ?_)
      · have hV := hV.1 h4
        refine q_run k_PM_rings 15 1 28 rfl ?_
        show q_G l cx M_PM_rings 3 192 0 0 28 [(0, .inr (.inr x0))] [.inr (.inr x0)] σ1 R
        obtain ⟨s5, hV⟩ := hV
        refine q_callV (st := []) (as := []) (t_PM_takeOutside (l := l) (cx := cx)  hV) (q_dc k_PM_rings 16 rfl) (Or.inl (List.mem_of_getElem? (i := 1074) (by decide +kernel))) w_PM_takeOutside n_PM_takeOutside (ci := 6) rfl e_PM_takeOutside a_PM_takeOutside (q_wt (Nat.le_of_ble_eq_true rfl)) ⟨Nat.le_of_ble_eq_true rfl, Nat.le_of_ble_eq_true rfl⟩ s5 (fun v9 τ9 q9 => ?_) (fun n9 τ9 q9 => q_T.leave rfl q9)
        obtain ⟨rfl, hV⟩ := q_cv_elim q9
        clear q9
        have hV := hV
        revert hV
        generalize τ9 = σ9
        intro hV
        show q_G l cx M_PM_rings 3 192 0 0 31 [(0, .inr (.inr x0))] [] σ9 R
        refine q_run k_PM_rings 17 2 33 rfl ?_
        show q_G l cx M_PM_rings 3 192 0 0 33 [(3, .inl (1 : Int32)), (0, .inr (.inr x0))] [] σ9 R
        exact q_less (Nat.le_of_ble_eq_true rfl) (Nat.le_of_ble_eq_true rfl) (q_subk [1, 0] rfl hV)
      · have hV := hV.2 h4
        refine q_run k_PM_rings 13 1 26 rfl ?_
        show q_G l cx M_PM_rings 3 192 0 0 26 [(0, .inr (.inr x0))] [.inl (0 : Int32)] σ1 R
        exact q_ireturn (q_dc k_PM_rings 14 rfl) rfl hV)
  have hV := hV (by
      intro x0 x3 σ hV
      show q_G l cx M_PM_rings 3 192 0 0 33 [(0, .inr (.inr x0)), (3, .inl x3)] [] σ R
      refine q_run k_PM_rings 19 1 34 rfl ?_
      show q_G l cx M_PM_rings 3 192 0 0 34 [(0, .inr (.inr x0)), (3, .inl x3)] [.inr (.inr x0)] σ R
      obtain ⟨s1, hV⟩ := hV
      refine q_callV (st := []) (as := []) (t_PM_nextHole (l := l) (cx := cx)  hV) (q_dc k_PM_rings 20 rfl) (Or.inl (List.mem_of_getElem? (i := 1077) (by decide +kernel))) w_PM_nextHole n_PM_nextHole (ci := 6) rfl e_PM_nextHole a_PM_nextHole (q_wt (Nat.le_of_ble_eq_true rfl)) ⟨Nat.le_of_ble_eq_true rfl, Nat.le_of_ble_eq_true rfl⟩ s1 (fun v9 τ9 q9 => ?_) (fun n9 τ9 q9 => q_T.leave rfl q9)
      obtain ⟨v4, rfl, hV⟩ := q_ci_elim q9
      clear q9
      have hV := hV
      revert hV
      generalize τ9 = σ5
      intro hV
      show q_G l cx M_PM_rings 3 192 0 0 37 [(0, .inr (.inr x0)), (3, .inl x3)] [.inl v4] σ5 R
      refine q_ifz (q_dc k_PM_rings 21 rfl) rfl (fun h6 => ?_) (fun h6 => ?_)
      · have hV := hV.1 h6
        refine q_run k_PM_rings 24 1 47 rfl ?_
        show q_G l cx M_PM_rings 3 192 0 0 47 [(0, .inr (.inr x0)), (3, .inl x3)] [.inl x3] σ5 R
        exact q_ireturn (q_dc k_PM_rings 25 rfl) rfl hV
      · have hV := hV.2 h6
        refine q_run k_PM_rings 22 1 43 rfl ?_
        show q_G l cx M_PM_rings 3 192 0 0 43 [(3, .inl (x3 + (1 : Int32))), (0, .inr (.inr x0))] [] σ5 R
        refine q_let (fun v7 => q_G l cx M_PM_rings 3 192 0 0 43 [(3, .inl v7), (0, .inr (.inr x0))] [] σ5 R) (x3 + (1 : Int32)) (fun v7 e_v7 => ?_)
        have hV := hV v7 e_v7
        refine q_goto (q_dc k_PM_rings 23 rfl) rfl ?_
        exact q_less (Nat.le_of_ble_eq_true rfl) (Nat.le_of_ble_eq_true rfl) (q_subk [1, 0] rfl hV))
  refine q_run k_PM_rings 0 4 4 rfl ?_
  show q_G l cx M_PM_rings 3 192 0 0 4 [(0, .inr (.inr x0)), (1, .inl x1), (2, .inl x2)] [.inl x2, .inl x1, .inr (.inr x0), .inr (.inr x0)] σ R
  obtain ⟨s1, hV⟩ := hV
  refine q_callV (st := [.inr (.inr x0)]) (as := [.inl x1, .inl x2]) (t_PM_findPiece (l := l) (cx := cx)  hV) (q_dc k_PM_rings 4 rfl) (Or.inl (List.mem_of_getElem? (i := 1071) (by decide +kernel))) w_PM_findPiece n_PM_findPiece (ci := 6) rfl e_PM_findPiece a_PM_findPiece (q_wt (Nat.le_of_ble_eq_true rfl)) ⟨Nat.le_of_ble_eq_true rfl, Nat.le_of_ble_eq_true rfl⟩ s1 (fun v9 τ9 q9 => ?_) (fun n9 τ9 q9 => q_T.leave rfl q9)
  obtain ⟨v4, rfl, hV⟩ := q_ci_elim q9
  clear q9
  have hV := hV
  revert hV
  generalize τ9 = σ5
  intro hV
  show q_G l cx M_PM_rings 3 192 0 0 7 [(0, .inr (.inr x0)), (1, .inl x1), (2, .inl x2)] [.inl v4, .inr (.inr x0)] σ5 R
  refine q_ifz (q_dc k_PM_rings 5 rfl) rfl (fun h6 => ?_) (fun h6 => ?_)
  · have hV := hV.1 h6
    refine q_run k_PM_rings 8 1 15 rfl ?_
    show q_G l cx M_PM_rings 3 192 0 0 15 [(0, .inr (.inr x0)), (1, .inl x1), (2, .inl x2)] [.inl (1 : Int32), .inr (.inr x0)] σ5 R
    exact q_less (Nat.le_of_ble_eq_true rfl) (Nat.le_of_ble_eq_true rfl) (q_subk [0] rfl hV)
  · have hV := hV.2 h6
    refine q_run k_PM_rings 6 1 11 rfl ?_
    show q_G l cx M_PM_rings 3 192 0 0 11 [(0, .inr (.inr x0)), (1, .inl x1), (2, .inl x2)] [.inl (0 : Int32), .inr (.inr x0)] σ5 R
    refine q_goto (q_dc k_PM_rings 7 rfl) rfl ?_
    exact q_less (Nat.le_of_ble_eq_true rfl) (Nat.le_of_ble_eq_true rfl) (q_subk [0] rfl hV)
def V_PM_findRing (x0 : Nat) (x1 : Int32) (x2 : Int32) (x3 : Int32) (σ : q_S) (R : q_O → q_S → Prop) : Prop :=
  ∀ (P13 : q_S → Prop),
  ∀ (P22 : Nat → Int32 → q_S → Prop),
  ∀ (P52 : Nat → Int32 → q_S → Prop),
  ∀ (P113 : Nat → Int32 → q_S → Prop),
  ∀ (P114 : Nat → Int32 → Int64 → q_S → Prop),
  ∀ (P152 : Nat → Int32 → Int32 → q_S → Prop),
  (∀ (σ : q_S), (R (.inl (some (.inl (0 : Int32)))) σ) → P13 σ) →
  (∀ (x0 : Nat) (x4 : Int32) (σ : q_S), ((((24 : Int32) ≤ x4 → P52 x0 (0 : Int32) σ) ∧ (¬ ((24 : Int32) ≤ x4) → q_K σ x0 = 7 ∧ q_K σ x0 = 7 ∧ q_K σ (q_P σ x0 29) = 1001 ∧ vp_in x4 (q_Z σ (q_P σ x0 29)) ∧ q_K σ (q_P σ x0 30) = 1001 ∧ vp_in x4 (q_Z σ (q_P σ x0 30)) ∧ ∀ σ2 : q_S, σ2 = q_wL σ (q_P σ x0 30) x4.toNatClampNeg (q_L σ (q_P σ x0 29) x4.toNatClampNeg) → ∀ v9 : Int32, v9 = x4 + (1 : Int32) → P22 x0 v9 σ2))) → P22 x0 x4 σ) →
  (∀ (x0 : Nat) (x4 : Int32) (σ : q_S), ((((24 : Int32) ≤ x4 → R (.inl (some (.inl (1 : Int32)))) σ) ∧ (¬ ((24 : Int32) ≤ x4) → ((x4 ≤ (0 : Int32) → P113 x0 x4 σ) ∧ (¬ (x4 ≤ (0 : Int32)) → (((23 : Int32) ≤ x4 → P113 x0 x4 σ) ∧ (¬ ((23 : Int32) ≤ x4) → q_K σ x0 = 7 ∧ q_K σ (q_P σ x0 30) = 1001 ∧ vp_in (x4 - (1 : Int32)) (q_Z σ (q_P σ x0 30)) ∧ q_K σ x0 = 7 ∧ q_K σ (q_P σ x0 30) = 1001 ∧ vp_in (x4 + (1 : Int32)) (q_Z σ (q_P σ x0 30)) ∧ q_K σ x0 = 7 ∧ q_K σ (q_P σ x0 30) = 1001 ∧ vp_in x4 (q_Z σ (q_P σ x0 30)) ∧ q_K σ x0 = 7 ∧ q_K σ (q_P σ x0 30) = 1001 ∧ vp_in x4 (q_Z σ (q_P σ x0 30)) ∧ P114 x0 x4 ((((q_L σ (q_P σ x0 30) (x4 - (1 : Int32)).toNatClampNeg) &&& (q_L σ (q_P σ x0 30) (x4 + (1 : Int32)).toNatClampNeg)) &&& ((q_L σ (q_P σ x0 30) x4.toNatClampNeg) <<< ((1 : Int32).toInt64 &&& 63))) &&& ((q_L σ (q_P σ x0 30) x4.toNatClampNeg) >>> ((1 : Int32).toInt64 &&& 63))) σ))))))) → P52 x0 x4 σ) →
  (∀ (x0 : Nat) (x4 : Int32) (σ : q_S), (P114 x0 x4 (0 : Int64) σ) → P113 x0 x4 σ) →
  (∀ (x0 : Nat) (x4 : Int32) (y0 : Int64) (σ : q_S), (q_K σ x0 = 7 ∧ q_K σ x0 = 7 ∧ q_K σ (q_P σ x0 30) = 1001 ∧ vp_in x4 (q_Z σ (q_P σ x0 30)) ∧ q_K σ (q_P σ x0 29) = 1001 ∧ vp_in x4 (q_Z σ (q_P σ x0 29)) ∧ ∀ σ1 : q_S, σ1 = q_wL σ (q_P σ x0 29) x4.toNatClampNeg ((q_L σ (q_P σ x0 30) x4.toNatClampNeg) &&& (y0 ^^^ (-1 : Int64))) → ∀ v8 : Int32, v8 = x4 + (1 : Int32) → P52 x0 v8 σ1) → P114 x0 x4 y0 σ) →
  (∀ (x0 : Nat) (x3 : Int32) (x4 : Int32) (σ : q_S), (((x3 ≤ x4 → R (.inl (some (.inl (1 : Int32)))) σ) ∧ (¬ (x3 ≤ x4) → q_K σ x0 = 7 ∧ V_PM_nextHole x0 σ (q_ci (fun v5 σ6 => ((¬ v5 = (0 : Int32) → ∀ v8 : Int32, v8 = x4 + (1 : Int32) → P152 x0 x3 v8 σ6) ∧ (¬ (¬ v5 = (0 : Int32)) → R (.inl (some (.inl (0 : Int32)))) σ6))) (fun n9 σ9 => R (.inr n9) σ9))))) → P152 x0 x3 x4 σ) →
  q_K σ x0 = 7 ∧ V_PM_findPiece x0 x1 x2 σ (q_ci (fun v4 σ5 => ((v4 = (0 : Int32) → P13  σ5) ∧ (¬ (v4 = (0 : Int32)) → (((0 : Int32) ≤ x3 → ((¬ x3 = (0 : Int32) → q_K σ5 x0 = 7 ∧ V_PM_takeOutside x0 σ5 (q_cv (fun σ13 => P152 x0 x3 (0 : Int32) σ13) (fun n9 σ9 => R (.inr n9) σ9))) ∧ (¬ (¬ x3 = (0 : Int32)) → P22 x0 (0 : Int32) σ5))) ∧ (¬ ((0 : Int32) ≤ x3) → P13  σ5))))) (fun n9 σ9 => R (.inr n9) σ9))
set_option maxRecDepth 100000 in
theorem t_PM_findRing {l : Launch} {cx : q_C} {x0 : Nat} {x1 : Int32} {x2 : Int32} {x3 : Int32} {σ : q_S} {R : q_O → q_S → Prop} (hV : V_PM_findRing x0 x1 x2 x3 σ R) : q_Ct l cx M_PM_findRing 3 192 0 0 [q_r x0, q_i x1, q_i x2, q_i x3] σ R := by
  refine q_Ct.of p_PM_findRing c_PM_findRing rfl (Nat.le_of_ble_eq_true rfl) ?_
  have hV := hV (fun (σ : q_S) => q_G l cx M_PM_findRing 3 192 0 0 13 [] [] σ R) (fun (x0 : Nat) (x4 : Int32) (σ : q_S) => q_G l cx M_PM_findRing 3 192 0 0 22 [(0, .inr (.inr x0)), (4, .inl x4)] [] σ R) (fun (x0 : Nat) (x4 : Int32) (σ : q_S) => q_G l cx M_PM_findRing 3 192 0 0 52 [(0, .inr (.inr x0)), (4, .inl x4)] [] σ R) (fun (x0 : Nat) (x4 : Int32) (σ : q_S) => q_G l cx M_PM_findRing 3 192 0 0 113 [(0, .inr (.inr x0)), (4, .inl x4)] [] σ R) (fun (x0 : Nat) (x4 : Int32) (y0 : Int64) (σ : q_S) => q_G l cx M_PM_findRing 3 192 0 0 114 [(0, .inr (.inr x0)), (4, .inl x4)] [.inr (.inl y0)] σ R) (fun (x0 : Nat) (x3 : Int32) (x4 : Int32) (σ : q_S) => q_G l cx M_PM_findRing 3 192 0 0 152 [(0, .inr (.inr x0)), (3, .inl x3), (4, .inl x4)] [] σ R)
  have hV := hV (by
      intro σ hV
      show q_G l cx M_PM_findRing 3 192 0 0 13 [] [] σ R
      refine q_run k_PM_findRing 7 1 14 rfl ?_
      show q_G l cx M_PM_findRing 3 192 0 0 14 [] [.inl (0 : Int32)] σ R
      exact q_zreturn (q_dc k_PM_findRing 8 rfl) rfl (by decide) hV)
  have hV := hV (by
      intro x0 x4 σ hV
      show q_G l cx M_PM_findRing 3 192 0 0 22 [(0, .inr (.inr x0)), (4, .inl x4)] [] σ R
      refine q_run k_PM_findRing 13 2 26 rfl ?_
      show q_G l cx M_PM_findRing 3 192 0 0 26 [(0, .inr (.inr x0)), (4, .inl x4)] [.inl (24 : Int32), .inl x4] σ R
      refine q_icmp (q_dc k_PM_findRing 15 rfl) rfl (fun h1 => ?_) (fun h1 => ?_)
      · have hV := hV.1 h1
        refine q_run k_PM_findRing 26 2 52 rfl ?_
        show q_G l cx M_PM_findRing 3 192 0 0 52 [(4, .inl (0 : Int32)), (0, .inr (.inr x0))] [] σ R
        exact q_less (Nat.le_of_ble_eq_true rfl) (Nat.le_of_ble_eq_true rfl) (q_subk [1, 0] rfl hV)
      · have hV := hV.2 h1
        refine q_run k_PM_findRing 16 8 43 rfl ?_
        show q_K σ x0 = 7 ∧ q_K σ x0 = 7 ∧ q_K σ (q_P σ x0 29) = 1001 ∧ vp_in x4 (q_Z σ (q_P σ x0 29)) ∧ q_K σ (q_P σ x0 30) = 1001 ∧ vp_in x4 (q_Z σ (q_P σ x0 30)) ∧ q_G l cx M_PM_findRing 3 192 0 0 43 [(0, .inr (.inr x0)), (4, .inl x4)] [] (q_wL σ (q_P σ x0 30) x4.toNatClampNeg (q_L σ (q_P σ x0 29) x4.toNatClampNeg)) R
        obtain ⟨s3, s4, s5, s6, s7, s8, hV⟩ := hV
        refine ⟨s3, s4, s5, s6, s7, s8, ?_⟩
        refine q_let (fun σ2 => q_G l cx M_PM_findRing 3 192 0 0 43 [(0, .inr (.inr x0)), (4, .inl x4)] [] σ2 R) (q_wL σ (q_P σ x0 30) x4.toNatClampNeg (q_L σ (q_P σ x0 29) x4.toNatClampNeg)) (fun σ2 e_σ2 => ?_)
        have hV := hV σ2 e_σ2
        refine q_run k_PM_findRing 24 1 46 rfl ?_
        show q_G l cx M_PM_findRing 3 192 0 0 46 [(4, .inl (x4 + (1 : Int32))), (0, .inr (.inr x0))] [] σ2 R
        refine q_let (fun v9 => q_G l cx M_PM_findRing 3 192 0 0 46 [(4, .inl v9), (0, .inr (.inr x0))] [] σ2 R) (x4 + (1 : Int32)) (fun v9 e_v9 => ?_)
        have hV := hV v9 e_v9
        refine q_goto (q_dc k_PM_findRing 25 rfl) rfl ?_
        exact q_less (Nat.le_of_ble_eq_true rfl) (Nat.le_of_ble_eq_true rfl) (q_subk [1, 0] rfl hV))
  have hV := hV (by
      intro x0 x4 σ hV
      show q_G l cx M_PM_findRing 3 192 0 0 52 [(0, .inr (.inr x0)), (4, .inl x4)] [] σ R
      refine q_run k_PM_findRing 28 2 56 rfl ?_
      show q_G l cx M_PM_findRing 3 192 0 0 56 [(0, .inr (.inr x0)), (4, .inl x4)] [.inl (24 : Int32), .inl x4] σ R
      refine q_icmp (q_dc k_PM_findRing 30 rfl) rfl (fun h1 => ?_) (fun h1 => ?_)
      · have hV := hV.1 h1
        refine q_run k_PM_findRing 80 1 144 rfl ?_
        show q_G l cx M_PM_findRing 3 192 0 0 144 [(0, .inr (.inr x0)), (4, .inl x4)] [.inl (1 : Int32)] σ R
        exact q_zreturn (q_dc k_PM_findRing 81 rfl) rfl (by decide) hV
      · have hV := hV.2 h1
        refine q_run k_PM_findRing 31 1 61 rfl ?_
        show q_G l cx M_PM_findRing 3 192 0 0 61 [(0, .inr (.inr x0)), (4, .inl x4)] [.inl x4] σ R
        refine q_ifz (q_dc k_PM_findRing 32 rfl) rfl (fun h2 => ?_) (fun h2 => ?_)
        · have hV := hV.1 h2
          exact q_less (Nat.le_of_ble_eq_true rfl) (Nat.le_of_ble_eq_true rfl) (q_subk [0, 1] rfl hV)
        · have hV := hV.2 h2
          refine q_run k_PM_findRing 33 2 68 rfl ?_
          show q_G l cx M_PM_findRing 3 192 0 0 68 [(0, .inr (.inr x0)), (4, .inl x4)] [.inl (23 : Int32), .inl x4] σ R
          refine q_icmp (q_dc k_PM_findRing 35 rfl) rfl (fun h3 => ?_) (fun h3 => ?_)
          · have hV := hV.1 h3
            exact q_less (Nat.le_of_ble_eq_true rfl) (Nat.le_of_ble_eq_true rfl) (q_subk [0, 1] rfl hV)
          · have hV := hV.2 h3
            refine q_run k_PM_findRing 36 27 110 rfl ?_
            show q_K σ x0 = 7 ∧ q_K σ (q_P σ x0 30) = 1001 ∧ vp_in (x4 - (1 : Int32)) (q_Z σ (q_P σ x0 30)) ∧ q_K σ x0 = 7 ∧ q_K σ (q_P σ x0 30) = 1001 ∧ vp_in (x4 + (1 : Int32)) (q_Z σ (q_P σ x0 30)) ∧ q_K σ x0 = 7 ∧ q_K σ (q_P σ x0 30) = 1001 ∧ vp_in x4 (q_Z σ (q_P σ x0 30)) ∧ q_K σ x0 = 7 ∧ q_K σ (q_P σ x0 30) = 1001 ∧ vp_in x4 (q_Z σ (q_P σ x0 30)) ∧ q_G l cx M_PM_findRing 3 192 0 0 110 [(0, .inr (.inr x0)), (4, .inl x4)] [.inr (.inl ((((q_L σ (q_P σ x0 30) (x4 - (1 : Int32)).toNatClampNeg) &&& (q_L σ (q_P σ x0 30) (x4 + (1 : Int32)).toNatClampNeg)) &&& ((q_L σ (q_P σ x0 30) x4.toNatClampNeg) <<< ((1 : Int32).toInt64 &&& 63))) &&& ((q_L σ (q_P σ x0 30) x4.toNatClampNeg) >>> ((1 : Int32).toInt64 &&& 63))))] σ R
            obtain ⟨s4, s5, s6, s7, s8, s9, s10, s11, s12, s13, s14, s15, hV⟩ := hV
            refine ⟨s4, s5, s6, s7, s8, s9, s10, s11, s12, s13, s14, s15, ?_⟩
            refine q_goto (q_dc k_PM_findRing 63 rfl) rfl ?_
            exact q_less (Nat.le_of_ble_eq_true rfl) (Nat.le_of_ble_eq_true rfl) (q_subk [0, 1] rfl hV))
  have hV := hV (by
      intro x0 x4 σ hV
      show q_G l cx M_PM_findRing 3 192 0 0 113 [(0, .inr (.inr x0)), (4, .inl x4)] [] σ R
      refine q_run k_PM_findRing 64 1 114 rfl ?_
      show q_G l cx M_PM_findRing 3 192 0 0 114 [(0, .inr (.inr x0)), (4, .inl x4)] [.inr (.inl (0 : Int64))] σ R
      exact q_less (Nat.le_of_ble_eq_true rfl) (Nat.le_of_ble_eq_true rfl) (q_subk [0, 1] rfl hV))
  have hV := hV (by
      intro x0 x4 y0 σ hV
      show q_G l cx M_PM_findRing 3 192 0 0 114 [(0, .inr (.inr x0)), (4, .inl x4)] [.inr (.inl y0)] σ R
      refine q_run k_PM_findRing 65 13 137 rfl ?_
      show q_K σ x0 = 7 ∧ q_K σ x0 = 7 ∧ q_K σ (q_P σ x0 30) = 1001 ∧ vp_in x4 (q_Z σ (q_P σ x0 30)) ∧ q_K σ (q_P σ x0 29) = 1001 ∧ vp_in x4 (q_Z σ (q_P σ x0 29)) ∧ q_G l cx M_PM_findRing 3 192 0 0 137 [(5, .inr (.inl y0)), (0, .inr (.inr x0)), (4, .inl x4)] [] (q_wL σ (q_P σ x0 29) x4.toNatClampNeg ((q_L σ (q_P σ x0 30) x4.toNatClampNeg) &&& (y0 ^^^ (-1 : Int64)))) R
      obtain ⟨s2, s3, s4, s5, s6, s7, hV⟩ := hV
      refine ⟨s2, s3, s4, s5, s6, s7, ?_⟩
      refine q_let (fun σ1 => q_G l cx M_PM_findRing 3 192 0 0 137 [(5, .inr (.inl y0)), (0, .inr (.inr x0)), (4, .inl x4)] [] σ1 R) (q_wL σ (q_P σ x0 29) x4.toNatClampNeg ((q_L σ (q_P σ x0 30) x4.toNatClampNeg) &&& (y0 ^^^ (-1 : Int64)))) (fun σ1 e_σ1 => ?_)
      have hV := hV σ1 e_σ1
      refine q_run k_PM_findRing 78 1 140 rfl ?_
      show q_G l cx M_PM_findRing 3 192 0 0 140 [(4, .inl (x4 + (1 : Int32))), (5, .inr (.inl y0)), (0, .inr (.inr x0))] [] σ1 R
      refine q_let (fun v8 => q_G l cx M_PM_findRing 3 192 0 0 140 [(4, .inl v8), (5, .inr (.inl y0)), (0, .inr (.inr x0))] [] σ1 R) (x4 + (1 : Int32)) (fun v8 e_v8 => ?_)
      have hV := hV v8 e_v8
      refine q_goto (q_dc k_PM_findRing 79 rfl) rfl ?_
      exact q_less (Nat.le_of_ble_eq_true rfl) (Nat.le_of_ble_eq_true rfl) (q_subk [2, 0] rfl hV))
  have hV := hV (by
      intro x0 x3 x4 σ hV
      show q_G l cx M_PM_findRing 3 192 0 0 152 [(0, .inr (.inr x0)), (3, .inl x3), (4, .inl x4)] [] σ R
      refine q_run k_PM_findRing 86 2 155 rfl ?_
      show q_G l cx M_PM_findRing 3 192 0 0 155 [(0, .inr (.inr x0)), (3, .inl x3), (4, .inl x4)] [.inl x3, .inl x4] σ R
      refine q_icmp (q_dc k_PM_findRing 88 rfl) rfl (fun h1 => ?_) (fun h1 => ?_)
      · have hV := hV.1 h1
        refine q_run k_PM_findRing 96 1 174 rfl ?_
        show q_G l cx M_PM_findRing 3 192 0 0 174 [(0, .inr (.inr x0)), (3, .inl x3), (4, .inl x4)] [.inl (1 : Int32)] σ R
        exact q_zreturn (q_dc k_PM_findRing 97 rfl) rfl (by decide) hV
      · have hV := hV.2 h1
        refine q_run k_PM_findRing 89 1 159 rfl ?_
        show q_G l cx M_PM_findRing 3 192 0 0 159 [(0, .inr (.inr x0)), (3, .inl x3), (4, .inl x4)] [.inr (.inr x0)] σ R
        obtain ⟨s2, hV⟩ := hV
        refine q_callV (st := []) (as := []) (t_PM_nextHole (l := l) (cx := cx)  hV) (q_dc k_PM_findRing 90 rfl) (Or.inl (List.mem_of_getElem? (i := 1077) (by decide +kernel))) w_PM_nextHole n_PM_nextHole (ci := 6) rfl e_PM_nextHole a_PM_nextHole (q_wt (Nat.le_of_ble_eq_true rfl)) ⟨Nat.le_of_ble_eq_true rfl, Nat.le_of_ble_eq_true rfl⟩ s2 (fun v9 τ9 q9 => ?_) (fun n9 τ9 q9 => q_T.leave rfl q9)
        obtain ⟨v5, rfl, hV⟩ := q_ci_elim q9
        clear q9
        have hV := hV
        revert hV
        generalize τ9 = σ6
        intro hV
        show q_G l cx M_PM_findRing 3 192 0 0 162 [(0, .inr (.inr x0)), (3, .inl x3), (4, .inl x4)] [.inl v5] σ6 R
        refine q_ifz (q_dc k_PM_findRing 91 rfl) rfl (fun h7 => ?_) (fun h7 => ?_)
        · have hV := hV.1 h7
          refine q_run k_PM_findRing 94 1 170 rfl ?_
          show q_G l cx M_PM_findRing 3 192 0 0 170 [(4, .inl (x4 + (1 : Int32))), (0, .inr (.inr x0)), (3, .inl x3)] [] σ6 R
          refine q_let (fun v8 => q_G l cx M_PM_findRing 3 192 0 0 170 [(4, .inl v8), (0, .inr (.inr x0)), (3, .inl x3)] [] σ6 R) (x4 + (1 : Int32)) (fun v8 e_v8 => ?_)
          have hV := hV v8 e_v8
          refine q_goto (q_dc k_PM_findRing 95 rfl) rfl ?_
          exact q_less (Nat.le_of_ble_eq_true rfl) (Nat.le_of_ble_eq_true rfl) (q_subk [1, 2, 0] rfl hV)
        · have hV := hV.2 h7
          refine q_run k_PM_findRing 92 1 166 rfl ?_
          show q_G l cx M_PM_findRing 3 192 0 0 166 [(0, .inr (.inr x0)), (3, .inl x3), (4, .inl x4)] [.inl (0 : Int32)] σ6 R
          exact q_zreturn (q_dc k_PM_findRing 93 rfl) rfl (by decide) hV)
  refine q_run k_PM_findRing 0 3 3 rfl ?_
  show q_G l cx M_PM_findRing 3 192 0 0 3 [(0, .inr (.inr x0)), (1, .inl x1), (2, .inl x2), (3, .inl x3)] [.inl x2, .inl x1, .inr (.inr x0)] σ R
  obtain ⟨s1, hV⟩ := hV
  refine q_callV (st := []) (as := [.inl x1, .inl x2]) (t_PM_findPiece (l := l) (cx := cx)  hV) (q_dc k_PM_findRing 3 rfl) (Or.inl (List.mem_of_getElem? (i := 1071) (by decide +kernel))) w_PM_findPiece n_PM_findPiece (ci := 6) rfl e_PM_findPiece a_PM_findPiece (q_wt (Nat.le_of_ble_eq_true rfl)) ⟨Nat.le_of_ble_eq_true rfl, Nat.le_of_ble_eq_true rfl⟩ s1 (fun v9 τ9 q9 => ?_) (fun n9 τ9 q9 => q_T.leave rfl q9)
  obtain ⟨v4, rfl, hV⟩ := q_ci_elim q9
  clear q9
  have hV := hV
  revert hV
  generalize τ9 = σ5
  intro hV
  show q_G l cx M_PM_findRing 3 192 0 0 6 [(0, .inr (.inr x0)), (1, .inl x1), (2, .inl x2), (3, .inl x3)] [.inl v4] σ5 R
  refine q_ifz (q_dc k_PM_findRing 4 rfl) rfl (fun h6 => ?_) (fun h6 => ?_)
  · have hV := hV.1 h6
    exact q_less (Nat.le_of_ble_eq_true rfl) (Nat.le_of_ble_eq_true rfl) (q_subk [] rfl hV)
  · have hV := hV.2 h6
    refine q_run k_PM_findRing 5 1 10 rfl ?_
    show q_G l cx M_PM_findRing 3 192 0 0 10 [(0, .inr (.inr x0)), (1, .inl x1), (2, .inl x2), (3, .inl x3)] [.inl x3] σ5 R
    refine q_ifz (q_dc k_PM_findRing 6 rfl) rfl (fun h7 => ?_) (fun h7 => ?_)
    · have hV := hV.1 h7
      refine q_run k_PM_findRing 9 1 16 rfl ?_
      show q_G l cx M_PM_findRing 3 192 0 0 16 [(0, .inr (.inr x0)), (1, .inl x1), (2, .inl x2), (3, .inl x3)] [.inl x3] σ5 R
      refine q_ifz (q_dc k_PM_findRing 10 rfl) rfl (fun h8 => ?_) (fun h8 => ?_)
      · have hV := hV.1 h8
        refine q_run k_PM_findRing 82 1 146 rfl ?_
        show q_G l cx M_PM_findRing 3 192 0 0 146 [(0, .inr (.inr x0)), (1, .inl x1), (2, .inl x2), (3, .inl x3)] [.inr (.inr x0)] σ5 R
        obtain ⟨s9, hV⟩ := hV
        refine q_callV (st := []) (as := []) (t_PM_takeOutside (l := l) (cx := cx)  hV) (q_dc k_PM_findRing 83 rfl) (Or.inl (List.mem_of_getElem? (i := 1074) (by decide +kernel))) w_PM_takeOutside n_PM_takeOutside (ci := 6) rfl e_PM_takeOutside a_PM_takeOutside (q_wt (Nat.le_of_ble_eq_true rfl)) ⟨Nat.le_of_ble_eq_true rfl, Nat.le_of_ble_eq_true rfl⟩ s9 (fun v9 τ9 q9 => ?_) (fun n9 τ9 q9 => q_T.leave rfl q9)
        obtain ⟨rfl, hV⟩ := q_cv_elim q9
        clear q9
        have hV := hV
        revert hV
        generalize τ9 = σ13
        intro hV
        show q_G l cx M_PM_findRing 3 192 0 0 149 [(0, .inr (.inr x0)), (1, .inl x1), (2, .inl x2), (3, .inl x3)] [] σ13 R
        refine q_run k_PM_findRing 84 2 152 rfl ?_
        show q_G l cx M_PM_findRing 3 192 0 0 152 [(4, .inl (0 : Int32)), (0, .inr (.inr x0)), (1, .inl x1), (2, .inl x2), (3, .inl x3)] [] σ13 R
        exact q_less (Nat.le_of_ble_eq_true rfl) (Nat.le_of_ble_eq_true rfl) (q_subk [1, 4, 0] rfl hV)
      · have hV := hV.2 h8
        refine q_run k_PM_findRing 11 2 22 rfl ?_
        show q_G l cx M_PM_findRing 3 192 0 0 22 [(4, .inl (0 : Int32)), (0, .inr (.inr x0)), (1, .inl x1), (2, .inl x2), (3, .inl x3)] [] σ5 R
        exact q_less (Nat.le_of_ble_eq_true rfl) (Nat.le_of_ble_eq_true rfl) (q_subk [1, 0] rfl hV)
    · have hV := hV.2 h7
      exact q_less (Nat.le_of_ble_eq_true rfl) (Nat.le_of_ble_eq_true rfl) (q_subk [] rfl hV)
def V_PM_at (x0 : Nat) (x1 : Int32) (x2 : Int32) (x3 : Int32) (x4 : Int32) (x5 : Int32) (σ : q_S) (R : q_O → q_S → Prop) : Prop :=
  ∀ (P26 : Nat → Int32 → Int32 → q_S → Prop),
  ∀ (P30 : Nat → Int32 → Int32 → q_S → Prop),
  ∀ (P31 : Nat → Int32 → Int32 → Int32 → q_S → Prop),
  ∀ (P40 : Nat → Int32 → Int32 → Int32 → Int32 → q_S → Prop),
  ∀ (P55 : Nat → Int32 → Int32 → Int32 → Int32 → Int32 → q_S → Prop),
  ∀ (P107 : Int64 → q_S → Prop),
  ∀ (P111 : Nat → Int32 → Int32 → Int32 → Int32 → Int32 → q_S → Prop),
  ∀ (P123 : Nat → q_S → Prop),
  (∀ (x0 : Nat) (x4 : Int32) (x5 : Int32) (σ : q_S), (P31 x0 x4 x5 (1 : Int32) σ) → P26 x0 x4 x5 σ) →
  (∀ (x0 : Nat) (x4 : Int32) (x5 : Int32) (σ : q_S), (P31 x0 x4 x5 (0 : Int32) σ) → P30 x0 x4 x5 σ) →
  (∀ (x0 : Nat) (x4 : Int32) (x5 : Int32) (y0 : Int32) (σ : q_S), (P40 x0 x5 y0 x4 (0 : Int32) σ) → P31 x0 x4 x5 y0 σ) →
  (∀ (x0 : Nat) (x5 : Int32) (x6 : Int32) (x7 : Int32) (x8 : Int32) (σ : q_S), ((((24 : Int32) ≤ x8 → P123 x0 σ) ∧ (¬ ((24 : Int32) ≤ x8) → ((x6 = (0 : Int32) → P123 x0 σ) ∧ (¬ (x6 = (0 : Int32)) → P55 x0 x5 x6 x7 x8 (0 : Int32) σ))))) → P40 x0 x5 x6 x7 x8 σ) →
  (∀ (x0 : Nat) (x5 : Int32) (x6 : Int32) (x7 : Int32) (x8 : Int32) (x9 : Int32) (σ : q_S), ((((32 : Int32) ≤ x9 → ∀ v2 : Int32, v2 = x8 + (1 : Int32) → P40 x0 x5 x6 x7 v2 σ) ∧ (¬ ((32 : Int32) ≤ x9) → q_K σ x0 = 7 ∧ q_K σ (q_P σ x0 29) = 1001 ∧ vp_in x8 (q_Z σ (q_P σ x0 29)) ∧ ((¬ (lg_cmp ((q_L σ (q_P σ x0 29) x8.toNatClampNeg) &&& (f_PM_bit x9)) (0 : Int64)) = (0 : Int32) → ((¬ x7 = (0 : Int32) → ∀ v8 : Int32, v8 = x7 + (-1 : Int32) → P111 x0 x5 x6 v8 x8 x9 σ) ∧ (¬ (¬ x7 = (0 : Int32)) → q_K σ x0 = 7 ∧ ∀ σ9 : q_S, σ9 = q_wI σ x0 0 (0 : Int32) → ((¬ x5 = (0 : Int32) → P107 x8.toInt64 σ9) ∧ (¬ (¬ x5 = (0 : Int32)) → P107 x9.toInt64 σ9))))) ∧ (¬ (¬ (lg_cmp ((q_L σ (q_P σ x0 29) x8.toNatClampNeg) &&& (f_PM_bit x9)) (0 : Int64)) = (0 : Int32)) → P111 x0 x5 x6 x7 x8 x9 σ))))) → P55 x0 x5 x6 x7 x8 x9 σ) →
  (∀ (y0 : Int64) (σ : q_S), (R (.inl (some (.inr (.inl y0)))) σ) → P107 y0 σ) →
  (∀ (x0 : Nat) (x5 : Int32) (x6 : Int32) (x7 : Int32) (x8 : Int32) (x9 : Int32) (σ : q_S), (∀ v1 : Int32, v1 = x9 + (1 : Int32) → P55 x0 x5 x6 x7 x8 v1 σ) → P111 x0 x5 x6 x7 x8 x9 σ) →
  (∀ (x0 : Nat) (σ : q_S), (q_K σ x0 = 7 ∧ ∀ σ1 : q_S, σ1 = q_wI σ x0 0 (1 : Int32) → R (.inl (some (.inr (.inl (0 : Int64))))) σ1) → P123 x0 σ) →
  q_K σ x0 = 7 ∧ V_PM_findRing x0 x1 x2 x3 σ (q_ci (fun v4 σ5 => ((v4 = (0 : Int32) → P30 x0 x4 x5 σ5) ∧ (¬ (v4 = (0 : Int32)) → ((x4 < (0 : Int32) → P30 x0 x4 x5 σ5) ∧ (¬ (x4 < (0 : Int32)) → ((x5 = (0 : Int32) → P26 x0 x4 x5 σ5) ∧ (¬ (x5 = (0 : Int32)) → ((¬ x5 = (1 : Int32) → P30 x0 x4 x5 σ5) ∧ (¬ (¬ x5 = (1 : Int32)) → P26 x0 x4 x5 σ5))))))))) (fun n9 σ9 => R (.inr n9) σ9))
set_option maxRecDepth 100000 in
theorem t_PM_at {l : Launch} {cx : q_C} {x0 : Nat} {x1 : Int32} {x2 : Int32} {x3 : Int32} {x4 : Int32} {x5 : Int32} {σ : q_S} {R : q_O → q_S → Prop} (hV : V_PM_at x0 x1 x2 x3 x4 x5 σ R) : q_Ct l cx M_PM_at 4 256 0 0 [q_r x0, q_i x1, q_i x2, q_i x3, q_i x4, q_i x5] σ R := by
  refine q_Ct.of p_PM_at c_PM_at rfl (Nat.le_of_ble_eq_true rfl) ?_
  have hV := hV (fun (x0 : Nat) (x4 : Int32) (x5 : Int32) (σ : q_S) => q_G l cx M_PM_at 4 256 0 0 26 [(0, .inr (.inr x0)), (4, .inl x4), (5, .inl x5)] [] σ R) (fun (x0 : Nat) (x4 : Int32) (x5 : Int32) (σ : q_S) => q_G l cx M_PM_at 4 256 0 0 30 [(0, .inr (.inr x0)), (4, .inl x4), (5, .inl x5)] [] σ R) (fun (x0 : Nat) (x4 : Int32) (x5 : Int32) (y0 : Int32) (σ : q_S) => q_G l cx M_PM_at 4 256 0 0 31 [(0, .inr (.inr x0)), (4, .inl x4), (5, .inl x5)] [.inl y0] σ R) (fun (x0 : Nat) (x5 : Int32) (x6 : Int32) (x7 : Int32) (x8 : Int32) (σ : q_S) => q_G l cx M_PM_at 4 256 0 0 40 [(0, .inr (.inr x0)), (5, .inl x5), (6, .inl x6), (7, .inl x7), (8, .inl x8)] [] σ R) (fun (x0 : Nat) (x5 : Int32) (x6 : Int32) (x7 : Int32) (x8 : Int32) (x9 : Int32) (σ : q_S) => q_G l cx M_PM_at 4 256 0 0 55 [(0, .inr (.inr x0)), (5, .inl x5), (6, .inl x6), (7, .inl x7), (8, .inl x8), (9, .inl x9)] [] σ R) (fun (y0 : Int64) (σ : q_S) => q_G l cx M_PM_at 4 256 0 0 107 [] [.inr (.inl y0)] σ R) (fun (x0 : Nat) (x5 : Int32) (x6 : Int32) (x7 : Int32) (x8 : Int32) (x9 : Int32) (σ : q_S) => q_G l cx M_PM_at 4 256 0 0 111 [(0, .inr (.inr x0)), (5, .inl x5), (6, .inl x6), (7, .inl x7), (8, .inl x8), (9, .inl x9)] [] σ R) (fun (x0 : Nat) (σ : q_S) => q_G l cx M_PM_at 4 256 0 0 123 [(0, .inr (.inr x0))] [] σ R)
  have hV := hV (by
      intro x0 x4 x5 σ hV
      show q_G l cx M_PM_at 4 256 0 0 26 [(0, .inr (.inr x0)), (4, .inl x4), (5, .inl x5)] [] σ R
      refine q_run k_PM_at 13 1 27 rfl ?_
      show q_G l cx M_PM_at 4 256 0 0 27 [(0, .inr (.inr x0)), (4, .inl x4), (5, .inl x5)] [.inl (1 : Int32)] σ R
      refine q_goto (q_dc k_PM_at 14 rfl) rfl ?_
      exact q_less (Nat.le_of_ble_eq_true rfl) (Nat.le_of_ble_eq_true rfl) (q_subk [0, 1, 2] rfl hV))
  have hV := hV (by
      intro x0 x4 x5 σ hV
      show q_G l cx M_PM_at 4 256 0 0 30 [(0, .inr (.inr x0)), (4, .inl x4), (5, .inl x5)] [] σ R
      refine q_run k_PM_at 15 1 31 rfl ?_
      show q_G l cx M_PM_at 4 256 0 0 31 [(0, .inr (.inr x0)), (4, .inl x4), (5, .inl x5)] [.inl (0 : Int32)] σ R
      exact q_less (Nat.le_of_ble_eq_true rfl) (Nat.le_of_ble_eq_true rfl) (q_subk [0, 1, 2] rfl hV))
  have hV := hV (by
      intro x0 x4 x5 y0 σ hV
      show q_G l cx M_PM_at 4 256 0 0 31 [(0, .inr (.inr x0)), (4, .inl x4), (5, .inl x5)] [.inl y0] σ R
      refine q_run k_PM_at 16 5 40 rfl ?_
      show q_G l cx M_PM_at 4 256 0 0 40 [(8, .inl (0 : Int32)), (7, .inl x4), (6, .inl y0), (0, .inr (.inr x0)), (4, .inl x4), (5, .inl x5)] [] σ R
      exact q_less (Nat.le_of_ble_eq_true rfl) (Nat.le_of_ble_eq_true rfl) (q_subk [3, 5, 2, 1, 0] rfl hV))
  have hV := hV (by
      intro x0 x5 x6 x7 x8 σ hV
      show q_G l cx M_PM_at 4 256 0 0 40 [(0, .inr (.inr x0)), (5, .inl x5), (6, .inl x6), (7, .inl x7), (8, .inl x8)] [] σ R
      refine q_run k_PM_at 21 2 44 rfl ?_
      show q_G l cx M_PM_at 4 256 0 0 44 [(0, .inr (.inr x0)), (5, .inl x5), (6, .inl x6), (7, .inl x7), (8, .inl x8)] [.inl (24 : Int32), .inl x8] σ R
      refine q_icmp (q_dc k_PM_at 23 rfl) rfl (fun h1 => ?_) (fun h1 => ?_)
      · have hV := hV.1 h1
        exact q_less (Nat.le_of_ble_eq_true rfl) (Nat.le_of_ble_eq_true rfl) (q_subk [0] rfl hV)
      · have hV := hV.2 h1
        refine q_run k_PM_at 24 1 49 rfl ?_
        show q_G l cx M_PM_at 4 256 0 0 49 [(0, .inr (.inr x0)), (5, .inl x5), (6, .inl x6), (7, .inl x7), (8, .inl x8)] [.inl x6] σ R
        refine q_ifz (q_dc k_PM_at 25 rfl) rfl (fun h2 => ?_) (fun h2 => ?_)
        · have hV := hV.1 h2
          exact q_less (Nat.le_of_ble_eq_true rfl) (Nat.le_of_ble_eq_true rfl) (q_subk [0] rfl hV)
        · have hV := hV.2 h2
          refine q_run k_PM_at 26 2 55 rfl ?_
          show q_G l cx M_PM_at 4 256 0 0 55 [(9, .inl (0 : Int32)), (0, .inr (.inr x0)), (5, .inl x5), (6, .inl x6), (7, .inl x7), (8, .inl x8)] [] σ R
          exact q_less (Nat.le_of_ble_eq_true rfl) (Nat.le_of_ble_eq_true rfl) (q_subk [1, 2, 3, 4, 5, 0] rfl hV))
  have hV := hV (by
      intro x0 x5 x6 x7 x8 x9 σ hV
      show q_G l cx M_PM_at 4 256 0 0 55 [(0, .inr (.inr x0)), (5, .inl x5), (6, .inl x6), (7, .inl x7), (8, .inl x8), (9, .inl x9)] [] σ R
      refine q_run k_PM_at 28 2 59 rfl ?_
      show q_G l cx M_PM_at 4 256 0 0 59 [(0, .inr (.inr x0)), (5, .inl x5), (6, .inl x6), (7, .inl x7), (8, .inl x8), (9, .inl x9)] [.inl (32 : Int32), .inl x9] σ R
      refine q_icmp (q_dc k_PM_at 30 rfl) rfl (fun h1 => ?_) (fun h1 => ?_)
      · have hV := hV.1 h1
        refine q_run k_PM_at 58 1 120 rfl ?_
        show q_G l cx M_PM_at 4 256 0 0 120 [(8, .inl (x8 + (1 : Int32))), (0, .inr (.inr x0)), (5, .inl x5), (6, .inl x6), (7, .inl x7), (9, .inl x9)] [] σ R
        refine q_let (fun v2 => q_G l cx M_PM_at 4 256 0 0 120 [(8, .inl v2), (0, .inr (.inr x0)), (5, .inl x5), (6, .inl x6), (7, .inl x7), (9, .inl x9)] [] σ R) (x8 + (1 : Int32)) (fun v2 e_v2 => ?_)
        have hV := hV v2 e_v2
        refine q_goto (q_dc k_PM_at 59 rfl) rfl ?_
        exact q_less (Nat.le_of_ble_eq_true rfl) (Nat.le_of_ble_eq_true rfl) (q_subk [1, 2, 3, 4, 0] rfl hV)
      · have hV := hV.2 h1
        refine q_run k_PM_at 31 5 71 rfl ?_
        show q_K σ x0 = 7 ∧ q_K σ (q_P σ x0 29) = 1001 ∧ vp_in x8 (q_Z σ (q_P σ x0 29)) ∧ q_G l cx M_PM_at 4 256 0 0 71 [(0, .inr (.inr x0)), (5, .inl x5), (6, .inl x6), (7, .inl x7), (8, .inl x8), (9, .inl x9)] [.inl x9, .inr (.inl (q_L σ (q_P σ x0 29) x8.toNatClampNeg))] σ R
        obtain ⟨s3, s4, s5, hV⟩ := hV
        refine ⟨s3, s4, s5, ?_⟩
        refine q_callS (st := [.inr (.inl (q_L σ (q_P σ x0 29) x8.toNatClampNeg))]) (t_PM_bit (l := l) (cx := cx) (σ := σ) x9) (q_dc k_PM_at 36 rfl) (Or.inl (List.mem_of_getElem? (i := 1007) (by decide +kernel))) w_PM_bit s_PM_bit a_PM_bit (q_wt (Nat.le_of_ble_eq_true rfl)) ⟨Nat.le_of_ble_eq_true rfl, Nat.le_of_ble_eq_true rfl⟩ (fun v9 τ9 q9 => ?_) (fun n9 τ9 q9 => by cases q9.1)
        obtain ⟨q8, q7⟩ := q9
        cases q8
        rw [q7]
        show q_G l cx M_PM_at 4 256 0 0 74 [(0, .inr (.inr x0)), (5, .inl x5), (6, .inl x6), (7, .inl x7), (8, .inl x8), (9, .inl x9)] [.inr (.inl (f_PM_bit x9)), .inr (.inl (q_L σ (q_P σ x0 29) x8.toNatClampNeg))] σ R
        refine q_run k_PM_at 37 3 77 rfl ?_
        show q_G l cx M_PM_at 4 256 0 0 77 [(0, .inr (.inr x0)), (5, .inl x5), (6, .inl x6), (7, .inl x7), (8, .inl x8), (9, .inl x9)] [.inl (lg_cmp ((q_L σ (q_P σ x0 29) x8.toNatClampNeg) &&& (f_PM_bit x9)) (0 : Int64))] σ R
        refine q_ifz (q_dc k_PM_at 40 rfl) rfl (fun h6 => ?_) (fun h6 => ?_)
        · have hV := hV.1 h6
          refine q_run k_PM_at 42 1 85 rfl ?_
          show q_G l cx M_PM_at 4 256 0 0 85 [(0, .inr (.inr x0)), (5, .inl x5), (6, .inl x6), (7, .inl x7), (8, .inl x8), (9, .inl x9)] [.inl x7] σ R
          refine q_ifz (q_dc k_PM_at 43 rfl) rfl (fun h7 => ?_) (fun h7 => ?_)
          · have hV := hV.1 h7
            refine q_run k_PM_at 55 1 111 rfl ?_
            show q_G l cx M_PM_at 4 256 0 0 111 [(7, .inl (x7 + (-1 : Int32))), (0, .inr (.inr x0)), (5, .inl x5), (6, .inl x6), (8, .inl x8), (9, .inl x9)] [] σ R
            refine q_let (fun v8 => q_G l cx M_PM_at 4 256 0 0 111 [(7, .inl v8), (0, .inr (.inr x0)), (5, .inl x5), (6, .inl x6), (8, .inl x8), (9, .inl x9)] [] σ R) (x7 + (-1 : Int32)) (fun v8 e_v8 => ?_)
            have hV := hV v8 e_v8
            exact q_less (Nat.le_of_ble_eq_true rfl) (Nat.le_of_ble_eq_true rfl) (q_subk [1, 2, 3, 0, 4, 5] rfl hV)
          · have hV := hV.2 h7
            refine q_run k_PM_at 44 3 93 rfl ?_
            show q_K σ x0 = 7 ∧ q_G l cx M_PM_at 4 256 0 0 93 [(0, .inr (.inr x0)), (5, .inl x5), (6, .inl x6), (7, .inl x7), (8, .inl x8), (9, .inl x9)] [] (q_wI σ x0 0 (0 : Int32)) R
            obtain ⟨s10, hV⟩ := hV
            refine ⟨s10, ?_⟩
            refine q_let (fun σ9 => q_G l cx M_PM_at 4 256 0 0 93 [(0, .inr (.inr x0)), (5, .inl x5), (6, .inl x6), (7, .inl x7), (8, .inl x8), (9, .inl x9)] [] σ9 R) (q_wI σ x0 0 (0 : Int32)) (fun σ9 e_σ9 => ?_)
            have hV := hV σ9 e_σ9
            refine q_run k_PM_at 47 1 95 rfl ?_
            show q_G l cx M_PM_at 4 256 0 0 95 [(0, .inr (.inr x0)), (5, .inl x5), (6, .inl x6), (7, .inl x7), (8, .inl x8), (9, .inl x9)] [.inl x5] σ9 R
            refine q_ifz (q_dc k_PM_at 48 rfl) rfl (fun h11 => ?_) (fun h11 => ?_)
            · have hV := hV.1 h11
              refine q_run k_PM_at 52 2 107 rfl ?_
              show q_G l cx M_PM_at 4 256 0 0 107 [(0, .inr (.inr x0)), (5, .inl x5), (6, .inl x6), (7, .inl x7), (8, .inl x8), (9, .inl x9)] [.inr (.inl x8.toInt64)] σ9 R
              exact q_less (Nat.le_of_ble_eq_true rfl) (Nat.le_of_ble_eq_true rfl) (q_subk [] rfl hV)
            · have hV := hV.2 h11
              refine q_run k_PM_at 49 2 101 rfl ?_
              show q_G l cx M_PM_at 4 256 0 0 101 [(0, .inr (.inr x0)), (5, .inl x5), (6, .inl x6), (7, .inl x7), (8, .inl x8), (9, .inl x9)] [.inr (.inl x9.toInt64)] σ9 R
              refine q_goto (q_dc k_PM_at 51 rfl) rfl ?_
              exact q_less (Nat.le_of_ble_eq_true rfl) (Nat.le_of_ble_eq_true rfl) (q_subk [] rfl hV)
        · have hV := hV.2 h6
          refine q_goto (q_dc k_PM_at 41 rfl) rfl ?_
          exact q_less (Nat.le_of_ble_eq_true rfl) (Nat.le_of_ble_eq_true rfl) (q_subk [0, 1, 2, 3, 4, 5] rfl hV))
  have hV := hV (by
      intro y0 σ hV
      show q_G l cx M_PM_at 4 256 0 0 107 [] [.inr (.inl y0)] σ R
      exact q_lreturn (q_dc k_PM_at 54 rfl) rfl hV)
  have hV := hV (by
      intro x0 x5 x6 x7 x8 x9 σ hV
      show q_G l cx M_PM_at 4 256 0 0 111 [(0, .inr (.inr x0)), (5, .inl x5), (6, .inl x6), (7, .inl x7), (8, .inl x8), (9, .inl x9)] [] σ R
      refine q_run k_PM_at 56 1 114 rfl ?_
      show q_G l cx M_PM_at 4 256 0 0 114 [(9, .inl (x9 + (1 : Int32))), (0, .inr (.inr x0)), (5, .inl x5), (6, .inl x6), (7, .inl x7), (8, .inl x8)] [] σ R
      refine q_let (fun v1 => q_G l cx M_PM_at 4 256 0 0 114 [(9, .inl v1), (0, .inr (.inr x0)), (5, .inl x5), (6, .inl x6), (7, .inl x7), (8, .inl x8)] [] σ R) (x9 + (1 : Int32)) (fun v1 e_v1 => ?_)
      have hV := hV v1 e_v1
      refine q_goto (q_dc k_PM_at 57 rfl) rfl ?_
      exact q_less (Nat.le_of_ble_eq_true rfl) (Nat.le_of_ble_eq_true rfl) (q_subk [1, 2, 3, 4, 5, 0] rfl hV))
  have hV := hV (by
      intro x0 σ hV
      show q_G l cx M_PM_at 4 256 0 0 123 [(0, .inr (.inr x0))] [] σ R
      refine q_run k_PM_at 60 3 128 rfl ?_
      show q_K σ x0 = 7 ∧ q_G l cx M_PM_at 4 256 0 0 128 [(0, .inr (.inr x0))] [] (q_wI σ x0 0 (1 : Int32)) R
      obtain ⟨s2, hV⟩ := hV
      refine ⟨s2, ?_⟩
      refine q_let (fun σ1 => q_G l cx M_PM_at 4 256 0 0 128 [(0, .inr (.inr x0))] [] σ1 R) (q_wI σ x0 0 (1 : Int32)) (fun σ1 e_σ1 => ?_)
      have hV := hV σ1 e_σ1
      refine q_run k_PM_at 63 1 129 rfl ?_
      show q_G l cx M_PM_at 4 256 0 0 129 [(0, .inr (.inr x0))] [.inr (.inl (0 : Int64))] σ1 R
      exact q_lreturn (q_dc k_PM_at 64 rfl) rfl hV)
  refine q_run k_PM_at 0 4 4 rfl ?_
  show q_G l cx M_PM_at 4 256 0 0 4 [(0, .inr (.inr x0)), (1, .inl x1), (2, .inl x2), (3, .inl x3), (4, .inl x4), (5, .inl x5)] [.inl x3, .inl x2, .inl x1, .inr (.inr x0)] σ R
  obtain ⟨s1, hV⟩ := hV
  refine q_callV (st := []) (as := [.inl x1, .inl x2, .inl x3]) (t_PM_findRing (l := l) (cx := cx)  hV) (q_dc k_PM_at 4 rfl) (Or.inl (List.mem_of_getElem? (i := 1087) (by decide +kernel))) w_PM_findRing n_PM_findRing (ci := 6) rfl e_PM_findRing a_PM_findRing (q_wt (Nat.le_of_ble_eq_true rfl)) ⟨Nat.le_of_ble_eq_true rfl, Nat.le_of_ble_eq_true rfl⟩ s1 (fun v9 τ9 q9 => ?_) (fun n9 τ9 q9 => q_T.leave rfl q9)
  obtain ⟨v4, rfl, hV⟩ := q_ci_elim q9
  clear q9
  have hV := hV
  revert hV
  generalize τ9 = σ5
  intro hV
  show q_G l cx M_PM_at 4 256 0 0 7 [(0, .inr (.inr x0)), (1, .inl x1), (2, .inl x2), (3, .inl x3), (4, .inl x4), (5, .inl x5)] [.inl v4] σ5 R
  refine q_ifz (q_dc k_PM_at 5 rfl) rfl (fun h6 => ?_) (fun h6 => ?_)
  · have hV := hV.1 h6
    exact q_less (Nat.le_of_ble_eq_true rfl) (Nat.le_of_ble_eq_true rfl) (q_subk [0, 4, 5] rfl hV)
  · have hV := hV.2 h6
    refine q_run k_PM_at 6 1 12 rfl ?_
    show q_G l cx M_PM_at 4 256 0 0 12 [(0, .inr (.inr x0)), (1, .inl x1), (2, .inl x2), (3, .inl x3), (4, .inl x4), (5, .inl x5)] [.inl x4] σ5 R
    refine q_ifz (q_dc k_PM_at 7 rfl) rfl (fun h7 => ?_) (fun h7 => ?_)
    · have hV := hV.1 h7
      exact q_less (Nat.le_of_ble_eq_true rfl) (Nat.le_of_ble_eq_true rfl) (q_subk [0, 4, 5] rfl hV)
    · have hV := hV.2 h7
      refine q_run k_PM_at 8 1 17 rfl ?_
      show q_G l cx M_PM_at 4 256 0 0 17 [(0, .inr (.inr x0)), (1, .inl x1), (2, .inl x2), (3, .inl x3), (4, .inl x4), (5, .inl x5)] [.inl x5] σ5 R
      refine q_ifz (q_dc k_PM_at 9 rfl) rfl (fun h8 => ?_) (fun h8 => ?_)
      · have hV := hV.1 h8
        exact q_less (Nat.le_of_ble_eq_true rfl) (Nat.le_of_ble_eq_true rfl) (q_subk [0, 4, 5] rfl hV)
      · have hV := hV.2 h8
        refine q_run k_PM_at 10 2 23 rfl ?_
        show q_G l cx M_PM_at 4 256 0 0 23 [(0, .inr (.inr x0)), (1, .inl x1), (2, .inl x2), (3, .inl x3), (4, .inl x4), (5, .inl x5)] [.inl (1 : Int32), .inl x5] σ5 R
        refine q_icmp (q_dc k_PM_at 12 rfl) rfl (fun h9 => ?_) (fun h9 => ?_)
        · have hV := hV.1 h9
          exact q_less (Nat.le_of_ble_eq_true rfl) (Nat.le_of_ble_eq_true rfl) (q_subk [0, 4, 5] rfl hV)
        · have hV := hV.2 h9
          exact q_less (Nat.le_of_ble_eq_true rfl) (Nat.le_of_ble_eq_true rfl) (q_subk [0, 4, 5] rfl hV)
def V_PM_spoke (x0 : Nat) (x1 : Int32) (x2 : Int32) (x3 : Int32) (σ : q_S) (R : q_O → q_S → Prop) : Prop :=
  ∀ (P35 : Nat → Int32 → Int32 → Int32 → Nat → q_S → Prop),
  ∀ (P36 : Nat → Int32 → Int32 → Int32 → Int32 → Nat → q_S → Prop),
  ∀ (P124 : Int32 → q_S → Prop),
  ∀ (P139 : Nat → Int32 → Int32 → q_S → Prop),
  ∀ (P184 : Int32 → q_S → Prop),
  ∀ (P191 : Nat → Int32 → Int32 → Int32 → Int32 → q_S → Prop),
  ∀ (P220 : Nat → Int32 → Int32 → Int32 → Int64 → q_S → Prop),
  ∀ (P225 : Nat → Int32 → Int32 → Int32 → Int64 → Int32 → q_S → Prop),
  ∀ (P230 : Nat → Int32 → Int32 → Int32 → Int32 → Int64 → Int32 → q_S → Prop),
  ∀ (P293 : Nat → Int32 → Int32 → Int32 → Int32 → Int64 → Int32 → q_S → Prop),
  ∀ (P324 : Int32 → q_S → Prop),
  (∀ (x0 : Nat) (x1 : Int32) (x2 : Int32) (x3 : Int32) (y0 : Nat) (σ : q_S), (P36 x0 x1 x2 x3 (1 : Int32) y0 σ) → P35 x0 x1 x2 x3 y0 σ) →
  (∀ (x0 : Nat) (x1 : Int32) (x2 : Int32) (x3 : Int32) (y0 : Int32) (y1 : Nat) (σ : q_S), (q_K σ y1 = 7 ∧ ∀ σ1 : q_S, σ1 = q_wI σ y1 0 y0 → q_K σ1 x0 = 7 ∧ (((q_I σ1 x0 0) = (0 : Int32) → q_K σ1 x0 = 7 ∧ (q_K σ1 (q_P σ1 x0 19) = 1000 ∨ q_K σ1 (q_P σ1 x0 19) = 2000) ∧ vp_in ((4 : Int32) * x1) (q_Z σ1 (q_P σ1 x0 19)) ∧ ∀ v5 : Int32, v5 = q_I σ1 (q_P σ1 x0 19) ((4 : Int32) * x1).toNatClampNeg → q_K σ1 x0 = 7 ∧ (q_K σ1 (q_P σ1 x0 19) = 1000 ∨ q_K σ1 (q_P σ1 x0 19) = 2000) ∧ vp_in (((4 : Int32) * x1) + (1 : Int32)) (q_Z σ1 (q_P σ1 x0 19)) ∧ ∀ v9 : Int32, v9 = q_I σ1 (q_P σ1 x0 19) (((4 : Int32) * x1) + (1 : Int32)).toNatClampNeg → ((¬ x3 = (1 : Int32) → ((¬ x3 = (2 : Int32) → P191 x0 x1 x2 (0 : Int32) (0 : Int32) σ1) ∧ (¬ (¬ x3 = (2 : Int32)) → ((x2 = (0 : Int32) → P139 x0 x1 v9 σ1) ∧ (¬ (x2 = (0 : Int32)) → ((¬ x2 = (2 : Int32) → ((¬ x2 = (1 : Int32) → P184 (v9 - (1 : Int32)) σ1) ∧ (¬ (¬ x2 = (1 : Int32)) → q_K σ1 x0 = 7 ∧ (q_K σ1 (q_P σ1 x0 19) = 1000 ∨ q_K σ1 (q_P σ1 x0 19) = 2000) ∧ vp_in (((4 : Int32) * x1) + (3 : Int32)) (q_Z σ1 (q_P σ1 x0 19)) ∧ P184 (v9 + (q_I σ1 (q_P σ1 x0 19) (((4 : Int32) * x1) + (3 : Int32)).toNatClampNeg)) σ1))) ∧ (¬ (¬ x2 = (2 : Int32)) → P139 x0 x1 v9 σ1))))))) ∧ (¬ (¬ x3 = (1 : Int32)) → ((¬ x2 = (0 : Int32) → ((¬ x2 = (2 : Int32) → q_K σ1 x0 = 7 ∧ (q_K σ1 (q_P σ1 x0 19) = 1000 ∨ q_K σ1 (q_P σ1 x0 19) = 2000) ∧ vp_in (((4 : Int32) * x1) + (2 : Int32)) (q_Z σ1 (q_P σ1 x0 19)) ∧ ¬ (2 : Int32) = 0 ∧ P124 (v5 + (((q_I σ1 (q_P σ1 x0 19) (((4 : Int32) * x1) + (2 : Int32)).toNatClampNeg) - (1 : Int32)) / (2 : Int32))) σ1) ∧ (¬ (¬ x2 = (2 : Int32)) → P124 (v5 - (1 : Int32)) σ1))) ∧ (¬ (¬ x2 = (0 : Int32)) → q_K σ1 x0 = 7 ∧ (q_K σ1 (q_P σ1 x0 19) = 1000 ∨ q_K σ1 (q_P σ1 x0 19) = 2000) ∧ vp_in (((4 : Int32) * x1) + (2 : Int32)) (q_Z σ1 (q_P σ1 x0 19)) ∧ P124 (v5 + (q_I σ1 (q_P σ1 x0 19) (((4 : Int32) * x1) + (2 : Int32)).toNatClampNeg)) σ1))))) ∧ (¬ ((q_I σ1 x0 0) = (0 : Int32)) → R (.inl (some (.inl (0 : Int32)))) σ1))) → P36 x0 x1 x2 x3 y0 y1 σ) →
  (∀ (y0 : Int32) (σ : q_S), (R (.inl (some (.inl y0))) σ) → P124 y0 σ) →
  (∀ (x0 : Nat) (x1 : Int32) (x5 : Int32) (σ : q_S), (q_K σ x0 = 7 ∧ (q_K σ (q_P σ x0 19) = 1000 ∨ q_K σ (q_P σ x0 19) = 2000) ∧ vp_in (((4 : Int32) * x1) + (3 : Int32)) (q_Z σ (q_P σ x0 19)) ∧ ¬ (2 : Int32) = 0 ∧ P184 (x5 + (((q_I σ (q_P σ x0 19) (((4 : Int32) * x1) + (3 : Int32)).toNatClampNeg) - (1 : Int32)) / (2 : Int32))) σ) → P139 x0 x1 x5 σ) →
  (∀ (y0 : Int32) (σ : q_S), (R (.inl (some (.inl y0))) σ) → P184 y0 σ) →
  (∀ (x0 : Nat) (x1 : Int32) (x2 : Int32) (x6 : Int32) (x7 : Int32) (σ : q_S), ((((24 : Int32) ≤ x7 → ((x6 = (0 : Int32) → P324 (0 : Int32) σ) ∧ (¬ (x6 = (0 : Int32)) → P324 (1 : Int32) σ))) ∧ (¬ ((24 : Int32) ≤ x7) → q_K σ x0 = 7 ∧ V_PM_spokeBits x0 x1 x2 x7 σ (q_cl' (fun v6 σ7 => ((¬ x6 = (0 : Int32) → P220 x0 x1 x2 x7 v6 σ7) ∧ (¬ (¬ x6 = (0 : Int32)) → (((lg_cmp v6 (0 : Int64)) = (0 : Int32) → P225 x0 x1 x2 x7 v6 (0 : Int32) σ7) ∧ (¬ ((lg_cmp v6 (0 : Int64)) = (0 : Int32)) → P220 x0 x1 x2 x7 v6 σ7))))) (fun n9 σ9 => R (.inr n9) σ9))))) → P191 x0 x1 x2 x6 x7 σ) →
  (∀ (x0 : Nat) (x1 : Int32) (x2 : Int32) (x7 : Int32) (x8 : Int64) (σ : q_S), (P225 x0 x1 x2 x7 x8 (1 : Int32) σ) → P220 x0 x1 x2 x7 x8 σ) →
  (∀ (x0 : Nat) (x1 : Int32) (x2 : Int32) (x7 : Int32) (x8 : Int64) (y0 : Int32) (σ : q_S), (P230 x0 x1 x2 y0 x7 x8 (0 : Int32) σ) → P225 x0 x1 x2 x7 x8 y0 σ) →
  (∀ (x0 : Nat) (x1 : Int32) (x2 : Int32) (x6 : Int32) (x7 : Int32) (x8 : Int64) (x10 : Int32) (σ : q_S), (q_K σ x0 = 7 ∧ (((q_I σ x0 2) ≤ x10 → (((lg_cmp x8 (0 : Int64)) = (0 : Int32) → ∀ v4 : Int32, v4 = x7 + (1 : Int32) → P191 x0 x1 x2 x6 v4 σ) ∧ (¬ ((lg_cmp x8 (0 : Int64)) = (0 : Int32)) → R (.inl (some (.inl (0 : Int32)))) σ))) ∧ (¬ ((q_I σ x0 2) ≤ x10) → q_K σ x0 = 7 ∧ (q_K σ (q_P σ x0 3) = 1000 ∨ q_K σ (q_P σ x0 3) = 2000) ∧ vp_in x10 (q_Z σ (q_P σ x0 3)) ∧ q_K σ x0 = 7 ∧ (q_K σ (q_P σ x0 17) = 1000 ∨ q_K σ (q_P σ x0 17) = 2000) ∧ vp_in x1 (q_Z σ (q_P σ x0 17)) ∧ ((¬ (q_I σ (q_P σ x0 3) x10.toNatClampNeg) = (q_I σ (q_P σ x0 17) x1.toNatClampNeg) → P293 x0 x1 x2 x6 x7 x8 x10 σ) ∧ (¬ (¬ (q_I σ (q_P σ x0 3) x10.toNatClampNeg) = (q_I σ (q_P σ x0 17) x1.toNatClampNeg)) → q_K σ x0 = 7 ∧ (q_K σ (q_P σ x0 4) = 1000 ∨ q_K σ (q_P σ x0 4) = 2000) ∧ vp_in x10 (q_Z σ (q_P σ x0 4)) ∧ q_K σ x0 = 7 ∧ (q_K σ (q_P σ x0 18) = 1000 ∨ q_K σ (q_P σ x0 18) = 2000) ∧ vp_in x1 (q_Z σ (q_P σ x0 18)) ∧ ((¬ (q_I σ (q_P σ x0 4) x10.toNatClampNeg) = (q_I σ (q_P σ x0 18) x1.toNatClampNeg) → P293 x0 x1 x2 x6 x7 x8 x10 σ) ∧ (¬ (¬ (q_I σ (q_P σ x0 4) x10.toNatClampNeg) = (q_I σ (q_P σ x0 18) x1.toNatClampNeg)) → q_K σ x0 = 7 ∧ q_K σ (q_P σ x0 21) = 1001 ∧ vp_in (((24 : Int32) * x10) + x7) (q_Z σ (q_P σ x0 21)) ∧ ∀ v19 : Int64, v19 = x8 &&& ((q_L σ (q_P σ x0 21) (((24 : Int32) * x10) + x7).toNatClampNeg) ^^^ (-1 : Int64)) → P293 x0 x1 x2 x6 x7 v19 x10 σ))))))) → P230 x0 x1 x2 x6 x7 x8 x10 σ) →
  (∀ (x0 : Nat) (x1 : Int32) (x2 : Int32) (x6 : Int32) (x7 : Int32) (x8 : Int64) (x10 : Int32) (σ : q_S), (∀ v1 : Int32, v1 = x10 + (1 : Int32) → P230 x0 x1 x2 x6 x7 x8 v1 σ) → P293 x0 x1 x2 x6 x7 x8 x10 σ) →
  (∀ (y0 : Int32) (σ : q_S), (R (.inl (some (.inl y0))) σ) → P324 y0 σ) →
  ((x1 < (0 : Int32) → P35 x0 x1 x2 x3 x0 σ) ∧ (¬ (x1 < (0 : Int32)) → q_K σ x0 = 7 ∧ (((q_I σ x0 16) ≤ x1 → P35 x0 x1 x2 x3 x0 σ) ∧ (¬ ((q_I σ x0 16) ≤ x1) → ((x2 < (0 : Int32) → P35 x0 x1 x2 x3 x0 σ) ∧ (¬ (x2 < (0 : Int32)) → (((4 : Int32) ≤ x2 → P35 x0 x1 x2 x3 x0 σ) ∧ (¬ ((4 : Int32) ≤ x2) → ((x3 < (0 : Int32) → P35 x0 x1 x2 x3 x0 σ) ∧ (¬ (x3 < (0 : Int32)) → (((3 : Int32) ≤ x3 → P35 x0 x1 x2 x3 x0 σ) ∧ (¬ ((3 : Int32) ≤ x3) → P36 x0 x1 x2 x3 (0 : Int32) x0 σ))))))))))))
set_option maxRecDepth 100000 in
theorem t_PM_spoke {l : Launch} {cx : q_C} {x0 : Nat} {x1 : Int32} {x2 : Int32} {x3 : Int32} {σ : q_S} {R : q_O → q_S → Prop} (hV : V_PM_spoke x0 x1 x2 x3 σ R) : q_Ct l cx M_PM_spoke 3 192 0 0 [q_r x0, q_i x1, q_i x2, q_i x3] σ R := by
  refine q_Ct.of p_PM_spoke c_PM_spoke rfl (Nat.le_of_ble_eq_true rfl) ?_
  have hV := hV (fun (x0 : Nat) (x1 : Int32) (x2 : Int32) (x3 : Int32) (y0 : Nat) (σ : q_S) => q_G l cx M_PM_spoke 3 192 0 0 35 [(0, .inr (.inr x0)), (1, .inl x1), (2, .inl x2), (3, .inl x3)] [.inr (.inr y0)] σ R) (fun (x0 : Nat) (x1 : Int32) (x2 : Int32) (x3 : Int32) (y0 : Int32) (y1 : Nat) (σ : q_S) => q_G l cx M_PM_spoke 3 192 0 0 36 [(0, .inr (.inr x0)), (1, .inl x1), (2, .inl x2), (3, .inl x3)] [.inl y0, .inr (.inr y1)] σ R) (fun (y0 : Int32) (σ : q_S) => q_G l cx M_PM_spoke 3 192 0 0 124 [] [.inl y0] σ R) (fun (x0 : Nat) (x1 : Int32) (x5 : Int32) (σ : q_S) => q_G l cx M_PM_spoke 3 192 0 0 139 [(0, .inr (.inr x0)), (1, .inl x1), (5, .inl x5)] [] σ R) (fun (y0 : Int32) (σ : q_S) => q_G l cx M_PM_spoke 3 192 0 0 184 [] [.inl y0] σ R) (fun (x0 : Nat) (x1 : Int32) (x2 : Int32) (x6 : Int32) (x7 : Int32) (σ : q_S) => q_G l cx M_PM_spoke 3 192 0 0 191 [(0, .inr (.inr x0)), (1, .inl x1), (2, .inl x2), (6, .inl x6), (7, .inl x7)] [] σ R) (fun (x0 : Nat) (x1 : Int32) (x2 : Int32) (x7 : Int32) (x8 : Int64) (σ : q_S) => q_G l cx M_PM_spoke 3 192 0 0 220 [(0, .inr (.inr x0)), (1, .inl x1), (2, .inl x2), (7, .inl x7), (8, .inr (.inl x8))] [] σ R) (fun (x0 : Nat) (x1 : Int32) (x2 : Int32) (x7 : Int32) (x8 : Int64) (y0 : Int32) (σ : q_S) => q_G l cx M_PM_spoke 3 192 0 0 225 [(0, .inr (.inr x0)), (1, .inl x1), (2, .inl x2), (7, .inl x7), (8, .inr (.inl x8))] [.inl y0] σ R) (fun (x0 : Nat) (x1 : Int32) (x2 : Int32) (x6 : Int32) (x7 : Int32) (x8 : Int64) (x10 : Int32) (σ : q_S) => q_G l cx M_PM_spoke 3 192 0 0 230 [(0, .inr (.inr x0)), (1, .inl x1), (2, .inl x2), (6, .inl x6), (7, .inl x7), (8, .inr (.inl x8)), (10, .inl x10)] [] σ R) (fun (x0 : Nat) (x1 : Int32) (x2 : Int32) (x6 : Int32) (x7 : Int32) (x8 : Int64) (x10 : Int32) (σ : q_S) => q_G l cx M_PM_spoke 3 192 0 0 293 [(0, .inr (.inr x0)), (1, .inl x1), (2, .inl x2), (6, .inl x6), (7, .inl x7), (8, .inr (.inl x8)), (10, .inl x10)] [] σ R) (fun (y0 : Int32) (σ : q_S) => q_G l cx M_PM_spoke 3 192 0 0 324 [] [.inl y0] σ R)
  have hV := hV (by
      intro x0 x1 x2 x3 y0 σ hV
      show q_G l cx M_PM_spoke 3 192 0 0 35 [(0, .inr (.inr x0)), (1, .inl x1), (2, .inl x2), (3, .inl x3)] [.inr (.inr y0)] σ R
      refine q_run k_PM_spoke 19 1 36 rfl ?_
      show q_G l cx M_PM_spoke 3 192 0 0 36 [(0, .inr (.inr x0)), (1, .inl x1), (2, .inl x2), (3, .inl x3)] [.inl (1 : Int32), .inr (.inr y0)] σ R
      exact q_less (Nat.le_of_ble_eq_true rfl) (Nat.le_of_ble_eq_true rfl) (q_subk [0, 1, 2, 3] rfl hV))
  have hV := hV (by
      intro x0 x1 x2 x3 y0 y1 σ hV
      show q_G l cx M_PM_spoke 3 192 0 0 36 [(0, .inr (.inr x0)), (1, .inl x1), (2, .inl x2), (3, .inl x3)] [.inl y0, .inr (.inr y1)] σ R
      refine q_run k_PM_spoke 20 1 39 rfl ?_
      show q_K σ y1 = 7 ∧ q_G l cx M_PM_spoke 3 192 0 0 39 [(0, .inr (.inr x0)), (1, .inl x1), (2, .inl x2), (3, .inl x3)] [] (q_wI σ y1 0 y0) R
      obtain ⟨s2, hV⟩ := hV
      refine ⟨s2, ?_⟩
      refine q_let (fun σ1 => q_G l cx M_PM_spoke 3 192 0 0 39 [(0, .inr (.inr x0)), (1, .inl x1), (2, .inl x2), (3, .inl x3)] [] σ1 R) (q_wI σ y1 0 y0) (fun σ1 e_σ1 => ?_)
      have hV := hV σ1 e_σ1
      refine q_run k_PM_spoke 21 2 43 rfl ?_
      show q_K σ1 x0 = 7 ∧ q_G l cx M_PM_spoke 3 192 0 0 43 [(0, .inr (.inr x0)), (1, .inl x1), (2, .inl x2), (3, .inl x3)] [.inl (q_I σ1 x0 0)] σ1 R
      obtain ⟨s3, hV⟩ := hV
      refine ⟨s3, ?_⟩
      refine q_ifz (q_dc k_PM_spoke 23 rfl) rfl (fun h4 => ?_) (fun h4 => ?_)
      · have hV := hV.1 h4
        refine q_run k_PM_spoke 26 7 58 rfl ?_
        show q_K σ1 x0 = 7 ∧ (q_K σ1 (q_P σ1 x0 19) = 1000 ∨ q_K σ1 (q_P σ1 x0 19) = 2000) ∧ vp_in ((4 : Int32) * x1) (q_Z σ1 (q_P σ1 x0 19)) ∧ q_G l cx M_PM_spoke 3 192 0 0 58 [(4, .inl (q_I σ1 (q_P σ1 x0 19) ((4 : Int32) * x1).toNatClampNeg)), (0, .inr (.inr x0)), (1, .inl x1), (2, .inl x2), (3, .inl x3)] [] σ1 R
        obtain ⟨s6, s7, s8, hV⟩ := hV
        refine ⟨s6, s7, s8, ?_⟩
        refine q_let (fun v5 => q_G l cx M_PM_spoke 3 192 0 0 58 [(4, .inl v5), (0, .inr (.inr x0)), (1, .inl x1), (2, .inl x2), (3, .inl x3)] [] σ1 R) (q_I σ1 (q_P σ1 x0 19) ((4 : Int32) * x1).toNatClampNeg) (fun v5 e_v5 => ?_)
        have hV := hV v5 e_v5
        refine q_run k_PM_spoke 33 9 70 rfl ?_
        show q_K σ1 x0 = 7 ∧ (q_K σ1 (q_P σ1 x0 19) = 1000 ∨ q_K σ1 (q_P σ1 x0 19) = 2000) ∧ vp_in (((4 : Int32) * x1) + (1 : Int32)) (q_Z σ1 (q_P σ1 x0 19)) ∧ q_G l cx M_PM_spoke 3 192 0 0 70 [(5, .inl (q_I σ1 (q_P σ1 x0 19) (((4 : Int32) * x1) + (1 : Int32)).toNatClampNeg)), (4, .inl v5), (0, .inr (.inr x0)), (1, .inl x1), (2, .inl x2), (3, .inl x3)] [] σ1 R
        obtain ⟨s10, s11, s12, hV⟩ := hV
        refine ⟨s10, s11, s12, ?_⟩
        refine q_let (fun v9 => q_G l cx M_PM_spoke 3 192 0 0 70 [(5, .inl v9), (4, .inl v5), (0, .inr (.inr x0)), (1, .inl x1), (2, .inl x2), (3, .inl x3)] [] σ1 R) (q_I σ1 (q_P σ1 x0 19) (((4 : Int32) * x1) + (1 : Int32)).toNatClampNeg) (fun v9 e_v9 => ?_)
        have hV := hV v9 e_v9
        refine q_run k_PM_spoke 42 2 72 rfl ?_
        show q_G l cx M_PM_spoke 3 192 0 0 72 [(5, .inl v9), (4, .inl v5), (0, .inr (.inr x0)), (1, .inl x1), (2, .inl x2), (3, .inl x3)] [.inl (1 : Int32), .inl x3] σ1 R
        refine q_icmp (q_dc k_PM_spoke 44 rfl) rfl (fun h13 => ?_) (fun h13 => ?_)
        · have hV := hV.1 h13
          refine q_run k_PM_spoke 80 2 127 rfl ?_
          show q_G l cx M_PM_spoke 3 192 0 0 127 [(5, .inl v9), (4, .inl v5), (0, .inr (.inr x0)), (1, .inl x1), (2, .inl x2), (3, .inl x3)] [.inl (2 : Int32), .inl x3] σ1 R
          refine q_icmp (q_dc k_PM_spoke 82 rfl) rfl (fun h14 => ?_) (fun h14 => ?_)
          · have hV := hV.1 h14
            refine q_run k_PM_spoke 121 4 191 rfl ?_
            show q_G l cx M_PM_spoke 3 192 0 0 191 [(7, .inl (0 : Int32)), (6, .inl (0 : Int32)), (5, .inl v9), (4, .inl v5), (0, .inr (.inr x0)), (1, .inl x1), (2, .inl x2), (3, .inl x3)] [] σ1 R
            exact q_less (Nat.le_of_ble_eq_true rfl) (Nat.le_of_ble_eq_true rfl) (q_subk [4, 5, 6, 1, 0] rfl hV)
          · have hV := hV.2 h14
            refine q_run k_PM_spoke 83 1 131 rfl ?_
            show q_G l cx M_PM_spoke 3 192 0 0 131 [(5, .inl v9), (4, .inl v5), (0, .inr (.inr x0)), (1, .inl x1), (2, .inl x2), (3, .inl x3)] [.inl x2] σ1 R
            refine q_ifz (q_dc k_PM_spoke 84 rfl) rfl (fun h15 => ?_) (fun h15 => ?_)
            · have hV := hV.1 h15
              exact q_less (Nat.le_of_ble_eq_true rfl) (Nat.le_of_ble_eq_true rfl) (q_subk [2, 3, 0] rfl hV)
            · have hV := hV.2 h15
              refine q_run k_PM_spoke 85 2 136 rfl ?_
              show q_G l cx M_PM_spoke 3 192 0 0 136 [(5, .inl v9), (4, .inl v5), (0, .inr (.inr x0)), (1, .inl x1), (2, .inl x2), (3, .inl x3)] [.inl (2 : Int32), .inl x2] σ1 R
              refine q_icmp (q_dc k_PM_spoke 87 rfl) rfl (fun h16 => ?_) (fun h16 => ?_)
              · have hV := hV.1 h16
                refine q_run k_PM_spoke 103 2 161 rfl ?_
                show q_G l cx M_PM_spoke 3 192 0 0 161 [(5, .inl v9), (4, .inl v5), (0, .inr (.inr x0)), (1, .inl x1), (2, .inl x2), (3, .inl x3)] [.inl (1 : Int32), .inl x2] σ1 R
                refine q_icmp (q_dc k_PM_spoke 105 rfl) rfl (fun h17 => ?_) (fun h17 => ?_)
                · have hV := hV.1 h17
                  refine q_run k_PM_spoke 117 3 184 rfl ?_
                  show q_G l cx M_PM_spoke 3 192 0 0 184 [(5, .inl v9), (4, .inl v5), (0, .inr (.inr x0)), (1, .inl x1), (2, .inl x2), (3, .inl x3)] [.inl (v9 - (1 : Int32))] σ1 R
                  exact q_less (Nat.le_of_ble_eq_true rfl) (Nat.le_of_ble_eq_true rfl) (q_subk [] rfl hV)
                · have hV := hV.2 h17
                  refine q_run k_PM_spoke 106 10 177 rfl ?_
                  show q_K σ1 x0 = 7 ∧ (q_K σ1 (q_P σ1 x0 19) = 1000 ∨ q_K σ1 (q_P σ1 x0 19) = 2000) ∧ vp_in (((4 : Int32) * x1) + (3 : Int32)) (q_Z σ1 (q_P σ1 x0 19)) ∧ q_G l cx M_PM_spoke 3 192 0 0 177 [(5, .inl v9), (4, .inl v5), (0, .inr (.inr x0)), (1, .inl x1), (2, .inl x2), (3, .inl x3)] [.inl (v9 + (q_I σ1 (q_P σ1 x0 19) (((4 : Int32) * x1) + (3 : Int32)).toNatClampNeg))] σ1 R
                  obtain ⟨s18, s19, s20, hV⟩ := hV
                  refine ⟨s18, s19, s20, ?_⟩
                  refine q_goto (q_dc k_PM_spoke 116 rfl) rfl ?_
                  exact q_less (Nat.le_of_ble_eq_true rfl) (Nat.le_of_ble_eq_true rfl) (q_subk [] rfl hV)
              · have hV := hV.2 h16
                exact q_less (Nat.le_of_ble_eq_true rfl) (Nat.le_of_ble_eq_true rfl) (q_subk [2, 3, 0] rfl hV)
        · have hV := hV.2 h13
          refine q_run k_PM_spoke 45 1 76 rfl ?_
          show q_G l cx M_PM_spoke 3 192 0 0 76 [(5, .inl v9), (4, .inl v5), (0, .inr (.inr x0)), (1, .inl x1), (2, .inl x2), (3, .inl x3)] [.inl x2] σ1 R
          refine q_ifz (q_dc k_PM_spoke 46 rfl) rfl (fun h21 => ?_) (fun h21 => ?_)
          · have hV := hV.1 h21
            refine q_run k_PM_spoke 58 2 97 rfl ?_
            show q_G l cx M_PM_spoke 3 192 0 0 97 [(5, .inl v9), (4, .inl v5), (0, .inr (.inr x0)), (1, .inl x1), (2, .inl x2), (3, .inl x3)] [.inl (2 : Int32), .inl x2] σ1 R
            refine q_icmp (q_dc k_PM_spoke 60 rfl) rfl (fun h22 => ?_) (fun h22 => ?_)
            · have hV := hV.1 h22
              refine q_run k_PM_spoke 65 14 124 rfl ?_
              show q_K σ1 x0 = 7 ∧ (q_K σ1 (q_P σ1 x0 19) = 1000 ∨ q_K σ1 (q_P σ1 x0 19) = 2000) ∧ vp_in (((4 : Int32) * x1) + (2 : Int32)) (q_Z σ1 (q_P σ1 x0 19)) ∧ ¬ (2 : Int32) = 0 ∧ q_G l cx M_PM_spoke 3 192 0 0 124 [(5, .inl v9), (4, .inl v5), (0, .inr (.inr x0)), (1, .inl x1), (2, .inl x2), (3, .inl x3)] [.inl (v5 + (((q_I σ1 (q_P σ1 x0 19) (((4 : Int32) * x1) + (2 : Int32)).toNatClampNeg) - (1 : Int32)) / (2 : Int32)))] σ1 R
              obtain ⟨s23, s24, s25, s26, hV⟩ := hV
              refine ⟨s23, s24, s25, s26, ?_⟩
              exact q_less (Nat.le_of_ble_eq_true rfl) (Nat.le_of_ble_eq_true rfl) (q_subk [] rfl hV)
            · have hV := hV.2 h22
              refine q_run k_PM_spoke 61 3 104 rfl ?_
              show q_G l cx M_PM_spoke 3 192 0 0 104 [(5, .inl v9), (4, .inl v5), (0, .inr (.inr x0)), (1, .inl x1), (2, .inl x2), (3, .inl x3)] [.inl (v5 - (1 : Int32))] σ1 R
              refine q_goto (q_dc k_PM_spoke 64 rfl) rfl ?_
              exact q_less (Nat.le_of_ble_eq_true rfl) (Nat.le_of_ble_eq_true rfl) (q_subk [] rfl hV)
          · have hV := hV.2 h21
            refine q_run k_PM_spoke 47 10 92 rfl ?_
            show q_K σ1 x0 = 7 ∧ (q_K σ1 (q_P σ1 x0 19) = 1000 ∨ q_K σ1 (q_P σ1 x0 19) = 2000) ∧ vp_in (((4 : Int32) * x1) + (2 : Int32)) (q_Z σ1 (q_P σ1 x0 19)) ∧ q_G l cx M_PM_spoke 3 192 0 0 92 [(5, .inl v9), (4, .inl v5), (0, .inr (.inr x0)), (1, .inl x1), (2, .inl x2), (3, .inl x3)] [.inl (v5 + (q_I σ1 (q_P σ1 x0 19) (((4 : Int32) * x1) + (2 : Int32)).toNatClampNeg))] σ1 R
            obtain ⟨s27, s28, s29, hV⟩ := hV
            refine ⟨s27, s28, s29, ?_⟩
            refine q_goto (q_dc k_PM_spoke 57 rfl) rfl ?_
            exact q_less (Nat.le_of_ble_eq_true rfl) (Nat.le_of_ble_eq_true rfl) (q_subk [] rfl hV)
      · have hV := hV.2 h4
        refine q_run k_PM_spoke 24 1 47 rfl ?_
        show q_G l cx M_PM_spoke 3 192 0 0 47 [(0, .inr (.inr x0)), (1, .inl x1), (2, .inl x2), (3, .inl x3)] [.inl (0 : Int32)] σ1 R
        exact q_ireturn (q_dc k_PM_spoke 25 rfl) rfl hV)
  have hV := hV (by
      intro y0 σ hV
      show q_G l cx M_PM_spoke 3 192 0 0 124 [] [.inl y0] σ R
      exact q_ireturn (q_dc k_PM_spoke 79 rfl) rfl hV)
  have hV := hV (by
      intro x0 x1 x5 σ hV
      show q_G l cx M_PM_spoke 3 192 0 0 139 [(0, .inr (.inr x0)), (1, .inl x1), (5, .inl x5)] [] σ R
      refine q_run k_PM_spoke 88 14 156 rfl ?_
      show q_K σ x0 = 7 ∧ (q_K σ (q_P σ x0 19) = 1000 ∨ q_K σ (q_P σ x0 19) = 2000) ∧ vp_in (((4 : Int32) * x1) + (3 : Int32)) (q_Z σ (q_P σ x0 19)) ∧ ¬ (2 : Int32) = 0 ∧ q_G l cx M_PM_spoke 3 192 0 0 156 [(0, .inr (.inr x0)), (1, .inl x1), (5, .inl x5)] [.inl (x5 + (((q_I σ (q_P σ x0 19) (((4 : Int32) * x1) + (3 : Int32)).toNatClampNeg) - (1 : Int32)) / (2 : Int32)))] σ R
      obtain ⟨s1, s2, s3, s4, hV⟩ := hV
      refine ⟨s1, s2, s3, s4, ?_⟩
      refine q_goto (q_dc k_PM_spoke 102 rfl) rfl ?_
      exact q_less (Nat.le_of_ble_eq_true rfl) (Nat.le_of_ble_eq_true rfl) (q_subk [] rfl hV))
  have hV := hV (by
      intro y0 σ hV
      show q_G l cx M_PM_spoke 3 192 0 0 184 [] [.inl y0] σ R
      exact q_ireturn (q_dc k_PM_spoke 120 rfl) rfl hV)
  have hV := hV (by
      intro x0 x1 x2 x6 x7 σ hV
      show q_G l cx M_PM_spoke 3 192 0 0 191 [(0, .inr (.inr x0)), (1, .inl x1), (2, .inl x2), (6, .inl x6), (7, .inl x7)] [] σ R
      refine q_run k_PM_spoke 125 2 195 rfl ?_
      show q_G l cx M_PM_spoke 3 192 0 0 195 [(0, .inr (.inr x0)), (1, .inl x1), (2, .inl x2), (6, .inl x6), (7, .inl x7)] [.inl (24 : Int32), .inl x7] σ R
      refine q_icmp (q_dc k_PM_spoke 127 rfl) rfl (fun h1 => ?_) (fun h1 => ?_)
      · have hV := hV.1 h1
        refine q_run k_PM_spoke 191 1 316 rfl ?_
        show q_G l cx M_PM_spoke 3 192 0 0 316 [(0, .inr (.inr x0)), (1, .inl x1), (2, .inl x2), (6, .inl x6), (7, .inl x7)] [.inl x6] σ R
        refine q_ifz (q_dc k_PM_spoke 192 rfl) rfl (fun h2 => ?_) (fun h2 => ?_)
        · have hV := hV.1 h2
          refine q_run k_PM_spoke 195 1 324 rfl ?_
          show q_G l cx M_PM_spoke 3 192 0 0 324 [(0, .inr (.inr x0)), (1, .inl x1), (2, .inl x2), (6, .inl x6), (7, .inl x7)] [.inl (0 : Int32)] σ R
          exact q_less (Nat.le_of_ble_eq_true rfl) (Nat.le_of_ble_eq_true rfl) (q_subk [] rfl hV)
        · have hV := hV.2 h2
          refine q_run k_PM_spoke 193 1 320 rfl ?_
          show q_G l cx M_PM_spoke 3 192 0 0 320 [(0, .inr (.inr x0)), (1, .inl x1), (2, .inl x2), (6, .inl x6), (7, .inl x7)] [.inl (1 : Int32)] σ R
          refine q_goto (q_dc k_PM_spoke 194 rfl) rfl ?_
          exact q_less (Nat.le_of_ble_eq_true rfl) (Nat.le_of_ble_eq_true rfl) (q_subk [] rfl hV)
      · have hV := hV.2 h1
        refine q_run k_PM_spoke 128 4 203 rfl ?_
        show q_G l cx M_PM_spoke 3 192 0 0 203 [(0, .inr (.inr x0)), (1, .inl x1), (2, .inl x2), (6, .inl x6), (7, .inl x7)] [.inl x7, .inl x2, .inl x1, .inr (.inr x0)] σ R
        obtain ⟨s3, hV⟩ := hV
        refine q_callV (st := []) (as := [.inl x1, .inl x2, .inl x7]) (t_PM_spokeBits (l := l) (cx := cx)  hV) (q_dc k_PM_spoke 132 rfl) (Or.inl (List.mem_of_getElem? (i := 1020) (by decide +kernel))) w_PM_spokeBits n_PM_spokeBits (ci := 6) rfl e_PM_spokeBits a_PM_spokeBits (q_wt (Nat.le_of_ble_eq_true rfl)) ⟨Nat.le_of_ble_eq_true rfl, Nat.le_of_ble_eq_true rfl⟩ s3 (fun v9 τ9 q9 => ?_) (fun n9 τ9 q9 => q_T.leave rfl q9)
        obtain ⟨v6, rfl, hV⟩ := q_cl_elim q9
        clear q9
        have hV := hV
        revert hV
        generalize τ9 = σ7
        intro hV
        show q_G l cx M_PM_spoke 3 192 0 0 206 [(0, .inr (.inr x0)), (1, .inl x1), (2, .inl x2), (6, .inl x6), (7, .inl x7)] [.inr (.inl v6)] σ7 R
        refine q_run k_PM_spoke 133 2 210 rfl ?_
        show q_G l cx M_PM_spoke 3 192 0 0 210 [(8, .inr (.inl v6)), (0, .inr (.inr x0)), (1, .inl x1), (2, .inl x2), (6, .inl x6), (7, .inl x7)] [.inl x6] σ7 R
        refine q_ifz (q_dc k_PM_spoke 135 rfl) rfl (fun h8 => ?_) (fun h8 => ?_)
        · have hV := hV.1 h8
          exact q_less (Nat.le_of_ble_eq_true rfl) (Nat.le_of_ble_eq_true rfl) (q_subk [1, 2, 3, 5, 0] rfl hV)
        · have hV := hV.2 h8
          refine q_run k_PM_spoke 136 3 217 rfl ?_
          show q_G l cx M_PM_spoke 3 192 0 0 217 [(8, .inr (.inl v6)), (0, .inr (.inr x0)), (1, .inl x1), (2, .inl x2), (6, .inl x6), (7, .inl x7)] [.inl (lg_cmp v6 (0 : Int64))] σ7 R
          refine q_ifz (q_dc k_PM_spoke 139 rfl) rfl (fun h9 => ?_) (fun h9 => ?_)
          · have hV := hV.1 h9
            refine q_run k_PM_spoke 142 1 225 rfl ?_
            show q_G l cx M_PM_spoke 3 192 0 0 225 [(8, .inr (.inl v6)), (0, .inr (.inr x0)), (1, .inl x1), (2, .inl x2), (6, .inl x6), (7, .inl x7)] [.inl (0 : Int32)] σ7 R
            exact q_less (Nat.le_of_ble_eq_true rfl) (Nat.le_of_ble_eq_true rfl) (q_subk [1, 2, 3, 5, 0] rfl hV)
          · have hV := hV.2 h9
            exact q_less (Nat.le_of_ble_eq_true rfl) (Nat.le_of_ble_eq_true rfl) (q_subk [1, 2, 3, 5, 0] rfl hV))
  have hV := hV (by
      intro x0 x1 x2 x7 x8 σ hV
      show q_G l cx M_PM_spoke 3 192 0 0 220 [(0, .inr (.inr x0)), (1, .inl x1), (2, .inl x2), (7, .inl x7), (8, .inr (.inl x8))] [] σ R
      refine q_run k_PM_spoke 140 1 221 rfl ?_
      show q_G l cx M_PM_spoke 3 192 0 0 221 [(0, .inr (.inr x0)), (1, .inl x1), (2, .inl x2), (7, .inl x7), (8, .inr (.inl x8))] [.inl (1 : Int32)] σ R
      refine q_goto (q_dc k_PM_spoke 141 rfl) rfl ?_
      exact q_less (Nat.le_of_ble_eq_true rfl) (Nat.le_of_ble_eq_true rfl) (q_subk [0, 1, 2, 3, 4] rfl hV))
  have hV := hV (by
      intro x0 x1 x2 x7 x8 y0 σ hV
      show q_G l cx M_PM_spoke 3 192 0 0 225 [(0, .inr (.inr x0)), (1, .inl x1), (2, .inl x2), (7, .inl x7), (8, .inr (.inl x8))] [.inl y0] σ R
      refine q_run k_PM_spoke 143 3 230 rfl ?_
      show q_G l cx M_PM_spoke 3 192 0 0 230 [(10, .inl (0 : Int32)), (6, .inl y0), (0, .inr (.inr x0)), (1, .inl x1), (2, .inl x2), (7, .inl x7), (8, .inr (.inl x8))] [] σ R
      exact q_less (Nat.le_of_ble_eq_true rfl) (Nat.le_of_ble_eq_true rfl) (q_subk [2, 3, 4, 1, 5, 6, 0] rfl hV))
  have hV := hV (by
      intro x0 x1 x2 x6 x7 x8 x10 σ hV
      show q_G l cx M_PM_spoke 3 192 0 0 230 [(0, .inr (.inr x0)), (1, .inl x1), (2, .inl x2), (6, .inl x6), (7, .inl x7), (8, .inr (.inl x8)), (10, .inl x10)] [] σ R
      refine q_run k_PM_spoke 146 3 236 rfl ?_
      show q_K σ x0 = 7 ∧ q_G l cx M_PM_spoke 3 192 0 0 236 [(0, .inr (.inr x0)), (1, .inl x1), (2, .inl x2), (6, .inl x6), (7, .inl x7), (8, .inr (.inl x8)), (10, .inl x10)] [.inl (q_I σ x0 2), .inl x10] σ R
      obtain ⟨s1, hV⟩ := hV
      refine ⟨s1, ?_⟩
      refine q_icmp (q_dc k_PM_spoke 149 rfl) rfl (fun h2 => ?_) (fun h2 => ?_)
      · have hV := hV.1 h2
        refine q_run k_PM_spoke 183 3 303 rfl ?_
        show q_G l cx M_PM_spoke 3 192 0 0 303 [(0, .inr (.inr x0)), (1, .inl x1), (2, .inl x2), (6, .inl x6), (7, .inl x7), (8, .inr (.inl x8)), (10, .inl x10)] [.inl (lg_cmp x8 (0 : Int64))] σ R
        refine q_ifz (q_dc k_PM_spoke 186 rfl) rfl (fun h3 => ?_) (fun h3 => ?_)
        · have hV := hV.1 h3
          refine q_run k_PM_spoke 189 1 311 rfl ?_
          show q_G l cx M_PM_spoke 3 192 0 0 311 [(7, .inl (x7 + (1 : Int32))), (0, .inr (.inr x0)), (1, .inl x1), (2, .inl x2), (6, .inl x6), (8, .inr (.inl x8)), (10, .inl x10)] [] σ R
          refine q_let (fun v4 => q_G l cx M_PM_spoke 3 192 0 0 311 [(7, .inl v4), (0, .inr (.inr x0)), (1, .inl x1), (2, .inl x2), (6, .inl x6), (8, .inr (.inl x8)), (10, .inl x10)] [] σ R) (x7 + (1 : Int32)) (fun v4 e_v4 => ?_)
          have hV := hV v4 e_v4
          refine q_goto (q_dc k_PM_spoke 190 rfl) rfl ?_
          exact q_less (Nat.le_of_ble_eq_true rfl) (Nat.le_of_ble_eq_true rfl) (q_subk [1, 2, 3, 4, 0] rfl hV)
        · have hV := hV.2 h3
          refine q_run k_PM_spoke 187 1 307 rfl ?_
          show q_G l cx M_PM_spoke 3 192 0 0 307 [(0, .inr (.inr x0)), (1, .inl x1), (2, .inl x2), (6, .inl x6), (7, .inl x7), (8, .inr (.inl x8)), (10, .inl x10)] [.inl (0 : Int32)] σ R
          exact q_ireturn (q_dc k_PM_spoke 188 rfl) rfl hV
      · have hV := hV.2 h2
        refine q_run k_PM_spoke 150 8 252 rfl ?_
        show q_K σ x0 = 7 ∧ (q_K σ (q_P σ x0 3) = 1000 ∨ q_K σ (q_P σ x0 3) = 2000) ∧ vp_in x10 (q_Z σ (q_P σ x0 3)) ∧ q_K σ x0 = 7 ∧ (q_K σ (q_P σ x0 17) = 1000 ∨ q_K σ (q_P σ x0 17) = 2000) ∧ vp_in x1 (q_Z σ (q_P σ x0 17)) ∧ q_G l cx M_PM_spoke 3 192 0 0 252 [(0, .inr (.inr x0)), (1, .inl x1), (2, .inl x2), (6, .inl x6), (7, .inl x7), (8, .inr (.inl x8)), (10, .inl x10)] [.inl (q_I σ (q_P σ x0 17) x1.toNatClampNeg), .inl (q_I σ (q_P σ x0 3) x10.toNatClampNeg)] σ R
        obtain ⟨s5, s6, s7, s8, s9, s10, hV⟩ := hV
        refine ⟨s5, s6, s7, s8, s9, s10, ?_⟩
        refine q_icmp (q_dc k_PM_spoke 158 rfl) rfl (fun h11 => ?_) (fun h11 => ?_)
        · have hV := hV.1 h11
          exact q_less (Nat.le_of_ble_eq_true rfl) (Nat.le_of_ble_eq_true rfl) (q_subk [0, 1, 2, 3, 4, 5, 6] rfl hV)
        · have hV := hV.2 h11
          refine q_run k_PM_spoke 159 8 268 rfl ?_
          show q_K σ x0 = 7 ∧ (q_K σ (q_P σ x0 4) = 1000 ∨ q_K σ (q_P σ x0 4) = 2000) ∧ vp_in x10 (q_Z σ (q_P σ x0 4)) ∧ q_K σ x0 = 7 ∧ (q_K σ (q_P σ x0 18) = 1000 ∨ q_K σ (q_P σ x0 18) = 2000) ∧ vp_in x1 (q_Z σ (q_P σ x0 18)) ∧ q_G l cx M_PM_spoke 3 192 0 0 268 [(0, .inr (.inr x0)), (1, .inl x1), (2, .inl x2), (6, .inl x6), (7, .inl x7), (8, .inr (.inl x8)), (10, .inl x10)] [.inl (q_I σ (q_P σ x0 18) x1.toNatClampNeg), .inl (q_I σ (q_P σ x0 4) x10.toNatClampNeg)] σ R
          obtain ⟨s12, s13, s14, s15, s16, s17, hV⟩ := hV
          refine ⟨s12, s13, s14, s15, s16, s17, ?_⟩
          refine q_icmp (q_dc k_PM_spoke 167 rfl) rfl (fun h18 => ?_) (fun h18 => ?_)
          · have hV := hV.1 h18
            exact q_less (Nat.le_of_ble_eq_true rfl) (Nat.le_of_ble_eq_true rfl) (q_subk [0, 1, 2, 3, 4, 5, 6] rfl hV)
          · have hV := hV.2 h18
            refine q_run k_PM_spoke 168 13 293 rfl ?_
            show q_K σ x0 = 7 ∧ q_K σ (q_P σ x0 21) = 1001 ∧ vp_in (((24 : Int32) * x10) + x7) (q_Z σ (q_P σ x0 21)) ∧ q_G l cx M_PM_spoke 3 192 0 0 293 [(8, .inr (.inl (x8 &&& ((q_L σ (q_P σ x0 21) (((24 : Int32) * x10) + x7).toNatClampNeg) ^^^ (-1 : Int64))))), (0, .inr (.inr x0)), (1, .inl x1), (2, .inl x2), (6, .inl x6), (7, .inl x7), (10, .inl x10)] [] σ R
            obtain ⟨s20, s21, s22, hV⟩ := hV
            refine ⟨s20, s21, s22, ?_⟩
            refine q_let (fun v19 => q_G l cx M_PM_spoke 3 192 0 0 293 [(8, .inr (.inl v19)), (0, .inr (.inr x0)), (1, .inl x1), (2, .inl x2), (6, .inl x6), (7, .inl x7), (10, .inl x10)] [] σ R) (x8 &&& ((q_L σ (q_P σ x0 21) (((24 : Int32) * x10) + x7).toNatClampNeg) ^^^ (-1 : Int64))) (fun v19 e_v19 => ?_)
            have hV := hV v19 e_v19
            exact q_less (Nat.le_of_ble_eq_true rfl) (Nat.le_of_ble_eq_true rfl) (q_subk [1, 2, 3, 4, 5, 0, 6] rfl hV))
  have hV := hV (by
      intro x0 x1 x2 x6 x7 x8 x10 σ hV
      show q_G l cx M_PM_spoke 3 192 0 0 293 [(0, .inr (.inr x0)), (1, .inl x1), (2, .inl x2), (6, .inl x6), (7, .inl x7), (8, .inr (.inl x8)), (10, .inl x10)] [] σ R
      refine q_run k_PM_spoke 181 1 296 rfl ?_
      show q_G l cx M_PM_spoke 3 192 0 0 296 [(10, .inl (x10 + (1 : Int32))), (0, .inr (.inr x0)), (1, .inl x1), (2, .inl x2), (6, .inl x6), (7, .inl x7), (8, .inr (.inl x8))] [] σ R
      refine q_let (fun v1 => q_G l cx M_PM_spoke 3 192 0 0 296 [(10, .inl v1), (0, .inr (.inr x0)), (1, .inl x1), (2, .inl x2), (6, .inl x6), (7, .inl x7), (8, .inr (.inl x8))] [] σ R) (x10 + (1 : Int32)) (fun v1 e_v1 => ?_)
      have hV := hV v1 e_v1
      refine q_goto (q_dc k_PM_spoke 182 rfl) rfl ?_
      exact q_less (Nat.le_of_ble_eq_true rfl) (Nat.le_of_ble_eq_true rfl) (q_subk [1, 2, 3, 4, 5, 6, 0] rfl hV))
  have hV := hV (by
      intro y0 σ hV
      show q_G l cx M_PM_spoke 3 192 0 0 324 [] [.inl y0] σ R
      exact q_ireturn (q_dc k_PM_spoke 196 rfl) rfl hV)
  refine q_run k_PM_spoke 0 2 2 rfl ?_
  show q_G l cx M_PM_spoke 3 192 0 0 2 [(0, .inr (.inr x0)), (1, .inl x1), (2, .inl x2), (3, .inl x3)] [.inl x1, .inr (.inr x0)] σ R
  refine q_ifz (q_dc k_PM_spoke 2 rfl) rfl (fun h1 => ?_) (fun h1 => ?_)
  · have hV := hV.1 h1
    exact q_less (Nat.le_of_ble_eq_true rfl) (Nat.le_of_ble_eq_true rfl) (q_subk [0, 1, 2, 3] rfl hV)
  · have hV := hV.2 h1
    refine q_run k_PM_spoke 3 3 10 rfl ?_
    show q_K σ x0 = 7 ∧ q_G l cx M_PM_spoke 3 192 0 0 10 [(0, .inr (.inr x0)), (1, .inl x1), (2, .inl x2), (3, .inl x3)] [.inl (q_I σ x0 16), .inl x1, .inr (.inr x0)] σ R
    obtain ⟨s2, hV⟩ := hV
    refine ⟨s2, ?_⟩
    refine q_icmp (q_dc k_PM_spoke 6 rfl) rfl (fun h3 => ?_) (fun h3 => ?_)
    · have hV := hV.1 h3
      exact q_less (Nat.le_of_ble_eq_true rfl) (Nat.le_of_ble_eq_true rfl) (q_subk [0, 1, 2, 3] rfl hV)
    · have hV := hV.2 h3
      refine q_run k_PM_spoke 7 1 14 rfl ?_
      show q_G l cx M_PM_spoke 3 192 0 0 14 [(0, .inr (.inr x0)), (1, .inl x1), (2, .inl x2), (3, .inl x3)] [.inl x2, .inr (.inr x0)] σ R
      refine q_ifz (q_dc k_PM_spoke 8 rfl) rfl (fun h4 => ?_) (fun h4 => ?_)
      · have hV := hV.1 h4
        exact q_less (Nat.le_of_ble_eq_true rfl) (Nat.le_of_ble_eq_true rfl) (q_subk [0, 1, 2, 3] rfl hV)
      · have hV := hV.2 h4
        refine q_run k_PM_spoke 9 2 19 rfl ?_
        show q_G l cx M_PM_spoke 3 192 0 0 19 [(0, .inr (.inr x0)), (1, .inl x1), (2, .inl x2), (3, .inl x3)] [.inl (4 : Int32), .inl x2, .inr (.inr x0)] σ R
        refine q_icmp (q_dc k_PM_spoke 11 rfl) rfl (fun h5 => ?_) (fun h5 => ?_)
        · have hV := hV.1 h5
          exact q_less (Nat.le_of_ble_eq_true rfl) (Nat.le_of_ble_eq_true rfl) (q_subk [0, 1, 2, 3] rfl hV)
        · have hV := hV.2 h5
          refine q_run k_PM_spoke 12 1 23 rfl ?_
          show q_G l cx M_PM_spoke 3 192 0 0 23 [(0, .inr (.inr x0)), (1, .inl x1), (2, .inl x2), (3, .inl x3)] [.inl x3, .inr (.inr x0)] σ R
          refine q_ifz (q_dc k_PM_spoke 13 rfl) rfl (fun h6 => ?_) (fun h6 => ?_)
          · have hV := hV.1 h6
            exact q_less (Nat.le_of_ble_eq_true rfl) (Nat.le_of_ble_eq_true rfl) (q_subk [0, 1, 2, 3] rfl hV)
          · have hV := hV.2 h6
            refine q_run k_PM_spoke 14 2 28 rfl ?_
            show q_G l cx M_PM_spoke 3 192 0 0 28 [(0, .inr (.inr x0)), (1, .inl x1), (2, .inl x2), (3, .inl x3)] [.inl (3 : Int32), .inl x3, .inr (.inr x0)] σ R
            refine q_icmp (q_dc k_PM_spoke 16 rfl) rfl (fun h7 => ?_) (fun h7 => ?_)
            · have hV := hV.1 h7
              exact q_less (Nat.le_of_ble_eq_true rfl) (Nat.le_of_ble_eq_true rfl) (q_subk [0, 1, 2, 3] rfl hV)
            · have hV := hV.2 h7
              refine q_run k_PM_spoke 17 1 32 rfl ?_
              show q_G l cx M_PM_spoke 3 192 0 0 32 [(0, .inr (.inr x0)), (1, .inl x1), (2, .inl x2), (3, .inl x3)] [.inl (0 : Int32), .inr (.inr x0)] σ R
              refine q_goto (q_dc k_PM_spoke 18 rfl) rfl ?_
              exact q_less (Nat.le_of_ble_eq_true rfl) (Nat.le_of_ble_eq_true rfl) (q_subk [0, 1, 2, 3] rfl hV)
def V_PM_stitch (x0 : Nat) (x1 : Int32) (x2 : Int64) (σ : q_S) (R : q_O → q_S → Prop) : Prop :=
  ∀ (P26 : Nat → Int32 → Int64 → Nat → q_S → Prop),
  ∀ (P27 : Nat → Int32 → Int64 → Int32 → Nat → q_S → Prop),
  ∀ (P45 : Nat → Int32 → Int64 → Int32 → Int32 → q_S → Prop),
  ∀ (P61 : Nat → Int32 → Int64 → Int32 → Int32 → Int64 → Int64 → Int32 → q_S → Prop),
  ∀ (P76 : Nat → Int32 → Int64 → Int32 → Int32 → Int64 → Int64 → Int32 → Int64 → Int32 → q_S → Prop),
  ∀ (P127 : Nat → Int32 → Int64 → Int32 → Int32 → Int64 → Int64 → Int32 → Int64 → Int32 → q_S → Prop),
  ∀ (P129 : Nat → Int32 → Int64 → Int32 → Int32 → Int64 → Int64 → Int32 → Int32 → Int64 → q_S → Prop),
  ∀ (P163 : Nat → Int32 → Int64 → Int32 → Int32 → Int64 → Int32 → q_S → Prop),
  ∀ (P190 : Nat → Int32 → Int64 → Int32 → Int64 → Int32 → Int32 → Int32 → q_S → Prop),
  (∀ (x0 : Nat) (x1 : Int32) (x2 : Int64) (y0 : Nat) (σ : q_S), (P27 x0 x1 x2 (1 : Int32) y0 σ) → P26 x0 x1 x2 y0 σ) →
  (∀ (x0 : Nat) (x1 : Int32) (x2 : Int64) (y0 : Int32) (y1 : Nat) (σ : q_S), (q_K σ y1 = 7 ∧ ∀ σ1 : q_S, σ1 = q_wI σ y1 0 y0 → q_K σ1 x0 = 7 ∧ (((q_I σ1 x0 0) = (0 : Int32) → P45 x0 x1 x2 (0 : Int32) (0 : Int32) σ1) ∧ (¬ ((q_I σ1 x0 0) = (0 : Int32)) → R (.inl (some (.inl (0 : Int32)))) σ1))) → P27 x0 x1 x2 y0 y1 σ) →
  (∀ (x0 : Nat) (x1 : Int32) (x2 : Int64) (x4 : Int32) (x5 : Int32) (σ : q_S), ((((24 : Int32) ≤ x5 → R (.inl (some (.inl x4))) σ) ∧ (¬ ((24 : Int32) ≤ x5) → P61 x0 x1 x2 x4 x5 (0 : Int64) (0 : Int64) (0 : Int32) σ))) → P45 x0 x1 x2 x4 x5 σ) →
  (∀ (x0 : Nat) (x1 : Int32) (x2 : Int64) (x4 : Int32) (x5 : Int32) (x6 : Int64) (x8 : Int64) (x10 : Int32) (σ : q_S), (q_K σ x0 = 7 ∧ (((q_I σ x0 1) ≤ x10 → P163 x0 x1 x2 x4 x5 x8 (0 : Int32) σ) ∧ (¬ ((q_I σ x0 1) ≤ x10) → P76 x0 x1 x2 x4 x5 x6 x8 x10 (0 : Int64) (0 : Int32) σ))) → P61 x0 x1 x2 x4 x5 x6 x8 x10 σ) →
  (∀ (x0 : Nat) (x1 : Int32) (x2 : Int64) (x4 : Int32) (x5 : Int32) (x6 : Int64) (x8 : Int64) (x10 : Int32) (x11 : Int64) (x13 : Int32) (σ : q_S), (q_K σ x0 = 7 ∧ (((q_I σ x0 2) ≤ x13 → ∀ v3 : Int64, v3 = x8 ||| (x6 &&& x11) → ∀ v4 : Int64, v4 = x6 ||| x11 → ∀ v5 : Int32, v5 = x10 + (1 : Int32) → P61 x0 x1 x2 x4 x5 v4 v3 v5 σ) ∧ (¬ ((q_I σ x0 2) ≤ x13) → q_K σ x0 = 7 ∧ (q_K σ (q_P σ x0 3) = 1000 ∨ q_K σ (q_P σ x0 3) = 2000) ∧ vp_in x13 (q_Z σ (q_P σ x0 3)) ∧ ((¬ (q_I σ (q_P σ x0 3) x13.toNatClampNeg) = x1 → P127 x0 x1 x2 x4 x5 x6 x8 x10 x11 x13 σ) ∧ (¬ (¬ (q_I σ (q_P σ x0 3) x13.toNatClampNeg) = x1) → q_K σ x0 = 7 ∧ (q_K σ (q_P σ x0 4) = 1000 ∨ q_K σ (q_P σ x0 4) = 2000) ∧ vp_in x13 (q_Z σ (q_P σ x0 4)) ∧ ((¬ (q_I σ (q_P σ x0 4) x13.toNatClampNeg) = x10 → P127 x0 x1 x2 x4 x5 x6 x8 x10 x11 x13 σ) ∧ (¬ (¬ (q_I σ (q_P σ x0 4) x13.toNatClampNeg) = x10) → q_K σ x0 = 7 ∧ q_K σ (q_P σ x0 21) = 1001 ∧ vp_in (((24 : Int32) * x13) + x5) (q_Z σ (q_P σ x0 21)) ∧ P129 x0 x1 x2 x4 x5 x6 x8 x10 x13 (x11 ||| (q_L σ (q_P σ x0 21) (((24 : Int32) * x13) + x5).toNatClampNeg)) σ))))))) → P76 x0 x1 x2 x4 x5 x6 x8 x10 x11 x13 σ) →
  (∀ (x0 : Nat) (x1 : Int32) (x2 : Int64) (x4 : Int32) (x5 : Int32) (x6 : Int64) (x8 : Int64) (x10 : Int32) (x11 : Int64) (x13 : Int32) (σ : q_S), (P129 x0 x1 x2 x4 x5 x6 x8 x10 x13 x11 σ) → P127 x0 x1 x2 x4 x5 x6 x8 x10 x11 x13 σ) →
  (∀ (x0 : Nat) (x1 : Int32) (x2 : Int64) (x4 : Int32) (x5 : Int32) (x6 : Int64) (x8 : Int64) (x10 : Int32) (x13 : Int32) (y0 : Int64) (σ : q_S), (∀ v1 : Int32, v1 = x13 + (1 : Int32) → P76 x0 x1 x2 x4 x5 x6 x8 x10 y0 v1 σ) → P129 x0 x1 x2 x4 x5 x6 x8 x10 x13 y0 σ) →
  (∀ (x0 : Nat) (x1 : Int32) (x2 : Int64) (x4 : Int32) (x5 : Int32) (x8 : Int64) (x10 : Int32) (σ : q_S), ((((32 : Int32) ≤ x10 → ∀ v2 : Int32, v2 = x5 + x2.toInt32 → P45 x0 x1 x2 x4 v2 σ) ∧ (¬ ((32 : Int32) ≤ x10) → (((lg_cmp (x8 &&& (f_PM_bit x10)) (0 : Int64)) = (0 : Int32) → P190 x0 x1 x2 x5 x8 x10 (0 : Int32) x4 σ) ∧ (¬ ((lg_cmp (x8 &&& (f_PM_bit x10)) (0 : Int64)) = (0 : Int32)) → P190 x0 x1 x2 x5 x8 x10 (1 : Int32) x4 σ))))) → P163 x0 x1 x2 x4 x5 x8 x10 σ) →
  (∀ (x0 : Nat) (x1 : Int32) (x2 : Int64) (x5 : Int32) (x8 : Int64) (x10 : Int32) (y0 : Int32) (y1 : Int32) (σ : q_S), (∀ v1 : Int32, v1 = y1 + y0 → ∀ v2 : Int32, v2 = x10 + x2.toInt32 → P163 x0 x1 x2 v1 x5 x8 v2 σ) → P190 x0 x1 x2 x5 x8 x10 y0 y1 σ) →
  (((f_PM_isNet x1) = (0 : Int32) → P26 x0 x1 x2 x0 σ) ∧ (¬ ((f_PM_isNet x1) = (0 : Int32)) → (((lg_cmp x2 (1 : Int64)) < (0 : Int32) → P26 x0 x1 x2 x0 σ) ∧ (¬ ((lg_cmp x2 (1 : Int64)) < (0 : Int32)) → (((0 : Int32) < (lg_cmp x2 (16 : Int64)) → P26 x0 x1 x2 x0 σ) ∧ (¬ ((0 : Int32) < (lg_cmp x2 (16 : Int64))) → P27 x0 x1 x2 (0 : Int32) x0 σ))))))
set_option maxRecDepth 100000 in
theorem t_PM_stitch {l : Launch} {cx : q_C} {x0 : Nat} {x1 : Int32} {x2 : Int64} {σ : q_S} {R : q_O → q_S → Prop} (hV : V_PM_stitch x0 x1 x2 σ R) : q_Ct l cx M_PM_stitch 1 64 0 0 [q_r x0, q_i x1, q_l x2] σ R := by
  refine q_Ct.of p_PM_stitch c_PM_stitch rfl (Nat.le_of_ble_eq_true rfl) ?_
  have hV := hV (fun (x0 : Nat) (x1 : Int32) (x2 : Int64) (y0 : Nat) (σ : q_S) => q_G l cx M_PM_stitch 1 64 0 0 26 [(0, .inr (.inr x0)), (1, .inl x1), (2, .inr (.inl x2))] [.inr (.inr y0)] σ R) (fun (x0 : Nat) (x1 : Int32) (x2 : Int64) (y0 : Int32) (y1 : Nat) (σ : q_S) => q_G l cx M_PM_stitch 1 64 0 0 27 [(0, .inr (.inr x0)), (1, .inl x1), (2, .inr (.inl x2))] [.inl y0, .inr (.inr y1)] σ R) (fun (x0 : Nat) (x1 : Int32) (x2 : Int64) (x4 : Int32) (x5 : Int32) (σ : q_S) => q_G l cx M_PM_stitch 1 64 0 0 45 [(0, .inr (.inr x0)), (1, .inl x1), (2, .inr (.inl x2)), (4, .inl x4), (5, .inl x5)] [] σ R) (fun (x0 : Nat) (x1 : Int32) (x2 : Int64) (x4 : Int32) (x5 : Int32) (x6 : Int64) (x8 : Int64) (x10 : Int32) (σ : q_S) => q_G l cx M_PM_stitch 1 64 0 0 61 [(0, .inr (.inr x0)), (1, .inl x1), (2, .inr (.inl x2)), (4, .inl x4), (5, .inl x5), (6, .inr (.inl x6)), (8, .inr (.inl x8)), (10, .inl x10)] [] σ R) (fun (x0 : Nat) (x1 : Int32) (x2 : Int64) (x4 : Int32) (x5 : Int32) (x6 : Int64) (x8 : Int64) (x10 : Int32) (x11 : Int64) (x13 : Int32) (σ : q_S) => q_G l cx M_PM_stitch 1 64 0 0 76 [(0, .inr (.inr x0)), (1, .inl x1), (2, .inr (.inl x2)), (4, .inl x4), (5, .inl x5), (6, .inr (.inl x6)), (8, .inr (.inl x8)), (10, .inl x10), (11, .inr (.inl x11)), (13, .inl x13)] [] σ R) (fun (x0 : Nat) (x1 : Int32) (x2 : Int64) (x4 : Int32) (x5 : Int32) (x6 : Int64) (x8 : Int64) (x10 : Int32) (x11 : Int64) (x13 : Int32) (σ : q_S) => q_G l cx M_PM_stitch 1 64 0 0 127 [(0, .inr (.inr x0)), (1, .inl x1), (2, .inr (.inl x2)), (4, .inl x4), (5, .inl x5), (6, .inr (.inl x6)), (8, .inr (.inl x8)), (10, .inl x10), (11, .inr (.inl x11)), (13, .inl x13)] [] σ R) (fun (x0 : Nat) (x1 : Int32) (x2 : Int64) (x4 : Int32) (x5 : Int32) (x6 : Int64) (x8 : Int64) (x10 : Int32) (x13 : Int32) (y0 : Int64) (σ : q_S) => q_G l cx M_PM_stitch 1 64 0 0 129 [(0, .inr (.inr x0)), (1, .inl x1), (2, .inr (.inl x2)), (4, .inl x4), (5, .inl x5), (6, .inr (.inl x6)), (8, .inr (.inl x8)), (10, .inl x10), (13, .inl x13)] [.inr (.inl y0)] σ R) (fun (x0 : Nat) (x1 : Int32) (x2 : Int64) (x4 : Int32) (x5 : Int32) (x8 : Int64) (x10 : Int32) (σ : q_S) => q_G l cx M_PM_stitch 1 64 0 0 163 [(0, .inr (.inr x0)), (1, .inl x1), (2, .inr (.inl x2)), (4, .inl x4), (5, .inl x5), (8, .inr (.inl x8)), (10, .inl x10)] [] σ R) (fun (x0 : Nat) (x1 : Int32) (x2 : Int64) (x5 : Int32) (x8 : Int64) (x10 : Int32) (y0 : Int32) (y1 : Int32) (σ : q_S) => q_G l cx M_PM_stitch 1 64 0 0 190 [(0, .inr (.inr x0)), (1, .inl x1), (2, .inr (.inl x2)), (5, .inl x5), (8, .inr (.inl x8)), (10, .inl x10)] [.inl y0, .inl y1] σ R)
  have hV := hV (by
      intro x0 x1 x2 y0 σ hV
      show q_G l cx M_PM_stitch 1 64 0 0 26 [(0, .inr (.inr x0)), (1, .inl x1), (2, .inr (.inl x2))] [.inr (.inr y0)] σ R
      refine q_run k_PM_stitch 14 1 27 rfl ?_
      show q_G l cx M_PM_stitch 1 64 0 0 27 [(0, .inr (.inr x0)), (1, .inl x1), (2, .inr (.inl x2))] [.inl (1 : Int32), .inr (.inr y0)] σ R
      exact q_less (Nat.le_of_ble_eq_true rfl) (Nat.le_of_ble_eq_true rfl) (q_subk [0, 1, 2] rfl hV))
  have hV := hV (by
      intro x0 x1 x2 y0 y1 σ hV
      show q_G l cx M_PM_stitch 1 64 0 0 27 [(0, .inr (.inr x0)), (1, .inl x1), (2, .inr (.inl x2))] [.inl y0, .inr (.inr y1)] σ R
      refine q_run k_PM_stitch 15 1 30 rfl ?_
      show q_K σ y1 = 7 ∧ q_G l cx M_PM_stitch 1 64 0 0 30 [(0, .inr (.inr x0)), (1, .inl x1), (2, .inr (.inl x2))] [] (q_wI σ y1 0 y0) R
      obtain ⟨s2, hV⟩ := hV
      refine ⟨s2, ?_⟩
      refine q_let (fun σ1 => q_G l cx M_PM_stitch 1 64 0 0 30 [(0, .inr (.inr x0)), (1, .inl x1), (2, .inr (.inl x2))] [] σ1 R) (q_wI σ y1 0 y0) (fun σ1 e_σ1 => ?_)
      have hV := hV σ1 e_σ1
      refine q_run k_PM_stitch 16 2 34 rfl ?_
      show q_K σ1 x0 = 7 ∧ q_G l cx M_PM_stitch 1 64 0 0 34 [(0, .inr (.inr x0)), (1, .inl x1), (2, .inr (.inl x2))] [.inl (q_I σ1 x0 0)] σ1 R
      obtain ⟨s3, hV⟩ := hV
      refine ⟨s3, ?_⟩
      refine q_ifz (q_dc k_PM_stitch 18 rfl) rfl (fun h4 => ?_) (fun h4 => ?_)
      · have hV := hV.1 h4
        refine q_run k_PM_stitch 21 4 45 rfl ?_
        show q_G l cx M_PM_stitch 1 64 0 0 45 [(5, .inl (0 : Int32)), (4, .inl (0 : Int32)), (0, .inr (.inr x0)), (1, .inl x1), (2, .inr (.inl x2))] [] σ1 R
        exact q_less (Nat.le_of_ble_eq_true rfl) (Nat.le_of_ble_eq_true rfl) (q_subk [2, 3, 4, 1, 0] rfl hV)
      · have hV := hV.2 h4
        refine q_run k_PM_stitch 19 1 38 rfl ?_
        show q_G l cx M_PM_stitch 1 64 0 0 38 [(0, .inr (.inr x0)), (1, .inl x1), (2, .inr (.inl x2))] [.inl (0 : Int32)] σ1 R
        exact q_ireturn (q_dc k_PM_stitch 20 rfl) rfl hV)
  have hV := hV (by
      intro x0 x1 x2 x4 x5 σ hV
      show q_G l cx M_PM_stitch 1 64 0 0 45 [(0, .inr (.inr x0)), (1, .inl x1), (2, .inr (.inl x2)), (4, .inl x4), (5, .inl x5)] [] σ R
      refine q_run k_PM_stitch 25 2 49 rfl ?_
      show q_G l cx M_PM_stitch 1 64 0 0 49 [(0, .inr (.inr x0)), (1, .inl x1), (2, .inr (.inl x2)), (4, .inl x4), (5, .inl x5)] [.inl (24 : Int32), .inl x5] σ R
      refine q_icmp (q_dc k_PM_stitch 27 rfl) rfl (fun h1 => ?_) (fun h1 => ?_)
      · have hV := hV.1 h1
        refine q_run k_PM_stitch 115 1 215 rfl ?_
        show q_G l cx M_PM_stitch 1 64 0 0 215 [(0, .inr (.inr x0)), (1, .inl x1), (2, .inr (.inl x2)), (4, .inl x4), (5, .inl x5)] [.inl x4] σ R
        exact q_ireturn (q_dc k_PM_stitch 116 rfl) rfl hV
      · have hV := hV.2 h1
        refine q_run k_PM_stitch 28 6 61 rfl ?_
        show q_G l cx M_PM_stitch 1 64 0 0 61 [(10, .inl (0 : Int32)), (8, .inr (.inl (0 : Int64))), (6, .inr (.inl (0 : Int64))), (0, .inr (.inr x0)), (1, .inl x1), (2, .inr (.inl x2)), (4, .inl x4), (5, .inl x5)] [] σ R
        exact q_less (Nat.le_of_ble_eq_true rfl) (Nat.le_of_ble_eq_true rfl) (q_subk [3, 4, 5, 6, 7, 2, 1, 0] rfl hV))
  have hV := hV (by
      intro x0 x1 x2 x4 x5 x6 x8 x10 σ hV
      show q_G l cx M_PM_stitch 1 64 0 0 61 [(0, .inr (.inr x0)), (1, .inl x1), (2, .inr (.inl x2)), (4, .inl x4), (5, .inl x5), (6, .inr (.inl x6)), (8, .inr (.inl x8)), (10, .inl x10)] [] σ R
      refine q_run k_PM_stitch 34 3 67 rfl ?_
      show q_K σ x0 = 7 ∧ q_G l cx M_PM_stitch 1 64 0 0 67 [(0, .inr (.inr x0)), (1, .inl x1), (2, .inr (.inl x2)), (4, .inl x4), (5, .inl x5), (6, .inr (.inl x6)), (8, .inr (.inl x8)), (10, .inl x10)] [.inl (q_I σ x0 1), .inl x10] σ R
      obtain ⟨s1, hV⟩ := hV
      refine ⟨s1, ?_⟩
      refine q_icmp (q_dc k_PM_stitch 37 rfl) rfl (fun h2 => ?_) (fun h2 => ?_)
      · have hV := hV.1 h2
        refine q_run k_PM_stitch 85 2 163 rfl ?_
        show q_G l cx M_PM_stitch 1 64 0 0 163 [(10, .inl (0 : Int32)), (0, .inr (.inr x0)), (1, .inl x1), (2, .inr (.inl x2)), (4, .inl x4), (5, .inl x5), (6, .inr (.inl x6)), (8, .inr (.inl x8))] [] σ R
        exact q_less (Nat.le_of_ble_eq_true rfl) (Nat.le_of_ble_eq_true rfl) (q_subk [1, 2, 3, 4, 5, 7, 0] rfl hV)
      · have hV := hV.2 h2
        refine q_run k_PM_stitch 38 4 76 rfl ?_
        show q_G l cx M_PM_stitch 1 64 0 0 76 [(13, .inl (0 : Int32)), (11, .inr (.inl (0 : Int64))), (0, .inr (.inr x0)), (1, .inl x1), (2, .inr (.inl x2)), (4, .inl x4), (5, .inl x5), (6, .inr (.inl x6)), (8, .inr (.inl x8)), (10, .inl x10)] [] σ R
        exact q_less (Nat.le_of_ble_eq_true rfl) (Nat.le_of_ble_eq_true rfl) (q_subk [2, 3, 4, 5, 6, 7, 8, 9, 1, 0] rfl hV))
  have hV := hV (by
      intro x0 x1 x2 x4 x5 x6 x8 x10 x11 x13 σ hV
      show q_G l cx M_PM_stitch 1 64 0 0 76 [(0, .inr (.inr x0)), (1, .inl x1), (2, .inr (.inl x2)), (4, .inl x4), (5, .inl x5), (6, .inr (.inl x6)), (8, .inr (.inl x8)), (10, .inl x10), (11, .inr (.inl x11)), (13, .inl x13)] [] σ R
      refine q_run k_PM_stitch 42 3 82 rfl ?_
      show q_K σ x0 = 7 ∧ q_G l cx M_PM_stitch 1 64 0 0 82 [(0, .inr (.inr x0)), (1, .inl x1), (2, .inr (.inl x2)), (4, .inl x4), (5, .inl x5), (6, .inr (.inl x6)), (8, .inr (.inl x8)), (10, .inl x10), (11, .inr (.inl x11)), (13, .inl x13)] [.inl (q_I σ x0 2), .inl x13] σ R
      obtain ⟨s1, hV⟩ := hV
      refine ⟨s1, ?_⟩
      refine q_icmp (q_dc k_PM_stitch 45 rfl) rfl (fun h2 => ?_) (fun h2 => ?_)
      · have hV := hV.1 h2
        refine q_run k_PM_stitch 73 6 147 rfl ?_
        show q_G l cx M_PM_stitch 1 64 0 0 147 [(8, .inr (.inl (x8 ||| (x6 &&& x11)))), (0, .inr (.inr x0)), (1, .inl x1), (2, .inr (.inl x2)), (4, .inl x4), (5, .inl x5), (6, .inr (.inl x6)), (10, .inl x10), (11, .inr (.inl x11)), (13, .inl x13)] [] σ R
        refine q_let (fun v3 => q_G l cx M_PM_stitch 1 64 0 0 147 [(8, .inr (.inl v3)), (0, .inr (.inr x0)), (1, .inl x1), (2, .inr (.inl x2)), (4, .inl x4), (5, .inl x5), (6, .inr (.inl x6)), (10, .inl x10), (11, .inr (.inl x11)), (13, .inl x13)] [] σ R) (x8 ||| (x6 &&& x11)) (fun v3 e_v3 => ?_)
        have hV := hV v3 e_v3
        refine q_run k_PM_stitch 79 4 154 rfl ?_
        show q_G l cx M_PM_stitch 1 64 0 0 154 [(6, .inr (.inl (x6 ||| x11))), (8, .inr (.inl v3)), (0, .inr (.inr x0)), (1, .inl x1), (2, .inr (.inl x2)), (4, .inl x4), (5, .inl x5), (10, .inl x10), (11, .inr (.inl x11)), (13, .inl x13)] [] σ R
        refine q_let (fun v4 => q_G l cx M_PM_stitch 1 64 0 0 154 [(6, .inr (.inl v4)), (8, .inr (.inl v3)), (0, .inr (.inr x0)), (1, .inl x1), (2, .inr (.inl x2)), (4, .inl x4), (5, .inl x5), (10, .inl x10), (11, .inr (.inl x11)), (13, .inl x13)] [] σ R) (x6 ||| x11) (fun v4 e_v4 => ?_)
        have hV := hV v4 e_v4
        refine q_run k_PM_stitch 83 1 157 rfl ?_
        show q_G l cx M_PM_stitch 1 64 0 0 157 [(10, .inl (x10 + (1 : Int32))), (6, .inr (.inl v4)), (8, .inr (.inl v3)), (0, .inr (.inr x0)), (1, .inl x1), (2, .inr (.inl x2)), (4, .inl x4), (5, .inl x5), (11, .inr (.inl x11)), (13, .inl x13)] [] σ R
        refine q_let (fun v5 => q_G l cx M_PM_stitch 1 64 0 0 157 [(10, .inl v5), (6, .inr (.inl v4)), (8, .inr (.inl v3)), (0, .inr (.inr x0)), (1, .inl x1), (2, .inr (.inl x2)), (4, .inl x4), (5, .inl x5), (11, .inr (.inl x11)), (13, .inl x13)] [] σ R) (x10 + (1 : Int32)) (fun v5 e_v5 => ?_)
        have hV := hV v5 e_v5
        refine q_goto (q_dc k_PM_stitch 84 rfl) rfl ?_
        exact q_less (Nat.le_of_ble_eq_true rfl) (Nat.le_of_ble_eq_true rfl) (q_subk [3, 4, 5, 6, 7, 1, 2, 0] rfl hV)
      · have hV := hV.2 h2
        refine q_run k_PM_stitch 46 5 93 rfl ?_
        show q_K σ x0 = 7 ∧ (q_K σ (q_P σ x0 3) = 1000 ∨ q_K σ (q_P σ x0 3) = 2000) ∧ vp_in x13 (q_Z σ (q_P σ x0 3)) ∧ q_G l cx M_PM_stitch 1 64 0 0 93 [(0, .inr (.inr x0)), (1, .inl x1), (2, .inr (.inl x2)), (4, .inl x4), (5, .inl x5), (6, .inr (.inl x6)), (8, .inr (.inl x8)), (10, .inl x10), (11, .inr (.inl x11)), (13, .inl x13)] [.inl x1, .inl (q_I σ (q_P σ x0 3) x13.toNatClampNeg)] σ R
        obtain ⟨s6, s7, s8, hV⟩ := hV
        refine ⟨s6, s7, s8, ?_⟩
        refine q_icmp (q_dc k_PM_stitch 51 rfl) rfl (fun h9 => ?_) (fun h9 => ?_)
        · have hV := hV.1 h9
          exact q_less (Nat.le_of_ble_eq_true rfl) (Nat.le_of_ble_eq_true rfl) (q_subk [0, 1, 2, 3, 4, 5, 6, 7, 8, 9] rfl hV)
        · have hV := hV.2 h9
          refine q_run k_PM_stitch 52 5 105 rfl ?_
          show q_K σ x0 = 7 ∧ (q_K σ (q_P σ x0 4) = 1000 ∨ q_K σ (q_P σ x0 4) = 2000) ∧ vp_in x13 (q_Z σ (q_P σ x0 4)) ∧ q_G l cx M_PM_stitch 1 64 0 0 105 [(0, .inr (.inr x0)), (1, .inl x1), (2, .inr (.inl x2)), (4, .inl x4), (5, .inl x5), (6, .inr (.inl x6)), (8, .inr (.inl x8)), (10, .inl x10), (11, .inr (.inl x11)), (13, .inl x13)] [.inl x10, .inl (q_I σ (q_P σ x0 4) x13.toNatClampNeg)] σ R
          obtain ⟨s10, s11, s12, hV⟩ := hV
          refine ⟨s10, s11, s12, ?_⟩
          refine q_icmp (q_dc k_PM_stitch 57 rfl) rfl (fun h13 => ?_) (fun h13 => ?_)
          · have hV := hV.1 h13
            exact q_less (Nat.le_of_ble_eq_true rfl) (Nat.le_of_ble_eq_true rfl) (q_subk [0, 1, 2, 3, 4, 5, 6, 7, 8, 9] rfl hV)
          · have hV := hV.2 h13
            refine q_run k_PM_stitch 58 10 124 rfl ?_
            show q_K σ x0 = 7 ∧ q_K σ (q_P σ x0 21) = 1001 ∧ vp_in (((24 : Int32) * x13) + x5) (q_Z σ (q_P σ x0 21)) ∧ q_G l cx M_PM_stitch 1 64 0 0 124 [(0, .inr (.inr x0)), (1, .inl x1), (2, .inr (.inl x2)), (4, .inl x4), (5, .inl x5), (6, .inr (.inl x6)), (8, .inr (.inl x8)), (10, .inl x10), (11, .inr (.inl x11)), (13, .inl x13)] [.inr (.inl (x11 ||| (q_L σ (q_P σ x0 21) (((24 : Int32) * x13) + x5).toNatClampNeg)))] σ R
            obtain ⟨s14, s15, s16, hV⟩ := hV
            refine ⟨s14, s15, s16, ?_⟩
            refine q_goto (q_dc k_PM_stitch 68 rfl) rfl ?_
            exact q_less (Nat.le_of_ble_eq_true rfl) (Nat.le_of_ble_eq_true rfl) (q_subk [0, 1, 2, 3, 4, 5, 6, 7, 9] rfl hV))
  have hV := hV (by
      intro x0 x1 x2 x4 x5 x6 x8 x10 x11 x13 σ hV
      show q_G l cx M_PM_stitch 1 64 0 0 127 [(0, .inr (.inr x0)), (1, .inl x1), (2, .inr (.inl x2)), (4, .inl x4), (5, .inl x5), (6, .inr (.inl x6)), (8, .inr (.inl x8)), (10, .inl x10), (11, .inr (.inl x11)), (13, .inl x13)] [] σ R
      refine q_run k_PM_stitch 69 1 129 rfl ?_
      show q_G l cx M_PM_stitch 1 64 0 0 129 [(0, .inr (.inr x0)), (1, .inl x1), (2, .inr (.inl x2)), (4, .inl x4), (5, .inl x5), (6, .inr (.inl x6)), (8, .inr (.inl x8)), (10, .inl x10), (11, .inr (.inl x11)), (13, .inl x13)] [.inr (.inl x11)] σ R
      exact q_less (Nat.le_of_ble_eq_true rfl) (Nat.le_of_ble_eq_true rfl) (q_subk [0, 1, 2, 3, 4, 5, 6, 7, 9] rfl hV))
  have hV := hV (by
      intro x0 x1 x2 x4 x5 x6 x8 x10 x13 y0 σ hV
      show q_G l cx M_PM_stitch 1 64 0 0 129 [(0, .inr (.inr x0)), (1, .inl x1), (2, .inr (.inl x2)), (4, .inl x4), (5, .inl x5), (6, .inr (.inl x6)), (8, .inr (.inl x8)), (10, .inl x10), (13, .inl x13)] [.inr (.inl y0)] σ R
      refine q_run k_PM_stitch 70 2 134 rfl ?_
      show q_G l cx M_PM_stitch 1 64 0 0 134 [(13, .inl (x13 + (1 : Int32))), (11, .inr (.inl y0)), (0, .inr (.inr x0)), (1, .inl x1), (2, .inr (.inl x2)), (4, .inl x4), (5, .inl x5), (6, .inr (.inl x6)), (8, .inr (.inl x8)), (10, .inl x10)] [] σ R
      refine q_let (fun v1 => q_G l cx M_PM_stitch 1 64 0 0 134 [(13, .inl v1), (11, .inr (.inl y0)), (0, .inr (.inr x0)), (1, .inl x1), (2, .inr (.inl x2)), (4, .inl x4), (5, .inl x5), (6, .inr (.inl x6)), (8, .inr (.inl x8)), (10, .inl x10)] [] σ R) (x13 + (1 : Int32)) (fun v1 e_v1 => ?_)
      have hV := hV v1 e_v1
      refine q_goto (q_dc k_PM_stitch 72 rfl) rfl ?_
      exact q_less (Nat.le_of_ble_eq_true rfl) (Nat.le_of_ble_eq_true rfl) (q_subk [2, 3, 4, 5, 6, 7, 8, 9, 1, 0] rfl hV))
  have hV := hV (by
      intro x0 x1 x2 x4 x5 x8 x10 σ hV
      show q_G l cx M_PM_stitch 1 64 0 0 163 [(0, .inr (.inr x0)), (1, .inl x1), (2, .inr (.inl x2)), (4, .inl x4), (5, .inl x5), (8, .inr (.inl x8)), (10, .inl x10)] [] σ R
      refine q_run k_PM_stitch 87 2 167 rfl ?_
      show q_G l cx M_PM_stitch 1 64 0 0 167 [(0, .inr (.inr x0)), (1, .inl x1), (2, .inr (.inl x2)), (4, .inl x4), (5, .inl x5), (8, .inr (.inl x8)), (10, .inl x10)] [.inl (32 : Int32), .inl x10] σ R
      refine q_icmp (q_dc k_PM_stitch 89 rfl) rfl (fun h1 => ?_) (fun h1 => ?_)
      · have hV := hV.1 h1
        refine q_run k_PM_stitch 109 5 210 rfl ?_
        show q_G l cx M_PM_stitch 1 64 0 0 210 [(5, .inl (x5 + x2.toInt32)), (0, .inr (.inr x0)), (1, .inl x1), (2, .inr (.inl x2)), (4, .inl x4), (8, .inr (.inl x8)), (10, .inl x10)] [] σ R
        refine q_let (fun v2 => q_G l cx M_PM_stitch 1 64 0 0 210 [(5, .inl v2), (0, .inr (.inr x0)), (1, .inl x1), (2, .inr (.inl x2)), (4, .inl x4), (8, .inr (.inl x8)), (10, .inl x10)] [] σ R) (x5 + x2.toInt32) (fun v2 e_v2 => ?_)
        have hV := hV v2 e_v2
        refine q_goto (q_dc k_PM_stitch 114 rfl) rfl ?_
        exact q_less (Nat.le_of_ble_eq_true rfl) (Nat.le_of_ble_eq_true rfl) (q_subk [1, 2, 3, 4, 0] rfl hV)
      · have hV := hV.2 h1
        refine q_run k_PM_stitch 90 3 176 rfl ?_
        show q_G l cx M_PM_stitch 1 64 0 0 176 [(0, .inr (.inr x0)), (1, .inl x1), (2, .inr (.inl x2)), (4, .inl x4), (5, .inl x5), (8, .inr (.inl x8)), (10, .inl x10)] [.inl x10, .inr (.inl x8), .inl x4] σ R
        refine q_callS (st := [.inr (.inl x8), .inl x4]) (t_PM_bit (l := l) (cx := cx) (σ := σ) x10) (q_dc k_PM_stitch 93 rfl) (Or.inl (List.mem_of_getElem? (i := 1007) (by decide +kernel))) w_PM_bit s_PM_bit a_PM_bit (q_wt (Nat.le_of_ble_eq_true rfl)) ⟨Nat.le_of_ble_eq_true rfl, Nat.le_of_ble_eq_true rfl⟩ (fun v9 τ9 q9 => ?_) (fun n9 τ9 q9 => by cases q9.1)
        obtain ⟨q8, q7⟩ := q9
        cases q8
        rw [q7]
        show q_G l cx M_PM_stitch 1 64 0 0 179 [(0, .inr (.inr x0)), (1, .inl x1), (2, .inr (.inl x2)), (4, .inl x4), (5, .inl x5), (8, .inr (.inl x8)), (10, .inl x10)] [.inr (.inl (f_PM_bit x10)), .inr (.inl x8), .inl x4] σ R
        refine q_run k_PM_stitch 94 3 182 rfl ?_
        show q_G l cx M_PM_stitch 1 64 0 0 182 [(0, .inr (.inr x0)), (1, .inl x1), (2, .inr (.inl x2)), (4, .inl x4), (5, .inl x5), (8, .inr (.inl x8)), (10, .inl x10)] [.inl (lg_cmp (x8 &&& (f_PM_bit x10)) (0 : Int64)), .inl x4] σ R
        refine q_ifz (q_dc k_PM_stitch 97 rfl) rfl (fun h3 => ?_) (fun h3 => ?_)
        · have hV := hV.1 h3
          refine q_run k_PM_stitch 100 1 190 rfl ?_
          show q_G l cx M_PM_stitch 1 64 0 0 190 [(0, .inr (.inr x0)), (1, .inl x1), (2, .inr (.inl x2)), (4, .inl x4), (5, .inl x5), (8, .inr (.inl x8)), (10, .inl x10)] [.inl (0 : Int32), .inl x4] σ R
          exact q_less (Nat.le_of_ble_eq_true rfl) (Nat.le_of_ble_eq_true rfl) (q_subk [0, 1, 2, 4, 5, 6] rfl hV)
        · have hV := hV.2 h3
          refine q_run k_PM_stitch 98 1 186 rfl ?_
          show q_G l cx M_PM_stitch 1 64 0 0 186 [(0, .inr (.inr x0)), (1, .inl x1), (2, .inr (.inl x2)), (4, .inl x4), (5, .inl x5), (8, .inr (.inl x8)), (10, .inl x10)] [.inl (1 : Int32), .inl x4] σ R
          refine q_goto (q_dc k_PM_stitch 99 rfl) rfl ?_
          exact q_less (Nat.le_of_ble_eq_true rfl) (Nat.le_of_ble_eq_true rfl) (q_subk [0, 1, 2, 4, 5, 6] rfl hV))
  have hV := hV (by
      intro x0 x1 x2 x5 x8 x10 y0 y1 σ hV
      show q_G l cx M_PM_stitch 1 64 0 0 190 [(0, .inr (.inr x0)), (1, .inl x1), (2, .inr (.inl x2)), (5, .inl x5), (8, .inr (.inl x8)), (10, .inl x10)] [.inl y0, .inl y1] σ R
      refine q_run k_PM_stitch 101 2 193 rfl ?_
      show q_G l cx M_PM_stitch 1 64 0 0 193 [(4, .inl (y1 + y0)), (0, .inr (.inr x0)), (1, .inl x1), (2, .inr (.inl x2)), (5, .inl x5), (8, .inr (.inl x8)), (10, .inl x10)] [] σ R
      refine q_let (fun v1 => q_G l cx M_PM_stitch 1 64 0 0 193 [(4, .inl v1), (0, .inr (.inr x0)), (1, .inl x1), (2, .inr (.inl x2)), (5, .inl x5), (8, .inr (.inl x8)), (10, .inl x10)] [] σ R) (y1 + y0) (fun v1 e_v1 => ?_)
      have hV := hV v1 e_v1
      refine q_run k_PM_stitch 103 5 200 rfl ?_
      show q_G l cx M_PM_stitch 1 64 0 0 200 [(10, .inl (x10 + x2.toInt32)), (4, .inl v1), (0, .inr (.inr x0)), (1, .inl x1), (2, .inr (.inl x2)), (5, .inl x5), (8, .inr (.inl x8))] [] σ R
      refine q_let (fun v2 => q_G l cx M_PM_stitch 1 64 0 0 200 [(10, .inl v2), (4, .inl v1), (0, .inr (.inr x0)), (1, .inl x1), (2, .inr (.inl x2)), (5, .inl x5), (8, .inr (.inl x8))] [] σ R) (x10 + x2.toInt32) (fun v2 e_v2 => ?_)
      have hV := hV v2 e_v2
      refine q_goto (q_dc k_PM_stitch 108 rfl) rfl ?_
      exact q_less (Nat.le_of_ble_eq_true rfl) (Nat.le_of_ble_eq_true rfl) (q_subk [2, 3, 4, 1, 5, 6, 0] rfl hV))
  refine q_run k_PM_stitch 0 2 2 rfl ?_
  show q_G l cx M_PM_stitch 1 64 0 0 2 [(0, .inr (.inr x0)), (1, .inl x1), (2, .inr (.inl x2))] [.inl x1, .inr (.inr x0)] σ R
  refine q_callS (st := [.inr (.inr x0)]) (t_PM_isNet (l := l) (cx := cx) (σ := σ) x1) (q_dc k_PM_stitch 2 rfl) (Or.inl (List.mem_of_getElem? (i := 947) (by decide +kernel))) w_PM_isNet s_PM_isNet a_PM_isNet (q_wt (Nat.le_of_ble_eq_true rfl)) ⟨Nat.le_of_ble_eq_true rfl, Nat.le_of_ble_eq_true rfl⟩ (fun v9 τ9 q9 => ?_) (fun n9 τ9 q9 => by cases q9.1)
  obtain ⟨q8, q7⟩ := q9
  cases q8
  rw [q7]
  show q_G l cx M_PM_stitch 1 64 0 0 5 [(0, .inr (.inr x0)), (1, .inl x1), (2, .inr (.inl x2))] [.inl (f_PM_isNet x1), .inr (.inr x0)] σ R
  refine q_ifz (q_dc k_PM_stitch 3 rfl) rfl (fun h1 => ?_) (fun h1 => ?_)
  · have hV := hV.1 h1
    exact q_less (Nat.le_of_ble_eq_true rfl) (Nat.le_of_ble_eq_true rfl) (q_subk [0, 1, 2] rfl hV)
  · have hV := hV.2 h1
    refine q_run k_PM_stitch 4 3 11 rfl ?_
    show q_G l cx M_PM_stitch 1 64 0 0 11 [(0, .inr (.inr x0)), (1, .inl x1), (2, .inr (.inl x2))] [.inl (lg_cmp x2 (1 : Int64)), .inr (.inr x0)] σ R
    refine q_ifz (q_dc k_PM_stitch 7 rfl) rfl (fun h2 => ?_) (fun h2 => ?_)
    · have hV := hV.1 h2
      exact q_less (Nat.le_of_ble_eq_true rfl) (Nat.le_of_ble_eq_true rfl) (q_subk [0, 1, 2] rfl hV)
    · have hV := hV.2 h2
      refine q_run k_PM_stitch 8 3 19 rfl ?_
      show q_G l cx M_PM_stitch 1 64 0 0 19 [(0, .inr (.inr x0)), (1, .inl x1), (2, .inr (.inl x2))] [.inl (lg_cmp x2 (16 : Int64)), .inr (.inr x0)] σ R
      refine q_ifz (q_dc k_PM_stitch 11 rfl) rfl (fun h3 => ?_) (fun h3 => ?_)
      · have hV := hV.1 h3
        exact q_less (Nat.le_of_ble_eq_true rfl) (Nat.le_of_ble_eq_true rfl) (q_subk [0, 1, 2] rfl hV)
      · have hV := hV.2 h3
        refine q_run k_PM_stitch 12 1 23 rfl ?_
        show q_G l cx M_PM_stitch 1 64 0 0 23 [(0, .inr (.inr x0)), (1, .inl x1), (2, .inr (.inl x2))] [.inl (0 : Int32), .inr (.inr x0)] σ R
        refine q_goto (q_dc k_PM_stitch 13 rfl) rfl ?_
        exact q_less (Nat.le_of_ble_eq_true rfl) (Nat.le_of_ble_eq_true rfl) (q_subk [0, 1, 2] rfl hV)
