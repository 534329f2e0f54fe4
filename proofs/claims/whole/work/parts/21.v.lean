/-! WHAT METHODS ASK (by program: wip/whole/tools/vgen.py): V_X is read off the instructions (a P of its own for each place where ways meet); t_X: what it asks is enough -/
theorem q_let {α : Type} (F : α → Prop) (e : α) (h : ∀ x, x = e → F x) : F e := h e rfl
theorem q_subk {l : Launch} {cx : q_C} {M : q_M} {fr lw kc ks pc : Nat} {lo lo' : List (Nat × q_V)} {st : List q_V} {σ : q_S} {Q : q_O → q_S → Prop} (is : List Nat) (hs : is.filterMap (fun i => lo[i]?) = lo') (h : q_G l cx M fr lw kc ks pc lo' st σ Q) : q_G l cx M fr lw kc ks pc lo st σ Q := by
  refine q_sub (fun q hq => ?_) h
  subst hs
  obtain ⟨i, -, hi⟩ := List.mem_filterMap.mp hq
  exact List.mem_of_getElem? hi
def q_ci (k : Int32 → q_S → Prop) (x : Nat → q_S → Prop) : q_O → q_S → Prop := fun o τ => match o with
  | .inl (some (.inl v)) => k v τ
  | .inr n => x n τ
  | _ => False
def q_cl' (k : Int64 → q_S → Prop) (x : Nat → q_S → Prop) : q_O → q_S → Prop := fun o τ => match o with
  | .inl (some (.inr (.inl v))) => k v τ
  | .inr n => x n τ
  | _ => False
def q_cr (k : Nat → q_S → Prop) (x : Nat → q_S → Prop) : q_O → q_S → Prop := fun o τ => match o with
  | .inl (some (.inr (.inr v))) => k v τ
  | .inr n => x n τ
  | _ => False
def q_cv (k : q_S → Prop) (x : Nat → q_S → Prop) : q_O → q_S → Prop := fun o τ => match o with
  | .inl none => k τ
  | .inr n => x n τ
  | _ => False
theorem q_ci_elim {k : Int32 → q_S → Prop} {x : Nat → q_S → Prop} {o : Option q_V} {τ : q_S} (h : q_ci k x (.inl o) τ) : ∃ v, o = some (.inl v) ∧ k v τ := by
  rcases o with _ | v | v | v
  · exact False.elim h
  · exact ⟨v, rfl, h⟩
  · exact False.elim h
  · exact False.elim h
theorem q_cl_elim {k : Int64 → q_S → Prop} {x : Nat → q_S → Prop} {o : Option q_V} {τ : q_S} (h : q_cl' k x (.inl o) τ) : ∃ v, o = some (.inr (.inl v)) ∧ k v τ := by
  rcases o with _ | v | v | v
  · exact False.elim h
  · exact False.elim h
  · exact ⟨v, rfl, h⟩
  · exact False.elim h
theorem q_cr_elim {k : Nat → q_S → Prop} {x : Nat → q_S → Prop} {o : Option q_V} {τ : q_S} (h : q_cr k x (.inl o) τ) : ∃ v, o = some (.inr (.inr v)) ∧ k v τ := by
  rcases o with _ | v | v | v
  · exact False.elim h
  · exact False.elim h
  · exact False.elim h
  · exact ⟨v, rfl, h⟩
theorem q_cv_elim {k : q_S → Prop} {x : Nat → q_S → Prop} {o : Option q_V} {τ : q_S} (h : q_cv k x (.inl o) τ) : o = none ∧ k τ := by
  rcases o with _ | v | v | v
  · exact ⟨rfl, h⟩
  · exact False.elim h
  · exact False.elim h
  · exact False.elim h
/-- a cast that holds -/
theorem q_cast1 {l : Launch} {cx : q_C} {M : q_M} {fr lw kc ks pc : Nat} {lo : List (Nat × q_V)} {st : List q_V} {σ : q_S} {Q : q_O → q_S → Prop} {idx ci a : Nat} {r : vw_C} (hd : decode M.2.1 pc = .ok (.checkcast idx, 3)) (hc : q_cl[ci]? = some r) (hK : q_K σ a = ci + 1) (hq : (r.1, r.1) ∈ q_cast) (hl : Cond.classLink M.1.cls idx r.1 ∈ q_ws)
    (h : q_G l cx M fr lw kc ks (pc + 3) lo (.inr (.inr a) :: st) σ Q) : q_G l cx M fr lw kc ks pc lo (.inr (.inr a) :: st) σ Q := by
  intro p e R s m args below meth c H locs cells slots ls X f1 f2 f3 f4 hR hS hl9
  have h7 := h p e R s m args below meth c H locs cells slots ls X f1 f2 f3 f4 hR hS hl9
  have hp := hR.pos (a := a) (by omega)
  rw [q_ref hp] at h7 ⊢
  obtain ⟨cell, g1, g2, g3, -⟩ := q_recv X.2.2.2.2.2.2.2.2.1 hR hK hc
  exact va_castY X.1 X.2.1 X.2.2.2.2.2.2.1 (X.2.2.2.2.2.2.2.1 _ hl) (X.2.2.2.2.2.2.2.2.1.2.2.2.2.2.2.2.2.1 _ hq) ⟨cell, g1, g2, g3⟩ hd h7
def V_AL_size (x0 : Nat) (σ : q_S) (R : q_O → q_S → Prop) : Prop :=
  q_K σ x0 = 8 ∧ R (.inl (some (.inl (q_I σ x0 1)))) σ
set_option maxRecDepth 100000 in
theorem t_AL_size {l : Launch} {cx : q_C} {x0 : Nat} {σ : q_S} {R : q_O → q_S → Prop} (hV : V_AL_size x0 σ R) : q_Ct l cx M_AL_size 0 0 0 0 [q_r x0] σ R := by
  refine q_Ct.of p_AL_size c_AL_size rfl (Nat.le_of_ble_eq_true rfl) ?_
  refine q_run k_AL_size 0 2 4 rfl ?_
  show q_K σ x0 = 8 ∧ q_G l cx M_AL_size 0 0 0 0 4 [(0, .inr (.inr x0))] [.inl (q_I σ x0 1)] σ R
  obtain ⟨s1, hV⟩ := hV
  refine ⟨s1, ?_⟩
  exact q_ireturn (q_dc k_AL_size 2 rfl) rfl hV
def V_PF_columnsBelow (x0 : Int32) (x1 : Int32) (σ : q_S) (R : q_O → q_S → Prop) : Prop :=
  ∀ (P8 : Int32 → Int32 → Int32 → Int32 → q_S → Prop),
  ∀ (P35 : Int32 → q_S → Prop),
  (∀ x0 x1 x2 x3 σ, (((32 ≤ x3 → P35 x2 σ) ∧ (¬ (32 ≤ x3) → ∀ v2 : Int32, v2 = x2 ||| (f_PF_span x3.toInt64 (((x3 + x1) - 1).toInt64)) → ∀ v3 : Int32, v3 = x3 + x0 → P8 x0 x1 v2 v3 σ))) → P8 x0 x1 x2 x3 σ) →
  (∀ x2 σ, (R (.inl (some (.inl x2))) σ) → P35 x2 σ) →
  ((x0 ≤ 0 → P35 0 σ) ∧ (¬ (x0 ≤ 0) → P8 x0 x1 0 0 σ))
set_option maxRecDepth 100000 in
theorem t_PF_columnsBelow {l : Launch} {cx : q_C} {x0 : Int32} {x1 : Int32} {σ : q_S} {R : q_O → q_S → Prop} (hV : V_PF_columnsBelow x0 x1 σ R) : q_Ct l cx M_PF_columnsBelow 2 128 0 0 [q_i x0, q_i x1] σ R := by
  refine q_Ct.of p_PF_columnsBelow c_PF_columnsBelow rfl (Nat.le_of_ble_eq_true rfl) ?_
  have hV := hV (fun x0 x1 x2 x3 σ => q_G l cx M_PF_columnsBelow 2 128 0 0 8 [(0, .inl x0), (1, .inl x1), (2, .inl x2), (3, .inl x3)] [] σ R) (fun x2 σ => q_G l cx M_PF_columnsBelow 2 128 0 0 35 [(2, .inl x2)] [] σ R)
  have hV := hV (by
      intro x0 x1 x2 x3 σ hV
      show q_G l cx M_PF_columnsBelow 2 128 0 0 8 [(0, .inl x0), (1, .inl x1), (2, .inl x2), (3, .inl x3)] [] σ R
      refine q_run k_PF_columnsBelow 6 2 11 rfl ?_
      show q_G l cx M_PF_columnsBelow 2 128 0 0 11 [(0, .inl x0), (1, .inl x1), (2, .inl x2), (3, .inl x3)] [.inl 32, .inl x3] σ R
      refine q_icmp (q_dc k_PF_columnsBelow 8 rfl) rfl (fun h1 => ?_) (fun h1 => ?_)
      · have hV := hV.1 h1
        exact q_less (Nat.le_of_ble_eq_true rfl) (Nat.le_of_ble_eq_true rfl) (q_subk [2] rfl hV)
      · have hV := hV.2 h1
        refine q_run k_PF_columnsBelow 9 9 23 rfl ?_
        show q_G l cx M_PF_columnsBelow 2 128 0 0 23 [(0, .inl x0), (1, .inl x1), (2, .inl x2), (3, .inl x3)] [.inr (.inl (((x3 + x1) - 1).toInt64)), .inr (.inl x3.toInt64), .inl x2] σ R
        refine q_callS (st := [.inl x2]) (t_PF_span (l := l) (cx := cx) (σ := σ) x3.toInt64 (((x3 + x1) - 1).toInt64)) (q_dc k_PF_columnsBelow 18 rfl) (Or.inl (List.mem_of_getElem? (i := 243) (by decide +kernel))) w_PF_span s_PF_span a_PF_span (q_wt (Nat.le_of_ble_eq_true rfl)) ⟨Nat.le_of_ble_eq_true rfl, Nat.le_of_ble_eq_true rfl⟩ (fun v9 τ9 q9 => ?_) (fun n9 τ9 q9 => by cases q9.1)
        obtain ⟨q8, q7⟩ := q9
        cases q8
        rw [q7]
        show q_G l cx M_PF_columnsBelow 2 128 0 0 26 [(0, .inl x0), (1, .inl x1), (2, .inl x2), (3, .inl x3)] [.inl (f_PF_span x3.toInt64 (((x3 + x1) - 1).toInt64)), .inl x2] σ R
        refine q_run k_PF_columnsBelow 19 2 28 rfl ?_
        show q_G l cx M_PF_columnsBelow 2 128 0 0 28 [(2, .inl (x2 ||| (f_PF_span x3.toInt64 (((x3 + x1) - 1).toInt64)))), (0, .inl x0), (1, .inl x1), (3, .inl x3)] [] σ R
        refine q_let (fun v2 => q_G l cx M_PF_columnsBelow 2 128 0 0 28 [(2, .inl v2), (0, .inl x0), (1, .inl x1), (3, .inl x3)] [] σ R) (x2 ||| (f_PF_span x3.toInt64 (((x3 + x1) - 1).toInt64))) (fun v2 e_v2 => ?_)
        have hV := hV v2 e_v2
        refine q_run k_PF_columnsBelow 21 4 32 rfl ?_
        show q_G l cx M_PF_columnsBelow 2 128 0 0 32 [(3, .inl (x3 + x0)), (2, .inl v2), (0, .inl x0), (1, .inl x1)] [] σ R
        refine q_let (fun v3 => q_G l cx M_PF_columnsBelow 2 128 0 0 32 [(3, .inl v3), (2, .inl v2), (0, .inl x0), (1, .inl x1)] [] σ R) (x3 + x0) (fun v3 e_v3 => ?_)
        have hV := hV v3 e_v3
        refine q_goto (q_dc k_PF_columnsBelow 25 rfl) rfl ?_
        exact q_less (Nat.le_of_ble_eq_true rfl) (Nat.le_of_ble_eq_true rfl) (q_subk [2, 3, 1, 0] rfl hV))
  have hV := hV (by
      intro x2 σ hV
      show q_G l cx M_PF_columnsBelow 2 128 0 0 35 [(2, .inl x2)] [] σ R
      refine q_run k_PF_columnsBelow 26 1 36 rfl ?_
      show q_G l cx M_PF_columnsBelow 2 128 0 0 36 [(2, .inl x2)] [.inl x2] σ R
      exact q_ireturn (q_dc k_PF_columnsBelow 27 rfl) rfl hV)
  refine q_run k_PF_columnsBelow 0 3 3 rfl ?_
  show q_G l cx M_PF_columnsBelow 2 128 0 0 3 [(2, .inl 0), (0, .inl x0), (1, .inl x1)] [.inl x0] σ R
  refine q_ifz (q_dc k_PF_columnsBelow 3 rfl) rfl (fun h1 => ?_) (fun h1 => ?_)
  · have hV := hV.1 h1
    exact q_less (Nat.le_of_ble_eq_true rfl) (Nat.le_of_ble_eq_true rfl) (q_subk [0] rfl hV)
  · have hV := hV.2 h1
    refine q_run k_PF_columnsBelow 4 2 8 rfl ?_
    show q_G l cx M_PF_columnsBelow 2 128 0 0 8 [(3, .inl 0), (2, .inl 0), (0, .inl x0), (1, .inl x1)] [] σ R
    exact q_less (Nat.le_of_ble_eq_true rfl) (Nat.le_of_ble_eq_true rfl) (q_subk [2, 3, 1, 0] rfl hV)
def V_PD_near (x0 : Nat) (x1 : Int32) (x2 : Int32) (σ : q_S) (R : q_O → q_S → Prop) : Prop :=
  ∀ (P35 : Nat → Int32 → Int32 → q_S → Prop),
  ∀ (P66 : Nat → Int32 → q_S → Prop),
  (∀ x0 x5 x6 σ, (((32 ≤ x6 → P66 x0 x6 σ) ∧ (¬ (32 ≤ x6) → ((x5 < (((2 * x6) + 1) * ((2 * x6) + 1)) → P66 x0 x6 σ) ∧ (¬ (x5 < (((2 * x6) + 1) * ((2 * x6) + 1))) → ∀ v3 : Int32, v3 = x6 + 1 → P35 x0 x5 v3 σ))))) → P35 x0 x5 x6 σ) →
  (∀ x0 x6 σ, (q_K σ x0 = 3 ∧ q_K σ x0 = 3 ∧ R (.inl (some (.inl (f_PF_span (((q_I σ x0 2) - x6).toInt64) ((((q_I σ x0 2) + x6) - 1).toInt64))))) σ) → P66 x0 x6 σ) →
  q_K σ x0 = 3 ∧ ∀ v1 : Int32, v1 = 2 * ((q_I σ x0 4) + x2) → q_K σ x0 = 3 ∧ ∀ v3 : Int32, v3 = (2 * (x1 - (q_I σ x0 3))) + 1 → ∀ v5 : Int32, v5 = (v1 * v1) - (v3 * v3) → P35 x0 v5 0 σ
set_option maxRecDepth 100000 in
theorem t_PD_near {l : Launch} {cx : q_C} {x0 : Nat} {x1 : Int32} {x2 : Int32} {σ : q_S} {R : q_O → q_S → Prop} (hV : V_PD_near x0 x1 x2 σ R) : q_Ct l cx M_PD_near 2 128 0 0 [q_r x0, q_i x1, q_i x2] σ R := by
  refine q_Ct.of p_PD_near c_PD_near rfl (Nat.le_of_ble_eq_true rfl) ?_
  have hV := hV (fun x0 x5 x6 σ => q_G l cx M_PD_near 2 128 0 0 35 [(0, .inr (.inr x0)), (5, .inl x5), (6, .inl x6)] [] σ R) (fun x0 x6 σ => q_G l cx M_PD_near 2 128 0 0 66 [(0, .inr (.inr x0)), (6, .inl x6)] [] σ R)
  have hV := hV (by
      intro x0 x5 x6 σ hV
      show q_G l cx M_PD_near 2 128 0 0 35 [(0, .inr (.inr x0)), (5, .inl x5), (6, .inl x6)] [] σ R
      refine q_run k_PD_near 26 2 39 rfl ?_
      show q_G l cx M_PD_near 2 128 0 0 39 [(0, .inr (.inr x0)), (5, .inl x5), (6, .inl x6)] [.inl 32, .inl x6] σ R
      refine q_icmp (q_dc k_PD_near 28 rfl) rfl (fun h1 => ?_) (fun h1 => ?_)
      · have hV := hV.1 h1
        exact q_less (Nat.le_of_ble_eq_true rfl) (Nat.le_of_ble_eq_true rfl) (q_subk [0, 2] rfl hV)
      · have hV := hV.2 h1
        refine q_run k_PD_near 29 12 57 rfl ?_
        show q_G l cx M_PD_near 2 128 0 0 57 [(0, .inr (.inr x0)), (5, .inl x5), (6, .inl x6)] [.inl x5, .inl (((2 * x6) + 1) * ((2 * x6) + 1))] σ R
        refine q_icmp (q_dc k_PD_near 41 rfl) rfl (fun h2 => ?_) (fun h2 => ?_)
        · have hV := hV.1 h2
          exact q_less (Nat.le_of_ble_eq_true rfl) (Nat.le_of_ble_eq_true rfl) (q_subk [0, 2] rfl hV)
        · have hV := hV.2 h2
          refine q_run k_PD_near 42 1 63 rfl ?_
          show q_G l cx M_PD_near 2 128 0 0 63 [(6, .inl (x6 + 1)), (0, .inr (.inr x0)), (5, .inl x5)] [] σ R
          refine q_let (fun v3 => q_G l cx M_PD_near 2 128 0 0 63 [(6, .inl v3), (0, .inr (.inr x0)), (5, .inl x5)] [] σ R) (x6 + 1) (fun v3 e_v3 => ?_)
          have hV := hV v3 e_v3
          refine q_goto (q_dc k_PD_near 43 rfl) rfl ?_
          exact q_less (Nat.le_of_ble_eq_true rfl) (Nat.le_of_ble_eq_true rfl) (q_subk [1, 2, 0] rfl hV))
  have hV := hV (by
      intro x0 x6 σ hV
      show q_G l cx M_PD_near 2 128 0 0 66 [(0, .inr (.inr x0)), (6, .inl x6)] [] σ R
      refine q_run k_PD_near 44 12 84 rfl ?_
      show q_K σ x0 = 3 ∧ q_K σ x0 = 3 ∧ q_G l cx M_PD_near 2 128 0 0 84 [(0, .inr (.inr x0)), (6, .inl x6)] [.inr (.inl ((((q_I σ x0 2) + x6) - 1).toInt64)), .inr (.inl (((q_I σ x0 2) - x6).toInt64))] σ R
      obtain ⟨s1, s2, hV⟩ := hV
      refine ⟨s1, s2, ?_⟩
      refine q_callS (st := []) (t_PF_span (l := l) (cx := cx) (σ := σ) (((q_I σ x0 2) - x6).toInt64) ((((q_I σ x0 2) + x6) - 1).toInt64)) (q_dc k_PD_near 56 rfl) (Or.inr ⟨"PlaneFills", List.mem_of_getElem? (i := 2) (by decide +kernel)⟩) w_PF_span s_PF_span a_PF_span (q_wt (Nat.le_of_ble_eq_true rfl)) ⟨Nat.le_of_ble_eq_true rfl, Nat.le_of_ble_eq_true rfl⟩ (fun v9 τ9 q9 => ?_) (fun n9 τ9 q9 => by cases q9.1)
      obtain ⟨q8, q7⟩ := q9
      cases q8
      rw [q7]
      show q_G l cx M_PD_near 2 128 0 0 87 [(0, .inr (.inr x0)), (6, .inl x6)] [.inl (f_PF_span (((q_I σ x0 2) - x6).toInt64) ((((q_I σ x0 2) + x6) - 1).toInt64))] σ R
      exact q_ireturn (q_dc k_PD_near 57 rfl) rfl hV)
  refine q_run k_PD_near 0 7 9 rfl ?_
  show q_K σ x0 = 3 ∧ q_G l cx M_PD_near 2 128 0 0 9 [(3, .inl (2 * ((q_I σ x0 4) + x2))), (0, .inr (.inr x0)), (1, .inl x1), (2, .inl x2)] [] σ R
  obtain ⟨s2, hV⟩ := hV
  refine ⟨s2, ?_⟩
  refine q_let (fun v1 => q_G l cx M_PD_near 2 128 0 0 9 [(3, .inl v1), (0, .inr (.inr x0)), (1, .inl x1), (2, .inl x2)] [] σ R) (2 * ((q_I σ x0 4) + x2)) (fun v1 e_v1 => ?_)
  have hV := hV v1 e_v1
  refine q_run k_PD_near 7 9 21 rfl ?_
  show q_K σ x0 = 3 ∧ q_G l cx M_PD_near 2 128 0 0 21 [(4, .inl ((2 * (x1 - (q_I σ x0 3))) + 1)), (3, .inl v1), (0, .inr (.inr x0)), (1, .inl x1), (2, .inl x2)] [] σ R
  obtain ⟨s4, hV⟩ := hV
  refine ⟨s4, ?_⟩
  refine q_let (fun v3 => q_G l cx M_PD_near 2 128 0 0 21 [(4, .inl v3), (3, .inl v1), (0, .inr (.inr x0)), (1, .inl x1), (2, .inl x2)] [] σ R) ((2 * (x1 - (q_I σ x0 3))) + 1) (fun v3 e_v3 => ?_)
  have hV := hV v3 e_v3
  refine q_run k_PD_near 16 8 32 rfl ?_
  show q_G l cx M_PD_near 2 128 0 0 32 [(5, .inl ((v1 * v1) - (v3 * v3))), (4, .inl v3), (3, .inl v1), (0, .inr (.inr x0)), (1, .inl x1), (2, .inl x2)] [] σ R
  refine q_let (fun v5 => q_G l cx M_PD_near 2 128 0 0 32 [(5, .inl v5), (4, .inl v3), (3, .inl v1), (0, .inr (.inr x0)), (1, .inl x1), (2, .inl x2)] [] σ R) ((v1 * v1) - (v3 * v3)) (fun v5 e_v5 => ?_)
  have hV := hV v5 e_v5
  refine q_run k_PD_near 24 2 35 rfl ?_
  show q_G l cx M_PD_near 2 128 0 0 35 [(6, .inl 0), (5, .inl v5), (4, .inl v3), (3, .inl v1), (0, .inr (.inr x0)), (1, .inl x1), (2, .inl x2)] [] σ R
  exact q_less (Nat.le_of_ble_eq_true rfl) (Nat.le_of_ble_eq_true rfl) (q_subk [4, 1, 0] rfl hV)
def V_PG_takeOff (x0 : Nat) (x1 : Nat) (σ : q_S) (R : q_O → q_S → Prop) : Prop :=
  ∀ (P5 : Nat → Nat → Int32 → q_S → Prop),
  (∀ x0 x1 x2 σ, (q_K σ x0 = 4 ∧ (((q_I σ x0 4) < x2 → R (.inl none) σ) ∧ (¬ ((q_I σ x0 4) < x2) → (q_K σ x1 = 1000 ∨ q_K σ x1 = 2000) ∧ vp_in x2 (q_Z σ x1) ∧ q_K σ x0 = 4 ∧ (q_K σ (q_P σ x0 2) = 1000 ∨ q_K σ (q_P σ x0 2) = 2000) ∧ vp_in x2 (q_Z σ (q_P σ x0 2)) ∧ q_K σ x1 = 1000 ∧ vp_in x2 (q_Z σ x1) ∧ ∀ σ3 : q_S, σ3 = q_wI σ x1 x2.toNatClampNeg ((q_I σ x1 x2.toNatClampNeg) &&& ((q_I σ (q_P σ x0 2) x2.toNatClampNeg) ^^^ (-1))) → ∀ v11 : Int32, v11 = x2 + 1 → P5 x0 x1 v11 σ3))) → P5 x0 x1 x2 σ) →
  q_K σ x0 = 4 ∧ ∀ v1 : Int32, v1 = q_I σ x0 3 → P5 x0 x1 v1 σ
set_option maxRecDepth 100000 in
theorem t_PG_takeOff {l : Launch} {cx : q_C} {x0 : Nat} {x1 : Nat} {σ : q_S} {R : q_O → q_S → Prop} (hV : V_PG_takeOff x0 x1 σ R) : q_Ct l cx M_PG_takeOff 0 0 0 0 [q_r x0, q_r x1] σ R := by
  refine q_Ct.of p_PG_takeOff c_PG_takeOff rfl (Nat.le_of_ble_eq_true rfl) ?_
  have hV := hV (fun x0 x1 x2 σ => q_G l cx M_PG_takeOff 0 0 0 0 5 [(0, .inr (.inr x0)), (1, .inr (.inr x1)), (2, .inl x2)] [] σ R)
  have hV := hV (by
      intro x0 x1 x2 σ hV
      show q_G l cx M_PG_takeOff 0 0 0 0 5 [(0, .inr (.inr x0)), (1, .inr (.inr x1)), (2, .inl x2)] [] σ R
      refine q_run k_PG_takeOff 3 3 10 rfl ?_
      show q_K σ x0 = 4 ∧ q_G l cx M_PG_takeOff 0 0 0 0 10 [(0, .inr (.inr x0)), (1, .inr (.inr x1)), (2, .inl x2)] [.inl (q_I σ x0 4), .inl x2] σ R
      obtain ⟨s1, hV⟩ := hV
      refine ⟨s1, ?_⟩
      refine q_icmp (q_dc k_PG_takeOff 6 rfl) rfl (fun h2 => ?_) (fun h2 => ?_)
      · have hV := hV.1 h2
        exact q_vreturn (q_dc k_PG_takeOff 21 rfl) rfl hV
      · have hV := hV.2 h2
        refine q_run k_PG_takeOff 7 12 27 rfl ?_
        show (q_K σ x1 = 1000 ∨ q_K σ x1 = 2000) ∧ vp_in x2 (q_Z σ x1) ∧ q_K σ x0 = 4 ∧ (q_K σ (q_P σ x0 2) = 1000 ∨ q_K σ (q_P σ x0 2) = 2000) ∧ vp_in x2 (q_Z σ (q_P σ x0 2)) ∧ q_K σ x1 = 1000 ∧ vp_in x2 (q_Z σ x1) ∧ q_G l cx M_PG_takeOff 0 0 0 0 27 [(0, .inr (.inr x0)), (1, .inr (.inr x1)), (2, .inl x2)] [] (q_wI σ x1 x2.toNatClampNeg ((q_I σ x1 x2.toNatClampNeg) &&& ((q_I σ (q_P σ x0 2) x2.toNatClampNeg) ^^^ (-1)))) R
        obtain ⟨s4, s5, s6, s7, s8, s9, s10, hV⟩ := hV
        refine ⟨s4, s5, s6, s7, s8, s9, s10, ?_⟩
        refine q_let (fun σ3 => q_G l cx M_PG_takeOff 0 0 0 0 27 [(0, .inr (.inr x0)), (1, .inr (.inr x1)), (2, .inl x2)] [] σ3 R) (q_wI σ x1 x2.toNatClampNeg ((q_I σ x1 x2.toNatClampNeg) &&& ((q_I σ (q_P σ x0 2) x2.toNatClampNeg) ^^^ (-1)))) (fun σ3 e_σ3 => ?_)
        have hV := hV σ3 e_σ3
        refine q_run k_PG_takeOff 19 1 30 rfl ?_
        show q_G l cx M_PG_takeOff 0 0 0 0 30 [(2, .inl (x2 + 1)), (0, .inr (.inr x0)), (1, .inr (.inr x1))] [] σ3 R
        refine q_let (fun v11 => q_G l cx M_PG_takeOff 0 0 0 0 30 [(2, .inl v11), (0, .inr (.inr x0)), (1, .inr (.inr x1))] [] σ3 R) (x2 + 1) (fun v11 e_v11 => ?_)
        have hV := hV v11 e_v11
        refine q_goto (q_dc k_PG_takeOff 20 rfl) rfl ?_
        exact q_less (Nat.le_of_ble_eq_true rfl) (Nat.le_of_ble_eq_true rfl) (q_subk [1, 2, 0] rfl hV))
  refine q_run k_PG_takeOff 0 3 5 rfl ?_
  show q_K σ x0 = 4 ∧ q_G l cx M_PG_takeOff 0 0 0 0 5 [(2, .inl (q_I σ x0 3)), (0, .inr (.inr x0)), (1, .inr (.inr x1))] [] σ R
  obtain ⟨s2, hV⟩ := hV
  refine ⟨s2, ?_⟩
  refine q_let (fun v1 => q_G l cx M_PG_takeOff 0 0 0 0 5 [(2, .inl v1), (0, .inr (.inr x0)), (1, .inr (.inr x1))] [] σ R) (q_I σ x0 3) (fun v1 e_v1 => ?_)
  have hV := hV v1 e_v1
  exact q_less (Nat.le_of_ble_eq_true rfl) (Nat.le_of_ble_eq_true rfl) (q_subk [1, 2, 0] rfl hV)
def V_PM_span (x0 : Int32) (x1 : Int32) (σ : q_S) (R : q_O → q_S → Prop) : Prop :=
  ∀ (P5 : Int32 → Int64 → Int32 → q_S → Prop),
  (∀ x1 x2 x4 σ, (((x1 < x4 → R (.inl (some (.inr (.inl x2)))) σ) ∧ (¬ (x1 < x4) → ∀ v2 : Int64, v2 = x2 ||| (f_PM_bit x4) → ∀ v3 : Int32, v3 = x4 + 1 → P5 x1 v2 v3 σ))) → P5 x1 x2 x4 σ) →
  P5 x1 0 x0 σ
set_option maxRecDepth 100000 in
theorem t_PM_span {l : Launch} {cx : q_C} {x0 : Int32} {x1 : Int32} {σ : q_S} {R : q_O → q_S → Prop} (hV : V_PM_span x0 x1 σ R) : q_Ct l cx M_PM_span 1 64 0 0 [q_i x0, q_i x1] σ R := by
  refine q_Ct.of p_PM_span c_PM_span rfl (Nat.le_of_ble_eq_true rfl) ?_
  have hV := hV (fun x1 x2 x4 σ => q_G l cx M_PM_span 1 64 0 0 5 [(1, .inl x1), (2, .inr (.inl x2)), (4, .inl x4)] [] σ R)
  have hV := hV (by
      intro x1 x2 x4 σ hV
      show q_G l cx M_PM_span 1 64 0 0 5 [(1, .inl x1), (2, .inr (.inl x2)), (4, .inl x4)] [] σ R
      refine q_run k_PM_span 4 2 8 rfl ?_
      show q_G l cx M_PM_span 1 64 0 0 8 [(1, .inl x1), (2, .inr (.inl x2)), (4, .inl x4)] [.inl x1, .inl x4] σ R
      refine q_icmp (q_dc k_PM_span 6 rfl) rfl (fun h1 => ?_) (fun h1 => ?_)
      · have hV := hV.1 h1
        refine q_run k_PM_span 14 1 26 rfl ?_
        show q_G l cx M_PM_span 1 64 0 0 26 [(1, .inl x1), (2, .inr (.inl x2)), (4, .inl x4)] [.inr (.inl x2)] σ R
        exact q_lreturn (q_dc k_PM_span 15 rfl) rfl hV
      · have hV := hV.2 h1
        refine q_run k_PM_span 7 2 14 rfl ?_
        show q_G l cx M_PM_span 1 64 0 0 14 [(1, .inl x1), (2, .inr (.inl x2)), (4, .inl x4)] [.inl x4, .inr (.inl x2)] σ R
        refine q_callS (st := [.inr (.inl x2)]) (t_PM_bit (l := l) (cx := cx) (σ := σ) x4) (q_dc k_PM_span 9 rfl) (Or.inl (List.mem_of_getElem? (i := 1003) (by decide +kernel))) w_PM_bit s_PM_bit a_PM_bit (q_wt (Nat.le_of_ble_eq_true rfl)) ⟨Nat.le_of_ble_eq_true rfl, Nat.le_of_ble_eq_true rfl⟩ (fun v9 τ9 q9 => ?_) (fun n9 τ9 q9 => by cases q9.1)
        obtain ⟨q8, q7⟩ := q9
        cases q8
        rw [q7]
        show q_G l cx M_PM_span 1 64 0 0 17 [(1, .inl x1), (2, .inr (.inl x2)), (4, .inl x4)] [.inr (.inl (f_PM_bit x4)), .inr (.inl x2)] σ R
        refine q_run k_PM_span 10 2 19 rfl ?_
        show q_G l cx M_PM_span 1 64 0 0 19 [(2, .inr (.inl (x2 ||| (f_PM_bit x4)))), (1, .inl x1), (4, .inl x4)] [] σ R
        refine q_let (fun v2 => q_G l cx M_PM_span 1 64 0 0 19 [(2, .inr (.inl v2)), (1, .inl x1), (4, .inl x4)] [] σ R) (x2 ||| (f_PM_bit x4)) (fun v2 e_v2 => ?_)
        have hV := hV v2 e_v2
        refine q_run k_PM_span 12 1 22 rfl ?_
        show q_G l cx M_PM_span 1 64 0 0 22 [(4, .inl (x4 + 1)), (2, .inr (.inl v2)), (1, .inl x1)] [] σ R
        refine q_let (fun v3 => q_G l cx M_PM_span 1 64 0 0 22 [(4, .inl v3), (2, .inr (.inl v2)), (1, .inl x1)] [] σ R) (x4 + 1) (fun v3 e_v3 => ?_)
        have hV := hV v3 e_v3
        refine q_goto (q_dc k_PM_span 13 rfl) rfl ?_
        exact q_less (Nat.le_of_ble_eq_true rfl) (Nat.le_of_ble_eq_true rfl) (q_subk [2, 1, 0] rfl hV))
  refine q_run k_PM_span 0 4 5 rfl ?_
  show q_G l cx M_PM_span 1 64 0 0 5 [(4, .inl x0), (2, .inr (.inl 0)), (0, .inl x0), (1, .inl x1)] [] σ R
  exact q_less (Nat.le_of_ble_eq_true rfl) (Nat.le_of_ble_eq_true rfl) (q_subk [3, 1, 0] rfl hV)
