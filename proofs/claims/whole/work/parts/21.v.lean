/-! WHAT METHODS ASK (by program: wip/whole/tools/vgen.py): V_X is read off the instructions (a P of its own for each place where ways meet); t_X: what it asks is enough -/
theorem q_let {α : Type} (F : α → Prop) (e : α) (h : ∀ x, x = e → F x) : F e := h e rfl
theorem q_subk {l : Launch} {cx : q_C} {M : q_M} {fr lw kc ks pc : Nat} {lo lo' : List (Nat × q_V)} {st : List q_V} {σ : q_S} {Q : q_O → q_S → Prop} (is : List Nat) (hs : is.filterMap (fun i => lo[i]?) = lo') (h : q_G l cx M fr lw kc ks pc lo' st σ Q) : q_G l cx M fr lw kc ks pc lo st σ Q := by
  refine q_sub (fun q hq => ?_) h
  subst hs
  obtain ⟨i, -, hi⟩ := List.mem_filterMap.mp hq
  exact List.mem_of_getElem? hi
def q_ci (k : Int32 → q_S → Prop) (x : Nat → q_S → Prop) : q_O → q_S → Prop := fun o τ => match o with
  | .inl (some (.inl v)) => k v τ
  | .inr n => x n τ
  | _ => False
def q_cl' (k : Int64 → q_S → Prop) (x : Nat → q_S → Prop) : q_O → q_S → Prop := fun o τ => match o with
  | .inl (some (.inr (.inl v))) => k v τ
  | .inr n => x n τ
  | _ => False
def q_cr (k : Nat → q_S → Prop) (x : Nat → q_S → Prop) : q_O → q_S → Prop := fun o τ => match o with
  | .inl (some (.inr (.inr v))) => k v τ
  | .inr n => x n τ
  | _ => False
def q_cv (k : q_S → Prop) (x : Nat → q_S → Prop) : q_O → q_S → Prop := fun o τ => match o with
  | .inl none => k τ
  | .inr n => x n τ
  | _ => False
theorem q_ci_elim {k : Int32 → q_S → Prop} {x : Nat → q_S → Prop} {o : Option q_V} {τ : q_S} (h : q_ci k x (.inl o) τ) : ∃ v, o = some (.inl v) ∧ k v τ := by
  rcases o with _ | v | v | v
  · exact False.elim h
  · exact ⟨v, rfl, h⟩
  · exact False.elim h
  · exact False.elim h
theorem q_cl_elim {k : Int64 → q_S → Prop} {x : Nat → q_S → Prop} {o : Option q_V} {τ : q_S} (h : q_cl' k x (.inl o) τ) : ∃ v, o = some (.inr (.inl v)) ∧ k v τ := by
  rcases o with _ | v | v | v
  · exact False.elim h
  · exact False.elim h
  · exact ⟨v, rfl, h⟩
  · exact False.elim h
theorem q_cr_elim {k : Nat → q_S → Prop} {x : Nat → q_S → Prop} {o : Option q_V} {τ : q_S} (h : q_cr k x (.inl o) τ) : ∃ v, o = some (.inr (.inr v)) ∧ k v τ := by
  rcases o with _ | v | v | v
  · exact False.elim h
  · exact False.elim h
  · exact False.elim h
  · exact ⟨v, rfl, h⟩
theorem q_cv_elim {k : q_S → Prop} {x : Nat → q_S → Prop} {o : Option q_V} {τ : q_S} (h : q_cv k x (.inl o) τ) : o = none ∧ k τ := by
  rcases o with _ | v | v | v
  · exact ⟨rfl, h⟩
  · exact False.elim h
  · exact False.elim h
  · exact False.elim h
/-- a cast that holds -/
theorem q_cast1 {l : Launch} {cx : q_C} {M : q_M} {fr lw kc ks pc : Nat} {lo : List (Nat × q_V)} {st : List q_V} {σ : q_S} {Q : q_O → q_S → Prop} {idx ci a : Nat} {r : vw_C} (hd : decode M.2.1 pc = .ok (.checkcast idx, 3)) (hc : q_cl[ci]? = some r) (hK : q_K σ a = ci + 1) (hq : (r.1, r.1) ∈ q_cast) (hl : Cond.classLink M.1.cls idx r.1 ∈ q_ws)
    (h : q_G l cx M fr lw kc ks (pc + 3) lo (.inr (.inr a) :: st) σ Q) : q_G l cx M fr lw kc ks pc lo (.inr (.inr a) :: st) σ Q := by
  intro p e R s m args below meth c H locs cells slots ls X f1 f2 f3 f4 hR hS hl9
  have h7 := h p e R s m args below meth c H locs cells slots ls X f1 f2 f3 f4 hR hS hl9
  have hp := hR.pos (a := a) (by omega)
  rw [q_ref hp] at h7 ⊢
  obtain ⟨cell, g1, g2, g3, -⟩ := q_recv X.2.2.2.2.2.2.2.2.1 hR hK hc
  exact va_castY X.1 X.2.1 X.2.2.2.2.2.2.1 (X.2.2.2.2.2.2.2.1 _ hl) (X.2.2.2.2.2.2.2.2.1.2.2.2.2.2.2.2.2.1 _ hq) ⟨cell, g1, g2, g3⟩ hd h7
def V_AL_size (x0 : Nat) (σ : q_S) (R : q_O → q_S → Prop) : Prop :=
  q_K σ x0 = 8 ∧ R (.inl (some (.inl (q_I σ x0 1)))) σ
set_option maxRecDepth 100000 in
theorem t_AL_size {l : Launch} {cx : q_C} {x0 : Nat} {σ : q_S} {R : q_O → q_S → Prop} (hV : V_AL_size x0 σ R) : q_Ct l cx M_AL_size 0 0 0 0 [q_r x0] σ R := by
  refine q_Ct.of p_AL_size c_AL_size rfl (Nat.le_of_ble_eq_true rfl) ?_
  refine q_run k_AL_size 0 2 4 rfl ?_
  show q_K σ x0 = 8 ∧ q_G l cx M_AL_size 0 0 0 0 4 [(0, .inr (.inr x0))] [.inl (q_I σ x0 1)] σ R
  obtain ⟨s1, hV⟩ := hV
  refine ⟨s1, ?_⟩
  exact q_ireturn (q_dc k_AL_size 2 rfl) rfl hV
def V_PR_checkIndex (x0 : Int32) (x1 : Int32) (x2 : Nat) (σ : q_S) (R : q_O → q_S → Prop) : Prop :=
  ∀ (P9 : Int32 → Int32 → Nat → q_S → Prop),
  (∀ (x0 : Int32) (x1 : Int32) (x2 : Nat) (σ : q_S), (False) → P9 x0 x1 x2 σ) →
  ((x0 < (0 : Int32) → P9 x0 x1 x2 σ) ∧ (¬ (x0 < (0 : Int32)) → ((x0 < x1 → R (.inl (some (.inl x0))) σ) ∧ (¬ (x0 < x1) → P9 x0 x1 x2 σ))))
set_option maxRecDepth 100000 in
theorem t_PR_checkIndex {l : Launch} {cx : q_C} {x0 : Int32} {x1 : Int32} {x2 : Nat} {σ : q_S} {R : q_O → q_S → Prop} (hV : V_PR_checkIndex x0 x1 x2 σ R) : q_Ct l cx M_PR_checkIndex 0 0 0 0 [q_i x0, q_i x1, q_r x2] σ R := by
  refine q_Ct.of p_PR_checkIndex c_PR_checkIndex rfl (Nat.le_of_ble_eq_true rfl) ?_
  have hV := hV (fun (x0 : Int32) (x1 : Int32) (x2 : Nat) (σ : q_S) => q_G l cx M_PR_checkIndex 0 0 0 0 9 [(0, .inl x0), (1, .inl x1), (2, .inr (.inr x2))] [] σ R)
  have hV := hV (by
      intro x0 x1 x2 σ hV
      show q_G l cx M_PR_checkIndex 0 0 0 0 9 [(0, .inl x0), (1, .inl x1), (2, .inr (.inr x2))] [] σ R
      refine q_run k_PR_checkIndex 5 3 12 rfl ?_
      show q_G l cx M_PR_checkIndex 0 0 0 0 12 [(0, .inl x0), (1, .inl x1), (2, .inr (.inr x2))] [.inl x1, .inl x0, .inr (.inr x2)] σ R
      exact False.elim hV)
  refine q_run k_PR_checkIndex 0 1 1 rfl ?_
  show q_G l cx M_PR_checkIndex 0 0 0 0 1 [(0, .inl x0), (1, .inl x1), (2, .inr (.inr x2))] [.inl x0] σ R
  refine q_ifz (q_dc k_PR_checkIndex 1 rfl) rfl (fun h1 => ?_) (fun h1 => ?_)
  · have hV := hV.1 h1
    exact q_less (Nat.le_of_ble_eq_true rfl) (Nat.le_of_ble_eq_true rfl) (q_subk [0, 1, 2] rfl hV)
  · have hV := hV.2 h1
    refine q_run k_PR_checkIndex 2 2 6 rfl ?_
    show q_G l cx M_PR_checkIndex 0 0 0 0 6 [(0, .inl x0), (1, .inl x1), (2, .inr (.inr x2))] [.inl x1, .inl x0] σ R
    refine q_icmp (q_dc k_PR_checkIndex 4 rfl) rfl (fun h2 => ?_) (fun h2 => ?_)
    · have hV := hV.1 h2
      refine q_run k_PR_checkIndex 10 1 17 rfl ?_
      show q_G l cx M_PR_checkIndex 0 0 0 0 17 [(0, .inl x0), (1, .inl x1), (2, .inr (.inr x2))] [.inl x0] σ R
      exact q_ireturn (q_dc k_PR_checkIndex 11 rfl) rfl hV
    · have hV := hV.2 h2
      exact q_less (Nat.le_of_ble_eq_true rfl) (Nat.le_of_ble_eq_true rfl) (q_subk [0, 1, 2] rfl hV)
def V_OB_checkIndex (x0 : Int32) (x1 : Int32) (σ : q_S) (R : q_O → q_S → Prop) : Prop :=
  V_PR_checkIndex x0 x1 0 σ (q_ci (fun v3 σ4 => R (.inl (some (.inl v3))) σ4) (fun n9 σ9 => R (.inr n9) σ9))
set_option maxRecDepth 100000 in
theorem t_OB_checkIndex {l : Launch} {cx : q_C} {x0 : Int32} {x1 : Int32} {σ : q_S} {R : q_O → q_S → Prop} (hV : V_OB_checkIndex x0 x1 σ R) : q_Ct l cx M_OB_checkIndex 1 64 0 0 [q_i x0, q_i x1] σ R := by
  refine q_Ct.of p_OB_checkIndex c_OB_checkIndex rfl (Nat.le_of_ble_eq_true rfl) ?_
  refine q_run k_OB_checkIndex 0 3 3 rfl ?_
  show q_G l cx M_OB_checkIndex 1 64 0 0 3 [(0, .inl x0), (1, .inl x1)] [.inr (.inr 0), .inl x1, .inl x0] σ R
  refine q_callS (st := []) (t_PR_checkIndex (l := l) (cx := cx)  hV) (q_dc k_OB_checkIndex 3 rfl) (Or.inl (List.mem_of_getElem? (i := 183) (by decide +kernel))) w_PR_checkIndex s_PR_checkIndex a_PR_checkIndex (q_wt (Nat.le_of_ble_eq_true rfl)) ⟨Nat.le_of_ble_eq_true rfl, Nat.le_of_ble_eq_true rfl⟩ (fun v9 τ9 q9 => ?_) (fun n9 τ9 q9 => q_T.leave rfl q9)
  obtain ⟨v3, rfl, hV⟩ := q_ci_elim q9
  clear q9
  have hV := hV
  revert hV
  generalize τ9 = σ4
  intro hV
  show q_G l cx M_OB_checkIndex 1 64 0 0 6 [(0, .inl x0), (1, .inl x1)] [.inl v3] σ4 R
  exact q_ireturn (q_dc k_OB_checkIndex 4 rfl) rfl hV
def V_AL_elementData (x0 : Nat) (x1 : Int32) (σ : q_S) (R : q_O → q_S → Prop) : Prop :=
  q_K σ x0 = 8 ∧ q_K σ (q_P σ x0 0) = 1002 ∧ vp_in x1 (q_Z σ (q_P σ x0 0)) ∧ R (.inl (some (.inr (.inr (q_P σ (q_P σ x0 0) x1.toNatClampNeg))))) σ
set_option maxRecDepth 100000 in
theorem t_AL_elementData {l : Launch} {cx : q_C} {x0 : Nat} {x1 : Int32} {σ : q_S} {R : q_O → q_S → Prop} (hV : V_AL_elementData x0 x1 σ R) : q_Ct l cx M_AL_elementData 0 0 0 0 [q_r x0, q_i x1] σ R := by
  refine q_Ct.of p_AL_elementData c_AL_elementData rfl (Nat.le_of_ble_eq_true rfl) ?_
  refine q_run k_AL_elementData 0 4 6 rfl ?_
  show q_K σ x0 = 8 ∧ q_K σ (q_P σ x0 0) = 1002 ∧ vp_in x1 (q_Z σ (q_P σ x0 0)) ∧ q_G l cx M_AL_elementData 0 0 0 0 6 [(0, .inr (.inr x0)), (1, .inl x1)] [.inr (.inr (q_P σ (q_P σ x0 0) x1.toNatClampNeg))] σ R
  obtain ⟨s1, s2, s3, hV⟩ := hV
  refine ⟨s1, s2, s3, ?_⟩
  exact q_areturn (q_dc k_AL_elementData 4 rfl) rfl (by first | exact Or.inl ⟨_, rfl⟩ | exact Or.inr ⟨_, rfl⟩) hV
def V_AL_get (x0 : Nat) (x1 : Int32) (σ : q_S) (R : q_O → q_S → Prop) : Prop :=
  q_K σ x0 = 8 ∧ V_OB_checkIndex x1 (q_I σ x0 1) σ (q_ci (fun v4 σ5 => q_K σ5 x0 = 8 ∧ V_AL_elementData x0 x1 σ5 (q_cr (fun v9 σ10 => R (.inl (some (.inr (.inr v9)))) σ10) (fun n9 σ9 => R (.inr n9) σ9))) (fun n9 σ9 => R (.inr n9) σ9))
set_option maxRecDepth 100000 in
theorem t_AL_get {l : Launch} {cx : q_C} {x0 : Nat} {x1 : Int32} {σ : q_S} {R : q_O → q_S → Prop} (hV : V_AL_get x0 x1 σ R) : q_Ct l cx M_AL_get 2 128 0 0 [q_r x0, q_i x1] σ R := by
  refine q_Ct.of p_AL_get c_AL_get rfl (Nat.le_of_ble_eq_true rfl) ?_
  refine q_run k_AL_get 0 3 5 rfl ?_
  show q_K σ x0 = 8 ∧ q_G l cx M_AL_get 2 128 0 0 5 [(0, .inr (.inr x0)), (1, .inl x1)] [.inl (q_I σ x0 1), .inl x1] σ R
  obtain ⟨s1, hV⟩ := hV
  refine ⟨s1, ?_⟩
  refine q_callS (st := []) (t_OB_checkIndex (l := l) (cx := cx)  hV) (q_dc k_AL_get 3 rfl) (Or.inl (List.mem_of_getElem? (i := 180) (by decide +kernel))) w_OB_checkIndex s_OB_checkIndex a_OB_checkIndex (q_wt (Nat.le_of_ble_eq_true rfl)) ⟨Nat.le_of_ble_eq_true rfl, Nat.le_of_ble_eq_true rfl⟩ (fun v9 τ9 q9 => ?_) (fun n9 τ9 q9 => q_T.leave rfl q9)
  obtain ⟨v4, rfl, hV⟩ := q_ci_elim q9
  clear q9
  have hV := hV
  revert hV
  generalize τ9 = σ5
  intro hV
  show q_G l cx M_AL_get 2 128 0 0 8 [(0, .inr (.inr x0)), (1, .inl x1)] [.inl v4] σ5 R
  refine q_run k_AL_get 4 3 11 rfl ?_
  show q_G l cx M_AL_get 2 128 0 0 11 [(0, .inr (.inr x0)), (1, .inl x1)] [.inl x1, .inr (.inr x0)] σ5 R
  obtain ⟨s6, hV⟩ := hV
  refine q_callV (st := []) (as := [.inl x1]) (t_AL_elementData (l := l) (cx := cx)  hV) (q_dc k_AL_get 7 rfl) (Or.inl (List.mem_of_getElem? (i := 186) (by decide +kernel))) w_AL_elementData n_AL_elementData (ci := 7) rfl e_AL_elementData a_AL_elementData (q_wt (Nat.le_of_ble_eq_true rfl)) ⟨Nat.le_of_ble_eq_true rfl, Nat.le_of_ble_eq_true rfl⟩ s6 (fun v9 τ9 q9 => ?_) (fun n9 τ9 q9 => q_T.leave rfl q9)
  obtain ⟨v9, rfl, hV⟩ := q_cr_elim q9
  clear q9
  have hV := hV
  revert hV
  generalize τ9 = σ10
  intro hV
  show q_G l cx M_AL_get 2 128 0 0 14 [(0, .inr (.inr x0)), (1, .inl x1)] [.inr (.inr v9)] σ10 R
  exact q_areturn (q_dc k_AL_get 8 rfl) rfl (by first | exact Or.inl ⟨_, rfl⟩ | exact Or.inr ⟨_, rfl⟩) hV
def V_AR_fill (x0 : Nat) (x1 : Int32) (σ : q_S) (R : q_O → q_S → Prop) : Prop :=
  ∀ (P5 : Nat → Int32 → Int32 → Int32 → q_S → Prop),
  (∀ (x0 : Nat) (x1 : Int32) (x2 : Int32) (x3 : Int32) (σ : q_S), (((x3 ≤ x2 → R (.inl none) σ) ∧ (¬ (x3 ≤ x2) → q_K σ x0 = 1000 ∧ vp_in x2 (q_Z σ x0) ∧ ∀ σ2 : q_S, σ2 = q_wI σ x0 x2.toNatClampNeg x1 → ∀ v5 : Int32, v5 = x2 + (1 : Int32) → P5 x0 x1 v5 x3 σ2))) → P5 x0 x1 x2 x3 σ) →
  1000 ≤ q_K σ x0 ∧ ∀ v1 : Int32, v1 = nI (q_Z σ x0) → P5 x0 x1 (0 : Int32) v1 σ
set_option maxRecDepth 100000 in
theorem t_AR_fill {l : Launch} {cx : q_C} {x0 : Nat} {x1 : Int32} {σ : q_S} {R : q_O → q_S → Prop} (hV : V_AR_fill x0 x1 σ R) : q_Ct l cx M_AR_fill 0 0 0 0 [q_r x0, q_i x1] σ R := by
  refine q_Ct.of p_AR_fill c_AR_fill rfl (Nat.le_of_ble_eq_true rfl) ?_
  have hV := hV (fun (x0 : Nat) (x1 : Int32) (x2 : Int32) (x3 : Int32) (σ : q_S) => q_G l cx M_AR_fill 0 0 0 0 5 [(0, .inr (.inr x0)), (1, .inl x1), (2, .inl x2), (3, .inl x3)] [] σ R)
  have hV := hV (by
      intro x0 x1 x2 x3 σ hV
      show q_G l cx M_AR_fill 0 0 0 0 5 [(0, .inr (.inr x0)), (1, .inl x1), (2, .inl x2), (3, .inl x3)] [] σ R
      refine q_run k_AR_fill 5 2 7 rfl ?_
      show q_G l cx M_AR_fill 0 0 0 0 7 [(0, .inr (.inr x0)), (1, .inl x1), (2, .inl x2), (3, .inl x3)] [.inl x3, .inl x2] σ R
      refine q_icmp (q_dc k_AR_fill 7 rfl) rfl (fun h1 => ?_) (fun h1 => ?_)
      · have hV := hV.1 h1
        exact q_vreturn (q_dc k_AR_fill 14 rfl) rfl hV
      · have hV := hV.2 h1
        refine q_run k_AR_fill 8 4 14 rfl ?_
        show q_K σ x0 = 1000 ∧ vp_in x2 (q_Z σ x0) ∧ q_G l cx M_AR_fill 0 0 0 0 14 [(0, .inr (.inr x0)), (1, .inl x1), (2, .inl x2), (3, .inl x3)] [] (q_wI σ x0 x2.toNatClampNeg x1) R
        obtain ⟨s3, s4, hV⟩ := hV
        refine ⟨s3, s4, ?_⟩
        refine q_let (fun σ2 => q_G l cx M_AR_fill 0 0 0 0 14 [(0, .inr (.inr x0)), (1, .inl x1), (2, .inl x2), (3, .inl x3)] [] σ2 R) (q_wI σ x0 x2.toNatClampNeg x1) (fun σ2 e_σ2 => ?_)
        have hV := hV σ2 e_σ2
        refine q_run k_AR_fill 12 1 17 rfl ?_
        show q_G l cx M_AR_fill 0 0 0 0 17 [(2, .inl (x2 + (1 : Int32))), (0, .inr (.inr x0)), (1, .inl x1), (3, .inl x3)] [] σ2 R
        refine q_let (fun v5 => q_G l cx M_AR_fill 0 0 0 0 17 [(2, .inl v5), (0, .inr (.inr x0)), (1, .inl x1), (3, .inl x3)] [] σ2 R) (x2 + (1 : Int32)) (fun v5 e_v5 => ?_)
        have hV := hV v5 e_v5
        refine q_goto (q_dc k_AR_fill 13 rfl) rfl ?_
        exact q_less (Nat.le_of_ble_eq_true rfl) (Nat.le_of_ble_eq_true rfl) (q_subk [1, 2, 0, 3] rfl hV))
  refine q_run k_AR_fill 0 5 5 rfl ?_
  show 1000 ≤ q_K σ x0 ∧ q_G l cx M_AR_fill 0 0 0 0 5 [(3, .inl (nI (q_Z σ x0))), (2, .inl (0 : Int32)), (0, .inr (.inr x0)), (1, .inl x1)] [] σ R
  obtain ⟨s2, hV⟩ := hV
  refine ⟨s2, ?_⟩
  refine q_let (fun v1 => q_G l cx M_AR_fill 0 0 0 0 5 [(3, .inl v1), (2, .inl (0 : Int32)), (0, .inr (.inr x0)), (1, .inl x1)] [] σ R) (nI (q_Z σ x0)) (fun v1 e_v1 => ?_)
  have hV := hV v1 e_v1
  exact q_less (Nat.le_of_ble_eq_true rfl) (Nat.le_of_ble_eq_true rfl) (q_subk [2, 3, 1, 0] rfl hV)
def V_PF_columnsBelow (x0 : Int32) (x1 : Int32) (σ : q_S) (R : q_O → q_S → Prop) : Prop :=
  ∀ (P8 : Int32 → Int32 → Int32 → Int32 → q_S → Prop),
  ∀ (P35 : Int32 → q_S → Prop),
  (∀ (x0 : Int32) (x1 : Int32) (x2 : Int32) (x3 : Int32) (σ : q_S), ((((32 : Int32) ≤ x3 → P35 x2 σ) ∧ (¬ ((32 : Int32) ≤ x3) → ∀ v2 : Int32, v2 = x2 ||| (f_PF_span x3.toInt64 (((x3 + x1) - (1 : Int32)).toInt64)) → ∀ v3 : Int32, v3 = x3 + x0 → P8 x0 x1 v2 v3 σ))) → P8 x0 x1 x2 x3 σ) →
  (∀ (x2 : Int32) (σ : q_S), (R (.inl (some (.inl x2))) σ) → P35 x2 σ) →
  ((x0 ≤ (0 : Int32) → P35 (0 : Int32) σ) ∧ (¬ (x0 ≤ (0 : Int32)) → P8 x0 x1 (0 : Int32) (0 : Int32) σ))
set_option maxRecDepth 100000 in
theorem t_PF_columnsBelow {l : Launch} {cx : q_C} {x0 : Int32} {x1 : Int32} {σ : q_S} {R : q_O → q_S → Prop} (hV : V_PF_columnsBelow x0 x1 σ R) : q_Ct l cx M_PF_columnsBelow 2 128 0 0 [q_i x0, q_i x1] σ R := by
  refine q_Ct.of p_PF_columnsBelow c_PF_columnsBelow rfl (Nat.le_of_ble_eq_true rfl) ?_
  have hV := hV (fun (x0 : Int32) (x1 : Int32) (x2 : Int32) (x3 : Int32) (σ : q_S) => q_G l cx M_PF_columnsBelow 2 128 0 0 8 [(0, .inl x0), (1, .inl x1), (2, .inl x2), (3, .inl x3)] [] σ R) (fun (x2 : Int32) (σ : q_S) => q_G l cx M_PF_columnsBelow 2 128 0 0 35 [(2, .inl x2)] [] σ R)
  have hV := hV (by
      intro x0 x1 x2 x3 σ hV
      show q_G l cx M_PF_columnsBelow 2 128 0 0 8 [(0, .inl x0), (1, .inl x1), (2, .inl x2), (3, .inl x3)] [] σ R
      refine q_run k_PF_columnsBelow 6 2 11 rfl ?_
      show q_G l cx M_PF_columnsBelow 2 128 0 0 11 [(0, .inl x0), (1, .inl x1), (2, .inl x2), (3, .inl x3)] [.inl (32 : Int32), .inl x3] σ R
      refine q_icmp (q_dc k_PF_columnsBelow 8 rfl) rfl (fun h1 => ?_) (fun h1 => ?_)
      · have hV := hV.1 h1
        exact q_less (Nat.le_of_ble_eq_true rfl) (Nat.le_of_ble_eq_true rfl) (q_subk [2] rfl hV)
      · have hV := hV.2 h1
        refine q_run k_PF_columnsBelow 9 9 23 rfl ?_
        show q_G l cx M_PF_columnsBelow 2 128 0 0 23 [(0, .inl x0), (1, .inl x1), (2, .inl x2), (3, .inl x3)] [.inr (.inl (((x3 + x1) - (1 : Int32)).toInt64)), .inr (.inl x3.toInt64), .inl x2] σ R
        refine q_callS (st := [.inl x2]) (t_PF_span (l := l) (cx := cx) (σ := σ) x3.toInt64 (((x3 + x1) - (1 : Int32)).toInt64)) (q_dc k_PF_columnsBelow 18 rfl) (Or.inl (List.mem_of_getElem? (i := 244) (by decide +kernel))) w_PF_span s_PF_span a_PF_span (q_wt (Nat.le_of_ble_eq_true rfl)) ⟨Nat.le_of_ble_eq_true rfl, Nat.le_of_ble_eq_true rfl⟩ (fun v9 τ9 q9 => ?_) (fun n9 τ9 q9 => by cases q9.1)
        obtain ⟨q8, q7⟩ := q9
        cases q8
        rw [q7]
        show q_G l cx M_PF_columnsBelow 2 128 0 0 26 [(0, .inl x0), (1, .inl x1), (2, .inl x2), (3, .inl x3)] [.inl (f_PF_span x3.toInt64 (((x3 + x1) - (1 : Int32)).toInt64)), .inl x2] σ R
        refine q_run k_PF_columnsBelow 19 2 28 rfl ?_
        show q_G l cx M_PF_columnsBelow 2 128 0 0 28 [(2, .inl (x2 ||| (f_PF_span x3.toInt64 (((x3 + x1) - (1 : Int32)).toInt64)))), (0, .inl x0), (1, .inl x1), (3, .inl x3)] [] σ R
        refine q_let (fun v2 => q_G l cx M_PF_columnsBelow 2 128 0 0 28 [(2, .inl v2), (0, .inl x0), (1, .inl x1), (3, .inl x3)] [] σ R) (x2 ||| (f_PF_span x3.toInt64 (((x3 + x1) - (1 : Int32)).toInt64))) (fun v2 e_v2 => ?_)
        have hV := hV v2 e_v2
        refine q_run k_PF_columnsBelow 21 4 32 rfl ?_
        show q_G l cx M_PF_columnsBelow 2 128 0 0 32 [(3, .inl (x3 + x0)), (2, .inl v2), (0, .inl x0), (1, .inl x1)] [] σ R
        refine q_let (fun v3 => q_G l cx M_PF_columnsBelow 2 128 0 0 32 [(3, .inl v3), (2, .inl v2), (0, .inl x0), (1, .inl x1)] [] σ R) (x3 + x0) (fun v3 e_v3 => ?_)
        have hV := hV v3 e_v3
        refine q_goto (q_dc k_PF_columnsBelow 25 rfl) rfl ?_
        exact q_less (Nat.le_of_ble_eq_true rfl) (Nat.le_of_ble_eq_true rfl) (q_subk [2, 3, 1, 0] rfl hV))
  have hV := hV (by
      intro x2 σ hV
      show q_G l cx M_PF_columnsBelow 2 128 0 0 35 [(2, .inl x2)] [] σ R
      refine q_run k_PF_columnsBelow 26 1 36 rfl ?_
      show q_G l cx M_PF_columnsBelow 2 128 0 0 36 [(2, .inl x2)] [.inl x2] σ R
      exact q_ireturn (q_dc k_PF_columnsBelow 27 rfl) rfl hV)
  refine q_run k_PF_columnsBelow 0 3 3 rfl ?_
  show q_G l cx M_PF_columnsBelow 2 128 0 0 3 [(2, .inl (0 : Int32)), (0, .inl x0), (1, .inl x1)] [.inl x0] σ R
  refine q_ifz (q_dc k_PF_columnsBelow 3 rfl) rfl (fun h1 => ?_) (fun h1 => ?_)
  · have hV := hV.1 h1
    exact q_less (Nat.le_of_ble_eq_true rfl) (Nat.le_of_ble_eq_true rfl) (q_subk [0] rfl hV)
  · have hV := hV.2 h1
    refine q_run k_PF_columnsBelow 4 2 8 rfl ?_
    show q_G l cx M_PF_columnsBelow 2 128 0 0 8 [(3, .inl (0 : Int32)), (2, .inl (0 : Int32)), (0, .inl x0), (1, .inl x1)] [] σ R
    exact q_less (Nat.le_of_ble_eq_true rfl) (Nat.le_of_ble_eq_true rfl) (q_subk [2, 3, 1, 0] rfl hV)
def V_PF_numberedColumn (x0 : Int32) (x1 : Int32) (σ : q_S) (R : q_O → q_S → Prop) : Prop :=
  ∀ (P4 : Int32 → Int32 → Int32 → q_S → Prop),
  (∀ (x1 : Int32) (x2 : Int32) (x3 : Int32) (σ : q_S), (((x1 ≤ x3 → ∀ v2 : Int32, v2 = x2 &&& (-x2) → R (.inl (some (.inl (f_IN_bitCount (v2 - (1 : Int32)))))) σ) ∧ (¬ (x1 ≤ x3) → ∀ v3 : Int32, v3 = x2 &&& (x2 - (1 : Int32)) → ∀ v4 : Int32, v4 = x3 + (1 : Int32) → P4 x1 v3 v4 σ))) → P4 x1 x2 x3 σ) →
  P4 x1 x0 (0 : Int32) σ
set_option maxRecDepth 100000 in
theorem t_PF_numberedColumn {l : Launch} {cx : q_C} {x0 : Int32} {x1 : Int32} {σ : q_S} {R : q_O → q_S → Prop} (hV : V_PF_numberedColumn x0 x1 σ R) : q_Ct l cx M_PF_numberedColumn 1 64 0 0 [q_i x0, q_i x1] σ R := by
  refine q_Ct.of p_PF_numberedColumn c_PF_numberedColumn rfl (Nat.le_of_ble_eq_true rfl) ?_
  have hV := hV (fun (x1 : Int32) (x2 : Int32) (x3 : Int32) (σ : q_S) => q_G l cx M_PF_numberedColumn 1 64 0 0 4 [(1, .inl x1), (2, .inl x2), (3, .inl x3)] [] σ R)
  have hV := hV (by
      intro x1 x2 x3 σ hV
      show q_G l cx M_PF_numberedColumn 1 64 0 0 4 [(1, .inl x1), (2, .inl x2), (3, .inl x3)] [] σ R
      refine q_run k_PF_numberedColumn 4 2 6 rfl ?_
      show q_G l cx M_PF_numberedColumn 1 64 0 0 6 [(1, .inl x1), (2, .inl x2), (3, .inl x3)] [.inl x1, .inl x3] σ R
      refine q_icmp (q_dc k_PF_numberedColumn 6 rfl) rfl (fun h1 => ?_) (fun h1 => ?_)
      · have hV := hV.1 h1
        refine q_run k_PF_numberedColumn 15 5 26 rfl ?_
        show q_G l cx M_PF_numberedColumn 1 64 0 0 26 [(3, .inl (x2 &&& (-x2))), (1, .inl x1), (2, .inl x2)] [] σ R
        refine q_let (fun v2 => q_G l cx M_PF_numberedColumn 1 64 0 0 26 [(3, .inl v2), (1, .inl x1), (2, .inl x2)] [] σ R) (x2 &&& (-x2)) (fun v2 e_v2 => ?_)
        have hV := hV v2 e_v2
        refine q_run k_PF_numberedColumn 20 3 29 rfl ?_
        show q_G l cx M_PF_numberedColumn 1 64 0 0 29 [(3, .inl v2), (1, .inl x1), (2, .inl x2)] [.inl (v2 - (1 : Int32))] σ R
        refine q_callS (st := []) (t_IN_bitCount (l := l) (cx := cx) (σ := σ) (v2 - (1 : Int32))) (q_dc k_PF_numberedColumn 23 rfl) (Or.inl (List.mem_of_getElem? (i := 801) (by decide +kernel))) w_IN_bitCount s_IN_bitCount a_IN_bitCount (q_wt (Nat.le_of_ble_eq_true rfl)) ⟨Nat.le_of_ble_eq_true rfl, Nat.le_of_ble_eq_true rfl⟩ (fun v9 τ9 q9 => ?_) (fun n9 τ9 q9 => by cases q9.1)
        obtain ⟨q8, q7⟩ := q9
        cases q8
        rw [q7]
        show q_G l cx M_PF_numberedColumn 1 64 0 0 32 [(3, .inl v2), (1, .inl x1), (2, .inl x2)] [.inl (f_IN_bitCount (v2 - (1 : Int32)))] σ R
        exact q_ireturn (q_dc k_PF_numberedColumn 24 rfl) rfl hV
      · have hV := hV.2 h1
        refine q_run k_PF_numberedColumn 7 6 15 rfl ?_
        show q_G l cx M_PF_numberedColumn 1 64 0 0 15 [(2, .inl (x2 &&& (x2 - (1 : Int32)))), (1, .inl x1), (3, .inl x3)] [] σ R
        refine q_let (fun v3 => q_G l cx M_PF_numberedColumn 1 64 0 0 15 [(2, .inl v3), (1, .inl x1), (3, .inl x3)] [] σ R) (x2 &&& (x2 - (1 : Int32))) (fun v3 e_v3 => ?_)
        have hV := hV v3 e_v3
        refine q_run k_PF_numberedColumn 13 1 18 rfl ?_
        show q_G l cx M_PF_numberedColumn 1 64 0 0 18 [(3, .inl (x3 + (1 : Int32))), (2, .inl v3), (1, .inl x1)] [] σ R
        refine q_let (fun v4 => q_G l cx M_PF_numberedColumn 1 64 0 0 18 [(3, .inl v4), (2, .inl v3), (1, .inl x1)] [] σ R) (x3 + (1 : Int32)) (fun v4 e_v4 => ?_)
        have hV := hV v4 e_v4
        refine q_goto (q_dc k_PF_numberedColumn 14 rfl) rfl ?_
        exact q_less (Nat.le_of_ble_eq_true rfl) (Nat.le_of_ble_eq_true rfl) (q_subk [2, 1, 0] rfl hV))
  refine q_run k_PF_numberedColumn 0 4 4 rfl ?_
  show q_G l cx M_PF_numberedColumn 1 64 0 0 4 [(3, .inl (0 : Int32)), (2, .inl x0), (0, .inl x0), (1, .inl x1)] [] σ R
  exact q_less (Nat.le_of_ble_eq_true rfl) (Nat.le_of_ble_eq_true rfl) (q_subk [3, 1, 0] rfl hV)
def V_PF_numberedCell (x0 : Nat) (x1 : Int32) (σ : q_S) (R : q_O → q_S → Prop) : Prop :=
  ∀ (P4 : Nat → Int32 → Int32 → q_S → Prop),
  ∀ (P52 : q_S → Prop),
  (∀ (x0 : Nat) (x2 : Int32) (x3 : Int32) (σ : q_S), ((((24 : Int32) ≤ x3 → P52  σ) ∧ (¬ ((24 : Int32) ≤ x3) → ((x2 < (0 : Int32) → P52  σ) ∧ (¬ (x2 < (0 : Int32)) → (q_K σ x0 = 1000 ∨ q_K σ x0 = 2000) ∧ vp_in x3 (q_Z σ x0) ∧ ∀ v5 : Int32, v5 = f_IN_bitCount (q_I σ x0 x3.toNatClampNeg) → ((v5 ≤ x2 → ∀ v7 : Int32, v7 = x2 - v5 → ∀ v8 : Int32, v8 = x3 + (1 : Int32) → P4 x0 v7 v8 σ) ∧ (¬ (v5 ≤ x2) → (q_K σ x0 = 1000 ∨ q_K σ x0 = 2000) ∧ vp_in x3 (q_Z σ x0) ∧ V_PF_numberedColumn (q_I σ x0 x3.toNatClampNeg) x2 σ (q_ci (fun v13 σ14 => R (.inl (some (.inl ((x3 * (32 : Int32)) + v13)))) σ14) (fun n9 σ9 => R (.inr n9) σ9))))))))) → P4 x0 x2 x3 σ) →
  (∀ (σ : q_S), (R (.inl (some (.inl (-1 : Int32)))) σ) → P52 σ) →
  P4 x0 x1 (0 : Int32) σ
set_option maxRecDepth 100000 in
theorem t_PF_numberedCell {l : Launch} {cx : q_C} {x0 : Nat} {x1 : Int32} {σ : q_S} {R : q_O → q_S → Prop} (hV : V_PF_numberedCell x0 x1 σ R) : q_Ct l cx M_PF_numberedCell 2 128 0 0 [q_r x0, q_i x1] σ R := by
  refine q_Ct.of p_PF_numberedCell c_PF_numberedCell rfl (Nat.le_of_ble_eq_true rfl) ?_
  have hV := hV (fun (x0 : Nat) (x2 : Int32) (x3 : Int32) (σ : q_S) => q_G l cx M_PF_numberedCell 2 128 0 0 4 [(0, .inr (.inr x0)), (2, .inl x2), (3, .inl x3)] [] σ R) (fun (σ : q_S) => q_G l cx M_PF_numberedCell 2 128 0 0 52 [] [] σ R)
  have hV := hV (by
      intro x0 x2 x3 σ hV
      show q_G l cx M_PF_numberedCell 2 128 0 0 4 [(0, .inr (.inr x0)), (2, .inl x2), (3, .inl x3)] [] σ R
      refine q_run k_PF_numberedCell 4 2 7 rfl ?_
      show q_G l cx M_PF_numberedCell 2 128 0 0 7 [(0, .inr (.inr x0)), (2, .inl x2), (3, .inl x3)] [.inl (24 : Int32), .inl x3] σ R
      refine q_icmp (q_dc k_PF_numberedCell 6 rfl) rfl (fun h1 => ?_) (fun h1 => ?_)
      · have hV := hV.1 h1
        exact q_less (Nat.le_of_ble_eq_true rfl) (Nat.le_of_ble_eq_true rfl) (q_subk [] rfl hV)
      · have hV := hV.2 h1
        refine q_run k_PF_numberedCell 7 1 11 rfl ?_
        show q_G l cx M_PF_numberedCell 2 128 0 0 11 [(0, .inr (.inr x0)), (2, .inl x2), (3, .inl x3)] [.inl x2] σ R
        refine q_ifz (q_dc k_PF_numberedCell 8 rfl) rfl (fun h2 => ?_) (fun h2 => ?_)
        · have hV := hV.1 h2
          exact q_less (Nat.le_of_ble_eq_true rfl) (Nat.le_of_ble_eq_true rfl) (q_subk [] rfl hV)
        · have hV := hV.2 h2
          refine q_run k_PF_numberedCell 9 3 17 rfl ?_
          show (q_K σ x0 = 1000 ∨ q_K σ x0 = 2000) ∧ vp_in x3 (q_Z σ x0) ∧ q_G l cx M_PF_numberedCell 2 128 0 0 17 [(0, .inr (.inr x0)), (2, .inl x2), (3, .inl x3)] [.inl (q_I σ x0 x3.toNatClampNeg)] σ R
          obtain ⟨s3, s4, hV⟩ := hV
          refine ⟨s3, s4, ?_⟩
          refine q_callS (st := []) (t_IN_bitCount (l := l) (cx := cx) (σ := σ) (q_I σ x0 x3.toNatClampNeg)) (q_dc k_PF_numberedCell 12 rfl) (Or.inl (List.mem_of_getElem? (i := 801) (by decide +kernel))) w_IN_bitCount s_IN_bitCount a_IN_bitCount (q_wt (Nat.le_of_ble_eq_true rfl)) ⟨Nat.le_of_ble_eq_true rfl, Nat.le_of_ble_eq_true rfl⟩ (fun v9 τ9 q9 => ?_) (fun n9 τ9 q9 => by cases q9.1)
          obtain ⟨q8, q7⟩ := q9
          cases q8
          rw [q7]
          show q_G l cx M_PF_numberedCell 2 128 0 0 20 [(0, .inr (.inr x0)), (2, .inl x2), (3, .inl x3)] [.inl (f_IN_bitCount (q_I σ x0 x3.toNatClampNeg))] σ R
          refine q_run k_PF_numberedCell 13 1 22 rfl ?_
          show q_G l cx M_PF_numberedCell 2 128 0 0 22 [(4, .inl (f_IN_bitCount (q_I σ x0 x3.toNatClampNeg))), (0, .inr (.inr x0)), (2, .inl x2), (3, .inl x3)] [] σ R
          refine q_let (fun v5 => q_G l cx M_PF_numberedCell 2 128 0 0 22 [(4, .inl v5), (0, .inr (.inr x0)), (2, .inl x2), (3, .inl x3)] [] σ R) (f_IN_bitCount (q_I σ x0 x3.toNatClampNeg)) (fun v5 e_v5 => ?_)
          have hV := hV v5 e_v5
          refine q_run k_PF_numberedCell 14 2 25 rfl ?_
          show q_G l cx M_PF_numberedCell 2 128 0 0 25 [(4, .inl v5), (0, .inr (.inr x0)), (2, .inl x2), (3, .inl x3)] [.inl v5, .inl x2] σ R
          refine q_icmp (q_dc k_PF_numberedCell 16 rfl) rfl (fun h6 => ?_) (fun h6 => ?_)
          · have hV := hV.1 h6
            refine q_run k_PF_numberedCell 27 4 46 rfl ?_
            show q_G l cx M_PF_numberedCell 2 128 0 0 46 [(2, .inl (x2 - v5)), (4, .inl v5), (0, .inr (.inr x0)), (3, .inl x3)] [] σ R
            refine q_let (fun v7 => q_G l cx M_PF_numberedCell 2 128 0 0 46 [(2, .inl v7), (4, .inl v5), (0, .inr (.inr x0)), (3, .inl x3)] [] σ R) (x2 - v5) (fun v7 e_v7 => ?_)
            have hV := hV v7 e_v7
            refine q_run k_PF_numberedCell 31 1 49 rfl ?_
            show q_G l cx M_PF_numberedCell 2 128 0 0 49 [(3, .inl (x3 + (1 : Int32))), (2, .inl v7), (4, .inl v5), (0, .inr (.inr x0))] [] σ R
            refine q_let (fun v8 => q_G l cx M_PF_numberedCell 2 128 0 0 49 [(3, .inl v8), (2, .inl v7), (4, .inl v5), (0, .inr (.inr x0))] [] σ R) (x3 + (1 : Int32)) (fun v8 e_v8 => ?_)
            have hV := hV v8 e_v8
            refine q_goto (q_dc k_PF_numberedCell 32 rfl) rfl ?_
            exact q_less (Nat.le_of_ble_eq_true rfl) (Nat.le_of_ble_eq_true rfl) (q_subk [3, 1, 0] rfl hV)
          · have hV := hV.2 h6
            refine q_run k_PF_numberedCell 17 7 36 rfl ?_
            show (q_K σ x0 = 1000 ∨ q_K σ x0 = 2000) ∧ vp_in x3 (q_Z σ x0) ∧ q_G l cx M_PF_numberedCell 2 128 0 0 36 [(4, .inl v5), (0, .inr (.inr x0)), (2, .inl x2), (3, .inl x3)] [.inl x2, .inl (q_I σ x0 x3.toNatClampNeg), .inl (x3 * (32 : Int32))] σ R
            obtain ⟨s9, s10, hV⟩ := hV
            refine ⟨s9, s10, ?_⟩
            refine q_callS (st := [.inl (x3 * (32 : Int32))]) (t_PF_numberedColumn (l := l) (cx := cx)  hV) (q_dc k_PF_numberedCell 24 rfl) (Or.inl (List.mem_of_getElem? (i := 802) (by decide +kernel))) w_PF_numberedColumn s_PF_numberedColumn a_PF_numberedColumn (q_wt (Nat.le_of_ble_eq_true rfl)) ⟨Nat.le_of_ble_eq_true rfl, Nat.le_of_ble_eq_true rfl⟩ (fun v9 τ9 q9 => ?_) (fun n9 τ9 q9 => q_T.leave rfl q9)
            obtain ⟨v13, rfl, hV⟩ := q_ci_elim q9
            clear q9
            have hV := hV
            revert hV
            generalize τ9 = σ14
            intro hV
            show q_G l cx M_PF_numberedCell 2 128 0 0 39 [(4, .inl v5), (0, .inr (.inr x0)), (2, .inl x2), (3, .inl x3)] [.inl v13, .inl (x3 * (32 : Int32))] σ14 R
            refine q_run k_PF_numberedCell 25 1 40 rfl ?_
            show q_G l cx M_PF_numberedCell 2 128 0 0 40 [(4, .inl v5), (0, .inr (.inr x0)), (2, .inl x2), (3, .inl x3)] [.inl ((x3 * (32 : Int32)) + v13)] σ14 R
            exact q_ireturn (q_dc k_PF_numberedCell 26 rfl) rfl hV)
  have hV := hV (by
      intro σ hV
      show q_G l cx M_PF_numberedCell 2 128 0 0 52 [] [] σ R
      refine q_run k_PF_numberedCell 33 1 53 rfl ?_
      show q_G l cx M_PF_numberedCell 2 128 0 0 53 [] [.inl (-1 : Int32)] σ R
      exact q_ireturn (q_dc k_PF_numberedCell 34 rfl) rfl hV)
  refine q_run k_PF_numberedCell 0 4 4 rfl ?_
  show q_G l cx M_PF_numberedCell 2 128 0 0 4 [(3, .inl (0 : Int32)), (2, .inl x1), (0, .inr (.inr x0)), (1, .inl x1)] [] σ R
  exact q_less (Nat.le_of_ble_eq_true rfl) (Nat.le_of_ble_eq_true rfl) (q_subk [2, 1, 0] rfl hV)
def V_PD_near (x0 : Nat) (x1 : Int32) (x2 : Int32) (σ : q_S) (R : q_O → q_S → Prop) : Prop :=
  ∀ (P35 : Nat → Int32 → Int32 → q_S → Prop),
  ∀ (P66 : Nat → Int32 → q_S → Prop),
  (∀ (x0 : Nat) (x5 : Int32) (x6 : Int32) (σ : q_S), ((((32 : Int32) ≤ x6 → P66 x0 x6 σ) ∧ (¬ ((32 : Int32) ≤ x6) → ((x5 < ((((2 : Int32) * x6) + (1 : Int32)) * (((2 : Int32) * x6) + (1 : Int32))) → P66 x0 x6 σ) ∧ (¬ (x5 < ((((2 : Int32) * x6) + (1 : Int32)) * (((2 : Int32) * x6) + (1 : Int32)))) → ∀ v3 : Int32, v3 = x6 + (1 : Int32) → P35 x0 x5 v3 σ))))) → P35 x0 x5 x6 σ) →
  (∀ (x0 : Nat) (x6 : Int32) (σ : q_S), (q_K σ x0 = 3 ∧ q_K σ x0 = 3 ∧ R (.inl (some (.inl (f_PF_span (((q_I σ x0 2) - x6).toInt64) ((((q_I σ x0 2) + x6) - (1 : Int32)).toInt64))))) σ) → P66 x0 x6 σ) →
  q_K σ x0 = 3 ∧ ∀ v1 : Int32, v1 = (2 : Int32) * ((q_I σ x0 4) + x2) → q_K σ x0 = 3 ∧ ∀ v3 : Int32, v3 = ((2 : Int32) * (x1 - (q_I σ x0 3))) + (1 : Int32) → ∀ v5 : Int32, v5 = (v1 * v1) - (v3 * v3) → P35 x0 v5 (0 : Int32) σ
set_option maxRecDepth 100000 in
theorem t_PD_near {l : Launch} {cx : q_C} {x0 : Nat} {x1 : Int32} {x2 : Int32} {σ : q_S} {R : q_O → q_S → Prop} (hV : V_PD_near x0 x1 x2 σ R) : q_Ct l cx M_PD_near 2 128 0 0 [q_r x0, q_i x1, q_i x2] σ R := by
  refine q_Ct.of p_PD_near c_PD_near rfl (Nat.le_of_ble_eq_true rfl) ?_
  have hV := hV (fun (x0 : Nat) (x5 : Int32) (x6 : Int32) (σ : q_S) => q_G l cx M_PD_near 2 128 0 0 35 [(0, .inr (.inr x0)), (5, .inl x5), (6, .inl x6)] [] σ R) (fun (x0 : Nat) (x6 : Int32) (σ : q_S) => q_G l cx M_PD_near 2 128 0 0 66 [(0, .inr (.inr x0)), (6, .inl x6)] [] σ R)
  have hV := hV (by
      intro x0 x5 x6 σ hV
      show q_G l cx M_PD_near 2 128 0 0 35 [(0, .inr (.inr x0)), (5, .inl x5), (6, .inl x6)] [] σ R
      refine q_run k_PD_near 26 2 39 rfl ?_
      show q_G l cx M_PD_near 2 128 0 0 39 [(0, .inr (.inr x0)), (5, .inl x5), (6, .inl x6)] [.inl (32 : Int32), .inl x6] σ R
      refine q_icmp (q_dc k_PD_near 28 rfl) rfl (fun h1 => ?_) (fun h1 => ?_)
      · have hV := hV.1 h1
        exact q_less (Nat.le_of_ble_eq_true rfl) (Nat.le_of_ble_eq_true rfl) (q_subk [0, 2] rfl hV)
      · have hV := hV.2 h1
        refine q_run k_PD_near 29 12 57 rfl ?_
        show q_G l cx M_PD_near 2 128 0 0 57 [(0, .inr (.inr x0)), (5, .inl x5), (6, .inl x6)] [.inl x5, .inl ((((2 : Int32) * x6) + (1 : Int32)) * (((2 : Int32) * x6) + (1 : Int32)))] σ R
        refine q_icmp (q_dc k_PD_near 41 rfl) rfl (fun h2 => ?_) (fun h2 => ?_)
        · have hV := hV.1 h2
          exact q_less (Nat.le_of_ble_eq_true rfl) (Nat.le_of_ble_eq_true rfl) (q_subk [0, 2] rfl hV)
        · have hV := hV.2 h2
          refine q_run k_PD_near 42 1 63 rfl ?_
          show q_G l cx M_PD_near 2 128 0 0 63 [(6, .inl (x6 + (1 : Int32))), (0, .inr (.inr x0)), (5, .inl x5)] [] σ R
          refine q_let (fun v3 => q_G l cx M_PD_near 2 128 0 0 63 [(6, .inl v3), (0, .inr (.inr x0)), (5, .inl x5)] [] σ R) (x6 + (1 : Int32)) (fun v3 e_v3 => ?_)
          have hV := hV v3 e_v3
          refine q_goto (q_dc k_PD_near 43 rfl) rfl ?_
          exact q_less (Nat.le_of_ble_eq_true rfl) (Nat.le_of_ble_eq_true rfl) (q_subk [1, 2, 0] rfl hV))
  have hV := hV (by
      intro x0 x6 σ hV
      show q_G l cx M_PD_near 2 128 0 0 66 [(0, .inr (.inr x0)), (6, .inl x6)] [] σ R
      refine q_run k_PD_near 44 12 84 rfl ?_
      show q_K σ x0 = 3 ∧ q_K σ x0 = 3 ∧ q_G l cx M_PD_near 2 128 0 0 84 [(0, .inr (.inr x0)), (6, .inl x6)] [.inr (.inl ((((q_I σ x0 2) + x6) - (1 : Int32)).toInt64)), .inr (.inl (((q_I σ x0 2) - x6).toInt64))] σ R
      obtain ⟨s1, s2, hV⟩ := hV
      refine ⟨s1, s2, ?_⟩
      refine q_callS (st := []) (t_PF_span (l := l) (cx := cx) (σ := σ) (((q_I σ x0 2) - x6).toInt64) ((((q_I σ x0 2) + x6) - (1 : Int32)).toInt64)) (q_dc k_PD_near 56 rfl) (Or.inr ⟨"PlaneFills", List.mem_of_getElem? (i := 2) (by decide +kernel)⟩) w_PF_span s_PF_span a_PF_span (q_wt (Nat.le_of_ble_eq_true rfl)) ⟨Nat.le_of_ble_eq_true rfl, Nat.le_of_ble_eq_true rfl⟩ (fun v9 τ9 q9 => ?_) (fun n9 τ9 q9 => by cases q9.1)
      obtain ⟨q8, q7⟩ := q9
      cases q8
      rw [q7]
      show q_G l cx M_PD_near 2 128 0 0 87 [(0, .inr (.inr x0)), (6, .inl x6)] [.inl (f_PF_span (((q_I σ x0 2) - x6).toInt64) ((((q_I σ x0 2) + x6) - (1 : Int32)).toInt64))] σ R
      exact q_ireturn (q_dc k_PD_near 57 rfl) rfl hV)
  refine q_run k_PD_near 0 7 9 rfl ?_
  show q_K σ x0 = 3 ∧ q_G l cx M_PD_near 2 128 0 0 9 [(3, .inl ((2 : Int32) * ((q_I σ x0 4) + x2))), (0, .inr (.inr x0)), (1, .inl x1), (2, .inl x2)] [] σ R
  obtain ⟨s2, hV⟩ := hV
  refine ⟨s2, ?_⟩
  refine q_let (fun v1 => q_G l cx M_PD_near 2 128 0 0 9 [(3, .inl v1), (0, .inr (.inr x0)), (1, .inl x1), (2, .inl x2)] [] σ R) ((2 : Int32) * ((q_I σ x0 4) + x2)) (fun v1 e_v1 => ?_)
  have hV := hV v1 e_v1
  refine q_run k_PD_near 7 9 21 rfl ?_
  show q_K σ x0 = 3 ∧ q_G l cx M_PD_near 2 128 0 0 21 [(4, .inl (((2 : Int32) * (x1 - (q_I σ x0 3))) + (1 : Int32))), (3, .inl v1), (0, .inr (.inr x0)), (1, .inl x1), (2, .inl x2)] [] σ R
  obtain ⟨s4, hV⟩ := hV
  refine ⟨s4, ?_⟩
  refine q_let (fun v3 => q_G l cx M_PD_near 2 128 0 0 21 [(4, .inl v3), (3, .inl v1), (0, .inr (.inr x0)), (1, .inl x1), (2, .inl x2)] [] σ R) (((2 : Int32) * (x1 - (q_I σ x0 3))) + (1 : Int32)) (fun v3 e_v3 => ?_)
  have hV := hV v3 e_v3
  refine q_run k_PD_near 16 8 32 rfl ?_
  show q_G l cx M_PD_near 2 128 0 0 32 [(5, .inl ((v1 * v1) - (v3 * v3))), (4, .inl v3), (3, .inl v1), (0, .inr (.inr x0)), (1, .inl x1), (2, .inl x2)] [] σ R
  refine q_let (fun v5 => q_G l cx M_PD_near 2 128 0 0 32 [(5, .inl v5), (4, .inl v3), (3, .inl v1), (0, .inr (.inr x0)), (1, .inl x1), (2, .inl x2)] [] σ R) ((v1 * v1) - (v3 * v3)) (fun v5 e_v5 => ?_)
  have hV := hV v5 e_v5
  refine q_run k_PD_near 24 2 35 rfl ?_
  show q_G l cx M_PD_near 2 128 0 0 35 [(6, .inl (0 : Int32)), (5, .inl v5), (4, .inl v3), (3, .inl v1), (0, .inr (.inr x0)), (1, .inl x1), (2, .inl x2)] [] σ R
  exact q_less (Nat.le_of_ble_eq_true rfl) (Nat.le_of_ble_eq_true rfl) (q_subk [4, 1, 0] rfl hV)
def V_PG_takeOff (x0 : Nat) (x1 : Nat) (σ : q_S) (R : q_O → q_S → Prop) : Prop :=
  ∀ (P5 : Nat → Nat → Int32 → q_S → Prop),
  (∀ (x0 : Nat) (x1 : Nat) (x2 : Int32) (σ : q_S), (q_K σ x0 = 4 ∧ (((q_I σ x0 4) < x2 → R (.inl none) σ) ∧ (¬ ((q_I σ x0 4) < x2) → (q_K σ x1 = 1000 ∨ q_K σ x1 = 2000) ∧ vp_in x2 (q_Z σ x1) ∧ q_K σ x0 = 4 ∧ (q_K σ (q_P σ x0 2) = 1000 ∨ q_K σ (q_P σ x0 2) = 2000) ∧ vp_in x2 (q_Z σ (q_P σ x0 2)) ∧ q_K σ x1 = 1000 ∧ vp_in x2 (q_Z σ x1) ∧ ∀ σ3 : q_S, σ3 = q_wI σ x1 x2.toNatClampNeg ((q_I σ x1 x2.toNatClampNeg) &&& ((q_I σ (q_P σ x0 2) x2.toNatClampNeg) ^^^ (-1 : Int32))) → ∀ v11 : Int32, v11 = x2 + (1 : Int32) → P5 x0 x1 v11 σ3))) → P5 x0 x1 x2 σ) →
  q_K σ x0 = 4 ∧ ∀ v1 : Int32, v1 = q_I σ x0 3 → P5 x0 x1 v1 σ
set_option maxRecDepth 100000 in
theorem t_PG_takeOff {l : Launch} {cx : q_C} {x0 : Nat} {x1 : Nat} {σ : q_S} {R : q_O → q_S → Prop} (hV : V_PG_takeOff x0 x1 σ R) : q_Ct l cx M_PG_takeOff 0 0 0 0 [q_r x0, q_r x1] σ R := by
  refine q_Ct.of p_PG_takeOff c_PG_takeOff rfl (Nat.le_of_ble_eq_true rfl) ?_
  have hV := hV (fun (x0 : Nat) (x1 : Nat) (x2 : Int32) (σ : q_S) => q_G l cx M_PG_takeOff 0 0 0 0 5 [(0, .inr (.inr x0)), (1, .inr (.inr x1)), (2, .inl x2)] [] σ R)
  have hV := hV (by
      intro x0 x1 x2 σ hV
      show q_G l cx M_PG_takeOff 0 0 0 0 5 [(0, .inr (.inr x0)), (1, .inr (.inr x1)), (2, .inl x2)] [] σ R
      refine q_run k_PG_takeOff 3 3 10 rfl ?_
      show q_K σ x0 = 4 ∧ q_G l cx M_PG_takeOff 0 0 0 0 10 [(0, .inr (.inr x0)), (1, .inr (.inr x1)), (2, .inl x2)] [.inl (q_I σ x0 4), .inl x2] σ R
      obtain ⟨s1, hV⟩ := hV
      refine ⟨s1, ?_⟩
      refine q_icmp (q_dc k_PG_takeOff 6 rfl) rfl (fun h2 => ?_) (fun h2 => ?_)
      · have hV := hV.1 h2
        exact q_vreturn (q_dc k_PG_takeOff 21 rfl) rfl hV
      · have hV := hV.2 h2
        refine q_run k_PG_takeOff 7 12 27 rfl ?_
        show (q_K σ x1 = 1000 ∨ q_K σ x1 = 2000) ∧ vp_in x2 (q_Z σ x1) ∧ q_K σ x0 = 4 ∧ (q_K σ (q_P σ x0 2) = 1000 ∨ q_K σ (q_P σ x0 2) = 2000) ∧ vp_in x2 (q_Z σ (q_P σ x0 2)) ∧ q_K σ x1 = 1000 ∧ vp_in x2 (q_Z σ x1) ∧ q_G l cx M_PG_takeOff 0 0 0 0 27 [(0, .inr (.inr x0)), (1, .inr (.inr x1)), (2, .inl x2)] [] (q_wI σ x1 x2.toNatClampNeg ((q_I σ x1 x2.toNatClampNeg) &&& ((q_I σ (q_P σ x0 2) x2.toNatClampNeg) ^^^ (-1 : Int32)))) R
        obtain ⟨s4, s5, s6, s7, s8, s9, s10, hV⟩ := hV
        refine ⟨s4, s5, s6, s7, s8, s9, s10, ?_⟩
        refine q_let (fun σ3 => q_G l cx M_PG_takeOff 0 0 0 0 27 [(0, .inr (.inr x0)), (1, .inr (.inr x1)), (2, .inl x2)] [] σ3 R) (q_wI σ x1 x2.toNatClampNeg ((q_I σ x1 x2.toNatClampNeg) &&& ((q_I σ (q_P σ x0 2) x2.toNatClampNeg) ^^^ (-1 : Int32)))) (fun σ3 e_σ3 => ?_)
        have hV := hV σ3 e_σ3
        refine q_run k_PG_takeOff 19 1 30 rfl ?_
        show q_G l cx M_PG_takeOff 0 0 0 0 30 [(2, .inl (x2 + (1 : Int32))), (0, .inr (.inr x0)), (1, .inr (.inr x1))] [] σ3 R
        refine q_let (fun v11 => q_G l cx M_PG_takeOff 0 0 0 0 30 [(2, .inl v11), (0, .inr (.inr x0)), (1, .inr (.inr x1))] [] σ3 R) (x2 + (1 : Int32)) (fun v11 e_v11 => ?_)
        have hV := hV v11 e_v11
        refine q_goto (q_dc k_PG_takeOff 20 rfl) rfl ?_
        exact q_less (Nat.le_of_ble_eq_true rfl) (Nat.le_of_ble_eq_true rfl) (q_subk [1, 2, 0] rfl hV))
  refine q_run k_PG_takeOff 0 3 5 rfl ?_
  show q_K σ x0 = 4 ∧ q_G l cx M_PG_takeOff 0 0 0 0 5 [(2, .inl (q_I σ x0 3)), (0, .inr (.inr x0)), (1, .inr (.inr x1))] [] σ R
  obtain ⟨s2, hV⟩ := hV
  refine ⟨s2, ?_⟩
  refine q_let (fun v1 => q_G l cx M_PG_takeOff 0 0 0 0 5 [(2, .inl v1), (0, .inr (.inr x0)), (1, .inr (.inr x1))] [] σ R) (q_I σ x0 3) (fun v1 e_v1 => ?_)
  have hV := hV v1 e_v1
  exact q_less (Nat.le_of_ble_eq_true rfl) (Nat.le_of_ble_eq_true rfl) (q_subk [1, 2, 0] rfl hV)
def V_PG_start (x0 : Nat) (x1 : Nat) (σ : q_S) (R : q_O → q_S → Prop) : Prop :=
  q_K σ x0 = 4 ∧ q_K σ x1 = 1000 ∧ q_K σ (q_P σ x0 1) = 1000 ∧ ¬ (0 : Int32) < 0 ∧ ¬ (0 : Int32) < 0 ∧ ¬ (24 : Int32) < 0 ∧ (0 : Int32).toNatClampNeg + (24 : Int32).toNatClampNeg ≤ q_Z σ x1 ∧ (0 : Int32).toNatClampNeg + (24 : Int32).toNatClampNeg ≤ q_Z σ (q_P σ x0 1) ∧ ∀ σ9 : q_S, σ9 = q_sI σ (q_P σ x0 1) (va_cpy (q_I σ x1) (q_I σ (q_P σ x0 1)) (0 : Int32).toNatClampNeg (0 : Int32).toNatClampNeg (24 : Int32).toNatClampNeg) → q_K σ9 x0 = 4 ∧ ∀ σ10 : q_S, σ10 = q_wI σ9 x0 3 (0 : Int32) → q_K σ10 x0 = 4 ∧ ∀ σ12 : q_S, σ12 = q_wI σ10 x0 4 (23 : Int32) → R (.inl none) σ12
set_option maxRecDepth 100000 in
theorem t_PG_start {l : Launch} {cx : q_C} {x0 : Nat} {x1 : Nat} {σ : q_S} {R : q_O → q_S → Prop} (hV : V_PG_start x0 x1 σ R) : q_Ct l cx M_PG_start 1 64 0 0 [q_r x0, q_r x1] σ R := by
  refine q_Ct.of p_PG_start c_PG_start rfl (Nat.le_of_ble_eq_true rfl) ?_
  refine q_run k_PG_start 0 6 9 rfl ?_
  show q_K σ x0 = 4 ∧ q_G l cx M_PG_start 1 64 0 0 9 [(0, .inr (.inr x0)), (1, .inr (.inr x1))] [.inl (24 : Int32), .inl (0 : Int32), .inr (.inr (q_P σ x0 1)), .inl (0 : Int32), .inr (.inr x1)] σ R
  obtain ⟨s1, hV⟩ := hV
  refine ⟨s1, ?_⟩
  obtain ⟨s2, s3, s4, s5, s6, s7, s8, hV⟩ := hV
  refine q_copyI (q_dc k_PG_start 6 rfl) (List.mem_of_getElem? (i := 250) (by decide +kernel)) (List.mem_of_getElem? (i := 193) (by decide +kernel)) (List.mem_of_getElem? (i := 192) (by decide +kernel)) (List.mem_of_getElem? (i := 88) (by decide +kernel)) (Nat.le_of_ble_eq_true rfl) ⟨Nat.le_of_ble_eq_true rfl, by decide +kernel⟩ s2 s3 s4 s5 s6 s7 s8 ?_
  refine q_let (fun σ9 => q_G l cx M_PG_start 1 64 0 0 12 [(0, .inr (.inr x0)), (1, .inr (.inr x1))] [] σ9 R) (q_sI σ (q_P σ x0 1) (va_cpy (q_I σ x1) (q_I σ (q_P σ x0 1)) (0 : Int32).toNatClampNeg (0 : Int32).toNatClampNeg (24 : Int32).toNatClampNeg)) (fun σ9 e_σ9 => ?_)
  have hV := hV σ9 e_σ9
  refine q_run k_PG_start 7 3 17 rfl ?_
  show q_K σ9 x0 = 4 ∧ q_G l cx M_PG_start 1 64 0 0 17 [(0, .inr (.inr x0)), (1, .inr (.inr x1))] [] (q_wI σ9 x0 3 (0 : Int32)) R
  obtain ⟨s11, hV⟩ := hV
  refine ⟨s11, ?_⟩
  refine q_let (fun σ10 => q_G l cx M_PG_start 1 64 0 0 17 [(0, .inr (.inr x0)), (1, .inr (.inr x1))] [] σ10 R) (q_wI σ9 x0 3 (0 : Int32)) (fun σ10 e_σ10 => ?_)
  have hV := hV σ10 e_σ10
  refine q_run k_PG_start 10 3 23 rfl ?_
  show q_K σ10 x0 = 4 ∧ q_G l cx M_PG_start 1 64 0 0 23 [(0, .inr (.inr x0)), (1, .inr (.inr x1))] [] (q_wI σ10 x0 4 (23 : Int32)) R
  obtain ⟨s13, hV⟩ := hV
  refine ⟨s13, ?_⟩
  refine q_let (fun σ12 => q_G l cx M_PG_start 1 64 0 0 23 [(0, .inr (.inr x0)), (1, .inr (.inr x1))] [] σ12 R) (q_wI σ10 x0 4 (23 : Int32)) (fun σ12 e_σ12 => ?_)
  have hV := hV σ12 e_σ12
  exact q_vreturn (q_dc k_PG_start 13 rfl) rfl hV
def V_PG_startAround (x0 : Nat) (x1 : Nat) (σ : q_S) (R : q_O → q_S → Prop) : Prop :=
  ∀ (P2 : Nat → Nat → Int32 → q_S → Prop),
  (∀ (x0 : Nat) (x1 : Nat) (x2 : Int32) (σ : q_S), ((((24 : Int32) ≤ x2 → q_K σ x0 = 4 ∧ ∀ σ2 : q_S, σ2 = q_wI σ x0 3 (0 : Int32) → q_K σ2 x0 = 4 ∧ ∀ σ4 : q_S, σ4 = q_wI σ2 x0 4 (23 : Int32) → R (.inl none) σ4) ∧ (¬ ((24 : Int32) ≤ x2) → q_K σ x0 = 4 ∧ (q_K σ x1 = 1000 ∨ q_K σ x1 = 2000) ∧ vp_in x2 (q_Z σ x1) ∧ q_K σ (q_P σ x0 1) = 1000 ∧ vp_in x2 (q_Z σ (q_P σ x0 1)) ∧ ∀ σ6 : q_S, σ6 = q_wI σ (q_P σ x0 1) x2.toNatClampNeg ((q_I σ x1 x2.toNatClampNeg) ^^^ (-1 : Int32)) → ∀ v12 : Int32, v12 = x2 + (1 : Int32) → P2 x0 x1 v12 σ6))) → P2 x0 x1 x2 σ) →
  P2 x0 x1 (0 : Int32) σ
set_option maxRecDepth 100000 in
theorem t_PG_startAround {l : Launch} {cx : q_C} {x0 : Nat} {x1 : Nat} {σ : q_S} {R : q_O → q_S → Prop} (hV : V_PG_startAround x0 x1 σ R) : q_Ct l cx M_PG_startAround 0 0 0 0 [q_r x0, q_r x1] σ R := by
  refine q_Ct.of p_PG_startAround c_PG_startAround rfl (Nat.le_of_ble_eq_true rfl) ?_
  have hV := hV (fun (x0 : Nat) (x1 : Nat) (x2 : Int32) (σ : q_S) => q_G l cx M_PG_startAround 0 0 0 0 2 [(0, .inr (.inr x0)), (1, .inr (.inr x1)), (2, .inl x2)] [] σ R)
  have hV := hV (by
      intro x0 x1 x2 σ hV
      show q_G l cx M_PG_startAround 0 0 0 0 2 [(0, .inr (.inr x0)), (1, .inr (.inr x1)), (2, .inl x2)] [] σ R
      refine q_run k_PG_startAround 2 2 5 rfl ?_
      show q_G l cx M_PG_startAround 0 0 0 0 5 [(0, .inr (.inr x0)), (1, .inr (.inr x1)), (2, .inl x2)] [.inl (24 : Int32), .inl x2] σ R
      refine q_icmp (q_dc k_PG_startAround 4 rfl) rfl (fun h1 => ?_) (fun h1 => ?_)
      · have hV := hV.1 h1
        refine q_run k_PG_startAround 16 3 30 rfl ?_
        show q_K σ x0 = 4 ∧ q_G l cx M_PG_startAround 0 0 0 0 30 [(0, .inr (.inr x0)), (1, .inr (.inr x1)), (2, .inl x2)] [] (q_wI σ x0 3 (0 : Int32)) R
        obtain ⟨s3, hV⟩ := hV
        refine ⟨s3, ?_⟩
        refine q_let (fun σ2 => q_G l cx M_PG_startAround 0 0 0 0 30 [(0, .inr (.inr x0)), (1, .inr (.inr x1)), (2, .inl x2)] [] σ2 R) (q_wI σ x0 3 (0 : Int32)) (fun σ2 e_σ2 => ?_)
        have hV := hV σ2 e_σ2
        refine q_run k_PG_startAround 19 3 36 rfl ?_
        show q_K σ2 x0 = 4 ∧ q_G l cx M_PG_startAround 0 0 0 0 36 [(0, .inr (.inr x0)), (1, .inr (.inr x1)), (2, .inl x2)] [] (q_wI σ2 x0 4 (23 : Int32)) R
        obtain ⟨s5, hV⟩ := hV
        refine ⟨s5, ?_⟩
        refine q_let (fun σ4 => q_G l cx M_PG_startAround 0 0 0 0 36 [(0, .inr (.inr x0)), (1, .inr (.inr x1)), (2, .inl x2)] [] σ4 R) (q_wI σ2 x0 4 (23 : Int32)) (fun σ4 e_σ4 => ?_)
        have hV := hV σ4 e_σ4
        exact q_vreturn (q_dc k_PG_startAround 22 rfl) rfl hV
      · have hV := hV.2 h1
        refine q_run k_PG_startAround 5 9 19 rfl ?_
        show q_K σ x0 = 4 ∧ (q_K σ x1 = 1000 ∨ q_K σ x1 = 2000) ∧ vp_in x2 (q_Z σ x1) ∧ q_K σ (q_P σ x0 1) = 1000 ∧ vp_in x2 (q_Z σ (q_P σ x0 1)) ∧ q_G l cx M_PG_startAround 0 0 0 0 19 [(0, .inr (.inr x0)), (1, .inr (.inr x1)), (2, .inl x2)] [] (q_wI σ (q_P σ x0 1) x2.toNatClampNeg ((q_I σ x1 x2.toNatClampNeg) ^^^ (-1 : Int32))) R
        obtain ⟨s7, s8, s9, s10, s11, hV⟩ := hV
        refine ⟨s7, s8, s9, s10, s11, ?_⟩
        refine q_let (fun σ6 => q_G l cx M_PG_startAround 0 0 0 0 19 [(0, .inr (.inr x0)), (1, .inr (.inr x1)), (2, .inl x2)] [] σ6 R) (q_wI σ (q_P σ x0 1) x2.toNatClampNeg ((q_I σ x1 x2.toNatClampNeg) ^^^ (-1 : Int32))) (fun σ6 e_σ6 => ?_)
        have hV := hV σ6 e_σ6
        refine q_run k_PG_startAround 14 1 22 rfl ?_
        show q_G l cx M_PG_startAround 0 0 0 0 22 [(2, .inl (x2 + (1 : Int32))), (0, .inr (.inr x0)), (1, .inr (.inr x1))] [] σ6 R
        refine q_let (fun v12 => q_G l cx M_PG_startAround 0 0 0 0 22 [(2, .inl v12), (0, .inr (.inr x0)), (1, .inr (.inr x1))] [] σ6 R) (x2 + (1 : Int32)) (fun v12 e_v12 => ?_)
        have hV := hV v12 e_v12
        refine q_goto (q_dc k_PG_startAround 15 rfl) rfl ?_
        exact q_less (Nat.le_of_ble_eq_true rfl) (Nat.le_of_ble_eq_true rfl) (q_subk [1, 2, 0] rfl hV))
  refine q_run k_PG_startAround 0 2 2 rfl ?_
  show q_G l cx M_PG_startAround 0 0 0 0 2 [(2, .inl (0 : Int32)), (0, .inr (.inr x0)), (1, .inr (.inr x1))] [] σ R
  exact q_less (Nat.le_of_ble_eq_true rfl) (Nat.le_of_ble_eq_true rfl) (q_subk [1, 2, 0] rfl hV)
def V_PG_spreadInRow (x0 : Nat) (x1 : Int32) (σ : q_S) (R : q_O → q_S → Prop) : Prop :=
  ∀ (P16 : Nat → Int32 → Int32 → q_S → Prop),
  ∀ (P34 : Nat → Int32 → Int32 → Int32 → q_S → Prop),
  ∀ (P53 : Nat → Int32 → Int32 → q_S → Prop),
  ∀ (P78 : Nat → Int32 → Int32 → Int32 → Int32 → Int32 → q_S → Prop),
  ∀ (P123 : Nat → Int32 → Int32 → Int32 → Int32 → Int32 → q_S → Prop),
  ∀ (P135 : Nat → Int32 → Int32 → Int32 → q_S → Prop),
  ∀ (P154 : Int32 → q_S → Prop),
  (∀ (x0 : Nat) (x1 : Int32) (y0 : Int32) (σ : q_S), ((((23 : Int32) ≤ x1 → P34 x0 x1 (0 : Int32) y0 σ) ∧ (¬ ((23 : Int32) ≤ x1) → q_K σ x0 = 4 ∧ (q_K σ (q_P σ x0 2) = 1000 ∨ q_K σ (q_P σ x0 2) = 2000) ∧ vp_in (x1 + (1 : Int32)) (q_Z σ (q_P σ x0 2)) ∧ P34 x0 x1 (q_I σ (q_P σ x0 2) (x1 + (1 : Int32)).toNatClampNeg) y0 σ))) → P16 x0 x1 y0 σ) →
  (∀ (x0 : Nat) (x1 : Int32) (y0 : Int32) (y1 : Int32) (σ : q_S), (∀ v1 : Int32, v1 = y1 ||| y0 → q_K σ x0 = 4 ∧ (((q_I σ x0 0) = (0 : Int32) → P53 x0 x1 v1 σ) ∧ (¬ ((q_I σ x0 0) = (0 : Int32)) → ∀ v4 : Int32, v4 = v1 ||| ((v1 <<< ((1 : Int32) &&& 31)) ||| (q_ushr v1 (1 : Int32))) → P53 x0 x1 v4 σ))) → P34 x0 x1 y0 y1 σ) →
  (∀ (x0 : Nat) (x1 : Int32) (x2 : Int32) (σ : q_S), (q_K σ x0 = 4 ∧ (q_K σ (q_P σ x0 2) = 1000 ∨ q_K σ (q_P σ x0 2) = 2000) ∧ vp_in x1 (q_Z σ (q_P σ x0 2)) ∧ ∀ v1 : Int32, v1 = q_I σ (q_P σ x0 2) x1.toNatClampNeg → q_K σ x0 = 4 ∧ (q_K σ (q_P σ x0 1) = 1000 ∨ q_K σ (q_P σ x0 1) = 2000) ∧ vp_in x1 (q_Z σ (q_P σ x0 1)) ∧ ∀ v5 : Int32, v5 = v1 ||| (x2 &&& (q_I σ (q_P σ x0 1) x1.toNatClampNeg)) → P78 x0 x1 v1 v5 (1 : Int32) (0 : Int32) σ) → P53 x0 x1 x2 σ) →
  (∀ (x0 : Nat) (x1 : Int32) (x3 : Int32) (x4 : Int32) (x5 : Int32) (x6 : Int32) (σ : q_S), ((((32 : Int32) ≤ x6 → P135 x0 x1 x3 x4 σ) ∧ (¬ ((32 : Int32) ≤ x6) → ((x5 = (0 : Int32) → P135 x0 x1 x3 x4 σ) ∧ (¬ (x5 = (0 : Int32)) → q_K σ x0 = 4 ∧ (q_K σ (q_P σ x0 1) = 1000 ∨ q_K σ (q_P σ x0 1) = 2000) ∧ vp_in x1 (q_Z σ (q_P σ x0 1)) ∧ ∀ v3 : Int32, v3 = x4 ||| (((x4 <<< ((1 : Int32) &&& 31)) ||| (q_ushr x4 (1 : Int32))) &&& (q_I σ (q_P σ x0 1) x1.toNatClampNeg)) → ((v3 = x4 → P123 x0 x1 x3 x6 v3 (0 : Int32) σ) ∧ (¬ (v3 = x4) → P123 x0 x1 x3 x6 v3 (1 : Int32) σ))))))) → P78 x0 x1 x3 x4 x5 x6 σ) →
  (∀ (x0 : Nat) (x1 : Int32) (x3 : Int32) (x6 : Int32) (x7 : Int32) (y0 : Int32) (σ : q_S), (∀ v1 : Int32, v1 = x6 + (1 : Int32) → P78 x0 x1 x3 x7 y0 v1 σ) → P123 x0 x1 x3 x6 x7 y0 σ) →
  (∀ (x0 : Nat) (x1 : Int32) (x3 : Int32) (x4 : Int32) (σ : q_S), (q_K σ x0 = 4 ∧ q_K σ (q_P σ x0 2) = 1000 ∧ vp_in x1 (q_Z σ (q_P σ x0 2)) ∧ ∀ σ1 : q_S, σ1 = q_wI σ (q_P σ x0 2) x1.toNatClampNeg x4 → ((x4 = x3 → P154 (0 : Int32) σ1) ∧ (¬ (x4 = x3) → P154 (1 : Int32) σ1))) → P135 x0 x1 x3 x4 σ) →
  (∀ (y0 : Int32) (σ : q_S), (((y0 = 0 ∨ y0 = 1) ∧ R (.inl (some (.inl y0))) σ)) → P154 y0 σ) →
  ((x1 ≤ (0 : Int32) → P16 x0 x1 (0 : Int32) σ) ∧ (¬ (x1 ≤ (0 : Int32)) → q_K σ x0 = 4 ∧ (q_K σ (q_P σ x0 2) = 1000 ∨ q_K σ (q_P σ x0 2) = 2000) ∧ vp_in (x1 - (1 : Int32)) (q_Z σ (q_P σ x0 2)) ∧ P16 x0 x1 (q_I σ (q_P σ x0 2) (x1 - (1 : Int32)).toNatClampNeg) σ))
set_option maxRecDepth 100000 in
theorem t_PG_spreadInRow {l : Launch} {cx : q_C} {x0 : Nat} {x1 : Int32} {σ : q_S} {R : q_O → q_S → Prop} (hV : V_PG_spreadInRow x0 x1 σ R) : q_Ct l cx M_PG_spreadInRow 0 0 0 0 [q_r x0, q_i x1] σ R := by
  refine q_Ct.of p_PG_spreadInRow c_PG_spreadInRow rfl (Nat.le_of_ble_eq_true rfl) ?_
  have hV := hV (fun (x0 : Nat) (x1 : Int32) (y0 : Int32) (σ : q_S) => q_G l cx M_PG_spreadInRow 0 0 0 0 16 [(0, .inr (.inr x0)), (1, .inl x1)] [.inl y0] σ R) (fun (x0 : Nat) (x1 : Int32) (y0 : Int32) (y1 : Int32) (σ : q_S) => q_G l cx M_PG_spreadInRow 0 0 0 0 34 [(0, .inr (.inr x0)), (1, .inl x1)] [.inl y0, .inl y1] σ R) (fun (x0 : Nat) (x1 : Int32) (x2 : Int32) (σ : q_S) => q_G l cx M_PG_spreadInRow 0 0 0 0 53 [(0, .inr (.inr x0)), (1, .inl x1), (2, .inl x2)] [] σ R) (fun (x0 : Nat) (x1 : Int32) (x3 : Int32) (x4 : Int32) (x5 : Int32) (x6 : Int32) (σ : q_S) => q_G l cx M_PG_spreadInRow 0 0 0 0 78 [(0, .inr (.inr x0)), (1, .inl x1), (3, .inl x3), (4, .inl x4), (5, .inl x5), (6, .inl x6)] [] σ R) (fun (x0 : Nat) (x1 : Int32) (x3 : Int32) (x6 : Int32) (x7 : Int32) (y0 : Int32) (σ : q_S) => q_G l cx M_PG_spreadInRow 0 0 0 0 123 [(0, .inr (.inr x0)), (1, .inl x1), (3, .inl x3), (6, .inl x6), (7, .inl x7)] [.inl y0] σ R) (fun (x0 : Nat) (x1 : Int32) (x3 : Int32) (x4 : Int32) (σ : q_S) => q_G l cx M_PG_spreadInRow 0 0 0 0 135 [(0, .inr (.inr x0)), (1, .inl x1), (3, .inl x3), (4, .inl x4)] [] σ R) (fun (y0 : Int32) (σ : q_S) => q_G l cx M_PG_spreadInRow 0 0 0 0 154 [] [.inl y0] σ R)
  have hV := hV (by
      intro x0 x1 y0 σ hV
      show q_G l cx M_PG_spreadInRow 0 0 0 0 16 [(0, .inr (.inr x0)), (1, .inl x1)] [.inl y0] σ R
      refine q_run k_PG_spreadInRow 10 2 19 rfl ?_
      show q_G l cx M_PG_spreadInRow 0 0 0 0 19 [(0, .inr (.inr x0)), (1, .inl x1)] [.inl (23 : Int32), .inl x1, .inl y0] σ R
      refine q_icmp (q_dc k_PG_spreadInRow 12 rfl) rfl (fun h1 => ?_) (fun h1 => ?_)
      · have hV := hV.1 h1
        refine q_run k_PG_spreadInRow 20 1 34 rfl ?_
        show q_G l cx M_PG_spreadInRow 0 0 0 0 34 [(0, .inr (.inr x0)), (1, .inl x1)] [.inl (0 : Int32), .inl y0] σ R
        exact q_less (Nat.le_of_ble_eq_true rfl) (Nat.le_of_ble_eq_true rfl) (q_subk [0, 1] rfl hV)
      · have hV := hV.2 h1
        refine q_run k_PG_spreadInRow 13 6 30 rfl ?_
        show q_K σ x0 = 4 ∧ (q_K σ (q_P σ x0 2) = 1000 ∨ q_K σ (q_P σ x0 2) = 2000) ∧ vp_in (x1 + (1 : Int32)) (q_Z σ (q_P σ x0 2)) ∧ q_G l cx M_PG_spreadInRow 0 0 0 0 30 [(0, .inr (.inr x0)), (1, .inl x1)] [.inl (q_I σ (q_P σ x0 2) (x1 + (1 : Int32)).toNatClampNeg), .inl y0] σ R
        obtain ⟨s2, s3, s4, hV⟩ := hV
        refine ⟨s2, s3, s4, ?_⟩
        refine q_goto (q_dc k_PG_spreadInRow 19 rfl) rfl ?_
        exact q_less (Nat.le_of_ble_eq_true rfl) (Nat.le_of_ble_eq_true rfl) (q_subk [0, 1] rfl hV))
  have hV := hV (by
      intro x0 x1 y0 y1 σ hV
      show q_G l cx M_PG_spreadInRow 0 0 0 0 34 [(0, .inr (.inr x0)), (1, .inl x1)] [.inl y0, .inl y1] σ R
      refine q_run k_PG_spreadInRow 21 2 36 rfl ?_
      show q_G l cx M_PG_spreadInRow 0 0 0 0 36 [(2, .inl (y1 ||| y0)), (0, .inr (.inr x0)), (1, .inl x1)] [] σ R
      refine q_let (fun v1 => q_G l cx M_PG_spreadInRow 0 0 0 0 36 [(2, .inl v1), (0, .inr (.inr x0)), (1, .inl x1)] [] σ R) (y1 ||| y0) (fun v1 e_v1 => ?_)
      have hV := hV v1 e_v1
      refine q_run k_PG_spreadInRow 23 2 40 rfl ?_
      show q_K σ x0 = 4 ∧ q_G l cx M_PG_spreadInRow 0 0 0 0 40 [(2, .inl v1), (0, .inr (.inr x0)), (1, .inl x1)] [.inl (q_I σ x0 0)] σ R
      obtain ⟨s2, hV⟩ := hV
      refine ⟨s2, ?_⟩
      refine q_ifz (q_dc k_PG_spreadInRow 25 rfl) rfl (fun h3 => ?_) (fun h3 => ?_)
      · have hV := hV.1 h3
        exact q_less (Nat.le_of_ble_eq_true rfl) (Nat.le_of_ble_eq_true rfl) (q_subk [1, 2, 0] rfl hV)
      · have hV := hV.2 h3
        refine q_run k_PG_spreadInRow 26 10 53 rfl ?_
        show q_G l cx M_PG_spreadInRow 0 0 0 0 53 [(2, .inl (v1 ||| ((v1 <<< ((1 : Int32) &&& 31)) ||| (q_ushr v1 (1 : Int32))))), (0, .inr (.inr x0)), (1, .inl x1)] [] σ R
        refine q_let (fun v4 => q_G l cx M_PG_spreadInRow 0 0 0 0 53 [(2, .inl v4), (0, .inr (.inr x0)), (1, .inl x1)] [] σ R) (v1 ||| ((v1 <<< ((1 : Int32) &&& 31)) ||| (q_ushr v1 (1 : Int32)))) (fun v4 e_v4 => ?_)
        have hV := hV v4 e_v4
        exact q_less (Nat.le_of_ble_eq_true rfl) (Nat.le_of_ble_eq_true rfl) (q_subk [1, 2, 0] rfl hV))
  have hV := hV (by
      intro x0 x1 x2 σ hV
      show q_G l cx M_PG_spreadInRow 0 0 0 0 53 [(0, .inr (.inr x0)), (1, .inl x1), (2, .inl x2)] [] σ R
      refine q_run k_PG_spreadInRow 36 5 60 rfl ?_
      show q_K σ x0 = 4 ∧ (q_K σ (q_P σ x0 2) = 1000 ∨ q_K σ (q_P σ x0 2) = 2000) ∧ vp_in x1 (q_Z σ (q_P σ x0 2)) ∧ q_G l cx M_PG_spreadInRow 0 0 0 0 60 [(3, .inl (q_I σ (q_P σ x0 2) x1.toNatClampNeg)), (0, .inr (.inr x0)), (1, .inl x1), (2, .inl x2)] [] σ R
      obtain ⟨s2, s3, s4, hV⟩ := hV
      refine ⟨s2, s3, s4, ?_⟩
      refine q_let (fun v1 => q_G l cx M_PG_spreadInRow 0 0 0 0 60 [(3, .inl v1), (0, .inr (.inr x0)), (1, .inl x1), (2, .inl x2)] [] σ R) (q_I σ (q_P σ x0 2) x1.toNatClampNeg) (fun v1 e_v1 => ?_)
      have hV := hV v1 e_v1
      refine q_run k_PG_spreadInRow 41 9 72 rfl ?_
      show q_K σ x0 = 4 ∧ (q_K σ (q_P σ x0 1) = 1000 ∨ q_K σ (q_P σ x0 1) = 2000) ∧ vp_in x1 (q_Z σ (q_P σ x0 1)) ∧ q_G l cx M_PG_spreadInRow 0 0 0 0 72 [(4, .inl (v1 ||| (x2 &&& (q_I σ (q_P σ x0 1) x1.toNatClampNeg)))), (3, .inl v1), (0, .inr (.inr x0)), (1, .inl x1), (2, .inl x2)] [] σ R
      obtain ⟨s6, s7, s8, hV⟩ := hV
      refine ⟨s6, s7, s8, ?_⟩
      refine q_let (fun v5 => q_G l cx M_PG_spreadInRow 0 0 0 0 72 [(4, .inl v5), (3, .inl v1), (0, .inr (.inr x0)), (1, .inl x1), (2, .inl x2)] [] σ R) (v1 ||| (x2 &&& (q_I σ (q_P σ x0 1) x1.toNatClampNeg))) (fun v5 e_v5 => ?_)
      have hV := hV v5 e_v5
      refine q_run k_PG_spreadInRow 50 4 78 rfl ?_
      show q_G l cx M_PG_spreadInRow 0 0 0 0 78 [(6, .inl (0 : Int32)), (5, .inl (1 : Int32)), (4, .inl v5), (3, .inl v1), (0, .inr (.inr x0)), (1, .inl x1), (2, .inl x2)] [] σ R
      exact q_less (Nat.le_of_ble_eq_true rfl) (Nat.le_of_ble_eq_true rfl) (q_subk [4, 5, 3, 2, 1, 0] rfl hV))
  have hV := hV (by
      intro x0 x1 x3 x4 x5 x6 σ hV
      show q_G l cx M_PG_spreadInRow 0 0 0 0 78 [(0, .inr (.inr x0)), (1, .inl x1), (3, .inl x3), (4, .inl x4), (5, .inl x5), (6, .inl x6)] [] σ R
      refine q_run k_PG_spreadInRow 54 2 82 rfl ?_
      show q_G l cx M_PG_spreadInRow 0 0 0 0 82 [(0, .inr (.inr x0)), (1, .inl x1), (3, .inl x3), (4, .inl x4), (5, .inl x5), (6, .inl x6)] [.inl (32 : Int32), .inl x6] σ R
      refine q_icmp (q_dc k_PG_spreadInRow 56 rfl) rfl (fun h1 => ?_) (fun h1 => ?_)
      · have hV := hV.1 h1
        exact q_less (Nat.le_of_ble_eq_true rfl) (Nat.le_of_ble_eq_true rfl) (q_subk [0, 1, 2, 3] rfl hV)
      · have hV := hV.2 h1
        refine q_run k_PG_spreadInRow 57 1 87 rfl ?_
        show q_G l cx M_PG_spreadInRow 0 0 0 0 87 [(0, .inr (.inr x0)), (1, .inl x1), (3, .inl x3), (4, .inl x4), (5, .inl x5), (6, .inl x6)] [.inl x5] σ R
        refine q_ifz (q_dc k_PG_spreadInRow 58 rfl) rfl (fun h2 => ?_) (fun h2 => ?_)
        · have hV := hV.1 h2
          exact q_less (Nat.le_of_ble_eq_true rfl) (Nat.le_of_ble_eq_true rfl) (q_subk [0, 1, 2, 3] rfl hV)
        · have hV := hV.2 h2
          refine q_run k_PG_spreadInRow 59 15 111 rfl ?_
          show q_K σ x0 = 4 ∧ (q_K σ (q_P σ x0 1) = 1000 ∨ q_K σ (q_P σ x0 1) = 2000) ∧ vp_in x1 (q_Z σ (q_P σ x0 1)) ∧ q_G l cx M_PG_spreadInRow 0 0 0 0 111 [(7, .inl (x4 ||| (((x4 <<< ((1 : Int32) &&& 31)) ||| (q_ushr x4 (1 : Int32))) &&& (q_I σ (q_P σ x0 1) x1.toNatClampNeg)))), (0, .inr (.inr x0)), (1, .inl x1), (3, .inl x3), (4, .inl x4), (5, .inl x5), (6, .inl x6)] [] σ R
          obtain ⟨s4, s5, s6, hV⟩ := hV
          refine ⟨s4, s5, s6, ?_⟩
          refine q_let (fun v3 => q_G l cx M_PG_spreadInRow 0 0 0 0 111 [(7, .inl v3), (0, .inr (.inr x0)), (1, .inl x1), (3, .inl x3), (4, .inl x4), (5, .inl x5), (6, .inl x6)] [] σ R) (x4 ||| (((x4 <<< ((1 : Int32) &&& 31)) ||| (q_ushr x4 (1 : Int32))) &&& (q_I σ (q_P σ x0 1) x1.toNatClampNeg))) (fun v3 e_v3 => ?_)
          have hV := hV v3 e_v3
          refine q_run k_PG_spreadInRow 74 2 115 rfl ?_
          show q_G l cx M_PG_spreadInRow 0 0 0 0 115 [(7, .inl v3), (0, .inr (.inr x0)), (1, .inl x1), (3, .inl x3), (4, .inl x4), (5, .inl x5), (6, .inl x6)] [.inl x4, .inl v3] σ R
          refine q_icmp (q_dc k_PG_spreadInRow 76 rfl) rfl (fun h7 => ?_) (fun h7 => ?_)
          · have hV := hV.1 h7
            refine q_run k_PG_spreadInRow 79 1 123 rfl ?_
            show q_G l cx M_PG_spreadInRow 0 0 0 0 123 [(7, .inl v3), (0, .inr (.inr x0)), (1, .inl x1), (3, .inl x3), (4, .inl x4), (5, .inl x5), (6, .inl x6)] [.inl (0 : Int32)] σ R
            exact q_less (Nat.le_of_ble_eq_true rfl) (Nat.le_of_ble_eq_true rfl) (q_subk [1, 2, 3, 6, 0] rfl hV)
          · have hV := hV.2 h7
            refine q_run k_PG_spreadInRow 77 1 119 rfl ?_
            show q_G l cx M_PG_spreadInRow 0 0 0 0 119 [(7, .inl v3), (0, .inr (.inr x0)), (1, .inl x1), (3, .inl x3), (4, .inl x4), (5, .inl x5), (6, .inl x6)] [.inl (1 : Int32)] σ R
            refine q_goto (q_dc k_PG_spreadInRow 78 rfl) rfl ?_
            exact q_less (Nat.le_of_ble_eq_true rfl) (Nat.le_of_ble_eq_true rfl) (q_subk [1, 2, 3, 6, 0] rfl hV))
  have hV := hV (by
      intro x0 x1 x3 x6 x7 y0 σ hV
      show q_G l cx M_PG_spreadInRow 0 0 0 0 123 [(0, .inr (.inr x0)), (1, .inl x1), (3, .inl x3), (6, .inl x6), (7, .inl x7)] [.inl y0] σ R
      refine q_run k_PG_spreadInRow 80 4 132 rfl ?_
      show q_G l cx M_PG_spreadInRow 0 0 0 0 132 [(6, .inl (x6 + (1 : Int32))), (4, .inl x7), (5, .inl y0), (0, .inr (.inr x0)), (1, .inl x1), (3, .inl x3), (7, .inl x7)] [] σ R
      refine q_let (fun v1 => q_G l cx M_PG_spreadInRow 0 0 0 0 132 [(6, .inl v1), (4, .inl x7), (5, .inl y0), (0, .inr (.inr x0)), (1, .inl x1), (3, .inl x3), (7, .inl x7)] [] σ R) (x6 + (1 : Int32)) (fun v1 e_v1 => ?_)
      have hV := hV v1 e_v1
      refine q_goto (q_dc k_PG_spreadInRow 84 rfl) rfl ?_
      exact q_less (Nat.le_of_ble_eq_true rfl) (Nat.le_of_ble_eq_true rfl) (q_subk [3, 4, 5, 1, 2, 0] rfl hV))
  have hV := hV (by
      intro x0 x1 x3 x4 σ hV
      show q_G l cx M_PG_spreadInRow 0 0 0 0 135 [(0, .inr (.inr x0)), (1, .inl x1), (3, .inl x3), (4, .inl x4)] [] σ R
      refine q_run k_PG_spreadInRow 85 5 143 rfl ?_
      show q_K σ x0 = 4 ∧ q_K σ (q_P σ x0 2) = 1000 ∧ vp_in x1 (q_Z σ (q_P σ x0 2)) ∧ q_G l cx M_PG_spreadInRow 0 0 0 0 143 [(0, .inr (.inr x0)), (1, .inl x1), (3, .inl x3), (4, .inl x4)] [] (q_wI σ (q_P σ x0 2) x1.toNatClampNeg x4) R
      obtain ⟨s2, s3, s4, hV⟩ := hV
      refine ⟨s2, s3, s4, ?_⟩
      refine q_let (fun σ1 => q_G l cx M_PG_spreadInRow 0 0 0 0 143 [(0, .inr (.inr x0)), (1, .inl x1), (3, .inl x3), (4, .inl x4)] [] σ1 R) (q_wI σ (q_P σ x0 2) x1.toNatClampNeg x4) (fun σ1 e_σ1 => ?_)
      have hV := hV σ1 e_σ1
      refine q_run k_PG_spreadInRow 90 2 146 rfl ?_
      show q_G l cx M_PG_spreadInRow 0 0 0 0 146 [(0, .inr (.inr x0)), (1, .inl x1), (3, .inl x3), (4, .inl x4)] [.inl x3, .inl x4] σ1 R
      refine q_icmp (q_dc k_PG_spreadInRow 92 rfl) rfl (fun h5 => ?_) (fun h5 => ?_)
      · have hV := hV.1 h5
        refine q_run k_PG_spreadInRow 95 1 154 rfl ?_
        show q_G l cx M_PG_spreadInRow 0 0 0 0 154 [(0, .inr (.inr x0)), (1, .inl x1), (3, .inl x3), (4, .inl x4)] [.inl (0 : Int32)] σ1 R
        exact q_less (Nat.le_of_ble_eq_true rfl) (Nat.le_of_ble_eq_true rfl) (q_subk [] rfl hV)
      · have hV := hV.2 h5
        refine q_run k_PG_spreadInRow 93 1 150 rfl ?_
        show q_G l cx M_PG_spreadInRow 0 0 0 0 150 [(0, .inr (.inr x0)), (1, .inl x1), (3, .inl x3), (4, .inl x4)] [.inl (1 : Int32)] σ1 R
        refine q_goto (q_dc k_PG_spreadInRow 94 rfl) rfl ?_
        exact q_less (Nat.le_of_ble_eq_true rfl) (Nat.le_of_ble_eq_true rfl) (q_subk [] rfl hV))
  have hV := hV (by
      intro y0 σ hV
      show q_G l cx M_PG_spreadInRow 0 0 0 0 154 [] [.inl y0] σ R
      exact q_zreturn (q_dc k_PG_spreadInRow 96 rfl) rfl hV.1 hV.2)
  refine q_run k_PG_spreadInRow 0 1 1 rfl ?_
  show q_G l cx M_PG_spreadInRow 0 0 0 0 1 [(0, .inr (.inr x0)), (1, .inl x1)] [.inl x1] σ R
  refine q_ifz (q_dc k_PG_spreadInRow 1 rfl) rfl (fun h1 => ?_) (fun h1 => ?_)
  · have hV := hV.1 h1
    refine q_run k_PG_spreadInRow 9 1 16 rfl ?_
    show q_G l cx M_PG_spreadInRow 0 0 0 0 16 [(0, .inr (.inr x0)), (1, .inl x1)] [.inl (0 : Int32)] σ R
    exact q_less (Nat.le_of_ble_eq_true rfl) (Nat.le_of_ble_eq_true rfl) (q_subk [0, 1] rfl hV)
  · have hV := hV.2 h1
    refine q_run k_PG_spreadInRow 2 6 12 rfl ?_
    show q_K σ x0 = 4 ∧ (q_K σ (q_P σ x0 2) = 1000 ∨ q_K σ (q_P σ x0 2) = 2000) ∧ vp_in (x1 - (1 : Int32)) (q_Z σ (q_P σ x0 2)) ∧ q_G l cx M_PG_spreadInRow 0 0 0 0 12 [(0, .inr (.inr x0)), (1, .inl x1)] [.inl (q_I σ (q_P σ x0 2) (x1 - (1 : Int32)).toNatClampNeg)] σ R
    obtain ⟨s2, s3, s4, hV⟩ := hV
    refine ⟨s2, s3, s4, ?_⟩
    refine q_goto (q_dc k_PG_spreadInRow 8 rfl) rfl ?_
    exact q_less (Nat.le_of_ble_eq_true rfl) (Nat.le_of_ble_eq_true rfl) (q_subk [0, 1] rfl hV)
def V_PG_spreadOverRows (x0 : Nat) (σ : q_S) (R : q_O → q_S → Prop) : Prop :=
  ∀ (P7 : Nat → Int32 → Int32 → q_S → Prop),
  ∀ (P52 : Nat → Int32 → Int32 → q_S → Prop),
  ∀ (P58 : Nat → Int32 → q_S → Prop),
  ∀ (P63 : Nat → Int32 → Int32 → q_S → Prop),
  (∀ (x0 : Nat) (x1 : Int32) (x2 : Int32) (σ : q_S), ((((24 : Int32) ≤ x2 → P58 x0 x1 σ) ∧ (¬ ((24 : Int32) ≤ x2) → q_K σ x0 = 4 ∧ ((((q_I σ x0 4) + (1 : Int32)) < x2 → P58 x0 x1 σ) ∧ (¬ (((q_I σ x0 4) + (1 : Int32)) < x2) → q_K σ x0 = 4 ∧ V_PG_spreadInRow x0 x2 σ (q_ci (fun v7 σ8 => ∀ v9 : Int32, v9 = x1 ||| v7 → q_K σ8 x0 = 4 ∧ (q_K σ8 (q_P σ8 x0 2) = 1000 ∨ q_K σ8 (q_P σ8 x0 2) = 2000) ∧ vp_in x2 (q_Z σ8 (q_P σ8 x0 2)) ∧ (((q_I σ8 (q_P σ8 x0 2) x2.toNatClampNeg) = (0 : Int32) → P52 x0 v9 x2 σ8) ∧ (¬ ((q_I σ8 (q_P σ8 x0 2) x2.toNatClampNeg) = (0 : Int32)) → q_K σ8 x0 = 4 ∧ q_K σ8 x0 = 4 ∧ ∀ σ15 : q_S, σ15 = q_wI σ8 x0 4 (f_MT_max (q_I σ8 x0 4) x2) → P52 x0 v9 x2 σ15))) (fun n9 σ9 => R (.inr n9) σ9))))))) → P7 x0 x1 x2 σ) →
  (∀ (x0 : Nat) (x1 : Int32) (x2 : Int32) (σ : q_S), (∀ v1 : Int32, v1 = x2 + (1 : Int32) → P7 x0 x1 v1 σ) → P52 x0 x1 x2 σ) →
  (∀ (x0 : Nat) (x1 : Int32) (σ : q_S), (q_K σ x0 = 4 ∧ ∀ v1 : Int32, v1 = q_I σ x0 4 → P63 x0 x1 v1 σ) → P58 x0 x1 σ) →
  (∀ (x0 : Nat) (x1 : Int32) (x2 : Int32) (σ : q_S), (q_K σ x0 = 4 ∧ ((x2 < (q_I σ x0 3) → ((x1 = 0 ∨ x1 = 1) ∧ R (.inl (some (.inl x1))) σ)) ∧ (¬ (x2 < (q_I σ x0 3)) → q_K σ x0 = 4 ∧ V_PG_spreadInRow x0 x2 σ (q_ci (fun v6 σ7 => ∀ v8 : Int32, v8 = x1 ||| v6 → ∀ v9 : Int32, v9 = x2 + (-1 : Int32) → P63 x0 v8 v9 σ7) (fun n9 σ9 => R (.inr n9) σ9))))) → P63 x0 x1 x2 σ) →
  q_K σ x0 = 4 ∧ ∀ v1 : Int32, v1 = q_I σ x0 3 → P7 x0 (0 : Int32) v1 σ
set_option maxRecDepth 100000 in
theorem t_PG_spreadOverRows {l : Launch} {cx : q_C} {x0 : Nat} {σ : q_S} {R : q_O → q_S → Prop} (hV : V_PG_spreadOverRows x0 σ R) : q_Ct l cx M_PG_spreadOverRows 1 64 0 0 [q_r x0] σ R := by
  refine q_Ct.of p_PG_spreadOverRows c_PG_spreadOverRows rfl (Nat.le_of_ble_eq_true rfl) ?_
  have hV := hV (fun (x0 : Nat) (x1 : Int32) (x2 : Int32) (σ : q_S) => q_G l cx M_PG_spreadOverRows 1 64 0 0 7 [(0, .inr (.inr x0)), (1, .inl x1), (2, .inl x2)] [] σ R) (fun (x0 : Nat) (x1 : Int32) (x2 : Int32) (σ : q_S) => q_G l cx M_PG_spreadOverRows 1 64 0 0 52 [(0, .inr (.inr x0)), (1, .inl x1), (2, .inl x2)] [] σ R) (fun (x0 : Nat) (x1 : Int32) (σ : q_S) => q_G l cx M_PG_spreadOverRows 1 64 0 0 58 [(0, .inr (.inr x0)), (1, .inl x1)] [] σ R) (fun (x0 : Nat) (x1 : Int32) (x2 : Int32) (σ : q_S) => q_G l cx M_PG_spreadOverRows 1 64 0 0 63 [(0, .inr (.inr x0)), (1, .inl x1), (2, .inl x2)] [] σ R)
  have hV := hV (by
      intro x0 x1 x2 σ hV
      show q_G l cx M_PG_spreadOverRows 1 64 0 0 7 [(0, .inr (.inr x0)), (1, .inl x1), (2, .inl x2)] [] σ R
      refine q_run k_PG_spreadOverRows 5 2 10 rfl ?_
      show q_G l cx M_PG_spreadOverRows 1 64 0 0 10 [(0, .inr (.inr x0)), (1, .inl x1), (2, .inl x2)] [.inl (24 : Int32), .inl x2] σ R
      refine q_icmp (q_dc k_PG_spreadOverRows 7 rfl) rfl (fun h1 => ?_) (fun h1 => ?_)
      · have hV := hV.1 h1
        exact q_less (Nat.le_of_ble_eq_true rfl) (Nat.le_of_ble_eq_true rfl) (q_subk [0, 1] rfl hV)
      · have hV := hV.2 h1
        refine q_run k_PG_spreadOverRows 8 5 20 rfl ?_
        show q_K σ x0 = 4 ∧ q_G l cx M_PG_spreadOverRows 1 64 0 0 20 [(0, .inr (.inr x0)), (1, .inl x1), (2, .inl x2)] [.inl ((q_I σ x0 4) + (1 : Int32)), .inl x2] σ R
        obtain ⟨s2, hV⟩ := hV
        refine ⟨s2, ?_⟩
        refine q_icmp (q_dc k_PG_spreadOverRows 13 rfl) rfl (fun h3 => ?_) (fun h3 => ?_)
        · have hV := hV.1 h3
          exact q_less (Nat.le_of_ble_eq_true rfl) (Nat.le_of_ble_eq_true rfl) (q_subk [0, 1] rfl hV)
        · have hV := hV.2 h3
          refine q_run k_PG_spreadOverRows 14 3 26 rfl ?_
          show q_G l cx M_PG_spreadOverRows 1 64 0 0 26 [(0, .inr (.inr x0)), (1, .inl x1), (2, .inl x2)] [.inl x2, .inr (.inr x0), .inl x1] σ R
          obtain ⟨s4, hV⟩ := hV
          refine q_callV (st := [.inl x1]) (as := [.inl x2]) (t_PG_spreadInRow (l := l) (cx := cx)  hV) (q_dc k_PG_spreadOverRows 17 rfl) (Or.inl (List.mem_of_getElem? (i := 259) (by decide +kernel))) w_PG_spreadInRow n_PG_spreadInRow (ci := 3) rfl e_PG_spreadInRow a_PG_spreadInRow (q_wt (Nat.le_of_ble_eq_true rfl)) ⟨Nat.le_of_ble_eq_true rfl, Nat.le_of_ble_eq_true rfl⟩ s4 (fun v9 τ9 q9 => ?_) (fun n9 τ9 q9 => q_T.leave rfl q9)
          obtain ⟨v7, rfl, hV⟩ := q_ci_elim q9
          clear q9
          have hV := hV
          revert hV
          generalize τ9 = σ8
          intro hV
          show q_G l cx M_PG_spreadOverRows 1 64 0 0 29 [(0, .inr (.inr x0)), (1, .inl x1), (2, .inl x2)] [.inl v7, .inl x1] σ8 R
          refine q_run k_PG_spreadOverRows 18 2 31 rfl ?_
          show q_G l cx M_PG_spreadOverRows 1 64 0 0 31 [(1, .inl (x1 ||| v7)), (0, .inr (.inr x0)), (2, .inl x2)] [] σ8 R
          refine q_let (fun v9 => q_G l cx M_PG_spreadOverRows 1 64 0 0 31 [(1, .inl v9), (0, .inr (.inr x0)), (2, .inl x2)] [] σ8 R) (x1 ||| v7) (fun v9 e_v9 => ?_)
          have hV := hV v9 e_v9
          refine q_run k_PG_spreadOverRows 20 4 37 rfl ?_
          show q_K σ8 x0 = 4 ∧ (q_K σ8 (q_P σ8 x0 2) = 1000 ∨ q_K σ8 (q_P σ8 x0 2) = 2000) ∧ vp_in x2 (q_Z σ8 (q_P σ8 x0 2)) ∧ q_G l cx M_PG_spreadOverRows 1 64 0 0 37 [(1, .inl v9), (0, .inr (.inr x0)), (2, .inl x2)] [.inl (q_I σ8 (q_P σ8 x0 2) x2.toNatClampNeg)] σ8 R
          obtain ⟨s10, s11, s12, hV⟩ := hV
          refine ⟨s10, s11, s12, ?_⟩
          refine q_ifz (q_dc k_PG_spreadOverRows 24 rfl) rfl (fun h13 => ?_) (fun h13 => ?_)
          · have hV := hV.1 h13
            exact q_less (Nat.le_of_ble_eq_true rfl) (Nat.le_of_ble_eq_true rfl) (q_subk [1, 0, 2] rfl hV)
          · have hV := hV.2 h13
            refine q_run k_PG_spreadOverRows 25 4 46 rfl ?_
            show q_K σ8 x0 = 4 ∧ q_G l cx M_PG_spreadOverRows 1 64 0 0 46 [(1, .inl v9), (0, .inr (.inr x0)), (2, .inl x2)] [.inl x2, .inl (q_I σ8 x0 4), .inr (.inr x0)] σ8 R
            obtain ⟨s14, hV⟩ := hV
            refine ⟨s14, ?_⟩
            refine q_callS (st := [.inr (.inr x0)]) (t_MT_max (l := l) (cx := cx) (σ := σ8) (q_I σ8 x0 4) x2) (q_dc k_PG_spreadOverRows 29 rfl) (Or.inl (List.mem_of_getElem? (i := 262) (by decide +kernel))) w_MT_max s_MT_max a_MT_max (q_wt (Nat.le_of_ble_eq_true rfl)) ⟨Nat.le_of_ble_eq_true rfl, Nat.le_of_ble_eq_true rfl⟩ (fun v9 τ9 q9 => ?_) (fun n9 τ9 q9 => by cases q9.1)
            obtain ⟨q8, q7⟩ := q9
            cases q8
            rw [q7]
            show q_G l cx M_PG_spreadOverRows 1 64 0 0 49 [(1, .inl v9), (0, .inr (.inr x0)), (2, .inl x2)] [.inl (f_MT_max (q_I σ8 x0 4) x2), .inr (.inr x0)] σ8 R
            refine q_run k_PG_spreadOverRows 30 1 52 rfl ?_
            show q_K σ8 x0 = 4 ∧ q_G l cx M_PG_spreadOverRows 1 64 0 0 52 [(1, .inl v9), (0, .inr (.inr x0)), (2, .inl x2)] [] (q_wI σ8 x0 4 (f_MT_max (q_I σ8 x0 4) x2)) R
            obtain ⟨s16, hV⟩ := hV
            refine ⟨s16, ?_⟩
            refine q_let (fun σ15 => q_G l cx M_PG_spreadOverRows 1 64 0 0 52 [(1, .inl v9), (0, .inr (.inr x0)), (2, .inl x2)] [] σ15 R) (q_wI σ8 x0 4 (f_MT_max (q_I σ8 x0 4) x2)) (fun σ15 e_σ15 => ?_)
            have hV := hV σ15 e_σ15
            exact q_less (Nat.le_of_ble_eq_true rfl) (Nat.le_of_ble_eq_true rfl) (q_subk [1, 0, 2] rfl hV))
  have hV := hV (by
      intro x0 x1 x2 σ hV
      show q_G l cx M_PG_spreadOverRows 1 64 0 0 52 [(0, .inr (.inr x0)), (1, .inl x1), (2, .inl x2)] [] σ R
      refine q_run k_PG_spreadOverRows 31 1 55 rfl ?_
      show q_G l cx M_PG_spreadOverRows 1 64 0 0 55 [(2, .inl (x2 + (1 : Int32))), (0, .inr (.inr x0)), (1, .inl x1)] [] σ R
      refine q_let (fun v1 => q_G l cx M_PG_spreadOverRows 1 64 0 0 55 [(2, .inl v1), (0, .inr (.inr x0)), (1, .inl x1)] [] σ R) (x2 + (1 : Int32)) (fun v1 e_v1 => ?_)
      have hV := hV v1 e_v1
      refine q_goto (q_dc k_PG_spreadOverRows 32 rfl) rfl ?_
      exact q_less (Nat.le_of_ble_eq_true rfl) (Nat.le_of_ble_eq_true rfl) (q_subk [1, 2, 0] rfl hV))
  have hV := hV (by
      intro x0 x1 σ hV
      show q_G l cx M_PG_spreadOverRows 1 64 0 0 58 [(0, .inr (.inr x0)), (1, .inl x1)] [] σ R
      refine q_run k_PG_spreadOverRows 33 3 63 rfl ?_
      show q_K σ x0 = 4 ∧ q_G l cx M_PG_spreadOverRows 1 64 0 0 63 [(2, .inl (q_I σ x0 4)), (0, .inr (.inr x0)), (1, .inl x1)] [] σ R
      obtain ⟨s2, hV⟩ := hV
      refine ⟨s2, ?_⟩
      refine q_let (fun v1 => q_G l cx M_PG_spreadOverRows 1 64 0 0 63 [(2, .inl v1), (0, .inr (.inr x0)), (1, .inl x1)] [] σ R) (q_I σ x0 4) (fun v1 e_v1 => ?_)
      have hV := hV v1 e_v1
      exact q_less (Nat.le_of_ble_eq_true rfl) (Nat.le_of_ble_eq_true rfl) (q_subk [1, 2, 0] rfl hV))
  have hV := hV (by
      intro x0 x1 x2 σ hV
      show q_G l cx M_PG_spreadOverRows 1 64 0 0 63 [(0, .inr (.inr x0)), (1, .inl x1), (2, .inl x2)] [] σ R
      refine q_run k_PG_spreadOverRows 36 3 68 rfl ?_
      show q_K σ x0 = 4 ∧ q_G l cx M_PG_spreadOverRows 1 64 0 0 68 [(0, .inr (.inr x0)), (1, .inl x1), (2, .inl x2)] [.inl (q_I σ x0 3), .inl x2] σ R
      obtain ⟨s1, hV⟩ := hV
      refine ⟨s1, ?_⟩
      refine q_icmp (q_dc k_PG_spreadOverRows 39 rfl) rfl (fun h2 => ?_) (fun h2 => ?_)
      · have hV := hV.1 h2
        refine q_run k_PG_spreadOverRows 48 1 86 rfl ?_
        show q_G l cx M_PG_spreadOverRows 1 64 0 0 86 [(0, .inr (.inr x0)), (1, .inl x1), (2, .inl x2)] [.inl x1] σ R
        exact q_zreturn (q_dc k_PG_spreadOverRows 49 rfl) rfl hV.1 hV.2
      · have hV := hV.2 h2
        refine q_run k_PG_spreadOverRows 40 3 74 rfl ?_
        show q_G l cx M_PG_spreadOverRows 1 64 0 0 74 [(0, .inr (.inr x0)), (1, .inl x1), (2, .inl x2)] [.inl x2, .inr (.inr x0), .inl x1] σ R
        obtain ⟨s3, hV⟩ := hV
        refine q_callV (st := [.inl x1]) (as := [.inl x2]) (t_PG_spreadInRow (l := l) (cx := cx)  hV) (q_dc k_PG_spreadOverRows 43 rfl) (Or.inl (List.mem_of_getElem? (i := 259) (by decide +kernel))) w_PG_spreadInRow n_PG_spreadInRow (ci := 3) rfl e_PG_spreadInRow a_PG_spreadInRow (q_wt (Nat.le_of_ble_eq_true rfl)) ⟨Nat.le_of_ble_eq_true rfl, Nat.le_of_ble_eq_true rfl⟩ s3 (fun v9 τ9 q9 => ?_) (fun n9 τ9 q9 => q_T.leave rfl q9)
        obtain ⟨v6, rfl, hV⟩ := q_ci_elim q9
        clear q9
        have hV := hV
        revert hV
        generalize τ9 = σ7
        intro hV
        show q_G l cx M_PG_spreadOverRows 1 64 0 0 77 [(0, .inr (.inr x0)), (1, .inl x1), (2, .inl x2)] [.inl v6, .inl x1] σ7 R
        refine q_run k_PG_spreadOverRows 44 2 79 rfl ?_
        show q_G l cx M_PG_spreadOverRows 1 64 0 0 79 [(1, .inl (x1 ||| v6)), (0, .inr (.inr x0)), (2, .inl x2)] [] σ7 R
        refine q_let (fun v8 => q_G l cx M_PG_spreadOverRows 1 64 0 0 79 [(1, .inl v8), (0, .inr (.inr x0)), (2, .inl x2)] [] σ7 R) (x1 ||| v6) (fun v8 e_v8 => ?_)
        have hV := hV v8 e_v8
        refine q_run k_PG_spreadOverRows 46 1 82 rfl ?_
        show q_G l cx M_PG_spreadOverRows 1 64 0 0 82 [(2, .inl (x2 + (-1 : Int32))), (1, .inl v8), (0, .inr (.inr x0))] [] σ7 R
        refine q_let (fun v9 => q_G l cx M_PG_spreadOverRows 1 64 0 0 82 [(2, .inl v9), (1, .inl v8), (0, .inr (.inr x0))] [] σ7 R) (x2 + (-1 : Int32)) (fun v9 e_v9 => ?_)
        have hV := hV v9 e_v9
        refine q_goto (q_dc k_PG_spreadOverRows 47 rfl) rfl ?_
        exact q_less (Nat.le_of_ble_eq_true rfl) (Nat.le_of_ble_eq_true rfl) (q_subk [2, 1, 0] rfl hV))
  refine q_run k_PG_spreadOverRows 0 5 7 rfl ?_
  show q_K σ x0 = 4 ∧ q_G l cx M_PG_spreadOverRows 1 64 0 0 7 [(2, .inl (q_I σ x0 3)), (1, .inl (0 : Int32)), (0, .inr (.inr x0))] [] σ R
  obtain ⟨s2, hV⟩ := hV
  refine ⟨s2, ?_⟩
  refine q_let (fun v1 => q_G l cx M_PG_spreadOverRows 1 64 0 0 7 [(2, .inl v1), (1, .inl (0 : Int32)), (0, .inr (.inr x0))] [] σ R) (q_I σ x0 3) (fun v1 e_v1 => ?_)
  have hV := hV v1 e_v1
  exact q_less (Nat.le_of_ble_eq_true rfl) (Nat.le_of_ble_eq_true rfl) (q_subk [2, 1, 0] rfl hV)
def V_PG_growFrom (x0 : Nat) (x1 : Int32) (σ : q_S) (R : q_O → q_S → Prop) : Prop :=
  ∀ (P34 : Nat → Int32 → Int32 → q_S → Prop),
  ∀ (P56 : Nat → q_S → Prop),
  (∀ (x0 : Nat) (x2 : Int32) (x3 : Int32) (σ : q_S), ((((768 : Int32) ≤ x3 → P56 x0 σ) ∧ (¬ ((768 : Int32) ≤ x3) → ((x2 = (0 : Int32) → P56 x0 σ) ∧ (¬ (x2 = (0 : Int32)) → q_K σ x0 = 4 ∧ V_PG_spreadOverRows x0 σ (q_ci (fun v6 σ7 => ∀ v8 : Int32, v8 = x3 + (1 : Int32) → P34 x0 v6 v8 σ7) (fun n9 σ9 => R (.inr n9) σ9))))))) → P34 x0 x2 x3 σ) →
  (∀ (x0 : Nat) (σ : q_S), (q_K σ x0 = 4 ∧ q_K σ x0 = 4 ∧ V_PG_takeOff x0 (q_P σ x0 1) σ (q_cv (fun σ6 => R (.inl none) σ6) (fun n9 σ9 => R (.inr n9) σ9))) → P56 x0 σ) →
  q_K σ x0 = 4 ∧ ∀ σ1 : q_S, σ1 = q_wI σ x0 3 x1 → q_K σ1 x0 = 4 ∧ ∀ σ3 : q_S, σ3 = q_wI σ1 x0 4 x1 → q_K σ3 x0 = 4 ∧ q_K σ3 x0 = 4 ∧ (q_K σ3 (q_P σ3 x0 1) = 1000 ∨ q_K σ3 (q_P σ3 x0 1) = 2000) ∧ vp_in x1 (q_Z σ3 (q_P σ3 x0 1)) ∧ q_K σ3 x0 = 4 ∧ (q_K σ3 (q_P σ3 x0 1) = 1000 ∨ q_K σ3 (q_P σ3 x0 1) = 2000) ∧ vp_in x1 (q_Z σ3 (q_P σ3 x0 1)) ∧ q_K σ3 (q_P σ3 x0 2) = 1000 ∧ vp_in x1 (q_Z σ3 (q_P σ3 x0 2)) ∧ ∀ σ5 : q_S, σ5 = q_wI σ3 (q_P σ3 x0 2) x1.toNatClampNeg ((q_I σ3 (q_P σ3 x0 1) x1.toNatClampNeg) &&& (-(q_I σ3 (q_P σ3 x0 1) x1.toNatClampNeg))) → P34 x0 (1 : Int32) (0 : Int32) σ5
set_option maxRecDepth 100000 in
theorem t_PG_growFrom {l : Launch} {cx : q_C} {x0 : Nat} {x1 : Int32} {σ : q_S} {R : q_O → q_S → Prop} (hV : V_PG_growFrom x0 x1 σ R) : q_Ct l cx M_PG_growFrom 2 128 0 0 [q_r x0, q_i x1] σ R := by
  refine q_Ct.of p_PG_growFrom c_PG_growFrom rfl (Nat.le_of_ble_eq_true rfl) ?_
  have hV := hV (fun (x0 : Nat) (x2 : Int32) (x3 : Int32) (σ : q_S) => q_G l cx M_PG_growFrom 2 128 0 0 34 [(0, .inr (.inr x0)), (2, .inl x2), (3, .inl x3)] [] σ R) (fun (x0 : Nat) (σ : q_S) => q_G l cx M_PG_growFrom 2 128 0 0 56 [(0, .inr (.inr x0))] [] σ R)
  have hV := hV (by
      intro x0 x2 x3 σ hV
      show q_G l cx M_PG_growFrom 2 128 0 0 34 [(0, .inr (.inr x0)), (2, .inl x2), (3, .inl x3)] [] σ R
      refine q_run k_PG_growFrom 24 2 38 rfl ?_
      show q_G l cx M_PG_growFrom 2 128 0 0 38 [(0, .inr (.inr x0)), (2, .inl x2), (3, .inl x3)] [.inl (768 : Int32), .inl x3] σ R
      refine q_icmp (q_dc k_PG_growFrom 26 rfl) rfl (fun h1 => ?_) (fun h1 => ?_)
      · have hV := hV.1 h1
        exact q_less (Nat.le_of_ble_eq_true rfl) (Nat.le_of_ble_eq_true rfl) (q_subk [0] rfl hV)
      · have hV := hV.2 h1
        refine q_run k_PG_growFrom 27 1 42 rfl ?_
        show q_G l cx M_PG_growFrom 2 128 0 0 42 [(0, .inr (.inr x0)), (2, .inl x2), (3, .inl x3)] [.inl x2] σ R
        refine q_ifz (q_dc k_PG_growFrom 28 rfl) rfl (fun h2 => ?_) (fun h2 => ?_)
        · have hV := hV.1 h2
          exact q_less (Nat.le_of_ble_eq_true rfl) (Nat.le_of_ble_eq_true rfl) (q_subk [0] rfl hV)
        · have hV := hV.2 h2
          refine q_run k_PG_growFrom 29 1 46 rfl ?_
          show q_G l cx M_PG_growFrom 2 128 0 0 46 [(0, .inr (.inr x0)), (2, .inl x2), (3, .inl x3)] [.inr (.inr x0)] σ R
          obtain ⟨s3, hV⟩ := hV
          refine q_callV (st := []) (as := []) (t_PG_spreadOverRows (l := l) (cx := cx)  hV) (q_dc k_PG_growFrom 30 rfl) (Or.inl (List.mem_of_getElem? (i := 256) (by decide +kernel))) w_PG_spreadOverRows n_PG_spreadOverRows (ci := 3) rfl e_PG_spreadOverRows a_PG_spreadOverRows (q_wt (Nat.le_of_ble_eq_true rfl)) ⟨Nat.le_of_ble_eq_true rfl, Nat.le_of_ble_eq_true rfl⟩ s3 (fun v9 τ9 q9 => ?_) (fun n9 τ9 q9 => q_T.leave rfl q9)
          obtain ⟨v6, rfl, hV⟩ := q_ci_elim q9
          clear q9
          have hV := hV
          revert hV
          generalize τ9 = σ7
          intro hV
          show q_G l cx M_PG_growFrom 2 128 0 0 49 [(0, .inr (.inr x0)), (2, .inl x2), (3, .inl x3)] [.inl v6] σ7 R
          refine q_run k_PG_growFrom 31 2 53 rfl ?_
          show q_G l cx M_PG_growFrom 2 128 0 0 53 [(3, .inl (x3 + (1 : Int32))), (2, .inl v6), (0, .inr (.inr x0))] [] σ7 R
          refine q_let (fun v8 => q_G l cx M_PG_growFrom 2 128 0 0 53 [(3, .inl v8), (2, .inl v6), (0, .inr (.inr x0))] [] σ7 R) (x3 + (1 : Int32)) (fun v8 e_v8 => ?_)
          have hV := hV v8 e_v8
          refine q_goto (q_dc k_PG_growFrom 33 rfl) rfl ?_
          exact q_less (Nat.le_of_ble_eq_true rfl) (Nat.le_of_ble_eq_true rfl) (q_subk [2, 1, 0] rfl hV))
  have hV := hV (by
      intro x0 σ hV
      show q_G l cx M_PG_growFrom 2 128 0 0 56 [(0, .inr (.inr x0))] [] σ R
      refine q_run k_PG_growFrom 34 3 61 rfl ?_
      show q_K σ x0 = 4 ∧ q_G l cx M_PG_growFrom 2 128 0 0 61 [(0, .inr (.inr x0))] [.inr (.inr (q_P σ x0 1)), .inr (.inr x0)] σ R
      obtain ⟨s1, hV⟩ := hV
      refine ⟨s1, ?_⟩
      obtain ⟨s2, hV⟩ := hV
      refine q_callV (st := []) (as := [.inr (.inr (q_P σ x0 1))]) (t_PG_takeOff (l := l) (cx := cx)  hV) (q_dc k_PG_growFrom 37 rfl) (Or.inl (List.mem_of_getElem? (i := 263) (by decide +kernel))) w_PG_takeOff n_PG_takeOff (ci := 3) rfl e_PG_takeOff a_PG_takeOff (q_wt (Nat.le_of_ble_eq_true rfl)) ⟨Nat.le_of_ble_eq_true rfl, Nat.le_of_ble_eq_true rfl⟩ s2 (fun v9 τ9 q9 => ?_) (fun n9 τ9 q9 => q_T.leave rfl q9)
      obtain ⟨rfl, hV⟩ := q_cv_elim q9
      clear q9
      have hV := hV
      revert hV
      generalize τ9 = σ6
      intro hV
      show q_G l cx M_PG_growFrom 2 128 0 0 64 [(0, .inr (.inr x0))] [] σ6 R
      exact q_vreturn (q_dc k_PG_growFrom 38 rfl) rfl hV)
  refine q_run k_PG_growFrom 0 3 5 rfl ?_
  show q_K σ x0 = 4 ∧ q_G l cx M_PG_growFrom 2 128 0 0 5 [(0, .inr (.inr x0)), (1, .inl x1)] [] (q_wI σ x0 3 x1) R
  obtain ⟨s2, hV⟩ := hV
  refine ⟨s2, ?_⟩
  refine q_let (fun σ1 => q_G l cx M_PG_growFrom 2 128 0 0 5 [(0, .inr (.inr x0)), (1, .inl x1)] [] σ1 R) (q_wI σ x0 3 x1) (fun σ1 e_σ1 => ?_)
  have hV := hV σ1 e_σ1
  refine q_run k_PG_growFrom 3 3 10 rfl ?_
  show q_K σ1 x0 = 4 ∧ q_G l cx M_PG_growFrom 2 128 0 0 10 [(0, .inr (.inr x0)), (1, .inl x1)] [] (q_wI σ1 x0 4 x1) R
  obtain ⟨s4, hV⟩ := hV
  refine ⟨s4, ?_⟩
  refine q_let (fun σ3 => q_G l cx M_PG_growFrom 2 128 0 0 10 [(0, .inr (.inr x0)), (1, .inl x1)] [] σ3 R) (q_wI σ1 x0 4 x1) (fun σ3 e_σ3 => ?_)
  have hV := hV σ3 e_σ3
  refine q_run k_PG_growFrom 6 14 30 rfl ?_
  show q_K σ3 x0 = 4 ∧ q_K σ3 x0 = 4 ∧ (q_K σ3 (q_P σ3 x0 1) = 1000 ∨ q_K σ3 (q_P σ3 x0 1) = 2000) ∧ vp_in x1 (q_Z σ3 (q_P σ3 x0 1)) ∧ q_K σ3 x0 = 4 ∧ (q_K σ3 (q_P σ3 x0 1) = 1000 ∨ q_K σ3 (q_P σ3 x0 1) = 2000) ∧ vp_in x1 (q_Z σ3 (q_P σ3 x0 1)) ∧ q_K σ3 (q_P σ3 x0 2) = 1000 ∧ vp_in x1 (q_Z σ3 (q_P σ3 x0 2)) ∧ q_G l cx M_PG_growFrom 2 128 0 0 30 [(0, .inr (.inr x0)), (1, .inl x1)] [] (q_wI σ3 (q_P σ3 x0 2) x1.toNatClampNeg ((q_I σ3 (q_P σ3 x0 1) x1.toNatClampNeg) &&& (-(q_I σ3 (q_P σ3 x0 1) x1.toNatClampNeg)))) R
  obtain ⟨s6, s7, s8, s9, s10, s11, s12, s13, s14, hV⟩ := hV
  refine ⟨s6, s7, s8, s9, s10, s11, s12, s13, s14, ?_⟩
  refine q_let (fun σ5 => q_G l cx M_PG_growFrom 2 128 0 0 30 [(0, .inr (.inr x0)), (1, .inl x1)] [] σ5 R) (q_wI σ3 (q_P σ3 x0 2) x1.toNatClampNeg ((q_I σ3 (q_P σ3 x0 1) x1.toNatClampNeg) &&& (-(q_I σ3 (q_P σ3 x0 1) x1.toNatClampNeg)))) (fun σ5 e_σ5 => ?_)
  have hV := hV σ5 e_σ5
  refine q_run k_PG_growFrom 20 4 34 rfl ?_
  show q_G l cx M_PG_growFrom 2 128 0 0 34 [(3, .inl (0 : Int32)), (2, .inl (1 : Int32)), (0, .inr (.inr x0)), (1, .inl x1)] [] σ5 R
  exact q_less (Nat.le_of_ble_eq_true rfl) (Nat.le_of_ble_eq_true rfl) (q_subk [2, 1, 0] rfl hV)
def V_PG_next (x0 : Nat) (σ : q_S) (R : q_O → q_S → Prop) : Prop :=
  ∀ (P5 : Nat → Int32 → q_S → Prop),
  ∀ (P31 : Nat → Int32 → q_S → Prop),
  (∀ (x0 : Nat) (x1 : Int32) (σ : q_S), (q_K σ x0 = 4 ∧ (((q_I σ x0 4) < x1 → q_K σ x0 = 4 ∧ ∀ v3 : Int32, v3 = q_I σ x0 3 → P31 x0 v3 σ) ∧ (¬ ((q_I σ x0 4) < x1) → q_K σ x0 = 4 ∧ q_K σ (q_P σ x0 2) = 1000 ∧ vp_in x1 (q_Z σ (q_P σ x0 2)) ∧ ∀ σ5 : q_S, σ5 = q_wI σ (q_P σ x0 2) x1.toNatClampNeg (0 : Int32) → ∀ v9 : Int32, v9 = x1 + (1 : Int32) → P5 x0 v9 σ5))) → P5 x0 x1 σ) →
  (∀ (x0 : Nat) (x1 : Int32) (σ : q_S), ((((24 : Int32) ≤ x1 → R (.inl (some (.inl (0 : Int32)))) σ) ∧ (¬ ((24 : Int32) ≤ x1) → q_K σ x0 = 4 ∧ (q_K σ (q_P σ x0 1) = 1000 ∨ q_K σ (q_P σ x0 1) = 2000) ∧ vp_in x1 (q_Z σ (q_P σ x0 1)) ∧ (((q_I σ (q_P σ x0 1) x1.toNatClampNeg) = (0 : Int32) → ∀ v6 : Int32, v6 = x1 + (1 : Int32) → P31 x0 v6 σ) ∧ (¬ ((q_I σ (q_P σ x0 1) x1.toNatClampNeg) = (0 : Int32)) → q_K σ x0 = 4 ∧ V_PG_growFrom x0 x1 σ (q_cv (fun σ11 => R (.inl (some (.inl (1 : Int32)))) σ11) (fun n9 σ9 => R (.inr n9) σ9))))))) → P31 x0 x1 σ) →
  q_K σ x0 = 4 ∧ ∀ v1 : Int32, v1 = q_I σ x0 3 → P5 x0 v1 σ
set_option maxRecDepth 100000 in
theorem t_PG_next {l : Launch} {cx : q_C} {x0 : Nat} {σ : q_S} {R : q_O → q_S → Prop} (hV : V_PG_next x0 σ R) : q_Ct l cx M_PG_next 3 192 0 0 [q_r x0] σ R := by
  refine q_Ct.of p_PG_next c_PG_next rfl (Nat.le_of_ble_eq_true rfl) ?_
  have hV := hV (fun (x0 : Nat) (x1 : Int32) (σ : q_S) => q_G l cx M_PG_next 3 192 0 0 5 [(0, .inr (.inr x0)), (1, .inl x1)] [] σ R) (fun (x0 : Nat) (x1 : Int32) (σ : q_S) => q_G l cx M_PG_next 3 192 0 0 31 [(0, .inr (.inr x0)), (1, .inl x1)] [] σ R)
  have hV := hV (by
      intro x0 x1 σ hV
      show q_G l cx M_PG_next 3 192 0 0 5 [(0, .inr (.inr x0)), (1, .inl x1)] [] σ R
      refine q_run k_PG_next 3 3 10 rfl ?_
      show q_K σ x0 = 4 ∧ q_G l cx M_PG_next 3 192 0 0 10 [(0, .inr (.inr x0)), (1, .inl x1)] [.inl (q_I σ x0 4), .inl x1] σ R
      obtain ⟨s1, hV⟩ := hV
      refine ⟨s1, ?_⟩
      refine q_icmp (q_dc k_PG_next 6 rfl) rfl (fun h2 => ?_) (fun h2 => ?_)
      · have hV := hV.1 h2
        refine q_run k_PG_next 14 3 31 rfl ?_
        show q_K σ x0 = 4 ∧ q_G l cx M_PG_next 3 192 0 0 31 [(1, .inl (q_I σ x0 3)), (0, .inr (.inr x0))] [] σ R
        obtain ⟨s4, hV⟩ := hV
        refine ⟨s4, ?_⟩
        refine q_let (fun v3 => q_G l cx M_PG_next 3 192 0 0 31 [(1, .inl v3), (0, .inr (.inr x0))] [] σ R) (q_I σ x0 3) (fun v3 e_v3 => ?_)
        have hV := hV v3 e_v3
        exact q_less (Nat.le_of_ble_eq_true rfl) (Nat.le_of_ble_eq_true rfl) (q_subk [1, 0] rfl hV)
      · have hV := hV.2 h2
        refine q_run k_PG_next 7 5 20 rfl ?_
        show q_K σ x0 = 4 ∧ q_K σ (q_P σ x0 2) = 1000 ∧ vp_in x1 (q_Z σ (q_P σ x0 2)) ∧ q_G l cx M_PG_next 3 192 0 0 20 [(0, .inr (.inr x0)), (1, .inl x1)] [] (q_wI σ (q_P σ x0 2) x1.toNatClampNeg (0 : Int32)) R
        obtain ⟨s6, s7, s8, hV⟩ := hV
        refine ⟨s6, s7, s8, ?_⟩
        refine q_let (fun σ5 => q_G l cx M_PG_next 3 192 0 0 20 [(0, .inr (.inr x0)), (1, .inl x1)] [] σ5 R) (q_wI σ (q_P σ x0 2) x1.toNatClampNeg (0 : Int32)) (fun σ5 e_σ5 => ?_)
        have hV := hV σ5 e_σ5
        refine q_run k_PG_next 12 1 23 rfl ?_
        show q_G l cx M_PG_next 3 192 0 0 23 [(1, .inl (x1 + (1 : Int32))), (0, .inr (.inr x0))] [] σ5 R
        refine q_let (fun v9 => q_G l cx M_PG_next 3 192 0 0 23 [(1, .inl v9), (0, .inr (.inr x0))] [] σ5 R) (x1 + (1 : Int32)) (fun v9 e_v9 => ?_)
        have hV := hV v9 e_v9
        refine q_goto (q_dc k_PG_next 13 rfl) rfl ?_
        exact q_less (Nat.le_of_ble_eq_true rfl) (Nat.le_of_ble_eq_true rfl) (q_subk [1, 0] rfl hV))
  have hV := hV (by
      intro x0 x1 σ hV
      show q_G l cx M_PG_next 3 192 0 0 31 [(0, .inr (.inr x0)), (1, .inl x1)] [] σ R
      refine q_run k_PG_next 17 2 34 rfl ?_
      show q_G l cx M_PG_next 3 192 0 0 34 [(0, .inr (.inr x0)), (1, .inl x1)] [.inl (24 : Int32), .inl x1] σ R
      refine q_icmp (q_dc k_PG_next 19 rfl) rfl (fun h1 => ?_) (fun h1 => ?_)
      · have hV := hV.1 h1
        refine q_run k_PG_next 32 1 60 rfl ?_
        show q_G l cx M_PG_next 3 192 0 0 60 [(0, .inr (.inr x0)), (1, .inl x1)] [.inl (0 : Int32)] σ R
        exact q_zreturn (q_dc k_PG_next 33 rfl) rfl (by decide) hV
      · have hV := hV.2 h1
        refine q_run k_PG_next 20 4 43 rfl ?_
        show q_K σ x0 = 4 ∧ (q_K σ (q_P σ x0 1) = 1000 ∨ q_K σ (q_P σ x0 1) = 2000) ∧ vp_in x1 (q_Z σ (q_P σ x0 1)) ∧ q_G l cx M_PG_next 3 192 0 0 43 [(0, .inr (.inr x0)), (1, .inl x1)] [.inl (q_I σ (q_P σ x0 1) x1.toNatClampNeg)] σ R
        obtain ⟨s2, s3, s4, hV⟩ := hV
        refine ⟨s2, s3, s4, ?_⟩
        refine q_ifz (q_dc k_PG_next 24 rfl) rfl (fun h5 => ?_) (fun h5 => ?_)
        · have hV := hV.1 h5
          refine q_run k_PG_next 30 1 56 rfl ?_
          show q_G l cx M_PG_next 3 192 0 0 56 [(1, .inl (x1 + (1 : Int32))), (0, .inr (.inr x0))] [] σ R
          refine q_let (fun v6 => q_G l cx M_PG_next 3 192 0 0 56 [(1, .inl v6), (0, .inr (.inr x0))] [] σ R) (x1 + (1 : Int32)) (fun v6 e_v6 => ?_)
          have hV := hV v6 e_v6
          refine q_goto (q_dc k_PG_next 31 rfl) rfl ?_
          exact q_less (Nat.le_of_ble_eq_true rfl) (Nat.le_of_ble_eq_true rfl) (q_subk [1, 0] rfl hV)
        · have hV := hV.2 h5
          refine q_run k_PG_next 25 2 48 rfl ?_
          show q_G l cx M_PG_next 3 192 0 0 48 [(0, .inr (.inr x0)), (1, .inl x1)] [.inl x1, .inr (.inr x0)] σ R
          obtain ⟨s7, hV⟩ := hV
          refine q_callV (st := []) (as := [.inl x1]) (t_PG_growFrom (l := l) (cx := cx)  hV) (q_dc k_PG_next 27 rfl) (Or.inl (List.mem_of_getElem? (i := 253) (by decide +kernel))) w_PG_growFrom n_PG_growFrom (ci := 3) rfl e_PG_growFrom a_PG_growFrom (q_wt (Nat.le_of_ble_eq_true rfl)) ⟨Nat.le_of_ble_eq_true rfl, Nat.le_of_ble_eq_true rfl⟩ s7 (fun v9 τ9 q9 => ?_) (fun n9 τ9 q9 => q_T.leave rfl q9)
          obtain ⟨rfl, hV⟩ := q_cv_elim q9
          clear q9
          have hV := hV
          revert hV
          generalize τ9 = σ11
          intro hV
          show q_G l cx M_PG_next 3 192 0 0 51 [(0, .inr (.inr x0)), (1, .inl x1)] [] σ11 R
          refine q_run k_PG_next 28 1 52 rfl ?_
          show q_G l cx M_PG_next 3 192 0 0 52 [(0, .inr (.inr x0)), (1, .inl x1)] [.inl (1 : Int32)] σ11 R
          exact q_zreturn (q_dc k_PG_next 29 rfl) rfl (by decide) hV)
  refine q_run k_PG_next 0 3 5 rfl ?_
  show q_K σ x0 = 4 ∧ q_G l cx M_PG_next 3 192 0 0 5 [(1, .inl (q_I σ x0 3)), (0, .inr (.inr x0))] [] σ R
  obtain ⟨s2, hV⟩ := hV
  refine ⟨s2, ?_⟩
  refine q_let (fun v1 => q_G l cx M_PG_next 3 192 0 0 5 [(1, .inl v1), (0, .inr (.inr x0))] [] σ R) (q_I σ x0 3) (fun v1 e_v1 => ?_)
  have hV := hV v1 e_v1
  exact q_less (Nat.le_of_ble_eq_true rfl) (Nat.le_of_ble_eq_true rfl) (q_subk [1, 0] rfl hV)
def V_PG_size (x0 : Nat) (σ : q_S) (R : q_O → q_S → Prop) : Prop :=
  ∀ (P7 : Nat → Int32 → Int32 → q_S → Prop),
  (∀ (x0 : Nat) (x1 : Int32) (x2 : Int32) (σ : q_S), (q_K σ x0 = 4 ∧ (((q_I σ x0 4) < x2 → R (.inl (some (.inl x1))) σ) ∧ (¬ ((q_I σ x0 4) < x2) → q_K σ x0 = 4 ∧ (q_K σ (q_P σ x0 2) = 1000 ∨ q_K σ (q_P σ x0 2) = 2000) ∧ vp_in x2 (q_Z σ (q_P σ x0 2)) ∧ ∀ v6 : Int32, v6 = x1 + (f_IN_bitCount (q_I σ (q_P σ x0 2) x2.toNatClampNeg)) → ∀ v7 : Int32, v7 = x2 + (1 : Int32) → P7 x0 v6 v7 σ))) → P7 x0 x1 x2 σ) →
  q_K σ x0 = 4 ∧ ∀ v1 : Int32, v1 = q_I σ x0 3 → P7 x0 (0 : Int32) v1 σ
set_option maxRecDepth 100000 in
theorem t_PG_size {l : Launch} {cx : q_C} {x0 : Nat} {σ : q_S} {R : q_O → q_S → Prop} (hV : V_PG_size x0 σ R) : q_Ct l cx M_PG_size 1 64 0 0 [q_r x0] σ R := by
  refine q_Ct.of p_PG_size c_PG_size rfl (Nat.le_of_ble_eq_true rfl) ?_
  have hV := hV (fun (x0 : Nat) (x1 : Int32) (x2 : Int32) (σ : q_S) => q_G l cx M_PG_size 1 64 0 0 7 [(0, .inr (.inr x0)), (1, .inl x1), (2, .inl x2)] [] σ R)
  have hV := hV (by
      intro x0 x1 x2 σ hV
      show q_G l cx M_PG_size 1 64 0 0 7 [(0, .inr (.inr x0)), (1, .inl x1), (2, .inl x2)] [] σ R
      refine q_run k_PG_size 5 3 12 rfl ?_
      show q_K σ x0 = 4 ∧ q_G l cx M_PG_size 1 64 0 0 12 [(0, .inr (.inr x0)), (1, .inl x1), (2, .inl x2)] [.inl (q_I σ x0 4), .inl x2] σ R
      obtain ⟨s1, hV⟩ := hV
      refine ⟨s1, ?_⟩
      refine q_icmp (q_dc k_PG_size 8 rfl) rfl (fun h2 => ?_) (fun h2 => ?_)
      · have hV := hV.1 h2
        refine q_run k_PG_size 19 1 34 rfl ?_
        show q_G l cx M_PG_size 1 64 0 0 34 [(0, .inr (.inr x0)), (1, .inl x1), (2, .inl x2)] [.inl x1] σ R
        exact q_ireturn (q_dc k_PG_size 20 rfl) rfl hV
      · have hV := hV.2 h2
        refine q_run k_PG_size 9 5 22 rfl ?_
        show q_K σ x0 = 4 ∧ (q_K σ (q_P σ x0 2) = 1000 ∨ q_K σ (q_P σ x0 2) = 2000) ∧ vp_in x2 (q_Z σ (q_P σ x0 2)) ∧ q_G l cx M_PG_size 1 64 0 0 22 [(0, .inr (.inr x0)), (1, .inl x1), (2, .inl x2)] [.inl (q_I σ (q_P σ x0 2) x2.toNatClampNeg), .inl x1] σ R
        obtain ⟨s3, s4, s5, hV⟩ := hV
        refine ⟨s3, s4, s5, ?_⟩
        refine q_callS (st := [.inl x1]) (t_IN_bitCount (l := l) (cx := cx) (σ := σ) (q_I σ (q_P σ x0 2) x2.toNatClampNeg)) (q_dc k_PG_size 14 rfl) (Or.inl (List.mem_of_getElem? (i := 268) (by decide +kernel))) w_IN_bitCount s_IN_bitCount a_IN_bitCount (q_wt (Nat.le_of_ble_eq_true rfl)) ⟨Nat.le_of_ble_eq_true rfl, Nat.le_of_ble_eq_true rfl⟩ (fun v9 τ9 q9 => ?_) (fun n9 τ9 q9 => by cases q9.1)
        obtain ⟨q8, q7⟩ := q9
        cases q8
        rw [q7]
        show q_G l cx M_PG_size 1 64 0 0 25 [(0, .inr (.inr x0)), (1, .inl x1), (2, .inl x2)] [.inl (f_IN_bitCount (q_I σ (q_P σ x0 2) x2.toNatClampNeg)), .inl x1] σ R
        refine q_run k_PG_size 15 2 27 rfl ?_
        show q_G l cx M_PG_size 1 64 0 0 27 [(1, .inl (x1 + (f_IN_bitCount (q_I σ (q_P σ x0 2) x2.toNatClampNeg)))), (0, .inr (.inr x0)), (2, .inl x2)] [] σ R
        refine q_let (fun v6 => q_G l cx M_PG_size 1 64 0 0 27 [(1, .inl v6), (0, .inr (.inr x0)), (2, .inl x2)] [] σ R) (x1 + (f_IN_bitCount (q_I σ (q_P σ x0 2) x2.toNatClampNeg))) (fun v6 e_v6 => ?_)
        have hV := hV v6 e_v6
        refine q_run k_PG_size 17 1 30 rfl ?_
        show q_G l cx M_PG_size 1 64 0 0 30 [(2, .inl (x2 + (1 : Int32))), (1, .inl v6), (0, .inr (.inr x0))] [] σ R
        refine q_let (fun v7 => q_G l cx M_PG_size 1 64 0 0 30 [(2, .inl v7), (1, .inl v6), (0, .inr (.inr x0))] [] σ R) (x2 + (1 : Int32)) (fun v7 e_v7 => ?_)
        have hV := hV v7 e_v7
        refine q_goto (q_dc k_PG_size 18 rfl) rfl ?_
        exact q_less (Nat.le_of_ble_eq_true rfl) (Nat.le_of_ble_eq_true rfl) (q_subk [2, 1, 0] rfl hV))
  refine q_run k_PG_size 0 5 7 rfl ?_
  show q_K σ x0 = 4 ∧ q_G l cx M_PG_size 1 64 0 0 7 [(2, .inl (q_I σ x0 3)), (1, .inl (0 : Int32)), (0, .inr (.inr x0))] [] σ R
  obtain ⟨s2, hV⟩ := hV
  refine ⟨s2, ?_⟩
  refine q_let (fun v1 => q_G l cx M_PG_size 1 64 0 0 7 [(2, .inl v1), (1, .inl (0 : Int32)), (0, .inr (.inr x0))] [] σ R) (q_I σ x0 3) (fun v1 e_v1 => ?_)
  have hV := hV v1 e_v1
  exact q_less (Nat.le_of_ble_eq_true rfl) (Nat.le_of_ble_eq_true rfl) (q_subk [2, 1, 0] rfl hV)
def V_PG_meets (x0 : Nat) (x1 : Nat) (σ : q_S) (R : q_O → q_S → Prop) : Prop :=
  ∀ (P5 : Nat → Nat → Int32 → q_S → Prop),
  (∀ (x0 : Nat) (x1 : Nat) (x2 : Int32) (σ : q_S), (q_K σ x0 = 4 ∧ (((q_I σ x0 4) < x2 → R (.inl (some (.inl (0 : Int32)))) σ) ∧ (¬ ((q_I σ x0 4) < x2) → q_K σ x0 = 4 ∧ (q_K σ (q_P σ x0 2) = 1000 ∨ q_K σ (q_P σ x0 2) = 2000) ∧ vp_in x2 (q_Z σ (q_P σ x0 2)) ∧ q_K σ x1 = 5 ∧ ((((q_I σ (q_P σ x0 2) x2.toNatClampNeg) &&& (f_PP_near σ x1 x2 (0 : Int32))) = (0 : Int32) → ∀ v8 : Int32, v8 = x2 + (1 : Int32) → P5 x0 x1 v8 σ) ∧ (¬ (((q_I σ (q_P σ x0 2) x2.toNatClampNeg) &&& (f_PP_near σ x1 x2 (0 : Int32))) = (0 : Int32)) → R (.inl (some (.inl (1 : Int32)))) σ))))) → P5 x0 x1 x2 σ) →
  q_K σ x0 = 4 ∧ ∀ v1 : Int32, v1 = q_I σ x0 3 → P5 x0 x1 v1 σ
set_option maxRecDepth 100000 in
theorem t_PG_meets {l : Launch} {cx : q_C} {x0 : Nat} {x1 : Nat} {σ : q_S} {R : q_O → q_S → Prop} (hV : V_PG_meets x0 x1 σ R) : q_Ct l cx M_PG_meets 3 192 0 0 [q_r x0, q_r x1] σ R := by
  refine q_Ct.of p_PG_meets c_PG_meets rfl (Nat.le_of_ble_eq_true rfl) ?_
  have hV := hV (fun (x0 : Nat) (x1 : Nat) (x2 : Int32) (σ : q_S) => q_G l cx M_PG_meets 3 192 0 0 5 [(0, .inr (.inr x0)), (1, .inr (.inr x1)), (2, .inl x2)] [] σ R)
  have hV := hV (by
      intro x0 x1 x2 σ hV
      show q_G l cx M_PG_meets 3 192 0 0 5 [(0, .inr (.inr x0)), (1, .inr (.inr x1)), (2, .inl x2)] [] σ R
      refine q_run k_PG_meets 3 3 10 rfl ?_
      show q_K σ x0 = 4 ∧ q_G l cx M_PG_meets 3 192 0 0 10 [(0, .inr (.inr x0)), (1, .inr (.inr x1)), (2, .inl x2)] [.inl (q_I σ x0 4), .inl x2] σ R
      obtain ⟨s1, hV⟩ := hV
      refine ⟨s1, ?_⟩
      refine q_icmp (q_dc k_PG_meets 6 rfl) rfl (fun h2 => ?_) (fun h2 => ?_)
      · have hV := hV.1 h2
        refine q_run k_PG_meets 21 1 38 rfl ?_
        show q_G l cx M_PG_meets 3 192 0 0 38 [(0, .inr (.inr x0)), (1, .inr (.inr x1)), (2, .inl x2)] [.inl (0 : Int32)] σ R
        exact q_zreturn (q_dc k_PG_meets 22 rfl) rfl (by decide) hV
      · have hV := hV.2 h2
        refine q_run k_PG_meets 7 7 22 rfl ?_
        show q_K σ x0 = 4 ∧ (q_K σ (q_P σ x0 2) = 1000 ∨ q_K σ (q_P σ x0 2) = 2000) ∧ vp_in x2 (q_Z σ (q_P σ x0 2)) ∧ q_G l cx M_PG_meets 3 192 0 0 22 [(0, .inr (.inr x0)), (1, .inr (.inr x1)), (2, .inl x2)] [.inl (0 : Int32), .inl x2, .inr (.inr x1), .inl (q_I σ (q_P σ x0 2) x2.toNatClampNeg)] σ R
        obtain ⟨s3, s4, s5, hV⟩ := hV
        refine ⟨s3, s4, s5, ?_⟩
        obtain ⟨s6, hV⟩ := hV
        refine q_callV (st := [.inl (q_I σ (q_P σ x0 2) x2.toNatClampNeg)]) (as := [.inl x2, .inl (0 : Int32)]) (t_PP_near (l := l) (cx := cx) (σ := σ) x1 x2 (0 : Int32) s6) (q_dc k_PG_meets 14 rfl) (Or.inr ⟨"PlaneFills", List.mem_of_getElem? (i := 10) (by decide +kernel)⟩) w_PP_near n_PP_near (ci := 4) rfl e_PP_near a_PP_near (q_wt (Nat.le_of_ble_eq_true rfl)) ⟨Nat.le_of_ble_eq_true rfl, Nat.le_of_ble_eq_true rfl⟩ s6 (fun v9 τ9 q9 => ?_) (fun n9 τ9 q9 => by cases q9.1)
        obtain ⟨q8, q7⟩ := q9
        cases q8
        rw [q7]
        show q_G l cx M_PG_meets 3 192 0 0 25 [(0, .inr (.inr x0)), (1, .inr (.inr x1)), (2, .inl x2)] [.inl (f_PP_near σ x1 x2 (0 : Int32)), .inl (q_I σ (q_P σ x0 2) x2.toNatClampNeg)] σ R
        refine q_run k_PG_meets 15 1 26 rfl ?_
        show q_G l cx M_PG_meets 3 192 0 0 26 [(0, .inr (.inr x0)), (1, .inr (.inr x1)), (2, .inl x2)] [.inl ((q_I σ (q_P σ x0 2) x2.toNatClampNeg) &&& (f_PP_near σ x1 x2 (0 : Int32)))] σ R
        refine q_ifz (q_dc k_PG_meets 16 rfl) rfl (fun h7 => ?_) (fun h7 => ?_)
        · have hV := hV.1 h7
          refine q_run k_PG_meets 19 1 34 rfl ?_
          show q_G l cx M_PG_meets 3 192 0 0 34 [(2, .inl (x2 + (1 : Int32))), (0, .inr (.inr x0)), (1, .inr (.inr x1))] [] σ R
          refine q_let (fun v8 => q_G l cx M_PG_meets 3 192 0 0 34 [(2, .inl v8), (0, .inr (.inr x0)), (1, .inr (.inr x1))] [] σ R) (x2 + (1 : Int32)) (fun v8 e_v8 => ?_)
          have hV := hV v8 e_v8
          refine q_goto (q_dc k_PG_meets 20 rfl) rfl ?_
          exact q_less (Nat.le_of_ble_eq_true rfl) (Nat.le_of_ble_eq_true rfl) (q_subk [1, 2, 0] rfl hV)
        · have hV := hV.2 h7
          refine q_run k_PG_meets 17 1 30 rfl ?_
          show q_G l cx M_PG_meets 3 192 0 0 30 [(0, .inr (.inr x0)), (1, .inr (.inr x1)), (2, .inl x2)] [.inl (1 : Int32)] σ R
          exact q_zreturn (q_dc k_PG_meets 18 rfl) rfl (by decide) hV)
  refine q_run k_PG_meets 0 3 5 rfl ?_
  show q_K σ x0 = 4 ∧ q_G l cx M_PG_meets 3 192 0 0 5 [(2, .inl (q_I σ x0 3)), (0, .inr (.inr x0)), (1, .inr (.inr x1))] [] σ R
  obtain ⟨s2, hV⟩ := hV
  refine ⟨s2, ?_⟩
  refine q_let (fun v1 => q_G l cx M_PG_meets 3 192 0 0 5 [(2, .inl v1), (0, .inr (.inr x0)), (1, .inr (.inr x1))] [] σ R) (q_I σ x0 3) (fun v1 e_v1 => ?_)
  have hV := hV v1 e_v1
  exact q_less (Nat.le_of_ble_eq_true rfl) (Nat.le_of_ble_eq_true rfl) (q_subk [1, 2, 0] rfl hV)
def V_PG_comesToBorder (x0 : Nat) (σ : q_S) (R : q_O → q_S → Prop) : Prop :=
  ∀ (P16 : Nat → q_S → Prop),
  ∀ (P21 : Nat → Int32 → q_S → Prop),
  ∀ (P27 : Nat → Int32 → Int32 → q_S → Prop),
  ∀ (P53 : Nat → Int32 → Int32 → Int32 → q_S → Prop),
  (∀ (x0 : Nat) (σ : q_S), (P21 x0 (1 : Int32) σ) → P16 x0 σ) →
  (∀ (x0 : Nat) (y0 : Int32) (σ : q_S), (q_K σ x0 = 4 ∧ ∀ v1 : Int32, v1 = q_I σ x0 3 → P27 x0 y0 v1 σ) → P21 x0 y0 σ) →
  (∀ (x0 : Nat) (x1 : Int32) (x2 : Int32) (σ : q_S), (q_K σ x0 = 4 ∧ (((q_I σ x0 4) < x2 → ((x1 = 0 ∨ x1 = 1) ∧ R (.inl (some (.inl x1))) σ)) ∧ (¬ ((q_I σ x0 4) < x2) → q_K σ x0 = 4 ∧ (q_K σ (q_P σ x0 2) = 1000 ∨ q_K σ (q_P σ x0 2) = 2000) ∧ vp_in x2 (q_Z σ (q_P σ x0 2)) ∧ ((((q_I σ (q_P σ x0 2) x2.toNatClampNeg) &&& (-2147483647 : Int32)) = (0 : Int32) → P53 x0 x2 (0 : Int32) x1 σ) ∧ (¬ (((q_I σ (q_P σ x0 2) x2.toNatClampNeg) &&& (-2147483647 : Int32)) = (0 : Int32)) → P53 x0 x2 (1 : Int32) x1 σ))))) → P27 x0 x1 x2 σ) →
  (∀ (x0 : Nat) (x2 : Int32) (y0 : Int32) (y1 : Int32) (σ : q_S), (∀ v1 : Int32, v1 = y1 ||| y0 → ∀ v2 : Int32, v2 = x2 + (1 : Int32) → P27 x0 v1 v2 σ) → P53 x0 x2 y0 y1 σ) →
  q_K σ x0 = 4 ∧ (((q_I σ x0 3) = (0 : Int32) → P16 x0 σ) ∧ (¬ ((q_I σ x0 3) = (0 : Int32)) → q_K σ x0 = 4 ∧ ((¬ (q_I σ x0 4) = (23 : Int32) → P21 x0 (0 : Int32) σ) ∧ (¬ (¬ (q_I σ x0 4) = (23 : Int32)) → P16 x0 σ))))
set_option maxRecDepth 100000 in
theorem t_PG_comesToBorder {l : Launch} {cx : q_C} {x0 : Nat} {σ : q_S} {R : q_O → q_S → Prop} (hV : V_PG_comesToBorder x0 σ R) : q_Ct l cx M_PG_comesToBorder 0 0 0 0 [q_r x0] σ R := by
  refine q_Ct.of p_PG_comesToBorder c_PG_comesToBorder rfl (Nat.le_of_ble_eq_true rfl) ?_
  have hV := hV (fun (x0 : Nat) (σ : q_S) => q_G l cx M_PG_comesToBorder 0 0 0 0 16 [(0, .inr (.inr x0))] [] σ R) (fun (x0 : Nat) (y0 : Int32) (σ : q_S) => q_G l cx M_PG_comesToBorder 0 0 0 0 21 [(0, .inr (.inr x0))] [.inl y0] σ R) (fun (x0 : Nat) (x1 : Int32) (x2 : Int32) (σ : q_S) => q_G l cx M_PG_comesToBorder 0 0 0 0 27 [(0, .inr (.inr x0)), (1, .inl x1), (2, .inl x2)] [] σ R) (fun (x0 : Nat) (x2 : Int32) (y0 : Int32) (y1 : Int32) (σ : q_S) => q_G l cx M_PG_comesToBorder 0 0 0 0 53 [(0, .inr (.inr x0)), (2, .inl x2)] [.inl y0, .inl y1] σ R)
  have hV := hV (by
      intro x0 σ hV
      show q_G l cx M_PG_comesToBorder 0 0 0 0 16 [(0, .inr (.inr x0))] [] σ R
      refine q_run k_PG_comesToBorder 7 1 17 rfl ?_
      show q_G l cx M_PG_comesToBorder 0 0 0 0 17 [(0, .inr (.inr x0))] [.inl (1 : Int32)] σ R
      refine q_goto (q_dc k_PG_comesToBorder 8 rfl) rfl ?_
      exact q_less (Nat.le_of_ble_eq_true rfl) (Nat.le_of_ble_eq_true rfl) (q_subk [0] rfl hV))
  have hV := hV (by
      intro x0 y0 σ hV
      show q_G l cx M_PG_comesToBorder 0 0 0 0 21 [(0, .inr (.inr x0))] [.inl y0] σ R
      refine q_run k_PG_comesToBorder 10 4 27 rfl ?_
      show q_K σ x0 = 4 ∧ q_G l cx M_PG_comesToBorder 0 0 0 0 27 [(2, .inl (q_I σ x0 3)), (1, .inl y0), (0, .inr (.inr x0))] [] σ R
      obtain ⟨s2, hV⟩ := hV
      refine ⟨s2, ?_⟩
      refine q_let (fun v1 => q_G l cx M_PG_comesToBorder 0 0 0 0 27 [(2, .inl v1), (1, .inl y0), (0, .inr (.inr x0))] [] σ R) (q_I σ x0 3) (fun v1 e_v1 => ?_)
      have hV := hV v1 e_v1
      exact q_less (Nat.le_of_ble_eq_true rfl) (Nat.le_of_ble_eq_true rfl) (q_subk [2, 1, 0] rfl hV))
  have hV := hV (by
      intro x0 x1 x2 σ hV
      show q_G l cx M_PG_comesToBorder 0 0 0 0 27 [(0, .inr (.inr x0)), (1, .inl x1), (2, .inl x2)] [] σ R
      refine q_run k_PG_comesToBorder 14 3 32 rfl ?_
      show q_K σ x0 = 4 ∧ q_G l cx M_PG_comesToBorder 0 0 0 0 32 [(0, .inr (.inr x0)), (1, .inl x1), (2, .inl x2)] [.inl (q_I σ x0 4), .inl x2] σ R
      obtain ⟨s1, hV⟩ := hV
      refine ⟨s1, ?_⟩
      refine q_icmp (q_dc k_PG_comesToBorder 17 rfl) rfl (fun h2 => ?_) (fun h2 => ?_)
      · have hV := hV.1 h2
        refine q_run k_PG_comesToBorder 33 1 62 rfl ?_
        show q_G l cx M_PG_comesToBorder 0 0 0 0 62 [(0, .inr (.inr x0)), (1, .inl x1), (2, .inl x2)] [.inl x1] σ R
        exact q_zreturn (q_dc k_PG_comesToBorder 34 rfl) rfl hV.1 hV.2
      · have hV := hV.2 h2
        refine q_run k_PG_comesToBorder 18 7 45 rfl ?_
        show q_K σ x0 = 4 ∧ (q_K σ (q_P σ x0 2) = 1000 ∨ q_K σ (q_P σ x0 2) = 2000) ∧ vp_in x2 (q_Z σ (q_P σ x0 2)) ∧ q_G l cx M_PG_comesToBorder 0 0 0 0 45 [(0, .inr (.inr x0)), (1, .inl x1), (2, .inl x2)] [.inl ((q_I σ (q_P σ x0 2) x2.toNatClampNeg) &&& (-2147483647 : Int32)), .inl x1] σ R
        obtain ⟨s3, s4, s5, hV⟩ := hV
        refine ⟨s3, s4, s5, ?_⟩
        refine q_ifz (q_dc k_PG_comesToBorder 25 rfl) rfl (fun h6 => ?_) (fun h6 => ?_)
        · have hV := hV.1 h6
          refine q_run k_PG_comesToBorder 28 1 53 rfl ?_
          show q_G l cx M_PG_comesToBorder 0 0 0 0 53 [(0, .inr (.inr x0)), (1, .inl x1), (2, .inl x2)] [.inl (0 : Int32), .inl x1] σ R
          exact q_less (Nat.le_of_ble_eq_true rfl) (Nat.le_of_ble_eq_true rfl) (q_subk [0, 2] rfl hV)
        · have hV := hV.2 h6
          refine q_run k_PG_comesToBorder 26 1 49 rfl ?_
          show q_G l cx M_PG_comesToBorder 0 0 0 0 49 [(0, .inr (.inr x0)), (1, .inl x1), (2, .inl x2)] [.inl (1 : Int32), .inl x1] σ R
          refine q_goto (q_dc k_PG_comesToBorder 27 rfl) rfl ?_
          exact q_less (Nat.le_of_ble_eq_true rfl) (Nat.le_of_ble_eq_true rfl) (q_subk [0, 2] rfl hV))
  have hV := hV (by
      intro x0 x2 y0 y1 σ hV
      show q_G l cx M_PG_comesToBorder 0 0 0 0 53 [(0, .inr (.inr x0)), (2, .inl x2)] [.inl y0, .inl y1] σ R
      refine q_run k_PG_comesToBorder 29 2 55 rfl ?_
      show q_G l cx M_PG_comesToBorder 0 0 0 0 55 [(1, .inl (y1 ||| y0)), (0, .inr (.inr x0)), (2, .inl x2)] [] σ R
      refine q_let (fun v1 => q_G l cx M_PG_comesToBorder 0 0 0 0 55 [(1, .inl v1), (0, .inr (.inr x0)), (2, .inl x2)] [] σ R) (y1 ||| y0) (fun v1 e_v1 => ?_)
      have hV := hV v1 e_v1
      refine q_run k_PG_comesToBorder 31 1 58 rfl ?_
      show q_G l cx M_PG_comesToBorder 0 0 0 0 58 [(2, .inl (x2 + (1 : Int32))), (1, .inl v1), (0, .inr (.inr x0))] [] σ R
      refine q_let (fun v2 => q_G l cx M_PG_comesToBorder 0 0 0 0 58 [(2, .inl v2), (1, .inl v1), (0, .inr (.inr x0))] [] σ R) (x2 + (1 : Int32)) (fun v2 e_v2 => ?_)
      have hV := hV v2 e_v2
      refine q_goto (q_dc k_PG_comesToBorder 32 rfl) rfl ?_
      exact q_less (Nat.le_of_ble_eq_true rfl) (Nat.le_of_ble_eq_true rfl) (q_subk [2, 1, 0] rfl hV))
  refine q_run k_PG_comesToBorder 0 2 4 rfl ?_
  show q_K σ x0 = 4 ∧ q_G l cx M_PG_comesToBorder 0 0 0 0 4 [(0, .inr (.inr x0))] [.inl (q_I σ x0 3)] σ R
  obtain ⟨s1, hV⟩ := hV
  refine ⟨s1, ?_⟩
  refine q_ifz (q_dc k_PG_comesToBorder 2 rfl) rfl (fun h2 => ?_) (fun h2 => ?_)
  · have hV := hV.1 h2
    exact q_less (Nat.le_of_ble_eq_true rfl) (Nat.le_of_ble_eq_true rfl) (q_subk [0] rfl hV)
  · have hV := hV.2 h2
    refine q_run k_PG_comesToBorder 3 3 13 rfl ?_
    show q_K σ x0 = 4 ∧ q_G l cx M_PG_comesToBorder 0 0 0 0 13 [(0, .inr (.inr x0))] [.inl (23 : Int32), .inl (q_I σ x0 4)] σ R
    obtain ⟨s3, hV⟩ := hV
    refine ⟨s3, ?_⟩
    refine q_icmp (q_dc k_PG_comesToBorder 6 rfl) rfl (fun h4 => ?_) (fun h4 => ?_)
    · have hV := hV.1 h4
      refine q_run k_PG_comesToBorder 9 1 21 rfl ?_
      show q_G l cx M_PG_comesToBorder 0 0 0 0 21 [(0, .inr (.inr x0))] [.inl (0 : Int32)] σ R
      exact q_less (Nat.le_of_ble_eq_true rfl) (Nat.le_of_ble_eq_true rfl) (q_subk [0] rfl hV)
    · have hV := hV.2 h4
      exact q_less (Nat.le_of_ble_eq_true rfl) (Nat.le_of_ble_eq_true rfl) (q_subk [0] rfl hV)
def V_PL_takeTrial (x0 : Nat) (σ : q_S) (R : q_O → q_S → Prop) : Prop :=
  q_K σ x0 = 6 ∧ ∀ v1 : Nat, v1 = q_P σ x0 10 → q_K σ x0 = 6 ∧ q_K σ x0 = 6 ∧ ∀ σ3 : q_S, σ3 = q_wP σ x0 10 (q_P σ x0 11) → q_K σ3 x0 = 6 ∧ ∀ σ6 : q_S, σ6 = q_wP σ3 x0 11 v1 → R (.inl none) σ6
set_option maxRecDepth 100000 in
theorem t_PL_takeTrial {l : Launch} {cx : q_C} {x0 : Nat} {σ : q_S} {R : q_O → q_S → Prop} (hV : V_PL_takeTrial x0 σ R) : q_Ct l cx M_PL_takeTrial 0 0 0 0 [q_r x0] σ R := by
  refine q_Ct.of p_PL_takeTrial c_PL_takeTrial rfl (Nat.le_of_ble_eq_true rfl) ?_
  refine q_run k_PL_takeTrial 0 3 5 rfl ?_
  show q_K σ x0 = 6 ∧ q_G l cx M_PL_takeTrial 0 0 0 0 5 [(1, .inr (.inr (q_P σ x0 10))), (0, .inr (.inr x0))] [] σ R
  obtain ⟨s2, hV⟩ := hV
  refine ⟨s2, ?_⟩
  refine q_let (fun v1 => q_G l cx M_PL_takeTrial 0 0 0 0 5 [(1, .inr (.inr v1)), (0, .inr (.inr x0))] [] σ R) (q_P σ x0 10) (fun v1 e_v1 => ?_)
  have hV := hV v1 e_v1
  refine q_run k_PL_takeTrial 3 4 13 rfl ?_
  show q_K σ x0 = 6 ∧ q_K σ x0 = 6 ∧ q_G l cx M_PL_takeTrial 0 0 0 0 13 [(1, .inr (.inr v1)), (0, .inr (.inr x0))] [] (q_wP σ x0 10 (q_P σ x0 11)) R
  obtain ⟨s4, s5, hV⟩ := hV
  refine ⟨s4, s5, ?_⟩
  refine q_let (fun σ3 => q_G l cx M_PL_takeTrial 0 0 0 0 13 [(1, .inr (.inr v1)), (0, .inr (.inr x0))] [] σ3 R) (q_wP σ x0 10 (q_P σ x0 11)) (fun σ3 e_σ3 => ?_)
  have hV := hV σ3 e_σ3
  refine q_run k_PL_takeTrial 7 3 18 rfl ?_
  show q_K σ3 x0 = 6 ∧ q_G l cx M_PL_takeTrial 0 0 0 0 18 [(1, .inr (.inr v1)), (0, .inr (.inr x0))] [] (q_wP σ3 x0 11 v1) R
  obtain ⟨s7, hV⟩ := hV
  refine ⟨s7, ?_⟩
  refine q_let (fun σ6 => q_G l cx M_PL_takeTrial 0 0 0 0 18 [(1, .inr (.inr v1)), (0, .inr (.inr x0))] [] σ6 R) (q_wP σ3 x0 11 v1) (fun σ6 e_σ6 => ?_)
  have hV := hV σ6 e_σ6
  exact q_vreturn (q_dc k_PL_takeTrial 10 rfl) rfl hV
def V_PL_addCorner (x0 : Nat) (x1 : Int32) (x2 : Int32) (σ : q_S) (R : q_O → q_S → Prop) : Prop :=
  ∀ (P17 : q_S → Prop),
  (∀ (σ : q_S), (R (.inl (some (.inl (0 : Int32)))) σ) → P17 σ) →
  q_K σ x0 = 6 ∧ (((12 : Int32) ≤ (q_I σ x0 6) → P17  σ) ∧ (¬ ((12 : Int32) ≤ (q_I σ x0 6)) → q_K σ x0 = 6 ∧ (((q_I σ x0 7) < (4 : Int32) → q_K σ x0 = 6 ∧ q_K σ x0 = 6 ∧ q_K σ (q_P σ x0 4) = 1000 ∧ vp_in (q_I σ x0 6) (q_Z σ (q_P σ x0 4)) ∧ ∀ σ5 : q_S, σ5 = q_wI σ (q_P σ x0 4) (q_I σ x0 6).toNatClampNeg x1 → q_K σ5 x0 = 6 ∧ q_K σ5 x0 = 6 ∧ q_K σ5 (q_P σ5 x0 5) = 1000 ∧ vp_in (q_I σ5 x0 6) (q_Z σ5 (q_P σ5 x0 5)) ∧ ∀ σ10 : q_S, σ10 = q_wI σ5 (q_P σ5 x0 5) (q_I σ5 x0 6).toNatClampNeg x2 → q_K σ10 x0 = 6 ∧ q_K σ10 x0 = 6 ∧ ∀ σ15 : q_S, σ15 = q_wI σ10 x0 6 ((q_I σ10 x0 6) + (1 : Int32)) → R (.inl (some (.inl (1 : Int32)))) σ15) ∧ (¬ ((q_I σ x0 7) < (4 : Int32)) → P17  σ))))
set_option maxRecDepth 100000 in
theorem t_PL_addCorner {l : Launch} {cx : q_C} {x0 : Nat} {x1 : Int32} {x2 : Int32} {σ : q_S} {R : q_O → q_S → Prop} (hV : V_PL_addCorner x0 x1 x2 σ R) : q_Ct l cx M_PL_addCorner 0 0 0 0 [q_r x0, q_i x1, q_i x2] σ R := by
  refine q_Ct.of p_PL_addCorner c_PL_addCorner rfl (Nat.le_of_ble_eq_true rfl) ?_
  have hV := hV (fun (σ : q_S) => q_G l cx M_PL_addCorner 0 0 0 0 17 [] [] σ R)
  have hV := hV (by
      intro σ hV
      show q_G l cx M_PL_addCorner 0 0 0 0 17 [] [] σ R
      refine q_run k_PL_addCorner 8 1 18 rfl ?_
      show q_G l cx M_PL_addCorner 0 0 0 0 18 [] [.inl (0 : Int32)] σ R
      exact q_zreturn (q_dc k_PL_addCorner 9 rfl) rfl (by decide) hV)
  refine q_run k_PL_addCorner 0 3 6 rfl ?_
  show q_K σ x0 = 6 ∧ q_G l cx M_PL_addCorner 0 0 0 0 6 [(0, .inr (.inr x0)), (1, .inl x1), (2, .inl x2)] [.inl (12 : Int32), .inl (q_I σ x0 6)] σ R
  obtain ⟨s1, hV⟩ := hV
  refine ⟨s1, ?_⟩
  refine q_icmp (q_dc k_PL_addCorner 3 rfl) rfl (fun h2 => ?_) (fun h2 => ?_)
  · have hV := hV.1 h2
    exact q_less (Nat.le_of_ble_eq_true rfl) (Nat.le_of_ble_eq_true rfl) (q_subk [] rfl hV)
  · have hV := hV.2 h2
    refine q_run k_PL_addCorner 4 3 14 rfl ?_
    show q_K σ x0 = 6 ∧ q_G l cx M_PL_addCorner 0 0 0 0 14 [(0, .inr (.inr x0)), (1, .inl x1), (2, .inl x2)] [.inl (4 : Int32), .inl (q_I σ x0 7)] σ R
    obtain ⟨s3, hV⟩ := hV
    refine ⟨s3, ?_⟩
    refine q_icmp (q_dc k_PL_addCorner 7 rfl) rfl (fun h4 => ?_) (fun h4 => ?_)
    · have hV := hV.1 h4
      refine q_run k_PL_addCorner 10 6 29 rfl ?_
      show q_K σ x0 = 6 ∧ q_K σ x0 = 6 ∧ q_K σ (q_P σ x0 4) = 1000 ∧ vp_in (q_I σ x0 6) (q_Z σ (q_P σ x0 4)) ∧ q_G l cx M_PL_addCorner 0 0 0 0 29 [(0, .inr (.inr x0)), (1, .inl x1), (2, .inl x2)] [] (q_wI σ (q_P σ x0 4) (q_I σ x0 6).toNatClampNeg x1) R
      obtain ⟨s6, s7, s8, s9, hV⟩ := hV
      refine ⟨s6, s7, s8, s9, ?_⟩
      refine q_let (fun σ5 => q_G l cx M_PL_addCorner 0 0 0 0 29 [(0, .inr (.inr x0)), (1, .inl x1), (2, .inl x2)] [] σ5 R) (q_wI σ (q_P σ x0 4) (q_I σ x0 6).toNatClampNeg x1) (fun σ5 e_σ5 => ?_)
      have hV := hV σ5 e_σ5
      refine q_run k_PL_addCorner 16 6 39 rfl ?_
      show q_K σ5 x0 = 6 ∧ q_K σ5 x0 = 6 ∧ q_K σ5 (q_P σ5 x0 5) = 1000 ∧ vp_in (q_I σ5 x0 6) (q_Z σ5 (q_P σ5 x0 5)) ∧ q_G l cx M_PL_addCorner 0 0 0 0 39 [(0, .inr (.inr x0)), (1, .inl x1), (2, .inl x2)] [] (q_wI σ5 (q_P σ5 x0 5) (q_I σ5 x0 6).toNatClampNeg x2) R
      obtain ⟨s11, s12, s13, s14, hV⟩ := hV
      refine ⟨s11, s12, s13, s14, ?_⟩
      refine q_let (fun σ10 => q_G l cx M_PL_addCorner 0 0 0 0 39 [(0, .inr (.inr x0)), (1, .inl x1), (2, .inl x2)] [] σ10 R) (q_wI σ5 (q_P σ5 x0 5) (q_I σ5 x0 6).toNatClampNeg x2) (fun σ10 e_σ10 => ?_)
      have hV := hV σ10 e_σ10
      refine q_run k_PL_addCorner 22 6 49 rfl ?_
      show q_K σ10 x0 = 6 ∧ q_K σ10 x0 = 6 ∧ q_G l cx M_PL_addCorner 0 0 0 0 49 [(0, .inr (.inr x0)), (1, .inl x1), (2, .inl x2)] [] (q_wI σ10 x0 6 ((q_I σ10 x0 6) + (1 : Int32))) R
      obtain ⟨s16, s17, hV⟩ := hV
      refine ⟨s16, s17, ?_⟩
      refine q_let (fun σ15 => q_G l cx M_PL_addCorner 0 0 0 0 49 [(0, .inr (.inr x0)), (1, .inl x1), (2, .inl x2)] [] σ15 R) (q_wI σ10 x0 6 ((q_I σ10 x0 6) + (1 : Int32))) (fun σ15 e_σ15 => ?_)
      have hV := hV σ15 e_σ15
      refine q_run k_PL_addCorner 28 1 50 rfl ?_
      show q_G l cx M_PL_addCorner 0 0 0 0 50 [(0, .inr (.inr x0)), (1, .inl x1), (2, .inl x2)] [.inl (1 : Int32)] σ15 R
      exact q_zreturn (q_dc k_PL_addCorner 29 rfl) rfl (by decide) hV
    · have hV := hV.2 h4
      exact q_less (Nat.le_of_ble_eq_true rfl) (Nat.le_of_ble_eq_true rfl) (q_subk [] rfl hV)
def V_PL_turnLeftOf (x0 : Nat) (x1 : Int32) (x2 : Int32) (x3 : Int32) (x4 : Int32) (σ : q_S) (R : q_O → q_S → Prop) : Prop :=
  ∀ (P15 : Nat → Int32 → Int32 → Int32 → Int32 → Int32 → Int32 → q_S → Prop),
  ∀ (P90 : q_S → Prop),
  (∀ (x0 : Nat) (x1 : Int32) (x2 : Int32) (x3 : Int32) (x4 : Int32) (x5 : Int32) (x6 : Int32) (σ : q_S), (((x4 ≤ x6 → P90  σ) ∧ (¬ (x4 ≤ x6) → (((24 : Int32) ≤ x6 → P90  σ) ∧ (¬ ((24 : Int32) ≤ x6) → ∀ v3 : Int32, v3 = (((2 : Int32) * x1) * x5) + ((((2 : Int32) * (x6 - x2)) + (1 : Int32)) * (x3 - x1)) → ¬ x5 = 0 ∧ ∀ v5 : Int32, v5 = f_MT_floorDiv (v3 - (1 : Int32)) x5 → q_K σ x0 = 6 ∧ (q_K σ (q_P σ x0 3) = 1000 ∨ q_K σ (q_P σ x0 3) = 2000) ∧ vp_in x6 (q_Z σ (q_P σ x0 3)) ∧ ¬ (2 : Int32) = 0 ∧ q_K σ (q_P σ x0 3) = 1000 ∧ vp_in x6 (q_Z σ (q_P σ x0 3)) ∧ ∀ σ10 : q_S, σ10 = q_wI σ (q_P σ x0 3) x6.toNatClampNeg ((q_I σ (q_P σ x0 3) x6.toNatClampNeg) ^^^ (f_PF_span (0 : Int64) ((f_MT_floorDiv (v5 - (1 : Int32)) (2 : Int32)).toInt64))) → ∀ v13 : Int32, v13 = x6 + (1 : Int32) → P15 x0 x1 x2 x3 x4 x5 v13 σ10))))) → P15 x0 x1 x2 x3 x4 x5 x6 σ) →
  (∀ (σ : q_S), (R (.inl none) σ) → P90 σ) →
  ∀ v1 : Int32, v1 = x4 - x2 → (((0 : Int32) < v1 → P15 x0 x1 x2 x3 x4 v1 x2 σ) ∧ (¬ ((0 : Int32) < v1) → R (.inl none) σ))
set_option maxRecDepth 100000 in
theorem t_PL_turnLeftOf {l : Launch} {cx : q_C} {x0 : Nat} {x1 : Int32} {x2 : Int32} {x3 : Int32} {x4 : Int32} {σ : q_S} {R : q_O → q_S → Prop} (hV : V_PL_turnLeftOf x0 x1 x2 x3 x4 σ R) : q_Ct l cx M_PL_turnLeftOf 2 128 0 0 [q_r x0, q_i x1, q_i x2, q_i x3, q_i x4] σ R := by
  refine q_Ct.of p_PL_turnLeftOf c_PL_turnLeftOf rfl (Nat.le_of_ble_eq_true rfl) ?_
  have hV := hV (fun (x0 : Nat) (x1 : Int32) (x2 : Int32) (x3 : Int32) (x4 : Int32) (x5 : Int32) (x6 : Int32) (σ : q_S) => q_G l cx M_PL_turnLeftOf 2 128 0 0 15 [(0, .inr (.inr x0)), (1, .inl x1), (2, .inl x2), (3, .inl x3), (4, .inl x4), (5, .inl x5), (6, .inl x6)] [] σ R) (fun (σ : q_S) => q_G l cx M_PL_turnLeftOf 2 128 0 0 90 [] [] σ R)
  have hV := hV (by
      intro x0 x1 x2 x3 x4 x5 x6 σ hV
      show q_G l cx M_PL_turnLeftOf 2 128 0 0 15 [(0, .inr (.inr x0)), (1, .inl x1), (2, .inl x2), (3, .inl x3), (4, .inl x4), (5, .inl x5), (6, .inl x6)] [] σ R
      refine q_run k_PL_turnLeftOf 9 2 19 rfl ?_
      show q_G l cx M_PL_turnLeftOf 2 128 0 0 19 [(0, .inr (.inr x0)), (1, .inl x1), (2, .inl x2), (3, .inl x3), (4, .inl x4), (5, .inl x5), (6, .inl x6)] [.inl x4, .inl x6] σ R
      refine q_icmp (q_dc k_PL_turnLeftOf 11 rfl) rfl (fun h1 => ?_) (fun h1 => ?_)
      · have hV := hV.1 h1
        exact q_less (Nat.le_of_ble_eq_true rfl) (Nat.le_of_ble_eq_true rfl) (q_subk [] rfl hV)
      · have hV := hV.2 h1
        refine q_run k_PL_turnLeftOf 12 2 26 rfl ?_
        show q_G l cx M_PL_turnLeftOf 2 128 0 0 26 [(0, .inr (.inr x0)), (1, .inl x1), (2, .inl x2), (3, .inl x3), (4, .inl x4), (5, .inl x5), (6, .inl x6)] [.inl (24 : Int32), .inl x6] σ R
        refine q_icmp (q_dc k_PL_turnLeftOf 14 rfl) rfl (fun h2 => ?_) (fun h2 => ?_)
        · have hV := hV.1 h2
          exact q_less (Nat.le_of_ble_eq_true rfl) (Nat.le_of_ble_eq_true rfl) (q_subk [] rfl hV)
        · have hV := hV.2 h2
          refine q_run k_PL_turnLeftOf 15 18 50 rfl ?_
          show q_G l cx M_PL_turnLeftOf 2 128 0 0 50 [(7, .inl ((((2 : Int32) * x1) * x5) + ((((2 : Int32) * (x6 - x2)) + (1 : Int32)) * (x3 - x1)))), (0, .inr (.inr x0)), (1, .inl x1), (2, .inl x2), (3, .inl x3), (4, .inl x4), (5, .inl x5), (6, .inl x6)] [] σ R
          refine q_let (fun v3 => q_G l cx M_PL_turnLeftOf 2 128 0 0 50 [(7, .inl v3), (0, .inr (.inr x0)), (1, .inl x1), (2, .inl x2), (3, .inl x3), (4, .inl x4), (5, .inl x5), (6, .inl x6)] [] σ R) ((((2 : Int32) * x1) * x5) + ((((2 : Int32) * (x6 - x2)) + (1 : Int32)) * (x3 - x1))) (fun v3 e_v3 => ?_)
          have hV := hV v3 e_v3
          refine q_run k_PL_turnLeftOf 33 4 56 rfl ?_
          show q_G l cx M_PL_turnLeftOf 2 128 0 0 56 [(7, .inl v3), (0, .inr (.inr x0)), (1, .inl x1), (2, .inl x2), (3, .inl x3), (4, .inl x4), (5, .inl x5), (6, .inl x6)] [.inl x5, .inl (v3 - (1 : Int32))] σ R
          obtain ⟨s4, hV⟩ := hV
          refine q_callS (st := []) (t_MT_floorDiv (l := l) (cx := cx) (σ := σ) (v3 - (1 : Int32)) x5 s4) (q_dc k_PL_turnLeftOf 37 rfl) (Or.inl (List.mem_of_getElem? (i := 707) (by decide +kernel))) w_MT_floorDiv s_MT_floorDiv a_MT_floorDiv (q_wt (Nat.le_of_ble_eq_true rfl)) ⟨Nat.le_of_ble_eq_true rfl, Nat.le_of_ble_eq_true rfl⟩ (fun v9 τ9 q9 => ?_) (fun n9 τ9 q9 => by cases q9.1)
          obtain ⟨q8, q7⟩ := q9
          cases q8
          rw [q7]
          show q_G l cx M_PL_turnLeftOf 2 128 0 0 59 [(7, .inl v3), (0, .inr (.inr x0)), (1, .inl x1), (2, .inl x2), (3, .inl x3), (4, .inl x4), (5, .inl x5), (6, .inl x6)] [.inl (f_MT_floorDiv (v3 - (1 : Int32)) x5)] σ R
          refine q_run k_PL_turnLeftOf 38 1 61 rfl ?_
          show q_G l cx M_PL_turnLeftOf 2 128 0 0 61 [(8, .inl (f_MT_floorDiv (v3 - (1 : Int32)) x5)), (7, .inl v3), (0, .inr (.inr x0)), (1, .inl x1), (2, .inl x2), (3, .inl x3), (4, .inl x4), (5, .inl x5), (6, .inl x6)] [] σ R
          refine q_let (fun v5 => q_G l cx M_PL_turnLeftOf 2 128 0 0 61 [(8, .inl v5), (7, .inl v3), (0, .inr (.inr x0)), (1, .inl x1), (2, .inl x2), (3, .inl x3), (4, .inl x4), (5, .inl x5), (6, .inl x6)] [] σ R) (f_MT_floorDiv (v3 - (1 : Int32)) x5) (fun v5 e_v5 => ?_)
          have hV := hV v5 e_v5
          refine q_run k_PL_turnLeftOf 39 10 75 rfl ?_
          show q_K σ x0 = 6 ∧ (q_K σ (q_P σ x0 3) = 1000 ∨ q_K σ (q_P σ x0 3) = 2000) ∧ vp_in x6 (q_Z σ (q_P σ x0 3)) ∧ q_G l cx M_PL_turnLeftOf 2 128 0 0 75 [(8, .inl v5), (7, .inl v3), (0, .inr (.inr x0)), (1, .inl x1), (2, .inl x2), (3, .inl x3), (4, .inl x4), (5, .inl x5), (6, .inl x6)] [.inl (2 : Int32), .inl (v5 - (1 : Int32)), .inr (.inl (0 : Int64)), .inl (q_I σ (q_P σ x0 3) x6.toNatClampNeg), .inl x6, .inr (.inr (q_P σ x0 3))] σ R
          obtain ⟨s6, s7, s8, hV⟩ := hV
          refine ⟨s6, s7, s8, ?_⟩
          obtain ⟨s9, hV⟩ := hV
          refine q_callS (st := [.inr (.inl (0 : Int64)), .inl (q_I σ (q_P σ x0 3) x6.toNatClampNeg), .inl x6, .inr (.inr (q_P σ x0 3))]) (t_MT_floorDiv (l := l) (cx := cx) (σ := σ) (v5 - (1 : Int32)) (2 : Int32) s9) (q_dc k_PL_turnLeftOf 49 rfl) (Or.inl (List.mem_of_getElem? (i := 707) (by decide +kernel))) w_MT_floorDiv s_MT_floorDiv a_MT_floorDiv (q_wt (Nat.le_of_ble_eq_true rfl)) ⟨Nat.le_of_ble_eq_true rfl, Nat.le_of_ble_eq_true rfl⟩ (fun v9 τ9 q9 => ?_) (fun n9 τ9 q9 => by cases q9.1)
          obtain ⟨q8, q7⟩ := q9
          cases q8
          rw [q7]
          show q_G l cx M_PL_turnLeftOf 2 128 0 0 78 [(8, .inl v5), (7, .inl v3), (0, .inr (.inr x0)), (1, .inl x1), (2, .inl x2), (3, .inl x3), (4, .inl x4), (5, .inl x5), (6, .inl x6)] [.inl (f_MT_floorDiv (v5 - (1 : Int32)) (2 : Int32)), .inr (.inl (0 : Int64)), .inl (q_I σ (q_P σ x0 3) x6.toNatClampNeg), .inl x6, .inr (.inr (q_P σ x0 3))] σ R
          refine q_run k_PL_turnLeftOf 50 1 79 rfl ?_
          show q_G l cx M_PL_turnLeftOf 2 128 0 0 79 [(8, .inl v5), (7, .inl v3), (0, .inr (.inr x0)), (1, .inl x1), (2, .inl x2), (3, .inl x3), (4, .inl x4), (5, .inl x5), (6, .inl x6)] [.inr (.inl ((f_MT_floorDiv (v5 - (1 : Int32)) (2 : Int32)).toInt64)), .inr (.inl (0 : Int64)), .inl (q_I σ (q_P σ x0 3) x6.toNatClampNeg), .inl x6, .inr (.inr (q_P σ x0 3))] σ R
          refine q_callS (st := [.inl (q_I σ (q_P σ x0 3) x6.toNatClampNeg), .inl x6, .inr (.inr (q_P σ x0 3))]) (t_PF_span (l := l) (cx := cx) (σ := σ) (0 : Int64) ((f_MT_floorDiv (v5 - (1 : Int32)) (2 : Int32)).toInt64)) (q_dc k_PL_turnLeftOf 51 rfl) (Or.inr ⟨"PlaneFills", List.mem_of_getElem? (i := 17) (by decide +kernel)⟩) w_PF_span s_PF_span a_PF_span (q_wt (Nat.le_of_ble_eq_true rfl)) ⟨Nat.le_of_ble_eq_true rfl, Nat.le_of_ble_eq_true rfl⟩ (fun v9 τ9 q9 => ?_) (fun n9 τ9 q9 => by cases q9.1)
          obtain ⟨q8, q7⟩ := q9
          cases q8
          rw [q7]
          show q_G l cx M_PL_turnLeftOf 2 128 0 0 82 [(8, .inl v5), (7, .inl v3), (0, .inr (.inr x0)), (1, .inl x1), (2, .inl x2), (3, .inl x3), (4, .inl x4), (5, .inl x5), (6, .inl x6)] [.inl (f_PF_span (0 : Int64) ((f_MT_floorDiv (v5 - (1 : Int32)) (2 : Int32)).toInt64)), .inl (q_I σ (q_P σ x0 3) x6.toNatClampNeg), .inl x6, .inr (.inr (q_P σ x0 3))] σ R
          refine q_run k_PL_turnLeftOf 52 2 84 rfl ?_
          show q_K σ (q_P σ x0 3) = 1000 ∧ vp_in x6 (q_Z σ (q_P σ x0 3)) ∧ q_G l cx M_PL_turnLeftOf 2 128 0 0 84 [(8, .inl v5), (7, .inl v3), (0, .inr (.inr x0)), (1, .inl x1), (2, .inl x2), (3, .inl x3), (4, .inl x4), (5, .inl x5), (6, .inl x6)] [] (q_wI σ (q_P σ x0 3) x6.toNatClampNeg ((q_I σ (q_P σ x0 3) x6.toNatClampNeg) ^^^ (f_PF_span (0 : Int64) ((f_MT_floorDiv (v5 - (1 : Int32)) (2 : Int32)).toInt64)))) R
          obtain ⟨s11, s12, hV⟩ := hV
          refine ⟨s11, s12, ?_⟩
          refine q_let (fun σ10 => q_G l cx M_PL_turnLeftOf 2 128 0 0 84 [(8, .inl v5), (7, .inl v3), (0, .inr (.inr x0)), (1, .inl x1), (2, .inl x2), (3, .inl x3), (4, .inl x4), (5, .inl x5), (6, .inl x6)] [] σ10 R) (q_wI σ (q_P σ x0 3) x6.toNatClampNeg ((q_I σ (q_P σ x0 3) x6.toNatClampNeg) ^^^ (f_PF_span (0 : Int64) ((f_MT_floorDiv (v5 - (1 : Int32)) (2 : Int32)).toInt64)))) (fun σ10 e_σ10 => ?_)
          have hV := hV σ10 e_σ10
          refine q_run k_PL_turnLeftOf 54 1 87 rfl ?_
          show q_G l cx M_PL_turnLeftOf 2 128 0 0 87 [(6, .inl (x6 + (1 : Int32))), (8, .inl v5), (7, .inl v3), (0, .inr (.inr x0)), (1, .inl x1), (2, .inl x2), (3, .inl x3), (4, .inl x4), (5, .inl x5)] [] σ10 R
          refine q_let (fun v13 => q_G l cx M_PL_turnLeftOf 2 128 0 0 87 [(6, .inl v13), (8, .inl v5), (7, .inl v3), (0, .inr (.inr x0)), (1, .inl x1), (2, .inl x2), (3, .inl x3), (4, .inl x4), (5, .inl x5)] [] σ10 R) (x6 + (1 : Int32)) (fun v13 e_v13 => ?_)
          have hV := hV v13 e_v13
          refine q_goto (q_dc k_PL_turnLeftOf 55 rfl) rfl ?_
          exact q_less (Nat.le_of_ble_eq_true rfl) (Nat.le_of_ble_eq_true rfl) (q_subk [3, 4, 5, 6, 7, 8, 0] rfl hV))
  have hV := hV (by
      intro σ hV
      show q_G l cx M_PL_turnLeftOf 2 128 0 0 90 [] [] σ R
      exact q_vreturn (q_dc k_PL_turnLeftOf 56 rfl) rfl hV)
  refine q_run k_PL_turnLeftOf 0 4 6 rfl ?_
  show q_G l cx M_PL_turnLeftOf 2 128 0 0 6 [(5, .inl (x4 - x2)), (0, .inr (.inr x0)), (1, .inl x1), (2, .inl x2), (3, .inl x3), (4, .inl x4)] [] σ R
  refine q_let (fun v1 => q_G l cx M_PL_turnLeftOf 2 128 0 0 6 [(5, .inl v1), (0, .inr (.inr x0)), (1, .inl x1), (2, .inl x2), (3, .inl x3), (4, .inl x4)] [] σ R) (x4 - x2) (fun v1 e_v1 => ?_)
  have hV := hV v1 e_v1
  refine q_run k_PL_turnLeftOf 4 1 8 rfl ?_
  show q_G l cx M_PL_turnLeftOf 2 128 0 0 8 [(5, .inl v1), (0, .inr (.inr x0)), (1, .inl x1), (2, .inl x2), (3, .inl x3), (4, .inl x4)] [.inl v1] σ R
  refine q_ifz (q_dc k_PL_turnLeftOf 5 rfl) rfl (fun h2 => ?_) (fun h2 => ?_)
  · have hV := hV.1 h2
    refine q_run k_PL_turnLeftOf 7 2 15 rfl ?_
    show q_G l cx M_PL_turnLeftOf 2 128 0 0 15 [(6, .inl x2), (5, .inl v1), (0, .inr (.inr x0)), (1, .inl x1), (2, .inl x2), (3, .inl x3), (4, .inl x4)] [] σ R
    exact q_less (Nat.le_of_ble_eq_true rfl) (Nat.le_of_ble_eq_true rfl) (q_subk [2, 3, 4, 5, 6, 1, 0] rfl hV)
  · have hV := hV.2 h2
    exact q_vreturn (q_dc k_PL_turnLeftOf 6 rfl) rfl hV
def V_PL_closeRing (x0 : Nat) (σ : q_S) (R : q_O → q_S → Prop) : Prop :=
  ∀ (P19 : Nat → Int32 → Int32 → q_S → Prop),
  ∀ (P101 : Nat → Int32 → q_S → Prop),
  (∀ (x0 : Nat) (x1 : Int32) (x2 : Int32) (σ : q_S), (q_K σ x0 = 6 ∧ (((q_I σ x0 6) ≤ x2 → q_K σ x0 = 6 ∧ ∀ σ3 : q_S, σ3 = q_wI σ x0 6 (0 : Int32) → q_K σ3 x0 = 6 ∧ q_K σ3 x0 = 6 ∧ ∀ σ5 : q_S, σ5 = q_wI σ3 x0 7 ((q_I σ3 x0 7) + (1 : Int32)) → R (.inl (some (.inl (1 : Int32)))) σ5) ∧ (¬ ((q_I σ x0 6) ≤ x2) → q_K σ x0 = 6 ∧ (q_K σ (q_P σ x0 5) = 1000 ∨ q_K σ (q_P σ x0 5) = 2000) ∧ vp_in x1 (q_Z σ (q_P σ x0 5)) ∧ q_K σ x0 = 6 ∧ (q_K σ (q_P σ x0 5) = 1000 ∨ q_K σ (q_P σ x0 5) = 2000) ∧ vp_in x2 (q_Z σ (q_P σ x0 5)) ∧ (((q_I σ (q_P σ x0 5) x2.toNatClampNeg) ≤ (q_I σ (q_P σ x0 5) x1.toNatClampNeg) → q_K σ x0 = 6 ∧ (q_K σ (q_P σ x0 4) = 1000 ∨ q_K σ (q_P σ x0 4) = 2000) ∧ vp_in x2 (q_Z σ (q_P σ x0 4)) ∧ q_K σ x0 = 6 ∧ (q_K σ (q_P σ x0 5) = 1000 ∨ q_K σ (q_P σ x0 5) = 2000) ∧ vp_in x2 (q_Z σ (q_P σ x0 5)) ∧ q_K σ x0 = 6 ∧ (q_K σ (q_P σ x0 4) = 1000 ∨ q_K σ (q_P σ x0 4) = 2000) ∧ vp_in x1 (q_Z σ (q_P σ x0 4)) ∧ q_K σ x0 = 6 ∧ (q_K σ (q_P σ x0 5) = 1000 ∨ q_K σ (q_P σ x0 5) = 2000) ∧ vp_in x1 (q_Z σ (q_P σ x0 5)) ∧ q_K σ x0 = 6 ∧ V_PL_turnLeftOf x0 (q_I σ (q_P σ x0 4) x2.toNatClampNeg) (q_I σ (q_P σ x0 5) x2.toNatClampNeg) (q_I σ (q_P σ x0 4) x1.toNatClampNeg) (q_I σ (q_P σ x0 5) x1.toNatClampNeg) σ (q_cv (fun σ31 => P101 x0 x2 σ31) (fun n9 σ9 => R (.inr n9) σ9))) ∧ (¬ ((q_I σ (q_P σ x0 5) x2.toNatClampNeg) ≤ (q_I σ (q_P σ x0 5) x1.toNatClampNeg)) → q_K σ x0 = 6 ∧ (q_K σ (q_P σ x0 4) = 1000 ∨ q_K σ (q_P σ x0 4) = 2000) ∧ vp_in x1 (q_Z σ (q_P σ x0 4)) ∧ q_K σ x0 = 6 ∧ (q_K σ (q_P σ x0 5) = 1000 ∨ q_K σ (q_P σ x0 5) = 2000) ∧ vp_in x1 (q_Z σ (q_P σ x0 5)) ∧ q_K σ x0 = 6 ∧ (q_K σ (q_P σ x0 4) = 1000 ∨ q_K σ (q_P σ x0 4) = 2000) ∧ vp_in x2 (q_Z σ (q_P σ x0 4)) ∧ q_K σ x0 = 6 ∧ (q_K σ (q_P σ x0 5) = 1000 ∨ q_K σ (q_P σ x0 5) = 2000) ∧ vp_in x2 (q_Z σ (q_P σ x0 5)) ∧ q_K σ x0 = 6 ∧ V_PL_turnLeftOf x0 (q_I σ (q_P σ x0 4) x1.toNatClampNeg) (q_I σ (q_P σ x0 5) x1.toNatClampNeg) (q_I σ (q_P σ x0 4) x2.toNatClampNeg) (q_I σ (q_P σ x0 5) x2.toNatClampNeg) σ (q_cv (fun σ48 => P101 x0 x2 σ48) (fun n9 σ9 => R (.inr n9) σ9))))))) → P19 x0 x1 x2 σ) →
  (∀ (x0 : Nat) (x2 : Int32) (σ : q_S), (∀ v1 : Int32, v1 = x2 + (1 : Int32) → P19 x0 x2 v1 σ) → P101 x0 x2 σ) →
  q_K σ x0 = 6 ∧ (((3 : Int32) ≤ (q_I σ x0 6) → q_K σ x0 = 6 ∧ ∀ v3 : Int32, v3 = (q_I σ x0 6) - (1 : Int32) → P19 x0 v3 (0 : Int32) σ) ∧ (¬ ((3 : Int32) ≤ (q_I σ x0 6)) → R (.inl (some (.inl (0 : Int32)))) σ))
set_option maxRecDepth 100000 in
theorem t_PL_closeRing {l : Launch} {cx : q_C} {x0 : Nat} {σ : q_S} {R : q_O → q_S → Prop} (hV : V_PL_closeRing x0 σ R) : q_Ct l cx M_PL_closeRing 3 192 0 0 [q_r x0] σ R := by
  refine q_Ct.of p_PL_closeRing c_PL_closeRing rfl (Nat.le_of_ble_eq_true rfl) ?_
  have hV := hV (fun (x0 : Nat) (x1 : Int32) (x2 : Int32) (σ : q_S) => q_G l cx M_PL_closeRing 3 192 0 0 19 [(0, .inr (.inr x0)), (1, .inl x1), (2, .inl x2)] [] σ R) (fun (x0 : Nat) (x2 : Int32) (σ : q_S) => q_G l cx M_PL_closeRing 3 192 0 0 101 [(0, .inr (.inr x0)), (2, .inl x2)] [] σ R)
  have hV := hV (by
      intro x0 x1 x2 σ hV
      show q_G l cx M_PL_closeRing 3 192 0 0 19 [(0, .inr (.inr x0)), (1, .inl x1), (2, .inl x2)] [] σ R
      refine q_run k_PL_closeRing 13 3 24 rfl ?_
      show q_K σ x0 = 6 ∧ q_G l cx M_PL_closeRing 3 192 0 0 24 [(0, .inr (.inr x0)), (1, .inl x1), (2, .inl x2)] [.inl (q_I σ x0 6), .inl x2] σ R
      obtain ⟨s1, hV⟩ := hV
      refine ⟨s1, ?_⟩
      refine q_icmp (q_dc k_PL_closeRing 16 rfl) rfl (fun h2 => ?_) (fun h2 => ?_)
      · have hV := hV.1 h2
        refine q_run k_PL_closeRing 67 3 114 rfl ?_
        show q_K σ x0 = 6 ∧ q_G l cx M_PL_closeRing 3 192 0 0 114 [(0, .inr (.inr x0)), (1, .inl x1), (2, .inl x2)] [] (q_wI σ x0 6 (0 : Int32)) R
        obtain ⟨s4, hV⟩ := hV
        refine ⟨s4, ?_⟩
        refine q_let (fun σ3 => q_G l cx M_PL_closeRing 3 192 0 0 114 [(0, .inr (.inr x0)), (1, .inl x1), (2, .inl x2)] [] σ3 R) (q_wI σ x0 6 (0 : Int32)) (fun σ3 e_σ3 => ?_)
        have hV := hV σ3 e_σ3
        refine q_run k_PL_closeRing 70 6 124 rfl ?_
        show q_K σ3 x0 = 6 ∧ q_K σ3 x0 = 6 ∧ q_G l cx M_PL_closeRing 3 192 0 0 124 [(0, .inr (.inr x0)), (1, .inl x1), (2, .inl x2)] [] (q_wI σ3 x0 7 ((q_I σ3 x0 7) + (1 : Int32))) R
        obtain ⟨s6, s7, hV⟩ := hV
        refine ⟨s6, s7, ?_⟩
        refine q_let (fun σ5 => q_G l cx M_PL_closeRing 3 192 0 0 124 [(0, .inr (.inr x0)), (1, .inl x1), (2, .inl x2)] [] σ5 R) (q_wI σ3 x0 7 ((q_I σ3 x0 7) + (1 : Int32))) (fun σ5 e_σ5 => ?_)
        have hV := hV σ5 e_σ5
        refine q_run k_PL_closeRing 76 1 125 rfl ?_
        show q_G l cx M_PL_closeRing 3 192 0 0 125 [(0, .inr (.inr x0)), (1, .inl x1), (2, .inl x2)] [.inl (1 : Int32)] σ5 R
        exact q_zreturn (q_dc k_PL_closeRing 77 rfl) rfl (by decide) hV
      · have hV := hV.2 h2
        refine q_run k_PL_closeRing 17 8 39 rfl ?_
        show q_K σ x0 = 6 ∧ (q_K σ (q_P σ x0 5) = 1000 ∨ q_K σ (q_P σ x0 5) = 2000) ∧ vp_in x1 (q_Z σ (q_P σ x0 5)) ∧ q_K σ x0 = 6 ∧ (q_K σ (q_P σ x0 5) = 1000 ∨ q_K σ (q_P σ x0 5) = 2000) ∧ vp_in x2 (q_Z σ (q_P σ x0 5)) ∧ q_G l cx M_PL_closeRing 3 192 0 0 39 [(0, .inr (.inr x0)), (1, .inl x1), (2, .inl x2)] [.inl (q_I σ (q_P σ x0 5) x2.toNatClampNeg), .inl (q_I σ (q_P σ x0 5) x1.toNatClampNeg)] σ R
        obtain ⟨s8, s9, s10, s11, s12, s13, hV⟩ := hV
        refine ⟨s8, s9, s10, s11, s12, s13, ?_⟩
        refine q_icmp (q_dc k_PL_closeRing 25 rfl) rfl (fun h14 => ?_) (fun h14 => ?_)
        · have hV := hV.1 h14
          refine q_run k_PL_closeRing 45 17 98 rfl ?_
          show q_K σ x0 = 6 ∧ (q_K σ (q_P σ x0 4) = 1000 ∨ q_K σ (q_P σ x0 4) = 2000) ∧ vp_in x2 (q_Z σ (q_P σ x0 4)) ∧ q_K σ x0 = 6 ∧ (q_K σ (q_P σ x0 5) = 1000 ∨ q_K σ (q_P σ x0 5) = 2000) ∧ vp_in x2 (q_Z σ (q_P σ x0 5)) ∧ q_K σ x0 = 6 ∧ (q_K σ (q_P σ x0 4) = 1000 ∨ q_K σ (q_P σ x0 4) = 2000) ∧ vp_in x1 (q_Z σ (q_P σ x0 4)) ∧ q_K σ x0 = 6 ∧ (q_K σ (q_P σ x0 5) = 1000 ∨ q_K σ (q_P σ x0 5) = 2000) ∧ vp_in x1 (q_Z σ (q_P σ x0 5)) ∧ q_G l cx M_PL_closeRing 3 192 0 0 98 [(0, .inr (.inr x0)), (1, .inl x1), (2, .inl x2)] [.inl (q_I σ (q_P σ x0 5) x1.toNatClampNeg), .inl (q_I σ (q_P σ x0 4) x1.toNatClampNeg), .inl (q_I σ (q_P σ x0 5) x2.toNatClampNeg), .inl (q_I σ (q_P σ x0 4) x2.toNatClampNeg), .inr (.inr x0)] σ R
          obtain ⟨s15, s16, s17, s18, s19, s20, s21, s22, s23, s24, s25, s26, hV⟩ := hV
          refine ⟨s15, s16, s17, s18, s19, s20, s21, s22, s23, s24, s25, s26, ?_⟩
          obtain ⟨s27, hV⟩ := hV
          refine q_callV (st := []) (as := [.inl (q_I σ (q_P σ x0 4) x2.toNatClampNeg), .inl (q_I σ (q_P σ x0 5) x2.toNatClampNeg), .inl (q_I σ (q_P σ x0 4) x1.toNatClampNeg), .inl (q_I σ (q_P σ x0 5) x1.toNatClampNeg)]) (t_PL_turnLeftOf (l := l) (cx := cx)  hV) (q_dc k_PL_closeRing 62 rfl) (Or.inl (List.mem_of_getElem? (i := 704) (by decide +kernel))) w_PL_turnLeftOf n_PL_turnLeftOf (ci := 5) rfl e_PL_turnLeftOf a_PL_turnLeftOf (q_wt (Nat.le_of_ble_eq_true rfl)) ⟨Nat.le_of_ble_eq_true rfl, Nat.le_of_ble_eq_true rfl⟩ s27 (fun v9 τ9 q9 => ?_) (fun n9 τ9 q9 => q_T.leave rfl q9)
          obtain ⟨rfl, hV⟩ := q_cv_elim q9
          clear q9
          have hV := hV
          revert hV
          generalize τ9 = σ31
          intro hV
          show q_G l cx M_PL_closeRing 3 192 0 0 101 [(0, .inr (.inr x0)), (1, .inl x1), (2, .inl x2)] [] σ31 R
          exact q_less (Nat.le_of_ble_eq_true rfl) (Nat.le_of_ble_eq_true rfl) (q_subk [0, 2] rfl hV)
        · have hV := hV.2 h14
          refine q_run k_PL_closeRing 26 17 67 rfl ?_
          show q_K σ x0 = 6 ∧ (q_K σ (q_P σ x0 4) = 1000 ∨ q_K σ (q_P σ x0 4) = 2000) ∧ vp_in x1 (q_Z σ (q_P σ x0 4)) ∧ q_K σ x0 = 6 ∧ (q_K σ (q_P σ x0 5) = 1000 ∨ q_K σ (q_P σ x0 5) = 2000) ∧ vp_in x1 (q_Z σ (q_P σ x0 5)) ∧ q_K σ x0 = 6 ∧ (q_K σ (q_P σ x0 4) = 1000 ∨ q_K σ (q_P σ x0 4) = 2000) ∧ vp_in x2 (q_Z σ (q_P σ x0 4)) ∧ q_K σ x0 = 6 ∧ (q_K σ (q_P σ x0 5) = 1000 ∨ q_K σ (q_P σ x0 5) = 2000) ∧ vp_in x2 (q_Z σ (q_P σ x0 5)) ∧ q_G l cx M_PL_closeRing 3 192 0 0 67 [(0, .inr (.inr x0)), (1, .inl x1), (2, .inl x2)] [.inl (q_I σ (q_P σ x0 5) x2.toNatClampNeg), .inl (q_I σ (q_P σ x0 4) x2.toNatClampNeg), .inl (q_I σ (q_P σ x0 5) x1.toNatClampNeg), .inl (q_I σ (q_P σ x0 4) x1.toNatClampNeg), .inr (.inr x0)] σ R
          obtain ⟨s32, s33, s34, s35, s36, s37, s38, s39, s40, s41, s42, s43, hV⟩ := hV
          refine ⟨s32, s33, s34, s35, s36, s37, s38, s39, s40, s41, s42, s43, ?_⟩
          obtain ⟨s44, hV⟩ := hV
          refine q_callV (st := []) (as := [.inl (q_I σ (q_P σ x0 4) x1.toNatClampNeg), .inl (q_I σ (q_P σ x0 5) x1.toNatClampNeg), .inl (q_I σ (q_P σ x0 4) x2.toNatClampNeg), .inl (q_I σ (q_P σ x0 5) x2.toNatClampNeg)]) (t_PL_turnLeftOf (l := l) (cx := cx)  hV) (q_dc k_PL_closeRing 43 rfl) (Or.inl (List.mem_of_getElem? (i := 704) (by decide +kernel))) w_PL_turnLeftOf n_PL_turnLeftOf (ci := 5) rfl e_PL_turnLeftOf a_PL_turnLeftOf (q_wt (Nat.le_of_ble_eq_true rfl)) ⟨Nat.le_of_ble_eq_true rfl, Nat.le_of_ble_eq_true rfl⟩ s44 (fun v9 τ9 q9 => ?_) (fun n9 τ9 q9 => q_T.leave rfl q9)
          obtain ⟨rfl, hV⟩ := q_cv_elim q9
          clear q9
          have hV := hV
          revert hV
          generalize τ9 = σ48
          intro hV
          show q_G l cx M_PL_closeRing 3 192 0 0 70 [(0, .inr (.inr x0)), (1, .inl x1), (2, .inl x2)] [] σ48 R
          refine q_goto (q_dc k_PL_closeRing 44 rfl) rfl ?_
          exact q_less (Nat.le_of_ble_eq_true rfl) (Nat.le_of_ble_eq_true rfl) (q_subk [0, 2] rfl hV))
  have hV := hV (by
      intro x0 x2 σ hV
      show q_G l cx M_PL_closeRing 3 192 0 0 101 [(0, .inr (.inr x0)), (2, .inl x2)] [] σ R
      refine q_run k_PL_closeRing 63 3 106 rfl ?_
      show q_G l cx M_PL_closeRing 3 192 0 0 106 [(2, .inl (x2 + (1 : Int32))), (1, .inl x2), (0, .inr (.inr x0))] [] σ R
      refine q_let (fun v1 => q_G l cx M_PL_closeRing 3 192 0 0 106 [(2, .inl v1), (1, .inl x2), (0, .inr (.inr x0))] [] σ R) (x2 + (1 : Int32)) (fun v1 e_v1 => ?_)
      have hV := hV v1 e_v1
      refine q_goto (q_dc k_PL_closeRing 66 rfl) rfl ?_
      exact q_less (Nat.le_of_ble_eq_true rfl) (Nat.le_of_ble_eq_true rfl) (q_subk [2, 1, 0] rfl hV))
  refine q_run k_PL_closeRing 0 3 5 rfl ?_
  show q_K σ x0 = 6 ∧ q_G l cx M_PL_closeRing 3 192 0 0 5 [(0, .inr (.inr x0))] [.inl (3 : Int32), .inl (q_I σ x0 6)] σ R
  obtain ⟨s1, hV⟩ := hV
  refine ⟨s1, ?_⟩
  refine q_icmp (q_dc k_PL_closeRing 3 rfl) rfl (fun h2 => ?_) (fun h2 => ?_)
  · have hV := hV.1 h2
    refine q_run k_PL_closeRing 6 5 17 rfl ?_
    show q_K σ x0 = 6 ∧ q_G l cx M_PL_closeRing 3 192 0 0 17 [(1, .inl ((q_I σ x0 6) - (1 : Int32))), (0, .inr (.inr x0))] [] σ R
    obtain ⟨s4, hV⟩ := hV
    refine ⟨s4, ?_⟩
    refine q_let (fun v3 => q_G l cx M_PL_closeRing 3 192 0 0 17 [(1, .inl v3), (0, .inr (.inr x0))] [] σ R) ((q_I σ x0 6) - (1 : Int32)) (fun v3 e_v3 => ?_)
    have hV := hV v3 e_v3
    refine q_run k_PL_closeRing 11 2 19 rfl ?_
    show q_G l cx M_PL_closeRing 3 192 0 0 19 [(2, .inl (0 : Int32)), (1, .inl v3), (0, .inr (.inr x0))] [] σ R
    exact q_less (Nat.le_of_ble_eq_true rfl) (Nat.le_of_ble_eq_true rfl) (q_subk [2, 1, 0] rfl hV)
  · have hV := hV.2 h2
    refine q_run k_PL_closeRing 4 1 9 rfl ?_
    show q_G l cx M_PL_closeRing 3 192 0 0 9 [(0, .inr (.inr x0))] [.inl (0 : Int32)] σ R
    exact q_zreturn (q_dc k_PL_closeRing 5 rfl) rfl (by decide) hV
