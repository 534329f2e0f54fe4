/-! PURE LEAVES (by program: wip/whole/tools/gen20.py): each answers its decision tree f_.., the store stays -/
abbrev q_pu (v : Option q_V) (σ : q_S) : q_O → q_S → Prop := fun o τ => o = .inl v ∧ τ = σ
def f_MT_max (a : Int32) (b : Int32) : Int32 := if a < b then b else a
set_option maxRecDepth 100000 in
theorem t_MT_max {l : Launch} {cx : q_C} {σ : q_S} (a : Int32) (b : Int32) : q_Ct l cx M_MT_max 0 0 0 0 [q_i a, q_i b] σ (q_pu (some (q_i (f_MT_max a b))) σ) := by
  refine q_Ct.of p_MT_max c_MT_max rfl (Nat.le_of_ble_eq_true rfl) ?_
  refine q_run k_MT_max 0 2 2 rfl ?_
  show q_G l cx M_MT_max 0 0 0 0 2 [(0, .inl a), (1, .inl b)] [.inl b, .inl a] σ _
  refine q_icmp (q_dc k_MT_max 2 rfl) rfl (fun h1 => ?_) (fun h1 => ?_)
  · have h1 : a < b := h1
    refine q_run k_MT_max 5 1 10 rfl ?_
    show q_G l cx M_MT_max 0 0 0 0 10 [(0, .inl a), (1, .inl b)] [.inl b] σ _
    exact q_ireturn (q_dc k_MT_max 6 rfl) rfl ⟨congrArg (fun z9 => Sum.inl (some (Sum.inl z9))) (by unfold f_MT_max; rw [if_pos h1]), rfl⟩
  · have h1 : ¬ (a < b) := h1
    refine q_run k_MT_max 3 1 6 rfl ?_
    show q_G l cx M_MT_max 0 0 0 0 6 [(0, .inl a), (1, .inl b)] [.inl a] σ _
    refine q_goto (q_dc k_MT_max 4 rfl) rfl ?_
    exact q_ireturn (q_dc k_MT_max 6 rfl) rfl ⟨congrArg (fun z9 => Sum.inl (some (Sum.inl z9))) (by unfold f_MT_max; rw [if_neg h1]), rfl⟩
def f_MT_min (a : Int32) (b : Int32) : Int32 := if b < a then b else a
set_option maxRecDepth 100000 in
theorem t_MT_min {l : Launch} {cx : q_C} {σ : q_S} (a : Int32) (b : Int32) : q_Ct l cx M_MT_min 0 0 0 0 [q_i a, q_i b] σ (q_pu (some (q_i (f_MT_min a b))) σ) := by
  refine q_Ct.of p_MT_min c_MT_min rfl (Nat.le_of_ble_eq_true rfl) ?_
  refine q_run k_MT_min 0 2 2 rfl ?_
  show q_G l cx M_MT_min 0 0 0 0 2 [(0, .inl a), (1, .inl b)] [.inl b, .inl a] σ _
  refine q_icmp (q_dc k_MT_min 2 rfl) rfl (fun h1 => ?_) (fun h1 => ?_)
  · have h1 : b < a := h1
    refine q_run k_MT_min 5 1 10 rfl ?_
    show q_G l cx M_MT_min 0 0 0 0 10 [(0, .inl a), (1, .inl b)] [.inl b] σ _
    exact q_ireturn (q_dc k_MT_min 6 rfl) rfl ⟨congrArg (fun z9 => Sum.inl (some (Sum.inl z9))) (by unfold f_MT_min; rw [if_pos h1]), rfl⟩
  · have h1 : ¬ (b < a) := h1
    refine q_run k_MT_min 3 1 6 rfl ?_
    show q_G l cx M_MT_min 0 0 0 0 6 [(0, .inl a), (1, .inl b)] [.inl a] σ _
    refine q_goto (q_dc k_MT_min 4 rfl) rfl ?_
    exact q_ireturn (q_dc k_MT_min 6 rfl) rfl ⟨congrArg (fun z9 => Sum.inl (some (Sum.inl z9))) (by unfold f_MT_min; rw [if_neg h1]), rfl⟩
def f_MT_max2 (a : Int64) (b : Int64) : Int64 := if (lg_cmp a b) < (0 : Int32) then b else a
set_option maxRecDepth 100000 in
theorem t_MT_max2 {l : Launch} {cx : q_C} {σ : q_S} (a : Int64) (b : Int64) : q_Ct l cx M_MT_max2 0 0 0 0 [q_l a, q_l b] σ (q_pu (some (q_l (f_MT_max2 a b))) σ) := by
  refine q_Ct.of p_MT_max2 c_MT_max2 rfl (Nat.le_of_ble_eq_true rfl) ?_
  refine q_run k_MT_max2 0 3 3 rfl ?_
  show q_G l cx M_MT_max2 0 0 0 0 3 [(0, .inr (.inl a)), (2, .inr (.inl b))] [.inl (lg_cmp a b)] σ _
  refine q_ifz (q_dc k_MT_max2 3 rfl) rfl (fun h1 => ?_) (fun h1 => ?_)
  · have h1 : (lg_cmp a b) < (0 : Int32) := h1
    refine q_run k_MT_max2 6 1 11 rfl ?_
    show q_G l cx M_MT_max2 0 0 0 0 11 [(0, .inr (.inl a)), (2, .inr (.inl b))] [.inr (.inl b)] σ _
    exact q_lreturn (q_dc k_MT_max2 7 rfl) rfl ⟨congrArg (fun z9 => Sum.inl (some (Sum.inr (Sum.inl z9)))) (by unfold f_MT_max2; rw [if_pos h1]), rfl⟩
  · have h1 : ¬ ((lg_cmp a b) < (0 : Int32)) := h1
    refine q_run k_MT_max2 4 1 7 rfl ?_
    show q_G l cx M_MT_max2 0 0 0 0 7 [(0, .inr (.inl a)), (2, .inr (.inl b))] [.inr (.inl a)] σ _
    refine q_goto (q_dc k_MT_max2 5 rfl) rfl ?_
    exact q_lreturn (q_dc k_MT_max2 7 rfl) rfl ⟨congrArg (fun z9 => Sum.inl (some (Sum.inr (Sum.inl z9)))) (by unfold f_MT_max2; rw [if_neg h1]), rfl⟩
def f_MT_min2 (a : Int64) (b : Int64) : Int64 := if (0 : Int32) < (lg_cmp a b) then b else a
set_option maxRecDepth 100000 in
theorem t_MT_min2 {l : Launch} {cx : q_C} {σ : q_S} (a : Int64) (b : Int64) : q_Ct l cx M_MT_min2 0 0 0 0 [q_l a, q_l b] σ (q_pu (some (q_l (f_MT_min2 a b))) σ) := by
  refine q_Ct.of p_MT_min2 c_MT_min2 rfl (Nat.le_of_ble_eq_true rfl) ?_
  refine q_run k_MT_min2 0 3 3 rfl ?_
  show q_G l cx M_MT_min2 0 0 0 0 3 [(0, .inr (.inl a)), (2, .inr (.inl b))] [.inl (lg_cmp a b)] σ _
  refine q_ifz (q_dc k_MT_min2 3 rfl) rfl (fun h1 => ?_) (fun h1 => ?_)
  · have h1 : (0 : Int32) < (lg_cmp a b) := h1
    refine q_run k_MT_min2 6 1 11 rfl ?_
    show q_G l cx M_MT_min2 0 0 0 0 11 [(0, .inr (.inl a)), (2, .inr (.inl b))] [.inr (.inl b)] σ _
    exact q_lreturn (q_dc k_MT_min2 7 rfl) rfl ⟨congrArg (fun z9 => Sum.inl (some (Sum.inr (Sum.inl z9)))) (by unfold f_MT_min2; rw [if_pos h1]), rfl⟩
  · have h1 : ¬ ((0 : Int32) < (lg_cmp a b)) := h1
    refine q_run k_MT_min2 4 1 7 rfl ?_
    show q_G l cx M_MT_min2 0 0 0 0 7 [(0, .inr (.inl a)), (2, .inr (.inl b))] [.inr (.inl a)] σ _
    refine q_goto (q_dc k_MT_min2 5 rfl) rfl ?_
    exact q_lreturn (q_dc k_MT_min2 7 rfl) rfl ⟨congrArg (fun z9 => Sum.inl (some (Sum.inr (Sum.inl z9)))) (by unfold f_MT_min2; rw [if_neg h1]), rfl⟩
def f_MT_floorDiv (a : Int32) (b : Int32) : Int32 := if (0 : Int32) ≤ (a ^^^ b) then (a / b) else (if ((a / b) * b) = a then (a / b) else ((a / b) - (1 : Int32)))
set_option maxRecDepth 100000 in
theorem t_MT_floorDiv {l : Launch} {cx : q_C} {σ : q_S} (a : Int32) (b : Int32) (hb : ¬ b = 0) : q_Ct l cx M_MT_floorDiv 0 0 0 0 [q_i a, q_i b] σ (q_pu (some (q_i (f_MT_floorDiv a b))) σ) := by
  refine q_Ct.of p_MT_floorDiv c_MT_floorDiv rfl (Nat.le_of_ble_eq_true rfl) ?_
  refine q_run k_MT_floorDiv 0 7 7 rfl ?_
  show ¬ b = 0 ∧ q_G l cx M_MT_floorDiv 0 0 0 0 7 [(2, .inl (a / b)), (0, .inl a), (1, .inl b)] [.inl (a ^^^ b)] σ _
  refine ⟨hb, ?_⟩
  refine q_ifz (q_dc k_MT_floorDiv 7 rfl) rfl (fun h1 => ?_) (fun h1 => ?_)
  · have h1 : (0 : Int32) ≤ (a ^^^ b) := h1
    refine q_run k_MT_floorDiv 17 1 22 rfl ?_
    show q_G l cx M_MT_floorDiv 0 0 0 0 22 [(2, .inl (a / b)), (0, .inl a), (1, .inl b)] [.inl (a / b)] σ _
    exact q_ireturn (q_dc k_MT_floorDiv 18 rfl) rfl ⟨congrArg (fun z9 => Sum.inl (some (Sum.inl z9))) (by unfold f_MT_floorDiv; rw [if_pos h1]), rfl⟩
  · have h1 : ¬ ((0 : Int32) ≤ (a ^^^ b)) := h1
    refine q_run k_MT_floorDiv 8 4 14 rfl ?_
    show q_G l cx M_MT_floorDiv 0 0 0 0 14 [(2, .inl (a / b)), (0, .inl a), (1, .inl b)] [.inl a, .inl ((a / b) * b)] σ _
    refine q_icmp (q_dc k_MT_floorDiv 12 rfl) rfl (fun h2 => ?_) (fun h2 => ?_)
    · have h2 : ((a / b) * b) = a := h2
      refine q_run k_MT_floorDiv 17 1 22 rfl ?_
      show q_G l cx M_MT_floorDiv 0 0 0 0 22 [(2, .inl (a / b)), (0, .inl a), (1, .inl b)] [.inl (a / b)] σ _
      exact q_ireturn (q_dc k_MT_floorDiv 18 rfl) rfl ⟨congrArg (fun z9 => Sum.inl (some (Sum.inl z9))) (by unfold f_MT_floorDiv; rw [if_neg h1, if_pos h2]), rfl⟩
    · have h2 : ¬ (((a / b) * b) = a) := h2
      refine q_run k_MT_floorDiv 13 3 20 rfl ?_
      show q_G l cx M_MT_floorDiv 0 0 0 0 20 [(2, .inl (a / b)), (0, .inl a), (1, .inl b)] [.inl ((a / b) - (1 : Int32))] σ _
      exact q_ireturn (q_dc k_MT_floorDiv 16 rfl) rfl ⟨congrArg (fun z9 => Sum.inl (some (Sum.inl z9))) (by unfold f_MT_floorDiv; rw [if_neg h1, if_neg h2]), rfl⟩
def f_IN_bitCount (a : Int32) : Int32 := (((((((a - ((q_ushr a (1 : Int32)) &&& (1431655765 : Int32))) &&& (858993459 : Int32)) + ((q_ushr (a - ((q_ushr a (1 : Int32)) &&& (1431655765 : Int32))) (2 : Int32)) &&& (858993459 : Int32))) + (q_ushr (((a - ((q_ushr a (1 : Int32)) &&& (1431655765 : Int32))) &&& (858993459 : Int32)) + ((q_ushr (a - ((q_ushr a (1 : Int32)) &&& (1431655765 : Int32))) (2 : Int32)) &&& (858993459 : Int32))) (4 : Int32))) &&& (252645135 : Int32)) + (q_ushr (((((a - ((q_ushr a (1 : Int32)) &&& (1431655765 : Int32))) &&& (858993459 : Int32)) + ((q_ushr (a - ((q_ushr a (1 : Int32)) &&& (1431655765 : Int32))) (2 : Int32)) &&& (858993459 : Int32))) + (q_ushr (((a - ((q_ushr a (1 : Int32)) &&& (1431655765 : Int32))) &&& (858993459 : Int32)) + ((q_ushr (a - ((q_ushr a (1 : Int32)) &&& (1431655765 : Int32))) (2 : Int32)) &&& (858993459 : Int32))) (4 : Int32))) &&& (252645135 : Int32)) (8 : Int32))) + (q_ushr ((((((a - ((q_ushr a (1 : Int32)) &&& (1431655765 : Int32))) &&& (858993459 : Int32)) + ((q_ushr (a - ((q_ushr a (1 : Int32)) &&& (1431655765 : Int32))) (2 : Int32)) &&& (858993459 : Int32))) + (q_ushr (((a - ((q_ushr a (1 : Int32)) &&& (1431655765 : Int32))) &&& (858993459 : Int32)) + ((q_ushr (a - ((q_ushr a (1 : Int32)) &&& (1431655765 : Int32))) (2 : Int32)) &&& (858993459 : Int32))) (4 : Int32))) &&& (252645135 : Int32)) + (q_ushr (((((a - ((q_ushr a (1 : Int32)) &&& (1431655765 : Int32))) &&& (858993459 : Int32)) + ((q_ushr (a - ((q_ushr a (1 : Int32)) &&& (1431655765 : Int32))) (2 : Int32)) &&& (858993459 : Int32))) + (q_ushr (((a - ((q_ushr a (1 : Int32)) &&& (1431655765 : Int32))) &&& (858993459 : Int32)) + ((q_ushr (a - ((q_ushr a (1 : Int32)) &&& (1431655765 : Int32))) (2 : Int32)) &&& (858993459 : Int32))) (4 : Int32))) &&& (252645135 : Int32)) (8 : Int32))) (16 : Int32))) &&& (63 : Int32)
set_option maxRecDepth 100000 in
theorem t_IN_bitCount {l : Launch} {cx : q_C} {σ : q_S} (a : Int32) : q_Ct l cx M_IN_bitCount 0 0 0 0 [q_i a] σ (q_pu (some (q_i (f_IN_bitCount a))) σ) := by
  refine q_Ct.of p_IN_bitCount c_IN_bitCount rfl (Nat.le_of_ble_eq_true rfl) ?_
  refine q_run k_IN_bitCount 0 41 52 rfl ?_
  show q_G l cx M_IN_bitCount 0 0 0 0 52 [(0, .inl (((((((a - ((q_ushr a (1 : Int32)) &&& (1431655765 : Int32))) &&& (858993459 : Int32)) + ((q_ushr (a - ((q_ushr a (1 : Int32)) &&& (1431655765 : Int32))) (2 : Int32)) &&& (858993459 : Int32))) + (q_ushr (((a - ((q_ushr a (1 : Int32)) &&& (1431655765 : Int32))) &&& (858993459 : Int32)) + ((q_ushr (a - ((q_ushr a (1 : Int32)) &&& (1431655765 : Int32))) (2 : Int32)) &&& (858993459 : Int32))) (4 : Int32))) &&& (252645135 : Int32)) + (q_ushr (((((a - ((q_ushr a (1 : Int32)) &&& (1431655765 : Int32))) &&& (858993459 : Int32)) + ((q_ushr (a - ((q_ushr a (1 : Int32)) &&& (1431655765 : Int32))) (2 : Int32)) &&& (858993459 : Int32))) + (q_ushr (((a - ((q_ushr a (1 : Int32)) &&& (1431655765 : Int32))) &&& (858993459 : Int32)) + ((q_ushr (a - ((q_ushr a (1 : Int32)) &&& (1431655765 : Int32))) (2 : Int32)) &&& (858993459 : Int32))) (4 : Int32))) &&& (252645135 : Int32)) (8 : Int32))) + (q_ushr ((((((a - ((q_ushr a (1 : Int32)) &&& (1431655765 : Int32))) &&& (858993459 : Int32)) + ((q_ushr (a - ((q_ushr a (1 : Int32)) &&& (1431655765 : Int32))) (2 : Int32)) &&& (858993459 : Int32))) + (q_ushr (((a - ((q_ushr a (1 : Int32)) &&& (1431655765 : Int32))) &&& (858993459 : Int32)) + ((q_ushr (a - ((q_ushr a (1 : Int32)) &&& (1431655765 : Int32))) (2 : Int32)) &&& (858993459 : Int32))) (4 : Int32))) &&& (252645135 : Int32)) + (q_ushr (((((a - ((q_ushr a (1 : Int32)) &&& (1431655765 : Int32))) &&& (858993459 : Int32)) + ((q_ushr (a - ((q_ushr a (1 : Int32)) &&& (1431655765 : Int32))) (2 : Int32)) &&& (858993459 : Int32))) + (q_ushr (((a - ((q_ushr a (1 : Int32)) &&& (1431655765 : Int32))) &&& (858993459 : Int32)) + ((q_ushr (a - ((q_ushr a (1 : Int32)) &&& (1431655765 : Int32))) (2 : Int32)) &&& (858993459 : Int32))) (4 : Int32))) &&& (252645135 : Int32)) (8 : Int32))) (16 : Int32))))] [.inl ((((((((a - ((q_ushr a (1 : Int32)) &&& (1431655765 : Int32))) &&& (858993459 : Int32)) + ((q_ushr (a - ((q_ushr a (1 : Int32)) &&& (1431655765 : Int32))) (2 : Int32)) &&& (858993459 : Int32))) + (q_ushr (((a - ((q_ushr a (1 : Int32)) &&& (1431655765 : Int32))) &&& (858993459 : Int32)) + ((q_ushr (a - ((q_ushr a (1 : Int32)) &&& (1431655765 : Int32))) (2 : Int32)) &&& (858993459 : Int32))) (4 : Int32))) &&& (252645135 : Int32)) + (q_ushr (((((a - ((q_ushr a (1 : Int32)) &&& (1431655765 : Int32))) &&& (858993459 : Int32)) + ((q_ushr (a - ((q_ushr a (1 : Int32)) &&& (1431655765 : Int32))) (2 : Int32)) &&& (858993459 : Int32))) + (q_ushr (((a - ((q_ushr a (1 : Int32)) &&& (1431655765 : Int32))) &&& (858993459 : Int32)) + ((q_ushr (a - ((q_ushr a (1 : Int32)) &&& (1431655765 : Int32))) (2 : Int32)) &&& (858993459 : Int32))) (4 : Int32))) &&& (252645135 : Int32)) (8 : Int32))) + (q_ushr ((((((a - ((q_ushr a (1 : Int32)) &&& (1431655765 : Int32))) &&& (858993459 : Int32)) + ((q_ushr (a - ((q_ushr a (1 : Int32)) &&& (1431655765 : Int32))) (2 : Int32)) &&& (858993459 : Int32))) + (q_ushr (((a - ((q_ushr a (1 : Int32)) &&& (1431655765 : Int32))) &&& (858993459 : Int32)) + ((q_ushr (a - ((q_ushr a (1 : Int32)) &&& (1431655765 : Int32))) (2 : Int32)) &&& (858993459 : Int32))) (4 : Int32))) &&& (252645135 : Int32)) + (q_ushr (((((a - ((q_ushr a (1 : Int32)) &&& (1431655765 : Int32))) &&& (858993459 : Int32)) + ((q_ushr (a - ((q_ushr a (1 : Int32)) &&& (1431655765 : Int32))) (2 : Int32)) &&& (858993459 : Int32))) + (q_ushr (((a - ((q_ushr a (1 : Int32)) &&& (1431655765 : Int32))) &&& (858993459 : Int32)) + ((q_ushr (a - ((q_ushr a (1 : Int32)) &&& (1431655765 : Int32))) (2 : Int32)) &&& (858993459 : Int32))) (4 : Int32))) &&& (252645135 : Int32)) (8 : Int32))) (16 : Int32))) &&& (63 : Int32))] σ _
  exact q_ireturn (q_dc k_IN_bitCount 41 rfl) rfl ⟨congrArg (fun z9 => Sum.inl (some (Sum.inl z9))) (by unfold f_IN_bitCount; rfl), rfl⟩
def f_PF_span (a : Int64) (b : Int64) : Int32 := if (lg_cmp (f_MT_max2 (0 : Int64) a) (f_MT_min2 (31 : Int64) b)) ≤ (0 : Int32) then (((-1 : Int32) <<< (((f_MT_max2 (0 : Int64) a).toInt32) &&& 31)) &&& (q_ushr (-1 : Int32) (((31 : Int64) - (f_MT_min2 (31 : Int64) b)).toInt32))) else (0 : Int32)
set_option maxRecDepth 100000 in
theorem t_PF_span {l : Launch} {cx : q_C} {σ : q_S} (a : Int64) (b : Int64) : q_Ct l cx M_PF_span 1 64 0 0 [q_l a, q_l b] σ (q_pu (some (q_i (f_PF_span a b))) σ) := by
  refine q_Ct.of p_PF_span c_PF_span rfl (Nat.le_of_ble_eq_true rfl) ?_
  refine q_run k_PF_span 0 2 2 rfl ?_
  show q_G l cx M_PF_span 1 64 0 0 2 [(0, .inr (.inl a)), (2, .inr (.inl b))] [.inr (.inl a), .inr (.inl (0 : Int64))] σ _
  refine q_callS (st := []) (t_MT_max2 (l := l) (cx := cx) (σ := σ) (0 : Int64) a) (q_dc k_PF_span 2 rfl) (Or.inl (List.mem_of_getElem? (i := 203) (by decide +kernel))) w_MT_max2 s_MT_max2 a_MT_max2 (q_wt (Nat.le_of_ble_eq_true rfl)) ⟨Nat.le_of_ble_eq_true rfl, Nat.le_of_ble_eq_true rfl⟩ (fun v9 τ9 q9 => ?_) (fun n9 τ9 q9 => by cases q9.1)
  obtain ⟨q8, q7⟩ := q9
  cases q8
  rw [q7]
  show q_G l cx M_PF_span 1 64 0 0 5 [(0, .inr (.inl a)), (2, .inr (.inl b))] [.inr (.inl (f_MT_max2 (0 : Int64) a))] σ _
  refine q_run k_PF_span 3 3 11 rfl ?_
  show q_G l cx M_PF_span 1 64 0 0 11 [(4, .inr (.inl (f_MT_max2 (0 : Int64) a))), (0, .inr (.inl a)), (2, .inr (.inl b))] [.inr (.inl b), .inr (.inl (31 : Int64))] σ _
  refine q_callS (st := []) (t_MT_min2 (l := l) (cx := cx) (σ := σ) (31 : Int64) b) (q_dc k_PF_span 6 rfl) (Or.inl (List.mem_of_getElem? (i := 207) (by decide +kernel))) w_MT_min2 s_MT_min2 a_MT_min2 (q_wt (Nat.le_of_ble_eq_true rfl)) ⟨Nat.le_of_ble_eq_true rfl, Nat.le_of_ble_eq_true rfl⟩ (fun v9 τ9 q9 => ?_) (fun n9 τ9 q9 => by cases q9.1)
  obtain ⟨q8, q7⟩ := q9
  cases q8
  rw [q7]
  show q_G l cx M_PF_span 1 64 0 0 14 [(4, .inr (.inl (f_MT_max2 (0 : Int64) a))), (0, .inr (.inl a)), (2, .inr (.inl b))] [.inr (.inl (f_MT_min2 (31 : Int64) b))] σ _
  refine q_run k_PF_span 7 4 21 rfl ?_
  show q_G l cx M_PF_span 1 64 0 0 21 [(6, .inr (.inl (f_MT_min2 (31 : Int64) b))), (4, .inr (.inl (f_MT_max2 (0 : Int64) a))), (0, .inr (.inl a)), (2, .inr (.inl b))] [.inl (lg_cmp (f_MT_max2 (0 : Int64) a) (f_MT_min2 (31 : Int64) b))] σ _
  refine q_ifz (q_dc k_PF_span 11 rfl) rfl (fun h1 => ?_) (fun h1 => ?_)
  · have h1 : (lg_cmp (f_MT_max2 (0 : Int64) a) (f_MT_min2 (31 : Int64) b)) ≤ (0 : Int32) := h1
    refine q_run k_PF_span 14 11 41 rfl ?_
    show q_G l cx M_PF_span 1 64 0 0 41 [(6, .inr (.inl (f_MT_min2 (31 : Int64) b))), (4, .inr (.inl (f_MT_max2 (0 : Int64) a))), (0, .inr (.inl a)), (2, .inr (.inl b))] [.inl (((-1 : Int32) <<< (((f_MT_max2 (0 : Int64) a).toInt32) &&& 31)) &&& (q_ushr (-1 : Int32) (((31 : Int64) - (f_MT_min2 (31 : Int64) b)).toInt32)))] σ _
    exact q_ireturn (q_dc k_PF_span 25 rfl) rfl ⟨congrArg (fun z9 => Sum.inl (some (Sum.inl z9))) (by unfold f_PF_span; rw [if_pos h1]), rfl⟩
  · have h1 : ¬ ((lg_cmp (f_MT_max2 (0 : Int64) a) (f_MT_min2 (31 : Int64) b)) ≤ (0 : Int32)) := h1
    refine q_run k_PF_span 12 1 25 rfl ?_
    show q_G l cx M_PF_span 1 64 0 0 25 [(6, .inr (.inl (f_MT_min2 (31 : Int64) b))), (4, .inr (.inl (f_MT_max2 (0 : Int64) a))), (0, .inr (.inl a)), (2, .inr (.inl b))] [.inl (0 : Int32)] σ _
    exact q_ireturn (q_dc k_PF_span 13 rfl) rfl ⟨congrArg (fun z9 => Sum.inl (some (Sum.inl z9))) (by unfold f_PF_span; rw [if_neg h1]), rfl⟩
def f_PF_onBoard (a : Int64) (b : Int64) : Int32 := if (lg_cmp a (0 : Int64)) < (0 : Int32) then (0 : Int32) else (if (0 : Int32) ≤ (lg_cmp a (32 : Int64)) then (0 : Int32) else (if (lg_cmp b (0 : Int64)) < (0 : Int32) then (0 : Int32) else (if (0 : Int32) ≤ (lg_cmp b (24 : Int64)) then (0 : Int32) else (1 : Int32))))
set_option maxRecDepth 100000 in
theorem t_PF_onBoard {l : Launch} {cx : q_C} {σ : q_S} (a : Int64) (b : Int64) : q_Ct l cx M_PF_onBoard 0 0 0 0 [q_l a, q_l b] σ (q_pu (some (q_i (f_PF_onBoard a b))) σ) := by
  refine q_Ct.of p_PF_onBoard c_PF_onBoard rfl (Nat.le_of_ble_eq_true rfl) ?_
  refine q_run k_PF_onBoard 0 3 3 rfl ?_
  show q_G l cx M_PF_onBoard 0 0 0 0 3 [(0, .inr (.inl a)), (2, .inr (.inl b))] [.inl (lg_cmp a (0 : Int64))] σ _
  refine q_ifz (q_dc k_PF_onBoard 3 rfl) rfl (fun h1 => ?_) (fun h1 => ?_)
  · have h1 : (lg_cmp a (0 : Int64)) < (0 : Int32) := h1
    refine q_run k_PF_onBoard 18 1 33 rfl ?_
    show q_G l cx M_PF_onBoard 0 0 0 0 33 [(0, .inr (.inl a)), (2, .inr (.inl b))] [.inl (0 : Int32)] σ _
    exact q_zreturn (q_dc k_PF_onBoard 19 rfl) rfl (by decide) ⟨congrArg (fun z9 => Sum.inl (some (Sum.inl z9))) (by unfold f_PF_onBoard; rw [if_pos h1]), rfl⟩
  · have h1 : ¬ ((lg_cmp a (0 : Int64)) < (0 : Int32)) := h1
    refine q_run k_PF_onBoard 4 3 11 rfl ?_
    show q_G l cx M_PF_onBoard 0 0 0 0 11 [(0, .inr (.inl a)), (2, .inr (.inl b))] [.inl (lg_cmp a (32 : Int64))] σ _
    refine q_ifz (q_dc k_PF_onBoard 7 rfl) rfl (fun h2 => ?_) (fun h2 => ?_)
    · have h2 : (0 : Int32) ≤ (lg_cmp a (32 : Int64)) := h2
      refine q_run k_PF_onBoard 18 1 33 rfl ?_
      show q_G l cx M_PF_onBoard 0 0 0 0 33 [(0, .inr (.inl a)), (2, .inr (.inl b))] [.inl (0 : Int32)] σ _
      exact q_zreturn (q_dc k_PF_onBoard 19 rfl) rfl (by decide) ⟨congrArg (fun z9 => Sum.inl (some (Sum.inl z9))) (by unfold f_PF_onBoard; rw [if_neg h1, if_pos h2]), rfl⟩
    · have h2 : ¬ ((0 : Int32) ≤ (lg_cmp a (32 : Int64))) := h2
      refine q_run k_PF_onBoard 8 3 17 rfl ?_
      show q_G l cx M_PF_onBoard 0 0 0 0 17 [(0, .inr (.inl a)), (2, .inr (.inl b))] [.inl (lg_cmp b (0 : Int64))] σ _
      refine q_ifz (q_dc k_PF_onBoard 11 rfl) rfl (fun h3 => ?_) (fun h3 => ?_)
      · have h3 : (lg_cmp b (0 : Int64)) < (0 : Int32) := h3
        refine q_run k_PF_onBoard 18 1 33 rfl ?_
        show q_G l cx M_PF_onBoard 0 0 0 0 33 [(0, .inr (.inl a)), (2, .inr (.inl b))] [.inl (0 : Int32)] σ _
        exact q_zreturn (q_dc k_PF_onBoard 19 rfl) rfl (by decide) ⟨congrArg (fun z9 => Sum.inl (some (Sum.inl z9))) (by unfold f_PF_onBoard; rw [if_neg h1, if_neg h2, if_pos h3]), rfl⟩
      · have h3 : ¬ ((lg_cmp b (0 : Int64)) < (0 : Int32)) := h3
        refine q_run k_PF_onBoard 12 3 25 rfl ?_
        show q_G l cx M_PF_onBoard 0 0 0 0 25 [(0, .inr (.inl a)), (2, .inr (.inl b))] [.inl (lg_cmp b (24 : Int64))] σ _
        refine q_ifz (q_dc k_PF_onBoard 15 rfl) rfl (fun h4 => ?_) (fun h4 => ?_)
        · have h4 : (0 : Int32) ≤ (lg_cmp b (24 : Int64)) := h4
          refine q_run k_PF_onBoard 18 1 33 rfl ?_
          show q_G l cx M_PF_onBoard 0 0 0 0 33 [(0, .inr (.inl a)), (2, .inr (.inl b))] [.inl (0 : Int32)] σ _
          exact q_zreturn (q_dc k_PF_onBoard 19 rfl) rfl (by decide) ⟨congrArg (fun z9 => Sum.inl (some (Sum.inl z9))) (by unfold f_PF_onBoard; rw [if_neg h1, if_neg h2, if_neg h3, if_pos h4]), rfl⟩
        · have h4 : ¬ ((0 : Int32) ≤ (lg_cmp b (24 : Int64))) := h4
          refine q_run k_PF_onBoard 16 1 29 rfl ?_
          show q_G l cx M_PF_onBoard 0 0 0 0 29 [(0, .inr (.inl a)), (2, .inr (.inl b))] [.inl (1 : Int32)] σ _
          refine q_goto (q_dc k_PF_onBoard 17 rfl) rfl ?_
          exact q_zreturn (q_dc k_PF_onBoard 19 rfl) rfl (by decide) ⟨congrArg (fun z9 => Sum.inl (some (Sum.inl z9))) (by unfold f_PF_onBoard; rw [if_neg h1, if_neg h2, if_neg h3, if_neg h4]), rfl⟩
def f_PP_middleX (σ : q_S) (a : Nat) : Int32 := (q_I σ a 2) + (((q_I σ a 4) - (1 : Int32)) / (2 : Int32))
set_option maxRecDepth 100000 in
theorem t_PP_middleX {l : Launch} {cx : q_C} {σ : q_S} (a : Nat) (hK : q_K σ a = 5) : q_Ct l cx M_PP_middleX 0 0 0 0 [q_r a] σ (q_pu (some (q_i (f_PP_middleX σ a))) σ) := by
  refine q_Ct.of p_PP_middleX c_PP_middleX rfl (Nat.le_of_ble_eq_true rfl) ?_
  refine q_run k_PP_middleX 0 9 13 rfl ?_
  show q_K σ a = 5 ∧ q_K σ a = 5 ∧ ¬ (2 : Int32) = 0 ∧ q_G l cx M_PP_middleX 0 0 0 0 13 [(0, .inr (.inr a))] [.inl ((q_I σ a 2) + (((q_I σ a 4) - (1 : Int32)) / (2 : Int32)))] σ _
  refine ⟨hK, hK, by decide, ?_⟩
  exact q_ireturn (q_dc k_PP_middleX 9 rfl) rfl ⟨congrArg (fun z9 => Sum.inl (some (Sum.inl z9))) (by unfold f_PP_middleX; rfl), rfl⟩
def f_PP_middleY (σ : q_S) (a : Nat) : Int32 := (q_I σ a 3) + (((q_I σ a 5) - (1 : Int32)) / (2 : Int32))
set_option maxRecDepth 100000 in
theorem t_PP_middleY {l : Launch} {cx : q_C} {σ : q_S} (a : Nat) (hK : q_K σ a = 5) : q_Ct l cx M_PP_middleY 0 0 0 0 [q_r a] σ (q_pu (some (q_i (f_PP_middleY σ a))) σ) := by
  refine q_Ct.of p_PP_middleY c_PP_middleY rfl (Nat.le_of_ble_eq_true rfl) ?_
  refine q_run k_PP_middleY 0 9 13 rfl ?_
  show q_K σ a = 5 ∧ q_K σ a = 5 ∧ ¬ (2 : Int32) = 0 ∧ q_G l cx M_PP_middleY 0 0 0 0 13 [(0, .inr (.inr a))] [.inl ((q_I σ a 3) + (((q_I σ a 5) - (1 : Int32)) / (2 : Int32)))] σ _
  refine ⟨hK, hK, by decide, ?_⟩
  exact q_ireturn (q_dc k_PP_middleY 9 rfl) rfl ⟨congrArg (fun z9 => Sum.inl (some (Sum.inl z9))) (by unfold f_PP_middleY; rfl), rfl⟩
def f_PP_besideX (σ : q_S) (a : Nat) (k : Int32) : Int32 := if ¬ k = (0 : Int32) then (if ¬ k = (2 : Int32) then (f_PP_middleX σ a) else ((q_I σ a 2) - (1 : Int32))) else ((q_I σ a 2) + (q_I σ a 4))
set_option maxRecDepth 100000 in
theorem t_PP_besideX {l : Launch} {cx : q_C} {σ : q_S} (a : Nat) (k : Int32) (hK : q_K σ a = 5) : q_Ct l cx M_PP_besideX 1 64 0 0 [q_r a, q_i k] σ (q_pu (some (q_i (f_PP_besideX σ a k))) σ) := by
  refine q_Ct.of p_PP_besideX c_PP_besideX rfl (Nat.le_of_ble_eq_true rfl) ?_
  refine q_run k_PP_besideX 0 1 1 rfl ?_
  show q_G l cx M_PP_besideX 1 64 0 0 1 [(0, .inr (.inr a)), (1, .inl k)] [.inl k] σ _
  refine q_ifz (q_dc k_PP_besideX 1 rfl) rfl (fun h1 => ?_) (fun h1 => ?_)
  · have h1 : ¬ k = (0 : Int32) := h1
    refine q_run k_PP_besideX 8 2 18 rfl ?_
    show q_G l cx M_PP_besideX 1 64 0 0 18 [(0, .inr (.inr a)), (1, .inl k)] [.inl (2 : Int32), .inl k] σ _
    refine q_icmp (q_dc k_PP_besideX 10 rfl) rfl (fun h2 => ?_) (fun h2 => ?_)
    · have h2 : ¬ k = (2 : Int32) := h2
      refine q_run k_PP_besideX 16 1 31 rfl ?_
      show q_G l cx M_PP_besideX 1 64 0 0 31 [(0, .inr (.inr a)), (1, .inl k)] [.inr (.inr a)] σ _
      refine q_callV (st := []) (as := []) (t_PP_middleX (l := l) (cx := cx) (σ := σ) a (by assumption)) (q_dc k_PP_besideX 17 rfl) (Or.inl (List.mem_of_getElem? (i := 223) (by decide +kernel))) w_PP_middleX n_PP_middleX (ci := 4) rfl e_PP_middleX a_PP_middleX (q_wt (Nat.le_of_ble_eq_true rfl)) ⟨Nat.le_of_ble_eq_true rfl, Nat.le_of_ble_eq_true rfl⟩ hK (fun v9 τ9 q9 => ?_) (fun n9 τ9 q9 => by cases q9.1)
      obtain ⟨q8, q7⟩ := q9
      cases q8
      rw [q7]
      show q_G l cx M_PP_besideX 1 64 0 0 34 [(0, .inr (.inr a)), (1, .inl k)] [.inl (f_PP_middleX σ a)] σ _
      exact q_ireturn (q_dc k_PP_besideX 18 rfl) rfl ⟨congrArg (fun z9 => Sum.inl (some (Sum.inl z9))) (by unfold f_PP_besideX; rw [if_pos h1, if_pos h2]), rfl⟩
    · have h2 : ¬ (¬ k = (2 : Int32)) := h2
      refine q_run k_PP_besideX 11 4 27 rfl ?_
      show q_K σ a = 5 ∧ q_G l cx M_PP_besideX 1 64 0 0 27 [(0, .inr (.inr a)), (1, .inl k)] [.inl ((q_I σ a 2) - (1 : Int32))] σ _
      refine ⟨hK, ?_⟩
      refine q_goto (q_dc k_PP_besideX 15 rfl) rfl ?_
      exact q_ireturn (q_dc k_PP_besideX 18 rfl) rfl ⟨congrArg (fun z9 => Sum.inl (some (Sum.inl z9))) (by unfold f_PP_besideX; rw [if_pos h1, if_neg h2]), rfl⟩
  · have h1 : ¬ (¬ k = (0 : Int32)) := h1
    refine q_run k_PP_besideX 2 5 13 rfl ?_
    show q_K σ a = 5 ∧ q_K σ a = 5 ∧ q_G l cx M_PP_besideX 1 64 0 0 13 [(0, .inr (.inr a)), (1, .inl k)] [.inl ((q_I σ a 2) + (q_I σ a 4))] σ _
    refine ⟨hK, hK, ?_⟩
    refine q_goto (q_dc k_PP_besideX 7 rfl) rfl ?_
    exact q_ireturn (q_dc k_PP_besideX 18 rfl) rfl ⟨congrArg (fun z9 => Sum.inl (some (Sum.inl z9))) (by unfold f_PP_besideX; rw [if_neg h1]), rfl⟩
def f_PP_besideY (σ : q_S) (a : Nat) (k : Int32) : Int32 := if ¬ k = (1 : Int32) then (if ¬ k = (3 : Int32) then (f_PP_middleY σ a) else ((q_I σ a 3) - (1 : Int32))) else ((q_I σ a 3) + (q_I σ a 5))
set_option maxRecDepth 100000 in
theorem t_PP_besideY {l : Launch} {cx : q_C} {σ : q_S} (a : Nat) (k : Int32) (hK : q_K σ a = 5) : q_Ct l cx M_PP_besideY 1 64 0 0 [q_r a, q_i k] σ (q_pu (some (q_i (f_PP_besideY σ a k))) σ) := by
  refine q_Ct.of p_PP_besideY c_PP_besideY rfl (Nat.le_of_ble_eq_true rfl) ?_
  refine q_run k_PP_besideY 0 2 2 rfl ?_
  show q_G l cx M_PP_besideY 1 64 0 0 2 [(0, .inr (.inr a)), (1, .inl k)] [.inl (1 : Int32), .inl k] σ _
  refine q_icmp (q_dc k_PP_besideY 2 rfl) rfl (fun h1 => ?_) (fun h1 => ?_)
  · have h1 : ¬ k = (1 : Int32) := h1
    refine q_run k_PP_besideY 9 2 19 rfl ?_
    show q_G l cx M_PP_besideY 1 64 0 0 19 [(0, .inr (.inr a)), (1, .inl k)] [.inl (3 : Int32), .inl k] σ _
    refine q_icmp (q_dc k_PP_besideY 11 rfl) rfl (fun h2 => ?_) (fun h2 => ?_)
    · have h2 : ¬ k = (3 : Int32) := h2
      refine q_run k_PP_besideY 17 1 32 rfl ?_
      show q_G l cx M_PP_besideY 1 64 0 0 32 [(0, .inr (.inr a)), (1, .inl k)] [.inr (.inr a)] σ _
      refine q_callV (st := []) (as := []) (t_PP_middleY (l := l) (cx := cx) (σ := σ) a (by assumption)) (q_dc k_PP_besideY 18 rfl) (Or.inl (List.mem_of_getElem? (i := 217) (by decide +kernel))) w_PP_middleY n_PP_middleY (ci := 4) rfl e_PP_middleY a_PP_middleY (q_wt (Nat.le_of_ble_eq_true rfl)) ⟨Nat.le_of_ble_eq_true rfl, Nat.le_of_ble_eq_true rfl⟩ hK (fun v9 τ9 q9 => ?_) (fun n9 τ9 q9 => by cases q9.1)
      obtain ⟨q8, q7⟩ := q9
      cases q8
      rw [q7]
      show q_G l cx M_PP_besideY 1 64 0 0 35 [(0, .inr (.inr a)), (1, .inl k)] [.inl (f_PP_middleY σ a)] σ _
      exact q_ireturn (q_dc k_PP_besideY 19 rfl) rfl ⟨congrArg (fun z9 => Sum.inl (some (Sum.inl z9))) (by unfold f_PP_besideY; rw [if_pos h1, if_pos h2]), rfl⟩
    · have h2 : ¬ (¬ k = (3 : Int32)) := h2
      refine q_run k_PP_besideY 12 4 28 rfl ?_
      show q_K σ a = 5 ∧ q_G l cx M_PP_besideY 1 64 0 0 28 [(0, .inr (.inr a)), (1, .inl k)] [.inl ((q_I σ a 3) - (1 : Int32))] σ _
      refine ⟨hK, ?_⟩
      refine q_goto (q_dc k_PP_besideY 16 rfl) rfl ?_
      exact q_ireturn (q_dc k_PP_besideY 19 rfl) rfl ⟨congrArg (fun z9 => Sum.inl (some (Sum.inl z9))) (by unfold f_PP_besideY; rw [if_pos h1, if_neg h2]), rfl⟩
  · have h1 : ¬ (¬ k = (1 : Int32)) := h1
    refine q_run k_PP_besideY 3 5 14 rfl ?_
    show q_K σ a = 5 ∧ q_K σ a = 5 ∧ q_G l cx M_PP_besideY 1 64 0 0 14 [(0, .inr (.inr a)), (1, .inl k)] [.inl ((q_I σ a 3) + (q_I σ a 5))] σ _
    refine ⟨hK, hK, ?_⟩
    refine q_goto (q_dc k_PP_besideY 8 rfl) rfl ?_
    exact q_ireturn (q_dc k_PP_besideY 19 rfl) rfl ⟨congrArg (fun z9 => Sum.inl (some (Sum.inl z9))) (by unfold f_PP_besideY; rw [if_neg h1]), rfl⟩
def f_PP_near (σ : q_S) (a : Nat) (row : Int32) (off : Int32) : Int32 := if row < ((q_I σ a 3) - off) then (0 : Int32) else (if row ≤ ((((q_I σ a 3) + (q_I σ a 5)) - (1 : Int32)) + off) then (f_PF_span (((q_I σ a 2) - off).toInt64) (((((q_I σ a 2) + (q_I σ a 4)) - (1 : Int32)) + off).toInt64)) else (0 : Int32))
set_option maxRecDepth 100000 in
theorem t_PP_near {l : Launch} {cx : q_C} {σ : q_S} (a : Nat) (row : Int32) (off : Int32) (hK : q_K σ a = 5) : q_Ct l cx M_PP_near 2 128 0 0 [q_r a, q_i row, q_i off] σ (q_pu (some (q_i (f_PP_near σ a row off))) σ) := by
  refine q_Ct.of p_PP_near c_PP_near rfl (Nat.le_of_ble_eq_true rfl) ?_
  refine q_run k_PP_near 0 5 7 rfl ?_
  show q_K σ a = 5 ∧ q_G l cx M_PP_near 2 128 0 0 7 [(0, .inr (.inr a)), (1, .inl row), (2, .inl off)] [.inl ((q_I σ a 3) - off), .inl row] σ _
  refine ⟨hK, ?_⟩
  refine q_icmp (q_dc k_PP_near 5 rfl) rfl (fun h1 => ?_) (fun h1 => ?_)
  · have h1 : row < ((q_I σ a 3) - off) := h1
    refine q_run k_PP_near 17 1 28 rfl ?_
    show q_G l cx M_PP_near 2 128 0 0 28 [(0, .inr (.inr a)), (1, .inl row), (2, .inl off)] [.inl (0 : Int32)] σ _
    exact q_ireturn (q_dc k_PP_near 18 rfl) rfl ⟨congrArg (fun z9 => Sum.inl (some (Sum.inl z9))) (by unfold f_PP_near; rw [if_pos h1]), rfl⟩
  · have h1 : ¬ (row < ((q_I σ a 3) - off)) := h1
    refine q_run k_PP_near 6 10 24 rfl ?_
    show q_K σ a = 5 ∧ q_K σ a = 5 ∧ q_G l cx M_PP_near 2 128 0 0 24 [(0, .inr (.inr a)), (1, .inl row), (2, .inl off)] [.inl ((((q_I σ a 3) + (q_I σ a 5)) - (1 : Int32)) + off), .inl row] σ _
    refine ⟨hK, hK, ?_⟩
    refine q_icmp (q_dc k_PP_near 16 rfl) rfl (fun h2 => ?_) (fun h2 => ?_)
    · have h2 : row ≤ ((((q_I σ a 3) + (q_I σ a 5)) - (1 : Int32)) + off) := h2
      refine q_run k_PP_near 19 15 50 rfl ?_
      show q_K σ a = 5 ∧ q_K σ a = 5 ∧ q_K σ a = 5 ∧ q_G l cx M_PP_near 2 128 0 0 50 [(0, .inr (.inr a)), (1, .inl row), (2, .inl off)] [.inr (.inl (((((q_I σ a 2) + (q_I σ a 4)) - (1 : Int32)) + off).toInt64)), .inr (.inl (((q_I σ a 2) - off).toInt64))] σ _
      refine ⟨hK, hK, hK, ?_⟩
      refine q_callS (st := []) (t_PF_span (l := l) (cx := cx) (σ := σ) (((q_I σ a 2) - off).toInt64) (((((q_I σ a 2) + (q_I σ a 4)) - (1 : Int32)) + off).toInt64)) (q_dc k_PP_near 34 rfl) (Or.inr ⟨"PlaneFills", List.mem_of_getElem? (i := 4) (by decide +kernel)⟩) w_PF_span s_PF_span a_PF_span (q_wt (Nat.le_of_ble_eq_true rfl)) ⟨Nat.le_of_ble_eq_true rfl, Nat.le_of_ble_eq_true rfl⟩ (fun v9 τ9 q9 => ?_) (fun n9 τ9 q9 => by cases q9.1)
      obtain ⟨q8, q7⟩ := q9
      cases q8
      rw [q7]
      show q_G l cx M_PP_near 2 128 0 0 53 [(0, .inr (.inr a)), (1, .inl row), (2, .inl off)] [.inl (f_PF_span (((q_I σ a 2) - off).toInt64) (((((q_I σ a 2) + (q_I σ a 4)) - (1 : Int32)) + off).toInt64))] σ _
      exact q_ireturn (q_dc k_PP_near 35 rfl) rfl ⟨congrArg (fun z9 => Sum.inl (some (Sum.inl z9))) (by unfold f_PP_near; rw [if_neg h1, if_pos h2]), rfl⟩
    · have h2 : ¬ (row ≤ ((((q_I σ a 3) + (q_I σ a 5)) - (1 : Int32)) + off)) := h2
      refine q_run k_PP_near 17 1 28 rfl ?_
      show q_G l cx M_PP_near 2 128 0 0 28 [(0, .inr (.inr a)), (1, .inl row), (2, .inl off)] [.inl (0 : Int32)] σ _
      exact q_ireturn (q_dc k_PP_near 18 rfl) rfl ⟨congrArg (fun z9 => Sum.inl (some (Sum.inl z9))) (by unfold f_PP_near; rw [if_neg h1, if_neg h2]), rfl⟩
def f_PP_moat (σ : q_S) (a : Nat) (row : Int32) (width : Int32) : Int32 := if ¬ row = (f_PP_middleY σ a) then (if (f_PP_near σ a row (0 : Int32)) = (0 : Int32) then ((f_PP_near σ a row width) &&& ((f_PF_span ((f_PP_middleX σ a).toInt64) ((f_PP_middleX σ a).toInt64)) ^^^ (-1 : Int32))) else ((f_PP_near σ a row width) &&& ((f_PP_near σ a row (0 : Int32)) ^^^ (-1 : Int32)))) else (0 : Int32)
set_option maxRecDepth 100000 in
theorem t_PP_moat {l : Launch} {cx : q_C} {σ : q_S} (a : Nat) (row : Int32) (width : Int32) (hK : q_K σ a = 5) : q_Ct l cx M_PP_moat 3 192 0 0 [q_r a, q_i row, q_i width] σ (q_pu (some (q_i (f_PP_moat σ a row width))) σ) := by
  refine q_Ct.of p_PP_moat c_PP_moat rfl (Nat.le_of_ble_eq_true rfl) ?_
  refine q_run k_PP_moat 0 2 2 rfl ?_
  show q_G l cx M_PP_moat 3 192 0 0 2 [(0, .inr (.inr a)), (1, .inl row), (2, .inl width)] [.inr (.inr a), .inl row] σ _
  refine q_callV (st := [.inl row]) (as := []) (t_PP_middleY (l := l) (cx := cx) (σ := σ) a (by assumption)) (q_dc k_PP_moat 2 rfl) (Or.inl (List.mem_of_getElem? (i := 217) (by decide +kernel))) w_PP_middleY n_PP_middleY (ci := 4) rfl e_PP_middleY a_PP_middleY (q_wt (Nat.le_of_ble_eq_true rfl)) ⟨Nat.le_of_ble_eq_true rfl, Nat.le_of_ble_eq_true rfl⟩ hK (fun v9 τ9 q9 => ?_) (fun n9 τ9 q9 => by cases q9.1)
  obtain ⟨q8, q7⟩ := q9
  cases q8
  rw [q7]
  show q_G l cx M_PP_moat 3 192 0 0 5 [(0, .inr (.inr a)), (1, .inl row), (2, .inl width)] [.inl (f_PP_middleY σ a), .inl row] σ _
  refine q_icmp (q_dc k_PP_moat 3 rfl) rfl (fun h1 => ?_) (fun h1 => ?_)
  · have h1 : ¬ row = (f_PP_middleY σ a) := h1
    refine q_run k_PP_moat 6 3 13 rfl ?_
    show q_G l cx M_PP_moat 3 192 0 0 13 [(0, .inr (.inr a)), (1, .inl row), (2, .inl width)] [.inl (0 : Int32), .inl row, .inr (.inr a)] σ _
    refine q_callV (st := []) (as := [.inl row, .inl (0 : Int32)]) (t_PP_near (l := l) (cx := cx) (σ := σ) a row (0 : Int32) (by assumption)) (q_dc k_PP_moat 9 rfl) (Or.inl (List.mem_of_getElem? (i := 220) (by decide +kernel))) w_PP_near n_PP_near (ci := 4) rfl e_PP_near a_PP_near (q_wt (Nat.le_of_ble_eq_true rfl)) ⟨Nat.le_of_ble_eq_true rfl, Nat.le_of_ble_eq_true rfl⟩ hK (fun v9 τ9 q9 => ?_) (fun n9 τ9 q9 => by cases q9.1)
    obtain ⟨q8, q7⟩ := q9
    cases q8
    rw [q7]
    show q_G l cx M_PP_moat 3 192 0 0 16 [(0, .inr (.inr a)), (1, .inl row), (2, .inl width)] [.inl (f_PP_near σ a row (0 : Int32))] σ _
    refine q_run k_PP_moat 10 2 18 rfl ?_
    show q_G l cx M_PP_moat 3 192 0 0 18 [(3, .inl (f_PP_near σ a row (0 : Int32))), (0, .inr (.inr a)), (1, .inl row), (2, .inl width)] [.inl (f_PP_near σ a row (0 : Int32))] σ _
    refine q_ifz (q_dc k_PP_moat 12 rfl) rfl (fun h2 => ?_) (fun h2 => ?_)
    · have h2 : (f_PP_near σ a row (0 : Int32)) = (0 : Int32) := h2
      refine q_run k_PP_moat 15 1 26 rfl ?_
      show q_G l cx M_PP_moat 3 192 0 0 26 [(3, .inl (f_PP_near σ a row (0 : Int32))), (0, .inr (.inr a)), (1, .inl row), (2, .inl width)] [.inr (.inr a)] σ _
      refine q_callV (st := []) (as := []) (t_PP_middleX (l := l) (cx := cx) (σ := σ) a (by assumption)) (q_dc k_PP_moat 16 rfl) (Or.inl (List.mem_of_getElem? (i := 223) (by decide +kernel))) w_PP_middleX n_PP_middleX (ci := 4) rfl e_PP_middleX a_PP_middleX (q_wt (Nat.le_of_ble_eq_true rfl)) ⟨Nat.le_of_ble_eq_true rfl, Nat.le_of_ble_eq_true rfl⟩ hK (fun v9 τ9 q9 => ?_) (fun n9 τ9 q9 => by cases q9.1)
      obtain ⟨q8, q7⟩ := q9
      cases q8
      rw [q7]
      show q_G l cx M_PP_moat 3 192 0 0 29 [(3, .inl (f_PP_near σ a row (0 : Int32))), (0, .inr (.inr a)), (1, .inl row), (2, .inl width)] [.inl (f_PP_middleX σ a)] σ _
      refine q_run k_PP_moat 17 2 31 rfl ?_
      show q_G l cx M_PP_moat 3 192 0 0 31 [(3, .inl (f_PP_near σ a row (0 : Int32))), (0, .inr (.inr a)), (1, .inl row), (2, .inl width)] [.inr (.inr a), .inr (.inl ((f_PP_middleX σ a).toInt64))] σ _
      refine q_callV (st := [.inr (.inl ((f_PP_middleX σ a).toInt64))]) (as := []) (t_PP_middleX (l := l) (cx := cx) (σ := σ) a (by assumption)) (q_dc k_PP_moat 19 rfl) (Or.inl (List.mem_of_getElem? (i := 223) (by decide +kernel))) w_PP_middleX n_PP_middleX (ci := 4) rfl e_PP_middleX a_PP_middleX (q_wt (Nat.le_of_ble_eq_true rfl)) ⟨Nat.le_of_ble_eq_true rfl, Nat.le_of_ble_eq_true rfl⟩ hK (fun v9 τ9 q9 => ?_) (fun n9 τ9 q9 => by cases q9.1)
      obtain ⟨q8, q7⟩ := q9
      cases q8
      rw [q7]
      show q_G l cx M_PP_moat 3 192 0 0 34 [(3, .inl (f_PP_near σ a row (0 : Int32))), (0, .inr (.inr a)), (1, .inl row), (2, .inl width)] [.inl (f_PP_middleX σ a), .inr (.inl ((f_PP_middleX σ a).toInt64))] σ _
      refine q_run k_PP_moat 20 1 35 rfl ?_
      show q_G l cx M_PP_moat 3 192 0 0 35 [(3, .inl (f_PP_near σ a row (0 : Int32))), (0, .inr (.inr a)), (1, .inl row), (2, .inl width)] [.inr (.inl ((f_PP_middleX σ a).toInt64)), .inr (.inl ((f_PP_middleX σ a).toInt64))] σ _
      refine q_callS (st := []) (t_PF_span (l := l) (cx := cx) (σ := σ) ((f_PP_middleX σ a).toInt64) ((f_PP_middleX σ a).toInt64)) (q_dc k_PP_moat 21 rfl) (Or.inr ⟨"PlaneFills", List.mem_of_getElem? (i := 4) (by decide +kernel)⟩) w_PF_span s_PF_span a_PF_span (q_wt (Nat.le_of_ble_eq_true rfl)) ⟨Nat.le_of_ble_eq_true rfl, Nat.le_of_ble_eq_true rfl⟩ (fun v9 τ9 q9 => ?_) (fun n9 τ9 q9 => by cases q9.1)
      obtain ⟨q8, q7⟩ := q9
      cases q8
      rw [q7]
      show q_G l cx M_PP_moat 3 192 0 0 38 [(3, .inl (f_PP_near σ a row (0 : Int32))), (0, .inr (.inr a)), (1, .inl row), (2, .inl width)] [.inl (f_PF_span ((f_PP_middleX σ a).toInt64) ((f_PP_middleX σ a).toInt64))] σ _
      refine q_run k_PP_moat 22 4 43 rfl ?_
      show q_G l cx M_PP_moat 3 192 0 0 43 [(4, .inl (f_PF_span ((f_PP_middleX σ a).toInt64) ((f_PP_middleX σ a).toInt64))), (3, .inl (f_PP_near σ a row (0 : Int32))), (0, .inr (.inr a)), (1, .inl row), (2, .inl width)] [.inl width, .inl row, .inr (.inr a)] σ _
      refine q_callV (st := []) (as := [.inl row, .inl width]) (t_PP_near (l := l) (cx := cx) (σ := σ) a row width (by assumption)) (q_dc k_PP_moat 26 rfl) (Or.inl (List.mem_of_getElem? (i := 220) (by decide +kernel))) w_PP_near n_PP_near (ci := 4) rfl e_PP_near a_PP_near (q_wt (Nat.le_of_ble_eq_true rfl)) ⟨Nat.le_of_ble_eq_true rfl, Nat.le_of_ble_eq_true rfl⟩ hK (fun v9 τ9 q9 => ?_) (fun n9 τ9 q9 => by cases q9.1)
      obtain ⟨q8, q7⟩ := q9
      cases q8
      rw [q7]
      show q_G l cx M_PP_moat 3 192 0 0 46 [(4, .inl (f_PF_span ((f_PP_middleX σ a).toInt64) ((f_PP_middleX σ a).toInt64))), (3, .inl (f_PP_near σ a row (0 : Int32))), (0, .inr (.inr a)), (1, .inl row), (2, .inl width)] [.inl (f_PP_near σ a row width)] σ _
      refine q_run k_PP_moat 27 4 51 rfl ?_
      show q_G l cx M_PP_moat 3 192 0 0 51 [(4, .inl (f_PF_span ((f_PP_middleX σ a).toInt64) ((f_PP_middleX σ a).toInt64))), (3, .inl (f_PP_near σ a row (0 : Int32))), (0, .inr (.inr a)), (1, .inl row), (2, .inl width)] [.inl ((f_PP_near σ a row width) &&& ((f_PF_span ((f_PP_middleX σ a).toInt64) ((f_PP_middleX σ a).toInt64)) ^^^ (-1 : Int32)))] σ _
      exact q_ireturn (q_dc k_PP_moat 31 rfl) rfl ⟨congrArg (fun z9 => Sum.inl (some (Sum.inl z9))) (by unfold f_PP_moat; rw [if_pos h1, if_pos h2]), rfl⟩
    · have h2 : ¬ ((f_PP_near σ a row (0 : Int32)) = (0 : Int32)) := h2
      refine q_run k_PP_moat 13 1 22 rfl ?_
      show q_G l cx M_PP_moat 3 192 0 0 22 [(3, .inl (f_PP_near σ a row (0 : Int32))), (0, .inr (.inr a)), (1, .inl row), (2, .inl width)] [.inl (f_PP_near σ a row (0 : Int32))] σ _
      refine q_goto (q_dc k_PP_moat 14 rfl) rfl ?_
      refine q_run k_PP_moat 22 4 43 rfl ?_
      show q_G l cx M_PP_moat 3 192 0 0 43 [(4, .inl (f_PP_near σ a row (0 : Int32))), (3, .inl (f_PP_near σ a row (0 : Int32))), (0, .inr (.inr a)), (1, .inl row), (2, .inl width)] [.inl width, .inl row, .inr (.inr a)] σ _
      refine q_callV (st := []) (as := [.inl row, .inl width]) (t_PP_near (l := l) (cx := cx) (σ := σ) a row width (by assumption)) (q_dc k_PP_moat 26 rfl) (Or.inl (List.mem_of_getElem? (i := 220) (by decide +kernel))) w_PP_near n_PP_near (ci := 4) rfl e_PP_near a_PP_near (q_wt (Nat.le_of_ble_eq_true rfl)) ⟨Nat.le_of_ble_eq_true rfl, Nat.le_of_ble_eq_true rfl⟩ hK (fun v9 τ9 q9 => ?_) (fun n9 τ9 q9 => by cases q9.1)
      obtain ⟨q8, q7⟩ := q9
      cases q8
      rw [q7]
      show q_G l cx M_PP_moat 3 192 0 0 46 [(4, .inl (f_PP_near σ a row (0 : Int32))), (3, .inl (f_PP_near σ a row (0 : Int32))), (0, .inr (.inr a)), (1, .inl row), (2, .inl width)] [.inl (f_PP_near σ a row width)] σ _
      refine q_run k_PP_moat 27 4 51 rfl ?_
      show q_G l cx M_PP_moat 3 192 0 0 51 [(4, .inl (f_PP_near σ a row (0 : Int32))), (3, .inl (f_PP_near σ a row (0 : Int32))), (0, .inr (.inr a)), (1, .inl row), (2, .inl width)] [.inl ((f_PP_near σ a row width) &&& ((f_PP_near σ a row (0 : Int32)) ^^^ (-1 : Int32)))] σ _
      exact q_ireturn (q_dc k_PP_moat 31 rfl) rfl ⟨congrArg (fun z9 => Sum.inl (some (Sum.inl z9))) (by unfold f_PP_moat; rw [if_pos h1, if_neg h2]), rfl⟩
  · have h1 : ¬ (¬ row = (f_PP_middleY σ a)) := h1
    refine q_run k_PP_moat 4 1 9 rfl ?_
    show q_G l cx M_PP_moat 3 192 0 0 9 [(0, .inr (.inr a)), (1, .inl row), (2, .inl width)] [.inl (0 : Int32)] σ _
    exact q_ireturn (q_dc k_PP_moat 5 rfl) rfl ⟨congrArg (fun z9 => Sum.inl (some (Sum.inl z9))) (by unfold f_PP_moat; rw [if_neg h1]), rfl⟩
def f_PM_isLayer (σ : q_S) (a : Nat) (n : Int32) : Int32 := if n < (0 : Int32) then (0 : Int32) else (if (q_I σ a 1) ≤ n then (0 : Int32) else (1 : Int32))
set_option maxRecDepth 100000 in
theorem t_PM_isLayer {l : Launch} {cx : q_C} {σ : q_S} (a : Nat) (n : Int32) (hK : q_K σ a = 7) : q_Ct l cx M_PM_isLayer 0 0 0 0 [q_r a, q_i n] σ (q_pu (some (q_i (f_PM_isLayer σ a n))) σ) := by
  refine q_Ct.of p_PM_isLayer c_PM_isLayer rfl (Nat.le_of_ble_eq_true rfl) ?_
  refine q_run k_PM_isLayer 0 1 1 rfl ?_
  show q_G l cx M_PM_isLayer 0 0 0 0 1 [(0, .inr (.inr a)), (1, .inl n)] [.inl n] σ _
  refine q_ifz (q_dc k_PM_isLayer 1 rfl) rfl (fun h1 => ?_) (fun h1 => ?_)
  · have h1 : n < (0 : Int32) := h1
    refine q_run k_PM_isLayer 8 1 17 rfl ?_
    show q_G l cx M_PM_isLayer 0 0 0 0 17 [(0, .inr (.inr a)), (1, .inl n)] [.inl (0 : Int32)] σ _
    exact q_zreturn (q_dc k_PM_isLayer 9 rfl) rfl (by decide) ⟨congrArg (fun z9 => Sum.inl (some (Sum.inl z9))) (by unfold f_PM_isLayer; rw [if_pos h1]), rfl⟩
  · have h1 : ¬ (n < (0 : Int32)) := h1
    refine q_run k_PM_isLayer 2 3 9 rfl ?_
    show q_K σ a = 7 ∧ q_G l cx M_PM_isLayer 0 0 0 0 9 [(0, .inr (.inr a)), (1, .inl n)] [.inl (q_I σ a 1), .inl n] σ _
    refine ⟨hK, ?_⟩
    refine q_icmp (q_dc k_PM_isLayer 5 rfl) rfl (fun h2 => ?_) (fun h2 => ?_)
    · have h2 : (q_I σ a 1) ≤ n := h2
      refine q_run k_PM_isLayer 8 1 17 rfl ?_
      show q_G l cx M_PM_isLayer 0 0 0 0 17 [(0, .inr (.inr a)), (1, .inl n)] [.inl (0 : Int32)] σ _
      exact q_zreturn (q_dc k_PM_isLayer 9 rfl) rfl (by decide) ⟨congrArg (fun z9 => Sum.inl (some (Sum.inl z9))) (by unfold f_PM_isLayer; rw [if_neg h1, if_pos h2]), rfl⟩
    · have h2 : ¬ ((q_I σ a 1) ≤ n) := h2
      refine q_run k_PM_isLayer 6 1 13 rfl ?_
      show q_G l cx M_PM_isLayer 0 0 0 0 13 [(0, .inr (.inr a)), (1, .inl n)] [.inl (1 : Int32)] σ _
      refine q_goto (q_dc k_PM_isLayer 7 rfl) rfl ?_
      exact q_zreturn (q_dc k_PM_isLayer 9 rfl) rfl (by decide) ⟨congrArg (fun z9 => Sum.inl (some (Sum.inl z9))) (by unfold f_PM_isLayer; rw [if_neg h1, if_neg h2]), rfl⟩
def f_PM_isNet (n : Int32) : Int32 := if n < (0 : Int32) then (0 : Int32) else (if (100 : Int32) ≤ n then (0 : Int32) else (1 : Int32))
set_option maxRecDepth 100000 in
theorem t_PM_isNet {l : Launch} {cx : q_C} {σ : q_S} (n : Int32) : q_Ct l cx M_PM_isNet 0 0 0 0 [q_i n] σ (q_pu (some (q_i (f_PM_isNet n))) σ) := by
  refine q_Ct.of p_PM_isNet c_PM_isNet rfl (Nat.le_of_ble_eq_true rfl) ?_
  refine q_run k_PM_isNet 0 1 1 rfl ?_
  show q_G l cx M_PM_isNet 0 0 0 0 1 [(0, .inl n)] [.inl n] σ _
  refine q_ifz (q_dc k_PM_isNet 1 rfl) rfl (fun h1 => ?_) (fun h1 => ?_)
  · have h1 : n < (0 : Int32) := h1
    refine q_run k_PM_isNet 7 1 15 rfl ?_
    show q_G l cx M_PM_isNet 0 0 0 0 15 [(0, .inl n)] [.inl (0 : Int32)] σ _
    exact q_zreturn (q_dc k_PM_isNet 8 rfl) rfl (by decide) ⟨congrArg (fun z9 => Sum.inl (some (Sum.inl z9))) (by unfold f_PM_isNet; rw [if_pos h1]), rfl⟩
  · have h1 : ¬ (n < (0 : Int32)) := h1
    refine q_run k_PM_isNet 2 2 7 rfl ?_
    show q_G l cx M_PM_isNet 0 0 0 0 7 [(0, .inl n)] [.inl (100 : Int32), .inl n] σ _
    refine q_icmp (q_dc k_PM_isNet 4 rfl) rfl (fun h2 => ?_) (fun h2 => ?_)
    · have h2 : (100 : Int32) ≤ n := h2
      refine q_run k_PM_isNet 7 1 15 rfl ?_
      show q_G l cx M_PM_isNet 0 0 0 0 15 [(0, .inl n)] [.inl (0 : Int32)] σ _
      exact q_zreturn (q_dc k_PM_isNet 8 rfl) rfl (by decide) ⟨congrArg (fun z9 => Sum.inl (some (Sum.inl z9))) (by unfold f_PM_isNet; rw [if_neg h1, if_pos h2]), rfl⟩
    · have h2 : ¬ ((100 : Int32) ≤ n) := h2
      refine q_run k_PM_isNet 5 1 11 rfl ?_
      show q_G l cx M_PM_isNet 0 0 0 0 11 [(0, .inl n)] [.inl (1 : Int32)] σ _
      refine q_goto (q_dc k_PM_isNet 6 rfl) rfl ?_
      exact q_zreturn (q_dc k_PM_isNet 8 rfl) rfl (by decide) ⟨congrArg (fun z9 => Sum.inl (some (Sum.inl z9))) (by unfold f_PM_isNet; rw [if_neg h1, if_neg h2]), rfl⟩
def f_PM_isPlane (σ : q_S) (a : Nat) (n : Int32) : Int32 := if n < (0 : Int32) then (0 : Int32) else (if (q_I σ a 2) ≤ n then (0 : Int32) else (1 : Int32))
set_option maxRecDepth 100000 in
theorem t_PM_isPlane {l : Launch} {cx : q_C} {σ : q_S} (a : Nat) (n : Int32) (hK : q_K σ a = 7) : q_Ct l cx M_PM_isPlane 0 0 0 0 [q_r a, q_i n] σ (q_pu (some (q_i (f_PM_isPlane σ a n))) σ) := by
  refine q_Ct.of p_PM_isPlane c_PM_isPlane rfl (Nat.le_of_ble_eq_true rfl) ?_
  refine q_run k_PM_isPlane 0 1 1 rfl ?_
  show q_G l cx M_PM_isPlane 0 0 0 0 1 [(0, .inr (.inr a)), (1, .inl n)] [.inl n] σ _
  refine q_ifz (q_dc k_PM_isPlane 1 rfl) rfl (fun h1 => ?_) (fun h1 => ?_)
  · have h1 : n < (0 : Int32) := h1
    refine q_run k_PM_isPlane 8 1 17 rfl ?_
    show q_G l cx M_PM_isPlane 0 0 0 0 17 [(0, .inr (.inr a)), (1, .inl n)] [.inl (0 : Int32)] σ _
    exact q_zreturn (q_dc k_PM_isPlane 9 rfl) rfl (by decide) ⟨congrArg (fun z9 => Sum.inl (some (Sum.inl z9))) (by unfold f_PM_isPlane; rw [if_pos h1]), rfl⟩
  · have h1 : ¬ (n < (0 : Int32)) := h1
    refine q_run k_PM_isPlane 2 3 9 rfl ?_
    show q_K σ a = 7 ∧ q_G l cx M_PM_isPlane 0 0 0 0 9 [(0, .inr (.inr a)), (1, .inl n)] [.inl (q_I σ a 2), .inl n] σ _
    refine ⟨hK, ?_⟩
    refine q_icmp (q_dc k_PM_isPlane 5 rfl) rfl (fun h2 => ?_) (fun h2 => ?_)
    · have h2 : (q_I σ a 2) ≤ n := h2
      refine q_run k_PM_isPlane 8 1 17 rfl ?_
      show q_G l cx M_PM_isPlane 0 0 0 0 17 [(0, .inr (.inr a)), (1, .inl n)] [.inl (0 : Int32)] σ _
      exact q_zreturn (q_dc k_PM_isPlane 9 rfl) rfl (by decide) ⟨congrArg (fun z9 => Sum.inl (some (Sum.inl z9))) (by unfold f_PM_isPlane; rw [if_neg h1, if_pos h2]), rfl⟩
    · have h2 : ¬ ((q_I σ a 2) ≤ n) := h2
      refine q_run k_PM_isPlane 6 1 13 rfl ?_
      show q_G l cx M_PM_isPlane 0 0 0 0 13 [(0, .inr (.inr a)), (1, .inl n)] [.inl (1 : Int32)] σ _
      refine q_goto (q_dc k_PM_isPlane 7 rfl) rfl ?_
      exact q_zreturn (q_dc k_PM_isPlane 9 rfl) rfl (by decide) ⟨congrArg (fun z9 => Sum.inl (some (Sum.inl z9))) (by unfold f_PM_isPlane; rw [if_neg h1, if_neg h2]), rfl⟩
def f_PM_isCorner (x : Int64) (y : Int64) : Int32 := if (lg_cmp x (0 : Int64)) < (0 : Int32) then (0 : Int32) else (if (0 : Int32) < (lg_cmp x (32 : Int64)) then (0 : Int32) else (if (lg_cmp y (0 : Int64)) < (0 : Int32) then (0 : Int32) else (if (0 : Int32) < (lg_cmp y (24 : Int64)) then (0 : Int32) else (1 : Int32))))
set_option maxRecDepth 100000 in
theorem t_PM_isCorner {l : Launch} {cx : q_C} {σ : q_S} (x : Int64) (y : Int64) : q_Ct l cx M_PM_isCorner 0 0 0 0 [q_l x, q_l y] σ (q_pu (some (q_i (f_PM_isCorner x y))) σ) := by
  refine q_Ct.of p_PM_isCorner c_PM_isCorner rfl (Nat.le_of_ble_eq_true rfl) ?_
  refine q_run k_PM_isCorner 0 3 3 rfl ?_
  show q_G l cx M_PM_isCorner 0 0 0 0 3 [(0, .inr (.inl x)), (2, .inr (.inl y))] [.inl (lg_cmp x (0 : Int64))] σ _
  refine q_ifz (q_dc k_PM_isCorner 3 rfl) rfl (fun h1 => ?_) (fun h1 => ?_)
  · have h1 : (lg_cmp x (0 : Int64)) < (0 : Int32) := h1
    refine q_run k_PM_isCorner 18 1 33 rfl ?_
    show q_G l cx M_PM_isCorner 0 0 0 0 33 [(0, .inr (.inl x)), (2, .inr (.inl y))] [.inl (0 : Int32)] σ _
    exact q_zreturn (q_dc k_PM_isCorner 19 rfl) rfl (by decide) ⟨congrArg (fun z9 => Sum.inl (some (Sum.inl z9))) (by unfold f_PM_isCorner; rw [if_pos h1]), rfl⟩
  · have h1 : ¬ ((lg_cmp x (0 : Int64)) < (0 : Int32)) := h1
    refine q_run k_PM_isCorner 4 3 11 rfl ?_
    show q_G l cx M_PM_isCorner 0 0 0 0 11 [(0, .inr (.inl x)), (2, .inr (.inl y))] [.inl (lg_cmp x (32 : Int64))] σ _
    refine q_ifz (q_dc k_PM_isCorner 7 rfl) rfl (fun h2 => ?_) (fun h2 => ?_)
    · have h2 : (0 : Int32) < (lg_cmp x (32 : Int64)) := h2
      refine q_run k_PM_isCorner 18 1 33 rfl ?_
      show q_G l cx M_PM_isCorner 0 0 0 0 33 [(0, .inr (.inl x)), (2, .inr (.inl y))] [.inl (0 : Int32)] σ _
      exact q_zreturn (q_dc k_PM_isCorner 19 rfl) rfl (by decide) ⟨congrArg (fun z9 => Sum.inl (some (Sum.inl z9))) (by unfold f_PM_isCorner; rw [if_neg h1, if_pos h2]), rfl⟩
    · have h2 : ¬ ((0 : Int32) < (lg_cmp x (32 : Int64))) := h2
      refine q_run k_PM_isCorner 8 3 17 rfl ?_
      show q_G l cx M_PM_isCorner 0 0 0 0 17 [(0, .inr (.inl x)), (2, .inr (.inl y))] [.inl (lg_cmp y (0 : Int64))] σ _
      refine q_ifz (q_dc k_PM_isCorner 11 rfl) rfl (fun h3 => ?_) (fun h3 => ?_)
      · have h3 : (lg_cmp y (0 : Int64)) < (0 : Int32) := h3
        refine q_run k_PM_isCorner 18 1 33 rfl ?_
        show q_G l cx M_PM_isCorner 0 0 0 0 33 [(0, .inr (.inl x)), (2, .inr (.inl y))] [.inl (0 : Int32)] σ _
        exact q_zreturn (q_dc k_PM_isCorner 19 rfl) rfl (by decide) ⟨congrArg (fun z9 => Sum.inl (some (Sum.inl z9))) (by unfold f_PM_isCorner; rw [if_neg h1, if_neg h2, if_pos h3]), rfl⟩
      · have h3 : ¬ ((lg_cmp y (0 : Int64)) < (0 : Int32)) := h3
        refine q_run k_PM_isCorner 12 3 25 rfl ?_
        show q_G l cx M_PM_isCorner 0 0 0 0 25 [(0, .inr (.inl x)), (2, .inr (.inl y))] [.inl (lg_cmp y (24 : Int64))] σ _
        refine q_ifz (q_dc k_PM_isCorner 15 rfl) rfl (fun h4 => ?_) (fun h4 => ?_)
        · have h4 : (0 : Int32) < (lg_cmp y (24 : Int64)) := h4
          refine q_run k_PM_isCorner 18 1 33 rfl ?_
          show q_G l cx M_PM_isCorner 0 0 0 0 33 [(0, .inr (.inl x)), (2, .inr (.inl y))] [.inl (0 : Int32)] σ _
          exact q_zreturn (q_dc k_PM_isCorner 19 rfl) rfl (by decide) ⟨congrArg (fun z9 => Sum.inl (some (Sum.inl z9))) (by unfold f_PM_isCorner; rw [if_neg h1, if_neg h2, if_neg h3, if_pos h4]), rfl⟩
        · have h4 : ¬ ((0 : Int32) < (lg_cmp y (24 : Int64))) := h4
          refine q_run k_PM_isCorner 16 1 29 rfl ?_
          show q_G l cx M_PM_isCorner 0 0 0 0 29 [(0, .inr (.inl x)), (2, .inr (.inl y))] [.inl (1 : Int32)] σ _
          refine q_goto (q_dc k_PM_isCorner 17 rfl) rfl ?_
          exact q_zreturn (q_dc k_PM_isCorner 19 rfl) rfl (by decide) ⟨congrArg (fun z9 => Sum.inl (some (Sum.inl z9))) (by unfold f_PM_isCorner; rw [if_neg h1, if_neg h2, if_neg h3, if_neg h4]), rfl⟩
def f_PM_bit (x : Int32) : Int64 := if x < (0 : Int32) then (0 : Int64) else (if (32 : Int32) ≤ x then (0 : Int64) else ((1 : Int64) <<< (x.toInt64 &&& 63)))
set_option maxRecDepth 100000 in
theorem t_PM_bit {l : Launch} {cx : q_C} {σ : q_S} (x : Int32) : q_Ct l cx M_PM_bit 0 0 0 0 [q_i x] σ (q_pu (some (q_l (f_PM_bit x))) σ) := by
  refine q_Ct.of p_PM_bit c_PM_bit rfl (Nat.le_of_ble_eq_true rfl) ?_
  refine q_run k_PM_bit 0 1 1 rfl ?_
  show q_G l cx M_PM_bit 0 0 0 0 1 [(0, .inl x)] [.inl x] σ _
  refine q_ifz (q_dc k_PM_bit 1 rfl) rfl (fun h1 => ?_) (fun h1 => ?_)
  · have h1 : x < (0 : Int32) := h1
    refine q_run k_PM_bit 9 1 17 rfl ?_
    show q_G l cx M_PM_bit 0 0 0 0 17 [(0, .inl x)] [.inr (.inl (0 : Int64))] σ _
    exact q_lreturn (q_dc k_PM_bit 10 rfl) rfl ⟨congrArg (fun z9 => Sum.inl (some (Sum.inr (Sum.inl z9)))) (by unfold f_PM_bit; rw [if_pos h1]), rfl⟩
  · have h1 : ¬ (x < (0 : Int32)) := h1
    refine q_run k_PM_bit 2 2 7 rfl ?_
    show q_G l cx M_PM_bit 0 0 0 0 7 [(0, .inl x)] [.inl (32 : Int32), .inl x] σ _
    refine q_icmp (q_dc k_PM_bit 4 rfl) rfl (fun h2 => ?_) (fun h2 => ?_)
    · have h2 : (32 : Int32) ≤ x := h2
      refine q_run k_PM_bit 9 1 17 rfl ?_
      show q_G l cx M_PM_bit 0 0 0 0 17 [(0, .inl x)] [.inr (.inl (0 : Int64))] σ _
      exact q_lreturn (q_dc k_PM_bit 10 rfl) rfl ⟨congrArg (fun z9 => Sum.inl (some (Sum.inr (Sum.inl z9)))) (by unfold f_PM_bit; rw [if_neg h1, if_pos h2]), rfl⟩
    · have h2 : ¬ ((32 : Int32) ≤ x) := h2
      refine q_run k_PM_bit 5 3 13 rfl ?_
      show q_G l cx M_PM_bit 0 0 0 0 13 [(0, .inl x)] [.inr (.inl ((1 : Int64) <<< (x.toInt64 &&& 63)))] σ _
      refine q_goto (q_dc k_PM_bit 8 rfl) rfl ?_
      exact q_lreturn (q_dc k_PM_bit 10 rfl) rfl ⟨congrArg (fun z9 => Sum.inl (some (Sum.inr (Sum.inl z9)))) (by unfold f_PM_bit; rw [if_neg h1, if_neg h2]), rfl⟩
def f_PM_thrown (σ : q_S) (a : Nat) : Int32 := q_I σ a 0
set_option maxRecDepth 100000 in
theorem t_PM_thrown {l : Launch} {cx : q_C} {σ : q_S} (a : Nat) (hK : q_K σ a = 7) : q_Ct l cx M_PM_thrown 0 0 0 0 [q_r a] σ (q_pu (some (q_i (f_PM_thrown σ a))) σ) := by
  refine q_Ct.of p_PM_thrown c_PM_thrown rfl (Nat.le_of_ble_eq_true rfl) ?_
  refine q_run k_PM_thrown 0 2 4 rfl ?_
  show q_K σ a = 7 ∧ q_G l cx M_PM_thrown 0 0 0 0 4 [(0, .inr (.inr a))] [.inl (q_I σ a 0)] σ _
  refine ⟨hK, ?_⟩
  exact q_ireturn (q_dc k_PM_thrown 2 rfl) rfl ⟨congrArg (fun z9 => Sum.inl (some (Sum.inl z9))) (by unfold f_PM_thrown; rfl), rfl⟩
