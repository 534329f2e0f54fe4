/-! THE BLOCKS ARE SOUND -/
theorem q_fv_wI_ne {cx : q_C} {σ : q_S} {a k : Nat} {x : Int32} {j : Nat} (h : j ≠ k) (ty : FieldType) : q_fv cx (q_wI σ a k x) a ty j = q_fv cx σ a ty j := by
  cases ty <;> simp [q_fv, q_wI, q_I_sI, q_L_sI, q_P_sI, va_up, h]
theorem q_fv_wL_ne {cx : q_C} {σ : q_S} {a k : Nat} {x : Int64} {j : Nat} (h : j ≠ k) (ty : FieldType) : q_fv cx (q_wL σ a k x) a ty j = q_fv cx σ a ty j := by
  cases ty <;> simp [q_fv, q_wL, q_I_sL, q_L_sL, q_P_sL, va_up, h]
theorem q_fv_wP_ne {cx : q_C} {σ : q_S} {a k : Nat} {x : Nat} {j : Nat} (h : j ≠ k) (ty : FieldType) : q_fv cx (q_wP σ a k x) a ty j = q_fv cx σ a ty j := by
  cases ty <;> simp [q_fv, q_wP, q_I_sP, q_L_sP, q_P_sP, va_up, h]
theorem q_fv_wI_eq {cx : q_C} {σ : q_S} {a k : Nat} {x : Int32} {ty : FieldType} (h : q_kd ty = 0 ∨ q_kd ty = 3) : q_fv cx (q_wI σ a k x) a ty k = .int x := by
  cases ty <;> simp [q_kd] at h <;> simp [q_fv, q_wI, q_I_sI, va_up]
theorem q_fv_wL_eq {cx : q_C} {σ : q_S} {a k : Nat} {x : Int64} {ty : FieldType} (h : q_kd ty = 1) : q_fv cx (q_wL σ a k x) a ty k = .long x := by
  cases ty <;> simp [q_kd] at h <;> simp [q_fv, q_wL, q_L_sL, va_up]
theorem q_fv_wP_eq {cx : q_C} {σ : q_S} {a k : Nat} {x : Nat} {ty : FieldType} (h : q_kd ty = 2) : q_fv cx (q_wP σ a k x) a ty k = q_tr cx x := by
  cases ty <;> simp [q_kd] at h <;> simp [q_fv, q_wP, q_P_sP, va_up]
theorem q_fv_i {cx : q_C} {σ : q_S} {a k : Nat} {ty : FieldType} (h : q_kd ty = 0 ∨ q_kd ty = 3) : q_fv cx σ a ty k = .int (q_I σ a k) := by
  cases ty <;> simp [q_kd] at h <;> rfl
theorem q_fv_l {cx : q_C} {σ : q_S} {a k : Nat} {ty : FieldType} (h : q_kd ty = 1) : q_fv cx σ a ty k = .long (q_L σ a k) := by
  cases ty <;> simp [q_kd] at h <;> rfl
theorem q_fv_p {cx : q_C} {σ : q_S} {a k : Nat} {ty : FieldType} (h : q_kd ty = 2) : q_fv cx σ a ty k = q_tr cx (q_P σ a k) := by
  cases ty <;> simp [q_kd] at h <;> rfl
/-- the object named a -/
theorem q_Rep.obj {cx : q_C} {σ : q_S} {H : Heap} (h : q_Rep cx σ H) {a ci : Nat} (ha : q_K σ a = ci + 1) (hc : ci < 999) : ∃ r : vw_C, q_cl[ci]? = some r ∧ t_OB (q_ad cx a) (cx.1.1 ci) r.2.2 (cx.1.2 ci) H (fun k => q_fv cx σ a (q_tf ci k) k) := by
  have h1 := h.2.2.2 a (by omega)
  unfold q_at at h1
  rw [if_pos (by omega)] at h1
  rw [ha] at h1
  exact h1
theorem q_Rep.arr {cx : q_C} {σ : q_S} {H : Heap} (h : q_Rep cx σ H) {a t : Nat} (ha : q_K σ a = 1000 + t) (hc : t < 1000) : H[q_ad cx a]? = some (arrV (cx.2.1 t) (q_Z σ a) (fun k => q_fv cx σ a (q_ta t) k)) := by
  have h1 := h.2.2.2 a (by omega)
  unfold q_at at h1
  rw [if_neg (by omega), if_pos (by omega), ha] at h1
  have e : 1000 + t - 1000 = t := by omega
  rw [e] at h1
  exact h1
theorem q_Rep.ro {cx : q_C} {σ : q_S} {H : Heap} (h : q_Rep cx σ H) {a : Nat} (ha : q_K σ a = 2000) : 10000000 ≤ a ∧ a < 10000000 + q_nro ∧ q_rty a = .int ∧ q_Z σ a = (cx.2.2.2.2 a).1 ∧ q_I σ a = (cx.2.2.2.2 a).2 := by
  have h1 := h.2.2.2 a (by omega)
  unfold q_at at h1
  rw [if_neg (by omega), if_neg (by omega)] at h1
  have h2 := (h.2.2.1 a (by omega)).2.2.1 (by omega)
  exact ⟨h2.1, h2.2.1, h2.2.2 ha, h1⟩
/-- one field of an object has been written -/
theorem q_Rep.putf {cx : q_C} {σ τ : q_S} {H H1 : Heap} (h : q_Rep cx σ H) {a ci k : Nat} {v : Value} {cell : Cell} (ha : q_K σ a = ci + 1) (hc : ci < 999) (hn : q_n τ = q_n σ) (hK : ∀ b, q_K τ b = q_K σ b)
    (ho : ∀ b, b ≠ a → q_Z τ b = q_Z σ b ∧ q_I τ b = q_I σ b ∧ q_L τ b = q_L σ b ∧ q_P τ b = q_P σ b) {r : vw_C} (hr : q_cl[ci]? = some r) (hap : ∀ x y, x < r.2.2 → y < r.2.2 → x ≠ y → (cx.1.2 ci) x ≠ (cx.1.2 ci) y) (hk : k < r.2.2)
    (hcell : H[q_ad cx a]? = some cell) (q2 : cell.cls = cx.1.1 ci) (q3 : cell.vm = .none) (q4 : ∀ j, j < r.2.2 → cell.slots[cx.1.2 ci j]? = some (q_fv cx σ a (q_tf ci j) j))
    (e1 : H1[q_ad cx a]? = some (cell.setSlot (cx.1.2 ci k) v)) (hz : H1.size = H.size) (oq : ∀ q : Nat, q ≠ q_ad cx a → H1[q]? = H[q]?)
    (hne : ∀ j, j ≠ k → ∀ ty, q_fv cx τ a ty j = q_fv cx σ a ty j) (heq : q_fv cx τ a (q_tf ci k) k = v) : q_Rep cx τ H1 := by
  refine h.upd a (by omega) (by omega) hn hK ho hz oq ?_
  unfold q_at
  rw [hK, ha, if_pos (by omega)]
  refine ⟨r, hr, ?_⟩
  refine t_OB.to (V := updV (fun j => q_fv cx σ a (q_tf ci j) j) k v) ⟨_, e1, q2, q3, t_set q4 hap hk v⟩ (fun j _ => ?_)
  by_cases e : j = k
  · subst e
    simp only [updV, if_true]
    exact heq.symm
  · simp only [updV, if_neg e]
    exact (hne j e _).symm
theorem q_nar0 {cx : q_C} {ty : FieldType} {x : Int32} (h : q_kd ty = 0) : narrow ty (q_tv cx (q_i x)) = q_tv cx (q_i x) := by
  cases ty <;> simp [q_kd] at h <;> rfl
theorem q_nar1 {cx : q_C} {ty : FieldType} {x : Int64} (h : q_kd ty = 1) : narrow ty (q_tv cx (q_l x)) = q_tv cx (q_l x) := by
  cases ty <;> simp [q_kd] at h <;> rfl
theorem q_nar2 {cx : q_C} {ty : FieldType} {x : Nat} (h : q_kd ty = 2) : narrow ty (q_tv cx (q_r x)) = q_tv cx (q_r x) := by
  cases ty <;> simp [q_kd] at h <;> (rw [q_tv_r]; unfold q_tr; split <;> rfl)
theorem q_nar3 {cx : q_C} {ty : FieldType} {x : Int32} (h : q_kd ty = 3) (hx : x = 0 ∨ x = 1) : narrow ty (q_tv cx (q_i x)) = q_tv cx (q_i x) := by
  cases ty <;> simp [q_kd] at h
  rcases hx with rfl | rfl <;> rfl
theorem q_fit0 {cx : q_C} {ty : FieldType} {x : Int32} (h : q_kd ty = 0) : fits ty (q_tv cx (q_i x)) = true := by
  cases ty <;> simp [q_kd] at h <;> rfl
theorem q_fit1 {cx : q_C} {ty : FieldType} {x : Int64} (h : q_kd ty = 1) : fits ty (q_tv cx (q_l x)) = true := by
  cases ty <;> simp [q_kd] at h <;> rfl
theorem q_fit2 {cx : q_C} {ty : FieldType} {x : Nat} (h : q_kd ty = 2) : fits ty (q_tv cx (q_r x)) = true := by
  cases ty <;> simp [q_kd] at h <;> (rw [q_tv_r]; unfold q_tr; split <;> rfl)
theorem q_fit3 {cx : q_C} {ty : FieldType} {x : Int32} (h : q_kd ty = 3) (hx : x = 0 ∨ x = 1) : fits ty (q_tv cx (q_i x)) = true := by
  cases ty <;> simp [q_kd] at h
  rcases hx with rfl | rfl <;> rfl
theorem q_Rep.ro9 {cx : q_C} {σ : q_S} {H : Heap} (h : q_Rep cx σ H) {a : Nat} (ha : 2000 ≤ q_K σ a) : 10000000 ≤ a ∧ a < 10000000 + q_nro ∧ q_Z σ a = (cx.2.2.2.2 a).1 ∧ q_I σ a = (cx.2.2.2.2 a).2 := by
  have h1 := h.2.2.2 a (by omega)
  unfold q_at at h1
  rw [if_neg (by omega), if_neg (by omega)] at h1
  have h2 := (h.2.2.1 a (by omega)).2.2.1 ha
  exact ⟨h2.1, h2.2.1, h1⟩
theorem q_fv_new {cx : q_C} {σ : q_S} {k z : Nat} {ty : FieldType} {j : Nat} (h : (match ty with | .int => true | .long => true | .object _ => true | .array _ => true | .boolean => true | _ => false) = true) : defaultValue ty = q_fv cx (q_new σ k z) (q_n σ) ty j := by
  have e1 : q_I (q_new σ k z) (q_n σ) = fun _ => 0 := by rw [q_I_new, if_pos rfl]
  have e2 : q_L (q_new σ k z) (q_n σ) = fun _ => 0 := by rw [q_L_new, if_pos rfl]
  have e3 : q_P (q_new σ k z) (q_n σ) = fun _ => 0 := by rw [q_P_new, if_pos rfl]
  cases ty <;> first | (simp at h; done) | (simp [q_fv, e1, e2, e3, q_tr, defaultValue]; done) | (simp [q_fv, e1, e2, e3, q_tr]; rfl)
