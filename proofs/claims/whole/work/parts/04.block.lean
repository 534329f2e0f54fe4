/-! BLOCKS: stretches without a branch, run by a function; what they ask on the way is a conjunction. -/
/-- an instruction: its place, itself, its length; (class, field, type, word) of a field; its number -/
abbrev q_J : Type := Nat × Instr × Nat × (Nat × Nat × Nat × Nat) × Int32 × Int64
def q_ushr (x y : Int32) : Int32 := (x.toUInt32 >>> (y.toUInt32 &&& Int32.toUInt32 31)).toInt32
def q_lushr (x : Int64) (y : Int32) : Int64 := (x.toUInt64 >>> (y.toInt64.toUInt64 &&& Int64.toUInt64 63)).toInt64
def q_ld (lo : List (Nat × q_V)) (i : Nat) : Option q_V := match lo with
  | [] => none
  | (j, v) :: r => if j == i then some v else q_ld r i
def q_long (v : q_V) : Bool := match v with
  | .inr (.inl _) => true
  | _ => false
def q_st1 (lo : List (Nat × q_V)) (i : Nat) (v : q_V) : List (Nat × q_V) := (i, v) :: lo.filter (fun q => !(q.1 == i) && !(q.1 + 1 == i && q_long q.2))
def q_st2 (lo : List (Nat × q_V)) (i : Nat) (v : q_V) : List (Nat × q_V) := (i, v) :: lo.filter (fun q => !(q.1 == i) && (!(q.1 == i + 1) && !(q.1 + 1 == i && q_long q.2)))
theorem q_ld_mem {lo : List (Nat × q_V)} {i : Nat} {v : q_V} (h : q_ld lo i = some v) : (i, v) ∈ lo := by
  induction lo with
  | nil => cases h
  | cons q r ih =>
    obtain ⟨j, w⟩ := q
    unfold q_ld at h
    by_cases e : j = i
    · subst e
      simp at h
      subst h
      exact List.mem_cons_self
    · rw [if_neg (by simpa using e)] at h
      exact List.mem_cons_of_mem _ (ih h)
theorem q_ld_has {cx : q_C} {ls : Array Slot} {nL : Nat} {lo : List (Nat × q_V)} (h : lv_has ls nL (q_lo cx lo)) {i : Nat} {v : q_V} (hv : q_ld lo i = some v) : ls[i]? = some (.val (q_tv cx v)) :=
  h.2.2 (i, q_tv cx v) (List.mem_map.mpr ⟨(i, v), q_ld_mem hv, rfl⟩)
theorem q_long_cat (cx : q_C) (v : q_V) : ((q_tv cx v).category == 2) = q_long v := by
  match v with
  | .inl x => rfl
  | .inr (.inl x) => rfl
  | .inr (.inr x) =>
    show ((q_tr cx x).category == 2) = false
    rw [q_cat_r]; rfl
theorem q_st1_eq (cx : q_C) (lo : List (Nat × q_V)) (i : Nat) (v : q_V) : (i, q_tv cx v) :: (q_lo cx lo).filter (fun q => !(q.1 == i) && !(q.1 + 1 == i && q.2.category == 2)) = q_lo cx (q_st1 lo i v) := by
  unfold q_st1 q_lo
  rw [List.map_cons, List.filter_map]
  congr 2
  refine List.filter_congr fun q _ => ?_
  simp [q_long_cat]
theorem q_st2_eq (cx : q_C) (lo : List (Nat × q_V)) (i : Nat) (v : q_V) : (i, q_tv cx v) :: (q_lo cx lo).filter (fun q => !(q.1 == i) && (!(q.1 == i + 1) && !(q.1 + 1 == i && q.2.category == 2))) = q_lo cx (q_st2 lo i v) := by
  unfold q_st2 q_lo
  rw [List.map_cons, List.filter_map]
  congr 2
  refine List.filter_congr fun q _ => ?_
  simp [q_long_cat]
/-- a straight instruction -/
def q_one (j : q_J) (lo : List (Nat × q_V)) (st : List q_V) (σ : q_S) (k : List (Nat × q_V) → List q_V → q_S → Prop) : Prop := match j with
  | (_, i, _, (ci, fk, ft, _), cv, cl) => match i with
    | .iconst _ => k lo (q_i cv :: st) σ
    | .bipush _ => k lo (q_i cv :: st) σ
    | .sipush _ => k lo (q_i cv :: st) σ
    | .ldc _ => k lo (q_i cv :: st) σ
    | .ldc_w _ => k lo (q_i cv :: st) σ
    | .lconst _ => k lo (q_l cl :: st) σ
    | .ldc2_w _ => k lo (q_l cl :: st) σ
    | .aconst_null => k lo (q_r 0 :: st) σ
    | .iload_n n => match q_ld lo n with
      | some (.inl x) => k lo (.inl x :: st) σ
      | _ => False
    | .iload n => match q_ld lo n with
      | some (.inl x) => k lo (.inl x :: st) σ
      | _ => False
    | .lload_n n => match q_ld lo n with
      | some (.inr (.inl x)) => k lo (.inr (.inl x) :: st) σ
      | _ => False
    | .lload n => match q_ld lo n with
      | some (.inr (.inl x)) => k lo (.inr (.inl x) :: st) σ
      | _ => False
    | .aload_n n => match q_ld lo n with
      | some (.inr (.inr x)) => k lo (.inr (.inr x) :: st) σ
      | _ => False
    | .aload n => match q_ld lo n with
      | some (.inr (.inr x)) => k lo (.inr (.inr x) :: st) σ
      | _ => False
    | .istore_n n => match st with
      | .inl x :: st => k (q_st1 lo n (.inl x)) st σ
      | _ => False
    | .istore n => match st with
      | .inl x :: st => k (q_st1 lo n (.inl x)) st σ
      | _ => False
    | .lstore_n n => match st with
      | .inr (.inl x) :: st => k (q_st2 lo n (.inr (.inl x))) st σ
      | _ => False
    | .lstore n => match st with
      | .inr (.inl x) :: st => k (q_st2 lo n (.inr (.inl x))) st σ
      | _ => False
    | .astore_n n => match st with
      | .inr (.inr x) :: st => k (q_st1 lo n (.inr (.inr x))) st σ
      | _ => False
    | .astore n => match st with
      | .inr (.inr x) :: st => k (q_st1 lo n (.inr (.inr x))) st σ
      | _ => False
    | .iinc n _ => match q_ld lo n with
      | some (.inl x) => k (q_st1 lo n (.inl (x + cv))) st σ
      | _ => False
    | .iadd => match st with
      | .inl y :: .inl x :: st => k lo (.inl (x + y) :: st) σ
      | _ => False
    | .isub => match st with
      | .inl y :: .inl x :: st => k lo (.inl (x - y) :: st) σ
      | _ => False
    | .imul => match st with
      | .inl y :: .inl x :: st => k lo (.inl (x * y) :: st) σ
      | _ => False
    | .iand => match st with
      | .inl y :: .inl x :: st => k lo (.inl (x &&& y) :: st) σ
      | _ => False
    | .ior => match st with
      | .inl y :: .inl x :: st => k lo (.inl (x ||| y) :: st) σ
      | _ => False
    | .ixor => match st with
      | .inl y :: .inl x :: st => k lo (.inl (x ^^^ y) :: st) σ
      | _ => False
    | .idiv => match st with
      | .inl y :: .inl x :: st => ¬ y = 0 ∧ k lo (.inl (x / y) :: st) σ
      | _ => False
    | .irem => match st with
      | .inl y :: .inl x :: st => ¬ y = 0 ∧ k lo (.inl (x - x / y * y) :: st) σ
      | _ => False
    | .ineg => match st with
      | .inl x :: st => k lo (.inl (-x) :: st) σ
      | _ => False
    | .ishl => match st with
      | .inl y :: .inl x :: st => k lo (.inl (x <<< (y &&& 31)) :: st) σ
      | _ => False
    | .ishr => match st with
      | .inl y :: .inl x :: st => k lo (.inl (x >>> (y &&& 31)) :: st) σ
      | _ => False
    | .iushr => match st with
      | .inl y :: .inl x :: st => k lo (.inl (q_ushr x y) :: st) σ
      | _ => False
    | .ladd => match st with
      | .inr (.inl y) :: .inr (.inl x) :: st => k lo (.inr (.inl (x + y)) :: st) σ
      | _ => False
    | .lsub => match st with
      | .inr (.inl y) :: .inr (.inl x) :: st => k lo (.inr (.inl (x - y)) :: st) σ
      | _ => False
    | .lmul => match st with
      | .inr (.inl y) :: .inr (.inl x) :: st => k lo (.inr (.inl (x * y)) :: st) σ
      | _ => False
    | .land => match st with
      | .inr (.inl y) :: .inr (.inl x) :: st => k lo (.inr (.inl (x &&& y)) :: st) σ
      | _ => False
    | .lor => match st with
      | .inr (.inl y) :: .inr (.inl x) :: st => k lo (.inr (.inl (x ||| y)) :: st) σ
      | _ => False
    | .lxor => match st with
      | .inr (.inl y) :: .inr (.inl x) :: st => k lo (.inr (.inl (x ^^^ y)) :: st) σ
      | _ => False
    | .ldiv => match st with
      | .inr (.inl y) :: .inr (.inl x) :: st => ¬ y = 0 ∧ k lo (.inr (.inl (x / y)) :: st) σ
      | _ => False
    | .lrem => match st with
      | .inr (.inl y) :: .inr (.inl x) :: st => ¬ y = 0 ∧ k lo (.inr (.inl (x - x / y * y)) :: st) σ
      | _ => False
    | .lneg => match st with
      | .inr (.inl x) :: st => k lo (.inr (.inl (-x)) :: st) σ
      | _ => False
    | .lshl => match st with
      | .inl y :: .inr (.inl x) :: st => k lo (.inr (.inl (x <<< (y.toInt64 &&& 63))) :: st) σ
      | _ => False
    | .lshr => match st with
      | .inl y :: .inr (.inl x) :: st => k lo (.inr (.inl (x >>> (y.toInt64 &&& 63))) :: st) σ
      | _ => False
    | .lushr => match st with
      | .inl y :: .inr (.inl x) :: st => k lo (.inr (.inl (q_lushr x y)) :: st) σ
      | _ => False
    | .lcmp => match st with
      | .inr (.inl y) :: .inr (.inl x) :: st => k lo (.inl (lg_cmp x y) :: st) σ
      | _ => False
    | .i2l => match st with
      | .inl x :: st => k lo (.inr (.inl x.toInt64) :: st) σ
      | _ => False
    | .l2i => match st with
      | .inr (.inl x) :: st => k lo (.inl x.toInt32 :: st) σ
      | _ => False
    | .dup => match st with
      | .inl x :: st => k lo (.inl x :: .inl x :: st) σ
      | .inr (.inr x) :: st => k lo (.inr (.inr x) :: .inr (.inr x) :: st) σ
      | _ => False
    | .pop => match st with
      | .inl _ :: st => k lo st σ
      | .inr (.inr _) :: st => k lo st σ
      | _ => False
    | .dup_x1 => match st with
      | .inl x :: .inr (.inr y) :: st => k lo (.inl x :: .inr (.inr y) :: .inl x :: st) σ
      | _ => False
    | .dup2 => match st with
      | .inl x :: .inr (.inr y) :: st => k lo (.inl x :: .inr (.inr y) :: .inl x :: .inr (.inr y) :: st) σ
      | .inr (.inl x) :: st => k lo (.inr (.inl x) :: .inr (.inl x) :: st) σ
      | _ => False
    | .getfield _ => match st with
      | .inr (.inr a) :: st => q_K σ a = ci + 1 ∧ match ft with
        | 0 => k lo (.inl (q_I σ a fk) :: st) σ
        | 1 => k lo (.inr (.inl (q_L σ a fk)) :: st) σ
        | 2 => k lo (.inr (.inr (q_P σ a fk)) :: st) σ
        | 3 => k lo (.inl (q_I σ a fk) :: st) σ
        | _ => False
      | _ => False
    | .putfield _ => match ft with
      | 0 => match st with
        | .inl x :: .inr (.inr a) :: st => q_K σ a = ci + 1 ∧ k lo st (q_wI σ a fk x)
        | _ => False
      | 1 => match st with
        | .inr (.inl x) :: .inr (.inr a) :: st => q_K σ a = ci + 1 ∧ k lo st (q_wL σ a fk x)
        | _ => False
      | 2 => match st with
        | .inr (.inr x) :: .inr (.inr a) :: st => q_K σ a = ci + 1 ∧ k lo st (q_wP σ a fk x)
        | _ => False
      | 3 => match st with
        | .inl x :: .inr (.inr a) :: st => (x = 0 ∨ x = 1) ∧ q_K σ a = ci + 1 ∧ k lo st (q_wI σ a fk x)
        | _ => False
      | _ => False
    | .iaload => match st with
      | .inl x :: .inr (.inr a) :: st => (q_K σ a = 1000 ∨ q_K σ a = 2000) ∧ vp_in x (q_Z σ a) ∧ k lo (.inl (q_I σ a x.toNatClampNeg) :: st) σ
      | _ => False
    | .iastore => match st with
      | .inl v :: .inl x :: .inr (.inr a) :: st => q_K σ a = 1000 ∧ vp_in x (q_Z σ a) ∧ k lo st (q_wI σ a x.toNatClampNeg v)
      | _ => False
    | .laload => match st with
      | .inl x :: .inr (.inr a) :: st => q_K σ a = 1001 ∧ vp_in x (q_Z σ a) ∧ k lo (.inr (.inl (q_L σ a x.toNatClampNeg)) :: st) σ
      | _ => False
    | .lastore => match st with
      | .inr (.inl v) :: .inl x :: .inr (.inr a) :: st => q_K σ a = 1001 ∧ vp_in x (q_Z σ a) ∧ k lo st (q_wL σ a x.toNatClampNeg v)
      | _ => False
    | .baload => match st with
      | .inl x :: .inr (.inr a) :: st => q_K σ a = 1003 ∧ vp_in x (q_Z σ a) ∧ k lo (.inl (q_I σ a x.toNatClampNeg) :: st) σ
      | _ => False
    | .bastore => match st with
      | .inl v :: .inl x :: .inr (.inr a) :: st => (v = 0 ∨ v = 1) ∧ q_K σ a = 1003 ∧ vp_in x (q_Z σ a) ∧ k lo st (q_wI σ a x.toNatClampNeg v)
      | _ => False
    | .aaload => match st with
      | .inl x :: .inr (.inr a) :: st => q_K σ a = 1002 ∧ vp_in x (q_Z σ a) ∧ k lo (.inr (.inr (q_P σ a x.toNatClampNeg)) :: st) σ
      | _ => False
    | .arraylength => match st with
      | .inr (.inr a) :: st => 1000 ≤ q_K σ a ∧ k lo (.inl (nI (q_Z σ a)) :: st) σ
      | _ => False
    | _ => False
/-- a stretch of them -/
def q_wp : List q_J → List (Nat × q_V) → List q_V → q_S → (List (Nat × q_V) → List q_V → q_S → Prop) → Prop
  | [], lo, st, σ, k => k lo st σ
  | j :: r, lo, st, σ, k => q_one j lo st σ (fun lo st σ => q_wp r lo st σ k)
/-- a type's number: int, long, a reference, boolean -/
def q_kd (ty : FieldType) : Nat := match ty with
  | .int => 0
  | .long => 1
  | .object _ => 2
  | .array _ => 2
  | .boolean => 3
  | _ => 9
/-- a field's instruction: the class, the field, its type, and the word that links it -/
def q_flok (M : q_M) (idx ci fk ft w : Nat) : Bool := match q_cl[ci]? with
  | none => false
  | some r => decide (fk < r.2.2) && decide (q_kd (q_tf ci fk) = ft) && (if w < 100000 then decide (q_ws[w]? = some (.fieldLink M.1.cls idx (r.2.1 fk).1 (r.2.1 fk).2.1 (r.2.1 fk).2.2.1)) else if 200000 ≤ w then decide (q_ws[w - 200000]? = some (.fieldLink M.1.cls idx M.1.cls (r.2.1 fk).2.1 (r.2.1 fk).2.2.1)) && decide (Cond.sameField M.1.cls (r.2.1 fk).1 (r.2.1 fk).2.1 (r.2.1 fk).2.2.1 ∈ q_ws) else match q_nf[w - 100000]? with
    | none => false
    | some q => decide (q.1 = M.1.cls ∧ q.2.1 = idx ∧ q.2.2.1 = (r.2.1 fk).1 ∧ q.2.2.2.1 = (r.2.1 fk).2.1 ∧ q.2.2.2.2.1 = (r.2.1 fk).2.2.1))
def q_fin (ci fk : Nat) : Bool := match q_cl[ci]? with
  | none => true
  | some r => (r.2.1 fk).2.2.2
/-- what the tables must say of an instruction -/
def q_tok (M : q_M) (j : q_J) : Bool := match j with
  | (_, i, len, (ci, fk, ft, w), cv, cl) => match i with
    | .iconst n => decide (Int32.ofInt n = cv) && len == 1
    | .bipush n => decide ((Int8.ofInt n).toInt32 = cv) && len == 2
    | .sipush n => decide ((Int16.ofInt n).toInt32 = cv) && len == 3
    | .ldc idx => decide (q_ws[w]? = some (.constant M.1.cls idx cv)) && len == 2
    | .ldc_w idx => decide (q_ws[w]? = some (.constant M.1.cls idx cv)) && len == 3
    | .lconst n => decide (Int64.ofNat (n : Nat) = cl) && len == 1
    | .ldc2_w idx => decide (q_ws[w]? = some (.constantLong M.1.cls idx cl)) && len == 3
    | .iload _ => len == 2
    | .lload _ => len == 2
    | .aload _ => len == 2
    | .istore_n n => len == 1 && decide ((n : Nat) < M.2.2.1)
    | .istore n => len == 2 && decide (n < M.2.2.1)
    | .lstore_n n => len == 1 && decide ((n : Nat) + 1 < M.2.2.1)
    | .lstore n => len == 2 && decide (n + 1 < M.2.2.1)
    | .astore_n n => len == 1 && decide ((n : Nat) < M.2.2.1)
    | .astore n => len == 2 && decide (n < M.2.2.1)
    | .iinc n c => len == 3 && decide (n < M.2.2.1) && decide (Int32.ofInt c = cv)
    | .getfield idx => len == 3 && q_flok M idx ci fk ft w
    | .putfield idx => len == 3 && q_flok M idx ci fk ft w && (!(q_fin ci fk) || (decide (M.1.name = "<init>") && decide (w < 100000) && decide ((q_cl[ci]?.map (fun r => (r.2.1 fk).1)) = some M.1.cls)))
    | _ => len == 1
def q_ok (M : q_M) (j : q_J) : Prop := decode M.2.1 j.1 = .ok (j.2.1, j.2.2.1) ∧ q_tok M j = true
/-- the check of a method's instructions: those of blocks by the tables, the others by their bytes alone -/
def q_okb (M : q_M) (j : q_J) : Bool := decide (decode M.2.1 j.1 = .ok (j.2.1, j.2.2.1)) && (q_tok M j || j.2.2.2.1.2.2.2 == 999999)
theorem q_okb_dec {M : q_M} {cd : List q_J} (h : cd.all (q_okb M) = true) {j : q_J} (hj : j ∈ cd) : decode M.2.1 j.1 = .ok (j.2.1, j.2.2.1) := by
  have h1 := List.all_eq_true.mp h j hj
  unfold q_okb at h1
  rw [Bool.and_eq_true] at h1
  exact of_decide_eq_true h1.1
theorem q_okb_ok {M : q_M} {cd : List q_J} (h : cd.all (q_okb M) = true) {j : q_J} (hj : j ∈ cd) (hw : (j.2.2.2.1.2.2.2 == 999999) = false) : q_ok M j := by
  have h1 := List.all_eq_true.mp h j hj
  unfold q_okb at h1
  rw [Bool.and_eq_true, hw, Bool.or_false] at h1
  exact ⟨of_decide_eq_true h1.1, h1.2⟩
/-- an instruction by its place in the list -/
theorem q_at_i {M : q_M} {cd : List q_J} (h : cd.all (q_okb M) = true) (i : Nat) {j : q_J} (hj : cd[i]? = some j) : decode M.2.1 j.1 = .ok (j.2.1, j.2.2.1) := q_okb_dec h (List.mem_of_getElem? hj)
