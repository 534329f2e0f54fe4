/-! THE JUDGEMENT: at pc, with these locals, this stack, this store, the method comes to its end with Q. -/
/-- a method: its name, bytes, locals, result, handlers -/
abbrev q_M : Type := MethodName × ByteArray × Nat × Option FieldType × List (Nat × Nat × Nat × Nat)
def q_A (cx : q_C) : Nat → Prop := fun q => q_b cx < q
/-- a static field that the class lays, in a cell that is only read -/
def q_ls (C n d : String) (A : Nat → Prop) (U : State) : Prop := ∃ (c i a : Nat) (k : Class) (f : Field) (cell : Cell), U.vm.findClass C = some c ∧ U.fieldFound? C n d = some (c, k, i, f) ∧ f.isStatic = true ∧ k.statics = some a ∧ U.heap[a]? = some cell ∧ cell.vm.isStatics = true ∧ cell.cls = c ∧ f.slot < cell.slots.size ∧ k.staticTypes[f.slot]? = some f.type ∧ ¬ A a
theorem q_ls.of {C n d : String} {A : Nat → Prop} {args : Array Value} {U : State} (h : (Cond.laysStatic C n d).before args U = true) (hA : ∀ a : Nat, a < U.heap.size → ¬ A a) : q_ls C n d A U := by
  obtain ⟨c, k, i, f, a, cell, hc, hi, hst, ha, hcell, hs, hcls, hlt, hty⟩ := Cond.laysStatic_spec h
  exact ⟨c, i, a, k, f, cell, hc, hi, hst, ha, hcell, hs, hcls, hlt, hty, hA a (Array.getElem?_eq_some_iff.mp hcell).1⟩
theorem q_ls.word {C n d : String} {A : Nat → Prop} {args : Array Value} {U : State} (h : q_ls C n d A U) : (Cond.laysStatic C n d).before args U = true := by
  obtain ⟨c, i, a, k, f, cell, hc, hi, hst, ha, hcell, hs, hcls, hlt, hty, -⟩ := h
  exact Cond.laysStatic_of hc hi hst ha hcell hs hcls hlt hty
theorem q_ls.moved {C n d : String} {A : Nat → Prop} {s U : State} (h : q_ls C n d A s) (hv : s.vm.Alike U.vm) (hq : ∀ q : Nat, q < s.heap.size → ¬ A q → U.heap[q]? = s.heap[q]?) : q_ls C n d A U := by
  obtain ⟨c, i, a, k, f, cell, hc, hi, hst, ha, hcell, hs, hcls, hlt, hty, hA⟩ := h
  obtain ⟨k', hi', hek⟩ := State.fieldFound?_setVm hv hi
  exact ⟨c, i, a, k', f, cell, by rw [hv.findClass]; exact hc, hi', hst, by rw [hek]; exact ha, by rw [hq a (Array.getElem?_eq_some_iff.mp hcell).1 hA]; exact hcell, hs, hcls, hlt, by rw [hek]; exact hty, hA⟩
/-- a cast that does not hold -/
def q_nc (x y : String) (U : State) : Prop := ∃ c t, U.vm.findClass x = some c ∧ U.vm.findClass y = some t ∧ U.vm.assignable c t = false
theorem q_nc.of {x y : String} {args : Array Value} {U : State} {c t : Nat} (hx : U.vm.findClass x = some c) (hy : U.vm.findClass y = some t) (h : (Cond.not (.castable x y)).before args U = true) : q_nc x y U := by
  have hv := Cond.holds_not_iff.mp h
  simp only [Cond.value, hx, hy] at hv
  exact ⟨c, t, hx, hy, Option.some.inj hv⟩
theorem q_nc.moved {x y : String} {s U : State} (h : q_nc x y s) (hv : s.vm.Alike U.vm) : q_nc x y U := by
  obtain ⟨c, t, h1, h2, h3⟩ := h
  exact ⟨c, t, by rw [hv.findClass]; exact h1, by rw [hv.findClass]; exact h2, by rw [hv.assignable]; exact h3⟩
/-- texts, casts, the array class over Object, its class object, getClass, statics that are references of which nothing is said, declared methods -/
def q_F2 (cx : q_C) (U : State) : Prop :=
  (∀ q ∈ q_str, vk_R q.1 q.2.1 q.2.2.1 (q_ad cx q.2.2.2) U) ∧ (∀ q ∈ q_cast, va_Nw (.castable q.1 q.2) U) ∧ va_AO "java/lang/Object" U ∧ va_Mi "[Ljava/lang/Object;" (q_ad cx 10000200) U ∧ va_Dc U ∧ (∀ q ∈ q_statq, va_Zq q.1 q.2.1 q.2.2 (q_A cx) U U.heap) ∧ (∀ w ∈ q_dec, va_Nw (.declares w) U) ∧ (∀ q ∈ q_lst, q_ls q.1 q.2.1 q.2.2 (q_A cx) U) ∧ (∀ q ∈ q_nca, q_nc q.1 q.2 U)
theorem q_F2.moved {cx : q_C} {s U : State} (h : q_F2 cx s) (hW : s.WarmedH U.vm) (hq : ∀ q : Nat, q < s.heap.size → ¬ q_A cx q → U.heap[q]? = s.heap[q]?) : q_F2 cx U := by
  obtain ⟨h1, h2, h3, h4, h5, h6, h7, h8, h9⟩ := h
  refine ⟨fun q hm => (h1 q hm).warm hW, fun q hm => va_Nw.warmC hW (h2 q hm), h3.moved hW.alike, h4.moved hW.alike, h5.moved hW.alike, fun q hm => ?_, fun w hm => va_Nw.warmD hW (h7 w hm), fun q hm => (h8 q hm).moved hW.alike hq, fun q hm => (h9 q hm).moved hW.alike⟩
  exact va_Zq.moved hW.alike ((h6 q hm).kept hq)
/-- what holds of the tables, and of what is only read, at a state -/
def q_F (cx : q_C) (U : State) : Prop :=
  va_K cx.1 q_cl [] U ∧ (∀ t, t < q_nta → ArrOfT U (cx.2.1 t) (q_ta t) ∧ va_RA U (cx.2.1 t) (q_ta t)) ∧ (∀ q ∈ q_nf, va_Nw (.fieldLinkNest q.1 q.2.1 q.2.2.1 q.2.2.2.1 q.2.2.2.2.1 q.2.2.2.2.2) U) ∧ (∀ q ∈ q_nm, va_Nw (.methodLinkNest q.1 q.2.1 q.2.2.1 q.2.2.2) U) ∧
  (∀ q ∈ q_stat, va_Z q.1 q.2.1 q.2.2.1 (q_tr cx q.2.2.2) (q_A cx) U U.heap) ∧ (∀ a, 10000000 ≤ a → a < 10000000 + q_nro → va_T (q_rty a) (q_ad cx a) (cx.2.2.2.2 a).1 (fun j => .int ((cx.2.2.2.2 a).2 j)) (q_A cx) U U.heap) ∧
  (∀ q ∈ q_if, va_Fw q.1 q.2.1 q.2.2 U) ∧ q_F2 cx U
theorem q_if_mh : ∀ q ∈ q_if, q.2.1.cls ≠ "java/lang/invoke/MethodHandle" ∧ q.2.1.cls ≠ "java/lang/invoke/VarHandle" := by decide +kernel
theorem q_F.moved {cx : q_C} {s U : State} (h : q_F cx s) (hW : s.WarmedH U.vm) (hq : ∀ q : Nat, q < s.heap.size → ¬ q_A cx q → U.heap[q]? = s.heap[q]?) : q_F cx U := by
  obtain ⟨h1, h2, h3, h4, h5, h6, h7, h8⟩ := h
  refine ⟨va_K.moved hW.alike h1, fun t ht => ⟨arrOfT_moved hW.alike (h2 t ht).1, (h2 t ht).2.moved hW.alike⟩, fun q hq => va_Nw.warmF hW (h3 q hq), fun q hq => va_Nw.warmM hW (h4 q hq), fun q hm => ?_, fun a ha hb => ?_, fun q hm => va_Fw.moved (q_if_mh q hm) hW.alike (h7 q hm), h8.moved hW hq⟩
  · exact va_Z.moved hW.alike ((h5 q hm).kept hq)
  · exact va_T.moved hW.alike ((h6 a ha hb).kept hq)
def q_X (cx : q_C) (M : q_M) (p : Program) (s : State) (m : MethodId) (args : Array Value) (meth : Method) (c : Code) : Prop :=
  p.tables.exec = Jvm.exec ∧ c.code = M.2.1 ∧ c.maxLocals = M.2.2.1 ∧ meth.sig.returnType = M.2.2.2.1 ∧ meth.locks = false ∧ meth.name = M.1.name ∧ s.vm.findClass M.1.cls = some m.cls ∧ (∀ w ∈ q_ws, w.before args s = true) ∧ q_F cx s ∧
  c.exceptionTable.toList.map (fun h => (h.startPc, h.endPc, h.handlerPc, h.catchType)) = M.2.2.2.2
abbrev q_O : Type := Option q_V ⊕ Nat
def q_oc (cx : q_C) (out : q_O) (o : Outcome) : Prop := match out with
  | .inl v => o = .returned (v.map (q_tv cx))
  | .inr n => o = .threw (q_ad cx n)
def q_E (cx : q_C) (Q : q_O → q_S → Prop) (s : State) (o : Outcome) (t : State) (mc ms : Nat) : Prop :=
  ∃ (out : q_O) (σ : q_S) (L : List Loc), Q out σ ∧ q_oc cx out o ∧ q_Rep cx σ t.heap ∧ s.WarmedH t.vm ∧ s.sameButNew ({ t with vm := s.vm } : State) L mc ms ∧ (∀ q ∈ L, q_A cx q.base) ∧ va_F (q_A cx) s t
abbrev q_lo (cx : q_C) (lo : List (Nat × q_V)) : List (Nat × Value) := lo.map (fun q => (q.1, q_tv cx q.2))
def q_G (l : Launch) (cx : q_C) (M : q_M) (fr lw kc ks : Nat) (pc : Nat) (lo : List (Nat × q_V)) (st : List q_V) (σ : q_S) (Q : q_O → q_S → Prop) : Prop :=
  ∀ (p : Program) (e : Env) (R : Room) (s : State) (m : MethodId) (args : Array Value) (below : List Frame) (meth : Method) (c : Code) (H : Heap) (locs : List Loc) (cells slots : Nat) (ls : Array Slot),
    q_X cx M p s m args meth c → fr ≤ R.frames → lw ≤ R.locals → cells + kc ≤ R.cells → slots + ks ≤ R.slots → q_Rep cx σ H → va_S (q_A cx) s.heap H locs → lv_has ls M.2.2.1 (q_lo cx lo) →
    W p l e R s m args below meth c H locs cells slots (fun t => ∃ o, t.status = .running ∧ Ended t below o ∧ q_E cx Q s o t R.cells R.slots) (F0 m pc ls (st.map (q_tv cx)))
def q_Ct (l : Launch) (cx : q_C) (M : q_M) (fr lw mc ms : Nat) (as : List q_V) (σ : q_S) (Q : q_O → q_S → Prop) : Prop :=
  MetFree l M.1 (headSpec q_ws { frames := fr, cells := mc, slots := ms, locals := lw }) (fun a U => a = (as.map (q_tv cx)).toArray ∧ q_Rep cx σ U.heap ∧ q_F cx U) (fun _ _ _ _ _ => True) (fun _ s o t => q_E cx Q s o t mc ms)
def q_args : Nat → List q_V → List (Nat × q_V)
  | _, [] => []
  | i, .inl x :: vs => (i, .inl x) :: q_args (i + 1) vs
  | i, .inr (.inl x) :: vs => (i, .inr (.inl x)) :: q_args (i + 2) vs
  | i, .inr (.inr x) :: vs => (i, .inr (.inr x)) :: q_args (i + 1) vs
theorem q_cat_r (cx : q_C) (n : Nat) : (q_tr cx n).category = 1 := by
  unfold q_tr
  split <;> rfl
theorem q_args_eq (cx : q_C) (vs : List q_V) : ∀ i, lv_args i (vs.map (q_tv cx)) = q_lo cx (q_args i vs) := by
  induction vs with
  | nil => intro i; rfl
  | cons v vs ih =>
    intro i
    match v with
    | .inl x =>
      show (i, Value.int x) :: lv_args (i + 1) (vs.map (q_tv cx)) = _
      rw [ih]; rfl
    | .inr (.inl x) =>
      show (i, Value.long x) :: lv_args (i + 2) (vs.map (q_tv cx)) = _
      rw [ih]; rfl
    | .inr (.inr x) =>
      show (i, q_tr cx x) :: lv_args (if (q_tr cx x).category = 2 then i + 2 else i + 1) (vs.map (q_tv cx)) = _
      rw [q_cat_r, if_neg (by decide), ih]; rfl
/-- how many places the arguments take -/
def q_wd : List q_V → Nat
  | [] => 0
  | .inl _ :: vs => q_wd vs + 1
  | .inr (.inl _) :: vs => q_wd vs + 2
  | .inr (.inr _) :: vs => q_wd vs + 1
theorem q_wd_eq (cx : q_C) (vs : List q_V) : (lg_sl (vs.map (q_tv cx))).length = q_wd vs := by
  induction vs with
  | nil => rfl
  | cons v vs ih =>
    have h : (lg_sl ((v :: vs).map (q_tv cx))) = lg_sl [q_tv cx v] ++ lg_sl (vs.map (q_tv cx)) := by simp [lg_sl]
    rw [h, List.length_append, ih]
    match v with
    | .inl x => simp [lg_sl, q_tv, Value.category, q_wd]; omega
    | .inr (.inl x) => simp [lg_sl, q_tv, Value.category, q_wd]; omega
    | .inr (.inr x) => simp [lg_sl, q_tv, q_cat_r, q_wd]; omega
/-- a contract out of a walk -/
theorem q_Ct.of {l : Launch} {cx : q_C} {M : q_M} {fr lw mc ms : Nat} {as : List q_V} {σ : q_S} {Q : q_O → q_S → Prop} (hy : plainFor M.1 = true) (hw : Cond.code M.1 M.2.1 M.2.2.1 M.2.2.2.1 ∈ q_ws) (hh : M.2.2.2.2 = []) (hn : q_wd as ≤ M.2.2.1)
    (h : q_G l cx M fr lw mc ms 0 (q_args 0 as) [] σ Q) : q_Ct l cx M fr lw mc ms as σ Q := by
  refine MetFree.of_bodySF (code := M.2.1) (maxLocals := M.2.2.1) (ret := M.2.2.2.1) hy ?_ ?_
  · intro args s m h hn
    obtain ⟨meth, c, h1, h2, h3, h4, h5, h6, -, -⟩ := Cond.code_spec hn (atoms_spec (ws := q_ws) h _ hw)
    exact ⟨meth, c, h1, h2, h3, h4, h5, h6⟩
  · intro p e s m args below meth c s₁ B hml hP _
    obtain ⟨rfl, hR, hF⟩ := hP
    have hh0 : s₁.heap = s.heap := by rw [B.state]; rfl
    have hts := atoms_spec (ws := q_ws) B.pre
    have hemp : c.exceptionTable.isEmpty = true := B.noHandlers (hts _ hw)
    have hX : q_X cx M p s m _ meth c := ⟨B.exec, B.bytes, hml, B.returns, B.notSynchronized, (name_of_methodNamed B.named B.method).1, findClass_of_methodNamed B.named, hts, hF, by
      rw [hh]
      have : c.exceptionTable = #[] := by simpa using hemp
      rw [this]; rfl⟩
    have hl := lv_entry (as.map (q_tv cx)) (n := M.2.2.1) (by rw [q_wd_eq]; exact hn)
    rw [q_args_eq] at hl
    have K := h p e (headSpec q_ws { frames := fr, cells := mc, slots := ms, locals := lw }).room s m _ below meth c s.heap [] 0 0 _ hX (Nat.le_refl _) (Nat.le_refl _) (by show 0 + mc ≤ mc; omega) (by show 0 + ms ≤ ms; omega) hR va_S.rf hl
    rw [List.map_nil, ← lg_entry_eq] at K
    obtain ⟨t, a1, o, b1, b2, b3⟩ := K s₁ hh0 (Stand.of_body B)
    exact ⟨t, o, a1, b1, b2, b3⟩
