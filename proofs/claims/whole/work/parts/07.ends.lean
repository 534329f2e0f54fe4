/-! BRANCHES AND ENDS -/
section QEnds
variable {l : Launch} {cx : q_C} {M : q_M} {fr lw kc ks : Nat} {lo : List (Nat × q_V)} {st : List q_V} {σ : q_S} {Q : q_O → q_S → Prop} {pc : Nat}
/-- fewer locals, in any order -/
theorem q_sub {lo' : List (Nat × q_V)} (hs : ∀ q ∈ lo', q ∈ lo) (h : q_G l cx M fr lw kc ks pc lo' st σ Q) : q_G l cx M fr lw kc ks pc lo st σ Q := by
  intro p e R s m args below meth c H locs cells slots ls X f1 f2 f3 f4 hR hS hl
  refine h p e R s m args below meth c H locs cells slots ls X f1 f2 f3 f4 hR hS ⟨hl.1, hl.2.1, fun q hq => ?_⟩
  obtain ⟨q', h1, rfl⟩ := List.mem_map.mp hq
  exact hl.2.2 _ (List.mem_map.mpr ⟨q', hs q' h1, rfl⟩)
/-- less room needed -/
theorem q_less {kc' ks' : Nat} (h1 : kc' ≤ kc) (h2 : ks' ≤ ks) (h : q_G l cx M fr lw kc' ks' pc lo st σ Q) : q_G l cx M fr lw kc ks pc lo st σ Q := by
  intro p e R s m args below meth c H locs cells slots ls X f1 f2 f3 f4 hR hS hl
  exact h p e R s m args below meth c H locs cells slots ls X f1 f2 (by omega) (by omega) hR hS hl
theorem q_goto {off : Int} {tgt : Nat} (hd : decode M.2.1 pc = .ok (.goto off, 3)) (ht : (pc : Int) + off = (tgt : Int)) (h : q_G l cx M fr lw kc ks tgt lo st σ Q) : q_G l cx M fr lw kc ks pc lo st σ Q := by
  intro p e R s m args below meth c H locs cells slots ls X f1 f2 f3 f4 hR hS hl
  exact lv_goto X.1 X.2.1 hd ht (h p e R s m args below meth c H locs cells slots ls X f1 f2 f3 f4 hR hS hl)
def q_cd (cd : ClassFile.Cond) (x y : Int32) : Prop := match cd with
  | .eq => x = y
  | .ne => ¬ x = y
  | .lt => x < y
  | .ge => y ≤ x
  | .gt => y < x
  | .le => x ≤ y
theorem q_icmp {cd : ClassFile.Cond} {off : Int} {tgt : Nat} {x y : Int32} (hd : decode M.2.1 pc = .ok (.if_icmp cd off, 3)) (ht : (pc : Int) + off = (tgt : Int)) (kt : q_cd cd x y → q_G l cx M fr lw kc ks tgt lo st σ Q) (kf : ¬ q_cd cd x y → q_G l cx M fr lw kc ks (pc + 3) lo st σ Q) :
    q_G l cx M fr lw kc ks pc lo (.inl y :: .inl x :: st) σ Q := by
  intro p e R s m args below meth c H locs cells slots ls X f1 f2 f3 f4 hR hS hl
  have kt' := fun h => kt h p e R s m args below meth c H locs cells slots ls X f1 f2 f3 f4 hR hS hl
  have kf' := fun h => kf h p e R s m args below meth c H locs cells slots ls X f1 f2 f3 f4 hR hS hl
  cases cd
  · exact lv_icmp_eq X.1 X.2.1 hd ht kt' kf'
  · exact lv_icmp_ne X.1 X.2.1 hd ht kt' (fun h => kf' (fun g => g h))
  · exact lv_icmp_lt X.1 X.2.1 hd ht kt' kf'
  · exact lv_icmp_ge X.1 X.2.1 hd ht kt' kf'
  · exact lv_icmp_gt X.1 X.2.1 hd ht kt' kf'
  · exact lv_icmp_le X.1 X.2.1 hd ht kt' kf'
theorem q_ifz {cd : ClassFile.Cond} {off : Int} {tgt : Nat} {x : Int32} (hd : decode M.2.1 pc = .ok (.ifCond cd off, 3)) (ht : (pc : Int) + off = (tgt : Int)) (kt : q_cd cd x 0 → q_G l cx M fr lw kc ks tgt lo st σ Q) (kf : ¬ q_cd cd x 0 → q_G l cx M fr lw kc ks (pc + 3) lo st σ Q) :
    q_G l cx M fr lw kc ks pc lo (.inl x :: st) σ Q := by
  intro p e R s m args below meth c H locs cells slots ls X f1 f2 f3 f4 hR hS hl
  have kt' := fun h => kt h p e R s m args below meth c H locs cells slots ls X f1 f2 f3 f4 hR hS hl
  have kf' := fun h => kf h p e R s m args below meth c H locs cells slots ls X f1 f2 f3 f4 hR hS hl
  cases cd
  · exact lv_if_eq X.1 X.2.1 hd ht kt' kf'
  · exact lv_if_ne X.1 X.2.1 hd ht kt' (fun h => kf' (fun g => g h))
  · exact lv_if_lt X.1 X.2.1 hd ht kt' kf'
  · exact lv_if_ge X.1 X.2.1 hd ht kt' kf'
  · exact lv_if_gt X.1 X.2.1 hd ht kt' kf'
  · exact lv_if_le X.1 X.2.1 hd ht kt' kf'
theorem q_Wmono {p : Program} {e : Env} {R : Room} {s : State} {m : MethodId} {args : Array Value} {below : List Frame} {meth : Method} {c : Code} {H : Heap} {locs : List Loc} {cells slots : Nat} {Q1 Q2 : State → Prop} {g : JFrame} (h : ∀ t, Q1 t → Q2 t) (k : W p l e R s m args below meth c H locs cells slots Q1 g) : W p l e R s m args below meth c H locs cells slots Q2 g := by
  intro T hT X
  obtain ⟨t, a, b⟩ := k T hT X
  exact ⟨t, a, h t b⟩
theorem q_MQ {below : List Frame} {s : State} {args : Array Value} {H : Heap} {locs : List Loc} {mc ms : Nat} {out : q_O} {o0 : Outcome} (hQ : Q out σ) (ho : q_oc cx out o0) (hR : q_Rep cx σ H) (hS : va_S (q_A cx) s.heap H locs) (t : State) (h : MQ below (fun _ _ o t => o = o0 ∧ t.heap = H) args s mc ms (q_A cx) t) : ∃ o, t.status = .running ∧ Ended t below o ∧ q_E cx Q s o t mc ms := by
  obtain ⟨o, a1, a2, ⟨rfl, a3⟩, L, ⟨a4, a5, a6⟩, a7⟩ := h
  exact ⟨_, a1, a2, out, σ, L, hQ, ho, by rw [a3]; exact hR, a5, a6, a7, hS.F a3⟩
theorem q_ireturn {v : Int32} (hd : decode M.2.1 pc = .ok (.ireturn, 1)) (hr : M.2.2.2.1 = some .int) (hQ : Q (.inl (some (.inl v))) σ) : q_G l cx M fr lw kc ks pc lo [.inl v] σ Q := by
  intro p e R s m args below meth c H locs cells slots ls X f1 f2 f3 f4 hR hS hl
  refine W.widen (k := R.cells) (n := R.slots) (by omega) (by omega) ?_
  exact q_Wmono (q_MQ (out := .inl (some (.inl v))) hQ rfl hR hS) (W.iret (v := v) X.1 X.2.1 (X.2.2.2.1.trans hr) (fun t h1 _ => ⟨rfl, h1⟩) hS.2.2 hd X.2.2.2.2.1)
theorem q_zreturn {v : Int32} (hd : decode M.2.1 pc = .ok (.ireturn, 1)) (hr : M.2.2.2.1 = some .boolean) (hv : v = 0 ∨ v = 1) (hQ : Q (.inl (some (.inl v))) σ) : q_G l cx M fr lw kc ks pc lo [.inl v] σ Q := by
  intro p e R s m args below meth c H locs cells slots ls X f1 f2 f3 f4 hR hS hl
  refine W.widen (k := R.cells) (n := R.slots) (by omega) (by omega) ?_
  exact q_Wmono (q_MQ (out := .inl (some (.inl v))) hQ rfl hR hS) (W.zret (v := v) X.1 X.2.1 (X.2.2.2.1.trans hr) (by rcases hv with rfl | rfl <;> rfl) (fun t h1 _ => ⟨rfl, h1⟩) hS.2.2 hd X.2.2.2.2.1)
theorem q_lreturn {v : Int64} (hd : decode M.2.1 pc = .ok (.lreturn, 1)) (hr : M.2.2.2.1 = some .long) (hQ : Q (.inl (some (.inr (.inl v)))) σ) : q_G l cx M fr lw kc ks pc lo [.inr (.inl v)] σ Q := by
  intro p e R s m args below meth c H locs cells slots ls X f1 f2 f3 f4 hR hS hl
  refine W.widen (k := R.cells) (n := R.slots) (by omega) (by omega) ?_
  exact q_Wmono (q_MQ (out := .inl (some (.inr (.inl v)))) hQ rfl hR hS) (W.lret (v := v) X.1 X.2.1 (X.2.2.2.1.trans hr) (fun t h1 _ => ⟨rfl, h1⟩) hS.2.2 hd X.2.2.2.2.1)
theorem q_vreturn (hd : decode M.2.1 pc = .ok (.return_, 1)) (hr : M.2.2.2.1 = none) (hQ : Q (.inl none) σ) : q_G l cx M fr lw kc ks pc lo [] σ Q := by
  intro p e R s m args below meth c H locs cells slots ls X f1 f2 f3 f4 hR hS hl
  refine W.widen (k := R.cells) (n := R.slots) (by omega) (by omega) ?_
  exact q_Wmono (q_MQ (out := .inl none) hQ rfl hR hS) (W.vret X.1 X.2.1 (X.2.2.2.1.trans hr) (fun t h1 _ => ⟨rfl, h1⟩) hS.2.2 hd X.2.2.2.2.1)
theorem q_areturn {v : Nat} (hd : decode M.2.1 pc = .ok (.areturn, 1)) {rt : FieldType} (hr : M.2.2.2.1 = some rt) (hrt : (∃ n, rt = .object n) ∨ ∃ t, rt = .array t) (hQ : Q (.inl (some (.inr (.inr v)))) σ) : q_G l cx M fr lw kc ks pc lo [.inr (.inr v)] σ Q := by
  intro p e R s m args below meth c H locs cells slots ls X f1 f2 f3 f4 hR hS hl
  refine W.widen (k := R.cells) (n := R.slots) (by omega) (by omega) ?_
  exact q_Wmono (q_MQ (out := .inl (some (.inr (.inr v)))) hQ rfl hR hS) (W.aret (v := q_tr cx v) X.1 X.2.1 (X.2.2.2.1.trans hr) hrt (by unfold q_tr; split; exact Or.inl rfl; exact Or.inr ⟨_, rfl⟩) (fun t h1 _ => ⟨rfl, h1⟩) hS.2.2 hd X.2.2.2.2.1)
/-- an exception leaves, or is caught: what holds where it stands over the method's frame -/
def q_T (l : Launch) (cx : q_C) (M : q_M) (fr lw kc ks : Nat) (pc : Nat) (lo : List (Nat × q_V)) (n : Nat) (σ : q_S) (Q : q_O → q_S → Prop) : Prop :=
  ∀ (p : Program) (e : Env) (R : Room) (s : State) (m : MethodId) (args : Array Value) (below : List Frame) (meth : Method) (c : Code) (T : State) (locs : List Loc) (cells slots : Nat) (ls : Array Slot) (stv : List Value),
    q_X cx M p s m args meth c → fr ≤ R.frames → lw ≤ R.locals → cells + kc ≤ R.cells → slots + ks ≤ R.slots → q_Rep cx σ T.heap → va_S (q_A cx) s.heap T.heap locs → lv_has ls M.2.2.1 (q_lo cx lo) → Stand p l e R s m args below meth c T locs cells slots →
    ∃ t, Steps p.tables e below ((T.setTop (F0 m pc ls stv)).pushFrame (.throwing (q_ad cx n))) t ∧ ∃ o, t.status = .running ∧ Ended t below o ∧ q_E cx Q s o t R.cells R.slots
theorem q_T.leave {n : Nat} (hh : M.2.2.2.2 = []) (hQ : Q (.inr n) σ) : q_T l cx M fr lw kc ks pc lo n σ Q := by
  intro p e R s m args below meth c T locs cells slots ls stv X f1 f2 f3 f4 hR hS hl X9
  have hemp : c.exceptionTable.toList = [] := by
    have h1 := X.2.2.2.2.2.2.2.2.2
    rw [hh] at h1
    exact List.map_eq_nil_iff.mp h1
  have X8 := stand_widen (k := R.cells) (n := R.slots) X9 (by omega) (by omega)
  obtain ⟨a1, a2, a3, a4, a5⟩ := X8.leaveThrown (q_ad cx n) (g := F0 m pc ls stv) rfl rfl rfl (by rw [hemp]; intro x hx; cases hx) X.2.2.2.2.1
  exact ⟨_, a1, _, a2, a3, .inr n, σ, locs, hQ, rfl, hR, a4, a5, hS.2.2, hS.1, hS.2.1⟩
theorem q_athrow {n : Nat} (hd : decode M.2.1 pc = .ok (.athrow, 1)) (hn : 0 < n) (h : q_T l cx M fr lw kc ks pc lo n σ Q) : q_G l cx M fr lw kc ks pc lo (.inr (.inr n) :: st) σ Q := by
  intro p e R s m args below meth c H locs cells slots ls X f1 f2 f3 f4 hR hS hl
  rw [q_ref hn]
  intro T hT X9
  subst hT
  obtain ⟨t, a1, a2⟩ := h p e R s m args below meth c T locs cells slots ls (st.map (q_tv cx)) X f1 f2 f3 f4 hR hS hl X9
  refine ⟨t, ?_, a2⟩
  have hx := X.1
  have hb := X.2.1
  have hd' : decode c.code pc = .ok (.athrow, 1) := by rw [hb]; exact hd
  jvm_step X9.here [hx, hd', athrow.wp_sem]
  exact a1
end QEnds
