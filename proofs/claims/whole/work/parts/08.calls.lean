/-! CALLS -/
section QCalls
variable {l : Launch} {cx : q_C} {M M' : q_M} {fr lw kc ks fr' lw' mc ms : Nat} {lo : List (Nat × q_V)} {st as : List q_V} {σ : q_S} {Q Q' : q_O → q_S → Prop} {pc : Nat}
/-- the callee comes back, or throws -/
theorem q_back {p : Program} {e : Env} {R : Room} {s : State} {m : MethodId} {args : Array Value} {below : List Frame} {meth : Method} {c : Code} {U : State} {locs : List Loc} {cells slots : Nat}
    (hM : q_Ct l cx M' fr' lw' mc ms as σ Q') (X : Stand p l e R s m args below meth c U locs cells slots) {g : JFrame} (hg : g.method = m) (hsize : g.locals.size = c.maxLocals) {ig : Instr} {len : Nat} (hdg : decode c.code g.pc = .ok (ig, len))
    (hW : 2 * g.monitorRoom + (g.stack.map fun v => v.category).sum ≤ 8) {mk : MethodId} (hn : U.methodNamed? M'.1 = some mk) (hF : q_F cx U) (hRep : q_Rep cx σ U.heap) (hws : ∀ w ∈ q_ws, ∀ a : Array Value, w.before a U = true)
    {methY : Method} {cY : Code} (hmY : U.vm.method? mk = some methY) (hcY : methY.code = some cY) (hlY : cY.maxLocals = M'.2.2.1) (hini : (Cond.initialized M'.1.cls).before args U = true)
    (hframes : fr' + 1 ≤ R.frames) (hlocals : 8 + (M'.2.2.1 + 11) + lw' ≤ R.locals) (hc : cells + mc ≤ R.cells) (hs : slots + ms ≤ R.slots) :
    ∃ (out : q_O) (τ : q_S) (B : State) (L : List Loc), Q' out τ ∧ q_Rep cx τ B.heap ∧ Stand p l e R s m args below meth c B (locs ++ L) (cells + mc) (slots + ms) ∧ (∀ q ∈ L, q_A cx q.base) ∧ U.heap.size ≤ B.heap.size ∧ (∀ q : Nat, q < U.heap.size → ¬ q_A cx q → B.heap[q]? = U.heap[q]?) ∧
      Steps p.tables e below (doInvoke e (U.setTop g) [] mk (as.map (q_tv cx)).toArray).1 (match out with
        | .inl v => B.setTop { g with pc := g.pc + len, stack := (v.map (q_tv cx)).toList ++ g.stack }
        | .inr n => (B.setTop g).pushFrame (.throwing (q_ad cx n))) := by
  obtain ⟨kY, hkY, -⟩ := className_of_methodNamed hn
  have hinitY : kY.init = .initialized := Cond.initialized_spec (findClass_of_methodNamed hn) hkY hini
  have h : At U g.method c below := by rw [hg]; exact X.here
  have happ : (headSpec q_ws { frames := fr', cells := mc, slots := ms, locals := lw' }).appliesLoose M'.1 e.platform (U.calling g mk (as.map (q_tv cx)).toArray) = true :=
    Spec.appliesLoose_calling (g := g) h hdg hn hkY hinitY
      (X.room_calling (g := g) (R' := { frames := fr', cells := mc, slots := ms, locals := lw' }) hsize hmY hcY hframes (by rw [hlY]; show _ + _ + lw' ≤ _; omega) hc hs) (atoms_intro fun w hw => hws w hw _)
  obtain ⟨mid, hmid⟩ := h.above
  have hfr : (U.setTop g).frames = (.java g :: mid) ++ below := by rw [State.frames_setTop' g h.top, hmid]; rfl
  obtain ⟨o, s₂, hsteps, -, hend, hq⟩ := Steps.callFree hM p X.admits X.cas X.clock (acts := []) hfr happ ⟨rfl, hRep, hF.moved (State.WarmedH.refl _) (fun _ _ _ => rfl)⟩ trivial
  have hq' : q_E cx Q' (U.calling g mk (as.map (q_tv cx)).toArray) o s₂ mc ms := hq
  rw [State.frames_setTop' g h.top] at hend
  obtain ⟨out, τ, L, hQ', hoc, hRep', hW₂, hsb, hL, hvF⟩ := hq'
  obtain ⟨e2, q2, q3, q4, q5, q6⟩ := hsb
  have e3 : s₂ = ({ (U.calling g mk (as.map (q_tv cx)).toArray).setFrames s₂.frames with heap := s₂.heap, slotsUsed := s₂.slotsUsed } : State).setVm s₂.vm := by
    have : s₂ = ({ s₂ with vm := (U.calling g mk (as.map (q_tv cx)).toArray).vm } : State).setVm s₂.vm := rfl
    rw [e2] at this
    exact this
  have hW' : U.WarmedH s₂.vm := hW₂
  obtain ⟨g₀, hg0⟩ := Option.isSome_iff_exists.mp h.top
  obtain ⟨r, hr⟩ := State.topJava?_eq_some.mp hg0
  have hr' : (({ U with heap := s₂.heap, slotsUsed := s₂.slotsUsed } : State).setVm s₂.vm).frames = .java g₀ :: r := hr
  have hsame : U.sameButNew ({ U with heap := s₂.heap, slotsUsed := s₂.slotsUsed } : State) L mc ms := by
    refine ⟨?_, q2, q3, q4, q5, q6⟩
    obtain ⟨t, ht, -⟩ := State.frames_cons hr
    show ({ U with heap := s₂.heap, slotsUsed := s₂.slotsUsed } : State) = { U.setFrames U.frames with heap := s₂.heap, slotsUsed := s₂.slotsUsed }
    rw [State.setFrames_self ht]
  subst hg
  have hStand : Stand p l e R s g.method args below meth c (({ U with heap := s₂.heap, slotsUsed := s₂.slotsUsed } : State).setVm s₂.vm) (locs ++ L) (cells + mc) (slots + ms) :=
    ⟨X.admits, X.cas, X.clock, X.frames, X.room, X.hears, X.method, X.code, (X.here.setHeapUsed s₂.heap s₂.slotsUsed).setVm hW'.alike, X.tail, State.WarmedH.trans X.warmed hW', X.limits, X.bytes, X.same.trans (hsame.setVm s.vm)⟩
  refine ⟨out, τ, ({ U with heap := s₂.heap, slotsUsed := s₂.slotsUsed } : State).setVm s₂.vm, L, hQ', hRep', hStand, hL, hvF.1, hvF.2, ?_⟩
  cases out with
  | inl v =>
    have ho : o = .returned (v.map (q_tv cx)) := hoc
    subst ho
    obtain ⟨c₂, i₂, len₂, hc₂, hd₂, hf₂⟩ := hend
    have hcc : c₂ = c := by
      have h1 : s₂.code? g.method = U.code? g.method := by
        rw [State.code?_eq, State.code?_eq, hW'.alike.method?]
      exact Option.some.inj (hc₂.symm.trans (h1.trans h.code))
    subst hcc
    have hlen : len₂ = len := by rw [hdg] at hd₂; cases hd₂; rfl
    subst hlen
    have hs₂ : s₂ = (({ U with heap := s₂.heap, slotsUsed := s₂.slotsUsed } : State).setVm s₂.vm).setTop { g with pc := g.pc + len₂, stack := (v.map (q_tv cx)).toList ++ g.stack } := by
      refine e3.trans ?_
      rw [hf₂, State.calling_eq h.top, State.setFrames_setFrames, State.setTop_of_frames _ hr', hr]
      rfl
    show Steps p.tables e below _ ((({ U with heap := s₂.heap, slotsUsed := s₂.slotsUsed } : State).setVm s₂.vm).setTop { g with pc := g.pc + len₂, stack := (v.map (q_tv cx)).toList ++ g.stack })
    rw [← hs₂]
    exact hsteps
  | inr n =>
    have ho : o = .threw (q_ad cx n) := hoc
    subst ho
    have hf₂ : s₂.frames = .throwing (q_ad cx n) :: .java g :: U.frames.tail := hend
    have hs₂ : s₂ = ((({ U with heap := s₂.heap, slotsUsed := s₂.slotsUsed } : State).setVm s₂.vm).setTop g).pushFrame (.throwing (q_ad cx n)) := by
      refine e3.trans ?_
      rw [hf₂, State.calling_eq h.top, State.setFrames_setFrames, State.pushFrame, State.frames_setTop _ hr', State.setTop_of_frames _ hr', State.setFrames_setFrames, hr]
      rfl
    show Steps p.tables e below _ (((({ U with heap := s₂.heap, slotsUsed := s₂.slotsUsed } : State).setVm s₂.vm).setTop g).pushFrame (.throwing (q_ad cx n)))
    rw [← hs₂]
    exact hsteps
/-- all words hold at a warmer state -/
theorem q_ws_at {s U : State} {args : Array Value} (hts : ∀ w ∈ q_ws, w.before args s = true) (hW : s.WarmedH U.vm) : ∀ w ∈ q_ws, ∀ a : Array Value, w.before a U = true :=
  fun w hw a => word_at hW (good_of_word (q_ws_good w hw)) (hts w hw)
/-- what follows a call: the rest of the walk, or the throw -/
theorem q_after {p : Program} {e : Env} {R : Room} {s : State} {m : MethodId} {args : Array Value} {below : List Frame} {meth : Method} {c : Code} {T T1 : State} {locs : List Loc} {cells slots len : Nat} {ls : Array Slot} {mk : MethodId}
    (hM : q_Ct l cx M' fr' lw' mc ms as σ Q') (X : q_X cx M p s m args meth c) (f1 : fr ≤ R.frames) (f2 : lw ≤ R.locals) (f3 : cells + (kc + mc) ≤ R.cells) (f4 : slots + (ks + ms) ≤ R.slots) (hR : q_Rep cx σ T.heap) (hS : va_S (q_A cx) s.heap T.heap locs) (hl : lv_has ls M.2.2.1 (q_lo cx lo))
    (X1 : Stand p l e R s m args below meth c T1 locs cells slots) (hT1 : T1.heap = T.heap) {ig : Instr} (hdg : decode M.2.1 pc = .ok (ig, len)) (hwt : (st.map (fun v => (q_tv cx v).category)).sum ≤ 8) (hn : s.methodNamed? M'.1 = some mk)
    {methY : Method} {cY : Code} (hmY : s.vm.method? mk = some methY) (hcY : methY.code = some cY) (hlY : cY.maxLocals = M'.2.2.1) (hini : Cond.initialized M'.1.cls ∈ q_ws) (hrm : fr' + 1 ≤ fr ∧ 8 + (M'.2.2.1 + 11) + lw' ≤ lw)
    (h : ∀ v τ, Q' (.inl v) τ → q_G l cx M fr lw kc ks (pc + len) lo (v.toList ++ st) τ Q) (hx : ∀ n τ, Q' (.inr n) τ → q_T l cx M fr lw kc ks pc lo n τ Q) :
    ∃ t, Steps p.tables e below (doInvoke e (T1.setTop (F0 m pc ls (st.map (q_tv cx)))) [] mk (as.map (q_tv cx)).toArray).1 t ∧ ∃ o, t.status = .running ∧ Ended t below o ∧ q_E cx Q s o t R.cells R.slots := by
  have hws := q_ws_at X.2.2.2.2.2.2.2.1 X1.warmed
  have hmY' : T1.vm.method? mk = some methY := by rw [X1.warmed.alike.method?]; exact hmY
  obtain ⟨out, τ, B, L, hQ', hRep', XB, hL, hz, hk, hst⟩ := q_back (U := T1) (g := F0 m pc ls (st.map (q_tv cx))) hM X1 rfl (hl.1.trans X.2.2.1.symm) (by rw [X.2.1]; exact hdg) (by
      show 2 * 0 + _ ≤ 8
      rw [List.map_map]
      have : ((fun v => v.category) ∘ q_tv cx : q_V → Nat) = fun v => (q_tv cx v).category := rfl
      rw [this]; omega) (X1.named hn) (X.2.2.2.2.2.2.2.2.1.moved X1.warmed (fun q h1 h2 => by rw [hT1]; exact hS.2.1 q h1 h2)) (by rw [hT1]; exact hR) hws hmY' hcY hlY (hws _ hini _) (by omega) (by omega) (by omega) (by omega)
  have hS' : va_S (q_A cx) s.heap B.heap (locs ++ L) := by
    rw [hT1] at hz hk
    refine ⟨Nat.le_trans hS.1 hz, fun q h1 h2 => (hk q (Nat.lt_of_lt_of_le h1 hS.1) h2).trans (hS.2.1 q h1 h2), fun q hq => ?_⟩
    rcases List.mem_append.mp hq with h1 | h1
    · exact hS.2.2 q h1
    · exact hL q h1
  cases out with
  | inl v =>
    have hw := h v τ hQ' p e R s m args below meth c B.heap (locs ++ L) (cells + mc) (slots + ms) ls X f1 f2 (by omega) (by omega) hRep' hS' hl
    obtain ⟨t, a1, a2⟩ := hw B rfl XB
    refine ⟨t, hst.trans ?_, a2⟩
    have e9 : (v.toList ++ st).map (q_tv cx) = (v.map (q_tv cx)).toList ++ st.map (q_tv cx) := by cases v <;> rfl
    rw [e9] at a1
    exact a1
  | inr n =>
    obtain ⟨t, a1, a2⟩ := hx n τ hQ' p e R s m args below meth c B (locs ++ L) (cells + mc) (slots + ms) ls (st.map (q_tv cx)) X f1 f2 (by omega) (by omega) hRep' hS' hl XB
    exact ⟨t, hst.trans a1, a2⟩
/-- a method's word, and what it says -/
theorem q_code {s : State} {args : Array Value} (hts : ∀ w ∈ q_ws, w.before args s = true) (hw : Cond.code M'.1 M'.2.1 M'.2.2.1 M'.2.2.2.1 ∈ q_ws ∨ Cond.codeWith M'.1 M'.2.1 M'.2.2.1 M'.2.2.2.1 M'.2.2.2.2 ∈ q_ws) :
    ∃ mk methY cY, s.methodNamed? M'.1 = some mk ∧ s.vm.method? mk = some methY ∧ methY.code = some cY ∧ cY.maxLocals = M'.2.2.1 ∧ parseMethodDescriptor M'.1.desc = some methY.sig := by
  rcases hw with hw | hw
  · obtain ⟨mk, hnamed⟩ := Cond.code_named (hts _ hw)
    obtain ⟨methM, cM, h1, h2, h3, h4, -, -, -, h5⟩ := Cond.code_spec hnamed (hts _ hw)
    exact ⟨mk, methM, cM, hnamed, h1, h2, h4, h5⟩
  · obtain ⟨mk, methM, cM, hnamed, h1, h2, h3, h4, -, -, -, h5⟩ := Cond.codeWith_spec (hts _ hw)
    exact ⟨mk, methM, cM, hnamed, h1, h2, h4, h5⟩
/-- the words of a call: its link (of the class itself, or of a nest mate), the callee's code, that its class is ready; numbers -/
def q_link (M M' : q_M) (idx : Nat) : Prop := Cond.methodLink M.1.cls idx M'.1 ∈ q_ws ∨ ∃ host : String, (M.1.cls, idx, M'.1, host) ∈ q_nm
def q_cw (M' : q_M) : Prop := (Cond.code M'.1 M'.2.1 M'.2.2.1 M'.2.2.2.1 ∈ q_ws ∨ Cond.codeWith M'.1 M'.2.1 M'.2.2.1 M'.2.2.2.1 M'.2.2.2.2 ∈ q_ws) ∧ Cond.initialized M'.1.cls ∈ q_ws ∧ (M'.1.cls ≠ "java/lang/invoke/MethodHandle" ∧ M'.1.cls ≠ "java/lang/invoke/VarHandle")
theorem q_callS {idx : Nat} (hM : q_Ct l cx M' fr' lw' mc ms as σ Q') (hd : decode M.2.1 pc = .ok (.invokestatic idx, 3)) (hlk : q_link M M' idx) (hcw : q_cw M') (hst : Cond.static M'.1 ∈ q_ws) (hnum : (parseMethodDescriptor M'.1.desc).map (fun d => d.parameters.length) = some as.length)
    (hwt : (st.map (fun v => (q_tv cx v).category)).sum ≤ 8) (hrm : fr' + 1 ≤ fr ∧ 8 + (M'.2.2.1 + 11) + lw' ≤ lw) (h : ∀ v τ, Q' (.inl v) τ → q_G l cx M fr lw kc ks (pc + 3) lo (v.toList ++ st) τ Q) (hx : ∀ n τ, Q' (.inr n) τ → q_T l cx M fr lw kc ks pc lo n τ Q) :
    q_G l cx M fr lw (kc + mc) (ks + ms) pc lo (as.reverse ++ st) σ Q := by
  intro p e R s m args below meth c H locs cells slots ls X f1 f2 f3 f4 hR hS hl T hT X9
  subst hT
  obtain ⟨mk, methY, cY, hn, hmY, hcY, hlY, hsig⟩ := q_code (M' := M') X.2.2.2.2.2.2.2.1 hcw.1
  have hts := X.2.2.2.2.2.2.2.1
  have hstatic : methY.isStatic = true := Cond.static_spec hn hmY (hts _ hst)
  obtain ⟨kP, hkP, -⟩ := className_of_methodNamed hn
  have hinitP : kP.init = .initialized := Cond.initialized_spec (findClass_of_methodNamed hn) hkP (hts _ hcw.2.1)
  have hlen : (as.map (q_tv cx)).length = methY.sig.parameters.length := by
    rw [hsig] at hnum
    rw [List.length_map]
    exact (Option.some.inj hnum).symm
  have hstack : (F0 m pc ls ((as.reverse ++ st).map (q_tv cx))).stack = (as.map (q_tv cx)).reverse ++ st.map (q_tv cx) := by
    show (as.reverse ++ st).map (q_tv cx) = _
    rw [List.map_append, List.map_reverse]
  have hdc : decode c.code pc = .ok (.invokestatic idx, 3) := by rw [X.2.1]; exact hd
  obtain ⟨vm₁, X₁, hstep₁⟩ : ∃ vm', Stand p l e R s m args below meth c (T.setVm vm') locs cells slots ∧
      ∀ target, (∀ acts, Steps p.tables e below (doInvoke e ((T.setVm vm').setTop { F0 m pc ls ((as.reverse ++ st).map (q_tv cx)) with stack := st.map (q_tv cx) }) acts mk (as.map (q_tv cx)).toArray).1 target) → Steps p.tables e below (T.setTop (F0 m pc ls ((as.reverse ++ st).map (q_tv cx)))) target := by
    rcases hlk with hw | ⟨host, hw⟩
    · exact X9.invokestatic X.1 X.2.2.2.2.2.2.1 (hts _ hw) hn hmY hstatic hkP hinitP hcw.2.2 (g := F0 m pc ls ((as.reverse ++ st).map (q_tv cx))) rfl hlen hstack hdc
    · exact X9.invokestaticNest X.1 X.2.2.2.2.2.2.1 (va_Nw.use rfl (X.2.2.2.2.2.2.2.2.1.2.2.2.1 _ hw)) hn hmY hstatic hkP hinitP hcw.2.2 (g := F0 m pc ls ((as.reverse ++ st).map (q_tv cx))) rfl hlen hstack hdc
  obtain ⟨t, a1, a2⟩ := q_after (T := T) (T1 := T.setVm vm₁) (ls := ls) hM X f1 f2 f3 f4 hR hS hl X₁ rfl hd hwt hn hmY hcY hlY hcw.2.1 hrm h hx
  exact ⟨t, hstep₁ _ (fun acts => by rw [doInvoke_state]; exact a1), a2⟩
end QCalls
