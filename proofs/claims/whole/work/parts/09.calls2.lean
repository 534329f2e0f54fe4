/-! MORE CALLS, NEW CELLS -/
section QCalls2
variable {l : Launch} {cx : q_C} {M M' : q_M} {fr lw kc ks fr' lw' mc ms : Nat} {lo : List (Nat × q_V)} {st as : List q_V} {σ : q_S} {Q Q' : q_O → q_S → Prop} {pc : Nat}
/-- the receiver -/
theorem q_recv {s : State} {H : Heap} {a ci : Nat} {r : vw_C} (hF : q_F cx s) (hR : q_Rep cx σ H) (hK : q_K σ a = ci + 1) (hc : q_cl[ci]? = some r) : ∃ cell : Cell, H[q_ad cx a]? = some cell ∧ cell.vm.isStatics = false ∧ s.vm.findClass r.1 = some cell.cls ∧ ∃ kC, s.vm.classes[cell.cls]? = some kC := by
  obtain ⟨r', h1, cell, g1, g2, g3, -⟩ := hR.obj hK (q_cl_ok ci r hc).1
  cases hc.symm.trans h1
  obtain ⟨-, hfc, kC, hkC, -⟩ := hF.1.1 ci r hc
  exact ⟨cell, g1, by rw [g3]; rfl, by rw [g2]; exact hfc, kC, by rw [g2]; exact hkC⟩
theorem q_stk {a : Nat} (hp : 0 < a) : (as.reverse ++ q_r a :: st).map (q_tv cx) = (as.map (q_tv cx)).reverse ++ .ref (q_ad cx a) :: st.map (q_tv cx) := by
  rw [List.map_append, List.map_reverse, q_ref hp]
theorem q_callV {idx ci a : Nat} {r : vw_C} (hM : q_Ct l cx M' fr' lw' mc ms (q_r a :: as) σ Q') (hd : decode M.2.1 pc = .ok (.invokevirtual idx, 3)) (hlk : q_link M M' idx) (hcw : q_cw M') (hin : Cond.instanceMethod M'.1 ∈ q_ws) (hc : q_cl[ci]? = some r) (hse : Cond.selects r.1 M'.1 M'.1 ∈ q_ws)
    (hnum : (parseMethodDescriptor M'.1.desc).map (fun d => d.parameters.length) = some as.length) (hwt : (st.map (fun v => (q_tv cx v).category)).sum ≤ 8) (hrm : fr' + 1 ≤ fr ∧ 8 + (M'.2.2.1 + 11) + lw' ≤ lw) (hK : q_K σ a = ci + 1)
    (h : ∀ v τ, Q' (.inl v) τ → q_G l cx M fr lw kc ks (pc + 3) lo (v.toList ++ st) τ Q) (hx : ∀ n τ, Q' (.inr n) τ → q_T l cx M fr lw kc ks pc lo n τ Q) :
    q_G l cx M fr lw (kc + mc) (ks + ms) pc lo (as.reverse ++ q_r a :: st) σ Q := by
  intro p e R s m args below meth c H locs cells slots ls X f1 f2 f3 f4 hR hS hl
  have hp := hR.pos (a := a) (by omega)
  rw [q_stk hp]
  intro T hT X9
  subst hT
  obtain ⟨mk, methY, cY, hn, hmY, hcY, hlY, hsig⟩ := q_code (M' := M') X.2.2.2.2.2.2.2.1 hcw.1
  have hts := X.2.2.2.2.2.2.2.1
  obtain ⟨cellB, hcB, hoB, hclB, -⟩ := q_recv X.2.2.2.2.2.2.2.2.1 hR hK hc
  obtain ⟨mk2, methM, hnamed, hmethM, hstM, habM⟩ := Cond.instanceMethod_spec (hts _ hin)
  cases hn.symm.trans hnamed
  cases hmY.symm.trans hmethM
  obtain ⟨c2, r2, m2, q1, q2, q3, q4, kP, hkP, hkPi⟩ := Cond.selects_spec (hts _ hse)
  cases hclB.symm.trans q1
  cases (State.methodFound?_of_named hnamed hcw.2.2).symm.trans q2
  cases hnamed.symm.trans q3
  have hselP : selectMethod e.platform s.vm cellB.cls mk = .method mk := by rw [Launch.admits_selectMethod X9.admits]; exact q4
  have hlen : (as.map (q_tv cx)).length = methY.sig.parameters.length := by
    rw [hsig] at hnum
    rw [List.length_map]
    exact (Option.some.inj hnum).symm
  have hdc : decode c.code pc = .ok (.invokevirtual idx, 3) := by rw [X.2.1]; exact hd
  obtain ⟨vm₁, X₁, hstep₁⟩ : ∃ vm', Stand p l e R s m args below meth c (T.setVm vm') locs cells slots ∧
      ∀ target, (∀ acts, Steps p.tables e below (doInvoke e ((T.setVm vm').setTop { F0 m pc ls ((as.map (q_tv cx)).reverse ++ .ref (q_ad cx a) :: st.map (q_tv cx)) with stack := st.map (q_tv cx) }) acts mk (.ref (q_ad cx a) :: as.map (q_tv cx)).toArray).1 target) → Steps p.tables e below (T.setTop (F0 m pc ls ((as.map (q_tv cx)).reverse ++ .ref (q_ad cx a) :: st.map (q_tv cx)))) target := by
    rcases hlk with hw | ⟨host, hw⟩
    · exact X9.invokevirtual X.1 X.2.2.2.2.2.2.1 (hts _ hw) hn hmY hstM hkP hkPi hcw.2.2 (a := q_ad cx a) (cell := cellB) hcB (fun z h => by rw [h] at hoB; cases hoB) hselP hmethM habM hkP hkPi (g := F0 m pc ls ((as.map (q_tv cx)).reverse ++ .ref (q_ad cx a) :: st.map (q_tv cx))) rfl hlen rfl hdc
    · exact X9.invokevirtualNest X.1 X.2.2.2.2.2.2.1 (va_Nw.use rfl (X.2.2.2.2.2.2.2.2.1.2.2.2.1 _ hw)) hn hmY hstM hkP hkPi hcw.2.2 (a := q_ad cx a) (cell := cellB) hcB (fun z h => by rw [h] at hoB; cases hoB) hselP hmethM habM hkP hkPi (g := F0 m pc ls ((as.map (q_tv cx)).reverse ++ .ref (q_ad cx a) :: st.map (q_tv cx))) rfl hlen rfl hdc
  obtain ⟨t, a1, a2⟩ := q_after (T := T) (T1 := T.setVm vm₁) (ls := ls) hM X f1 f2 f3 f4 hR hS hl X₁ rfl hd hwt hn hmY hcY hlY hcw.2.1 hrm h hx
  rw [q_ref hp] at a1
  exact ⟨t, hstep₁ _ (fun acts => by rw [doInvoke_state]; exact a1), a2⟩
theorem q_callI {idx a : Nat} (hM : q_Ct l cx M' fr' lw' mc ms (q_r a :: as) σ Q') (hd : decode M.2.1 pc = .ok (.invokespecial idx, 3)) (hlk : q_link M M' idx) (hcw : q_cw M') (hcode : Cond.code M'.1 M'.2.1 M'.2.2.1 none ∈ q_ws) (hin : Cond.instanceMethod M'.1 ∈ q_ws) (hname : M'.1.name = "<init>")
    (hnum : (parseMethodDescriptor M'.1.desc).map (fun d => d.parameters.length) = some as.length) (hwt : (st.map (fun v => (q_tv cx v).category)).sum ≤ 8) (hrm : fr' + 1 ≤ fr ∧ 8 + (M'.2.2.1 + 11) + lw' ≤ lw) (hp : 0 < a)
    (h : ∀ v τ, Q' (.inl v) τ → q_G l cx M fr lw kc ks (pc + 3) lo (v.toList ++ st) τ Q) (hx : ∀ n τ, Q' (.inr n) τ → q_T l cx M fr lw kc ks pc lo n τ Q) :
    q_G l cx M fr lw (kc + mc) (ks + ms) pc lo (as.reverse ++ q_r a :: st) σ Q := by
  intro p e R s m args below meth c H locs cells slots ls X f1 f2 f3 f4 hR hS hl
  rw [q_stk hp]
  intro T hT X9
  subst hT
  have hts := X.2.2.2.2.2.2.2.1
  have hpl : e.platform.magicAccessors = ({} : Platform).magicAccessors := by rw [X9.admits.platform]
  have hdc : decode c.code pc = .ok (.invokespecial idx, 3) := by rw [X.2.1]; exact hd
  have hlen : ∀ sig, parseMethodDescriptor M'.1.desc = some sig → (as.map (q_tv cx)).length = sig.parameters.length := by
    intro sig hsig
    rw [hsig] at hnum
    rw [List.length_map]
    exact (Option.some.inj hnum).symm
  obtain ⟨mk, methM, cM, kP, vm₁, hnamed, hmethM, hcodeM, -, hlocalsM, -, hkP, -, hW₁, hstep₁⟩ : ∃ tm meth9 cd k vm', s.methodNamed? M'.1 = some tm ∧ s.vm.method? tm = some meth9 ∧ meth9.code = some cd ∧ cd.code = M'.2.1 ∧ cd.maxLocals = M'.2.2.1 ∧ meth9.locks = false ∧ s.vm.classes[tm.cls]? = some k ∧ k.name = M'.1.cls ∧ s.WarmedH vm' ∧
      ∀ target, (∀ acts, Steps p.tables e below (doInvoke e ((T.setVm vm').setTop { F0 m pc ls ((as.map (q_tv cx)).reverse ++ .ref (q_ad cx a) :: st.map (q_tv cx)) with stack := st.map (q_tv cx) }) acts tm (.ref (q_ad cx a) :: as.map (q_tv cx)).toArray).1 target) → Steps p.tables e below (T.setTop (F0 m pc ls ((as.map (q_tv cx)).reverse ++ .ref (q_ad cx a) :: st.map (q_tv cx)))) target := by
    rcases hlk with hw | ⟨host, hw⟩
    · exact Steps.initColdArgs (e := e) X9.here X.1 X9.warmed hpl X.2.2.2.2.2.2.1 hname hcw.2.2 (hts _ hw) (hts _ hin) (hts _ hcode) (f := F0 m pc ls ((as.map (q_tv cx)).reverse ++ .ref (q_ad cx a) :: st.map (q_tv cx))) rfl hlen rfl hdc
    · exact Steps.initColdArgsNest (e := e) X9.here X.1 X9.warmed hpl X.2.2.2.2.2.2.1 hname hcw.2.2 (va_Nw.use rfl (X.2.2.2.2.2.2.2.2.1.2.2.2.1 _ hw)) (hts _ hin) (hts _ hcode) (f := F0 m pc ls ((as.map (q_tv cx)).reverse ++ .ref (q_ad cx a) :: st.map (q_tv cx))) rfl hlen rfl hdc
  obtain ⟨t, a1, a2⟩ := q_after (T := T) (T1 := T.setVm vm₁) (ls := ls) hM X f1 f2 f3 f4 hR hS hl (X9.noted hW₁) rfl hd hwt hnamed hmethM hcodeM hlocalsM hcw.2.1 hrm h hx
  rw [q_ref hp] at a1
  exact ⟨t, hstep₁ _ (fun acts => by rw [doInvoke_state]; exact a1), a2⟩
/-- through an interface: x is the interface's method, M' the method that the receiver's class C selects -/
theorem q_callF {idx cnt ci a : Nat} {r : vw_C} {x : MethodName} (hM : q_Ct l cx M' fr' lw' mc ms (q_r a :: as) σ Q') (hd : decode M.2.1 pc = .ok (.invokeinterface idx cnt, 5)) (hlk : Cond.methodLink M.1.cls idx x ∈ q_ws) (hcw : q_cw M') (hin : Cond.instanceMethod M'.1 ∈ q_ws) (hc : q_cl[ci]? = some r) (hse : Cond.selects r.1 x M'.1 ∈ q_ws) (hif : (r.1, x, M'.1) ∈ q_if)
    (hxc : x.cls ≠ "java/lang/invoke/MethodHandle" ∧ x.cls ≠ "java/lang/invoke/VarHandle") (hnum : (parseMethodDescriptor x.desc).map (fun d => d.parameters.length) = some as.length) (hwt : (st.map (fun v => (q_tv cx v).category)).sum ≤ 8) (hrm : fr' + 1 ≤ fr ∧ 8 + (M'.2.2.1 + 11) + lw' ≤ lw) (hK : q_K σ a = ci + 1)
    (h : ∀ v τ, Q' (.inl v) τ → q_G l cx M fr lw kc ks (pc + 5) lo (v.toList ++ st) τ Q) (hx : ∀ n τ, Q' (.inr n) τ → q_T l cx M fr lw kc ks pc lo n τ Q) :
    q_G l cx M fr lw (kc + mc) (ks + ms) pc lo (as.reverse ++ q_r a :: st) σ Q := by
  intro p e R s m args below meth c H locs cells slots ls X f1 f2 f3 f4 hR hS hl
  have hp := hR.pos (a := a) (by omega)
  rw [q_stk hp]
  intro T hT X9
  subst hT
  obtain ⟨mk0, methY, cY, hnY, hmY, hcY, hlY, hsigY⟩ := q_code (M' := M') X.2.2.2.2.2.2.2.1 hcw.1
  have hts := X.2.2.2.2.2.2.2.1
  obtain ⟨cellB, hcB, hoB, hclB, kB, hkB⟩ := q_recv X.2.2.2.2.2.2.2.2.1 hR hK hc
  obtain ⟨hdecl, hface, hpub, hunh, hcast⟩ := X.2.2.2.2.2.2.2.2.1.2.2.2.2.2.2.1 _ hif
  obtain ⟨r0, rr, hn, hrm9, hstR, hsigR⟩ := Cond.declares_spec hdecl
  obtain ⟨cL, kL, r1, hcL, hkL, hiL, hfoundL, hn1⟩ := Cond.interfaceMethod_spec hface
  cases hn.symm.trans hn1
  have hr0cls : r0.cls = cL := Option.some.inj ((findClass_of_methodNamed hn).symm.trans hcL)
  obtain ⟨hnameR, hdescR⟩ := name_of_methodNamed hn hrm9
  obtain ⟨mk, methM, hnamed, hmethM, -, habM⟩ := Cond.instanceMethod_spec (hts _ hin)
  cases hnY.symm.trans hnamed
  cases hmY.symm.trans hmethM
  obtain ⟨c2, r2, m2, q1, q2, q3, q4, -⟩ := Cond.selects_spec (hts _ hse)
  cases hclB.symm.trans q1
  cases hfoundL.symm.trans q2
  cases hnamed.symm.trans q3
  have hselP : selectMethod e.platform s.vm cellB.cls r0 = .method mk0 := by rw [Launch.admits_selectMethod X9.admits]; exact q4
  have hpubM : hasFlag methY.accessFlags Acc.public_ = true := Cond.publicMethod_spec hnamed hmethM hpub
  have hway : ((cellB.cls :: s.vm.superclasses cellB.cls).any fun k => (declaredIn s.vm rr.name rr.desc k).any fun (_, z) => z.isPrivate || z.isStatic) = false := by
    rw [hnameR, hdescR]; exact Cond.unhidden_spec hclB hunh
  obtain ⟨c3, t3, w1, w2, w3⟩ := Cond.castable_spec hcast
  cases hclB.symm.trans w1
  cases hcL.symm.trans w2
  have hlen : (as.map (q_tv cx)).length = rr.sig.parameters.length := by
    rw [hsigR] at hnum
    rw [List.length_map]
    exact (Option.some.inj hnum).symm
  have hdc : decode c.code pc = .ok (.invokeinterface idx cnt, 5) := by rw [X.2.1]; exact hd
  obtain ⟨vm₁, X₁, hstep₁⟩ := X9.invokeinterface X.1 X.2.2.2.2.2.2.1 (hts _ hlk) hn hrm9 hstR (by rw [hr0cls]; exact hkL) hiL hxc (a := q_ad cx a) (cell := cellB) (kcell := kB) hcB
    (fun z h => by rw [h] at hoB; cases hoB) hkB (by rw [hr0cls]; exact w3) hselP hmethM hway hpubM habM (g := F0 m pc ls ((as.map (q_tv cx)).reverse ++ .ref (q_ad cx a) :: st.map (q_tv cx))) rfl (argsL := as.map (q_tv cx)) (rest := st.map (q_tv cx)) hlen rfl hdc
  obtain ⟨t, a1, a2⟩ := q_after (T := T) (T1 := T.setVm vm₁) (ls := ls) hM X f1 f2 f3 f4 hR hS hl X₁ rfl hd hwt hnY hmY hcY hlY hcw.2.1 hrm h hx
  rw [q_ref hp] at a1
  exact ⟨t, hstep₁ _ (fun acts => by rw [doInvoke_state]; exact a1), a2⟩
/-- a new object -/
theorem q_newo {idx ci : Nat} {r : vw_C} (hd : decode M.2.1 pc = .ok (.new idx, 3)) (hc : q_cl[ci]? = some r) (hcl : Cond.classLink M.1.cls idx r.1 ∈ q_ws) (n : Nat) (hin : Cond.instantiable r.1 n ∈ q_ws) (hini : Cond.initialized r.1 ∈ q_ws) (hroom : q_n σ < 10000000)
    (h : q_G l cx M fr lw kc ks (pc + 3) lo (q_r (q_n σ) :: st) (q_new σ (ci + 1) 0) Q) : q_G l cx M fr lw (kc + 1) (ks + n) pc lo st σ Q := by
  intro p e R s m args below meth c H locs cells slots ls X f1 f2 f3 f4 hR hS hl
  have hts := X.2.2.2.2.2.2.2.1
  have hKn := X.2.2.2.2.2.2.2.2.1.1.1 ci r hc
  obtain ⟨hlt, hinw, hpt, hdist⟩ := q_cl_ok ci r hc
  refine W.newcK X.1 X.2.1 X.2.2.2.2.2.2.1 (hts _ hcl) (hts _ hin) (hts _ hini) (g := F0 m pc ls (st.map (q_tv cx))) rfl hd (by omega) (by omega) hKn.2.1 rfl fun H1 kC hkC e1 z1 o1 => ?_
  have hpos := hR.2.1.1
  have had : q_ad cx (q_n σ) = H.size := by rw [q_ad_lo hroom, hR.1]
  have hRep : q_Rep cx (q_new σ (ci + 1) 0) H1 := by
    refine hR.push (by omega) hroom z1 o1 (fun _ => ?_)
    unfold q_at
    rw [q_K_new, if_pos rfl, if_pos (by omega)]
    refine ⟨r, hc, ?_⟩
    rw [had]
    show t_OB H.size (cx.1.1 ci) r.2.2 (cx.1.2 ci) H1 _
    refine (u_born (q_tf ci) hts hinw hKn hkC e1 hpt).to (fun k hk9 => ?_)
    show defaultValue (q_tf ci k) = q_fv cx (q_new σ (ci + 1) 0) (q_n σ) (q_tf ci k) k
    exact q_fv_new (h := q_tf_ok ci r hc k hk9)
  have hS' : va_S (q_A cx) s.heap H1 locs := ⟨Nat.le_trans hS.1 (by omega), fun q h1 h2 => (o1 q (Nat.lt_of_lt_of_le h1 hS.1)).trans (hS.2.1 q h1 h2), hS.2.2⟩
  have hw := h p e R s m args below meth c H1 locs (cells + 1) (slots + n) ls X f1 f2 (by omega) (by omega) hRep hS' hl
  rw [q_ref hpos, had] at hw
  exact hw
end QCalls2
/-- an instruction by its place in the list -/
theorem q_dc {M : q_M} {cd : List q_J} (h : cd.all (q_okb M) = true) (i : Nat) {pc : Nat} {ins : Instr} {len : Nat} {inf : (Nat × Nat × Nat × Nat) × Int32 × Int64} (hj : cd[i]? = some (pc, ins, len, inf)) : decode M.2.1 pc = .ok (ins, len) := q_okb_dec (j := (pc, ins, len, inf)) h (List.mem_of_getElem? hj)
