/-! EXCEPTIONS: made, thrown; caught. -/
def q_rtn : List String := ["java/lang/RuntimeException", "java/lang/Exception"]
/-- a word of a list: by its place in the tables, or by what is carried beside them -/
def q_oq (w : Cond) (i : Nat) : Bool := if i < 900000 then decide (q_ws[i]? = some w) else match w with
  | .declares x => decide (x ∈ q_dec)
  | .castable a b => decide ((a, b) ∈ q_cast)
  | .laysStatic C n d => decide ((C, n, d) ∈ q_lst)
  | .isRef (.static C n d) => decide ((C, n, d) ∈ q_statq)
  | _ => false
def q_okl : List Cond → List Nat → Bool
  | [], _ => true
  | w :: r, i :: is => q_oq w i && q_okl r is
  | _ :: _, [] => false
theorem q_Zq_isRef {C n d : String} {A : Nat → Prop} {args : Array Value} {s : State} (h : va_Zq C n d A s s.heap) : (Cond.isRef (.static C n d)).before args s = true := by
  rcases h with h | ⟨t, h⟩ <;> obtain ⟨cf, kf, fi, f, a, cell, h1, h2, h3, h4, h5, h6, h7, h8⟩ := h <;>
    simp [Cond.before, Cond.holds, Cond.value, Term.eval, State.fieldNamed?, h1, h2, h4, h5, h6, h7]
theorem q_oq_spec {cx : q_C} {args : Array Value} {s : State} (hts : ∀ w ∈ q_ws, w.before args s = true) (hF : q_F cx s) {w : Cond} {i : Nat} (h : q_oq w i = true) : w.before args s = true := by
  unfold q_oq at h
  split at h
  · exact hts w (List.mem_of_getElem? (of_decide_eq_true h))
  · obtain ⟨-, -, -, -, -, -, -, -, g2, -, -, -, g6, g7, g8, -⟩ := hF
    split at h
    · exact va_Nw.use rfl (g7 _ (of_decide_eq_true h))
    · exact va_Nw.use rfl (g2 _ (of_decide_eq_true h))
    · exact (g8 _ (of_decide_eq_true h)).word
    · exact q_Zq_isRef (g6 _ (of_decide_eq_true h))
    · cases h
theorem q_okl_spec {cx : q_C} {args : Array Value} {s : State} (hts : ∀ w ∈ q_ws, w.before args s = true) (hF : q_F cx s) : ∀ {ws : List Cond} {is : List Nat}, q_okl ws is = true → ∀ w ∈ ws, w.before args s = true := by
  intro ws
  induction ws with
  | nil => intro _ _ w hw; cases hw
  | cons v r ih =>
    intro is h w hw
    cases is with
    | nil => cases h
    | cons i is =>
      unfold q_okl at h
      rw [Bool.and_eq_true] at h
      rcases List.mem_cons.mp hw with rfl | hw
      · exact q_oq_spec hts hF h.1
      · exact ih h.2 w hw
section QThrow
variable {p : Program} {l : Launch} {e : Env} {R : Room} {s : State} {m₀ : MethodId} {args : Array Value} {below : List Frame} {meth : Method} {c : Code} {W : State} {locs : List Loc} {cells slots : Nat}
set_option maxHeartbeats 1000000 in
/-- an exception's constructor with a text, over a fresh cell: the cell alone is written -/
theorem q_ctor (X : Stand p l e R s m₀ args below meth c W locs cells slots) (hexec : p.tables.exec = Jvm.exec) (htr : e.platform.stackTraces = false) {own cls : String} {names : List String} {ic : Nat}
    (hown : s.vm.findClass own = some m₀.cls) (hcls : Bundle.fit cls = true) (hnames : ∀ n ∈ names, Bundle.fit n = true)
    (h : ∀ a ∈ Bundle.ownAtoms own ic cls names, a.before args s = true)
    {A : Nat → Prop} (hlocs : ∀ x ∈ locs, A x.base) (hst : ∀ q ∈ q_lst, q_ls q.1 q.2.1 q.2.2 A s)
    {a : Addr} {cX : ClassId} {kX : Class} (hfoundX : s.vm.findClass cls = some cX) (hkX : s.vm.classes[cX]? = some kX) (hcell : W.heap[a]? = some (freshCell cX kX)) (hnew : s.heap.size ≤ a)
    {msg : Value} (hmsg : msg.isRef = true)
    {g : JFrame} (hg : g.method = m₀) (hsize : g.locals.size = c.maxLocals) {rest : List Value} (hstack : g.stack = msg :: .ref a :: rest)
    (hd6 : decode c.code g.pc = .ok (.invokespecial ic, 3))
    (hRframes : names.length + 3 < R.frames) (hRlocals : 2 * g.monitorRoom + (rest.map fun v => v.category).sum + (13 * (names.length + 1) + 42) ≤ R.locals) :
    ∃ (vm' : Vm) (ce : Cell) (L : List Loc), ce.cls = cX ∧ ce.vm = .none ∧ (∀ y ∈ L, y.base = a) ∧ Stand p l e R s m₀ args below meth c ((W.setVm vm').setCell a ce) (locs ++ L) cells slots ∧
      ∀ target, Steps p.tables e below (((W.setVm vm').setCell a ce).setTop { g with pc := g.pc + 3, stack := rest }) target → Steps p.tables e below (W.setTop g) target := by
  have howns : e.platform.frameOwnsMonitors = true := by rw [X.admits.platform]
  have hfin : e.platform.finalization = false := by rw [X.admits.platform]
  have hpl : e.platform.magicAccessors = ({} : Platform).magicAccessors := by rw [X.admits.platform]
  have a' : ∀ x, x ∈ Bundle.ownAtoms own ic cls names → x.holds args s none s [] = true := fun x hx => h x hx
  obtain ⟨T, Z0, L, -, Y⟩ := ThrowableC.of_atoms (args := args) howns hfin hpl (fun x hx => h x (by simp [Bundle.ownAtoms, hx]))
  obtain ⟨Z, M, LZ, LM, hnZ⟩ := Init0T.ofS_atoms (args := args) hpl L Y (fun x hx => h x (by simp [Bundle.ownAtoms, hx]))
  obtain ⟨P1, Ps, hlen, L1, hL, hP1m, hlink1, hlink⟩ := Bundle.chainS (args := args) hpl hnZ names cls hcls hnames (fun x hx => h x (by simp [Bundle.ownAtoms, hx]))
  have hfound : s.vm.findClass cls = some P1.m.cls := findClass_of_methodNamed hP1m
  cases Option.some.inj (hfoundX.symm.trans hfound)
  obtain ⟨c1, kX', hc1, hk, hord, -, -, hn6⟩ := Cond.instantiable_spec (a' (.instantiable cls 6) (by simp [Bundle.ownAtoms]))
  cases Option.some.inj (hc1.symm.trans hfound)
  cases Option.some.inj (hkX.symm.trans hk)
  have hsel0 : selectMethod e.platform s.vm P1.m.cls T.fill0 = .method T.fill0 := by
    obtain ⟨c2, r2, m2, q1, q2, q3, q4, -⟩ := Cond.selects_spec (a' (.selects cls Bundle.tFill0 Bundle.tFill0) (by simp [Bundle.ownAtoms]))
    cases Option.some.inj (q1.symm.trans hfound)
    cases Option.some.inj (q2.symm.trans (State.methodFound?_of_named Y.fill0 (by decide)))
    cases Option.some.inj (q3.symm.trans Y.fill0)
    rw [Launch.admits_selectMethod X.admits]; exact q4
  have hselF : selectMethod e.platform s.vm P1.m.cls T.fill = .method T.fill := by
    obtain ⟨c2, r2, m2, q1, q2, q3, q4, -⟩ := Cond.selects_spec (a' (.selects cls Bundle.tFill Bundle.tFill) (by simp [Bundle.ownAtoms]))
    cases Option.some.inj (q1.symm.trans hfound)
    cases Option.some.inj (q2.symm.trans (State.methodFound?_of_named Y.fill (by decide)))
    cases Option.some.inj (q3.symm.trans Y.fill)
    rw [Launch.admits_selectMethod X.admits]; exact q4
  obtain ⟨cellS0, hcS0, hiss⟩ := Y.statics
  obtain ⟨u0, hu0⟩ := Cond.staticRefV Y.unassigned L.unassignedStatic L.statics hcS0 hiss (a' (.isRef (.static Bundle.tN "UNASSIGNED_STACK" Bundle.steD)) (by simp [Bundle.ownAtoms]))
  obtain ⟨sen, hsen⟩ := Cond.staticRefV Y.sentinel L.sentinelStatic L.statics hcS0 hiss (a' (.isRef (.static Bundle.tN "SUPPRESSED_SENTINEL" Bundle.listD)) (by simp [Bundle.ownAtoms]))
  obtain ⟨ci198, i198, fB, hk198, hg198, ha198, hsB, -, hnB, htB, hffB⟩ := Cond.ownField (t := .object "java/lang/Object") Y.found L.cls (by decide +kernel) (a' (.fieldLink Bundle.tN 198 Bundle.tN "backtrace" "Ljava/lang/Object;") (by simp [Bundle.ownAtoms])) (a' (.lays Bundle.tN Bundle.tN "backtrace" "Ljava/lang/Object;") (by simp [Bundle.ownAtoms])) e.platform hpl
  obtain ⟨cellS, hcS', heS, -, hkeep⟩ := X.same.2.2.2.2.2 T.aS cellS0 hcS0
  have hcellS : W.heap[T.aS]? = some cellS := hcS'
  have hnA : ¬ A T.aS := by
    obtain ⟨c9, i9, a9, k9, f9, cell9, -, w2, -, w4, -, -, -, -, -, w10⟩ := hst _ List.mem_cons_self
    have w2' : s.fieldFound? Bundle.tN "UNASSIGNED_STACK" Bundle.steD = some (c9, k9, i9, f9) := w2
    cases Y.unassigned.symm.trans w2'
    cases L.statics.symm.trans w4
    exact w10
  have hout' : ∀ i, (⟨T.aS, i⟩ : Loc) ∉ locs := fun i hmem => hnA (hlocs _ hmem)
  have hknownS : cellS.vm ≠ .unknown := by
    rw [heS]; intro hu
    rw [show cellS0.vm = .unknown from hu] at hiss
    cases hiss
  have hneS : T.aS ≠ a := Nat.ne_of_lt (Nat.lt_of_lt_of_le (Array.getElem?_eq_some_iff.mp hcS0).1 hnew)
  obtain ⟨iM, hffM⟩ := Y.msg
  obtain ⟨tyC, dC, hdC, hdnC⟩ := Cond.laysAt hfound hk Y.cause (a' (.lays cls Bundle.tN "cause" "Ljava/lang/Throwable;") (by simp [Bundle.ownAtoms]))
  obtain ⟨tyS, dS, hdS, hdnS⟩ := Cond.laysAt hfound hk Y.stack (a' (.lays cls Bundle.tN "stackTrace" Bundle.steD) (by simp [Bundle.ownAtoms]))
  obtain ⟨tyP, dP, hdP, hdnP⟩ := Cond.laysAt hfound hk Y.supp (a' (.lays cls Bundle.tN "suppressedExceptions" Bundle.listD) (by simp [Bundle.ownAtoms]))
  obtain ⟨tyM, dM, hdM, hdnM⟩ := Cond.laysAt hfound hk hffM (a' (.lays cls Bundle.tN "detailMessage" "Ljava/lang/String;") (by simp [Bundle.ownAtoms]))
  obtain ⟨tyB, dB, hdB, hdnB⟩ := Cond.laysAt hfound hk hffB (a' (.lays cls Bundle.tN "backtrace" "Ljava/lang/Object;") (by simp [Bundle.ownAtoms]))
  have bC := Cond.laysApart hdB hdC hdnB hdnC (by rw [hnB, Y.causeName]; decide)
  have bS := Cond.laysApart hdB hdS hdnB hdnS (by rw [hnB, Y.stackName]; decide)
  have bP := Cond.laysApart hdB hdP hdnB hdnP (by rw [hnB, Y.suppName]; decide)
  have hskip : SkipFacts T e.platform s (fun u => u) u0 ((preparedCellV T.toThrowableT (freshCell P1.m.cls kX) a u0 sen).withEntry W.cur) :=
    ⟨{ ci198 := ci198, i198 := i198, fBack := fB }, ⟨hk198, hg198, ha198, hsB⟩, by
      have := fresh_default (c := P1.m.cls) tyB
      rw [htB] at this
      simpa [preparedCellV, Cell.setSlot, Cell.withEntry, Array.getElem?_setIfInBounds, bC, bS, bP, bC.symm, bS.symm, bP.symm, defaultValue] using this, fun _ _ => rfl⟩
  obtain ⟨tm, methC, cdC, kC, vm₁, hnC, -, -, -, -, -, -, -, hW₁, st1⟩ := Steps.initColdS (tb := p.tables) (e := e) (below := below) (s := s) (U := W) X.here hexec X.warmed hpl hown (t := Bundle.initS cls) rfl rfl (Bundle.fit_spec hcls).2
    (a' (.methodLink own ic (Bundle.initS cls)) (by simp [Bundle.ownAtoms])) (h (.instanceMethod (Bundle.initS cls)) (by cases names <;> simp [Bundle.ownAtoms, Bundle.chainSAtoms, Bundle.passSAtoms])) (bytes := Bundle.six) (maxL := 2) (h (.code (Bundle.initS cls) Bundle.six 2 none) (by cases names <;> simp [Bundle.ownAtoms, Bundle.chainSAtoms, Bundle.passSAtoms]))
    (f := g) hg (a := a) (msg := msg) (rest := rest) hstack hd6
  cases Option.some.inj (hnC.symm.trans hP1m)
  have X₁ := X.noted hW₁
  obtain ⟨vm₂, X₂, st2⟩ := X₁.ctorMessageOffV hexec (g := { g with stack := rest }) hg hsize T L Z LZ M LM (P1 :: Ps)
    (fun P hP => by rcases List.mem_cons.mp hP with rfl | hP; exact L1; exact hL P hP) ⟨hlink1, hlink⟩ (u0 := u0) (sen := sen) (self := a) hmsg (cell := freshCell P1.m.cls kX) (cellS := cellS)
    hcell (fun _ => by simp) (by simp) rfl rfl hsel0 hselF hcellS hneS hknownS (by rw [hkeep _ (hout' _)]; exact hu0) (by rw [hkeep _ (hout' _)]; exact hsen)
    (Takes.of_laid hk hord tyC (by rw [Y.causeType]; rfl)) (Takes.of_laid hk hord tyS (by rw [Y.stackType]; exact fits_refV_array _ u0)) (Takes.of_laid hk hord tyP (by rw [Y.suppType]; exact fits_refV_object _ sen))
    (Takes.of_laid hk hord tyM (by rw [Y.msgType]; exact fits_refV_object _ ⟨msg, hmsg⟩)) Y.objLocals hskip htr [] hd6
    (by simp only [List.length_cons, hlen]; omega) (by simp only [List.length_cons, hlen]; exact hRlocals)
  refine ⟨vm₂, _, _, ?_, ?_, ?_, X₂, fun target hrest => st1 _ (fun acts => ?_)⟩
  · rfl
  · rfl
  · intro y hy
    simp only [List.mem_cons, List.not_mem_nil, or_false] at hy
    rcases hy with rfl | rfl | rfl | rfl | rfl <;> rfl
  · rw [doInvoke_state]
    exact st2 _ hrest
end QThrow
/-- a text is loaded, the short or the long way -/
theorem q_ldcT {p : Program} {l : Launch} {e : Env} {R : Room} {s : State} {m : MethodId} {args : Array Value} {below : List Frame} {meth : Method} {c : Code} {H : Heap} {locs : List Loc} {cells slots : Nat} {Q : State → Prop} {cc : ByteArray} {pc k2 : Nat} {ls : Array Slot} {rest : List Value}
    (hexec : p.tables.exec = Jvm.exec) (hb : c.code = cc) {own tx : String} {index q : Nat} (hown : s.vm.findClass own = some m.cls) (hZ : vk_R own index tx q s) (hZ2 : ∀ a : Array Value, (Cond.stringRef own index tx).before a s = true ∧ (Term.string own index).eval a s none [] s = some (.ref q))
    (hd : (decode cc pc = .ok (.ldc index, 2) ∧ k2 = 2) ∨ (decode cc pc = .ok (.ldc_w index, 3) ∧ k2 = 3))
    (k : W p l e R s m args below meth c H locs cells slots Q (F0 m (pc + k2) ls (.ref q :: rest))) : W p l e R s m args below meth c H locs cells slots Q (F0 m pc ls rest) := by
  rcases hd with ⟨hd, rfl⟩ | ⟨hd, rfl⟩
  · exact va_ldcS hexec hb hown hZ hd k
  · intro T hT X
    obtain ⟨t, a1, b1⟩ := k T hT X
    exact ⟨t, X.ldcStringW hexec hown (text := tx) (a := q) (hZ2 _).1 (hZ2 _).2 (g := F0 m pc ls rest) rfl (by rw [hb]; exact hd) t a1, b1⟩
theorem q_exc {l : Launch} {cx : q_C} {M : q_M} {fr lw kc ks : Nat} {lo : List (Nat × q_V)} {σ : q_S} {Q : q_O → q_S → Prop} {pc idx ci ic ti tn k2 : Nat} {r : vw_C} {tx : String} {is : List Nat} (hlf : l.flags = pinnedFlags ++ [noTraceFlag]) (hcls : M.1.cls = "PlaneFills")
    (hd0 : decode M.2.1 pc = .ok (.new idx, 3)) (hd1 : decode M.2.1 (pc + 3) = .ok (.dup, 1)) (hd2 : (decode M.2.1 (pc + 4) = .ok (.ldc ti, 2) ∧ k2 = 2) ∨ (decode M.2.1 (pc + 4) = .ok (.ldc_w ti, 3) ∧ k2 = 3)) (htx : ("PlaneFills", ti, tx, tn) ∈ q_str) (hd3 : decode M.2.1 (pc + 4 + k2) = .ok (.invokespecial ic, 3))
    (hc : q_cl[ci]? = some r) (hr0 : r.2.2 = 0) (hcl : Cond.classLink "PlaneFills" idx r.1 ∈ q_ws) (hin : Cond.instantiable r.1 6 ∈ q_ws) (hini : Cond.initialized r.1 ∈ q_ws) (hok : q_okl (Bundle.ownAtoms "PlaneFills" ic r.1 q_rtn) is = true) (hfit : Bundle.fit r.1 = true)
    (hroom : q_n σ < 10000000) (hfr : 6 ≤ fr ∧ 100 ≤ lw) (h : q_G l cx M fr lw kc ks (pc + 4 + k2 + 3) lo [q_r (q_n σ)] (q_new σ (ci + 1) 0) Q) : q_G l cx M fr lw (kc + 1) (ks + 6) pc lo [] σ Q := by
  intro p e R s m args below meth c H locs cells slots ls X f1 f2 f3 f4 hR hS hl
  have hts := X.2.2.2.2.2.2.2.1
  have hF := X.2.2.2.2.2.2.2.2.1
  have hown : s.vm.findClass "PlaneFills" = some m.cls := by rw [← hcls]; exact X.2.2.2.2.2.2.1
  have hKn := hF.1.1 ci r hc
  obtain ⟨hlt, hinw, hpt, hdist⟩ := q_cl_ok ci r hc
  refine W.newcK X.1 X.2.1 hown (hts _ hcl) (hts _ hin) (hts _ hini) (g := F0 m pc ls ([].map (q_tv cx))) rfl hd0 (by omega) (by omega) hKn.2.1 rfl fun H1 kC hkC e1 z1 o1 => ?_
  have hpos := hR.2.1.1
  have had : q_ad cx (q_n σ) = H.size := by rw [q_ad_lo hroom, hR.1]
  have hS' : va_S (q_A cx) s.heap H1 locs := ⟨Nat.le_trans hS.1 (by omega), fun q h1 h2 => (o1 q (Nat.lt_of_lt_of_le h1 hS.1)).trans (hS.2.1 q h1 h2), hS.2.2⟩
  have hZ := hF.2.2.2.2.2.2.2.1 _ htx
  refine lv_dup X.1 X.2.1 hd1 rfl ?_
  refine q_ldcT X.1 X.2.1 hown hZ (fun a => ⟨hZ.1, hZ.2⟩) hd2 ?_
  intro T hT X9
  have htr : e.platform.stackTraces = false := Launch.traces_off hlf X9.admits
  obtain ⟨vm', ce, L, c1, c2, c3, X2, st2⟩ := q_ctor X9 X.1 htr hown hfit (by decide +kernel) (q_okl_spec hts hF hok) (A := q_A cx) hS.2.2 hF.2.2.2.2.2.2.2.2.2.2.2.2.2.2.1 (a := H.size) hKn.2.1 hkC (by rw [hT]; exact e1) hS.1
    (msg := .ref (q_ad cx tn)) rfl (g := F0 m (pc + 4 + k2) ls [.ref (q_ad cx tn), .ref H.size, .ref H.size]) rfl (hl.1.trans X.2.2.1.symm) rfl (by rw [X.2.1]; exact hd3) (by show 2 + 3 < R.frames; omega) (by show 2 * 0 + (1 + 0) + (13 * (2 + 1) + 42) ≤ R.locals; omega)
  have hz1 : ((T.setVm vm').setCell H.size ce).heap.size = H1.size := by
    show (T.heap.setIfInBounds H.size ce).size = _
    rw [Array.size_setIfInBounds, hT]
  have ho1 : ∀ q : Nat, q ≠ H.size → ((T.setVm vm').setCell H.size ce).heap[q]? = H1[q]? := fun q hq => by
    show (T.heap.setIfInBounds H.size ce)[q]? = _
    rw [Array.getElem?_setIfInBounds, if_neg (Ne.symm hq), hT]
  have hat : ((T.setVm vm').setCell H.size ce).heap[H.size]? = some ce := by
    show (T.heap.setIfInBounds H.size ce)[H.size]? = _
    rw [Array.getElem?_setIfInBounds, if_pos rfl, hT, if_pos (by omega)]
  have hRep : q_Rep cx (q_new σ (ci + 1) 0) ((T.setVm vm').setCell H.size ce).heap := by
    refine hR.push (by omega) hroom (hz1.trans z1) (fun q hq => (ho1 q (Nat.ne_of_lt hq)).trans (o1 q hq)) (fun _ => ?_)
    unfold q_at
    rw [q_K_new, if_pos rfl, if_pos (by omega)]
    refine ⟨r, hc, ?_⟩
    rw [had]
    exact ⟨ce, hat, c1, c2, fun k hk => by rw [hr0] at hk; cases hk⟩
  have hS2 : va_S (q_A cx) s.heap ((T.setVm vm').setCell H.size ce).heap (locs ++ L) := by
    refine ⟨by rw [hz1]; exact hS'.1, fun q h1 h2 => (ho1 q (by have := hS.1; omega)).trans (hS'.2.1 q h1 h2), fun q hq => ?_⟩
    rcases List.mem_append.mp hq with h1 | h1
    · exact hS.2.2 q h1
    · rw [c3 q h1, ← had, q_ad_lo hroom]
      show q_b cx < q_b cx + q_n σ
      omega
  have hw := h p e R s m args below meth c _ (locs ++ L) (cells + 1) (slots + 6) ls X f1 f2 (by omega) (by omega) hRep hS2 hl
  obtain ⟨t, a1, a2⟩ := hw _ rfl X2
  refine ⟨t, st2 t ?_, a2⟩
  rw [q_ref hpos, had] at a1
  exact a1
set_option maxRecDepth 100000 in
theorem q_okIO : q_okl (Bundle.ownAtoms "PlaneFills" 122 "java/lang/IndexOutOfBoundsException" q_rtn) [73, 319, 326, 329, 331, 333, 320, 321, 99, 100, 322, 325, 330, 348, 309, 349, 311, 350, 313, 323, 999999, 324, 999999, 315, 344, 345, 347, 315, 335, 336, 337, 338, 999999, 338, 339, 340, 341, 999999, 341, 342, 343, 344, 999999, 334, 305, 999999, 306, 307, 308, 310, 312, 314, 999999, 999999, 318, 317, 316] = true := by decide +kernel
set_option maxRecDepth 100000 in
theorem q_okIA : q_okl (Bundle.ownAtoms "PlaneFills" 68 "java/lang/IllegalArgumentException" q_rtn) [73, 319, 326, 329, 331, 333, 320, 321, 99, 100, 322, 325, 330, 348, 309, 349, 311, 350, 313, 323, 999999, 324, 999999, 315, 344, 345, 347, 315, 366, 367, 368, 338, 999999, 338, 339, 340, 341, 999999, 341, 342, 343, 344, 999999, 365, 358, 999999, 359, 328, 360, 361, 362, 363, 999999, 999999, 318, 317, 364] = true := by decide +kernel
theorem q_excIO {l : Launch} {cx : q_C} {M : q_M} {fr lw kc ks : Nat} {lo : List (Nat × q_V)} {σ : q_S} {Q : q_O → q_S → Prop} {pc ti tn k2 : Nat} {tx : String} (hlf : l.flags = pinnedFlags ++ [noTraceFlag]) (hcls : M.1.cls = "PlaneFills") (hd0 : decode M.2.1 pc = .ok (.new 118, 3)) (hd1 : decode M.2.1 (pc + 3) = .ok (.dup, 1)) (hd2 : (decode M.2.1 (pc + 4) = .ok (.ldc ti, 2) ∧ k2 = 2) ∨ (decode M.2.1 (pc + 4) = .ok (.ldc_w ti, 3) ∧ k2 = 3)) (htx : ("PlaneFills", ti, tx, tn) ∈ q_str) (hd3 : decode M.2.1 (pc + 4 + k2) = .ok (.invokespecial 122, 3))
    (hroom : q_n σ < 10000000) (hfr : 6 ≤ fr ∧ 100 ≤ lw) (h : q_G l cx M fr lw kc ks (pc + 4 + k2 + 3) lo [q_r (q_n σ)] (q_new σ 9 0) Q) : q_G l cx M fr lw (kc + 1) (ks + 6) pc lo [] σ Q :=
  q_exc (ci := 8) hlf hcls hd0 hd1 hd2 htx hd3 rfl rfl (List.mem_of_getElem? (i := 304) (by decide +kernel)) (List.mem_of_getElem? (i := 305) (by decide +kernel)) (List.mem_of_getElem? (i := 76) (by decide +kernel)) q_okIO (by decide +kernel) hroom hfr h
theorem q_excIA {l : Launch} {cx : q_C} {M : q_M} {fr lw kc ks : Nat} {lo : List (Nat × q_V)} {σ : q_S} {Q : q_O → q_S → Prop} {pc ti tn k2 : Nat} {tx : String} (hlf : l.flags = pinnedFlags ++ [noTraceFlag]) (hcls : M.1.cls = "PlaneFills") (hd0 : decode M.2.1 pc = .ok (.new 64, 3)) (hd1 : decode M.2.1 (pc + 3) = .ok (.dup, 1)) (hd2 : (decode M.2.1 (pc + 4) = .ok (.ldc ti, 2) ∧ k2 = 2) ∨ (decode M.2.1 (pc + 4) = .ok (.ldc_w ti, 3) ∧ k2 = 3)) (htx : ("PlaneFills", ti, tx, tn) ∈ q_str) (hd3 : decode M.2.1 (pc + 4 + k2) = .ok (.invokespecial 68, 3))
    (hroom : q_n σ < 10000000) (hfr : 6 ≤ fr ∧ 100 ≤ lw) (h : q_G l cx M fr lw kc ks (pc + 4 + k2 + 3) lo [q_r (q_n σ)] (q_new σ 10 0) Q) : q_G l cx M fr lw (kc + 1) (ks + 6) pc lo [] σ Q :=
  q_exc (ci := 9) hlf hcls hd0 hd1 hd2 htx hd3 rfl rfl (List.mem_of_getElem? (i := 357) (by decide +kernel)) (List.mem_of_getElem? (i := 358) (by decide +kernel)) (List.mem_of_getElem? (i := 77) (by decide +kernel)) q_okIA (by decide +kernel) hroom hfr h
/-! CAUGHT -/
/-- one row of a handler table whose class links: her class is noted; she takes the exception, or the search goes on -/
theorem q_gorow {Q : Handler → Pre} {E : CtlPost} {e : Env} {d : Bool} {acts : List Action} {s : State} {f : JFrame} {a : Addr} {x : ExceptionTableEntry} {t : List ExceptionTableEntry} {c : ClassId} {cell : Cell} (hx : covers x f.pc = true) (h0 : x.catchType ≠ 0)
    (hl : s.vm.ClassLinks e.platform f.method.cls x.catchType c) (hcell : s.heap[a]? = some cell) (hobj : ∀ k, cell.vm ≠ .statics k) (hk : ∃ k, s.vm.classes[cell.cls]? = some k) (hc : ∃ k, s.vm.classes[c]? = some k) :
    wp (findHandler.go f a (x :: t)) Q E e d acts s ↔ (if s.vm.assignable cell.cls c = true then Q (.found x.handlerPc) d acts (s.setVm (s.vm.noted f.method.cls x.catchType (.cls c))) else wp (findHandler.go f a t) Q E e d acts (s.setVm (s.vm.noted f.method.cls x.catchType (.cls c)))) := by
  unfold covers at hx
  have hv : s.vm.Alike (s.vm.noted f.method.cls x.catchType (.cls c)) := (Vm.Alike.refl s.vm).noted _ _ _
  obtain ⟨u1, u2⟩ := (resolveClass_links e.toSetting hl).op (op := VmOp.resolveClass f.method.cls x.catchType) rfl
  obtain ⟨k1, w1⟩ := hk
  obtain ⟨k2, w2⟩ := hc
  obtain ⟨k3, w3, -⟩ := hv.2.2 _ _ w1
  obtain ⟨k4, w4, -⟩ := hv.2.2 _ _ w2
  have w5 := hv.assignable cell.cls c
  by_cases hy : s.vm.assignable cell.cls c = true
  · rw [if_pos hy]
    rw [hy] at w5
    simp [findHandler.go, hx, h0, u1, u2, hcell, hobj, w3, w4, w5, VmOp.dirties, VmOp.acts]
  · rw [if_neg hy]
    rw [Bool.not_eq_true] at hy
    rw [hy] at w5
    simp [findHandler.go, hx, h0, u1, u2, hcell, hobj, w3, w4, w5, VmOp.dirties, VmOp.acts]
/-- what the search finds, and the tables behind it -/
def q_fd (e : Env) (s : State) (f : JFrame) (a : Addr) (pc : Nat) (vm' : Vm) : Prop := ∀ (Q : Handler → Pre) (E : CtlPost) (d : Bool) (acts : List Action), wp (findHandler f a) Q E e d acts s ↔ Q (.found pc) d acts (s.setVm vm')
theorem q_caught {tb : Tables} {e : Env} {s target : State} {g : JFrame} {c : Code} {below : List Frame} {a : Addr} (h : At s g.method c below) {pc : Nat} {vm' : Vm}
    (hfind : q_fd e ((s.setTop g).pushFrame (.throwing a)) g a pc vm') (hrest : Steps tb e below ((s.setVm vm').setTop { g with pc := pc, stack := [.ref a] }) target) :
    Steps tb e below ((s.setTop g).pushFrame (.throwing a)) target := by
  obtain ⟨hgo, hw⟩ := h.throwing a
  obtain ⟨g₀, hg⟩ := Option.isSome_iff_exists.mp h.top
  obtain ⟨r, hr⟩ := State.topJava?_eq_some.mp hg
  have hstep : (stepThrowing e ((s.setTop g).pushFrame (.throwing a)) a (.java g :: r)).Is ((((s.setTop g).pushFrame (.throwing a)).setVm vm').setFrames (.java { g with pc := pc, stack := [.ref a] } :: r)) [] := by
    simp only [stepThrowing, searchFrame, vmDo]
    generalize hr9 : Sem.go _ e false [] ((s.setTop g).pushFrame (.throwing a)) = res
    obtain ⟨as, rfl, ha⟩ := Sem.eq_ok_of hr9 (a := Handler.found pc) (s' := ((s.setTop g).pushFrame (.throwing a)).setVm vm') (acts' := []) (by simp [hfind _ _ _ _])
    exact ⟨rfl, ha⟩
  refine Steps.head hgo hw ?_
  rw [stepThread_throwing (frames_entered h.top _), hr, List.tail_cons, hstep.1]
  have hr' : (s.setVm vm').frames = .java g₀ :: r := hr
  rw [State.setTop_of_frames _ hr'] at hrest
  have e1 : ∀ (u : State) (F G : List Frame), ((u.setFrames F).setVm vm').setFrames G = (u.setVm vm').setFrames G := fun u F G => by
    have h1 : (u.setFrames F).setVm vm' = (u.setVm vm').setFrames F := rfl
    rw [h1, State.setFrames_setFrames]
  rw [State.pushFrame, e1, State.setTop_of_frames _ hr, e1]
  exact hrest
section QCatch
variable {l : Launch} {cx : q_C} {M : q_M} {fr lw kc ks : Nat} {lo : List (Nat × q_V)} {σ : q_S} {Q : q_O → q_S → Prop} {pc n ci : Nat} {r : vw_C} {C1 C2 : String} {s1 e1 t1 k1 s2 e2 t2 k2 : Nat} {rest : List (Nat × Nat × Nat × Nat)}
/-- the first row takes it -/
theorem q_T.c1 (hh : M.2.2.2.2 = (s1, e1, t1, k1) :: rest) (hcov : s1 ≤ pc ∧ pc < e1) (hk1 : k1 ≠ 0) (hc : q_cl[ci]? = some r) (hcl : Cond.classLink M.1.cls k1 C1 ∈ q_ws) (hca : (r.1, C1) ∈ q_cast) (hK : q_K σ n = ci + 1)
    (h : q_G l cx M fr lw kc ks t1 lo [q_r n] σ Q) : q_T l cx M fr lw kc ks pc lo n σ Q := by
  intro p e R s m args below meth c T locs cells slots ls stv X f1 f2 f3 f4 hR hS hl X9
  have hts := X.2.2.2.2.2.2.2.1
  have hF := X.2.2.2.2.2.2.2.2.1
  have hp := hR.pos (a := n) (by omega)
  obtain ⟨cell, g1, g2, g3, k9, g4⟩ := q_recv hF hR hK hc
  have htab := X.2.2.2.2.2.2.2.2.2
  rw [hh] at htab
  obtain ⟨x1, xs, hx1, hx2, hx3⟩ := List.map_eq_cons_iff.mp htab
  simp only [Prod.mk.injEq] at hx2
  obtain ⟨y1, y2, y3, y4⟩ := hx2
  have hpl : e.platform.magicAccessors = ({} : Platform).magicAccessors := by rw [X9.admits.platform]
  obtain ⟨c1, hc1, hcl1⟩ := Cond.classLink_spec X.2.2.2.2.2.2.1 (hts _ hcl) e.platform hpl
  obtain ⟨c3, c4, w1, w2, w3⟩ := Cond.castable_spec (hF.2.2.2.2.2.2.2.2.1 _ hca)
  cases g3.symm.trans w1
  cases hc1.symm.trans w2
  obtain ⟨dk, _, _, kt, hd, _, _, _, _, hkt, _, hopen⟩ := hcl1.here
  have hal := X9.warmed.alike
  obtain ⟨kt', hkt', -⟩ := hal.2.2 _ _ hkt
  obtain ⟨k9', g4', -⟩ := hal.2.2 _ _ g4
  have hW' : s.WarmedH (T.vm.noted m.cls k1 (.cls c1)) := X9.warmed.noted hd hopen (State.rightAt_cls hcl1)
  have hfind : q_fd e ((T.setTop (F0 m pc ls stv)).pushFrame (.throwing (q_ad cx n))) (F0 m pc ls stv) (q_ad cx n) t1 (T.vm.noted m.cls k1 (.cls c1)) := by
    intro Q9 E9 d9 a9
    rw [W.findHandler_eq (s := (T.setTop (F0 m pc ls stv)).pushFrame (.throwing (q_ad cx n))) (f := F0 m pc ls stv) X9.method' X9.code, hx1]
    rw [q_gorow (s := (T.setTop (F0 m pc ls stv)).pushFrame (.throwing (q_ad cx n))) (f := F0 m pc ls stv) (c := c1) (cell := cell) (by unfold covers; rw [y1, y2]; simp [F0, hcov.1, hcov.2]) (by rw [y4]; exact hk1) (by rw [y4]; exact X9.warmed.classLinks hcl1) g1 (VmData.ne_statics_of g2) ⟨k9', g4'⟩ ⟨kt', hkt'⟩,
      if_pos (by show T.vm.assignable cell.cls c1 = true; rw [hal.assignable]; exact w3), y3, y4]
    rfl
  obtain ⟨t, a1, a2⟩ := h p e R s m args below meth c T.heap locs cells slots ls X f1 f2 f3 f4 hR hS hl (T.setVm (T.vm.noted m.cls k1 (.cls c1))) rfl (X9.noted hW')
  refine ⟨t, q_caught (g := F0 m pc ls stv) X9.here hfind ?_, a2⟩
  rw [q_ref hp] at a1
  exact a1
/-- the first row passes it, the second takes it -/
theorem q_T.c2 (hh : M.2.2.2.2 = (s1, e1, t1, k1) :: (s2, e2, t2, k2) :: rest) (hcov : s1 ≤ pc ∧ pc < e1) (hcov2 : s2 ≤ pc ∧ pc < e2) (hk1 : k1 ≠ 0) (hk2 : k2 ≠ 0) (hc : q_cl[ci]? = some r) (hcl : Cond.classLink M.1.cls k1 C1 ∈ q_ws) (hcl2 : Cond.classLink M.1.cls k2 C2 ∈ q_ws) (hno : (r.1, C1) ∈ q_nca) (hca : (r.1, C2) ∈ q_cast) (hK : q_K σ n = ci + 1)
    (h : q_G l cx M fr lw kc ks t2 lo [q_r n] σ Q) : q_T l cx M fr lw kc ks pc lo n σ Q := by
  intro p e R s m args below meth c T locs cells slots ls stv X f1 f2 f3 f4 hR hS hl X9
  have hts := X.2.2.2.2.2.2.2.1
  have hF := X.2.2.2.2.2.2.2.2.1
  have hp := hR.pos (a := n) (by omega)
  obtain ⟨cell, g1, g2, g3, k9, g4⟩ := q_recv hF hR hK hc
  have htab := X.2.2.2.2.2.2.2.2.2
  rw [hh] at htab
  obtain ⟨x1, xs, hx1, hx2, hx3⟩ := List.map_eq_cons_iff.mp htab
  obtain ⟨x2, xs2, hz1, hz2, hz3⟩ := List.map_eq_cons_iff.mp hx3
  simp only [Prod.mk.injEq] at hx2 hz2
  obtain ⟨y1, y2, y3, y4⟩ := hx2
  obtain ⟨z1, z2, z3, z4⟩ := hz2
  have hpl : e.platform.magicAccessors = ({} : Platform).magicAccessors := by rw [X9.admits.platform]
  obtain ⟨c1, hc1, hcl1⟩ := Cond.classLink_spec X.2.2.2.2.2.2.1 (hts _ hcl) e.platform hpl
  obtain ⟨c2, hc2, hcl2⟩ := Cond.classLink_spec X.2.2.2.2.2.2.1 (hts _ hcl2) e.platform hpl
  obtain ⟨c3, c4, w1, w2, w3⟩ := Cond.castable_spec (hF.2.2.2.2.2.2.2.2.1 _ hca)
  cases g3.symm.trans w1
  cases hc2.symm.trans w2
  obtain ⟨c5, c6, v1, v2, v3⟩ := hF.2.2.2.2.2.2.2.2.2.2.2.2.2.2.2 _ hno
  cases g3.symm.trans v1
  cases hc1.symm.trans v2
  obtain ⟨dk, _, _, kt, hd, _, _, _, _, hkt, _, hopen⟩ := hcl1.here
  obtain ⟨dk2, _, _, kt2, hd2, _, _, _, _, hkt2, _, hopen2⟩ := hcl2.here
  have hW1 : s.WarmedH (T.vm.noted m.cls k1 (.cls c1)) := X9.warmed.noted hd hopen (State.rightAt_cls hcl1)
  have hW2 : s.WarmedH ((T.vm.noted m.cls k1 (.cls c1)).noted m.cls k2 (.cls c2)) := hW1.noted hd2 hopen2 (State.rightAt_cls hcl2)
  have hal := X9.warmed.alike
  have hal1 := hW1.alike
  obtain ⟨kt', hkt', -⟩ := hal.2.2 _ _ hkt
  obtain ⟨k9', g4', -⟩ := hal.2.2 _ _ g4
  obtain ⟨kt2', hkt2', -⟩ := hal1.2.2 _ _ hkt2
  obtain ⟨k92, g42, -⟩ := hal1.2.2 _ _ g4
  have hfind : q_fd e ((T.setTop (F0 m pc ls stv)).pushFrame (.throwing (q_ad cx n))) (F0 m pc ls stv) (q_ad cx n) t2 ((T.vm.noted m.cls k1 (.cls c1)).noted m.cls k2 (.cls c2)) := by
    intro Q9 E9 d9 a9
    rw [W.findHandler_eq (s := (T.setTop (F0 m pc ls stv)).pushFrame (.throwing (q_ad cx n))) (f := F0 m pc ls stv) X9.method' X9.code, hx1, hz1]
    rw [q_gorow (s := (T.setTop (F0 m pc ls stv)).pushFrame (.throwing (q_ad cx n))) (f := F0 m pc ls stv) (c := c1) (cell := cell) (by unfold covers; rw [y1, y2]; simp [F0, hcov.1, hcov.2]) (by rw [y4]; exact hk1) (by rw [y4]; exact X9.warmed.classLinks hcl1) g1 (VmData.ne_statics_of g2) ⟨k9', g4'⟩ ⟨kt', hkt'⟩,
      if_neg (by show ¬ T.vm.assignable cell.cls c1 = true; rw [hal.assignable, v3]; decide), y4]
    refine (q_gorow (s := ((T.setTop (F0 m pc ls stv)).pushFrame (.throwing (q_ad cx n))).setVm (T.vm.noted m.cls k1 (.cls c1))) (f := F0 m pc ls stv) (c := c2) (cell := cell) (by unfold covers; rw [z1, z2]; simp [F0, hcov2.1, hcov2.2]) (by rw [z4]; exact hk2) (by rw [z4]; exact hW1.classLinks hcl2) g1 (VmData.ne_statics_of g2) ⟨k92, g42⟩ ⟨kt2', hkt2'⟩).trans ?_
    rw [if_pos (by show (T.vm.noted m.cls k1 (.cls c1)).assignable cell.cls c2 = true; rw [hal1.assignable]; exact w3), z3, z4]
    rfl
  obtain ⟨t, a1, a2⟩ := h p e R s m args below meth c T.heap locs cells slots ls X f1 f2 f3 f4 hR hS hl (T.setVm ((T.vm.noted m.cls k1 (.cls c1)).noted m.cls k2 (.cls c2))) rfl (X9.noted hW2)
  refine ⟨t, q_caught (g := F0 m pc ls stv) X9.here hfind ?_, a2⟩
  rw [q_ref hp] at a1
  exact a1
end QCatch
/-- a contract out of a walk, the method with handlers -/
theorem q_Ct.ofW {l : Launch} {cx : q_C} {M : q_M} {fr lw mc ms : Nat} {as : List q_V} {σ : q_S} {Q : q_O → q_S → Prop} (hy : plainFor M.1 = true) (hw : Cond.codeWith M.1 M.2.1 M.2.2.1 M.2.2.2.1 M.2.2.2.2 ∈ q_ws) (hn : q_wd as ≤ M.2.2.1)
    (h : q_G l cx M fr lw mc ms 0 (q_args 0 as) [] σ Q) : q_Ct l cx M fr lw mc ms as σ Q := by
  refine MetFree.of_bodySF (code := M.2.1) (maxLocals := M.2.2.1) (ret := M.2.2.2.1) hy ?_ ?_
  · intro args s m h hn
    obtain ⟨m2, meth, c, h0, h1, h2, h3, h4, -, h5, h6, -⟩ := Cond.codeWith_spec (atoms_spec (ws := q_ws) h _ hw)
    cases hn.symm.trans h0
    exact ⟨meth, c, h1, h2, h3, h4, h5, h6⟩
  · intro p e s m args below meth c s₁ B hml hP _
    obtain ⟨rfl, hR, hF⟩ := hP
    have hh0 : s₁.heap = s.heap := by rw [B.state]; rfl
    have hts := atoms_spec (ws := q_ws) B.pre
    obtain ⟨m2, meth2, c2, h0, h1, h2, h3, h4, h9, -⟩ := Cond.codeWith_spec (hts _ hw)
    cases B.named.symm.trans h0
    cases B.method.symm.trans h1
    cases (Stand.of_body B).code.symm.trans h2
    have hX : q_X cx M p s m _ meth c := ⟨B.exec, B.bytes, hml, B.returns, B.notSynchronized, (name_of_methodNamed B.named B.method).1, findClass_of_methodNamed B.named, hts, hF, h9⟩
    have hl := lv_entry (as.map (q_tv cx)) (n := M.2.2.1) (by rw [q_wd_eq]; exact hn)
    rw [q_args_eq] at hl
    have K := h p e (headSpec q_ws { frames := fr, cells := mc, slots := ms, locals := lw }).room s m _ below meth c s.heap [] 0 0 _ hX (Nat.le_refl _) (Nat.le_refl _) (by show 0 + mc ≤ mc; omega) (by show 0 + ms ≤ ms; omega) hR va_S.rf hl
    rw [List.map_nil, ← lg_entry_eq] at K
    obtain ⟨t, a1, o, b1, b2, b3⟩ := K s₁ hh0 (Stand.of_body B)
    exact ⟨t, o, a1, b1, b2, b3⟩
