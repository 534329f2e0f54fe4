/-! MORE INSTRUCTIONS: statics, Object's constructor, arrays that are made or copied, references compared -/
theorem q_wt {cx : q_C} {st : List q_V} (h : q_wd st ≤ 8) : (st.map (fun v => (q_tv cx v).category)).sum ≤ 8 := by
  have : (st.map (fun v => (q_tv cx v).category)).sum = q_wd st := by
    clear h
    induction st with
    | nil => rfl
    | cons v st ih =>
      rw [List.map_cons, List.sum_cons, ih]
      match v with
      | .inl x => show 1 + _ = _ + 1; omega
      | .inr (.inl x) => show 2 + _ = _ + 2; omega
      | .inr (.inr x) =>
        show (q_tr cx x).category + _ = _ + 1
        rw [q_cat_r]; omega
  omega
section QMore
variable {l : Launch} {cx : q_C} {M : q_M} {fr lw kc ks : Nat} {lo : List (Nat × q_V)} {st : List q_V} {σ : q_S} {Q : q_O → q_S → Prop} {pc : Nat}
theorem q_gets {idx nm : Nat} {C n d : String} (hd : decode M.2.1 pc = .ok (.getstatic idx, 3)) (hq : (C, n, d, nm) ∈ q_stat) (hl : Cond.fieldLink M.1.cls idx C n d ∈ q_ws) (h : q_G l cx M fr lw kc ks (pc + 3) lo (.inr (.inr nm) :: st) σ Q) : q_G l cx M fr lw kc ks pc lo st σ Q := by
  intro p e R s m args below meth c H locs cells slots ls X f1 f2 f3 f4 hR hS hl9
  exact va_gets (v := q_tr cx nm) X.1 X.2.1 (X.2.2.2.2.2.2.2.2.1.2.2.2.2.1 _ hq) hS X.2.2.2.2.2.2.1 (X.2.2.2.2.2.2.2.1 _ hl) (fun _ h => h) hd (h p e R s m args below meth c H locs cells slots ls X f1 f2 f3 f4 hR hS hl9)
theorem q_objInit {idx a : Nat} (hd : decode M.2.1 pc = .ok (.invokespecial idx, 3)) (hl : Cond.methodLink M.1.cls idx objectInit ∈ q_ws) (hi : Cond.instanceMethod objectInit ∈ q_ws) (hc : Cond.code objectInit ⟨#[0xb1]⟩ 1 none ∈ q_ws) (hwt : q_wd st ≤ 8) (hrm : 1 ≤ fr ∧ 20 ≤ lw) (hp : 0 < a)
    (h : q_G l cx M fr lw kc ks (pc + 3) lo st σ Q) : q_G l cx M fr lw kc ks pc lo (.inr (.inr a) :: st) σ Q := by
  intro p e R s m args below meth c H locs cells slots ls X f1 f2 f3 f4 hR hS hl9
  have h7 := h p e R s m args below meth c H locs cells slots ls X f1 f2 f3 f4 hR hS hl9
  rw [q_ref hp]
  have hw : ((st.map (q_tv cx)).map fun v => v.category).sum ≤ 8 := by
    have h8 := q_wt (cx := cx) hwt
    rw [List.map_map]
    exact h8
  exact W.objInit X.1 X.2.1 X.2.2.2.2.2.2.1 (X.2.2.2.2.2.2.2.1 _ hl) (X.2.2.2.2.2.2.2.1 _ hi) (X.2.2.2.2.2.2.2.1 _ hc) rfl (hl9.1.trans X.2.2.1.symm) rfl hd (by omega) (by show 2 * 0 + _ + 12 ≤ _; omega) h7
/-- a new array of numbers -/
theorem q_newa {t N : Nat} {ty : ArrayType} {n : Int32} (hd : decode M.2.1 pc = .ok (.newarray ty, 2)) (hty : newarray.typeOf ty = q_ta t) (ht : t < q_nta) (hra : ∀ (U : State) (cA : ClassId), va_RA U cA (q_ta t) → U.vm.findClass ("[" ++ (q_ta t).toString) = some cA) (harr : Cond.arrayClass (q_ta t) ∈ q_ws) (hdef : ∀ j : Nat, defaultValue (q_ta t) = q_fv cx (q_new σ (1000 + t) N) (q_n σ) (q_ta t) j) (hcb : componentBytes (q_ta t) ≤ 8)
    (hn : n = nI N ∧ N ≤ 10000) (hroom : q_n σ < 10000000) (h : q_G l cx M fr lw kc ks (pc + 2) lo (.inr (.inr (q_n σ)) :: st) (q_new σ (1000 + t) N) Q) : q_G l cx M fr lw (kc + 1) (ks + N) pc lo (.inl n :: st) σ Q := by
  obtain ⟨rfl, hN⟩ := hn
  intro p e R s m args below meth c H locs cells slots ls X f1 f2 f3 f4 hR hS hl9
  have hF := X.2.2.2.2.2.2.2.2.1.2.1 t ht
  have hw9 := X.2.2.2.2.2.2.2.1 _ harr
  rw [← hty] at hw9
  have hb : N * componentBytes (newarray.typeOf ty) ≤ 536870912 := by
    rw [hty]
    have := Nat.mul_le_mul hN hcb
    omega
  refine va_newaK (g := F0 m pc ls (.int (nI N) :: st.map (q_tv cx))) X.1 X.2.1 hw9 rfl hd rfl (nI_pos (by omega)) (nI_clamp (by omega)) hb (by omega) (by omega) rfl fun H1 cA e1 z1 o1 hAr hNm => ?_
  rw [hty] at e1 hNm
  have hcA : cA = cx.2.1 t := Option.some.inj (hNm.symm.trans (hra s _ hF.2))
  subst hcA
  have hpos := hR.2.1.1
  have had : q_ad cx (q_n σ) = H.size := by rw [q_ad_lo hroom, hR.1]
  have hRep : q_Rep cx (q_new σ (1000 + t) N) H1 := by
    refine hR.push (by omega) hroom z1 o1 (fun _ => ?_)
    unfold q_at
    rw [q_K_new, if_pos rfl, if_neg (by omega), if_pos (by have : q_nta ≤ 1000 := by decide
                                                           omega), had, e1, q_Z_new, if_pos rfl]
    have e9 : 1000 + t - 1000 = t := by omega
    rw [e9]
    exact congrArg (fun g => some (arrV _ _ g)) (funext fun j => hdef j)
  have hS' : va_S (q_A cx) s.heap H1 locs := ⟨Nat.le_trans hS.1 (by omega), fun q h1 h2 => (o1 q (Nat.lt_of_lt_of_le h1 hS.1)).trans (hS.2.1 q h1 h2), hS.2.2⟩
  have hw := h p e R s m args below meth c H1 locs (cells + 1) (slots + N) ls X f1 f2 (by omega) (by omega) hRep hS' hl9
  rw [q_ref hpos, had] at hw
  exact hw
theorem q_nn {z : Int32} (hz : ¬ z < 0) : z.toInt = (z.toNatClampNeg : Int) := by
  have hz0 : (0 : Int) ≤ z.toInt := by
    have := Int32.not_lt.mp hz
    simpa using Int32.le_iff_toInt_le.mp this
  show z.toInt = ((z.toInt.toNat : Nat) : Int)
  omega
/-- arraycopy of ints -/
theorem q_copyI {idx a b : Nat} {sp dp n : Int32} (hd : decode M.2.1 pc = .ok (.invokestatic idx, 3)) (hlk : Cond.methodLink M.1.cls idx arraycopyName ∈ q_ws) (w1 : Cond.native arraycopyName ∈ q_ws) (w2 : Cond.static arraycopyName ∈ q_ws) (w3 : Cond.initialized "java/lang/System" ∈ q_ws) (hwt : q_wd st ≤ 8) (hrm : 1 ≤ fr ∧ 8 + (nativeFrameWords "java/lang/System" "arraycopy" 5 + 11) ≤ lw)
    (ha : q_K σ a = 1000) (hb : q_K σ b = 1000) (h1 : ¬ sp < 0) (h2 : ¬ dp < 0) (h3 : ¬ n < 0) (h4 : sp.toNatClampNeg + n.toNatClampNeg ≤ q_Z σ a) (h5 : dp.toNatClampNeg + n.toNatClampNeg ≤ q_Z σ b)
    (h : q_G l cx M fr lw kc ks (pc + 3) lo st (q_sI σ b (va_cpy (q_I σ a) (q_I σ b) sp.toNatClampNeg dp.toNatClampNeg n.toNatClampNeg)) Q) : q_G l cx M fr lw kc ks pc lo (.inl n :: .inl dp :: .inr (.inr b) :: .inl sp :: .inr (.inr a) :: st) σ Q := by
  intro p e R s m args below meth c H locs cells slots ls X f1 f2 f3 f4 hR hS hl9
  have hts := X.2.2.2.2.2.2.2.1
  have hpa := hR.pos (a := a) (by omega)
  have hpb := hR.pos (a := b) (by omega)
  have e0 : ((Sum.inl n :: Sum.inl dp :: Sum.inr (Sum.inr b) :: Sum.inl sp :: Sum.inr (Sum.inr a) :: st : List q_V).map (q_tv cx)) = .int n :: .int dp :: .ref (q_ad cx b) :: .int sp :: .ref (q_ad cx a) :: st.map (q_tv cx) := by
    rw [List.map_cons, List.map_cons, q_ref hpb, List.map_cons, q_ref hpa]; rfl
  rw [e0]
  have hw : ((st.map (q_tv cx)).map fun v => v.category).sum ≤ 8 := by
    have h8 := q_wt (cx := cx) hwt
    rw [List.map_map]
    exact h8
  intro T hT X9
  have hF := (X.2.2.2.2.2.2.2.2.1.2.1 0 (by decide)).1
  have hc0 : H[q_ad cx a]? = some (arrV (cx.2.1 0) (q_Z σ a) (fun k => .int (q_I σ a k))) := hR.arr (t := 0) ha (by omega)
  have hc1 : H[q_ad cx b]? = some (arrV (cx.2.1 0) (q_Z σ b) (fun k => .int (q_I σ b k))) := hR.arr (t := 0) hb (by omega)
  obtain ⟨-, k0, hk0, cm0, hkk0⟩ := hF (q_Z σ a) (fun k => .int (q_I σ a k))
  obtain ⟨-, k1, hk1, cm1, hkk1⟩ := hF (q_Z σ b) (fun k => .int (q_I σ b k))
  obtain ⟨vm', X', step⟩ := X9.arraycopy X.1 X.2.2.2.2.2.2.1 (hts _ hlk) (hts _ w1) (hts _ w2) (hts _ w3) (src := q_ad cx a) (dst := q_ad cx b) (cs := arrV (cx.2.1 0) (q_Z σ a) (fun k => .int (q_I σ a k))) (cd := arrV (cx.2.1 0) (q_Z σ b) (fun k => .int (q_I σ b k))) (srcPos := sp) (destPos := dp) (n := n) (by rw [hT]; exact hc0) (by rw [hT]; exact hc1)
    (fun _ h => by cases h) (fun _ h => by cases h) (fun h => by cases h) (fun h => by cases h) hk0 hk1 hkk0 hkk1 (by rfl) h1 h2 h3
    (by rw [q_nn h1, q_nn h3, arrV_size]; omega)
    (by rw [q_nn h2, q_nn h3, arrV_size]; omega)
    (fun vm₁ _ i hi => by
      have e : (arrV (cx.2.1 0) (q_Z σ a) (fun k => .int (q_I σ a k))).slots.getD (sp.toNatClampNeg + i) .null = .int (q_I σ a (sp.toNatClampNeg + i)) := by
        rw [Array.getD_eq_getD_getElem?, arrV_read _ _ (by omega)]
        rfl
      refine ⟨?_, ?_⟩
      · rw [e]; rfl
      · rw [e]; exact trivial)
    (g := F0 m pc ls (.int n :: .int dp :: .ref (q_ad cx b) :: .int sp :: .ref (q_ad cx a) :: st.map (q_tv cx))) rfl (hl9.1.trans X.2.2.1.symm) (rest := st.map (q_tv cx)) rfl (by rw [X.2.1]; exact hd) (by omega) (by show 2 * 0 + _ + _ ≤ _; omega)
  have e1 : copied (arrV (cx.2.1 0) (q_Z σ a) (fun k => .int (q_I σ a k))) (arrV (cx.2.1 0) (q_Z σ b) (fun k => .int (q_I σ b k))) sp dp n = arrV (cx.2.1 0) (q_Z σ b) (fun k => .int (va_cpy (q_I σ a) (q_I σ b) sp.toNatClampNeg dp.toNatClampNeg n.toNatClampNeg k)) := va_copied (fun z => .int z) _ _ _ _ h4
  rw [e1] at X' step
  have hlb : q_ad cx b < H.size := (Array.getElem?_eq_some_iff.mp hc1).1
  generalize hcell : arrV (cx.2.1 0) (q_Z σ b) (fun k => .int (va_cpy (q_I σ a) (q_I σ b) sp.toNatClampNeg dp.toNatClampNeg n.toNatClampNeg k)) = cellN at X' step
  have hheap : ((T.setVm vm').setCell (q_ad cx b) cellN).heap = H.setIfInBounds (q_ad cx b) cellN := by rw [← hT]; rfl
  have oq : ∀ q : Nat, q ≠ q_ad cx b → (H.setIfInBounds (q_ad cx b) cellN)[q]? = H[q]? := fun q hq => by simp [Array.getElem?_setIfInBounds, Ne.symm hq]
  have hA : q_A cx (q_ad cx b) := by
    have := (hR.addr (a := b) (by omega) (by omega)).1
    unfold q_A
    omega
  have hRep : q_Rep cx (q_sI σ b (va_cpy (q_I σ a) (q_I σ b) sp.toNatClampNeg dp.toNatClampNeg n.toNatClampNeg)) (H.setIfInBounds (q_ad cx b) cellN) := by
    refine hR.upd b (by omega) (by omega) rfl (fun _ => rfl) (fun z hz => ⟨rfl, by rw [q_I_sI, if_neg hz], rfl, rfl⟩) (by simp) oq ?_
    unfold q_at
    rw [q_K_sI, hb, if_neg (by omega), if_pos (by omega)]
    have e3 : (H.setIfInBounds (q_ad cx b) cellN)[q_ad cx b]? = some cellN := by simp [Array.getElem?_setIfInBounds, hlb]
    rw [e3, ← hcell, q_Z_sI]
    refine congrArg (fun g => some (arrV _ _ g)) (funext fun j => ?_)
    show _ = Value.int (q_I (q_sI σ b _) b j)
    rw [q_I_sI, if_pos rfl]
  obtain ⟨t, a1, b1⟩ := h p e R s m args below meth c _ _ cells slots ls X f1 f2 f3 f4 hRep ⟨by simp; exact hS.1, fun q g1 g2 => by
      rw [oq q (fun e => g2 (by rw [e]; exact hA))]
      exact hS.2.1 q g1 g2, fun q hq => by
      rcases List.mem_append.mp hq with h | h
      · exact hS.2.2 q h
      · obtain ⟨z, -, hz⟩ := List.mem_map.mp h
        rw [← hz]
        exact hA⟩ hl9 _ hheap X'
  exact ⟨t, step t a1, b1⟩
end QMore
