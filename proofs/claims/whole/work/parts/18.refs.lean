/-! ARRAYS OF REFERENCES, references compared, class objects -/
/-- the objects that lists here hold: of Disc, Pad, Plane -/
def q_el (σ : q_S) (v : Nat) : Prop := q_K σ v = 3 ∨ q_K σ v = 5 ∨ q_K σ v = 6
section QRefs
variable {l : Launch} {cx : q_C} {M : q_M} {fr lw kc ks : Nat} {lo : List (Nat × q_V)} {st : List q_V} {σ : q_S} {Q : q_O → q_S → Prop} {pc : Nat}
theorem q_elAny {s : State} {H : Heap} {v : Nat} (hF : q_F cx s) (hR : q_Rep cx σ H) (hv : q_el σ v) : 0 < v ∧ va_Any "java/lang/Object" s H (q_ad cx v) := by
  have key : ∀ (ci : Nat) (r : vw_C), q_cl[ci]? = some r → (r.1, "java/lang/Object") ∈ q_cast → q_K σ v = ci + 1 → 0 < v ∧ va_Any "java/lang/Object" s H (q_ad cx v) := by
    intro ci r hc hq hK
    obtain ⟨cell, g1, g2, g3, kC, hkC⟩ := q_recv hF hR hK hc
    refine ⟨hR.pos (a := v) (by omega), cell, g1, g2, ⟨kC, hkC⟩, fun comp h => ?_⟩
    obtain ⟨c3, t3, w1, w2, w3⟩ := Cond.castable_spec (va_Nw.use (A := #[]) rfl (hF.2.2.2.2.2.2.2.2.1 _ hq))
    cases g3.symm.trans w1
    cases h.symm.trans w2
    exact w3
  rcases hv with h | h | h
  · exact key 2 _ rfl (by decide) h
  · exact key 4 _ rfl (by decide) h
  · exact key 5 _ rfl (by decide) h
theorem q_dupx1 {x y : Nat} (hd : decode M.2.1 pc = .ok (.dup_x1, 1)) (h : q_G l cx M fr lw kc ks (pc + 1) lo (.inr (.inr x) :: .inr (.inr y) :: .inr (.inr x) :: st) σ Q) : q_G l cx M fr lw kc ks pc lo (.inr (.inr x) :: .inr (.inr y) :: st) σ Q := by
  intro p e R s m args below meth c H locs cells slots ls X f1 f2 f3 f4 hR hS hl9
  exact lv_dup_x1 X.1 X.2.1 hd (q_cat_r cx x) (q_cat_r cx y) (h p e R s m args below meth c H locs cells slots ls X f1 f2 f3 f4 hR hS hl9)
/-- a new array of objects -/
theorem q_newq {idx : Nat} {n : Int32} (hd : decode M.2.1 pc = .ok (.anewarray idx, 3)) (hl : Cond.classLink M.1.cls idx "java/lang/Object" ∈ q_ws) (hn : ¬ n < 0) (hn2 : n.toNatClampNeg ≤ 32) (hroom : q_n σ < 10000000)
    (h : q_G l cx M fr lw kc ks (pc + 3) lo (.inr (.inr (q_n σ)) :: st) (q_new σ 1002 n.toNatClampNeg) Q) : q_G l cx M fr lw (kc + 1) (ks + 32) pc lo (.inl n :: st) σ Q := by
  intro p e R s m args below meth c H locs cells slots ls X f1 f2 f3 f4 hR hS hl9
  have hF := X.2.2.2.2.2.2.2.2.1
  have hRA := (hF.2.1 2 (by decide)).2
  refine W.anew (g := F0 m pc ls (.int n :: st.map (q_tv cx))) X.1 X.2.1 X.2.2.2.2.2.2.1 (X.2.2.2.2.2.2.2.1 _ hl) (va_AO.use hF.2.2.2.2.2.2.2.2.2.1) rfl hd rfl hn (by omega) (by omega) (by omega) fun cA kA comp g1 g2 g3 g4 => ?_
  have hcA : cA = cx.2.1 2 := by
    obtain ⟨-, -, -, -, -, h4⟩ := hRA
    exact Option.some.inj (g1.symm.trans h4)
  subst hcA
  generalize hH1 : H.push ({ cls := cx.2.1 2, slots := Array.replicate n.toNatClampNeg .null, vm := .none } : Cell) = H1
  have z1 : H1.size = H.size + 1 := by rw [← hH1, Array.size_push]
  have e1 : H1[H.size]? = some (arrV (cx.2.1 2) n.toNatClampNeg (fun _ => .null)) := by rw [← hH1, Array.getElem?_push_size, ← arrV_new]
  have o1 : ∀ q : Nat, q < H.size → H1[q]? = H[q]? := fun q hq => by rw [← hH1, Array.getElem?_push, if_neg (Nat.ne_of_lt hq)]
  have hpos := hR.2.1.1
  have had : q_ad cx (q_n σ) = H.size := by rw [q_ad_lo hroom, hR.1]
  have hRep : q_Rep cx (q_new σ 1002 n.toNatClampNeg) H1 := by
    refine hR.push (by decide) hroom z1 o1 (fun _ => ?_)
    unfold q_at
    rw [q_K_new, if_pos rfl, if_neg (by omega), if_pos (by omega), had, e1, q_Z_new, if_pos rfl]
    refine congrArg (fun g => some (arrV _ _ g)) (funext fun j => ?_)
    show Value.null = q_tr cx (q_P (q_new σ 1002 n.toNatClampNeg) (q_n σ) j)
    rw [q_P_new, if_pos rfl]; rfl
  have hS' : va_S (q_A cx) s.heap H1 locs := ⟨Nat.le_trans hS.1 (by omega), fun q h1 h2 => (o1 q (Nat.lt_of_lt_of_le h1 hS.1)).trans (hS.2.1 q h1 h2), hS.2.2⟩
  have hw := h p e R s m args below meth c H1 locs (cells + 1) (slots + n.toNatClampNeg) ls X f1 f2 (by omega) (by omega) hRep hS' hl9
  rw [q_ref hpos, had] at hw
  exact hw
/-- a reference is laid into an array -/
theorem q_aast {a v : Nat} {i : Int32} (hd : decode M.2.1 pc = .ok (.aastore, 1)) (hK : q_K σ a = 1002) (hin : vp_in i (q_Z σ a)) (hv : q_el σ v) (h : q_G l cx M fr lw kc ks (pc + 1) lo st (q_wP σ a i.toNatClampNeg v) Q) : q_G l cx M fr lw kc ks pc lo (.inr (.inr v) :: .inl i :: .inr (.inr a) :: st) σ Q := by
  intro p e R s m args below meth c H locs cells slots ls X f1 f2 f3 f4 hR hS hl9
  have hF := X.2.2.2.2.2.2.2.2.1
  obtain ⟨hpv, cellV, g1, g3, ⟨kC, hkC⟩, hasg⟩ := q_elAny hF hR hv
  have hpa := hR.pos (a := a) (by omega)
  have e0 : ((Sum.inr (Sum.inr v) :: Sum.inl i :: Sum.inr (Sum.inr a) :: st : List q_V).map (q_tv cx)) = .ref (q_ad cx v) :: .int i :: .ref (q_ad cx a) :: st.map (q_tv cx) := by
    rw [q_ref hpv, List.map_cons, q_ref hpa]; rfl
  rw [e0]
  have hlt : i.toNatClampNeg < q_Z σ a := Nat.not_le.mp fun q => hin (Or.inr q)
  have h0 : ¬ i < 0 := fun q => hin (Or.inl q)
  obtain ⟨kA, comp, k1, k2, k3, -⟩ := (hF.2.1 2 (by decide)).2
  obtain ⟨kE, hkE, -⟩ := Vm.findClass_spec k3
  have hA : q_A cx (q_ad cx a) := by
    have := (hR.addr (a := a) (by omega) (by omega)).1
    unfold q_A
    omega
  refine W.aast X.1 X.2.1 (hR.arr (t := 2) hK (by omega)) (fun q h => by cases h) (fun h => by cases h) k1 k2 rfl hkE ⟨h0, by show _ < (arrV _ _ _).slots.size; rw [arrV_size]; exact hlt⟩ g1 (fun q h => by rw [h] at g3; cases g3) hkC (hasg _ k3) rfl rfl hd fun H1 e1 z1 o1 => ?_
  exact h p e R s m args below meth c H1 _ cells slots ls X f1 f2 f3 f4 (hR.puta (t := 2) hK (by omega) rfl (fun _ => rfl) rfl (fun b hb => ⟨rfl, rfl, rfl, by simp [q_wP, q_P_sP, hb]⟩) e1 z1 o1 (fun j hj ty => q_fv_wP_ne hj ty) (by
    show q_tr cx (q_P (q_wP σ a i.toNatClampNeg v) a i.toNatClampNeg) = _
    have : q_P (q_wP σ a i.toNatClampNeg v) a i.toNatClampNeg = v := by simp [q_wP, q_P_sP, va_up]
    rw [this, q_tr_pos hpv])) (hS.put z1 o1 hA) hl9
/-- arraycopy of references -/
theorem q_copyP {idx a b : Nat} {sp dp n : Int32} (hd : decode M.2.1 pc = .ok (.invokestatic idx, 3)) (hlk : Cond.methodLink M.1.cls idx arraycopyName ∈ q_ws) (w1 : Cond.native arraycopyName ∈ q_ws) (w2 : Cond.static arraycopyName ∈ q_ws) (w3 : Cond.initialized "java/lang/System" ∈ q_ws) (hwt : q_wd st ≤ 8) (hrm : 1 ≤ fr ∧ 8 + (nativeFrameWords "java/lang/System" "arraycopy" 5 + 11) ≤ lw)
    (ha : q_K σ a = 1002) (hb : q_K σ b = 1002) (h1 : ¬ sp < 0) (h2 : ¬ dp < 0) (h3 : ¬ n < 0) (h4 : sp.toNatClampNeg + n.toNatClampNeg ≤ q_Z σ a) (h5 : dp.toNatClampNeg + n.toNatClampNeg ≤ q_Z σ b) (hel : ∀ i, i < n.toNatClampNeg → q_P σ a (sp.toNatClampNeg + i) = 0 ∨ q_el σ (q_P σ a (sp.toNatClampNeg + i)))
    (h : q_G l cx M fr lw kc ks (pc + 3) lo st (q_sP σ b (va_cpy (q_P σ a) (q_P σ b) sp.toNatClampNeg dp.toNatClampNeg n.toNatClampNeg)) Q) : q_G l cx M fr lw kc ks pc lo (.inl n :: .inl dp :: .inr (.inr b) :: .inl sp :: .inr (.inr a) :: st) σ Q := by
  intro p e R s m args below meth c H locs cells slots ls X f1 f2 f3 f4 hR hS hl9
  have hts := X.2.2.2.2.2.2.2.1
  have hpa := hR.pos (a := a) (by omega)
  have hpb := hR.pos (a := b) (by omega)
  have e0 : ((Sum.inl n :: Sum.inl dp :: Sum.inr (Sum.inr b) :: Sum.inl sp :: Sum.inr (Sum.inr a) :: st : List q_V).map (q_tv cx)) = .int n :: .int dp :: .ref (q_ad cx b) :: .int sp :: .ref (q_ad cx a) :: st.map (q_tv cx) := by
    rw [List.map_cons, List.map_cons, q_ref hpb, List.map_cons, q_ref hpa]; rfl
  rw [e0]
  have hw : ((st.map (q_tv cx)).map fun v => v.category).sum ≤ 8 := by
    have h8 := q_wt (cx := cx) hwt
    rw [List.map_map]
    exact h8
  intro T hT X9
  have hF9 := X.2.2.2.2.2.2.2.2.1
  have hF := (hF9.2.1 2 (by decide)).1
  have hc0 : H[q_ad cx a]? = some (arrV (cx.2.1 2) (q_Z σ a) (fun k => q_tr cx (q_P σ a k))) := hR.arr (t := 2) ha (by omega)
  have hc1 : H[q_ad cx b]? = some (arrV (cx.2.1 2) (q_Z σ b) (fun k => q_tr cx (q_P σ b k))) := hR.arr (t := 2) hb (by omega)
  obtain ⟨-, k0, hk0, cm0, hkk0⟩ := hF (q_Z σ a) (fun k => q_tr cx (q_P σ a k))
  obtain ⟨-, k1, hk1, cm1, hkk1⟩ := hF (q_Z σ b) (fun k => q_tr cx (q_P σ b k))
  obtain ⟨vm', X', step⟩ := X9.arraycopy X.1 X.2.2.2.2.2.2.1 (hts _ hlk) (hts _ w1) (hts _ w2) (hts _ w3) (src := q_ad cx a) (dst := q_ad cx b) (cs := arrV (cx.2.1 2) (q_Z σ a) (fun k => q_tr cx (q_P σ a k))) (cd := arrV (cx.2.1 2) (q_Z σ b) (fun k => q_tr cx (q_P σ b k))) (srcPos := sp) (destPos := dp) (n := n) (by rw [hT]; exact hc0) (by rw [hT]; exact hc1)
    (fun _ h => by cases h) (fun _ h => by cases h) (fun h => by cases h) (fun h => by cases h) hk0 hk1 hkk0 hkk1 rfl h1 h2 h3
    (by rw [q_nn h1, q_nn h3, arrV_size]; omega)
    (by rw [q_nn h2, q_nn h3, arrV_size]; omega)
    (fun vm₁ hal i hi => by
      have e : (arrV (cx.2.1 2) (q_Z σ a) (fun k => q_tr cx (q_P σ a k))).slots.getD (sp.toNatClampNeg + i) .null = q_tr cx (q_P σ a (sp.toNatClampNeg + i)) := by
        rw [Array.getD_eq_getD_getElem?, arrV_read _ _ (by omega)]
        rfl
      rw [e]
      rcases hel i hi with hy | hy
      · rw [hy]
        exact ⟨rfl, trivial⟩
      · obtain ⟨hpy, cellV, g1, g2, ⟨kC, hkC⟩, hasg⟩ := q_elAny hF9 hR hy
        rw [q_tr_pos hpy]
        obtain ⟨kA, comp, r1, r2, r3, -⟩ := (hF9.2.1 2 (by decide)).2
        cases hk1.symm.trans r1
        cases hkk1.symm.trans r2
        obtain ⟨kE, hkE, -⟩ := Vm.findClass_spec r3
        obtain ⟨kC', hkC', -⟩ := hal.2.2 _ _ hkC
        obtain ⟨kE', hkE', -⟩ := hal.2.2 _ _ hkE
        refine ⟨rfl, cellV, (show T.heap[q_ad cx (q_P σ a (sp.toNatClampNeg + i))]? = some cellV by rw [hT]; exact g1), (fun q h => by rw [h] at g2; cases g2), ⟨kC', hkC'⟩, ?_, ?_⟩
        · exact ⟨kE', hkE'⟩
        · show vm₁.assignable _ _ = true
          rw [hal.assignable]
          exact hasg _ r3)
    (g := F0 m pc ls (.int n :: .int dp :: .ref (q_ad cx b) :: .int sp :: .ref (q_ad cx a) :: st.map (q_tv cx))) rfl (hl9.1.trans X.2.2.1.symm) (rest := st.map (q_tv cx)) rfl (by rw [X.2.1]; exact hd) (by omega) (by show 2 * 0 + _ + _ ≤ _; omega)
  have e1 : copied (arrV (cx.2.1 2) (q_Z σ a) (fun k => q_tr cx (q_P σ a k))) (arrV (cx.2.1 2) (q_Z σ b) (fun k => q_tr cx (q_P σ b k))) sp dp n = arrV (cx.2.1 2) (q_Z σ b) (fun k => q_tr cx (va_cpy (q_P σ a) (q_P σ b) sp.toNatClampNeg dp.toNatClampNeg n.toNatClampNeg k)) := va_copied (fun z => q_tr cx z) _ _ _ _ h4
  rw [e1] at X' step
  have hlb : q_ad cx b < H.size := (Array.getElem?_eq_some_iff.mp hc1).1
  generalize hcell : arrV (cx.2.1 2) (q_Z σ b) (fun k => q_tr cx (va_cpy (q_P σ a) (q_P σ b) sp.toNatClampNeg dp.toNatClampNeg n.toNatClampNeg k)) = cellN at X' step
  have hheap : ((T.setVm vm').setCell (q_ad cx b) cellN).heap = H.setIfInBounds (q_ad cx b) cellN := by rw [← hT]; rfl
  have oq : ∀ q : Nat, q ≠ q_ad cx b → (H.setIfInBounds (q_ad cx b) cellN)[q]? = H[q]? := fun q hq => by simp [Array.getElem?_setIfInBounds, Ne.symm hq]
  have hA : q_A cx (q_ad cx b) := by
    have := (hR.addr (a := b) (by omega) (by omega)).1
    unfold q_A
    omega
  have hRep : q_Rep cx (q_sP σ b (va_cpy (q_P σ a) (q_P σ b) sp.toNatClampNeg dp.toNatClampNeg n.toNatClampNeg)) (H.setIfInBounds (q_ad cx b) cellN) := by
    refine hR.upd b (by omega) (by omega) rfl (fun _ => rfl) (fun z hz => ⟨rfl, rfl, rfl, by rw [q_P_sP, if_neg hz]⟩) (by simp) oq ?_
    unfold q_at
    rw [q_K_sP, hb, if_neg (by omega), if_pos (by omega)]
    have e3 : (H.setIfInBounds (q_ad cx b) cellN)[q_ad cx b]? = some cellN := by simp [Array.getElem?_setIfInBounds, hlb]
    rw [e3, ← hcell, q_Z_sP]
    refine congrArg (fun g => some (arrV _ _ g)) (funext fun j => ?_)
    show _ = q_tr cx (q_P (q_sP σ b _) b j)
    rw [q_P_sP, if_pos rfl]
  obtain ⟨t, a1, b1⟩ := h p e R s m args below meth c _ _ cells slots ls X f1 f2 f3 f4 hRep ⟨by simp; exact hS.1, fun q g1 g2 => by
      rw [oq q (fun e => g2 (by rw [e]; exact hA))]
      exact hS.2.1 q g1 g2, fun q hq => by
      rcases List.mem_append.mp hq with h | h
      · exact hS.2.2 q h
      · obtain ⟨z, -, hz⟩ := List.mem_map.mp h
        rw [← hz]
        exact hA⟩ hl9 _ hheap X'
  exact ⟨t, step t a1, b1⟩
/-- two names of which it is known whether they are one address: equal, or cells of ours, or one of ours and one that is only read -/
def q_sep (σ : q_S) (x y : Nat) : Prop := x = y ∨ (0 < x ∧ x < q_n σ ∧ 10000000 ≤ y ∧ y < 10000000 + q_nro)
theorem q_sep_ne {s : State} {H : Heap} {x y : Nat} (hF : q_F cx s) (hR : q_Rep cx σ H) (h : q_sep σ x y) (hne : x ≠ y) : q_tr cx x ≠ q_tr cx y ∧ 0 < x ∧ 0 < y := by
  rcases h with h | ⟨h1, h2, h3, h4⟩
  · exact absurd h hne
  · refine ⟨fun e => ?_, h1, by omega⟩
    rw [q_tr_pos h1, q_tr_pos (by omega)] at e
    have e2 : q_ad cx x = q_ad cx y := Value.ref.inj e
    obtain ⟨cell, -, -, -, -, -, -, c7⟩ := hF.2.2.2.2.2.1 y h3 h4
    refine c7 ?_
    rw [← e2, q_ad_lo (by have := hR.2.1.2; omega)]
    show q_b cx < q_b cx + x
    omega
theorem q_acmp {cd : ACond} {off : Int} {tgt x y : Nat} (hd : decode M.2.1 pc = .ok (.if_acmp cd off, 3)) (ht : (pc : Int) + off = (tgt : Int)) (hs : q_sep σ x y) (hx : 0 < x) (kt : (match cd with | .eq => x = y | .ne => ¬ x = y) → q_G l cx M fr lw kc ks tgt lo st σ Q) (kf : ¬ (match cd with | .eq => x = y | .ne => ¬ x = y) → q_G l cx M fr lw kc ks (pc + 3) lo st σ Q) :
    q_G l cx M fr lw kc ks pc lo (.inr (.inr y) :: .inr (.inr x) :: st) σ Q := by
  intro p e R s m args below meth c H locs cells slots ls X f1 f2 f3 f4 hR hS hl9
  have hF := X.2.2.2.2.2.2.2.2.1
  have hy : 0 < y := by
    by_cases e : x = y
    · omega
    · exact (q_sep_ne hF hR hs e).2.2
  have hiff : (some (q_ad cx x) = some (q_ad cx y)) ↔ x = y := by
    constructor
    · intro h9
      by_cases e : x = y
      · exact e
      · refine absurd ?_ (q_sep_ne hF hR hs e).1
        rw [q_tr_pos hx, q_tr_pos hy, Option.some.inj h9]
    · intro h9; rw [h9]
  have kt' := fun h => kt h p e R s m args below meth c H locs cells slots ls X f1 f2 f3 f4 hR hS hl9
  have kf' := fun h => kf h p e R s m args below meth c H locs cells slots ls X f1 f2 f3 f4 hR hS hl9
  rw [q_ref hy, q_ref hx]
  cases cd
  · exact lv_acmp_eq (rx := some (q_ad cx x)) (ry := some (q_ad cx y)) X.1 X.2.1 hd ht (fun h => kt' (hiff.mp h)) (fun h => kf' (fun g => h (hiff.mpr g)))
  · exact lv_acmp_ne (rx := some (q_ad cx x)) (ry := some (q_ad cx y)) X.1 X.2.1 hd ht (fun h => kt' (fun g => h (hiff.mpr g))) (fun h => kf' (fun g => g (hiff.mp h)))
/-- getClass() of an array of objects, and that class as a constant: the name 10000200 -/
theorem q_getC {idx a : Nat} (hd : decode M.2.1 pc = .ok (.invokevirtual idx, 3)) (hl : Cond.methodLink M.1.cls idx ⟨"java/lang/Object", "getClass", "()Ljava/lang/Class;"⟩ ∈ q_ws) (hs : Cond.selects "[Ljava/lang/Object;" ⟨"java/lang/Object", "getClass", "()Ljava/lang/Class;"⟩ ⟨"java/lang/Object", "getClass", "()Ljava/lang/Class;"⟩ ∈ q_ws) (hi : Cond.instanceMethod ⟨"java/lang/Object", "getClass", "()Ljava/lang/Class;"⟩ ∈ q_ws) (hn : Cond.native ⟨"java/lang/Object", "getClass", "()Ljava/lang/Class;"⟩ ∈ q_ws) (hwt : q_wd st ≤ 8) (hrm : 1 ≤ fr ∧ 22 ≤ lw) (hK : q_K σ a = 1002)
    (h : q_G l cx M fr lw kc ks (pc + 3) lo (.inr (.inr 10000200) :: st) σ Q) : q_G l cx M fr lw kc ks pc lo (.inr (.inr a) :: st) σ Q := by
  intro p e R s m args below meth c H locs cells slots ls X f1 f2 f3 f4 hR hS hl9
  have hts := X.2.2.2.2.2.2.2.1
  have hF := X.2.2.2.2.2.2.2.2.1
  have h7 := h p e R s m args below meth c H locs cells slots ls X f1 f2 f3 f4 hR hS hl9
  rw [q_ref (show 0 < 10000200 by decide)] at h7
  rw [q_ref (hR.pos (a := a) (by omega))]
  have hw : ((st.map (q_tv cx)).map fun v => v.category).sum ≤ 8 := by
    have h8 := q_wt (cx := cx) hwt
    rw [List.map_map]
    exact h8
  exact va_getC X.1 X.2.1 (X.2.2.1.trans hl9.1.symm) X.2.2.2.2.2.2.1 (hts _ hl) (va_Dc.use hF.2.2.2.2.2.2.2.2.2.2.2.1) (hts _ hs) (hts _ hi) (hts _ hn) hF.2.2.2.2.2.2.2.2.2.2.1 ⟨_, hR.arr (t := 2) hK (by omega), rfl, va_nmO (hF.2.1 2 (by decide)).2 (by decide)⟩ (by omega) (by omega) hd h7
theorem q_ldcM {idx : Nat} (hd : decode M.2.1 pc = .ok (.ldc idx, 2)) (hl : Cond.classLink M.1.cls idx "[Ljava/lang/Object;" ∈ q_ws) (h : q_G l cx M fr lw kc ks (pc + 2) lo (.inr (.inr 10000200) :: st) σ Q) : q_G l cx M fr lw kc ks pc lo st σ Q := by
  intro p e R s m args below meth c H locs cells slots ls X f1 f2 f3 f4 hR hS hl9
  have h7 := h p e R s m args below meth c H locs cells slots ls X f1 f2 f3 f4 hR hS hl9
  rw [q_ref (show 0 < 10000200 by decide)] at h7
  exact va_ldcM X.1 X.2.1 X.2.2.2.2.2.2.1 (X.2.2.2.2.2.2.2.1 _ hl) X.2.2.2.2.2.2.2.2.1.2.2.2.2.2.2.2.2.2.2.1 hd h7
end QRefs
