theorem q_len1 {len n9 : Nat} {b : Bool} (h : (len == n9 && b) = true) : len = n9 ∧ b = true := by
  simpa using h
/-- the class's rows -/
theorem q_flok_spec {M : q_M} {idx ci fk ft w : Nat} (h : q_flok M idx ci fk ft w = true) : ∃ r : vw_C, q_cl[ci]? = some r ∧ fk < r.2.2 ∧ q_kd (q_tf ci fk) = ft ∧ ((w < 100000 ∧ q_ws[w]? = some (.fieldLink M.1.cls idx (r.2.1 fk).1 (r.2.1 fk).2.1 (r.2.1 fk).2.2.1)) ∨ (¬ w < 100000 ∧ ∃ host : String, (M.1.cls, idx, (r.2.1 fk).1, (r.2.1 fk).2.1, (r.2.1 fk).2.2.1, host) ∈ q_nf) ∨ (¬ w < 100000 ∧ Cond.fieldLink M.1.cls idx M.1.cls (r.2.1 fk).2.1 (r.2.1 fk).2.2.1 ∈ q_ws ∧ Cond.sameField M.1.cls (r.2.1 fk).1 (r.2.1 fk).2.1 (r.2.1 fk).2.2.1 ∈ q_ws)) := by
  unfold q_flok at h
  cases hc : q_cl[ci]? with
  | none => rw [hc] at h; cases h
  | some r =>
    rw [hc] at h
    simp only [Bool.and_eq_true, decide_eq_true_eq] at h
    refine ⟨r, rfl, h.1.1, h.1.2, ?_⟩
    have h2 := h.2
    by_cases hw : w < 100000
    · rw [if_pos hw] at h2
      exact Or.inl ⟨hw, by simpa using h2⟩
    · rw [if_neg hw] at h2
      by_cases hw2 : 200000 ≤ w
      · rw [if_pos hw2, Bool.and_eq_true, decide_eq_true_eq, decide_eq_true_eq] at h2
        exact Or.inr (Or.inr ⟨hw, List.mem_of_getElem? h2.1, h2.2⟩)
      rw [if_neg hw2] at h2
      cases hq : q_nf[w - 100000]? with
      | none => rw [hq] at h2; cases h2
      | some q =>
        rw [hq] at h2
        obtain ⟨a1, a2, a3, a4, a5, a6⟩ := q
        simp only [decide_eq_true_eq] at h2
        obtain ⟨rfl, rfl, rfl, e4, e5⟩ := h2
        subst e4; subst e5
        exact Or.inr (Or.inl ⟨hw, a6, List.mem_of_getElem? hq⟩)
section QSound
variable {l : Launch} {cx : q_C} {M : q_M} {fr lw kc ks : Nat} {lo : List (Nat × q_V)} {st : List q_V} {σ : q_S} {Q : q_O → q_S → Prop}
/-- a field is read -/
theorem q_getf {pc idx ci fk ft w a : Nat} (hd : decode M.2.1 pc = .ok (.getfield idx, 3)) (hf : q_flok M idx ci fk ft w = true) (hK : q_K σ a = ci + 1) {v : q_V} (hv : q_fv cx σ a (q_tf ci fk) fk = q_tv cx v) (h : q_G l cx M fr lw kc ks (pc + 3) lo (v :: st) σ Q) : q_G l cx M fr lw kc ks pc lo (q_r a :: st) σ Q := by
  intro p e R s m args below meth c H locs cells slots ls X f1 f2 f3 f4 hR hS hl
  have hh := h p e R s m args below meth c H locs cells slots ls X f1 f2 f3 f4 hR hS hl
  obtain ⟨hx, hb, hml, hr, hlk, hnm, hown, hts, hF, hex⟩ := X
  obtain ⟨r, hc, hk, hty, hlink⟩ := q_flok_spec hf
  obtain ⟨hlt, hin, hpt, hdist⟩ := q_cl_ok ci r hc
  obtain ⟨r', hc', cell, q1, q2, q3, q4⟩ := hR.obj hK hlt
  cases hc.symm.trans hc'
  obtain ⟨hS9, hfc, kC, hkC, hkind⟩ := hF.1.1 ci _ hc
  obtain ⟨cf, kf, fi, f, hi, hsl⟩ := hS9 fk hk
  have hst := (u_facts hfc hkC (u_lays hts hin hk) hi).1
  have hp := hR.pos (a := a) (by omega)
  have e0 : (q_r a :: st).map (q_tv cx) = .ref (q_ad cx a) :: st.map (q_tv cx) := by
    show q_tr cx a :: _ = _
    rw [q_tr_pos hp]
  rw [e0]
  have hslot : cell.slots[f.slot]? = some (q_tv cx v) := by rw [hsl, q4 fk hk]; exact congrArg some hv
  rcases hlink with ⟨-, hw⟩ | ⟨hw9, host, hw⟩ | ⟨hw9, hw, hsame9⟩
  · exact W.getf hx hb hown (hts _ (List.mem_of_getElem? hw)) hi hst q1 (by rw [q3]; exact fun h => by cases h) hslot rfl rfl hd hh
  · exact va_Wgetf hx hb hown (va_Nw.use rfl (hF.2.2.1 _ hw)) hi hst q1 (by rw [q3]; exact fun h => by cases h) hslot rfl rfl hd hh
  · exact W.getf hx hb hown (hts _ hw) (u_same (hts _ hsame9) _ hi) hst q1 (by rw [q3]; exact fun h => by cases h) hslot rfl rfl hd hh
/-- a field is written -/
theorem q_putf {pc idx ci fk ft w a : Nat} (hd : decode M.2.1 pc = .ok (.putfield idx, 3)) (hf : q_flok M idx ci fk ft w = true) (hfin : (!(q_fin ci fk) || (decide (M.1.name = "<init>") && decide (w < 100000) && decide ((q_cl[ci]?.map (fun r => (r.2.1 fk).1)) = some M.1.cls))) = true) (hK : q_K σ a = ci + 1) {v : q_V} {τ : q_S}
    (hnar : narrow (q_tf ci fk) (q_tv cx v) = q_tv cx v) (hfit : fits (q_tf ci fk) (q_tv cx v) = true) (hn : q_n τ = q_n σ) (hKt : ∀ b, q_K τ b = q_K σ b) (ho : ∀ b, b ≠ a → q_Z τ b = q_Z σ b ∧ q_I τ b = q_I σ b ∧ q_L τ b = q_L σ b ∧ q_P τ b = q_P σ b)
    (hne : ∀ j, j ≠ fk → ∀ ty, q_fv cx τ a ty j = q_fv cx σ a ty j) (heq : q_fv cx τ a (q_tf ci fk) fk = q_tv cx v) (h : q_G l cx M fr lw kc ks (pc + 3) lo st τ Q) : q_G l cx M fr lw kc ks pc lo (v :: q_r a :: st) σ Q := by
  intro p e R s m args below meth c H locs cells slots ls X f1 f2 f3 f4 hR hS hl
  have hh := fun H1 locs1 => h p e R s m args below meth c H1 locs1 cells slots ls X f1 f2 f3 f4
  obtain ⟨hx, hb, hml, hr, hlk, hnm, hown, hts, hF, hex⟩ := X
  obtain ⟨r, hc, hk, hty, hlink⟩ := q_flok_spec hf
  obtain ⟨hlt, hin, hpt, hdist⟩ := q_cl_ok ci r hc
  obtain ⟨r', hc', cell, q1, q2, q3, q4⟩ := hR.obj hK hlt
  cases hc.symm.trans hc'
  have hap := va_apart (own := M.1.cls) (args := args) hts hin (q_tf ci) hpt hdist hF.1 hc
  obtain ⟨hS9, hfc, kC, hkC, hkind⟩ := hF.1.1 ci _ hc
  obtain ⟨cf, kf, fi, f, hi, hsl⟩ := hS9 fk hk
  have hst := (u_facts hfc hkC (u_lays hts hin hk) hi).1
  have hp := hR.pos (a := a) (by omega)
  have e0 : (v :: q_r a :: st).map (q_tv cx) = q_tv cx v :: .ref (q_ad cx a) :: st.map (q_tv cx) := by
    show _ :: q_tr cx a :: _ = _
    rw [q_tr_pos hp]
  rw [e0]
  have hA : q_A cx (q_ad cx a) := by
    have := (hR.addr (a := a) (by omega) (by omega)).1
    unfold q_A
    omega
  have hlay := hts _ (hin _ (u_in_lay hk))
  have fin : ∀ H', H'[q_ad cx a]? = some (cell.setSlot f.slot (q_tv cx v)) → H'.size = H.size → (∀ q : Nat, q ≠ q_ad cx a → H'[q]? = H[q]?) → W p l e R s m args below meth c H' (locs ++ [⟨q_ad cx a, f.slot⟩]) cells slots (fun t => ∃ o, t.status = .running ∧ Ended t below o ∧ q_E cx Q s o t R.cells R.slots) (F0 m (pc + 3) ls (st.map (q_tv cx))) := by
    intro H' e1 e2 e3
    rw [hsl] at e1 ⊢
    exact hh H' _ (hR.putf hK hlt hn hKt ho hc hap hk q1 q2 q3 q4 e1 e2 e3 hne heq) (hS.put e2 e3 hA) hl
  by_cases hfi : (r.2.1 fk).2.2.2 = true
  · have hq : q_fin ci fk = true := by unfold q_fin; rw [hc]; exact hfi
    rw [hq] at hfin
    simp only [Bool.not_true, Bool.false_or, Bool.and_eq_true, decide_eq_true_eq] at hfin
    obtain ⟨⟨hinit, hw0⟩, hown2⟩ := hfin
    rw [hc] at hown2
    have hdecl : (r.2.1 fk).1 = M.1.cls := Option.some.inj hown2
    unfold u_lay at hlay
    rw [if_pos hfi] at hlay
    have hcf : m.cls = cf := by
      obtain ⟨_, _, c', _, _, _, -, -, hf', -, -, -, hown2, -⟩ := Cond.laysFinal_spec hlay
      have e1 : c' = cf := by have := hi.symm.trans hf'; simp at this; exact this.1.symm
      rw [hdecl] at hown2
      rw [← e1]; exact Option.some.inj (hown.symm.trans hown2)
    have h6 := u_fits hfc hkC hkind (Or.inr hlay) hi (hpt fk hk) hnar hfit
    rcases hlink with ⟨-, hw⟩ | ⟨hw9, host, hw⟩ | ⟨hw9, hw, hsame9⟩
    · exact W.putFinK hx hb hown (hts _ (List.mem_of_getElem? hw)) hi hst hcf (hnm.trans hinit) (by rw [q2]; exact h6) q1 q3 (by rw [hsl]; exact k2_hasslot (q4 fk hk)) rfl rfl hd fin
    · exact absurd hw0 hw9
    · exact absurd hw0 hw9
  · unfold u_lay at hlay
    rw [if_neg hfi] at hlay
    have h6 := u_store hfc hkC hkind hlay hi (hpt fk hk) hnar hfit
    rcases hlink with ⟨-, hw⟩ | ⟨hw9, host, hw⟩ | ⟨hw9, hw, hsame9⟩
    · exact W.putK hx hb (f := f) ⟨hown, hts _ (List.mem_of_getElem? hw), ⟨_, _, _, hi⟩, hst⟩ (by rw [q2]; exact h6) q1 q3 (by rw [hsl]; exact k2_hasslot (q4 fk hk)) rfl rfl hd fin
    · exact va_WputK hx hb (f := f) hown (va_Nw.use rfl (hF.2.2.1 _ hw)) hi hst (by rw [q2]; exact h6) q1 q3 (by rw [hsl]; exact k2_hasslot (q4 fk hk)) rfl rfl hd fin
    · exact W.putK hx hb (f := f) ⟨hown, hts _ hw, ⟨_, _, _, u_same (hts _ hsame9) _ hi⟩, hst⟩ (by rw [q2]; exact h6) q1 q3 (by rw [hsl]; exact k2_hasslot (q4 fk hk)) rfl rfl hd fin

/-- one place of an array has been written -/
theorem q_Rep.puta {cx : q_C} {σ τ : q_S} {H H1 : Heap} (h : q_Rep cx σ H) {a t i : Nat} {v : Value} (ha : q_K σ a = 1000 + t) (hc : t < 1000) (hn : q_n τ = q_n σ) (hK : ∀ b, q_K τ b = q_K σ b) (hZ : q_Z τ a = q_Z σ a)
    (ho : ∀ b, b ≠ a → q_Z τ b = q_Z σ b ∧ q_I τ b = q_I σ b ∧ q_L τ b = q_L σ b ∧ q_P τ b = q_P σ b)
    (e1 : H1[q_ad cx a]? = some ((arrV (cx.2.1 t) (q_Z σ a) (fun k => q_fv cx σ a (q_ta t) k)).setSlot i v)) (hz : H1.size = H.size) (oq : ∀ q : Nat, q ≠ q_ad cx a → H1[q]? = H[q]?)
    (hne : ∀ j, j ≠ i → ∀ ty, q_fv cx τ a ty j = q_fv cx σ a ty j) (heq : q_fv cx τ a (q_ta t) i = v) : q_Rep cx τ H1 := by
  refine h.upd a (by omega) (by omega) hn hK ho hz oq ?_
  unfold q_at
  rw [hK, ha, if_neg (by omega), if_pos (by omega), hZ, e1, arrV_store]
  have e : 1000 + t - 1000 = t := by omega
  rw [e]
  refine congrArg (fun g => some (arrV _ _ g)) (funext fun j => ?_)
  by_cases ej : j = i
  · subst ej
    simp only [updV, if_true]
    exact heq.symm
  · simp only [updV, if_neg ej]
    exact (hne j ej _).symm
theorem q_ref {cx : q_C} {a : Nat} (hp : 0 < a) (st : List q_V) : (Sum.inr (Sum.inr a) :: st : List q_V).map (q_tv cx) = .ref (q_ad cx a) :: st.map (q_tv cx) := by
  show q_tr cx a :: _ = _
  rw [q_tr_pos hp]
theorem q_one_ok {j : q_J} {k : List (Nat × q_V) → List q_V → q_S → Prop} (hj : q_ok M j) (h : q_one j lo st σ k) (hk : ∀ lo st σ, k lo st σ → q_G l cx M fr lw kc ks (j.1 + j.2.2.1) lo st σ Q) : q_G l cx M fr lw kc ks j.1 lo st σ Q := by
  obtain ⟨pc, i, len, ⟨ci, fk, ft, w⟩, cv, cl⟩ := j
  obtain ⟨hd, ht⟩ := hj
  dsimp only at hd hk
  cases i with
  | iconst n =>
    have ht2 : Int32.ofInt n = cv ∧ len = 1 := by simpa [q_tok] using ht
    obtain ⟨h9, rfl⟩ := ht2
    intro p e R s m args below meth c H locs cells slots ls X f1 f2 f3 f4 hR hS hl
    exact lv_iconst X.1 X.2.1 hd h9 (hk _ _ _ h p e R s m args below meth c H locs cells slots ls X f1 f2 f3 f4 hR hS hl)
  | bipush n =>
    have ht2 : (Int8.ofInt n).toInt32 = cv ∧ len = 2 := by simpa [q_tok] using ht
    obtain ⟨h9, rfl⟩ := ht2
    intro p e R s m args below meth c H locs cells slots ls X f1 f2 f3 f4 hR hS hl
    exact lv_bipush X.1 X.2.1 hd h9 (hk _ _ _ h p e R s m args below meth c H locs cells slots ls X f1 f2 f3 f4 hR hS hl)
  | sipush n =>
    have ht2 : (Int16.ofInt n).toInt32 = cv ∧ len = 3 := by simpa [q_tok] using ht
    obtain ⟨h9, rfl⟩ := ht2
    intro p e R s m args below meth c H locs cells slots ls X f1 f2 f3 f4 hR hS hl
    exact lv_sipush X.1 X.2.1 hd h9 (hk _ _ _ h p e R s m args below meth c H locs cells slots ls X f1 f2 f3 f4 hR hS hl)
  | ldc idx =>
    have ht2 : q_ws[w]? = some (.constant M.1.cls idx cv) ∧ len = 2 := by simpa [q_tok] using ht
    obtain ⟨h9, rfl⟩ := ht2
    intro p e R s m args below meth c H locs cells slots ls X f1 f2 f3 f4 hR hS hl
    exact lv_ldc X.1 X.2.1 X.2.2.2.2.2.2.1 (X.2.2.2.2.2.2.2.1 _ (List.mem_of_getElem? h9)) hd (hk _ _ _ h p e R s m args below meth c H locs cells slots ls X f1 f2 f3 f4 hR hS hl)
  | ldc_w idx =>
    have ht2 : q_ws[w]? = some (.constant M.1.cls idx cv) ∧ len = 3 := by simpa [q_tok] using ht
    obtain ⟨h9, rfl⟩ := ht2
    intro p e R s m args below meth c H locs cells slots ls X f1 f2 f3 f4 hR hS hl
    exact lv_ldcw X.1 X.2.1 X.2.2.2.2.2.2.1 (X.2.2.2.2.2.2.2.1 _ (List.mem_of_getElem? h9)) hd (hk _ _ _ h p e R s m args below meth c H locs cells slots ls X f1 f2 f3 f4 hR hS hl)
  | lconst n =>
    have ht2 : Int64.ofNat (n : Nat) = cl ∧ len = 1 := by simpa [q_tok] using ht
    obtain ⟨h9, rfl⟩ := ht2
    intro p e R s m args below meth c H locs cells slots ls X f1 f2 f3 f4 hR hS hl
    exact lv_lconst X.1 X.2.1 hd h9 (hk _ _ _ h p e R s m args below meth c H locs cells slots ls X f1 f2 f3 f4 hR hS hl)
  | ldc2_w idx =>
    have ht2 : q_ws[w]? = some (.constantLong M.1.cls idx cl) ∧ len = 3 := by simpa [q_tok] using ht
    obtain ⟨h9, rfl⟩ := ht2
    intro p e R s m args below meth c H locs cells slots ls X f1 f2 f3 f4 hR hS hl
    exact lv_ldc2 X.1 X.2.1 X.2.2.2.2.2.2.1 (X.2.2.2.2.2.2.2.1 _ (List.mem_of_getElem? h9)) hd (hk _ _ _ h p e R s m args below meth c H locs cells slots ls X f1 f2 f3 f4 hR hS hl)
  | aconst_null =>
    have hlen : len = 1 := by simpa [q_tok] using ht
    subst hlen
    intro p e R s m args below meth c H locs cells slots ls X f1 f2 f3 f4 hR hS hl
    exact lv_null X.1 X.2.1 hd (hk _ _ _ h p e R s m args below meth c H locs cells slots ls X f1 f2 f3 f4 hR hS hl)
  | iload_n n =>
    have hlen : len = 1 := by simpa [q_tok] using ht
    subst hlen
    simp only [q_one] at h
    split at h
    · rename_i x hq9
      intro p e R s m args below meth c H locs cells slots ls X f1 f2 f3 f4 hR hS hl
      exact lv_iload_n X.1 X.2.1 hd rfl (q_ld_has hl hq9) (hk _ _ _ h p e R s m args below meth c H locs cells slots ls X f1 f2 f3 f4 hR hS hl)
    · exact False.elim h
  | iload n =>
    have hlen : len = 2 := by simpa [q_tok] using ht
    subst hlen
    simp only [q_one] at h
    split at h
    · rename_i x hq9
      intro p e R s m args below meth c H locs cells slots ls X f1 f2 f3 f4 hR hS hl
      exact lv_iload X.1 X.2.1 hd (q_ld_has hl hq9) (hk _ _ _ h p e R s m args below meth c H locs cells slots ls X f1 f2 f3 f4 hR hS hl)
    · exact False.elim h
  | lload_n n =>
    have hlen : len = 1 := by simpa [q_tok] using ht
    subst hlen
    simp only [q_one] at h
    split at h
    · rename_i x hq9
      intro p e R s m args below meth c H locs cells slots ls X f1 f2 f3 f4 hR hS hl
      exact lv_lload_n X.1 X.2.1 hd rfl (q_ld_has hl hq9) (hk _ _ _ h p e R s m args below meth c H locs cells slots ls X f1 f2 f3 f4 hR hS hl)
    · exact False.elim h
  | lload n =>
    have hlen : len = 2 := by simpa [q_tok] using ht
    subst hlen
    simp only [q_one] at h
    split at h
    · rename_i x hq9
      intro p e R s m args below meth c H locs cells slots ls X f1 f2 f3 f4 hR hS hl
      exact lv_lload X.1 X.2.1 hd (q_ld_has hl hq9) (hk _ _ _ h p e R s m args below meth c H locs cells slots ls X f1 f2 f3 f4 hR hS hl)
    · exact False.elim h
  | aload_n n =>
    have hlen : len = 1 := by simpa [q_tok] using ht
    subst hlen
    simp only [q_one] at h
    split at h
    · rename_i x hq9
      intro p e R s m args below meth c H locs cells slots ls X f1 f2 f3 f4 hR hS hl
      have h8 := q_ld_has hl hq9
      have h7 := hk _ _ _ h p e R s m args below meth c H locs cells slots ls X f1 f2 f3 f4 hR hS hl
      by_cases hz : x = 0
      · subst hz
        exact lv_aload_nN X.1 X.2.1 hd rfl h8 h7
      · rw [q_ref (by omega)] at h7
        rw [q_tv_r, q_tr_pos (by omega)] at h8
        exact lv_aload_n X.1 X.2.1 hd rfl h8 h7
    · exact False.elim h
  | aload n =>
    have hlen : len = 2 := by simpa [q_tok] using ht
    subst hlen
    simp only [q_one] at h
    split at h
    · rename_i x hq9
      intro p e R s m args below meth c H locs cells slots ls X f1 f2 f3 f4 hR hS hl
      have h8 := q_ld_has hl hq9
      have h7 := hk _ _ _ h p e R s m args below meth c H locs cells slots ls X f1 f2 f3 f4 hR hS hl
      by_cases hz : x = 0
      · subst hz
        exact lv_aloadN X.1 X.2.1 hd h8 h7
      · rw [q_ref (by omega)] at h7
        rw [q_tv_r, q_tr_pos (by omega)] at h8
        exact lv_aload X.1 X.2.1 hd h8 h7
    · exact False.elim h
  | istore_n n =>
    have ht2 : len = 1 ∧ (n : Nat) < M.2.2.1 := by simpa [q_tok] using ht
    obtain ⟨rfl, h9⟩ := ht2
    rcases st with _ | ⟨x | x | x, st⟩ <;> first | exact False.elim h | (intro p e R s m args below meth c H locs cells slots ls X f1 f2 f3 f4 hR hS hl; exact lv_istore_n X.1 X.2.1 hd rfl hl h9 (q_st1_eq cx lo _ (.inl x)) (fun ls' hl' => hk _ _ _ h p e R s m args below meth c H locs cells slots ls' X f1 f2 f3 f4 hR hS hl'))
  | istore n =>
    have ht2 : len = 2 ∧ n < M.2.2.1 := by simpa [q_tok] using ht
    obtain ⟨rfl, h9⟩ := ht2
    rcases st with _ | ⟨x | x | x, st⟩ <;> first | exact False.elim h | (intro p e R s m args below meth c H locs cells slots ls X f1 f2 f3 f4 hR hS hl; exact lv_istore X.1 X.2.1 hd hl h9 (q_st1_eq cx lo _ (.inl x)) (fun ls' hl' => hk _ _ _ h p e R s m args below meth c H locs cells slots ls' X f1 f2 f3 f4 hR hS hl'))
  | lstore_n n =>
    have ht2 : len = 1 ∧ (n : Nat) + 1 < M.2.2.1 := by simpa [q_tok] using ht
    obtain ⟨rfl, h9⟩ := ht2
    rcases st with _ | ⟨x | x | x, st⟩ <;> first | exact False.elim h | (intro p e R s m args below meth c H locs cells slots ls X f1 f2 f3 f4 hR hS hl; exact lv_lstore_n X.1 X.2.1 hd rfl hl h9 (q_st2_eq cx lo _ (.inr (.inl x))) (fun ls' hl' => hk _ _ _ h p e R s m args below meth c H locs cells slots ls' X f1 f2 f3 f4 hR hS hl'))
  | lstore n =>
    have ht2 : len = 2 ∧ n + 1 < M.2.2.1 := by simpa [q_tok] using ht
    obtain ⟨rfl, h9⟩ := ht2
    rcases st with _ | ⟨x | x | x, st⟩ <;> first | exact False.elim h | (intro p e R s m args below meth c H locs cells slots ls X f1 f2 f3 f4 hR hS hl; exact lv_lstore X.1 X.2.1 hd hl h9 (q_st2_eq cx lo _ (.inr (.inl x))) (fun ls' hl' => hk _ _ _ h p e R s m args below meth c H locs cells slots ls' X f1 f2 f3 f4 hR hS hl'))
  | astore_n n =>
    have ht2 : len = 1 ∧ (n : Nat) < M.2.2.1 := by simpa [q_tok] using ht
    obtain ⟨rfl, h9⟩ := ht2
    rcases st with _ | ⟨x | x | x, st⟩
    · exact False.elim h
    · exact False.elim h
    · exact False.elim h
    · intro p e R s m args below meth c H locs cells slots ls X f1 f2 f3 f4 hR hS hl
      have e9 := q_st1_eq cx lo n (.inr (.inr x))
      have h7 := fun ls' hl' => hk _ _ _ h p e R s m args below meth c H locs cells slots ls' X f1 f2 f3 f4 hR hS hl'
      by_cases hz : x = 0
      · subst hz
        exact lv_astore_nN X.1 X.2.1 hd rfl hl h9 e9 h7
      · rw [q_ref (by omega)]
        rw [q_tv_r, q_tr_pos (by omega)] at e9
        exact lv_astore_n X.1 X.2.1 hd rfl hl h9 e9 h7
  | astore n =>
    have ht2 : len = 2 ∧ n < M.2.2.1 := by simpa [q_tok] using ht
    obtain ⟨rfl, h9⟩ := ht2
    rcases st with _ | ⟨x | x | x, st⟩
    · exact False.elim h
    · exact False.elim h
    · exact False.elim h
    · intro p e R s m args below meth c H locs cells slots ls X f1 f2 f3 f4 hR hS hl
      have e9 := q_st1_eq cx lo n (.inr (.inr x))
      have h7 := fun ls' hl' => hk _ _ _ h p e R s m args below meth c H locs cells slots ls' X f1 f2 f3 f4 hR hS hl'
      by_cases hz : x = 0
      · subst hz
        exact lv_astoreN X.1 X.2.1 hd hl h9 e9 h7
      · rw [q_ref (by omega)]
        rw [q_tv_r, q_tr_pos (by omega)] at e9
        exact lv_astore X.1 X.2.1 hd hl h9 e9 h7
  | iinc n z =>
    have ht2 : (len = 3 ∧ n < M.2.2.1) ∧ Int32.ofInt z = cv := by simpa [q_tok] using ht
    obtain ⟨⟨rfl, h9⟩, rfl⟩ := ht2
    simp only [q_one] at h
    split at h
    · rename_i x hq9
      intro p e R s m args below meth c H locs cells slots ls X f1 f2 f3 f4 hR hS hl
      obtain ⟨k9, hk9⟩ := List.getElem?_of_mem (List.mem_map.mpr ⟨(n, q_i x), q_ld_mem hq9, rfl⟩ : (n, Value.int x) ∈ q_lo cx lo)
      exact lv_iinc X.1 X.2.1 hd hl hk9 rfl h9 (q_st1_eq cx lo n (.inl (x + Int32.ofInt z))) (fun ls' hl' => hk _ _ _ h p e R s m args below meth c H locs cells slots ls' X f1 f2 f3 f4 hR hS hl')
    · exact False.elim h
  | iadd =>
    have hlen : len = 1 := by simpa [q_tok] using ht
    subst hlen
    rcases st with _ | ⟨y | y | y, _ | ⟨x | x | x, st⟩⟩ <;> first | exact False.elim h | (intro p e R s m args below meth c H locs cells slots ls X f1 f2 f3 f4 hR hS hl; exact lv_iadd X.1 X.2.1 hd (hk _ _ _ h p e R s m args below meth c H locs cells slots ls X f1 f2 f3 f4 hR hS hl))
  | isub =>
    have hlen : len = 1 := by simpa [q_tok] using ht
    subst hlen
    rcases st with _ | ⟨y | y | y, _ | ⟨x | x | x, st⟩⟩ <;> first | exact False.elim h | (intro p e R s m args below meth c H locs cells slots ls X f1 f2 f3 f4 hR hS hl; exact lv_isub X.1 X.2.1 hd (hk _ _ _ h p e R s m args below meth c H locs cells slots ls X f1 f2 f3 f4 hR hS hl))
  | imul =>
    have hlen : len = 1 := by simpa [q_tok] using ht
    subst hlen
    rcases st with _ | ⟨y | y | y, _ | ⟨x | x | x, st⟩⟩ <;> first | exact False.elim h | (intro p e R s m args below meth c H locs cells slots ls X f1 f2 f3 f4 hR hS hl; exact lv_imul X.1 X.2.1 hd (hk _ _ _ h p e R s m args below meth c H locs cells slots ls X f1 f2 f3 f4 hR hS hl))
  | iand =>
    have hlen : len = 1 := by simpa [q_tok] using ht
    subst hlen
    rcases st with _ | ⟨y | y | y, _ | ⟨x | x | x, st⟩⟩ <;> first | exact False.elim h | (intro p e R s m args below meth c H locs cells slots ls X f1 f2 f3 f4 hR hS hl; exact lv_iand X.1 X.2.1 hd (hk _ _ _ h p e R s m args below meth c H locs cells slots ls X f1 f2 f3 f4 hR hS hl))
  | ior =>
    have hlen : len = 1 := by simpa [q_tok] using ht
    subst hlen
    rcases st with _ | ⟨y | y | y, _ | ⟨x | x | x, st⟩⟩ <;> first | exact False.elim h | (intro p e R s m args below meth c H locs cells slots ls X f1 f2 f3 f4 hR hS hl; exact lv_ior X.1 X.2.1 hd (hk _ _ _ h p e R s m args below meth c H locs cells slots ls X f1 f2 f3 f4 hR hS hl))
  | ixor =>
    have hlen : len = 1 := by simpa [q_tok] using ht
    subst hlen
    rcases st with _ | ⟨y | y | y, _ | ⟨x | x | x, st⟩⟩ <;> first | exact False.elim h | (intro p e R s m args below meth c H locs cells slots ls X f1 f2 f3 f4 hR hS hl; exact lv_ixor X.1 X.2.1 hd (hk _ _ _ h p e R s m args below meth c H locs cells slots ls X f1 f2 f3 f4 hR hS hl))
  | ishl =>
    have hlen : len = 1 := by simpa [q_tok] using ht
    subst hlen
    rcases st with _ | ⟨y | y | y, _ | ⟨x | x | x, st⟩⟩ <;> first | exact False.elim h | (intro p e R s m args below meth c H locs cells slots ls X f1 f2 f3 f4 hR hS hl; exact lv_ishl X.1 X.2.1 hd (hk _ _ _ h p e R s m args below meth c H locs cells slots ls X f1 f2 f3 f4 hR hS hl))
  | ishr =>
    have hlen : len = 1 := by simpa [q_tok] using ht
    subst hlen
    rcases st with _ | ⟨y | y | y, _ | ⟨x | x | x, st⟩⟩ <;> first | exact False.elim h | (intro p e R s m args below meth c H locs cells slots ls X f1 f2 f3 f4 hR hS hl; exact lv_ishr X.1 X.2.1 hd (hk _ _ _ h p e R s m args below meth c H locs cells slots ls X f1 f2 f3 f4 hR hS hl))
  | iushr =>
    have hlen : len = 1 := by simpa [q_tok] using ht
    subst hlen
    rcases st with _ | ⟨y | y | y, _ | ⟨x | x | x, st⟩⟩ <;> first | exact False.elim h | (intro p e R s m args below meth c H locs cells slots ls X f1 f2 f3 f4 hR hS hl; exact lv_iushr X.1 X.2.1 hd rfl (hk _ _ _ h p e R s m args below meth c H locs cells slots ls X f1 f2 f3 f4 hR hS hl))
  | idiv =>
    have hlen : len = 1 := by simpa [q_tok] using ht
    subst hlen
    rcases st with _ | ⟨y | y | y, _ | ⟨x | x | x, st⟩⟩ <;> first | exact False.elim h | (intro p e R s m args below meth c H locs cells slots ls X f1 f2 f3 f4 hR hS hl; exact lv_idiv X.1 X.2.1 hd h.1 (hk _ _ _ h.2 p e R s m args below meth c H locs cells slots ls X f1 f2 f3 f4 hR hS hl))
  | irem =>
    have hlen : len = 1 := by simpa [q_tok] using ht
    subst hlen
    rcases st with _ | ⟨y | y | y, _ | ⟨x | x | x, st⟩⟩ <;> first | exact False.elim h | (intro p e R s m args below meth c H locs cells slots ls X f1 f2 f3 f4 hR hS hl; exact lv_irem X.1 X.2.1 hd h.1 (hk _ _ _ h.2 p e R s m args below meth c H locs cells slots ls X f1 f2 f3 f4 hR hS hl))
  | ineg =>
    have hlen : len = 1 := by simpa [q_tok] using ht
    subst hlen
    rcases st with _ | ⟨x | x | x, st⟩ <;> first | exact False.elim h | (intro p e R s m args below meth c H locs cells slots ls X f1 f2 f3 f4 hR hS hl; exact lv_ineg X.1 X.2.1 hd (hk _ _ _ h p e R s m args below meth c H locs cells slots ls X f1 f2 f3 f4 hR hS hl))
  | ladd =>
    have hlen : len = 1 := by simpa [q_tok] using ht
    subst hlen
    rcases st with _ | ⟨y | y | y, _ | ⟨x | x | x, st⟩⟩ <;> first | exact False.elim h | (intro p e R s m args below meth c H locs cells slots ls X f1 f2 f3 f4 hR hS hl; exact lv_ladd X.1 X.2.1 hd (hk _ _ _ h p e R s m args below meth c H locs cells slots ls X f1 f2 f3 f4 hR hS hl))
  | lsub =>
    have hlen : len = 1 := by simpa [q_tok] using ht
    subst hlen
    rcases st with _ | ⟨y | y | y, _ | ⟨x | x | x, st⟩⟩ <;> first | exact False.elim h | (intro p e R s m args below meth c H locs cells slots ls X f1 f2 f3 f4 hR hS hl; exact lv_lsub X.1 X.2.1 hd (hk _ _ _ h p e R s m args below meth c H locs cells slots ls X f1 f2 f3 f4 hR hS hl))
  | lmul =>
    have hlen : len = 1 := by simpa [q_tok] using ht
    subst hlen
    rcases st with _ | ⟨y | y | y, _ | ⟨x | x | x, st⟩⟩ <;> first | exact False.elim h | (intro p e R s m args below meth c H locs cells slots ls X f1 f2 f3 f4 hR hS hl; exact lv_lmul X.1 X.2.1 hd (hk _ _ _ h p e R s m args below meth c H locs cells slots ls X f1 f2 f3 f4 hR hS hl))
  | land =>
    have hlen : len = 1 := by simpa [q_tok] using ht
    subst hlen
    rcases st with _ | ⟨y | y | y, _ | ⟨x | x | x, st⟩⟩ <;> first | exact False.elim h | (intro p e R s m args below meth c H locs cells slots ls X f1 f2 f3 f4 hR hS hl; exact lv_land X.1 X.2.1 hd (hk _ _ _ h p e R s m args below meth c H locs cells slots ls X f1 f2 f3 f4 hR hS hl))
  | lor =>
    have hlen : len = 1 := by simpa [q_tok] using ht
    subst hlen
    rcases st with _ | ⟨y | y | y, _ | ⟨x | x | x, st⟩⟩ <;> first | exact False.elim h | (intro p e R s m args below meth c H locs cells slots ls X f1 f2 f3 f4 hR hS hl; exact lv_lor X.1 X.2.1 hd (hk _ _ _ h p e R s m args below meth c H locs cells slots ls X f1 f2 f3 f4 hR hS hl))
  | lxor =>
    have hlen : len = 1 := by simpa [q_tok] using ht
    subst hlen
    rcases st with _ | ⟨y | y | y, _ | ⟨x | x | x, st⟩⟩ <;> first | exact False.elim h | (intro p e R s m args below meth c H locs cells slots ls X f1 f2 f3 f4 hR hS hl; exact lv_lxor X.1 X.2.1 hd (hk _ _ _ h p e R s m args below meth c H locs cells slots ls X f1 f2 f3 f4 hR hS hl))
  | ldiv =>
    have hlen : len = 1 := by simpa [q_tok] using ht
    subst hlen
    rcases st with _ | ⟨y | y | y, _ | ⟨x | x | x, st⟩⟩ <;> first | exact False.elim h | (intro p e R s m args below meth c H locs cells slots ls X f1 f2 f3 f4 hR hS hl; exact lv_ldiv X.1 X.2.1 hd h.1 (hk _ _ _ h.2 p e R s m args below meth c H locs cells slots ls X f1 f2 f3 f4 hR hS hl))
  | lrem =>
    have hlen : len = 1 := by simpa [q_tok] using ht
    subst hlen
    rcases st with _ | ⟨y | y | y, _ | ⟨x | x | x, st⟩⟩ <;> first | exact False.elim h | (intro p e R s m args below meth c H locs cells slots ls X f1 f2 f3 f4 hR hS hl; exact lv_lrem X.1 X.2.1 hd h.1 (hk _ _ _ h.2 p e R s m args below meth c H locs cells slots ls X f1 f2 f3 f4 hR hS hl))
  | lneg =>
    have hlen : len = 1 := by simpa [q_tok] using ht
    subst hlen
    rcases st with _ | ⟨x | x | x, st⟩ <;> first | exact False.elim h | (intro p e R s m args below meth c H locs cells slots ls X f1 f2 f3 f4 hR hS hl; exact lv_lneg X.1 X.2.1 hd (hk _ _ _ h p e R s m args below meth c H locs cells slots ls X f1 f2 f3 f4 hR hS hl))
  | lshl =>
    have hlen : len = 1 := by simpa [q_tok] using ht
    subst hlen
    rcases st with _ | ⟨y | y | y, _ | ⟨x | x | x, st⟩⟩ <;> first | exact False.elim h | (intro p e R s m args below meth c H locs cells slots ls X f1 f2 f3 f4 hR hS hl; exact lv_lshl X.1 X.2.1 hd rfl (hk _ _ _ h p e R s m args below meth c H locs cells slots ls X f1 f2 f3 f4 hR hS hl))
  | lshr =>
    have hlen : len = 1 := by simpa [q_tok] using ht
    subst hlen
    rcases st with _ | ⟨y | y | y, _ | ⟨x | x | x, st⟩⟩ <;> first | exact False.elim h | (intro p e R s m args below meth c H locs cells slots ls X f1 f2 f3 f4 hR hS hl; exact lv_lshr X.1 X.2.1 hd rfl (hk _ _ _ h p e R s m args below meth c H locs cells slots ls X f1 f2 f3 f4 hR hS hl))
  | lushr =>
    have hlen : len = 1 := by simpa [q_tok] using ht
    subst hlen
    rcases st with _ | ⟨y | y | y, _ | ⟨x | x | x, st⟩⟩ <;> first | exact False.elim h | (intro p e R s m args below meth c H locs cells slots ls X f1 f2 f3 f4 hR hS hl; exact lv_lushr X.1 X.2.1 hd rfl (hk _ _ _ h p e R s m args below meth c H locs cells slots ls X f1 f2 f3 f4 hR hS hl))
  | lcmp =>
    have hlen : len = 1 := by simpa [q_tok] using ht
    subst hlen
    rcases st with _ | ⟨y | y | y, _ | ⟨x | x | x, st⟩⟩ <;> first | exact False.elim h | (intro p e R s m args below meth c H locs cells slots ls X f1 f2 f3 f4 hR hS hl; exact W.lcmp X.1 X.2.1 hd (hk _ _ _ h p e R s m args below meth c H locs cells slots ls X f1 f2 f3 f4 hR hS hl))
  | i2l =>
    have hlen : len = 1 := by simpa [q_tok] using ht
    subst hlen
    rcases st with _ | ⟨x | x | x, st⟩ <;> first | exact False.elim h | (intro p e R s m args below meth c H locs cells slots ls X f1 f2 f3 f4 hR hS hl; exact lv_i2l X.1 X.2.1 hd rfl (hk _ _ _ h p e R s m args below meth c H locs cells slots ls X f1 f2 f3 f4 hR hS hl))
  | l2i =>
    have hlen : len = 1 := by simpa [q_tok] using ht
    subst hlen
    rcases st with _ | ⟨x | x | x, st⟩ <;> first | exact False.elim h | (intro p e R s m args below meth c H locs cells slots ls X f1 f2 f3 f4 hR hS hl; exact lv_l2i X.1 X.2.1 hd rfl (hk _ _ _ h p e R s m args below meth c H locs cells slots ls X f1 f2 f3 f4 hR hS hl))
  | dup =>
    have hlen : len = 1 := by simpa [q_tok] using ht
    subst hlen
    rcases st with _ | ⟨x | x | x, st⟩ <;> first | exact False.elim h | (intro p e R s m args below meth c H locs cells slots ls X f1 f2 f3 f4 hR hS hl; exact lv_dup X.1 X.2.1 hd (by first | rfl | exact q_cat_r cx _) (hk _ _ _ h p e R s m args below meth c H locs cells slots ls X f1 f2 f3 f4 hR hS hl))
  | pop =>
    have hlen : len = 1 := by simpa [q_tok] using ht
    subst hlen
    rcases st with _ | ⟨x | x | x, st⟩ <;> first | exact False.elim h | (intro p e R s m args below meth c H locs cells slots ls X f1 f2 f3 f4 hR hS hl; exact lv_pop X.1 X.2.1 hd (by first | rfl | exact q_cat_r cx _) (hk _ _ _ h p e R s m args below meth c H locs cells slots ls X f1 f2 f3 f4 hR hS hl))
  | dup_x1 =>
    have hlen : len = 1 := by simpa [q_tok] using ht
    subst hlen
    rcases st with _ | ⟨y | y | y, _ | ⟨x | x | x, st⟩⟩ <;> first | exact False.elim h | (intro p e R s m args below meth c H locs cells slots ls X f1 f2 f3 f4 hR hS hl; exact lv_dup_x1 X.1 X.2.1 hd rfl (q_cat_r cx _) (hk _ _ _ h p e R s m args below meth c H locs cells slots ls X f1 f2 f3 f4 hR hS hl))
  | dup2 =>
    have hlen : len = 1 := by simpa [q_tok] using ht
    subst hlen
    rcases st with _ | ⟨y | y | y, st⟩
    · exact False.elim h
    · rcases st with _ | ⟨x | x | x, st⟩ <;> first | exact False.elim h | (intro p e R s m args below meth c H locs cells slots ls X f1 f2 f3 f4 hR hS hl; exact lv_dup2_11 X.1 X.2.1 hd rfl (q_cat_r cx _) (hk _ _ _ h p e R s m args below meth c H locs cells slots ls X f1 f2 f3 f4 hR hS hl))
    · intro p e R s m args below meth c H locs cells slots ls X f1 f2 f3 f4 hR hS hl
      exact lv_dup2_2 X.1 X.2.1 hd rfl (hk _ _ _ h p e R s m args below meth c H locs cells slots ls X f1 f2 f3 f4 hR hS hl)
    · exact False.elim h
  | getfield idx =>
    have ht2 : len = 3 ∧ q_flok M idx ci fk ft w = true := by simpa [q_tok] using ht
    obtain ⟨rfl, hf⟩ := ht2
    obtain ⟨r9, -, -, hty, -⟩ := q_flok_spec hf
    rcases st with _ | ⟨x | x | x, st⟩
    · exact False.elim h
    · exact False.elim h
    · exact False.elim h
    · obtain ⟨hK, h⟩ := h
      match ft, hty, hf, h with
      | 0, hty, hf, h => exact q_getf hd hf hK (v := q_i (q_I σ x fk)) (q_fv_i (Or.inl hty)) (hk _ _ _ h)
      | 1, hty, hf, h => exact q_getf hd hf hK (v := q_l (q_L σ x fk)) (q_fv_l hty) (hk _ _ _ h)
      | 2, hty, hf, h => exact q_getf hd hf hK (v := q_r (q_P σ x fk)) (q_fv_p hty) (hk _ _ _ h)
      | 3, hty, hf, h => exact q_getf hd hf hK (v := q_i (q_I σ x fk)) (q_fv_i (Or.inr hty)) (hk _ _ _ h)
      | n + 4, _, _, h => exact False.elim h
  | putfield idx =>
    have ht2 : (len = 3 ∧ q_flok M idx ci fk ft w = true) ∧ (!(q_fin ci fk) || (decide (M.1.name = "<init>") && decide (w < 100000) && decide ((q_cl[ci]?.map (fun r => (r.2.1 fk).1)) = some M.1.cls))) = true := by
      have h8 : (len == 3 && q_flok M idx ci fk ft w && (!(q_fin ci fk) || (decide (M.1.name = "<init>") && decide (w < 100000) && decide ((q_cl[ci]?.map (fun r => (r.2.1 fk).1)) = some M.1.cls)))) = true := ht
      rw [Bool.and_eq_true, Bool.and_eq_true] at h8
      exact ⟨⟨by simpa using h8.1.1, h8.1.2⟩, h8.2⟩
    obtain ⟨⟨rfl, hf⟩, hfin⟩ := ht2
    obtain ⟨r9, -, -, hty, -⟩ := q_flok_spec hf
    match ft, hty, hf, h with
    | 0, hty, hf, h =>
      rcases st with _ | ⟨x | x | x, _ | ⟨a | a | a, st⟩⟩ <;> first | exact False.elim h | exact q_putf (τ := q_wI σ a fk x) hd hf hfin h.1 (v := q_i x) (q_nar0 hty) (q_fit0 hty) rfl (fun _ => rfl) (fun b hb => ⟨rfl, by simp [q_wI, q_I_sI, hb], rfl, rfl⟩) (fun j hj ty => q_fv_wI_ne hj ty) (q_fv_wI_eq (Or.inl hty)) (hk _ _ _ h.2)
    | 1, hty, hf, h =>
      rcases st with _ | ⟨x | x | x, _ | ⟨a | a | a, st⟩⟩ <;> first | exact False.elim h | exact q_putf (τ := q_wL σ a fk x) hd hf hfin h.1 (v := q_l x) (q_nar1 hty) (q_fit1 hty) rfl (fun _ => rfl) (fun b hb => ⟨rfl, rfl, by simp [q_wL, q_L_sL, hb], rfl⟩) (fun j hj ty => q_fv_wL_ne hj ty) (q_fv_wL_eq hty) (hk _ _ _ h.2)
    | 2, hty, hf, h =>
      rcases st with _ | ⟨x | x | x, _ | ⟨a | a | a, st⟩⟩ <;> first | exact False.elim h | exact q_putf (τ := q_wP σ a fk x) hd hf hfin h.1 (v := q_r x) (q_nar2 hty) (q_fit2 hty) rfl (fun _ => rfl) (fun b hb => ⟨rfl, rfl, rfl, by simp [q_wP, q_P_sP, hb]⟩) (fun j hj ty => q_fv_wP_ne hj ty) (q_fv_wP_eq hty) (hk _ _ _ h.2)
    | 3, hty, hf, h =>
      rcases st with _ | ⟨x | x | x, _ | ⟨a | a | a, st⟩⟩ <;> first | exact False.elim h | exact q_putf (τ := q_wI σ a fk x) hd hf hfin h.2.1 (v := q_i x) (q_nar3 hty h.1) (q_fit3 hty h.1) rfl (fun _ => rfl) (fun b hb => ⟨rfl, by simp [q_wI, q_I_sI, hb], rfl, rfl⟩) (fun j hj ty => q_fv_wI_ne hj ty) (q_fv_wI_eq (Or.inr hty)) (hk _ _ _ h.2.2)
    | n + 4, _, _, h => exact False.elim h
  | iaload =>
    have hlen : len = 1 := by simpa [q_tok] using ht
    subst hlen
    rcases st with _ | ⟨x | x | x, _ | ⟨a | a | a, st⟩⟩ <;> try exact False.elim h
    obtain ⟨hK, hin, h⟩ := h
    intro p e R s m args below meth c H locs cells slots ls X f1 f2 f3 f4 hR hS hl
    have h7 := hk _ _ _ h p e R s m args below meth c H locs cells slots ls X f1 f2 f3 f4 hR hS hl
    have hlt : x.toNatClampNeg < q_Z σ a := Nat.not_le.mp fun q => hin (Or.inr q)
    have hp := hR.pos (a := a) (by rcases hK with q | q <;> omega)
    rw [show ((Sum.inl x :: Sum.inr (Sum.inr a) :: st : List q_V).map (q_tv cx)) = .int x :: .ref (q_ad cx a) :: st.map (q_tv cx) by rw [List.map_cons, q_ref hp]; rfl]
    rcases hK with hK | hK
    · exact W.iald (v := .int (q_I σ a x.toNatClampNeg)) X.1 X.2.1 (hR.arr (t := 0) hK (by omega)) ((X.2.2.2.2.2.2.2.2.1.2.1 0 (by decide)).1 _ _) (fun q => by cases q) (by show ¬ (x < 0 ∨ (arrV _ _ _).slots.size ≤ _); rw [arrV_size]; exact hin) (by show (arrV _ _ _).slots[_]? = _; rw [arrV_read _ _ hlt]; rfl) rfl rfl hd h7
    · obtain ⟨g1, g2, g5, g3, g4⟩ := hR.ro hK
      obtain ⟨cell, c1, c2, c3, c4, c5, c6, c7⟩ := X.2.2.2.2.2.2.2.2.1.2.2.2.2.2.1 a g1 g2
      rw [g3] at hlt
      rw [g5] at c2
      exact W.iald (v := .int (q_I σ a x.toNatClampNeg)) X.1 X.2.1 (by rw [hS.2.1 _ (Array.getElem?_eq_some_iff.mp c1).1 c7]; exact c1) c2 c3 (fun q => by rcases q with q | q; exact hin (Or.inl q); omega) (by rw [c6 _ hlt, g4]) rfl rfl hd h7
  | iastore =>
    have hlen : len = 1 := by simpa [q_tok] using ht
    subst hlen
    rcases st with _ | ⟨v | v | v, _ | ⟨x | x | x, _ | ⟨a | a | a, st⟩⟩⟩ <;> try exact False.elim h
    obtain ⟨hK, hin, h⟩ := h
    intro p e R s m args below meth c H locs cells slots ls X f1 f2 f3 f4 hR hS hl
    have hp := hR.pos (a := a) (by omega)
    rw [show ((Sum.inl v :: Sum.inl x :: Sum.inr (Sum.inr a) :: st : List q_V).map (q_tv cx)) = .int v :: .int x :: .ref (q_ad cx a) :: st.map (q_tv cx) by rw [List.map_cons, List.map_cons, q_ref hp]; rfl]
    have hA : q_A cx (q_ad cx a) := by
      have := (hR.addr (a := a) (by omega) (by omega)).1
      unfold q_A
      omega
    refine W.iast X.1 X.2.1 (hR.arr (t := 0) hK (by omega)) ((X.2.2.2.2.2.2.2.2.1.2.1 0 (by decide)).1 _ _) (fun q => by cases q) (by show ¬ (x < 0 ∨ (arrV _ _ _).slots.size ≤ _); rw [arrV_size]; exact hin) rfl rfl hd fun H1 e1 z1 o1 => ?_
    exact hk _ _ _ h p e R s m args below meth c H1 _ cells slots ls X f1 f2 f3 f4 (hR.puta (t := 0) hK (by omega) rfl (fun _ => rfl) rfl (fun b hb => ⟨rfl, by simp [q_wI, q_I_sI, hb], rfl, rfl⟩) e1 z1 o1 (fun j hj ty => q_fv_wI_ne hj ty) (q_fv_wI_eq (Or.inl rfl))) (hS.put z1 o1 hA) hl
  | baload =>
    have hlen : len = 1 := by simpa [q_tok] using ht
    subst hlen
    rcases st with _ | ⟨x | x | x, _ | ⟨a | a | a, st⟩⟩ <;> try exact False.elim h
    obtain ⟨hK, hin, h⟩ := h
    intro p e R s m args below meth c H locs cells slots ls X f1 f2 f3 f4 hR hS hl
    have h7 := hk _ _ _ h p e R s m args below meth c H locs cells slots ls X f1 f2 f3 f4 hR hS hl
    have hlt : x.toNatClampNeg < q_Z σ a := Nat.not_le.mp fun q => hin (Or.inr q)
    have hp := hR.pos (a := a) (by omega)
    rw [show ((Sum.inl x :: Sum.inr (Sum.inr a) :: st : List q_V).map (q_tv cx)) = .int x :: .ref (q_ad cx a) :: st.map (q_tv cx) by rw [List.map_cons, q_ref hp]; rfl]
    exact W.zald (v := .int (q_I σ a x.toNatClampNeg)) X.1 X.2.1 (hR.arr (t := 3) hK (by omega)) ((X.2.2.2.2.2.2.2.2.1.2.1 3 (by decide)).1 _ _) (fun q => by cases q) (by show ¬ (x < 0 ∨ (arrV _ _ _).slots.size ≤ _); rw [arrV_size]; exact hin) (by show (arrV _ _ _).slots[_]? = _; rw [arrV_read _ _ hlt]; rfl) rfl rfl hd h7
  | bastore =>
    have hlen : len = 1 := by simpa [q_tok] using ht
    subst hlen
    rcases st with _ | ⟨v | v | v, _ | ⟨x | x | x, _ | ⟨a | a | a, st⟩⟩⟩ <;> try exact False.elim h
    obtain ⟨hv01, hK, hin, h⟩ := h
    intro p e R s m args below meth c H locs cells slots ls X f1 f2 f3 f4 hR hS hl
    have hp := hR.pos (a := a) (by omega)
    rw [show ((Sum.inl v :: Sum.inl x :: Sum.inr (Sum.inr a) :: st : List q_V).map (q_tv cx)) = .int v :: .int x :: .ref (q_ad cx a) :: st.map (q_tv cx) by rw [List.map_cons, List.map_cons, q_ref hp]; rfl]
    have hA : q_A cx (q_ad cx a) := by
      have := (hR.addr (a := a) (by omega) (by omega)).1
      unfold q_A
      omega
    refine W.zast X.1 X.2.1 (hR.arr (t := 3) hK (by omega)) ((X.2.2.2.2.2.2.2.2.1.2.1 3 (by decide)).1 _ _) (fun q => by cases q) (by show ¬ (x < 0 ∨ (arrV _ _ _).slots.size ≤ _); rw [arrV_size]; exact hin) rfl rfl hd fun H1 e1 z1 o1 => ?_
    have hnv : narrow .boolean (.int v) = .int v := by rcases hv01 with rfl | rfl <;> rfl
    rw [hnv] at e1
    exact hk _ _ _ h p e R s m args below meth c H1 _ cells slots ls X f1 f2 f3 f4 (hR.puta (t := 3) hK (by omega) rfl (fun _ => rfl) rfl (fun b hb => ⟨rfl, by simp [q_wI, q_I_sI, hb], rfl, rfl⟩) e1 z1 o1 (fun j hj ty => q_fv_wI_ne hj ty) (q_fv_wI_eq (Or.inr rfl))) (hS.put z1 o1 hA) hl
  | aaload =>
    have hlen : len = 1 := by simpa [q_tok] using ht
    subst hlen
    rcases st with _ | ⟨x | x | x, _ | ⟨a | a | a, st⟩⟩ <;> try exact False.elim h
    obtain ⟨hK, hin, h⟩ := h
    intro p e R s m args below meth c H locs cells slots ls X f1 f2 f3 f4 hR hS hl
    have h7 := hk _ _ _ h p e R s m args below meth c H locs cells slots ls X f1 f2 f3 f4 hR hS hl
    have hlt : x.toNatClampNeg < q_Z σ a := Nat.not_le.mp fun q => hin (Or.inr q)
    have hp := hR.pos (a := a) (by omega)
    rw [show ((Sum.inl x :: Sum.inr (Sum.inr a) :: st : List q_V).map (q_tv cx)) = .int x :: .ref (q_ad cx a) :: st.map (q_tv cx) by rw [List.map_cons, q_ref hp]; rfl]
    exact W.aald (ty := q_ta 2) (v := q_tr cx (q_P σ a x.toNatClampNeg)) X.1 X.2.1 (hR.arr (t := 2) hK (by omega)) ((X.2.2.2.2.2.2.2.2.1.2.1 2 (by decide)).1 _ _) rfl (fun q => by cases q) (by show ¬ (x < 0 ∨ (arrV _ _ _).slots.size ≤ _); rw [arrV_size]; exact hin) (by show (arrV _ _ _).slots[_]? = _; rw [arrV_read _ _ hlt]; rfl) rfl rfl hd h7
  | laload =>
    have hlen : len = 1 := by simpa [q_tok] using ht
    subst hlen
    rcases st with _ | ⟨x | x | x, _ | ⟨a | a | a, st⟩⟩ <;> try exact False.elim h
    obtain ⟨hK, hin, h⟩ := h
    intro p e R s m args below meth c H locs cells slots ls X f1 f2 f3 f4 hR hS hl
    have h7 := hk _ _ _ h p e R s m args below meth c H locs cells slots ls X f1 f2 f3 f4 hR hS hl
    have hlt : x.toNatClampNeg < q_Z σ a := Nat.not_le.mp fun q => hin (Or.inr q)
    have hp := hR.pos (a := a) (by omega)
    rw [show ((Sum.inl x :: Sum.inr (Sum.inr a) :: st : List q_V).map (q_tv cx)) = .int x :: .ref (q_ad cx a) :: st.map (q_tv cx) by rw [List.map_cons, q_ref hp]; rfl]
    exact W.lald (v := .long (q_L σ a x.toNatClampNeg)) X.1 X.2.1 (hR.arr (t := 1) hK (by omega)) ((X.2.2.2.2.2.2.2.2.1.2.1 1 (by decide)).1 _ _) (fun q => by cases q) (by show ¬ (x < 0 ∨ (arrV _ _ _).slots.size ≤ _); rw [arrV_size]; exact hin) (by show (arrV _ _ _).slots[_]? = _; rw [arrV_read _ _ hlt]; rfl) rfl rfl hd h7
  | lastore =>
    have hlen : len = 1 := by simpa [q_tok] using ht
    subst hlen
    rcases st with _ | ⟨v | v | v, _ | ⟨x | x | x, _ | ⟨a | a | a, st⟩⟩⟩ <;> try exact False.elim h
    obtain ⟨hK, hin, h⟩ := h
    intro p e R s m args below meth c H locs cells slots ls X f1 f2 f3 f4 hR hS hl
    have hp := hR.pos (a := a) (by omega)
    rw [show ((Sum.inr (Sum.inl v) :: Sum.inl x :: Sum.inr (Sum.inr a) :: st : List q_V).map (q_tv cx)) = .long v :: .int x :: .ref (q_ad cx a) :: st.map (q_tv cx) by rw [List.map_cons, List.map_cons, q_ref hp]; rfl]
    have hA : q_A cx (q_ad cx a) := by
      have := (hR.addr (a := a) (by omega) (by omega)).1
      unfold q_A
      omega
    refine W.last X.1 X.2.1 (hR.arr (t := 1) hK (by omega)) ((X.2.2.2.2.2.2.2.2.1.2.1 1 (by decide)).1 _ _) (fun q => by cases q) (by show ¬ (x < 0 ∨ (arrV _ _ _).slots.size ≤ _); rw [arrV_size]; exact hin) rfl rfl hd fun H1 e1 z1 o1 => ?_
    exact hk _ _ _ h p e R s m args below meth c H1 _ cells slots ls X f1 f2 f3 f4 (hR.puta (t := 1) hK (by omega) rfl (fun _ => rfl) rfl (fun b hb => ⟨rfl, rfl, by simp [q_wL, q_L_sL, hb], rfl⟩) e1 z1 o1 (fun j hj ty => q_fv_wL_ne hj ty) (q_fv_wL_eq rfl)) (hS.put z1 o1 hA) hl
  | arraylength =>
    have hlen : len = 1 := by simpa [q_tok] using ht
    subst hlen
    rcases st with _ | ⟨x | x | x, st⟩ <;> try exact False.elim h
    obtain ⟨hK, h⟩ := h
    intro p e R s m args below meth c H locs cells slots ls X f1 f2 f3 f4 hR hS hl
    have h7 := hk _ _ _ h p e R s m args below meth c H locs cells slots ls X f1 f2 f3 f4 hR hS hl
    have hp := hR.pos (a := x) (by omega)
    rw [q_ref hp]
    by_cases hK2 : q_K σ x < 2000
    · obtain ⟨t9, ht9, ht8⟩ : ∃ t, q_K σ x = 1000 + t ∧ t < 1000 := ⟨q_K σ x - 1000, by omega, by omega⟩
      have ht7 : t9 < q_nta := q_Rep.kind hR ht9 ht8
      exact W.alen (n := nI (q_Z σ x)) X.1 X.2.1 (hR.arr ht9 ht8) ((X.2.2.2.2.2.2.2.2.1.2.1 t9 ht7).1 _ _) (by rw [arrV_size]; rfl) rfl rfl hd h7
    · obtain ⟨g1, g2, g3, g4⟩ := hR.ro9 (a := x) (by omega)
      obtain ⟨cell, c1, c2, c3, c4, c5, c6, c7⟩ := X.2.2.2.2.2.2.2.2.1.2.2.2.2.2.1 x g1 g2
      exact W.alen (n := nI (q_Z σ x)) X.1 X.2.1 (by rw [hS.2.1 _ (Array.getElem?_eq_some_iff.mp c1).1 c7]; exact c1) c2 (by rw [c5, g3]; rfl) rfl rfl hd h7
  | _ => exact False.elim h
/-- pc and pc' are the ends of the stretch -/
def q_seq : Nat → List q_J → Nat → Prop
  | pc, [], pc' => pc = pc'
  | pc, j :: r, pc' => j.1 = pc ∧ q_seq (pc + j.2.2.1) r pc'
theorem q_blk {js : List q_J} : ∀ {pc pc' : Nat} {lo : List (Nat × q_V)} {st : List q_V} {σ : q_S} (hok : ∀ j ∈ js, q_ok M j) (hs : q_seq pc js pc') (h : q_wp js lo st σ (fun lo st σ => q_G l cx M fr lw kc ks pc' lo st σ Q)), q_G l cx M fr lw kc ks pc lo st σ Q := by
  induction js with
  | nil => intro pc pc' lo st σ hok hs h; cases hs; exact h
  | cons j r ih =>
    intro pc pc' lo st σ hok hs h
    obtain ⟨rfl, hs⟩ := hs
    exact q_one_ok (hok j List.mem_cons_self) h (fun lo st σ h => ih (fun j hj => hok j (List.mem_cons_of_mem _ hj)) hs h)
/-- a stretch of a method's own list: from its i-th instruction, n of them -/
def q_seqb : Nat → List q_J → Nat → Bool
  | pc, [], pc' => pc == pc'
  | pc, j :: r, pc' => j.1 == pc && (!(j.2.2.2.1.2.2.2 == 999999) && q_seqb (pc + j.2.2.1) r pc')
theorem q_seqb_spec {js : List q_J} : ∀ {pc pc' : Nat}, q_seqb pc js pc' = true → q_seq pc js pc' ∧ ∀ j ∈ js, (j.2.2.2.1.2.2.2 == 999999) = false := by
  induction js with
  | nil => intro pc pc' h; exact ⟨by simpa [q_seqb, q_seq] using h, fun j hj => by cases hj⟩
  | cons j r ih =>
    intro pc pc' h
    unfold q_seqb at h
    rw [Bool.and_eq_true, Bool.and_eq_true] at h
    obtain ⟨h1, h2, h3⟩ := h
    obtain ⟨g1, g2⟩ := ih h3
    have e1 : j.1 = pc := by simpa using h1
    refine ⟨⟨e1, g1⟩, fun x hx => ?_⟩
    rcases List.mem_cons.mp hx with rfl | hx
    · simpa using h2
    · exact g2 x hx
theorem q_run {cd : List q_J} (hcd : cd.all (q_okb M) = true) (i n : Nat) {pc : Nat} (pc' : Nat) (hs : q_seqb pc ((cd.drop i).take n) pc' = true) (h : q_wp ((cd.drop i).take n) lo st σ (fun lo st σ => q_G l cx M fr lw kc ks pc' lo st σ Q)) : q_G l cx M fr lw kc ks pc lo st σ Q := by
  obtain ⟨h1, h2⟩ := q_seqb_spec hs
  exact q_blk (fun j hj => q_okb_ok hcd (List.mem_of_mem_drop (List.mem_of_mem_take hj)) (h2 j hj)) h1 h
end QSound
