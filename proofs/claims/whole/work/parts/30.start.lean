/-! WHAT HOLDS AT THE START, AND THE CLAIM OUT OF WHAT THE LAW ASKS (by program: wip/whole/tools/gen30.py) -/
theorem q_tx {args : Array Value} {s : State} {own tx : String} {k : Nat} (hi : (Cond.initialized own).before args s = true) (h : (Cond.stringRef own k tx).before args s = true) : ∃ a, vk_R own k tx a s := by
  have hc : ∃ c, s.vm.findClass own = some c := by
    cases hc : s.vm.findClass own with
    | none => simp [Cond.before, Cond.holds, Cond.value, hc] at hi
    | some c => exact ⟨c, rfl⟩
  obtain ⟨c, hc⟩ := hc
  obtain ⟨k9, cf, i, a, h1, h2, h3, h4, h5, h6⟩ := Cond.stringRef_spec hc h
  exact ⟨a, vk_R.of h h6⟩
theorem q_skol {α : Type} (nm : α → Nat) (P : α → Nat → Prop) : ∀ (l : List α), l.Pairwise (fun a b => nm a ≠ nm b) → (∀ q ∈ l, ∃ a, P q a) → ∃ f : Nat → Nat, ∀ q ∈ l, P q (f (nm q)) := by
  intro l
  induction l with
  | nil => intro _ _; exact ⟨fun _ => 0, fun q hq => by cases hq⟩
  | cons q r ih =>
    intro hp h
    obtain ⟨hp1, hp2⟩ := List.pairwise_cons.mp hp
    obtain ⟨f, hf⟩ := ih hp2 (fun z hz => h z (List.mem_cons_of_mem _ hz))
    obtain ⟨a, ha⟩ := h q List.mem_cons_self
    refine ⟨va_up f (nm q) a, fun z hz => ?_⟩
    rcases List.mem_cons.mp hz with rfl | hz
    · rw [va_up_self]; exact ha
    · rw [va_up_ne _ _ (Ne.symm (hp1 z hz))]; exact hf z hz
theorem q_ac {args : Array Value} {s : State} {ty : FieldType} (hra : ∀ (U : State) (cA : ClassId), U.vm.findClass ("[" ++ ty.toString) = some cA → va_RA U cA ty) (h : (Cond.arrayClass ty).before args s = true) : ∃ cA, ArrOfT s cA ty ∧ va_RA s cA ty := by
  obtain ⟨c, k, comp, h1, h2, h3⟩ := Cond.arrayClass_spec h
  exact ⟨c, fun n z => ⟨fun k9 e9 => (by cases e9), k, h2, comp, h3⟩, hra s c h1⟩
theorem q_ao {args : Array Value} {s : State} {n : String} (h : (Cond.arrayOver (.object n)).before args s = true) : ∃ cA, ArrOfT s cA (.object n) ∧ va_RA s cA (.object n) := by
  obtain ⟨comp, c, k, h1, h2, h3, h4, h5⟩ := Cond.arrayOver_spec h
  exact ⟨c, fun n z => ⟨fun k9 e9 => (by cases e9), k, h3, comp, h4⟩, k, comp, h3, h4, h1, h5⟩
theorem q_inst : ∀ (ci : Nat) (r : vw_C), q_cl[ci]? = some r → ∃ n, Cond.instantiable r.1 n ∈ q_ws := by
  intro ci r h
  match ci, h with
  | 0, h => cases h; exact ⟨9, List.mem_of_getElem? (i := 94) (by decide +kernel)⟩
  | 1, h => cases h; exact ⟨4, List.mem_of_getElem? (i := 375) (by decide +kernel)⟩
  | 2, h => cases h; exact ⟨5, List.mem_of_getElem? (i := 199) (by decide +kernel)⟩
  | 3, h => cases h; exact ⟨5, List.mem_of_getElem? (i := 124) (by decide +kernel)⟩
  | 4, h => cases h; exact ⟨6, List.mem_of_getElem? (i := 215) (by decide +kernel)⟩
  | 5, h => cases h; exact ⟨12, List.mem_of_getElem? (i := 280) (by decide +kernel)⟩
  | 6, h => cases h; exact ⟨32, List.mem_of_getElem? (i := 864) (by decide +kernel)⟩
  | 7, h => cases h; exact ⟨3, List.mem_of_getElem? (i := 102) (by decide +kernel)⟩
  | 8, h => cases h; exact ⟨6, List.mem_of_getElem? (i := 305) (by decide +kernel)⟩
  | 9, h => cases h; exact ⟨6, List.mem_of_getElem? (i := 358) (by decide +kernel)⟩
  | n + 10, h => cases h
theorem q_snf {args : Array Value} {s : State} (hts : ∀ w ∈ lw_tbl, w.before args s = true) : ∀ q ∈ q_nf, va_Nw (.fieldLinkNest q.1 q.2.1 q.2.2.1 q.2.2.2.1 q.2.2.2.2.1 q.2.2.2.2.2) s := by
  have hk : ∀ (i : Nat) (q : String × Nat × String × String × String × String), q_nf[i]? = some q → va_Nw (.fieldLinkNest q.1 q.2.1 q.2.2.1 q.2.2.2.1 q.2.2.2.2.1 q.2.2.2.2.2) s := by
    intro i q h
    match i, h with
    | 0, h => cases h; exact va_Nw.of rfl (hts _ (List.mem_of_getElem? (i := 136) (by decide +kernel)))
    | 1, h => cases h; exact va_Nw.of rfl (hts _ (List.mem_of_getElem? (i := 467) (by decide +kernel)))
    | 2, h => cases h; exact va_Nw.of rfl (hts _ (List.mem_of_getElem? (i := 468) (by decide +kernel)))
    | 3, h => cases h; exact va_Nw.of rfl (hts _ (List.mem_of_getElem? (i := 469) (by decide +kernel)))
    | 4, h => cases h; exact va_Nw.of rfl (hts _ (List.mem_of_getElem? (i := 470) (by decide +kernel)))
    | 5, h => cases h; exact va_Nw.of rfl (hts _ (List.mem_of_getElem? (i := 481) (by decide +kernel)))
    | 6, h => cases h; exact va_Nw.of rfl (hts _ (List.mem_of_getElem? (i := 483) (by decide +kernel)))
    | 7, h => cases h; exact va_Nw.of rfl (hts _ (List.mem_of_getElem? (i := 485) (by decide +kernel)))
    | 8, h => cases h; exact va_Nw.of rfl (hts _ (List.mem_of_getElem? (i := 487) (by decide +kernel)))
    | 9, h => cases h; exact va_Nw.of rfl (hts _ (List.mem_of_getElem? (i := 492) (by decide +kernel)))
    | 10, h => cases h; exact va_Nw.of rfl (hts _ (List.mem_of_getElem? (i := 493) (by decide +kernel)))
    | 11, h => cases h; exact va_Nw.of rfl (hts _ (List.mem_of_getElem? (i := 495) (by decide +kernel)))
    | 12, h => cases h; exact va_Nw.of rfl (hts _ (List.mem_of_getElem? (i := 497) (by decide +kernel)))
    | 13, h => cases h; exact va_Nw.of rfl (hts _ (List.mem_of_getElem? (i := 890) (by decide +kernel)))
    | 14, h => cases h; exact va_Nw.of rfl (hts _ (List.mem_of_getElem? (i := 892) (by decide +kernel)))
    | 15, h => cases h; exact va_Nw.of rfl (hts _ (List.mem_of_getElem? (i := 936) (by decide +kernel)))
    | 16, h => cases h; exact va_Nw.of rfl (hts _ (List.mem_of_getElem? (i := 938) (by decide +kernel)))
    | n + 17, h => cases h
  intro q hq
  obtain ⟨i, hi⟩ := List.mem_iff_getElem?.mp hq
  exact hk i q hi
theorem q_snm {args : Array Value} {s : State} (hts : ∀ w ∈ lw_tbl, w.before args s = true) : ∀ q ∈ q_nm, va_Nw (.methodLinkNest q.1 q.2.1 q.2.2.1 q.2.2.2) s := by
  have hk : ∀ (i : Nat) (q : String × Nat × MethodName × String), q_nm[i]? = some q → va_Nw (.methodLinkNest q.1 q.2.1 q.2.2.1 q.2.2.2) s := by
    intro i q h
    match i, h with
    | 0, h => cases h; exact va_Nw.of rfl (hts _ (List.mem_of_getElem? (i := 129) (by decide +kernel)))
    | 1, h => cases h; exact va_Nw.of rfl (hts _ (List.mem_of_getElem? (i := 231) (by decide +kernel)))
    | 2, h => cases h; exact va_Nw.of rfl (hts _ (List.mem_of_getElem? (i := 236) (by decide +kernel)))
    | 3, h => cases h; exact va_Nw.of rfl (hts _ (List.mem_of_getElem? (i := 251) (by decide +kernel)))
    | 4, h => cases h; exact va_Nw.of rfl (hts _ (List.mem_of_getElem? (i := 264) (by decide +kernel)))
    | 5, h => cases h; exact va_Nw.of rfl (hts _ (List.mem_of_getElem? (i := 269) (by decide +kernel)))
    | 6, h => cases h; exact va_Nw.of rfl (hts _ (List.mem_of_getElem? (i := 295) (by decide +kernel)))
    | 7, h => cases h; exact va_Nw.of rfl (hts _ (List.mem_of_getElem? (i := 300) (by decide +kernel)))
    | 8, h => cases h; exact va_Nw.of rfl (hts _ (List.mem_of_getElem? (i := 321) (by decide +kernel)))
    | 9, h => cases h; exact va_Nw.of rfl (hts _ (List.mem_of_getElem? (i := 335) (by decide +kernel)))
    | 10, h => cases h; exact va_Nw.of rfl (hts _ (List.mem_of_getElem? (i := 339) (by decide +kernel)))
    | 11, h => cases h; exact va_Nw.of rfl (hts _ (List.mem_of_getElem? (i := 340) (by decide +kernel)))
    | 12, h => cases h; exact va_Nw.of rfl (hts _ (List.mem_of_getElem? (i := 341) (by decide +kernel)))
    | 13, h => cases h; exact va_Nw.of rfl (hts _ (List.mem_of_getElem? (i := 456) (by decide +kernel)))
    | 14, h => cases h; exact va_Nw.of rfl (hts _ (List.mem_of_getElem? (i := 462) (by decide +kernel)))
    | 15, h => cases h; exact va_Nw.of rfl (hts _ (List.mem_of_getElem? (i := 853) (by decide +kernel)))
    | 16, h => cases h; exact va_Nw.of rfl (hts _ (List.mem_of_getElem? (i := 864) (by decide +kernel)))
    | 17, h => cases h; exact va_Nw.of rfl (hts _ (List.mem_of_getElem? (i := 875) (by decide +kernel)))
    | 18, h => cases h; exact va_Nw.of rfl (hts _ (List.mem_of_getElem? (i := 885) (by decide +kernel)))
    | 19, h => cases h; exact va_Nw.of rfl (hts _ (List.mem_of_getElem? (i := 931) (by decide +kernel)))
    | 20, h => cases h; exact va_Nw.of rfl (hts _ (List.mem_of_getElem? (i := 968) (by decide +kernel)))
    | 21, h => cases h; exact va_Nw.of rfl (hts _ (List.mem_of_getElem? (i := 976) (by decide +kernel)))
    | 22, h => cases h; exact va_Nw.of rfl (hts _ (List.mem_of_getElem? (i := 1033) (by decide +kernel)))
    | 23, h => cases h; exact va_Nw.of rfl (hts _ (List.mem_of_getElem? (i := 1037) (by decide +kernel)))
    | n + 24, h => cases h
  intro q hq
  obtain ⟨i, hi⟩ := List.mem_iff_getElem?.mp hq
  exact hk i q hi
theorem q_sif {args : Array Value} {s : State} (hts : ∀ w ∈ lw_tbl, w.before args s = true) : ∀ q ∈ q_if, va_Fw q.1 q.2.1 q.2.2 s := by
  have hk : ∀ (i : Nat) (q : String × MethodName × MethodName), q_if[i]? = some q → va_Fw q.1 q.2.1 q.2.2 s := by
    intro i q h
    match i, h with
    | 0, h => cases h; exact va_Fw.of (hts _ (List.mem_of_getElem? (i := 196) (by decide +kernel))) (hts _ (List.mem_of_getElem? (i := 195) (by decide +kernel))) (hts _ (List.mem_of_getElem? (i := 201) (by decide +kernel))) (hts _ (List.mem_of_getElem? (i := 199) (by decide +kernel))) (hts _ (List.mem_of_getElem? (i := 197) (by decide +kernel)))
    | 1, h => cases h; exact va_Fw.of (hts _ (List.mem_of_getElem? (i := 206) (by decide +kernel))) (hts _ (List.mem_of_getElem? (i := 205) (by decide +kernel))) (hts _ (List.mem_of_getElem? (i := 210) (by decide +kernel))) (hts _ (List.mem_of_getElem? (i := 208) (by decide +kernel))) (hts _ (List.mem_of_getElem? (i := 197) (by decide +kernel)))
    | 2, h => cases h; exact va_Fw.of (hts _ (List.mem_of_getElem? (i := 530) (by decide +kernel))) (hts _ (List.mem_of_getElem? (i := 529) (by decide +kernel))) (hts _ (List.mem_of_getElem? (i := 534) (by decide +kernel))) (hts _ (List.mem_of_getElem? (i := 532) (by decide +kernel))) (hts _ (List.mem_of_getElem? (i := 197) (by decide +kernel)))
    | 3, h => cases h; exact va_Fw.of (hts _ (List.mem_of_getElem? (i := 826) (by decide +kernel))) (hts _ (List.mem_of_getElem? (i := 825) (by decide +kernel))) (hts _ (List.mem_of_getElem? (i := 830) (by decide +kernel))) (hts _ (List.mem_of_getElem? (i := 828) (by decide +kernel))) (hts _ (List.mem_of_getElem? (i := 197) (by decide +kernel)))
    | n + 4, h => cases h
  intro q hq
  obtain ⟨i, hi⟩ := List.mem_iff_getElem?.mp hq
  exact hk i q hi
theorem q_scast {args : Array Value} {s : State} (hts : ∀ w ∈ lw_tbl, w.before args s = true) : ∀ q ∈ q_cast, va_Nw (.castable q.1 q.2) s := by
  have hk : ∀ (i : Nat) (q : String × String), q_cast[i]? = some q → va_Nw (.castable q.1 q.2) s := by
    intro i q h
    match i, h with
    | 0, h => cases h; exact va_Nw.of rfl (hts _ (List.mem_of_getElem? (i := 197) (by decide +kernel)))
    | 1, h => cases h; exact va_Nw.of rfl (hts _ (List.mem_of_getElem? (i := 371) (by decide +kernel)))
    | 2, h => cases h; exact va_Nw.of rfl (hts _ (List.mem_of_getElem? (i := 441) (by decide +kernel)))
    | 3, h => cases h; exact va_Nw.of rfl (hts _ (List.mem_of_getElem? (i := 1375) (by decide +kernel)))
    | 4, h => cases h; exact va_Nw.of rfl (hts _ (List.mem_of_getElem? (i := 1376) (by decide +kernel)))
    | 5, h => cases h; exact va_Nw.of rfl (hts _ (List.mem_of_getElem? (i := 1377) (by decide +kernel)))
    | 6, h => cases h; exact va_Nw.of rfl (hts _ (List.mem_of_getElem? (i := 1381) (by decide +kernel)))
    | 7, h => cases h; exact va_Nw.of rfl (hts _ (List.mem_of_getElem? (i := 1382) (by decide +kernel)))
    | 8, h => cases h; exact va_Nw.of rfl (hts _ (List.mem_of_getElem? (i := 1383) (by decide +kernel)))
    | 9, h => cases h; exact va_Nw.of rfl (hts _ (List.mem_of_getElem? (i := 1384) (by decide +kernel)))
    | 10, h => cases h; exact va_Nw.of rfl (hts _ (List.mem_of_getElem? (i := 1385) (by decide +kernel)))
    | 11, h => cases h; exact va_Nw.of rfl (hts _ (List.mem_of_getElem? (i := 1387) (by decide +kernel)))
    | 12, h => cases h; exact va_Nw.of rfl (hts _ (List.mem_of_getElem? (i := 1388) (by decide +kernel)))
    | n + 13, h => cases h
  intro q hq
  obtain ⟨i, hi⟩ := List.mem_iff_getElem?.mp hq
  exact hk i q hi
theorem q_sdec {args : Array Value} {s : State} (hts : ∀ w ∈ lw_tbl, w.before args s = true) : ∀ q ∈ q_dec, va_Nw (.declares q) s := by
  have hk : ∀ (i : Nat) (q : MethodName), q_dec[i]? = some q → va_Nw (.declares q) s := by
    intro i q h
    match i, h with
    | 0, h => cases h; exact va_Nw.of rfl (hts _ (List.mem_of_getElem? (i := 196) (by decide +kernel)))
    | 1, h => cases h; exact va_Nw.of rfl (hts _ (List.mem_of_getElem? (i := 206) (by decide +kernel)))
    | 2, h => cases h; exact va_Nw.of rfl (hts _ (List.mem_of_getElem? (i := 372) (by decide +kernel)))
    | 3, h => cases h; exact va_Nw.of rfl (hts _ (List.mem_of_getElem? (i := 373) (by decide +kernel)))
    | 4, h => cases h; exact va_Nw.of rfl (hts _ (List.mem_of_getElem? (i := 374) (by decide +kernel)))
    | 5, h => cases h; exact va_Nw.of rfl (hts _ (List.mem_of_getElem? (i := 375) (by decide +kernel)))
    | 6, h => cases h; exact va_Nw.of rfl (hts _ (List.mem_of_getElem? (i := 376) (by decide +kernel)))
    | 7, h => cases h; exact va_Nw.of rfl (hts _ (List.mem_of_getElem? (i := 377) (by decide +kernel)))
    | 8, h => cases h; exact va_Nw.of rfl (hts _ (List.mem_of_getElem? (i := 530) (by decide +kernel)))
    | 9, h => cases h; exact va_Nw.of rfl (hts _ (List.mem_of_getElem? (i := 826) (by decide +kernel)))
    | 10, h => cases h; exact va_Nw.of rfl (hts _ (List.mem_of_getElem? (i := 1380) (by decide +kernel)))
    | n + 11, h => cases h
  intro q hq
  obtain ⟨i, hi⟩ := List.mem_iff_getElem?.mp hq
  exact hk i q hi
theorem q_sstr {args : Array Value} {s : State} (hts : ∀ w ∈ lw_tbl, w.before args s = true) : ∀ q ∈ q_str, ∃ a, vk_R q.1 q.2.1 q.2.2.1 a s := by
  have hk : ∀ (i : Nat) (q : String × Nat × String × Nat), q_str[i]? = some q → ∃ a, vk_R q.1 q.2.1 q.2.2.1 a s := by
    intro i q h
    match i, h with
    | 0, h => cases h; exact q_tx (hts _ (List.mem_of_getElem? (i := 66) (by decide +kernel))) (hts _ (List.mem_of_getElem? (i := 455) (by decide +kernel)))
    | 1, h => cases h; exact q_tx (hts _ (List.mem_of_getElem? (i := 66) (by decide +kernel))) (hts _ (List.mem_of_getElem? (i := 884) (by decide +kernel)))
    | 2, h => cases h; exact q_tx (hts _ (List.mem_of_getElem? (i := 66) (by decide +kernel))) (hts _ (List.mem_of_getElem? (i := 914) (by decide +kernel)))
    | 3, h => cases h; exact q_tx (hts _ (List.mem_of_getElem? (i := 66) (by decide +kernel))) (hts _ (List.mem_of_getElem? (i := 919) (by decide +kernel)))
    | 4, h => cases h; exact q_tx (hts _ (List.mem_of_getElem? (i := 66) (by decide +kernel))) (hts _ (List.mem_of_getElem? (i := 930) (by decide +kernel)))
    | 5, h => cases h; exact q_tx (hts _ (List.mem_of_getElem? (i := 66) (by decide +kernel))) (hts _ (List.mem_of_getElem? (i := 967) (by decide +kernel)))
    | 6, h => cases h; exact q_tx (hts _ (List.mem_of_getElem? (i := 66) (by decide +kernel))) (hts _ (List.mem_of_getElem? (i := 988) (by decide +kernel)))
    | 7, h => cases h; exact q_tx (hts _ (List.mem_of_getElem? (i := 66) (by decide +kernel))) (hts _ (List.mem_of_getElem? (i := 997) (by decide +kernel)))
    | 8, h => cases h; exact q_tx (hts _ (List.mem_of_getElem? (i := 66) (by decide +kernel))) (hts _ (List.mem_of_getElem? (i := 1005) (by decide +kernel)))
    | 9, h => cases h; exact q_tx (hts _ (List.mem_of_getElem? (i := 66) (by decide +kernel))) (hts _ (List.mem_of_getElem? (i := 1027) (by decide +kernel)))
    | 10, h => cases h; exact q_tx (hts _ (List.mem_of_getElem? (i := 66) (by decide +kernel))) (hts _ (List.mem_of_getElem? (i := 1028) (by decide +kernel)))
    | 11, h => cases h; exact q_tx (hts _ (List.mem_of_getElem? (i := 66) (by decide +kernel))) (hts _ (List.mem_of_getElem? (i := 1057) (by decide +kernel)))
    | 12, h => cases h; exact q_tx (hts _ (List.mem_of_getElem? (i := 66) (by decide +kernel))) (hts _ (List.mem_of_getElem? (i := 1069) (by decide +kernel)))
    | 13, h => cases h; exact q_tx (hts _ (List.mem_of_getElem? (i := 66) (by decide +kernel))) (hts _ (List.mem_of_getElem? (i := 409) (by decide +kernel)))
    | 14, h => cases h; exact q_tx (hts _ (List.mem_of_getElem? (i := 66) (by decide +kernel))) (hts _ (List.mem_of_getElem? (i := 448) (by decide +kernel)))
    | 15, h => cases h; exact q_tx (hts _ (List.mem_of_getElem? (i := 66) (by decide +kernel))) (hts _ (List.mem_of_getElem? (i := 852) (by decide +kernel)))
    | 16, h => cases h; exact q_tx (hts _ (List.mem_of_getElem? (i := 66) (by decide +kernel))) (hts _ (List.mem_of_getElem? (i := 847) (by decide +kernel)))
    | n + 17, h => cases h
  intro q hq
  obtain ⟨i, hi⟩ := List.mem_iff_getElem?.mp hq
  exact hk i q hi
theorem q_sstq {args : Array Value} {s : State} {A : Nat → Prop} (hA : ∀ a : Nat, a < s.heap.size → ¬ A a) (hts : ∀ w ∈ lw_tbl, w.before args s = true) (hs : ∀ c ∈ flatC (Jvm.Cond.and given_1 narrow_1), c.before args s = true) : ∀ q ∈ q_statq, va_Zq q.1 q.2.1 q.2.2 A s s.heap := by
  have hk : ∀ (i : Nat) (q : String × String × String), q_statq[i]? = some q → va_Zq q.1 q.2.1 q.2.2 A s s.heap := by
    intro i q h
    match i, h with
    | 0, h => cases h; exact va_Zqof (hts _ (List.mem_of_getElem? (i := 396) (by decide +kernel))) (hts _ (List.mem_of_getElem? (i := 73) (by decide +kernel))) (hs _ (List.mem_of_getElem? (i := 8) (by decide +kernel))) hA
    | 1, h => cases h; exact va_Zqof (hts _ (List.mem_of_getElem? (i := 398) (by decide +kernel))) (hts _ (List.mem_of_getElem? (i := 73) (by decide +kernel))) (hs _ (List.mem_of_getElem? (i := 9) (by decide +kernel))) hA
    | 2, h => cases h; exact va_Zqof (hts _ (List.mem_of_getElem? (i := 635) (by decide +kernel))) (hts _ (List.mem_of_getElem? (i := 81) (by decide +kernel))) (hs _ (List.mem_of_getElem? (i := 11) (by decide +kernel))) hA
    | n + 3, h => cases h
  intro q hq
  obtain ⟨i, hi⟩ := List.mem_iff_getElem?.mp hq
  exact hk i q hi
theorem q_slst {args : Array Value} {s : State} {A : Nat → Prop} (hA : ∀ a : Nat, a < s.heap.size → ¬ A a) (hts : ∀ w ∈ lw_tbl, w.before args s = true) : ∀ q ∈ q_lst, q_ls q.1 q.2.1 q.2.2 A s := by
  have hk : ∀ (i : Nat) (q : String × String × String), q_lst[i]? = some q → q_ls q.1 q.2.1 q.2.2 A s := by
    intro i q h
    match i, h with
    | 0, h => cases h; exact q_ls.of (hts _ (List.mem_of_getElem? (i := 396) (by decide +kernel))) hA
    | 1, h => cases h; exact q_ls.of (hts _ (List.mem_of_getElem? (i := 398) (by decide +kernel))) hA
    | n + 2, h => cases h
  intro q hq
  obtain ⟨i, hi⟩ := List.mem_iff_getElem?.mp hq
  exact hk i q hi
theorem q_snca {args : Array Value} {s : State} (hts : ∀ w ∈ lw_tbl, w.before args s = true) (hs : ∀ c ∈ flatC (Jvm.Cond.and given_1 narrow_1), c.before args s = true) : ∀ q ∈ q_nca, q_nc q.1 q.2 s := by
  intro q hq
  rw [show q_nca = [("java/lang/IllegalArgumentException", "java/lang/IndexOutOfBoundsException")] from rfl, List.mem_singleton] at hq
  subst hq
  obtain ⟨c, _, hc, -⟩ := Cond.instantiable_spec (hts (.instantiable "java/lang/IllegalArgumentException" 6) (List.mem_of_getElem? (i := 440) (by decide +kernel)))
  obtain ⟨t, _, ht, -⟩ := Cond.instantiable_spec (hts (.instantiable "java/lang/IndexOutOfBoundsException" 6) (List.mem_of_getElem? (i := 370) (by decide +kernel)))
  exact q_nc.of hc ht (hs _ (List.mem_of_getElem? (i := 253) (by decide +kernel)))
def q_a1 : Nat → Int32 := fun j => match j with
  | 0 => 0
  | 1 => 0
  | 2 => 1
  | _ => 0
theorem q_sa1 {args : Array Value} {s : State} {A : Nat → Prop} (hA : ∀ a : Nat, a < s.heap.size → ¬ A a) (hts : ∀ w ∈ lw_tbl, w.before args s = true) (hs : ∀ c ∈ flatC (Jvm.Cond.and given_1 narrow_1), c.before args s = true) : ∃ t : Nat, va_Z "PlaneFills" "LEAST_OF_RULE" "[I" (.ref t) A s s.heap ∧ va_T .int t 4 (fun j => .int (q_a1 j)) A s s.heap := by
  have he : ∀ j : Nat, j < 4 → (Term.elem (.static "PlaneFills" "LEAST_OF_RULE" "[I") (.int (Int32.ofNat j))).eval args s none [] s = some (.int (q_a1 j)) := by
    intro j hj
    match j, hj with
    | 0, _ => exact va_eqt (hs _ (List.mem_of_getElem? (i := 224) (by decide +kernel)))
    | 1, _ => exact va_eqt (hs _ (List.mem_of_getElem? (i := 225) (by decide +kernel)))
    | 2, _ => exact va_eqt (hs _ (List.mem_of_getElem? (i := 226) (by decide +kernel)))
    | 3, _ => exact va_eqt (hs _ (List.mem_of_getElem? (i := 227) (by decide +kernel)))
  obtain ⟨t, ht, hT⟩ := va_Tof (tm := .static "PlaneFills" "LEAST_OF_RULE" "[I") (ty := .int) (N := 4) (f := fun j => .int (q_a1 j)) (A := A) (by decide) (hs _ (List.mem_of_getElem? (i := 222) (by decide +kernel))) (va_eqt (hs _ (List.mem_of_getElem? (i := 223) (by decide +kernel)))) he hA
  exact ⟨t, va_Zof (hts _ (List.mem_of_getElem? (i := 916) (by decide +kernel))) (hts _ (List.mem_of_getElem? (i := 66) (by decide +kernel))) ht hA, hT⟩
def q_a2 : Nat → Int32 := fun j => match j with
  | 0 => 5
  | 1 => 4
  | 2 => 5
  | _ => 1000
theorem q_sa2 {args : Array Value} {s : State} {A : Nat → Prop} (hA : ∀ a : Nat, a < s.heap.size → ¬ A a) (hts : ∀ w ∈ lw_tbl, w.before args s = true) (hs : ∀ c ∈ flatC (Jvm.Cond.and given_1 narrow_1), c.before args s = true) : ∃ t : Nat, va_Z "PlaneFills" "GREATEST_OF_RULE" "[I" (.ref t) A s s.heap ∧ va_T .int t 4 (fun j => .int (q_a2 j)) A s s.heap := by
  have he : ∀ j : Nat, j < 4 → (Term.elem (.static "PlaneFills" "GREATEST_OF_RULE" "[I") (.int (Int32.ofNat j))).eval args s none [] s = some (.int (q_a2 j)) := by
    intro j hj
    match j, hj with
    | 0, _ => exact va_eqt (hs _ (List.mem_of_getElem? (i := 231) (by decide +kernel)))
    | 1, _ => exact va_eqt (hs _ (List.mem_of_getElem? (i := 232) (by decide +kernel)))
    | 2, _ => exact va_eqt (hs _ (List.mem_of_getElem? (i := 233) (by decide +kernel)))
    | 3, _ => exact va_eqt (hs _ (List.mem_of_getElem? (i := 234) (by decide +kernel)))
  obtain ⟨t, ht, hT⟩ := va_Tof (tm := .static "PlaneFills" "GREATEST_OF_RULE" "[I") (ty := .int) (N := 4) (f := fun j => .int (q_a2 j)) (A := A) (by decide) (hs _ (List.mem_of_getElem? (i := 229) (by decide +kernel))) (va_eqt (hs _ (List.mem_of_getElem? (i := 230) (by decide +kernel)))) he hA
  exact ⟨t, va_Zof (hts _ (List.mem_of_getElem? (i := 918) (by decide +kernel))) (hts _ (List.mem_of_getElem? (i := 66) (by decide +kernel))) ht hA, hT⟩
def q_a3 : Nat → Int32 := fun j => match j with
  | 0 => 1
  | 1 => 0
  | 2 => -1
  | _ => 0
theorem q_sa3 {args : Array Value} {s : State} {A : Nat → Prop} (hA : ∀ a : Nat, a < s.heap.size → ¬ A a) (hts : ∀ w ∈ lw_tbl, w.before args s = true) (hs : ∀ c ∈ flatC (Jvm.Cond.and given_1 narrow_1), c.before args s = true) : ∃ t : Nat, va_Z "PlaneFills" "SPOKE_X" "[I" (.ref t) A s s.heap ∧ va_T .int t 4 (fun j => .int (q_a3 j)) A s s.heap := by
  have he : ∀ j : Nat, j < 4 → (Term.elem (.static "PlaneFills" "SPOKE_X" "[I") (.int (Int32.ofNat j))).eval args s none [] s = some (.int (q_a3 j)) := by
    intro j hj
    match j, hj with
    | 0, _ => exact va_eqt (hs _ (List.mem_of_getElem? (i := 238) (by decide +kernel)))
    | 1, _ => exact va_eqt (hs _ (List.mem_of_getElem? (i := 239) (by decide +kernel)))
    | 2, _ => exact va_eqt (hs _ (List.mem_of_getElem? (i := 240) (by decide +kernel)))
    | 3, _ => exact va_eqt (hs _ (List.mem_of_getElem? (i := 241) (by decide +kernel)))
  obtain ⟨t, ht, hT⟩ := va_Tof (tm := .static "PlaneFills" "SPOKE_X" "[I") (ty := .int) (N := 4) (f := fun j => .int (q_a3 j)) (A := A) (by decide) (hs _ (List.mem_of_getElem? (i := 236) (by decide +kernel))) (va_eqt (hs _ (List.mem_of_getElem? (i := 237) (by decide +kernel)))) he hA
  exact ⟨t, va_Zof (hts _ (List.mem_of_getElem? (i := 1046) (by decide +kernel))) (hts _ (List.mem_of_getElem? (i := 66) (by decide +kernel))) ht hA, hT⟩
def q_a4 : Nat → Int32 := fun j => match j with
  | 0 => 0
  | 1 => 1
  | 2 => 0
  | _ => -1
theorem q_sa4 {args : Array Value} {s : State} {A : Nat → Prop} (hA : ∀ a : Nat, a < s.heap.size → ¬ A a) (hts : ∀ w ∈ lw_tbl, w.before args s = true) (hs : ∀ c ∈ flatC (Jvm.Cond.and given_1 narrow_1), c.before args s = true) : ∃ t : Nat, va_Z "PlaneFills" "SPOKE_Y" "[I" (.ref t) A s s.heap ∧ va_T .int t 4 (fun j => .int (q_a4 j)) A s s.heap := by
  have he : ∀ j : Nat, j < 4 → (Term.elem (.static "PlaneFills" "SPOKE_Y" "[I") (.int (Int32.ofNat j))).eval args s none [] s = some (.int (q_a4 j)) := by
    intro j hj
    match j, hj with
    | 0, _ => exact va_eqt (hs _ (List.mem_of_getElem? (i := 245) (by decide +kernel)))
    | 1, _ => exact va_eqt (hs _ (List.mem_of_getElem? (i := 246) (by decide +kernel)))
    | 2, _ => exact va_eqt (hs _ (List.mem_of_getElem? (i := 247) (by decide +kernel)))
    | 3, _ => exact va_eqt (hs _ (List.mem_of_getElem? (i := 248) (by decide +kernel)))
  obtain ⟨t, ht, hT⟩ := va_Tof (tm := .static "PlaneFills" "SPOKE_Y" "[I") (ty := .int) (N := 4) (f := fun j => .int (q_a4 j)) (A := A) (by decide) (hs _ (List.mem_of_getElem? (i := 243) (by decide +kernel))) (va_eqt (hs _ (List.mem_of_getElem? (i := 244) (by decide +kernel)))) he hA
  exact ⟨t, va_Zof (hts _ (List.mem_of_getElem? (i := 1048) (by decide +kernel))) (hts _ (List.mem_of_getElem? (i := 66) (by decide +kernel))) ht hA, hT⟩
theorem q_sa5 {args : Array Value} {s : State} {A : Nat → Prop} (hA : ∀ a : Nat, a < s.heap.size → ¬ A a) (hts : ∀ w ∈ lw_tbl, w.before args s = true) (hs : ∀ c ∈ flatC (Jvm.Cond.and given_1 narrow_1), c.before args s = true) : ∃ t : Nat, va_Z "java/util/ArrayList" "DEFAULTCAPACITY_EMPTY_ELEMENTDATA" "[Ljava/lang/Object;" (.ref t) A s s.heap ∧ va_T (.object "java/lang/Object") t 0 (fun _ => .int 0) A s s.heap := by
  obtain ⟨t, ht, hT⟩ := va_Tof (tm := .static "java/util/ArrayList" "DEFAULTCAPACITY_EMPTY_ELEMENTDATA" "[Ljava/lang/Object;") (ty := .object "java/lang/Object") (N := 0) (f := fun _ => .int 0) (A := A) (by decide) (hs _ (List.mem_of_getElem? (i := 5) (by decide +kernel))) (va_eqt (hs _ (List.mem_of_getElem? (i := 7) (by decide +kernel)))) (fun j hj => by omega) hA
  exact ⟨t, va_Zof (hts _ (List.mem_of_getElem? (i := 114) (by decide +kernel))) (hts _ (List.mem_of_getElem? (i := 69) (by decide +kernel))) ht hA, hT⟩
theorem q_sta {args : Array Value} {s : State} (hts : ∀ w ∈ lw_tbl, w.before args s = true) : ∀ t, t < q_nta → ∃ cA, ArrOfT s cA (q_ta t) ∧ va_RA s cA (q_ta t) := by
  intro t ht
  match t, ht with
  | 0, _ => exact q_ac (fun _ _ h => h) (hts _ (List.mem_of_getElem? (i := 150) (by decide +kernel)))
  | 1, _ => exact q_ac (fun _ _ h => h) (hts _ (List.mem_of_getElem? (i := 1180) (by decide +kernel)))
  | 2, _ => exact q_ao (hts _ (List.mem_of_getElem? (i := 818) (by decide +kernel)))
  | 3, _ => exact q_ac (fun _ _ h => h) (hts _ (List.mem_of_getElem? (i := 1181) (by decide +kernel)))
def q_rc (L : Nat) (xs : Nat → Int32) : Nat → Nat × (Nat → Int32) := fun a => if a = 10000000 then (L, xs) else if a = 10000001 then (4, q_a1) else if a = 10000002 then (4, q_a2) else if a = 10000003 then (4, q_a3) else if a = 10000004 then (4, q_a4) else (0, fun _ => 0)
/-- the store at the start: nothing but what is only read -/
def q_s0 (L : Nat) (xs : Nat → Int32) : q_S := (1, fun a => if a = 10000005 then 2001 else if 10000000 ≤ a ∧ a < 10000005 then 2000 else 0, fun a => (q_rc L xs a).1, fun a => (q_rc L xs a).2, fun _ _ => 0, fun _ _ => 0)
def q_ra (b t1 t2 t3 t4 t5 mi : Nat) (tx : Nat → Nat) : Nat → Nat := fun n => if n = 0 then b else if n = 1 then t1 else if n = 2 then t2 else if n = 3 then t3 else if n = 4 then t4 else if n = 5 then t5 else if n = 200 then mi else tx (10000000 + n)
theorem q_str_ok : q_str.Pairwise (fun a b => a.2.2.2 ≠ b.2.2.2) ∧ ∀ q ∈ q_str, 10000100 ≤ q.2.2.2 ∧ q.2.2.2 < 10000200 := by decide +kernel
theorem q_begin {s : State} {b L : Nat} {xs : Nat → Int32} (hL : L ≤ 5633) (hts : ∀ w ∈ lw_tbl, w.before #[Value.ref b] s = true) (hX : va_X b L xs s s.heap) (hb : b < s.heap.size) (hg : (Jvm.Cond.and given_1 narrow_1).before #[Value.ref b] s = true) :
    ∃ cx : q_C, q_b cx + 1 = s.heap.size ∧ q_ad cx 10000000 = b ∧ q_Rep cx (q_s0 L xs) s.heap ∧ q_F cx s := by
  have hs := flat_of_before _ hg
  have hA : ∀ a : Nat, a < s.heap.size → ¬ (s.heap.size - 1 < a) := fun a h => by omega
  have htw : ∀ w ∈ q_ws, w.before #[Value.ref b] s = true := fun w hw => hts w (List.mem_filter.mp hw).1
  have hD : ∀ c : Nat, ∃ (cC : ClassId) (iS : Nat → Nat), ∀ r, q_cl[c]? = some r → u_Kn s r.1 r.2.1 r.2.2 cC iS := by
    intro c
    cases hc : q_cl[c]? with
    | none => exact ⟨0, fun _ => 0, fun r hr => by cases hr⟩
    | some r =>
      obtain ⟨n, hn⟩ := q_inst c r hc
      obtain ⟨cC, iS, h⟩ := u_known (C := r.1) (T := r.2.1) (N := r.2.2) htw (q_cl_ok c r hc).2.1 (htw _ hn)
      exact ⟨cC, iS, fun r' hr' => by cases hr'; exact h⟩
  obtain ⟨D1, hD⟩ := Classical.axiomOfChoice hD
  obtain ⟨D2, hD⟩ := Classical.axiomOfChoice hD
  have hta : ∀ t : Nat, ∃ cA : ClassId, t < q_nta → ArrOfT s cA (q_ta t) ∧ va_RA s cA (q_ta t) := by
    intro t
    by_cases ht : t < q_nta
    · obtain ⟨cA, h⟩ := q_sta hts t ht
      exact ⟨cA, fun _ => h⟩
    · exact ⟨0, fun h => absurd h ht⟩
  obtain ⟨cA, hta⟩ := Classical.axiomOfChoice hta
  obtain ⟨tx, htx⟩ := q_skol (fun q : String × Nat × String × Nat => q.2.2.2) (fun q a => vk_R q.1 q.2.1 q.2.2.1 a s) q_str q_str_ok.1 (q_sstr hts)
  obtain ⟨t1, z1, w1⟩ := q_sa1 hA hts hs
  obtain ⟨t2, z2, w2⟩ := q_sa2 hA hts hs
  obtain ⟨t3, z3, w3⟩ := q_sa3 hA hts hs
  obtain ⟨t4, z4, w4⟩ := q_sa4 hA hts hs
  obtain ⟨t5, z5, w5⟩ := q_sa5 hA hts hs
  obtain ⟨mi, hmi⟩ := va_Mi.of (C := "[Ljava/lang/Object;") (hs _ (List.mem_of_getElem? (i := 271) (by decide +kernel)))
  refine ⟨((D1, D2), cA, s.heap.size - 1, q_ra b t1 t2 t3 t4 t5 mi tx, q_rc L xs), by show s.heap.size - 1 + 1 = _; omega, rfl, ⟨by show s.heap.size = s.heap.size - 1 + 1; omega, ⟨by show 0 < 1; decide, by show 1 ≤ 10000000; decide⟩, fun a ha => ?_, fun a ha => ?_⟩, ⟨⟨fun c r hr => hD c r hr, fun k q hq => by cases hq⟩, hta, q_snf hts, q_snm hts, ?_, ?_, q_sif hts, ?_, q_scast hts, va_AO.of (hts _ (List.mem_of_getElem? (i := 818) (by decide +kernel))), hmi, va_Dc.of (hts _ (List.mem_of_getElem? (i := 1380) (by decide +kernel))), q_sstq hA hts hs, q_sdec hts, q_slst hA hts, q_snca hts hs⟩⟩
  · have hk : q_K (q_s0 L xs) a = if a = 10000005 then 2001 else if 10000000 ≤ a ∧ a < 10000005 then 2000 else 0 := rfl
    rw [hk] at ha ⊢
    by_cases h5 : a = 10000005
    · rw [if_pos h5]
      subst h5
      exact ⟨by decide, fun h => by omega, fun _ => ⟨by decide, by decide, fun h => by omega⟩, fun h => by omega⟩
    · rw [if_neg h5] at ha ⊢
      by_cases h0 : 10000000 ≤ a ∧ a < 10000005
      · rw [if_pos h0]
        refine ⟨by omega, fun h => by omega, fun _ => ⟨h0.1, by have := h0.2; show a < 10000000 + 6; omega, fun _ => ?_⟩, fun h => by omega⟩
        have : a = 10000000 ∨ a = 10000001 ∨ a = 10000002 ∨ a = 10000003 ∨ a = 10000004 := by omega
        rcases this with rfl | rfl | rfl | rfl | rfl <;> rfl
      · rw [if_neg h0] at ha
        exact absurd rfl ha
  · have hk : q_K (q_s0 L xs) a = if a = 10000005 then 2001 else if 10000000 ≤ a ∧ a < 10000005 then 2000 else 0 := rfl
    have : 2000 ≤ q_K (q_s0 L xs) a := by
      rw [hk] at ha ⊢
      split
      · omega
      · rename_i h5
        rw [if_neg h5] at ha
        split
        · omega
        · rename_i h6
          rw [if_neg h6] at ha
          exact absurd rfl ha
    unfold q_at
    rw [if_neg (by omega), if_neg (by omega)]
    exact ⟨rfl, rfl⟩
  · intro q hq
    obtain ⟨i, hi⟩ := List.mem_iff_getElem?.mp hq
    match i, hi with
    | 0, h => cases h; exact z1
    | 1, h => cases h; exact z2
    | 2, h => cases h; exact z3
    | 3, h => cases h; exact z4
    | 4, h => cases h; exact z5
    | n + 5, h => cases h
  · intro a h1 h2
    have h2' : a < 10000000 + 6 := h2
    have : a = 10000000 ∨ a = 10000001 ∨ a = 10000002 ∨ a = 10000003 ∨ a = 10000004 ∨ a = 10000005 := by omega
    rcases this with rfl | rfl | rfl | rfl | rfl | rfl
    · obtain ⟨scr, g1, g2, g3, g4, g5⟩ := hX
      exact ⟨scr, g1, g2, g3, by rw [g4]; exact Nat.le_refl _, by rw [g4]; rfl, g5, hA b hb⟩
    · exact w1
    · exact w2
    · exact w3
    · exact w4
    · exact w5
  · intro q hq
    have h1 := htx q hq
    obtain ⟨h2, h3⟩ := q_str_ok.2 q hq
    have : q_ad ((D1, D2), cA, s.heap.size - 1, q_ra b t1 t2 t3 t4 t5 mi tx, q_rc L xs) q.2.2.2 = tx q.2.2.2 := by
      unfold q_ad
      rw [if_neg (by omega)]
      dsimp only
      unfold q_ra
      rw [if_neg (by omega), if_neg (by omega), if_neg (by omega), if_neg (by omega), if_neg (by omega), if_neg (by omega), if_neg (by omega), show 10000000 + (q.2.2.2 - 10000000) = q.2.2.2 by omega]
    rw [this]
    exact h1
def R_law : String := "PlaneFillsLaw"
def lw_P (b : Addr) (xs : List Int32) (args : Array Value) (s : State) : Prop := args = #[.ref b] ∧ s.IntsAt b xs ∧ xs.length ≤ 5633 ∧ (Jvm.Cond.and given_1 narrow_1).before args s = true
def lw_Q (_ : Array Value) (s : State) (o : Outcome) (t : State) : Prop := o = .returned (some (.int 1)) ∧ Framed s o t [] 601024 7293000
def lw_Z (below : List Frame) (a : Array Value) (s : State) : State → Prop := fun t => ∃ o, t.status = .running ∧ Ended t below o ∧ lw_Q a s o t
/-- what the law asks: true at its end, for every script -/
def lw_asks : Prop := ∀ (L : Nat) (xs : Nat → Int32), L ≤ 5633 → V_LW_law 10000000 (q_s0 L xs) (fun o _ => o = .inl (some (.inl 1)))
theorem whole_start {p : Program} {e : Env} {s : State} {m : MethodId} {below : List Frame} {meth : Method} {c : Code} (hAsk : lw_asks) (l : Launch) (hlf : l.flags = pinnedFlags ++ [noTraceFlag]) {b L : Nat} {xs : Nat → Int32} (hL : L ≤ 5633) (h1 : p.tables.exec = Jvm.exec) (h2 : c.code = code) (h3 : meth.sig.returnType = ret) (h4 : c.maxLocals = 8) (h5 : s.vm.findClass R_law = some m.cls) (hts : ∀ w ∈ lw_tbl, w.before #[Value.ref b] s = true) (hX : va_X b L xs s s.heap) (hb : b < s.heap.size) (h6 : meth.locks = false) (hg : (Jvm.Cond.and given_1 narrow_1).before #[Value.ref b] s = true) (h7 : meth.name = x.name) (h8 : c.exceptionTable.isEmpty = true) :
    W p l e room_1 s m #[Value.ref b] below meth c s.heap [] 0 0 (lw_Z below #[Value.ref b] s) (entryFrame m ([Value.ref b] : List Value).toArray 8) := by
  obtain ⟨cx, hcb, hca, hR, hF⟩ := q_begin hL hts hX hb hg
  have htw : ∀ w ∈ q_ws, w.before #[Value.ref b] s = true := fun w hw => hts w (List.mem_filter.mp hw).1
  have hXq : q_X cx M_LW_law p s m #[Value.ref b] meth c := ⟨h1, h2, h4, h3, h6, h7, h5, htw, hF, by
    have : c.exceptionTable = #[] := by simpa using h8
    rw [this]; rfl⟩
  have hl := lv_entry [Value.ref b] (n := 8) (by show 1 ≤ 8; decide)
  have hlo : lv_args 0 [Value.ref b] = q_lo cx [(0, q_r 10000000)] := by
    show [(0, Value.ref b)] = [(0, q_tr cx 10000000)]
    rw [q_tr_pos (by decide), hca]
  rw [hlo] at hl
  have K := t_LW_law (l := l) (cx := cx) hlf (hAsk L xs hL) p e room_1 s m #[Value.ref b] below meth c s.heap [] 0 0 _ hXq (by decide) (by decide) (by decide) (by decide) hR va_S.rf hl
  rw [List.map_nil, ← lg_entry_eq] at K
  refine q_Wmono (fun t ht => ?_) K
  obtain ⟨o, a1, a2, out, σ, L9, b1, b2, b3, b4, b5, b6, b7⟩ := ht
  subst b1
  have b2' : o = .returned (some (.int 1)) := b2
  refine ⟨o, a1, a2, b2', ⟨_, b2'⟩, b4, b5.weaken (fun y hy hlt => ?_) (Nat.le_refl _) (Nat.le_refl _)⟩
  have h9 : q_b cx < y.base := b6 y hy
  have hlt' : y.base < s.heap.size := hlt
  rw [← hcb] at hlt'
  exact absurd h9 (Nat.not_lt.mpr (Nat.le_of_lt_succ hlt'))
set_option maxHeartbeats 4000000 in
theorem lw_walk (hAsk : lw_asks) (l : Launch) (hlf : l.flags = pinnedFlags ++ [noTraceFlag]) (b : Addr) (xs : List Int32) : MetFree l x (headSpec (Jvm.Cond.code x code maxLocals ret :: tables_1) room_1) (lw_P b xs) (fun _ _ _ _ _ => True) lw_Q := by
  refine MetFree.of_bodyS (code := code) (maxLocals := maxLocals) (ret := ret) (by decide) ?_ ?_
  · intro args s m h hn
    obtain ⟨meth, c, h1, h2, h3, h4, h5, h6, -, -⟩ := Cond.code_spec hn (atoms_spec (ws := Jvm.Cond.code x code maxLocals ret :: tables_1) h _ List.mem_cons_self)
    exact ⟨meth, c, h1, h2, h3, h4, h5, h6⟩
  · intro p e s m args below meth c s₁ B hml0 hP _
    obtain ⟨rfl, hx, hbd, hgv⟩ := hP
    obtain ⟨scr, harrAt, hlist, hof, hsmall⟩ := hx
    obtain ⟨hcb, hkn, -, -⟩ := State.arrayAt?_spec harrAt
    have hown : s.vm.findClass R_law = some m.cls := findClass_of_methodNamed B.named
    have hts0 : ∀ c ∈ (Jvm.Cond.code x code maxLocals ret :: tables_1), c.before #[Value.ref b] s = true := atoms_spec (ws := Jvm.Cond.code x code maxLocals ret :: tables_1) B.pre
    have hts : ∀ w ∈ lw_tbl, w.before #[Value.ref b] s = true := k2_hts_sels lw_privs (fun w hw => hts0 w (List.mem_cons_of_mem _ hw)) lw_privs_ok
    have hml : c.maxLocals = 8 := B.maxLocals_eq (hts0 _ List.mem_cons_self)
    have X₀ : Stand p l e room_1 s m #[Value.ref b] below meth c s₁ [] 0 0 := Stand.of_body B
    have hh0 : s₁.heap = s.heap := by rw [B.state]; rfl
    have hsz : scr.slots.size = xs.length := by rw [← Array.length_toList, hlist, List.length_map]
    have hval : ∀ j : Nat, j < xs.length → scr.slots[j]? = some (.int (xs.getD j 0)) := fun j hj => by
      rw [← Array.getElem?_toList, hlist]
      simp [hj]
    have hbl : b < s.heap.size := (Array.getElem?_eq_some_iff.mp hcb).1
    have hX : va_X b xs.length (fun j => xs.getD j 0) s s.heap := ⟨scr, hcb, hof, hkn, hsz, hval⟩
    have hemp : c.exceptionTable.isEmpty = true := B.noHandlers (hts0 _ List.mem_cons_self)
    have K : W p l e room_1 s m #[Value.ref b] below meth c s₁.heap [] 0 0 (lw_Z below #[Value.ref b] s) (entryFrame m ([Value.ref b] : List Value).toArray 8) := by
      rw [hh0]
      exact whole_start hAsk l hlf hbd B.exec B.bytes B.returns hml hown hts hX hbl B.notSynchronized hgv (name_of_methodNamed B.named B.method).1 hemp
    obtain ⟨t, a1, o, b1, b2, b3⟩ := K s₁ rfl X₀
    exact ⟨t, o, a1, b1, b2, b3⟩
theorem lw_pre_spec {args : Array Value} {s : State} (h : (Jvm.Cond.and given_1 narrow_1).before args s = true) (hr : rest_1_c.before args s = true) : ∃ (b : Addr) (xs : List Int32), lw_P b xs args s := by
  have hs := flat_of_before _ h
  have hq := flat_of_before _ hr
  have hc : (Cond.count 1).before args s = true := hs _ (by decide +kernel)
  have harr : (Cond.arrayOf (.arg 0) .int).before args s = true := hs _ (by decide +kernel)
  have hle : (Cond.le (.length (.arg 0)) (.int 5633)).before args s = true := hs _ (by decide +kernel)
  have hlen : (Cond.isInt (.length (.arg 0))).before args s = true := hq _ (by decide +kernel)
  have hall : (Cond.all (.arg 0) (.isInt (.elem (.arg 0) (.index 0)))).before args s = true := hq _ (by decide +kernel)
  obtain ⟨b, xs, hb, hx⟩ := State.ints_of_pre rfl harr hlen hall
  have hsm : xs.length < 2 ^ 31 := hx.choose_spec.2.2.2
  have hev : (Term.length (.arg 0)).eval args s none [] s = some (.int xs.length.toInt32) := hx.length_eval hb
  have hv := Cond.le_ints hev (show (Term.int 5633).eval args s none [] s = some (.int 5633) from rfl)
  have hd : xs.length.toInt32 ≤ 5633 := by
    simpa [Cond.before, Cond.holds, hv] using hle
  have hN : xs.length ≤ 5633 := (Int32.ofNat_le_ofNat hsm (by decide)).mp (show Int32.ofNat xs.length ≤ Int32.ofNat 5633 from hd)
  exact ⟨b, xs, Cond.one_arg hc (show args[0]? = some (.ref b) from hb), hx, hN, h⟩
theorem lw_comes (hAsk : lw_asks) (l : Launch) (hlf : l.flags = pinnedFlags ++ [noTraceFlag]) : Comes l x (Jvm.Cond.code x code maxLocals ret :: tables_1) room_1 (fun tb e args s => Calls_1 tb e args s ∧ rest_1 tb e args s ∧ Pre_1 tb e args s)
    (fun _ _ args s o t => lw_Q args s o t) := by
  intro p e ha hc hk s m args below hf hfit hheap happ hpre
  obtain ⟨b, xs, hP⟩ := lw_pre_spec hpre.2.2 hpre.2.1
  obtain ⟨k, o, h1, h2, h3, hQ⟩ := lw_walk hAsk l hlf b xs p e ha hc hk s m args below hf ((Spec.applies_iff_loose hf).mp happ).1 hP trivial
  exact ⟨k, o, h1, h2, h3, hQ⟩
theorem lw_frame {s t : State} {o : Outcome} {args : Array Value} (h : Framed s o t [] 601024 7293000) :
    Framed s o t (fieldLocs frame_1_writes args s ++ arrayLocs frame_1_arrays args s ++ staticLocs frame_1_statics s) 601024 7293000 := h
theorem lw_limb (hAsk : lw_asks) (L : Cond) (hL : ∀ (args : Array Value) (s t : State), L.after args s (.returned (some (.int 1))) t = true) :
    ArmFor flags0 classFile x code maxLocals ret World_1 tables_1 room_1 Calls_1 rest_1 Pre_1
      (fun tb e a s o t => postC L tb e a s o t ∧ Framed s o t (fieldLocs frame_1_writes a s ++ arrayLocs frame_1_arrays a s ++ staticLocs frame_1_statics s) 601024 7293000) := by
  intro l hlf _ _ p e ha hc hk s m args below hf hfit hheap happ hpre
  obtain ⟨k, o, h1, h2, h3, rfl, hF⟩ := lw_comes hAsk l hlf p e ha hc hk s m args below hf hfit hheap happ hpre
  exact ⟨k, _, h1, h2, h3, hL args s _, lw_frame hF⟩
theorem lw_vc (hAsk : lw_asks) : Claimed_1_1 ∧ Claimed_1_2 := ⟨lw_limb hAsk limb_1_1 (fun args s t => by simp [limb_1_1, Cond.after, Cond.holds, Cond.value]), lw_limb hAsk limb_1_2 (fun args s t => Cond.after_iff.mpr (by
  first | (rw [show limb_1_2 = Cond.eq .result (.int 1) from rfl, Cond.eq_ints (x := 1) (y := 1) rfl rfl]; simp; done) | (simp [limb_1_2, Cond.value, Term.eval]; done)))⟩
