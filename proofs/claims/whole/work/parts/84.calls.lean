/-! THE LAW'S CALLS, ONE BY ONE: class and reference side by side -/
theorem l_v {L i : Nat} (hi : i + 11 ≤ L) (hL : L ≤ 5633) (k : Nat) (hk : k < 11) : vp_in (nI i + nI k) L := by
  rw [nI_add]; exact vp_in_nI (by omega) (by omega)
theorem l_no {A : a_A} (ok : a_ok A) {x : Int32} {i : Nat} (c : x < 0 ∨ nI (a_N A) ≤ x) (hi : i < a_N A) (e : x = nI i) : False := by
  have hN8 := ok.1.1
  rw [e] at c
  rcases c with c | c
  · exact nI_pos (by omega) c
  · exact nI_ge hi (by omega) c
theorem l_eq {A : a_A} (ok : a_ok A) {x : Int32} {i j : Nat} (hi : i < a_N A) (e : x = nI i) (hj : j < a_N A) (e' : x = nI j) : j = i := by
  have hN8 := ok.1.1
  exact (nI_eq (by omega) (by omega)).mp (e'.symm.trans e)
theorem l_no4 {x : Int32} {i : Nat} (c : x < 0 ∨ nI 4 ≤ x) (hi : i < 4) (e : x = nI i) : False := by
  rw [e] at c
  rcases c with c | c
  · exact nI_pos (by omega) c
  · exact nI_ge hi (by omega) c
theorem l_eqS {x : Int32} {i j n : Nat} (hn : n ≤ 1000) (hi : i < n) (e : x = nI i) (hj : j < n) (e' : x = nI j) : j = i := (nI_eq (by omega) (by omega)).mp (e'.symm.trans e)
theorem l_cI {σ : q_S} {v9 : Int32} {v : Int64} {P F : Prop} (hk : q_K σ 14 = 7) (ht : q_I σ 14 0 = v9) (k42 : q_K σ 42 = 1001) (z42 : q_Z σ 42 = 1) (ho : v9 = 0 → q_L σ 42 0 = v) (hP : P) : q_K σ 14 = 7 ∧ (((f_PM_thrown σ 14) = v9 → ((¬ v9 = (0 : Int32) → P) ∧ (¬ (¬ v9 = (0 : Int32)) → q_K σ 42 = 1001 ∧ vp_in (0 : Int32) (q_Z σ 42) ∧ (((lg_cmp (q_L σ 42 (0 : Int32).toNatClampNeg) v) = (0 : Int32) → P) ∧ (¬ ((lg_cmp (q_L σ 42 (0 : Int32).toNatClampNeg) v) = (0 : Int32)) → F))))) ∧ (¬ ((f_PM_thrown σ 14) = v9) → F)) := by
  refine ⟨hk, fun _ => ⟨fun _ => hP, fun c => ⟨k42, ?_, fun _ => hP, fun c2 => absurd ((lg_cmp_eq _ _).mpr ?_) c2⟩⟩, fun c => absurd ht c⟩
  · rw [z42]; exact vp_in_nI (n := 0) (by omega) (by omega)
  · rw [show (0 : Int32).toNatClampNeg = 0 from by decide]; exact ho (Decidable.not_not.mp c)
theorem l_cB {σ : q_S} {v9 v : Int32} {P F : Prop} {Q : Int64 → Int64 → Prop} (hk : q_K σ 14 = 7) (ht : q_I σ 14 0 = v9) (k42 : q_K σ 42 = 1001) (z42 : q_Z σ 42 = 1) (ho : v9 = 0 → ((v = 0 ∧ q_L σ 42 0 = 0) ∨ (¬ v = 0 ∧ q_L σ 42 0 = 1))) (hP : P) (hQ : ∀ a, Q a a) : q_K σ 14 = 7 ∧ (((f_PM_thrown σ 14) = v9 → ((¬ v9 = (0 : Int32) → P) ∧ (¬ (¬ v9 = (0 : Int32)) → q_K σ 42 = 1001 ∧ vp_in (0 : Int32) (q_Z σ 42) ∧ ((v = (0 : Int32) → Q (0 : Int64) (q_L σ 42 (0 : Int32).toNatClampNeg)) ∧ (¬ (v = (0 : Int32)) → Q (1 : Int64) (q_L σ 42 (0 : Int32).toNatClampNeg)))))) ∧ (¬ ((f_PM_thrown σ 14) = v9) → F)) := by
  refine ⟨hk, fun _ => ⟨fun _ => hP, fun c => ⟨k42, ?_, ?_⟩⟩, fun c => absurd ht c⟩
  · rw [z42]; exact vp_in_nI (n := 0) (by omega) (by omega)
  · rw [show (0 : Int32).toNatClampNeg = 0 from by decide]
    rcases ho (Decidable.not_not.mp c) with ⟨h1, h2⟩ | ⟨h1, h2⟩
    · rw [h2]; exact ⟨fun _ => hQ 0, fun c2 => absurd h1 c2⟩
    · rw [h2]; exact ⟨fun c2 => absurd c2 h1, fun _ => hQ 1⟩
theorem l_plane {R : q_O → q_S → Prop} {P128 P205 P1969 : Nat → Nat → Nat → Nat → Nat → Int32 → q_S → Prop} (p128 : V_LW_law_128 R P128 P205) (p205 : V_LW_law_205 R P205 P1969) {A : a_A} {L : Nat} {xs : Nat → Int32} {σ : q_S} {k9 i : Nat} (hI : w_I A L xs σ) (hn : q_n σ < 1000000) (hi : i + 11 ≤ L) (hL : L ≤ 5633) (nx : ∀ B τ, w_I B L xs τ → q_n τ ≤ q_n σ + 60 → P1969 k9 10000000 1 14 42 (nI i) τ) : P128 k9 10000000 1 14 42 (nI i) σ := by
  obtain ⟨ok, np, hC, hS, hM, hR, k42, z42⟩ := id hI
  have hN8 := ok.1.1
  have v1 : vp_in (nI i + 1) L := l_v hi hL 1 (by omega)
  have v2 : vp_in (nI i + 2) L := l_v hi hL 2 (by omega)
  have v3 : vp_in (nI i + 3) L := l_v hi hL 3 (by omega)
  have rK : ∀ τ : q_S, w_R L xs τ → (q_K τ 10000000 = 1000 ∨ q_K τ 10000000 = 2000) := fun τ h => Or.inr h.1.1
  have rV : ∀ (τ : q_S) (k : Int32), w_R L xs τ → vp_in k L → vp_in k (q_Z τ 10000000) := fun τ k h hv => by rw [h.1.2.1]; exact hv
  refine p128 _ _ _ _ _ _ _ ⟨rK σ hR, rV σ _ hR v1, rK σ hR, rV σ _ hR v2, rK σ hR, rV σ _ hR v3, ?_⟩
  rw [hR.1.2.2]
  refine k_plane hC ok hR hn k42 z42 (fun c τ w f => ?_) (fun c c2 τ w f => ?_) (fun c c2 c3 τ w f o => ?_) (fun c c2 c3 τ w f o => ?_)
  · have hJ := hI.mid f
    refine ⟨rK τ hJ.2.2.1, rV τ _ hJ.2.2.1 v1, rK τ hJ.2.2.1, rV τ _ hJ.2.2.1 v2, rK τ hJ.2.2.1, rV τ _ hJ.2.2.1 v3, hJ.1.k, ?_⟩
    rw [hJ.2.2.1.1.2.2]
    refine m_plane (σ := τ) (ι := q_I τ) (κ := q_L τ) hJ.1 hJ.2.1 ok (fun d => ?_) (fun d d2 => ?_) (fun d d2 d3 => ?_) (fun d d2 d3 ι' hw' hfr ht0 => ?_)
    · exact l_cI hJ.1.k (m_th_0 (ι := q_I τ) (v := 1)) hJ.2.2.2.1 hJ.2.2.2.2 (fun e9 => absurd e9 (by decide)) (p205 _ _ _ _ _ _ _ (nx A _ (hJ.fin ok np w (hJ.2.1.th 1) (fun t ht => m_th_o (by omega))) f.2.2.2))
    · exfalso; omega
    · exfalso; omega
    · exfalso; omega
  · have hJ := hI.mid f
    refine ⟨rK τ hJ.2.2.1, rV τ _ hJ.2.2.1 v1, rK τ hJ.2.2.1, rV τ _ hJ.2.2.1 v2, rK τ hJ.2.2.1, rV τ _ hJ.2.2.1 v3, hJ.1.k, ?_⟩
    rw [hJ.2.2.1.1.2.2]
    refine m_plane (σ := τ) (ι := q_I τ) (κ := q_L τ) hJ.1 hJ.2.1 ok (fun d => ?_) (fun d d2 => ?_) (fun d d2 d3 => ?_) (fun d d2 d3 ι' hw' hfr ht0 => ?_)
    · exfalso; omega
    · exact l_cI hJ.1.k (m_th_0 (ι := q_I τ) (v := 2)) hJ.2.2.2.1 hJ.2.2.2.2 (fun e9 => absurd e9 (by decide)) (p205 _ _ _ _ _ _ _ (nx A _ (hJ.fin ok np w (hJ.2.1.th 2) (fun t ht => m_th_o (by omega))) f.2.2.2))
    · exfalso; omega
    · exfalso; omega
  · have hJ := hI.mid f
    refine ⟨rK τ hJ.2.2.1, rV τ _ hJ.2.2.1 v1, rK τ hJ.2.2.1, rV τ _ hJ.2.2.1 v2, rK τ hJ.2.2.1, rV τ _ hJ.2.2.1 v3, hJ.1.k, ?_⟩
    rw [hJ.2.2.1.1.2.2]
    refine m_plane (σ := τ) (ι := q_I τ) (κ := q_L τ) hJ.1 hJ.2.1 ok (fun d => ?_) (fun d d2 => ?_) (fun d d2 d3 => ?_) (fun d d2 d3 ι' hw' hfr ht0 => ?_)
    · exfalso; omega
    · exfalso; omega
    · exact l_cI hJ.1.k (m_th_0 (ι := q_I τ) (v := 0)) hJ.2.2.2.1 hJ.2.2.2.2 (fun _ => o) (p205 _ _ _ _ _ _ _ (nx A _ (hJ.fin ok np w (hJ.2.1.th 0) (fun t ht => m_th_o (by omega))) f.2.2.2))
    · exfalso; omega
  · have hJ := hI.mid f
    refine ⟨rK τ hJ.2.2.1, rV τ _ hJ.2.2.1 v1, rK τ hJ.2.2.1, rV τ _ hJ.2.2.1 v2, rK τ hJ.2.2.1, rV τ _ hJ.2.2.1 v3, hJ.1.k, ?_⟩
    rw [hJ.2.2.1.1.2.2]
    refine m_plane (σ := τ) (ι := q_I τ) (κ := q_L τ) hJ.1 hJ.2.1 ok (fun d => ?_) (fun d d2 => ?_) (fun d d2 d3 => ?_) (fun d d2 d3 ι' hw' hfr ht0 => ?_)
    · exfalso; omega
    · exfalso; omega
    · exfalso; omega
    · exact l_cI hJ.1.k ht0 hJ.2.2.2.1 hJ.2.2.2.2 (fun _ => o) (p205 _ _ _ _ _ _ _ (nx _ _ (hJ.fin (ok.pln c3) np.pln w hw' hfr) f.2.2.2))
theorem l_corner {R : q_O → q_S → Prop} {P208 P356 P1969 : Nat → Nat → Nat → Nat → Nat → Int32 → q_S → Prop} {P350 : Nat → Nat → Nat → Nat → Nat → Int32 → Int64 → Int64 → q_S → Prop} (p208 : V_LW_law_208 R P208 P350 P356) (p350 : V_LW_law_350 R P350 P356) (p356 : V_LW_law_356 R P356 P1969) {A : a_A} {L : Nat} {xs : Nat → Int32} {σ : q_S} {k9 i : Nat} (hI : w_I A L xs σ) (hn : q_n σ < 1000000) (hi : i + 11 ≤ L) (hL : L ≤ 5633) (nx : ∀ B τ, w_I B L xs τ → q_n τ ≤ q_n σ + 60 → P1969 k9 10000000 1 14 42 (nI i) τ) : P208 k9 10000000 1 14 42 (nI i) σ := by
  obtain ⟨ok, np, hC, hS, hM, hR, k42, z42⟩ := id hI
  have hN8 := ok.1.1
  have v1 : vp_in (nI i + 1) L := l_v hi hL 1 (by omega)
  have v2 : vp_in (nI i + 2) L := l_v hi hL 2 (by omega)
  have v3 : vp_in (nI i + 3) L := l_v hi hL 3 (by omega)
  have v4 : vp_in (nI i + 4) L := l_v hi hL 4 (by omega)
  have v5 : vp_in (nI i + 5) L := l_v hi hL 5 (by omega)
  have rK : ∀ τ : q_S, w_R L xs τ → (q_K τ 10000000 = 1000 ∨ q_K τ 10000000 = 2000) := fun τ h => Or.inr h.1.1
  have rV : ∀ (τ : q_S) (k : Int32), w_R L xs τ → vp_in k L → vp_in k (q_Z τ 10000000) := fun τ k h hv => by rw [h.1.2.1]; exact hv
  refine p208 _ _ _ _ _ _ _ ⟨rK σ hR, rV σ _ hR v1, rK σ hR, rV σ _ hR v2, rK σ hR, rV σ _ hR v3, rK σ hR, rV σ _ hR v4, rK σ hR, rV σ _ hR v5, ?_⟩
  rw [hR.1.2.2]
  refine k_corner hC ok hn k42 z42 (fun c τ w f => ?_) (fun j hj e c2 τ w f => ?_) (fun j hj e c2 c3 τ w f o => ?_) (fun j a b hj e ea eb la lb loc lrc τ w f o => ?_)
  · have hJ := hI.mid f
    refine ⟨rK τ hJ.2.2.1, rV τ _ hJ.2.2.1 v1, rK τ hJ.2.2.1, rV τ _ hJ.2.2.1 v2, rK τ hJ.2.2.1, rV τ _ hJ.2.2.1 v3, rK τ hJ.2.2.1, rV τ _ hJ.2.2.1 v4, rK τ hJ.2.2.1, rV τ _ hJ.2.2.1 v5, hJ.1.k, ?_⟩
    rw [hJ.2.2.1.1.2.2]
    refine m_corner (σ := τ) (ι := q_I τ) (κ := q_L τ) hJ.1 hJ.2.1 ok (fun d => ?_) (fun j' hj' e' d2 => ?_) (fun j' hj' e' d2 d3 => ?_) (fun j' a' b' hj' e' ea' eb' la' lb' loc' lrc' ι' κ' hw' hfr ht0 => ?_)
    · have hP := p356 _ _ _ _ _ _ _ (nx A _ (hJ.fin ok np w (hJ.2.1.th 1) (fun t ht => m_th_o (by omega))) f.2.2.2)
      exact l_cB (Q := fun a b => P350 k9 10000000 1 14 42 (nI i) a b _) hJ.1.k (m_th_0 (ι := q_I τ) (v := 1)) hJ.2.2.2.1 hJ.2.2.2.2 (fun e9 => absurd e9 (by decide)) hP (fun a => p350 _ _ _ _ _ _ _ _ _ ⟨fun _ => hP, fun c9 => absurd ((lg_cmp_eq a a).mpr rfl) c9⟩)
    · exact (l_no ok c hj' e').elim
    · exact (l_no ok c hj' e').elim
    · exact (l_no ok c hj' e').elim
  · have hJ := hI.mid f
    refine ⟨rK τ hJ.2.2.1, rV τ _ hJ.2.2.1 v1, rK τ hJ.2.2.1, rV τ _ hJ.2.2.1 v2, rK τ hJ.2.2.1, rV τ _ hJ.2.2.1 v3, rK τ hJ.2.2.1, rV τ _ hJ.2.2.1 v4, rK τ hJ.2.2.1, rV τ _ hJ.2.2.1 v5, hJ.1.k, ?_⟩
    rw [hJ.2.2.1.1.2.2]
    refine m_corner (σ := τ) (ι := q_I τ) (κ := q_L τ) hJ.1 hJ.2.1 ok (fun d => ?_) (fun j' hj' e' d2 => ?_) (fun j' hj' e' d2 d3 => ?_) (fun j' a' b' hj' e' ea' eb' la' lb' loc' lrc' ι' κ' hw' hfr ht0 => ?_)
    · exact (l_no ok d hj e).elim
    · obtain rfl := l_eq ok hj e hj' e'
      have hP := p356 _ _ _ _ _ _ _ (nx A _ (hJ.fin ok np w (hJ.2.1.th 2) (fun t ht => m_th_o (by omega))) f.2.2.2)
      exact l_cB (Q := fun a b => P350 k9 10000000 1 14 42 (nI i) a b _) hJ.1.k (m_th_0 (ι := q_I τ) (v := 2)) hJ.2.2.2.1 hJ.2.2.2.2 (fun e9 => absurd e9 (by decide)) hP (fun a => p350 _ _ _ _ _ _ _ _ _ ⟨fun _ => hP, fun c9 => absurd ((lg_cmp_eq a a).mpr rfl) c9⟩)
    · obtain rfl := l_eq ok hj e hj' e'
      exfalso; omega
    · obtain rfl := l_eq ok hj e hj' e'
      exfalso; omega
  · have hJ := hI.mid f
    refine ⟨rK τ hJ.2.2.1, rV τ _ hJ.2.2.1 v1, rK τ hJ.2.2.1, rV τ _ hJ.2.2.1 v2, rK τ hJ.2.2.1, rV τ _ hJ.2.2.1 v3, rK τ hJ.2.2.1, rV τ _ hJ.2.2.1 v4, rK τ hJ.2.2.1, rV τ _ hJ.2.2.1 v5, hJ.1.k, ?_⟩
    rw [hJ.2.2.1.1.2.2]
    refine m_corner (σ := τ) (ι := q_I τ) (κ := q_L τ) hJ.1 hJ.2.1 ok (fun d => ?_) (fun j' hj' e' d2 => ?_) (fun j' hj' e' d2 d3 => ?_) (fun j' a' b' hj' e' ea' eb' la' lb' loc' lrc' ι' κ' hw' hfr ht0 => ?_)
    · exact (l_no ok d hj e).elim
    · obtain rfl := l_eq ok hj e hj' e'
      exfalso; omega
    · obtain rfl := l_eq ok hj e hj' e'
      have hP := p356 _ _ _ _ _ _ _ (nx A _ (hJ.fin ok np w (hJ.2.1.th 0) (fun t ht => m_th_o (by omega))) f.2.2.2)
      exact l_cB (Q := fun a b => P350 k9 10000000 1 14 42 (nI i) a b _) hJ.1.k (m_th_0 (ι := q_I τ) (v := 0)) hJ.2.2.2.1 hJ.2.2.2.2 (fun _ => Or.inl ⟨rfl, o⟩) hP (fun a => p350 _ _ _ _ _ _ _ _ _ ⟨fun _ => hP, fun c9 => absurd ((lg_cmp_eq a a).mpr rfl) c9⟩)
    · obtain rfl := l_eq ok hj e hj' e'
      exfalso; omega
  · have hJ := hI.mid f
    refine ⟨rK τ hJ.2.2.1, rV τ _ hJ.2.2.1 v1, rK τ hJ.2.2.1, rV τ _ hJ.2.2.1 v2, rK τ hJ.2.2.1, rV τ _ hJ.2.2.1 v3, rK τ hJ.2.2.1, rV τ _ hJ.2.2.1 v4, rK τ hJ.2.2.1, rV τ _ hJ.2.2.1 v5, hJ.1.k, ?_⟩
    rw [hJ.2.2.1.1.2.2]
    refine m_corner (σ := τ) (ι := q_I τ) (κ := q_L τ) hJ.1 hJ.2.1 ok (fun d => ?_) (fun j' hj' e' d2 => ?_) (fun j' hj' e' d2 d3 => ?_) (fun j' a' b' hj' e' ea' eb' la' lb' loc' lrc' ι' κ' hw' hfr ht0 => ?_)
    · exact (l_no ok d hj e).elim
    · obtain rfl := l_eq ok hj e hj' e'
      exfalso; omega
    · obtain rfl := l_eq ok hj e hj' e'
      exfalso; omega
    · obtain rfl := l_eq ok hj e hj' e'
      obtain rfl : a' = a := by omega
      obtain rfl : b' = b := by omega
      have hP := p356 _ _ _ _ _ _ _ (nx _ _ (hJ.fin (ok.cor la lb loc lrc) np.cor w hw' (fun t ht => (hfr t ht).1)) f.2.2.2)
      exact l_cB (Q := fun a b => P350 k9 10000000 1 14 42 (nI i) a b _) hJ.1.k ht0 hJ.2.2.2.1 hJ.2.2.2.2 (fun _ => Or.inr ⟨by decide, (congrFun (hfr 42 (by omega)).2 0).trans o⟩) hP (fun a => p350 _ _ _ _ _ _ _ _ _ ⟨fun _ => hP, fun c9 => absurd ((lg_cmp_eq a a).mpr rfl) c9⟩)
theorem l_ring {R : q_O → q_S → Prop} {P359 P419 P1969 : Nat → Nat → Nat → Nat → Nat → Int32 → q_S → Prop} {P413 : Nat → Nat → Nat → Nat → Nat → Int32 → Int64 → Int64 → q_S → Prop} (p359 : V_LW_law_359 R P359 P413 P419) (p413 : V_LW_law_413 R P413 P419) (p419 : V_LW_law_419 R P419 P1969) {A : a_A} {L : Nat} {xs : Nat → Int32} {σ : q_S} {k9 i : Nat} (hI : w_I A L xs σ) (hn : q_n σ < 1000000) (hi : i + 11 ≤ L) (hL : L ≤ 5633) (nx : ∀ B τ, w_I B L xs τ → q_n τ ≤ q_n σ + 60 → P1969 k9 10000000 1 14 42 (nI i) τ) : P359 k9 10000000 1 14 42 (nI i) σ := by
  obtain ⟨ok, np, hC, hS, hM, hR, k42, z42⟩ := id hI
  have hN8 := ok.1.1
  have v1 : vp_in (nI i + 1) L := l_v hi hL 1 (by omega)
  have rK : ∀ τ : q_S, w_R L xs τ → (q_K τ 10000000 = 1000 ∨ q_K τ 10000000 = 2000) := fun τ h => Or.inr h.1.1
  have rV : ∀ (τ : q_S) (k : Int32), w_R L xs τ → vp_in k L → vp_in k (q_Z τ 10000000) := fun τ k h hv => by rw [h.1.2.1]; exact hv
  refine p359 _ _ _ _ _ _ _ ⟨rK σ hR, rV σ _ hR v1, ?_⟩
  rw [hR.1.2.2]
  refine k_ring hC ok hn k42 z42 (fun c τ w f => ?_) (fun j hj e c3 τ w f o => ?_) (fun j hj e c3 τ w f o => ?_)
  · have hJ := hI.mid f
    refine ⟨rK τ hJ.2.2.1, rV τ _ hJ.2.2.1 v1, hJ.1.k, ?_⟩
    rw [hJ.2.2.1.1.2.2]
    refine m_ring (σ := τ) (ι := q_I τ) (κ := q_L τ) hJ.1 hJ.2.1 ok (fun d => ?_) (fun j' hj' e' d3 => ?_) (fun j' hj' e' d3 d4 ι' hw' hfr ht0 => ?_)
    · have hP := p419 _ _ _ _ _ _ _ (nx A _ (hJ.fin ok np w (hJ.2.1.th 1) (fun t ht => m_th_o (by omega))) f.2.2.2)
      exact l_cB (Q := fun a b => P413 k9 10000000 1 14 42 (nI i) a b _) hJ.1.k (m_th_0 (ι := q_I τ) (v := 1)) hJ.2.2.2.1 hJ.2.2.2.2 (fun e9 => absurd e9 (by decide)) hP (fun a => p413 _ _ _ _ _ _ _ _ _ ⟨fun _ => hP, fun c9 => absurd ((lg_cmp_eq a a).mpr rfl) c9⟩)
    · exact (l_no ok c hj' e').elim
    · exact (l_no ok c hj' e').elim
  · have hJ := hI.mid f
    refine ⟨rK τ hJ.2.2.1, rV τ _ hJ.2.2.1 v1, hJ.1.k, ?_⟩
    rw [hJ.2.2.1.1.2.2]
    refine m_ring (σ := τ) (ι := q_I τ) (κ := q_L τ) hJ.1 hJ.2.1 ok (fun d => ?_) (fun j' hj' e' d3 => ?_) (fun j' hj' e' d3 d4 ι' hw' hfr ht0 => ?_)
    · exact (l_no ok d hj e).elim
    · obtain rfl := l_eq ok hj e hj' e'
      have hP := p419 _ _ _ _ _ _ _ (nx A _ (hJ.fin ok np w (hJ.2.1.th 0) (fun t ht => m_th_o (by omega))) f.2.2.2)
      exact l_cB (Q := fun a b => P413 k9 10000000 1 14 42 (nI i) a b _) hJ.1.k (m_th_0 (ι := q_I τ) (v := 0)) hJ.2.2.2.1 hJ.2.2.2.2 (fun _ => Or.inl ⟨rfl, o⟩) hP (fun a => p413 _ _ _ _ _ _ _ _ _ ⟨fun _ => hP, fun c9 => absurd ((lg_cmp_eq a a).mpr rfl) c9⟩)
    · obtain rfl := l_eq ok hj e hj' e'
      exfalso; omega
  · have hJ := hI.mid f
    refine ⟨rK τ hJ.2.2.1, rV τ _ hJ.2.2.1 v1, hJ.1.k, ?_⟩
    rw [hJ.2.2.1.1.2.2]
    refine m_ring (σ := τ) (ι := q_I τ) (κ := q_L τ) hJ.1 hJ.2.1 ok (fun d => ?_) (fun j' hj' e' d3 => ?_) (fun j' hj' e' d3 d4 ι' hw' hfr ht0 => ?_)
    · exact (l_no ok d hj e).elim
    · obtain rfl := l_eq ok hj e hj' e'
      exfalso; omega
    · obtain rfl := l_eq ok hj e hj' e'
      have hP := p419 _ _ _ _ _ _ _ (nx _ _ (hJ.fin (ok.rin hj c3) np.rin w hw' hfr) f.2.2.2)
      exact l_cB (Q := fun a b => P413 k9 10000000 1 14 42 (nI i) a b _) hJ.1.k ht0 hJ.2.2.2.1 hJ.2.2.2.2 (fun _ => Or.inr ⟨by decide, o⟩) hP (fun a => p413 _ _ _ _ _ _ _ _ _ ⟨fun _ => hP, fun c9 => absurd ((lg_cmp_eq a a).mpr rfl) c9⟩)
theorem l_obstacle {R : q_O → q_S → Prop} {P422 P625 P1969 : Nat → Nat → Nat → Nat → Nat → Int32 → q_S → Prop} (p422 : V_LW_law_422 R P422 P625) (p625 : V_LW_law_625 R P625 P1969) {A : a_A} {L : Nat} {xs : Nat → Int32} {σ : q_S} {k9 i : Nat} (hI : w_I A L xs σ) (hn : q_n σ < 1000000) (hi : i + 11 ≤ L) (hL : L ≤ 5633) (nx : ∀ B τ, w_I B L xs τ → q_n τ ≤ q_n σ + 60 → P1969 k9 10000000 1 14 42 (nI i) τ) : P422 k9 10000000 1 14 42 (nI i) σ := by
  obtain ⟨ok, np, hC, hS, hM, hR, k42, z42⟩ := id hI
  have hN8 := ok.1.1
  have v1 : vp_in (nI i + 1) L := l_v hi hL 1 (by omega)
  have v2 : vp_in (nI i + 2) L := l_v hi hL 2 (by omega)
  have v3 : vp_in (nI i + 3) L := l_v hi hL 3 (by omega)
  have v4 : vp_in (nI i + 4) L := l_v hi hL 4 (by omega)
  have v5 : vp_in (nI i + 5) L := l_v hi hL 5 (by omega)
  have v6 : vp_in (nI i + 6) L := l_v hi hL 6 (by omega)
  have v7 : vp_in (nI i + 7) L := l_v hi hL 7 (by omega)
  have v8 : vp_in (nI i + 8) L := l_v hi hL 8 (by omega)
  have rK : ∀ τ : q_S, w_R L xs τ → (q_K τ 10000000 = 1000 ∨ q_K τ 10000000 = 2000) := fun τ h => Or.inr h.1.1
  have rV : ∀ (τ : q_S) (k : Int32), w_R L xs τ → vp_in k L → vp_in k (q_Z τ 10000000) := fun τ k h hv => by rw [h.1.2.1]; exact hv
  refine p422 _ _ _ _ _ _ _ ⟨rK σ hR, rV σ _ hR v1, rK σ hR, rV σ _ hR v2, rK σ hR, rV σ _ hR v3, rK σ hR, rV σ _ hR v4, rK σ hR, rV σ _ hR v5, rK σ hR, rV σ _ hR v6, rK σ hR, rV σ _ hR v7, rK σ hR, rV σ _ hR v8, ?_⟩
  rw [hR.1.2.2]
  refine k_obstacle hC ok hR hn k42 z42 (fun c τ w f => ?_) (fun c c2 τ w f => ?_) (fun c c2 c3 τ w f o => ?_) (fun x y r c c2 ex ey er c3 τ w f o => ?_)
  · have hJ := hI.mid f
    refine ⟨rK τ hJ.2.2.1, rV τ _ hJ.2.2.1 v1, rK τ hJ.2.2.1, rV τ _ hJ.2.2.1 v2, rK τ hJ.2.2.1, rV τ _ hJ.2.2.1 v3, rK τ hJ.2.2.1, rV τ _ hJ.2.2.1 v4, rK τ hJ.2.2.1, rV τ _ hJ.2.2.1 v5, rK τ hJ.2.2.1, rV τ _ hJ.2.2.1 v6, rK τ hJ.2.2.1, rV τ _ hJ.2.2.1 v7, rK τ hJ.2.2.1, rV τ _ hJ.2.2.1 v8, hJ.1.k, ?_⟩
    rw [hJ.2.2.1.1.2.2]
    refine m_obstacle (σ := τ) (ι := q_I τ) (κ := q_L τ) hJ.1 hJ.2.1 ok (fun d => ?_) (fun d d2 => ?_) (fun d d2 d3 => ?_) (fun x' y' r' d d2 ex' ey' er' d3 ι' κ' hw' hfr ht0 => ?_)
    · exact l_cI hJ.1.k (m_th_0 (ι := q_I τ) (v := 1)) hJ.2.2.2.1 hJ.2.2.2.2 (fun e9 => absurd e9 (by decide)) (p625 _ _ _ _ _ _ _ (nx A _ (hJ.fin ok np w (hJ.2.1.th 1) (fun t ht => m_th_o (by omega))) f.2.2.2))
    · exfalso; omega
    · exfalso; omega
    · exfalso; omega
  · have hJ := hI.mid f
    refine ⟨rK τ hJ.2.2.1, rV τ _ hJ.2.2.1 v1, rK τ hJ.2.2.1, rV τ _ hJ.2.2.1 v2, rK τ hJ.2.2.1, rV τ _ hJ.2.2.1 v3, rK τ hJ.2.2.1, rV τ _ hJ.2.2.1 v4, rK τ hJ.2.2.1, rV τ _ hJ.2.2.1 v5, rK τ hJ.2.2.1, rV τ _ hJ.2.2.1 v6, rK τ hJ.2.2.1, rV τ _ hJ.2.2.1 v7, rK τ hJ.2.2.1, rV τ _ hJ.2.2.1 v8, hJ.1.k, ?_⟩
    rw [hJ.2.2.1.1.2.2]
    refine m_obstacle (σ := τ) (ι := q_I τ) (κ := q_L τ) hJ.1 hJ.2.1 ok (fun d => ?_) (fun d d2 => ?_) (fun d d2 d3 => ?_) (fun x' y' r' d d2 ex' ey' er' d3 ι' κ' hw' hfr ht0 => ?_)
    · exfalso; omega
    · exact l_cI hJ.1.k (m_th_0 (ι := q_I τ) (v := 2)) hJ.2.2.2.1 hJ.2.2.2.2 (fun e9 => absurd e9 (by decide)) (p625 _ _ _ _ _ _ _ (nx A _ (hJ.fin ok np w (hJ.2.1.th 2) (fun t ht => m_th_o (by omega))) f.2.2.2))
    · exfalso; omega
    · exfalso; omega
  · have hJ := hI.mid f
    refine ⟨rK τ hJ.2.2.1, rV τ _ hJ.2.2.1 v1, rK τ hJ.2.2.1, rV τ _ hJ.2.2.1 v2, rK τ hJ.2.2.1, rV τ _ hJ.2.2.1 v3, rK τ hJ.2.2.1, rV τ _ hJ.2.2.1 v4, rK τ hJ.2.2.1, rV τ _ hJ.2.2.1 v5, rK τ hJ.2.2.1, rV τ _ hJ.2.2.1 v6, rK τ hJ.2.2.1, rV τ _ hJ.2.2.1 v7, rK τ hJ.2.2.1, rV τ _ hJ.2.2.1 v8, hJ.1.k, ?_⟩
    rw [hJ.2.2.1.1.2.2]
    refine m_obstacle (σ := τ) (ι := q_I τ) (κ := q_L τ) hJ.1 hJ.2.1 ok (fun d => ?_) (fun d d2 => ?_) (fun d d2 d3 => ?_) (fun x' y' r' d d2 ex' ey' er' d3 ι' κ' hw' hfr ht0 => ?_)
    · exfalso; omega
    · exfalso; omega
    · exact l_cI hJ.1.k (m_th_0 (ι := q_I τ) (v := 0)) hJ.2.2.2.1 hJ.2.2.2.2 (fun _ => o) (p625 _ _ _ _ _ _ _ (nx A _ (hJ.fin ok np w (hJ.2.1.th 0) (fun t ht => m_th_o (by omega))) f.2.2.2))
    · exfalso; omega
  · have hJ := hI.mid f
    refine ⟨rK τ hJ.2.2.1, rV τ _ hJ.2.2.1 v1, rK τ hJ.2.2.1, rV τ _ hJ.2.2.1 v2, rK τ hJ.2.2.1, rV τ _ hJ.2.2.1 v3, rK τ hJ.2.2.1, rV τ _ hJ.2.2.1 v4, rK τ hJ.2.2.1, rV τ _ hJ.2.2.1 v5, rK τ hJ.2.2.1, rV τ _ hJ.2.2.1 v6, rK τ hJ.2.2.1, rV τ _ hJ.2.2.1 v7, rK τ hJ.2.2.1, rV τ _ hJ.2.2.1 v8, hJ.1.k, ?_⟩
    rw [hJ.2.2.1.1.2.2]
    refine m_obstacle (σ := τ) (ι := q_I τ) (κ := q_L τ) hJ.1 hJ.2.1 ok (fun d => ?_) (fun d d2 => ?_) (fun d d2 d3 => ?_) (fun x' y' r' d d2 ex' ey' er' d3 ι' κ' hw' hfr ht0 => ?_)
    · exfalso; omega
    · exfalso; omega
    · exfalso; omega
    · obtain rfl : x' = x := by omega
      obtain rfl : y' = y := by omega
      obtain rfl : r' = r := by omega
      exact l_cI hJ.1.k ht0 hJ.2.2.2.1 hJ.2.2.2.2 (fun _ => (congrFun (hfr 42 (by omega)).2 0).trans o) (p625 _ _ _ _ _ _ _ (nx _ _ (hJ.fin (ok.obs c3 (by omega) (by omega) (by omega)) np.obs w hw' (fun t ht => (hfr t ht).1)) f.2.2.2))
theorem l_rule {R : q_O → q_S → Prop} {P628 P732 P1969 : Nat → Nat → Nat → Nat → Nat → Int32 → q_S → Prop} {P726 : Nat → Nat → Nat → Nat → Nat → Int32 → Int64 → Int64 → q_S → Prop} (p628 : V_LW_law_628 R P628 P726 P732) (p726 : V_LW_law_726 R P726 P732) (p732 : V_LW_law_732 R P732 P1969) {A : a_A} {L : Nat} {xs : Nat → Int32} {σ : q_S} {k9 i : Nat} (hI : w_I A L xs σ) (hn : q_n σ < 1000000) (hi : i + 11 ≤ L) (hL : L ≤ 5633) (nx : ∀ B τ, w_I B L xs τ → q_n τ ≤ q_n σ + 60 → P1969 k9 10000000 1 14 42 (nI i) τ) : P628 k9 10000000 1 14 42 (nI i) σ := by
  obtain ⟨ok, np, hC, hS, hM, hR, k42, z42⟩ := id hI
  have hN8 := ok.1.1
  have v1 : vp_in (nI i + 1) L := l_v hi hL 1 (by omega)
  have v2 : vp_in (nI i + 2) L := l_v hi hL 2 (by omega)
  have v3 : vp_in (nI i + 3) L := l_v hi hL 3 (by omega)
  have rK : ∀ τ : q_S, w_R L xs τ → (q_K τ 10000000 = 1000 ∨ q_K τ 10000000 = 2000) := fun τ h => Or.inr h.1.1
  have rV : ∀ (τ : q_S) (k : Int32), w_R L xs τ → vp_in k L → vp_in k (q_Z τ 10000000) := fun τ k h hv => by rw [h.1.2.1]; exact hv
  refine p628 _ _ _ _ _ _ _ ⟨rK σ hR, rV σ _ hR v1, rK σ hR, rV σ _ hR v2, rK σ hR, rV σ _ hR v3, ?_⟩
  rw [hR.1.2.2]
  refine k_rule hC ok hR hn k42 z42 (fun c τ w f => ?_) (fun k hk e c2 τ w f => ?_) (fun k a hk e ea l1 l2 τ w f o => ?_)
  · have hJ := hI.mid f
    refine ⟨rK τ hJ.2.2.1, rV τ _ hJ.2.2.1 v1, rK τ hJ.2.2.1, rV τ _ hJ.2.2.1 v2, rK τ hJ.2.2.1, rV τ _ hJ.2.2.1 v3, hJ.1.k, ?_⟩
    rw [hJ.2.2.1.1.2.2]
    refine m_rule (σ := τ) (ι := q_I τ) (κ := q_L τ) hJ.1 hJ.2.1 ok (fun d => ?_) (fun k' hk' e' d2 => ?_) (fun k' a' hk' e' ea' l1' l2' ι' v hw' hfr ht0 ho' => ?_)
    · have hP := p732 _ _ _ _ _ _ _ (nx A _ (hJ.fin ok np w (hJ.2.1.th 1) (fun t ht => m_th_o (by omega))) f.2.2.2)
      exact l_cB (Q := fun a b => P726 k9 10000000 1 14 42 (nI i) a b _) hJ.1.k (m_th_0 (ι := q_I τ) (v := 1)) hJ.2.2.2.1 hJ.2.2.2.2 (fun e9 => absurd e9 (by decide)) hP (fun a => p726 _ _ _ _ _ _ _ _ _ ⟨fun _ => hP, fun c9 => absurd ((lg_cmp_eq a a).mpr rfl) c9⟩)
    · exact (l_no4 c hk' e').elim
    · exact (l_no4 c hk' e').elim
  · have hJ := hI.mid f
    refine ⟨rK τ hJ.2.2.1, rV τ _ hJ.2.2.1 v1, rK τ hJ.2.2.1, rV τ _ hJ.2.2.1 v2, rK τ hJ.2.2.1, rV τ _ hJ.2.2.1 v3, hJ.1.k, ?_⟩
    rw [hJ.2.2.1.1.2.2]
    refine m_rule (σ := τ) (ι := q_I τ) (κ := q_L τ) hJ.1 hJ.2.1 ok (fun d => ?_) (fun k' hk' e' d2 => ?_) (fun k' a' hk' e' ea' l1' l2' ι' v hw' hfr ht0 ho' => ?_)
    · exact (l_no4 d hk e).elim
    · obtain rfl := l_eqS (n := 4) (by omega) hk e hk' e'
      have hP := p732 _ _ _ _ _ _ _ (nx A _ (hJ.fin ok np w (hJ.2.1.th 2) (fun t ht => m_th_o (by omega))) f.2.2.2)
      exact l_cB (Q := fun a b => P726 k9 10000000 1 14 42 (nI i) a b _) hJ.1.k (m_th_0 (ι := q_I τ) (v := 2)) hJ.2.2.2.1 hJ.2.2.2.2 (fun e9 => absurd e9 (by decide)) hP (fun a => p726 _ _ _ _ _ _ _ _ _ ⟨fun _ => hP, fun c9 => absurd ((lg_cmp_eq a a).mpr rfl) c9⟩)
    · obtain rfl := l_eqS (n := 4) (by omega) hk e hk' e'
      exfalso; omega
  · have hJ := hI.mid f
    refine ⟨rK τ hJ.2.2.1, rV τ _ hJ.2.2.1 v1, rK τ hJ.2.2.1, rV τ _ hJ.2.2.1 v2, rK τ hJ.2.2.1, rV τ _ hJ.2.2.1 v3, hJ.1.k, ?_⟩
    rw [hJ.2.2.1.1.2.2]
    refine m_rule (σ := τ) (ι := q_I τ) (κ := q_L τ) hJ.1 hJ.2.1 ok (fun d => ?_) (fun k' hk' e' d2 => ?_) (fun k' a' hk' e' ea' l1' l2' ι' v hw' hfr ht0 ho' => ?_)
    · exact (l_no4 d hk e).elim
    · obtain rfl := l_eqS (n := 4) (by omega) hk e hk' e'
      exfalso; omega
    · obtain rfl := l_eqS (n := 4) (by omega) hk e hk' e'
      obtain rfl : a' = a := by omega
      have hh : (v = 0 ∧ q_L τ 42 0 = 0) ∨ (¬ v = 0 ∧ q_L τ 42 0 = 1) := by
        rcases o with ⟨o1, o2⟩ | ⟨o1, o2⟩ <;> rcases ho' with ⟨q1, q2⟩ | ⟨q1, q2⟩
        · exact Or.inl ⟨q2, o2⟩
        · exact absurd o1 q1
        · exact absurd q1 o1
        · exact Or.inr ⟨by rw [q2]; decide, o2⟩
      have hP := p732 _ _ _ _ _ _ _ (nx _ _ (hJ.fin (ok.rul hk l1 l2) np.rul w hw' hfr) f.2.2.2)
      exact l_cB (Q := fun a b => P726 k9 10000000 1 14 42 (nI i) a b _) hJ.1.k ht0 hJ.2.2.2.1 hJ.2.2.2.2 (fun _ => hh) hP (fun a => p726 _ _ _ _ _ _ _ _ _ ⟨fun _ => hP, fun c9 => absurd ((lg_cmp_eq a a).mpr rfl) c9⟩)
theorem l_pad {R : q_O → q_S → Prop} {P735 P986 P1969 : Nat → Nat → Nat → Nat → Nat → Int32 → q_S → Prop} (p735 : V_LW_law_735 R P735 P986) (p986 : V_LW_law_986 R P986 P1969) {A : a_A} {L : Nat} {xs : Nat → Int32} {σ : q_S} {k9 i : Nat} (hI : w_I A L xs σ) (hn : q_n σ < 1000000) (hi : i + 11 ≤ L) (hL : L ≤ 5633) (nx : ∀ B τ, w_I B L xs τ → q_n τ ≤ q_n σ + 60 → P1969 k9 10000000 1 14 42 (nI i) τ) : P735 k9 10000000 1 14 42 (nI i) σ := by
  obtain ⟨ok, np, hC, hS, hM, hR, k42, z42⟩ := id hI
  have hN8 := ok.1.1
  have v1 : vp_in (nI i + 1) L := l_v hi hL 1 (by omega)
  have v2 : vp_in (nI i + 2) L := l_v hi hL 2 (by omega)
  have v3 : vp_in (nI i + 3) L := l_v hi hL 3 (by omega)
  have v4 : vp_in (nI i + 4) L := l_v hi hL 4 (by omega)
  have v5 : vp_in (nI i + 5) L := l_v hi hL 5 (by omega)
  have v6 : vp_in (nI i + 6) L := l_v hi hL 6 (by omega)
  have v7 : vp_in (nI i + 7) L := l_v hi hL 7 (by omega)
  have v8 : vp_in (nI i + 8) L := l_v hi hL 8 (by omega)
  have v9 : vp_in (nI i + 9) L := l_v hi hL 9 (by omega)
  have v10 : vp_in (nI i + 10) L := l_v hi hL 10 (by omega)
  have rK : ∀ τ : q_S, w_R L xs τ → (q_K τ 10000000 = 1000 ∨ q_K τ 10000000 = 2000) := fun τ h => Or.inr h.1.1
  have rV : ∀ (τ : q_S) (k : Int32), w_R L xs τ → vp_in k L → vp_in k (q_Z τ 10000000) := fun τ k h hv => by rw [h.1.2.1]; exact hv
  refine p735 _ _ _ _ _ _ _ ⟨rK σ hR, rV σ _ hR v1, rK σ hR, rV σ _ hR v2, rK σ hR, rV σ _ hR v3, rK σ hR, rV σ _ hR v4, rK σ hR, rV σ _ hR v5, rK σ hR, rV σ _ hR v6, rK σ hR, rV σ _ hR v7, rK σ hR, rV σ _ hR v8, rK σ hR, rV σ _ hR v9, rK σ hR, rV σ _ hR v10, ?_⟩
  rw [hR.1.2.2]
  refine k_pad hC ok hR hn k42 z42 (fun c τ w f => ?_) (fun c c2 τ w f => ?_) (fun c c2 c3 τ w f o => ?_) (fun x y a b c c2 ex ey ea eb c3 τ w f o => ?_)
  · have hJ := hI.mid f
    refine ⟨rK τ hJ.2.2.1, rV τ _ hJ.2.2.1 v1, rK τ hJ.2.2.1, rV τ _ hJ.2.2.1 v2, rK τ hJ.2.2.1, rV τ _ hJ.2.2.1 v3, rK τ hJ.2.2.1, rV τ _ hJ.2.2.1 v4, rK τ hJ.2.2.1, rV τ _ hJ.2.2.1 v5, rK τ hJ.2.2.1, rV τ _ hJ.2.2.1 v6, rK τ hJ.2.2.1, rV τ _ hJ.2.2.1 v7, rK τ hJ.2.2.1, rV τ _ hJ.2.2.1 v8, rK τ hJ.2.2.1, rV τ _ hJ.2.2.1 v9, rK τ hJ.2.2.1, rV τ _ hJ.2.2.1 v10, hJ.1.k, ?_⟩
    rw [hJ.2.2.1.1.2.2]
    refine m_pad (σ := τ) (ι := q_I τ) (κ := q_L τ) hJ.1 hJ.2.1 ok (fun d => ?_) (fun d d2 => ?_) (fun d d2 d3 => ?_) (fun x' y' a' b' d d2 ex' ey' ea' eb' d3 ι' hw' hfr ht0 => ?_)
    · exact l_cI hJ.1.k (m_th_0 (ι := q_I τ) (v := 1)) hJ.2.2.2.1 hJ.2.2.2.2 (fun e9 => absurd e9 (by decide)) (p986 _ _ _ _ _ _ _ (nx A _ (hJ.fin ok np w (hJ.2.1.th 1) (fun t ht => m_th_o (by omega))) f.2.2.2))
    · exfalso; omega
    · exfalso; omega
    · exfalso; omega
  · have hJ := hI.mid f
    refine ⟨rK τ hJ.2.2.1, rV τ _ hJ.2.2.1 v1, rK τ hJ.2.2.1, rV τ _ hJ.2.2.1 v2, rK τ hJ.2.2.1, rV τ _ hJ.2.2.1 v3, rK τ hJ.2.2.1, rV τ _ hJ.2.2.1 v4, rK τ hJ.2.2.1, rV τ _ hJ.2.2.1 v5, rK τ hJ.2.2.1, rV τ _ hJ.2.2.1 v6, rK τ hJ.2.2.1, rV τ _ hJ.2.2.1 v7, rK τ hJ.2.2.1, rV τ _ hJ.2.2.1 v8, rK τ hJ.2.2.1, rV τ _ hJ.2.2.1 v9, rK τ hJ.2.2.1, rV τ _ hJ.2.2.1 v10, hJ.1.k, ?_⟩
    rw [hJ.2.2.1.1.2.2]
    refine m_pad (σ := τ) (ι := q_I τ) (κ := q_L τ) hJ.1 hJ.2.1 ok (fun d => ?_) (fun d d2 => ?_) (fun d d2 d3 => ?_) (fun x' y' a' b' d d2 ex' ey' ea' eb' d3 ι' hw' hfr ht0 => ?_)
    · exfalso; omega
    · exact l_cI hJ.1.k (m_th_0 (ι := q_I τ) (v := 2)) hJ.2.2.2.1 hJ.2.2.2.2 (fun e9 => absurd e9 (by decide)) (p986 _ _ _ _ _ _ _ (nx A _ (hJ.fin ok np w (hJ.2.1.th 2) (fun t ht => m_th_o (by omega))) f.2.2.2))
    · exfalso; omega
    · exfalso; omega
  · have hJ := hI.mid f
    refine ⟨rK τ hJ.2.2.1, rV τ _ hJ.2.2.1 v1, rK τ hJ.2.2.1, rV τ _ hJ.2.2.1 v2, rK τ hJ.2.2.1, rV τ _ hJ.2.2.1 v3, rK τ hJ.2.2.1, rV τ _ hJ.2.2.1 v4, rK τ hJ.2.2.1, rV τ _ hJ.2.2.1 v5, rK τ hJ.2.2.1, rV τ _ hJ.2.2.1 v6, rK τ hJ.2.2.1, rV τ _ hJ.2.2.1 v7, rK τ hJ.2.2.1, rV τ _ hJ.2.2.1 v8, rK τ hJ.2.2.1, rV τ _ hJ.2.2.1 v9, rK τ hJ.2.2.1, rV τ _ hJ.2.2.1 v10, hJ.1.k, ?_⟩
    rw [hJ.2.2.1.1.2.2]
    refine m_pad (σ := τ) (ι := q_I τ) (κ := q_L τ) hJ.1 hJ.2.1 ok (fun d => ?_) (fun d d2 => ?_) (fun d d2 d3 => ?_) (fun x' y' a' b' d d2 ex' ey' ea' eb' d3 ι' hw' hfr ht0 => ?_)
    · exfalso; omega
    · exfalso; omega
    · exact l_cI hJ.1.k (m_th_0 (ι := q_I τ) (v := 0)) hJ.2.2.2.1 hJ.2.2.2.2 (fun _ => o) (p986 _ _ _ _ _ _ _ (nx A _ (hJ.fin ok np w (hJ.2.1.th 0) (fun t ht => m_th_o (by omega))) f.2.2.2))
    · exfalso; omega
  · have hJ := hI.mid f
    refine ⟨rK τ hJ.2.2.1, rV τ _ hJ.2.2.1 v1, rK τ hJ.2.2.1, rV τ _ hJ.2.2.1 v2, rK τ hJ.2.2.1, rV τ _ hJ.2.2.1 v3, rK τ hJ.2.2.1, rV τ _ hJ.2.2.1 v4, rK τ hJ.2.2.1, rV τ _ hJ.2.2.1 v5, rK τ hJ.2.2.1, rV τ _ hJ.2.2.1 v6, rK τ hJ.2.2.1, rV τ _ hJ.2.2.1 v7, rK τ hJ.2.2.1, rV τ _ hJ.2.2.1 v8, rK τ hJ.2.2.1, rV τ _ hJ.2.2.1 v9, rK τ hJ.2.2.1, rV τ _ hJ.2.2.1 v10, hJ.1.k, ?_⟩
    rw [hJ.2.2.1.1.2.2]
    refine m_pad (σ := τ) (ι := q_I τ) (κ := q_L τ) hJ.1 hJ.2.1 ok (fun d => ?_) (fun d d2 => ?_) (fun d d2 d3 => ?_) (fun x' y' a' b' d d2 ex' ey' ea' eb' d3 ι' hw' hfr ht0 => ?_)
    · exfalso; omega
    · exfalso; omega
    · exfalso; omega
    · obtain rfl : x' = x := by omega
      obtain rfl : y' = y := by omega
      obtain rfl : a' = a := by omega
      obtain rfl : b' = b := by omega
      exact l_cI hJ.1.k ht0 hJ.2.2.2.1 hJ.2.2.2.2 (fun _ => o) (p986 _ _ _ _ _ _ _ (nx _ _ (hJ.fin (ok.pad c3 (by omega) (by omega) (by omega) (by omega)) np.pad w hw' hfr) f.2.2.2))
theorem l_fill {R : q_O → q_S → Prop} {P989 P1969 : Nat → Nat → Nat → Nat → Nat → Int32 → q_S → Prop} (p989 : V_LW_law_989 R P989 P1969) {A : a_A} {L : Nat} {xs : Nat → Int32} {σ : q_S} {k9 i : Nat} (hI : w_I A L xs σ) (hn : q_n σ < 1000000) (hi : i + 11 ≤ L) (hL : L ≤ 5633) (nx : ∀ B τ, w_I B L xs τ → q_n τ ≤ q_n σ + 60 → P1969 k9 10000000 1 14 42 (nI i) τ) : P989 k9 10000000 1 14 42 (nI i) σ := by
  obtain ⟨ok, np, hC, hS, hM, hR, k42, z42⟩ := id hI
  have hN8 := ok.1.1
  have rK : ∀ τ : q_S, w_R L xs τ → (q_K τ 10000000 = 1000 ∨ q_K τ 10000000 = 2000) := fun τ h => Or.inr h.1.1
  have rV : ∀ (τ : q_S) (k : Int32), w_R L xs τ → vp_in k L → vp_in k (q_Z τ 10000000) := fun τ k h hv => by rw [h.1.2.1]; exact hv
  have k1 : q_K σ 1 = 1 := by
    obtain ⟨pl, rl, f, g, hw⟩ := hC
    exact hw.1.k
  refine p989 _ _ _ _ _ _ _ ⟨k1, ?_⟩
  refine k_fill hC ok (fun W isl pcs fl hall τ w f => ?_)
  have hJ := hI.mid f
  refine ⟨hJ.1.k, ?_⟩
  refine m_fill (σ := τ) (ι := q_I τ) (κ := q_L τ) hJ.1 hJ.2.1 ok hall (fun ι' κ' hw' hfr => ?_)
  exact ⟨fun _ => nx _ _ (hJ.fin ok.fil (a_np.fil hall) w hw' (fun t ht => (hfr t ht).1)) f.2.2.2, fun c => absurd rfl c⟩
theorem l_noR {A : a_A} (ok : a_ok A) (np : a_np A) {x p : Int32} {i j : Nat} (c : (x < 0 ∨ nI (a_N A) ≤ x) ∨ ∃ i, i < a_N A ∧ x = nI i ∧ (p < 0 ∨ nI (a_pc A i) ≤ p)) (hi : i < a_N A) (e : x = nI i) (e2 : p = nI j) (hj : j < a_pc A i) : False := by
  rcases c with c | ⟨i', hi', e', c⟩
  · exact l_no ok c hi e
  · obtain rfl := l_eq ok hi e hi' e'
    have h7 := (np i' hi').2.1
    rw [e2] at c
    rcases c with c | c
    · exact nI_pos (by omega) c
    · exact nI_ge hj (by omega) c
theorem l_rings {R : q_O → q_S → Prop} {P1002 P1067 P1969 : Nat → Nat → Nat → Nat → Nat → Int32 → q_S → Prop} (p1002 : V_LW_law_1002 R P1002 P1067) (p1067 : V_LW_law_1067 R P1067 P1969) {A : a_A} {L : Nat} {xs : Nat → Int32} {σ : q_S} {k9 i : Nat} (hI : w_I A L xs σ) (hn : q_n σ < 1000000) (hi : i + 11 ≤ L) (hL : L ≤ 5633) (nx : ∀ B τ, w_I B L xs τ → q_n τ ≤ q_n σ + 60 → P1969 k9 10000000 1 14 42 (nI i) τ) : P1002 k9 10000000 1 14 42 (nI i) σ := by
  obtain ⟨ok, np, hC, hS, hM, hR, k42, z42⟩ := id hI
  have hN8 := ok.1.1
  have v1 : vp_in (nI i + 1) L := l_v hi hL 1 (by omega)
  have v2 : vp_in (nI i + 2) L := l_v hi hL 2 (by omega)
  have rK : ∀ τ : q_S, w_R L xs τ → (q_K τ 10000000 = 1000 ∨ q_K τ 10000000 = 2000) := fun τ h => Or.inr h.1.1
  have rV : ∀ (τ : q_S) (k : Int32), w_R L xs τ → vp_in k L → vp_in k (q_Z τ 10000000) := fun τ k h hv => by rw [h.1.2.1]; exact hv
  refine p1002 _ _ _ _ _ _ _ ⟨rK σ hR, rV σ _ hR v1, rK σ hR, rV σ _ hR v2, ?_⟩
  rw [hR.1.2.2]
  refine k_rings hC ok np hn k42 z42 (fun c τ w f => ?_) (fun j p c1 hj e ep lp he τ w f o => ?_)
  · have hJ := hI.mid f
    refine ⟨rK τ hJ.2.2.1, rV τ _ hJ.2.2.1 v1, rK τ hJ.2.2.1, rV τ _ hJ.2.2.1 v2, hJ.1.k, ?_⟩
    rw [hJ.2.2.1.1.2.2]
    refine m_rings (σ := τ) (ι := q_I τ) (κ := q_L τ) hJ.1 hJ.2.1 ok np (fun d κ' fκ => ?_) (fun j' p' c2 hj' e' ep' lp' he' κ' fκ => ?_)
    · exact l_cI hJ.1.k (m_th_0 (ι := q_I τ) (v := 1)) hJ.2.2.2.1 hJ.2.2.2.2 (fun e9 => absurd e9 (by decide)) (p1067 _ _ _ _ _ _ _ (nx A _ (hJ.fin ok np w ((hJ.2.1.th 1).fr (fun _ _ => rfl) (fun _ _ _ => rfl) (fun a ha => fκ a (by omega) (by omega))) (fun t ht => m_th_o (by omega))) f.2.2.2))
    · exact (l_noR ok np c hj' e' ep' lp').elim
  · have hJ := hI.mid f
    refine ⟨rK τ hJ.2.2.1, rV τ _ hJ.2.2.1 v1, rK τ hJ.2.2.1, rV τ _ hJ.2.2.1 v2, hJ.1.k, ?_⟩
    rw [hJ.2.2.1.1.2.2]
    refine m_rings (σ := τ) (ι := q_I τ) (κ := q_L τ) hJ.1 hJ.2.1 ok np (fun d κ' fκ => ?_) (fun j' p' c2 hj' e' ep' lp' he' κ' fκ => ?_)
    · exact (l_noR ok np d hj e ep lp).elim
    · obtain rfl := l_eq ok hj e hj' e'
      obtain rfl := l_eqS (n := 768) (by omega) (Nat.lt_of_lt_of_le lp (np _ hj).2.1) ep (Nat.lt_of_lt_of_le lp' (np _ hj).2.1) ep'
      obtain rfl := he'.uniq he
      exact l_cI hJ.1.k (m_th_0 (ι := q_I τ) (v := 0)) hJ.2.2.2.1 hJ.2.2.2.2 (fun _ => (congrFun (fκ 42 (by omega) (by omega)) 0).trans o) (p1067 _ _ _ _ _ _ _ (nx A _ (hJ.fin ok np w ((hJ.2.1.th 0).fr (fun _ _ => rfl) (fun _ _ _ => rfl) (fun a ha => fκ a (by omega) (by omega))) (fun t ht => m_th_o (by omega))) f.2.2.2))
theorem l_at {R : q_O → q_S → Prop} {P1070 P1170 P1969 : Nat → Nat → Nat → Nat → Nat → Int32 → q_S → Prop} (p1070 : V_LW_law_1070 R P1070 P1170) (p1170 : V_LW_law_1170 R P1170 P1969) {A : a_A} {L : Nat} {xs : Nat → Int32} {σ : q_S} {k9 i : Nat} (hI : w_I A L xs σ) (hn : q_n σ < 1000000) (hi : i + 11 ≤ L) (hL : L ≤ 5633) (nx : ∀ B τ, w_I B L xs τ → q_n τ ≤ q_n σ + 60 → P1969 k9 10000000 1 14 42 (nI i) τ) : P1070 k9 10000000 1 14 42 (nI i) σ := by
  obtain ⟨ok, np, hC, hS, hM, hR, k42, z42⟩ := id hI
  have hN8 := ok.1.1
  have v1 : vp_in (nI i + 1) L := l_v hi hL 1 (by omega)
  have v2 : vp_in (nI i + 2) L := l_v hi hL 2 (by omega)
  have v3 : vp_in (nI i + 3) L := l_v hi hL 3 (by omega)
  have v4 : vp_in (nI i + 4) L := l_v hi hL 4 (by omega)
  have v5 : vp_in (nI i + 5) L := l_v hi hL 5 (by omega)
  have rK : ∀ τ : q_S, w_R L xs τ → (q_K τ 10000000 = 1000 ∨ q_K τ 10000000 = 2000) := fun τ h => Or.inr h.1.1
  have rV : ∀ (τ : q_S) (k : Int32), w_R L xs τ → vp_in k L → vp_in k (q_Z τ 10000000) := fun τ k h hv => by rw [h.1.2.1]; exact hv
  refine p1070 _ _ _ _ _ _ _ ⟨rK σ hR, rV σ _ hR v1, rK σ hR, rV σ _ hR v2, rK σ hR, rV σ _ hR v3, rK σ hR, rV σ _ hR v4, rK σ hR, rV σ _ hR v5, ?_⟩
  rw [hR.1.2.2]
  refine k_at hC ok np hn k42 z42 (fun c τ w f => ?_) (fun a y hs la ly τ w f o => ?_)
  · have hJ := hI.mid f
    refine ⟨rK τ hJ.2.2.1, rV τ _ hJ.2.2.1 v1, rK τ hJ.2.2.1, rV τ _ hJ.2.2.1 v2, rK τ hJ.2.2.1, rV τ _ hJ.2.2.1 v3, rK τ hJ.2.2.1, rV τ _ hJ.2.2.1 v4, rK τ hJ.2.2.1, rV τ _ hJ.2.2.1 v5, hJ.1.k, ?_⟩
    rw [hJ.2.2.1.1.2.2]
    refine m_at (σ := τ) (ι := q_I τ) (κ := q_L τ) hJ.1 hJ.2.1 ok np (fun d κ' fκ => ?_) (fun a' y' hs' la' ly' κ' fκ => ?_)
    · exact l_cI hJ.1.k (m_th_0 (ι := q_I τ) (v := 1)) hJ.2.2.2.1 hJ.2.2.2.2 (fun e9 => absurd e9 (by decide)) (p1170 _ _ _ _ _ _ _ (nx A _ (hJ.fin ok np w ((hJ.2.1.th 1).fr (fun _ _ => rfl) (fun _ _ _ => rfl) (fun a ha => fκ a (by omega) (by omega) (by omega))) (fun t ht => m_th_o (by omega))) f.2.2.2))
    · exact absurd hs' (c _ _)
  · have hJ := hI.mid f
    refine ⟨rK τ hJ.2.2.1, rV τ _ hJ.2.2.1 v1, rK τ hJ.2.2.1, rV τ _ hJ.2.2.1 v2, rK τ hJ.2.2.1, rV τ _ hJ.2.2.1 v3, rK τ hJ.2.2.1, rV τ _ hJ.2.2.1 v4, rK τ hJ.2.2.1, rV τ _ hJ.2.2.1 v5, hJ.1.k, ?_⟩
    rw [hJ.2.2.1.1.2.2]
    refine m_at (σ := τ) (ι := q_I τ) (κ := q_L τ) hJ.1 hJ.2.1 ok np (fun d κ' fκ => ?_) (fun a' y' hs' la' ly' κ' fκ => ?_)
    · exact absurd hs (d _ _)
    · obtain ⟨rfl, rfl⟩ := hs'.uniq ok np hs
      exact l_cI hJ.1.k (m_th_0 (ι := q_I τ) (v := 0)) hJ.2.2.2.1 hJ.2.2.2.2 (fun _ => (congrFun (fκ 42 (by omega) (by omega) (by omega)) 0).trans o) (p1170 _ _ _ _ _ _ _ (nx A _ (hJ.fin ok np w ((hJ.2.1.th 0).fr (fun _ _ => rfl) (fun _ _ _ => rfl) (fun a ha => fκ a (by omega) (by omega) (by omega))) (fun t ht => m_th_o (by omega))) f.2.2.2))
theorem l_in {R : q_O → q_S → Prop} {P1173 P1321 P1969 : Nat → Nat → Nat → Nat → Nat → Int32 → q_S → Prop} {P1315 : Nat → Nat → Nat → Nat → Nat → Int32 → Int64 → Int64 → q_S → Prop} (p1173 : V_LW_law_1173 R P1173 P1315 P1321) (p1315 : V_LW_law_1315 R P1315 P1321) (p1321 : V_LW_law_1321 R P1321 P1969) {A : a_A} {L : Nat} {xs : Nat → Int32} {σ : q_S} {k9 i : Nat} (hI : w_I A L xs σ) (hn : q_n σ < 1000000) (hi : i + 11 ≤ L) (hL : L ≤ 5633) (nx : ∀ B τ, w_I B L xs τ → q_n τ ≤ q_n σ + 60 → P1969 k9 10000000 1 14 42 (nI i) τ) : P1173 k9 10000000 1 14 42 (nI i) σ := by
  obtain ⟨ok, np, hC, hS, hM, hR, k42, z42⟩ := id hI
  have hN8 := ok.1.1
  have v1 : vp_in (nI i + 1) L := l_v hi hL 1 (by omega)
  have v2 : vp_in (nI i + 2) L := l_v hi hL 2 (by omega)
  have v3 : vp_in (nI i + 3) L := l_v hi hL 3 (by omega)
  have v4 : vp_in (nI i + 4) L := l_v hi hL 4 (by omega)
  have v5 : vp_in (nI i + 5) L := l_v hi hL 5 (by omega)
  have rK : ∀ τ : q_S, w_R L xs τ → (q_K τ 10000000 = 1000 ∨ q_K τ 10000000 = 2000) := fun τ h => Or.inr h.1.1
  have rV : ∀ (τ : q_S) (k : Int32), w_R L xs τ → vp_in k L → vp_in k (q_Z τ 10000000) := fun τ k h hv => by rw [h.1.2.1]; exact hv
  refine p1173 _ _ _ _ _ _ _ ⟨rK σ hR, rV σ _ hR v1, rK σ hR, rV σ _ hR v2, rK σ hR, rV σ _ hR v3, rK σ hR, rV σ _ hR v4, rK σ hR, rV σ _ hR v5, ?_⟩
  rw [hR.1.2.2]
  refine k_in hC ok hn k42 z42 (fun c τ w f => ?_) (fun j hj e τ w f o => ?_)
  · have hJ := hI.mid f
    refine ⟨rK τ hJ.2.2.1, rV τ _ hJ.2.2.1 v1, rK τ hJ.2.2.1, rV τ _ hJ.2.2.1 v2, rK τ hJ.2.2.1, rV τ _ hJ.2.2.1 v3, rK τ hJ.2.2.1, rV τ _ hJ.2.2.1 v4, rK τ hJ.2.2.1, rV τ _ hJ.2.2.1 v5, hJ.1.k, ?_⟩
    rw [hJ.2.2.1.1.2.2]
    refine m_in (σ := τ) (ι := q_I τ) (κ := q_L τ) hJ.1 hJ.2.1 ok (fun d => ?_) (fun j' hj' e' v hv => ?_)
    · have hP := p1321 _ _ _ _ _ _ _ (nx A _ (hJ.fin ok np w (hJ.2.1.th 1) (fun t ht => m_th_o (by omega))) f.2.2.2)
      exact l_cB (Q := fun a b => P1315 k9 10000000 1 14 42 (nI i) a b _) hJ.1.k (m_th_0 (ι := q_I τ) (v := 1)) hJ.2.2.2.1 hJ.2.2.2.2 (fun e9 => absurd e9 (by decide)) hP (fun a => p1315 _ _ _ _ _ _ _ _ _ ⟨fun _ => hP, fun c9 => absurd ((lg_cmp_eq a a).mpr rfl) c9⟩)
    · exact (l_no ok c hj' e').elim
  · have hJ := hI.mid f
    refine ⟨rK τ hJ.2.2.1, rV τ _ hJ.2.2.1 v1, rK τ hJ.2.2.1, rV τ _ hJ.2.2.1 v2, rK τ hJ.2.2.1, rV τ _ hJ.2.2.1 v3, rK τ hJ.2.2.1, rV τ _ hJ.2.2.1 v4, rK τ hJ.2.2.1, rV τ _ hJ.2.2.1 v5, hJ.1.k, ?_⟩
    rw [hJ.2.2.1.1.2.2]
    refine m_in (σ := τ) (ι := q_I τ) (κ := q_L τ) hJ.1 hJ.2.1 ok (fun d => ?_) (fun j' hj' e' v hv => ?_)
    · exact (l_no ok d hj e).elim
    · obtain rfl := l_eq ok hj e hj' e'
      have hh : (v = 0 ∧ q_L τ 42 0 = 0) ∨ (¬ v = 0 ∧ q_L τ 42 0 = 1) := by
        rcases o with ⟨o1, o2⟩ | ⟨o1, o2⟩ <;> rcases hv with ⟨q1, q2⟩ | ⟨q1, q2⟩
        · exact Or.inr ⟨by rw [q2]; decide, o2⟩
        · exact absurd o1 q1
        · exact absurd q1 o1
        · exact Or.inl ⟨q2, o2⟩
      have hP := p1321 _ _ _ _ _ _ _ (nx A _ (hJ.fin ok np w (hJ.2.1.th 0) (fun t ht => m_th_o (by omega))) f.2.2.2)
      exact l_cB (Q := fun a b => P1315 k9 10000000 1 14 42 (nI i) a b _) hJ.1.k (m_th_0 (ι := q_I τ) (v := 0)) hJ.2.2.2.1 hJ.2.2.2.2 (fun _ => hh) hP (fun a => p1315 _ _ _ _ _ _ _ _ _ ⟨fun _ => hP, fun c9 => absurd ((lg_cmp_eq a a).mpr rfl) c9⟩)
theorem l_islands {R : q_O → q_S → Prop} {P1324 P1377 P1969 : Nat → Nat → Nat → Nat → Nat → Int32 → q_S → Prop} (p1324 : V_LW_law_1324 R P1324 P1377) (p1377 : V_LW_law_1377 R P1377 P1969) {A : a_A} {L : Nat} {xs : Nat → Int32} {σ : q_S} {k9 i : Nat} (hI : w_I A L xs σ) (hn : q_n σ < 1000000) (hi : i + 11 ≤ L) (hL : L ≤ 5633) (nx : ∀ B τ, w_I B L xs τ → q_n τ ≤ q_n σ + 60 → P1969 k9 10000000 1 14 42 (nI i) τ) : P1324 k9 10000000 1 14 42 (nI i) σ := by
  obtain ⟨ok, np, hC, hS, hM, hR, k42, z42⟩ := id hI
  have hN8 := ok.1.1
  have v1 : vp_in (nI i + 1) L := l_v hi hL 1 (by omega)
  have rK : ∀ τ : q_S, w_R L xs τ → (q_K τ 10000000 = 1000 ∨ q_K τ 10000000 = 2000) := fun τ h => Or.inr h.1.1
  have rV : ∀ (τ : q_S) (k : Int32), w_R L xs τ → vp_in k L → vp_in k (q_Z τ 10000000) := fun τ k h hv => by rw [h.1.2.1]; exact hv
  refine p1324 _ _ _ _ _ _ _ ⟨rK σ hR, rV σ _ hR v1, ?_⟩
  rw [hR.1.2.2]
  refine k_islands hC ok hn k42 z42 (fun c τ w f => ?_) (fun j hj e τ w f o => ?_)
  · have hJ := hI.mid f
    refine ⟨rK τ hJ.2.2.1, rV τ _ hJ.2.2.1 v1, hJ.1.k, ?_⟩
    rw [hJ.2.2.1.1.2.2]
    refine m_islands (σ := τ) (ι := q_I τ) (κ := q_L τ) hJ.1 hJ.2.1 ok (fun d => ?_) (fun j' hj' e' => ?_)
    · exact l_cI hJ.1.k (m_th_0 (ι := q_I τ) (v := 1)) hJ.2.2.2.1 hJ.2.2.2.2 (fun e9 => absurd e9 (by decide)) (p1377 _ _ _ _ _ _ _ (nx A _ (hJ.fin ok np w (hJ.2.1.th 1) (fun t ht => m_th_o (by omega))) f.2.2.2))
    · exact (l_no ok c hj' e').elim
  · have hJ := hI.mid f
    refine ⟨rK τ hJ.2.2.1, rV τ _ hJ.2.2.1 v1, hJ.1.k, ?_⟩
    rw [hJ.2.2.1.1.2.2]
    refine m_islands (σ := τ) (ι := q_I τ) (κ := q_L τ) hJ.1 hJ.2.1 ok (fun d => ?_) (fun j' hj' e' => ?_)
    · exact (l_no ok d hj e).elim
    · obtain rfl := l_eq ok hj e hj' e'
      exact l_cI hJ.1.k (m_th_0 (ι := q_I τ) (v := 0)) hJ.2.2.2.1 hJ.2.2.2.2 (fun _ => o) (p1377 _ _ _ _ _ _ _ (nx A _ (hJ.fin ok np w (hJ.2.1.th 0) (fun t ht => m_th_o (by omega))) f.2.2.2))
theorem l_spoke {R : q_O → q_S → Prop} {P1380 P1457 P1969 : Nat → Nat → Nat → Nat → Nat → Int32 → q_S → Prop} (p1380 : V_LW_law_1380 R P1380 P1457) (p1457 : V_LW_law_1457 R P1457 P1969) {A : a_A} {L : Nat} {xs : Nat → Int32} {σ : q_S} {k9 i : Nat} (hI : w_I A L xs σ) (hn : q_n σ < 1000000) (hi : i + 11 ≤ L) (hL : L ≤ 5633) (nx : ∀ B τ, w_I B L xs τ → q_n τ ≤ q_n σ + 60 → P1969 k9 10000000 1 14 42 (nI i) τ) : P1380 k9 10000000 1 14 42 (nI i) σ := by
  obtain ⟨ok, np, hC, hS, hM, hR, k42, z42⟩ := id hI
  have hN8 := ok.1.1
  have v1 : vp_in (nI i + 1) L := l_v hi hL 1 (by omega)
  have v2 : vp_in (nI i + 2) L := l_v hi hL 2 (by omega)
  have v3 : vp_in (nI i + 3) L := l_v hi hL 3 (by omega)
  have rK : ∀ τ : q_S, w_R L xs τ → (q_K τ 10000000 = 1000 ∨ q_K τ 10000000 = 2000) := fun τ h => Or.inr h.1.1
  have rV : ∀ (τ : q_S) (k : Int32), w_R L xs τ → vp_in k L → vp_in k (q_Z τ 10000000) := fun τ k h hv => by rw [h.1.2.1]; exact hv
  refine p1380 _ _ _ _ _ _ _ ⟨rK σ hR, rV σ _ hR v1, rK σ hR, rV σ _ hR v2, rK σ hR, rV σ _ hR v3, ?_⟩
  rw [hR.1.2.2]
  refine k_spoke hC ok hR hn k42 z42 (fun c τ w f => ?_) (fun q kk ww e1 he e2 hkk e3 hww v τ hv w f o => ?_)
  · have hJ := hI.mid f
    refine ⟨rK τ hJ.2.2.1, rV τ _ hJ.2.2.1 v1, rK τ hJ.2.2.1, rV τ _ hJ.2.2.1 v2, rK τ hJ.2.2.1, rV τ _ hJ.2.2.1 v3, hJ.1.k, ?_⟩
    rw [hJ.2.2.1.1.2.2]
    refine m_spoke (σ := τ) (ι := q_I τ) (κ := q_L τ) hJ.1 hJ.2.1 ok (fun d => ?_) (fun q' kk' ww' e1' he' e2' hkk' e3' hww' v' hv' => ?_)
    · exact l_cI hJ.1.k (m_th_0 (ι := q_I τ) (v := 1)) hJ.2.2.2.1 hJ.2.2.2.2 (fun e9 => absurd e9 (by decide)) (p1457 _ _ _ _ _ _ _ (nx A _ (hJ.fin ok np w (hJ.2.1.th 1) (fun t ht => m_th_o (by omega))) f.2.2.2))
    · exact absurd ⟨q', kk', ww', e1', he', e2', hkk', e3', hww'⟩ c
  · have hJ := hI.mid f
    refine ⟨rK τ hJ.2.2.1, rV τ _ hJ.2.2.1 v1, rK τ hJ.2.2.1, rV τ _ hJ.2.2.1 v2, rK τ hJ.2.2.1, rV τ _ hJ.2.2.1 v3, hJ.1.k, ?_⟩
    rw [hJ.2.2.1.1.2.2]
    refine m_spoke (σ := τ) (ι := q_I τ) (κ := q_L τ) hJ.1 hJ.2.1 ok (fun d => ?_) (fun q' kk' ww' e1' he' e2' hkk' e3' hww' v' hv' => ?_)
    · exact absurd ⟨q, kk, ww, e1, he, e2, hkk, e3, hww⟩ d
    · have hE10 := ok.2.2.1.1
      obtain rfl : q' = q := l_eqS (Nat.le_trans hE10 (by omega)) he e1 he' e1'
      obtain rfl : kk' = kk := l_eqS (n := 4) (by omega) hkk e2 hkk' e2'
      obtain rfl : ww' = ww := l_eqS (n := 3) (by omega) hww e3 hww' e3'
      have hh : v = v' := by
        rcases hv with ⟨a1, a2, a3⟩ | ⟨a1, a2, a3⟩ | ⟨a1, a3⟩ | ⟨a1, a3⟩ <;> rcases hv' with ⟨b1, b2, b3⟩ | ⟨b1, b2, b3⟩ | ⟨b1, b3⟩ | ⟨b1, b3⟩ <;> first | exact a3.trans b3.symm | exact absurd a2 b2 | exact absurd b2 a2 | (exfalso; omega)
      exact l_cI hJ.1.k (m_th_0 (ι := q_I τ) (v := 0)) hJ.2.2.2.1 hJ.2.2.2.2 (fun _ => o.trans (by rw [hh])) (p1457 _ _ _ _ _ _ _ (nx A _ (hJ.fin ok np w (hJ.2.1.th 0) (fun t ht => m_th_o (by omega))) f.2.2.2))
theorem l_stitch {R : q_O → q_S → Prop} {P1460 P1557 P1969 : Nat → Nat → Nat → Nat → Nat → Int32 → q_S → Prop} (p1460 : V_LW_law_1460 R P1460 P1557) (p1557 : V_LW_law_1557 R P1557 P1969) {A : a_A} {L : Nat} {xs : Nat → Int32} {σ : q_S} {k9 i : Nat} (hI : w_I A L xs σ) (hn : q_n σ < 1000000) (hi : i + 11 ≤ L) (hL : L ≤ 5633) (nx : ∀ B τ, w_I B L xs τ → q_n τ ≤ q_n σ + 60 → P1969 k9 10000000 1 14 42 (nI i) τ) : P1460 k9 10000000 1 14 42 (nI i) σ := by
  obtain ⟨ok, np, hC, hS, hM, hR, k42, z42⟩ := id hI
  have hN8 := ok.1.1
  have v1 : vp_in (nI i + 1) L := l_v hi hL 1 (by omega)
  have v2 : vp_in (nI i + 2) L := l_v hi hL 2 (by omega)
  have v3 : vp_in (nI i + 3) L := l_v hi hL 3 (by omega)
  have rK : ∀ τ : q_S, w_R L xs τ → (q_K τ 10000000 = 1000 ∨ q_K τ 10000000 = 2000) := fun τ h => Or.inr h.1.1
  have rV : ∀ (τ : q_S) (k : Int32), w_R L xs τ → vp_in k L → vp_in k (q_Z τ 10000000) := fun τ k h hv => by rw [h.1.2.1]; exact hv
  refine p1460 _ _ _ _ _ _ _ ⟨rK σ hR, rV σ _ hR v1, rK σ hR, rV σ _ hR v2, rK σ hR, rV σ _ hR v3, ?_⟩
  rw [hR.1.2.2]
  refine k_stitch hC ok hn k42 z42 (fun c τ w f => ?_) (fun s K c hs l1 l2 hK hK2 τ w f o => ?_)
  · have hJ := hI.mid f
    refine ⟨rK τ hJ.2.2.1, rV τ _ hJ.2.2.1 v1, rK τ hJ.2.2.1, rV τ _ hJ.2.2.1 v2, rK τ hJ.2.2.1, rV τ _ hJ.2.2.1 v3, hJ.1.k, ?_⟩
    rw [hJ.2.2.1.1.2.2]
    refine m_stitch (σ := τ) (ι := q_I τ) (κ := q_L τ) hJ.1 hJ.2.1 ok (fun d => ?_) (fun s' K' d hs' l1' l2' hK' hK2' => ?_)
    · exact l_cI hJ.1.k (m_th_0 (ι := q_I τ) (v := 1)) hJ.2.2.2.1 hJ.2.2.2.2 (fun e9 => absurd e9 (by decide)) (p1557 _ _ _ _ _ _ _ (nx A _ (hJ.fin ok np w (hJ.2.1.th 1) (fun t ht => m_th_o (by omega))) f.2.2.2))
    · exfalso; omega
  · have hJ := hI.mid f
    refine ⟨rK τ hJ.2.2.1, rV τ _ hJ.2.2.1 v1, rK τ hJ.2.2.1, rV τ _ hJ.2.2.1 v2, rK τ hJ.2.2.1, rV τ _ hJ.2.2.1 v3, hJ.1.k, ?_⟩
    rw [hJ.2.2.1.1.2.2]
    refine m_stitch (σ := τ) (ι := q_I τ) (κ := q_L τ) hJ.1 hJ.2.1 ok (fun d => ?_) (fun s' K' d hs' l1' l2' hK' hK2' => ?_)
    · exfalso; omega
    · obtain rfl : s' = s := by omega
      obtain rfl : K' = K := by
        rcases Nat.lt_trichotomy K' K with q | q | q
        · have := hK K' q; omega
        · exact q
        · have := hK' K q; omega
      exact l_cI hJ.1.k (m_th_0 (ι := q_I τ) (v := 0)) hJ.2.2.2.1 hJ.2.2.2.2 (fun _ => o) (p1557 _ _ _ _ _ _ _ (nx A _ (hJ.fin ok np w (hJ.2.1.th 0) (fun t ht => m_th_o (by omega))) f.2.2.2))
theorem l_hatch {R : q_O → q_S → Prop} {P1560 P1708 P1969 : Nat → Nat → Nat → Nat → Nat → Int32 → q_S → Prop} {P1702 : Nat → Nat → Nat → Nat → Nat → Int32 → Int64 → Int64 → q_S → Prop} (p1560 : V_LW_law_1560 R P1560 P1702 P1708) (p1702 : V_LW_law_1702 R P1702 P1708) (p1708 : V_LW_law_1708 R P1708 P1969) {A : a_A} {L : Nat} {xs : Nat → Int32} {σ : q_S} {k9 i : Nat} (hI : w_I A L xs σ) (hn : q_n σ < 1000000) (hi : i + 11 ≤ L) (hL : L ≤ 5633) (nx : ∀ B τ, w_I B L xs τ → q_n τ ≤ q_n σ + 60 → P1969 k9 10000000 1 14 42 (nI i) τ) : P1560 k9 10000000 1 14 42 (nI i) σ := by
  obtain ⟨ok, np, hC, hS, hM, hR, k42, z42⟩ := id hI
  have hN8 := ok.1.1
  have v1 : vp_in (nI i + 1) L := l_v hi hL 1 (by omega)
  have v2 : vp_in (nI i + 2) L := l_v hi hL 2 (by omega)
  have v3 : vp_in (nI i + 3) L := l_v hi hL 3 (by omega)
  have v4 : vp_in (nI i + 4) L := l_v hi hL 4 (by omega)
  have v5 : vp_in (nI i + 5) L := l_v hi hL 5 (by omega)
  have rK : ∀ τ : q_S, w_R L xs τ → (q_K τ 10000000 = 1000 ∨ q_K τ 10000000 = 2000) := fun τ h => Or.inr h.1.1
  have rV : ∀ (τ : q_S) (k : Int32), w_R L xs τ → vp_in k L → vp_in k (q_Z τ 10000000) := fun τ k h hv => by rw [h.1.2.1]; exact hv
  refine p1560 _ _ _ _ _ _ _ ⟨rK σ hR, rV σ _ hR v1, rK σ hR, rV σ _ hR v2, rK σ hR, rV σ _ hR v3, rK σ hR, rV σ _ hR v4, rK σ hR, rV σ _ hR v5, ?_⟩
  rw [hR.1.2.2]
  refine k_hatch hC ok hn k42 z42 (fun c τ w f => ?_) (fun j hj e c2 τ w f => ?_) (fun j a b hj e ea eb la lb τ w f o => ?_)
  · have hJ := hI.mid f
    refine ⟨rK τ hJ.2.2.1, rV τ _ hJ.2.2.1 v1, rK τ hJ.2.2.1, rV τ _ hJ.2.2.1 v2, rK τ hJ.2.2.1, rV τ _ hJ.2.2.1 v3, rK τ hJ.2.2.1, rV τ _ hJ.2.2.1 v4, rK τ hJ.2.2.1, rV τ _ hJ.2.2.1 v5, hJ.1.k, ?_⟩
    rw [hJ.2.2.1.1.2.2]
    refine m_hatch (σ := τ) (ι := q_I τ) (κ := q_L τ) hJ.1 hJ.2.1 ok (fun d => ?_) (fun j' hj' e' d2 => ?_) (fun j' a' b' hj' e' ea' eb' la' lb' ι' v hw' hfr ht0 ho' => ?_)
    · have hP := p1708 _ _ _ _ _ _ _ (nx A _ (hJ.fin ok np w (hJ.2.1.th 1) (fun t ht => m_th_o (by omega))) f.2.2.2)
      exact l_cB (Q := fun a b => P1702 k9 10000000 1 14 42 (nI i) a b _) hJ.1.k (m_th_0 (ι := q_I τ) (v := 1)) hJ.2.2.2.1 hJ.2.2.2.2 (fun e9 => absurd e9 (by decide)) hP (fun a => p1702 _ _ _ _ _ _ _ _ _ ⟨fun _ => hP, fun c9 => absurd ((lg_cmp_eq a a).mpr rfl) c9⟩)
    · exact (l_no ok c hj' e').elim
    · exact (l_no ok c hj' e').elim
  · have hJ := hI.mid f
    refine ⟨rK τ hJ.2.2.1, rV τ _ hJ.2.2.1 v1, rK τ hJ.2.2.1, rV τ _ hJ.2.2.1 v2, rK τ hJ.2.2.1, rV τ _ hJ.2.2.1 v3, rK τ hJ.2.2.1, rV τ _ hJ.2.2.1 v4, rK τ hJ.2.2.1, rV τ _ hJ.2.2.1 v5, hJ.1.k, ?_⟩
    rw [hJ.2.2.1.1.2.2]
    refine m_hatch (σ := τ) (ι := q_I τ) (κ := q_L τ) hJ.1 hJ.2.1 ok (fun d => ?_) (fun j' hj' e' d2 => ?_) (fun j' a' b' hj' e' ea' eb' la' lb' ι' v hw' hfr ht0 ho' => ?_)
    · exact (l_no ok d hj e).elim
    · obtain rfl := l_eq ok hj e hj' e'
      have hP := p1708 _ _ _ _ _ _ _ (nx A _ (hJ.fin ok np w (hJ.2.1.th 2) (fun t ht => m_th_o (by omega))) f.2.2.2)
      exact l_cB (Q := fun a b => P1702 k9 10000000 1 14 42 (nI i) a b _) hJ.1.k (m_th_0 (ι := q_I τ) (v := 2)) hJ.2.2.2.1 hJ.2.2.2.2 (fun e9 => absurd e9 (by decide)) hP (fun a => p1702 _ _ _ _ _ _ _ _ _ ⟨fun _ => hP, fun c9 => absurd ((lg_cmp_eq a a).mpr rfl) c9⟩)
    · obtain rfl := l_eq ok hj e hj' e'
      exfalso; omega
  · have hJ := hI.mid f
    refine ⟨rK τ hJ.2.2.1, rV τ _ hJ.2.2.1 v1, rK τ hJ.2.2.1, rV τ _ hJ.2.2.1 v2, rK τ hJ.2.2.1, rV τ _ hJ.2.2.1 v3, rK τ hJ.2.2.1, rV τ _ hJ.2.2.1 v4, rK τ hJ.2.2.1, rV τ _ hJ.2.2.1 v5, hJ.1.k, ?_⟩
    rw [hJ.2.2.1.1.2.2]
    refine m_hatch (σ := τ) (ι := q_I τ) (κ := q_L τ) hJ.1 hJ.2.1 ok (fun d => ?_) (fun j' hj' e' d2 => ?_) (fun j' a' b' hj' e' ea' eb' la' lb' ι' v hw' hfr ht0 ho' => ?_)
    · exact (l_no ok d hj e).elim
    · obtain rfl := l_eq ok hj e hj' e'
      exfalso; omega
    · obtain rfl := l_eq ok hj e hj' e'
      obtain rfl : a' = a := by omega
      obtain rfl : b' = b := by omega
      have hh : (v = 0 ∧ q_L τ 42 0 = 0) ∨ (¬ v = 0 ∧ q_L τ 42 0 = 1) := by
        rcases o with ⟨o0, o1, o2⟩ | ⟨o1, o2⟩ <;> rcases ho' with ⟨q0, q1, q2⟩ | ⟨q1, q2⟩
        · exact Or.inl ⟨q2, o2⟩
        · exact absurd ⟨o0, o1⟩ q1
        · exact absurd ⟨q0, q1⟩ o1
        · exact Or.inr ⟨by rw [q2]; decide, o2⟩
      have hP := p1708 _ _ _ _ _ _ _ (nx _ _ (hJ.fin (ok.hat la lb) np.hat w hw' hfr) f.2.2.2)
      exact l_cB (Q := fun a b => P1702 k9 10000000 1 14 42 (nI i) a b _) hJ.1.k ht0 hJ.2.2.2.1 hJ.2.2.2.2 (fun _ => hh) hP (fun a => p1702 _ _ _ _ _ _ _ _ _ ⟨fun _ => hP, fun c9 => absurd ((lg_cmp_eq a a).mpr rfl) c9⟩)
theorem l_changed {R : q_O → q_S → Prop} {P1711 P1969 : Nat → Nat → Nat → Nat → Nat → Int32 → q_S → Prop} (p1711 : V_LW_law_1711 R P1711 P1969) {A : a_A} {L : Nat} {xs : Nat → Int32} {σ : q_S} {k9 i : Nat} (hI : w_I A L xs σ) (hn : q_n σ < 1000000) (hi : i + 11 ≤ L) (hL : L ≤ 5633) (nx : ∀ B τ, w_I B L xs τ → q_n τ ≤ q_n σ + 60 → P1969 k9 10000000 1 14 42 (nI i) τ) : P1711 k9 10000000 1 14 42 (nI i) σ := by
  obtain ⟨ok, np, hC, hS, hM, hR, k42, z42⟩ := id hI
  have hN8 := ok.1.1
  have v1 : vp_in (nI i + 1) L := l_v hi hL 1 (by omega)
  have v2 : vp_in (nI i + 2) L := l_v hi hL 2 (by omega)
  have v3 : vp_in (nI i + 3) L := l_v hi hL 3 (by omega)
  have v4 : vp_in (nI i + 4) L := l_v hi hL 4 (by omega)
  have v5 : vp_in (nI i + 5) L := l_v hi hL 5 (by omega)
  have v6 : vp_in (nI i + 6) L := l_v hi hL 6 (by omega)
  have v7 : vp_in (nI i + 7) L := l_v hi hL 7 (by omega)
  have v8 : vp_in (nI i + 8) L := l_v hi hL 8 (by omega)
  have rK : ∀ τ : q_S, w_R L xs τ → (q_K τ 10000000 = 1000 ∨ q_K τ 10000000 = 2000) := fun τ h => Or.inr h.1.1
  have rV : ∀ (τ : q_S) (k : Int32), w_R L xs τ → vp_in k L → vp_in k (q_Z τ 10000000) := fun τ k h hv => by rw [h.1.2.1]; exact hv
  have k1 : q_K σ 1 = 1 := by
    obtain ⟨pl, rl, f, g, hw⟩ := hC
    exact hw.1.k
  refine p1711 _ _ _ _ _ _ _ ⟨rK σ hR, rV σ _ hR v1, rK σ hR, rV σ _ hR v2, rK σ hR, rV σ _ hR v3, rK σ hR, rV σ _ hR v4, rK σ hR, rV σ _ hR v5, rK σ hR, rV σ _ hR v6, rK σ hR, rV σ _ hR v7, rK σ hR, rV σ _ hR v8, k1, ?_⟩
  rw [hR.1.2.2]
  refine k_changed hC ok (fun W isl pcs fl hall v τ hv w f => ?_)
  have hJ := hI.mid f
  refine ⟨rK τ hJ.2.2.1, rV τ _ hJ.2.2.1 v1, rK τ hJ.2.2.1, rV τ _ hJ.2.2.1 v2, rK τ hJ.2.2.1, rV τ _ hJ.2.2.1 v3, rK τ hJ.2.2.1, rV τ _ hJ.2.2.1 v4, rK τ hJ.2.2.1, rV τ _ hJ.2.2.1 v5, rK τ hJ.2.2.1, rV τ _ hJ.2.2.1 v6, rK τ hJ.2.2.1, rV τ _ hJ.2.2.1 v7, rK τ hJ.2.2.1, rV τ _ hJ.2.2.1 v8, hJ.1.k, ?_⟩
  rw [hJ.2.2.1.1.2.2]
  refine m_changed (σ := τ) (ι := q_I τ) (κ := q_L τ) hJ.1 hJ.2.1 ok hall (fun v' ι' κ' hv' hw' hfr => ?_)
  have hh : v = v' := by
    rcases hv with ⟨a1, a2⟩ | ⟨a1, a2⟩ <;> rcases hv' with ⟨b1, b2⟩ | ⟨b1, b2⟩
    · exact a1.trans b1.symm
    · exact absurd a2 b2
    · exact absurd b2 a2
    · exact a1.trans b1.symm
  exact ⟨fun _ => nx _ _ (hJ.fin ok np w hw' (fun t ht => (hfr t ht).1)) f.2.2.2, fun c => absurd hh c⟩
theorem l_narrow {R : q_O → q_S → Prop} {P1906 P1966 P1969 : Nat → Nat → Nat → Nat → Nat → Int32 → q_S → Prop} {P1960 : Nat → Nat → Nat → Nat → Nat → Int32 → Int64 → Int64 → q_S → Prop} (p1906 : V_LW_law_1906 R P1906 P1960 P1966) (p1960 : V_LW_law_1960 R P1960 P1966) (p1966 : V_LW_law_1966 R P1966 P1969) {A : a_A} {L : Nat} {xs : Nat → Int32} {σ : q_S} {k9 i : Nat} (hI : w_I A L xs σ) (hn : q_n σ < 1000000) (hi : i + 11 ≤ L) (hL : L ≤ 5633) (nx : ∀ B τ, w_I B L xs τ → q_n τ ≤ q_n σ + 60 → P1969 k9 10000000 1 14 42 (nI i) τ) : P1906 k9 10000000 1 14 42 (nI i) σ := by
  obtain ⟨ok, np, hC, hS, hM, hR, k42, z42⟩ := id hI
  have hN8 := ok.1.1
  have v1 : vp_in (nI i + 1) L := l_v hi hL 1 (by omega)
  have rK : ∀ τ : q_S, w_R L xs τ → (q_K τ 10000000 = 1000 ∨ q_K τ 10000000 = 2000) := fun τ h => Or.inr h.1.1
  have rV : ∀ (τ : q_S) (k : Int32), w_R L xs τ → vp_in k L → vp_in k (q_Z τ 10000000) := fun τ k h hv => by rw [h.1.2.1]; exact hv
  refine p1906 _ _ _ _ _ _ _ ⟨rK σ hR, rV σ _ hR v1, ?_⟩
  rw [hR.1.2.2]
  refine k_narrow hC ok np hn k42 z42 (fun c τ w f => ?_) (fun j hj e τ w f o => ?_)
  · have hJ := hI.mid f
    refine ⟨rK τ hJ.2.2.1, rV τ _ hJ.2.2.1 v1, hJ.1.k, ?_⟩
    rw [hJ.2.2.1.1.2.2]
    refine m_narrow (σ := τ) (ι := q_I τ) (κ := q_L τ) hJ.1 hJ.2.1 ok (fun d => ?_) (fun j' hj' e' v hv => ?_)
    · have hP := p1966 _ _ _ _ _ _ _ (nx A _ (hJ.fin ok np w (hJ.2.1.th 1) (fun t ht => m_th_o (by omega))) f.2.2.2)
      exact l_cB (Q := fun a b => P1960 k9 10000000 1 14 42 (nI i) a b _) hJ.1.k (m_th_0 (ι := q_I τ) (v := 1)) hJ.2.2.2.1 hJ.2.2.2.2 (fun e9 => absurd e9 (by decide)) hP (fun a => p1960 _ _ _ _ _ _ _ _ _ ⟨fun _ => hP, fun c9 => absurd ((lg_cmp_eq a a).mpr rfl) c9⟩)
    · exact (l_no ok c hj' e').elim
  · have hJ := hI.mid f
    refine ⟨rK τ hJ.2.2.1, rV τ _ hJ.2.2.1 v1, hJ.1.k, ?_⟩
    rw [hJ.2.2.1.1.2.2]
    refine m_narrow (σ := τ) (ι := q_I τ) (κ := q_L τ) hJ.1 hJ.2.1 ok (fun d => ?_) (fun j' hj' e' v hv => ?_)
    · exact (l_no ok d hj e).elim
    · obtain rfl := l_eq ok hj e hj' e'
      have hh : (v = 0 ∧ q_L τ 42 0 = 0) ∨ (¬ v = 0 ∧ q_L τ 42 0 = 1) := by
        rcases o with ⟨o1, o2⟩ | ⟨o1, o2⟩ <;> rcases hv with ⟨q1, q2⟩ | ⟨q1, q2⟩
        · exact Or.inl ⟨q2, o2⟩
        · exact absurd o1 q1
        · rw [o1] at q1; exact absurd q1 (by decide)
        · exact Or.inr ⟨by rw [q2]; decide, o2⟩
      have hP := p1966 _ _ _ _ _ _ _ (nx A _ (hJ.fin ok np w (hJ.2.1.th 0) (fun t ht => m_th_o (by omega))) f.2.2.2)
      exact l_cB (Q := fun a b => P1960 k9 10000000 1 14 42 (nI i) a b _) hJ.1.k (m_th_0 (ι := q_I τ) (v := 0)) hJ.2.2.2.1 hJ.2.2.2.2 (fun _ => hh) hP (fun a => p1960 _ _ _ _ _ _ _ _ _ ⟨fun _ => hP, fun c9 => absurd ((lg_cmp_eq a a).mpr rfl) c9⟩)
