/-! THE CLASS FILLS -/
/-- a plane's cells -/
def c_pl (σ : q_S) (ν : Nat) : Prop := q_K σ ν = 6 ∧ q_P σ ν 3 = ν + 1 ∧ q_P σ ν 4 = ν + 2 ∧ q_P σ ν 5 = ν + 3 ∧ q_K σ (ν + 1) = 1000 ∧ q_Z σ (ν + 1) = 24 ∧ q_K σ (ν + 2) = 1000 ∧ q_Z σ (ν + 2) = 12 ∧ q_K σ (ν + 3) = 1000 ∧ q_Z σ (ν + 3) = 12 ∧ (q_K σ (ν + 4) = 2 ∧ q_P σ (ν + 4) 0 = ν + 5 ∧ q_K σ (ν + 5) = 1000 ∧ q_Z σ (ν + 5) = 24) ∧ (q_K σ (ν + 6) = 2 ∧ q_P σ (ν + 6) 0 = ν + 7 ∧ q_K σ (ν + 7) = 1000 ∧ q_Z σ (ν + 7) = 24) ∧ ((q_P σ ν 10 = ν + 4 ∧ q_P σ ν 11 = ν + 6) ∨ (q_P σ ν 10 = ν + 6 ∧ q_P σ ν 11 = ν + 4))
def c_cu (σ : q_S) (ν c : Nat) : Prop := (c = ν + 4 ∨ c = ν + 6) ∧ q_K σ c = 2 ∧ q_P σ c 0 = c + 1 ∧ q_K σ (c + 1) = 1000 ∧ q_Z σ (c + 1) = 24
theorem c_pl.tri {σ : q_S} {ν : Nat} (h : c_pl σ ν) : c_cu σ ν (q_P σ ν 11) := by
  obtain ⟨-, -, -, -, -, -, -, -, -, -, h4, h6, h | h⟩ := h
  · rw [h.2]; exact ⟨Or.inr rfl, h6⟩
  · rw [h.2]; exact ⟨Or.inl rfl, h4⟩
theorem c_pl.lat {σ : q_S} {ν : Nat} (h : c_pl σ ν) : c_cu σ ν (q_P σ ν 10) := by
  obtain ⟨-, -, -, -, -, -, -, -, -, -, h4, h6, h | h⟩ := h
  · rw [h.1]; exact ⟨Or.inl rfl, h4⟩
  · rw [h.1]; exact ⟨Or.inr rfl, h6⟩
theorem c_pl.ne {σ : q_S} {ν : Nat} (h : c_pl σ ν) : q_P σ ν 10 ≠ q_P σ ν 11 ∧ q_P σ ν 10 + q_P σ ν 11 = 2 * ν + 10 := by
  obtain ⟨-, -, -, -, -, -, -, -, -, -, h4, h6, h | h⟩ := h
  · rw [h.1, h.2]; omega
  · rw [h.1, h.2]; omega
/-- a plane's numbers; what a filling left -/
def c_pd (A : a_A) (ι : Nat → Nat → Int32) (ν i : Nat) : Prop := ι ν 0 = a_nt A i ∧ ι ν 1 = a_la A i ∧ ι ν 2 = a_rk A i ∧ ι ν 6 = nI (a_oc A i) ∧ ι ν 7 = nI (a_rc A i) ∧ ι ν 8 = nI (a_hs A i) ∧ ι ν 9 = nI (a_hw A i) ∧ (∀ y, y < 24 → ι (ν + 1) y = a_ou A i y) ∧ ∀ k, k < a_oc A i → ι (ν + 2) k = nI (a_ox A i k) ∧ ι (ν + 3) k = nI (a_oy A i k)
def c_cd (ι : Nat → Nat → Int32) (c : Nat) (r : Nat → Int32) (pcs isl : Nat) (fl : Int32) : Prop := (∀ y, y < 24 → ι (c + 1) y = r y) ∧ ι c 1 = nI pcs ∧ ι c 2 = nI isl ∧ ι c 3 = fl
/-- the order of ranks -/
def c_ord (A : a_A) (rl : Nat → Nat) : Prop := (∀ j, j < a_N A → rl j < a_N A) ∧ (∀ i j, i < j → j < a_N A → a_ah A (rl i) (rl j)) ∧ ∀ p, p < a_N A → ∃ j, j < a_N A ∧ rl j = p
def c_P (A : a_A) (σ : q_S) (ι : Nat → Nat → Int32) (pl rl : Nat → Nat) : Prop := (c_L σ 2 (a_N A) pl ∧ q_Z σ (q_P σ 2 0) < 1000 ∧ ι 2 1 = nI (a_N A)) ∧ (c_L σ 3 (a_N A) (fun j => pl (rl j)) ∧ q_Z σ (q_P σ 3 0) < 1000 ∧ ι 3 1 = nI (a_N A)) ∧ c_ord A rl ∧ (∀ i, i < a_N A → c_pl σ (pl i) ∧ 42 < pl i ∧ c_pd A ι (pl i) i ∧ c_cd ι (q_P σ (pl i) 10) (a_fi A i) (a_pc A i) (a_is A i) (a_nw A i)) ∧ ∀ i j, i < a_N A → j < a_N A → i ≠ j → pl i + 8 ≤ pl j ∨ pl j + 8 ≤ pl i
def c_X (A : a_A) (pl f g : Nat → Nat) : Prop := (∀ d, d < a_D A → 42 < f d ∧ ∀ i, i < a_N A → f d < pl i ∨ pl i + 8 ≤ f d) ∧ ∀ e, e < a_E A → 42 < g e ∧ ∀ i, i < a_N A → g e < pl i ∨ pl i + 8 ≤ g e
def c_U (A : a_A) (ι : Nat → Nat → Int32) : Prop := ι 1 0 = nI (a_ly A) ∧ ∀ j, j < 4 → ι 6 j = nI (a_ru A j)
theorem c_D.fr {A : a_A} {σ : q_S} {ι ι' : Nat → Nat → Int32} {f : Nat → Nat} (h : c_D A σ ι f) (h4 : ι' 4 = ι 4) (hf : ∀ i, i < a_D A → ι' (f i) = ι (f i)) : c_D A σ ι' f := by
  refine ⟨h.1, h.2.1, by rw [h4]; exact h.2.2.1, fun i hi => ?_⟩
  rw [hf i hi]; exact h.2.2.2 i hi
theorem c_E.fr {A : a_A} {σ : q_S} {ι ι' : Nat → Nat → Int32} {f : Nat → Nat} (h : c_E A σ ι f) (h4 : ι' 5 = ι 5) (hf : ∀ i, i < a_E A → ι' (f i) = ι (f i)) : c_E A σ ι' f := by
  refine ⟨h.1, h.2.1, by rw [h4]; exact h.2.2.1, fun i hi => ?_⟩
  rw [hf i hi]; exact h.2.2.2 i hi
theorem c_ord.ahead {A : a_A} {rl : Nat → Nat} (h : c_ord A rl) {j p : Nat} (hj : j < a_N A) (hp : p < a_N A) : a_ah A p (rl j) ↔ ∃ i, i < j ∧ rl i = p := by
  constructor
  · intro c
    obtain ⟨i, hi, rfl⟩ := h.2.2 p hp
    rcases Nat.lt_trichotomy i j with c2 | c2 | c2
    · exact ⟨i, c2, rfl⟩
    · subst c2; exact absurd c (fun c => c.irr)
    · exact absurd (h.2.1 j i c2 hi) (fun c3 => c.as c3)
  · rintro ⟨i, hi, rfl⟩
    exact h.2.1 i j hi hj
theorem c_ord.inj {A : a_A} {rl : Nat → Nat} (h : c_ord A rl) {i j : Nat} (hj : j < a_N A) (hij : i < j) : rl i ≠ rl j := fun e => by
  have := h.2.1 i j hij hj
  rw [e] at this
  exact this.irr
theorem v_fillTrials {σ : q_S} {ι : Nat → Nat → Int32} {κ : Nat → Nat → Int64} {A : a_A} {pl rl f g : Nat → Nat} (hc : c_S σ) (hP : c_P A σ ι pl rl) (hD : c_D A σ ι f) (hE : c_E A σ ι g) (hX : c_X A pl f g) (hU : c_U A ι) (ok : a_ok A) (hask : ι 7 0 = 0) {R : q_O → q_S → Prop}
    (h : ∀ (ι' : Nat → Nat → Int32) (W : Nat → Nat → Int32) (isl pcs : Nat → Nat) (fl : Nat → Int32), z_all A W isl pcs fl → (∀ i, i < a_N A → c_cd ι' (q_P σ (pl i) 11) (W i) (pcs i) (isl i) (fl i)) → (∀ a, a ≠ 7 → a ≠ 8 → a ≠ 9 → a ≠ 13 → (∀ i, i < a_N A → a ≠ q_P σ (pl i) 11 ∧ a ≠ q_P σ (pl i) 11 + 1) → ι' a = ι a) → ι' 7 0 = 0 → R (.inl none) (q_put σ ι' κ)) : V_PF_fillTrials 1 (q_put σ ι κ) R := by
  intro P2 P64 p2 p64
  have hN8 := ok.1.1
  obtain ⟨u0, u1, u2, u3, u4⟩ := ok.2.2.2.1
  obtain ⟨⟨l2, z2, s2⟩, ⟨l3, z3, s3⟩, hord, hpl, hdis⟩ := hP
  have htri : ∀ i, i < a_N A → c_cu σ (pl i) (q_P σ (pl i) 11) := fun i hi => (hpl i hi).1.tri
  suffices L : ∀ (d j : Nat) (ι' : Nat → Nat → Int32) (W : Nat → Nat → Int32) (isl pcs : Nat → Nat) (fl : Nat → Int32), j + d = a_N A → (∀ a, a ≠ 7 → a ≠ 8 → a ≠ 9 → a ≠ 13 → (∀ i, i < j → a ≠ q_P σ (pl (rl i)) 11 ∧ a ≠ q_P σ (pl (rl i)) 11 + 1) → ι' a = ι a) → ι' 7 0 = 0 → (∀ i, i < j → z_fp A (rl i) (z_free A (fun p => a_ah A p (rl i)) W (rl i)) (z_in (W (rl i))) (isl (rl i)) (pcs (rl i)) (fl (rl i)) ∧ c_cd ι' (q_P σ (pl (rl i)) 11) (W (rl i)) (pcs (rl i)) (isl (rl i)) (fl (rl i))) → P2 1 (nI j) (q_put σ ι' κ) from L (a_N A) 0 ι (fun _ _ => 0) (fun _ => 0) (fun _ => 0) (fun _ => 0) (by omega) (fun _ _ _ _ _ _ => rfl) hask (fun i hi => by omega)
  intro d
  induction d with
  | zero =>
    intro j ι' W isl pcs fl hj hf h7 hdn
    have hj : j = a_N A := by omega
    subst hj
    have e3 : ι' 3 1 = nI (a_N A) := by
      rw [hf 3 (by omega) (by omega) (by omega) (by omega) (fun i hi => by
        have h1 := hord.1 i hi
        have h2 := (htri _ h1).1
        have h3 := (hpl _ h1).2.1
        omega)]; exact s3
    refine p2 _ _ _ ⟨hc.k, ?_⟩
    simp only [q_put_P, q_put_K, hc.p2]
    refine ⟨l3.1, v_sizeL l3.1 e3 (br_t (nI_le (Nat.le_refl _) (by omega)) ?_)⟩
    refine h ι' W isl pcs fl (fun q hq => ?_) (fun q hq => ?_) (fun a a1 a2 a3 a4 a5 => hf a a1 a2 a3 a4 fun i hi => a5 _ (hord.1 i hi)) h7
    · obtain ⟨i, hi, rfl⟩ := hord.2.2 q hq
      exact (hdn i hi).1
    · obtain ⟨i, hi, rfl⟩ := hord.2.2 q hq
      exact (hdn i hi).2
  | succ d ih =>
    intro j ι' W isl pcs fl hj hf h7 hdn
    have hjN : j < a_N A := by omega
    have hqN := hord.1 j hjN
    generalize hq : rl j = q at hqN
    obtain ⟨hcp, hν42, hpd, -⟩ := hpl q hqN
    have hcu := htri q hqN
    have hfa : ∀ a, a ≠ 7 → a ≠ 8 → a ≠ 9 → a ≠ 13 → (∀ i, i < a_N A → a ≠ pl i + 4 ∧ a ≠ pl i + 5 ∧ a ≠ pl i + 6 ∧ a ≠ pl i + 7) → ι' a = ι a := fun a a1 a2 a3 a4 a5 => hf a a1 a2 a3 a4 fun i hi => by
      have h1 := hord.1 i (by omega)
      have h2 := (htri _ h1).1
      have h3 := a5 _ h1
      omega
    generalize hν : pl q = ν at hcp hν42 hpd hcu
    generalize hce : q_P σ ν 11 = c at hcu
    obtain ⟨hc46, hcK, hcP, htK, htZ⟩ := hcu
    have hνK := hcp.1
    have hdisν : ∀ i, i < a_N A → i ≠ q → pl i + 8 ≤ ν ∨ ν + 8 ≤ pl i := fun i hi hne => by
      have := hdis i q hi hqN hne
      rw [hν] at this; exact this
    have hlow : ∀ a, a ≤ 42 → a ≠ 7 → a ≠ 8 → a ≠ 9 → a ≠ 13 → ι' a = ι a := fun a a0 a1 a2 a3 a4 => hfa a a1 a2 a3 a4 fun i hi => by
      have := (hpl i hi).2.1; omega
    have hν' : ι' ν = ι ν := hfa ν (by omega) (by omega) (by omega) (by omega) fun i hi => by
      by_cases c : i = q
      · rw [c, hν]; omega
      · have := hdisν i hi c; omega
    have hν1 : ι' (ν + 1) = ι (ν + 1) := hfa (ν + 1) (by omega) (by omega) (by omega) (by omega) fun i hi => by
      by_cases c : i = q
      · rw [c, hν]; omega
      · have := hdisν i hi c; omega
    have hD' : c_D A σ ι' f := hD.fr (hlow 4 (by omega) (by omega) (by omega) (by omega) (by omega)) fun i hi => hfa (f i) (by have := (hX.1 i hi).1; omega) (by have := (hX.1 i hi).1; omega) (by have := (hX.1 i hi).1; omega) (by have := (hX.1 i hi).1; omega) fun k hk => by have := (hX.1 i hi).2 k hk; omega
    have hE' : c_E A σ ι' g := hE.fr (hlow 5 (by omega) (by omega) (by omega) (by omega) (by omega)) fun i hi => hfa (g i) (by have := (hX.2 i hi).1; omega) (by have := (hX.2 i hi).1; omega) (by have := (hX.2 i hi).1; omega) (by have := (hX.2 i hi).1; omega) fun k hk => by have := (hX.2 i hi).2 k hk; omega
    have h6 : ∀ k, k < 4 → ι' 6 k = nI (a_ru A k) := fun k hk => by rw [hlow 6 (by omega) (by omega) (by omega) (by omega) (by omega)]; exact hU.2 k hk
    have tfD : ∀ i, i < a_D A → f i ≠ c + 1 := fun i hi => by have := (hX.1 i hi).2 q hqN; rw [hν] at this; omega
    have tfE : ∀ i, i < a_E A → g i ≠ c + 1 := fun i hi => by have := (hX.2 i hi).2 q hqN; rw [hν] at this; omega
    have tfEc : ∀ i, i < a_E A → g i ≠ c := fun i hi => by have := (hX.2 i hi).2 q hqN; rw [hν] at this; omega
    have n0 : ι' ν 0 = a_nt A q := by rw [hν']; exact hpd.1
    have n1 : ι' ν 1 = a_la A q := by rw [hν']; exact hpd.2.1
    have n8 : ι' ν 8 = nI (a_hs A q) := by rw [hν']; exact hpd.2.2.2.2.2.1
    have n9 : ι' ν 9 = nI (a_hw A q) := by rw [hν']; exact hpd.2.2.2.2.2.2.1
    have hou : ∀ y, y < 24 → ι' (ν + 1) y = a_ou A q y := fun y hy => by rw [hν1]; exact hpd.2.2.2.2.2.2.2.1 y hy
    have e3 : ι' 3 1 = nI (a_N A) := by rw [hlow 3 (by omega) (by omega) (by omega) (by omega) (by omega)]; exact s3
    obtain ⟨hs16, hwh, -⟩ := ok.1.2 q hqN
    have d24 : (24 : Int32).toNatClampNeg = 24 := by decide
    have d0 : (0 : Int32).toNatClampNeg = 0 := by decide
    have d00 : ¬ (0 : Int32) < 0 := by decide
    have d240 : ¬ (24 : Int32) < 0 := by decide
    have d24l : 0 + 24 ≤ 24 := by omega
    have ν3 := hcp.2.1
    have ν1K := hcp.2.2.2.2.1
    have ν1Z := hcp.2.2.2.2.2.1
    refine p2 _ _ _ ⟨hc.k, ?_⟩
    simp only [q_put_P, q_put_K, hc.p2]
    refine ⟨l3.1, v_sizeL l3.1 e3 (br_f (nI_ge (by omega) (by omega)) ?_)⟩
    simp only [q_put_P, q_put_K, hc.k, hc.p2, l3.1, true_and]
    refine v_getL l3 e3 hjN (by omega) z3 ?_
    rw [show pl (rl j) = ν by rw [hq, hν]]
    simp only [q_cr, q_put_P, q_put_K, q_put_Z, q_put_I, hνK, hce, hcK, hcP, htK, htZ, ν3, ν1K, ν1Z, d24, d0, d00, d240, d24l, not_false_eq_true, true_and, forall_eq, q_put_sI, hc.k]
    generalize hr0 : va_cpy (ι' (ν + 1)) (ι' (c + 1)) 0 0 24 = r0
    have hr0in : z_in r0 = z_in (a_ou A q) := z_in_congr fun y hy => by
      rw [← hr0, pk_cpy_in (by omega) (by omega), show 0 + (y - 0) = y by omega]
      exact hou y hy
    refine v_takeOffDiscs hc hD' ok.2.1 (by omega) tfD (by omega) (by omega) htK htZ hνK n0 n1 (h6 0 (by omega)) u0 ?_
    refine ⟨hc.k, v_takeOffPads hc hE' ok.2.2.1 (by omega) tfE (by omega) (by omega) htK htZ hνK n0 n1 (h6 0 (by omega)) (h6 1 (by omega)) u0 u1 ?_⟩
    generalize hr1 : z_rws (fun x y => z_in r0 x y ∧ ¬ z_db A q x y) r0 = r1
    generalize hr2 : z_rws (fun x y => z_in r1 x y ∧ ¬ z_eb A q x y) r1 = r2
    have hr2in : ∀ x y, z_in r2 x y ↔ z_in (a_ou A q) x y ∧ ¬ z_db A q x y ∧ ¬ z_eb A q x y := fun x y => by
      rw [← hr2, z_rws_in, ← hr1, z_rws_in, hr0in]
      constructor
      · rintro ⟨-, -, ⟨-, -, c1, c2⟩, c3⟩; exact ⟨c1, c2, c3⟩
      · rintro ⟨c1, c2, c3⟩; exact ⟨b_lt c1.2, c1.1, ⟨b_lt c1.2, c1.1, c1, c2⟩, c3⟩
    suffices LA : ∀ (e i : Nat) (r : Nat → Int32), i + e = j → (∀ x y, z_in r x y ↔ z_in r2 x y ∧ ¬ ∃ k, k < i ∧ a_la A (rl k) = a_la A q ∧ ¬ a_nt A (rl k) = a_nt A q ∧ z_nb (a_ru A 0) (W (rl k)) x y) → P64 1 (nI j) ν (c + 1) (nI i) (q_put σ (va_up ι' (c + 1) r) κ) from LA j 0 r2 (by omega) fun x y => ⟨fun c1 => ⟨c1, by rintro ⟨k, c2, -⟩; omega⟩, fun c1 => c1.1⟩
    intro e
    induction e with
    | succ e ih2 =>
      intro i r hi hr
      have hiN : i < a_N A := by omega
      have hpN := hord.1 i hiN
      have hne : rl i ≠ q := by rw [← hq]; exact hord.inj hjN (by omega)
      have hcu2 := htri _ hpN
      have hd2 := hdisν _ hpN hne
      obtain ⟨hcp2, hμ42, hpd2, -⟩ := hpl _ hpN
      obtain ⟨-, hcd2⟩ := hdn i (by omega)
      generalize hμ : pl (rl i) = μ at hcu2 hd2 hcp2 hμ42 hpd2 hcd2
      have hμ' : ι' μ = ι μ := hfa μ (by omega) (by omega) (by omega) (by omega) fun k hk => by
        by_cases c3 : k = rl i
        · rw [c3, hμ]; omega
        · have := hdis k (rl i) hk hpN c3
          rw [hμ] at this; omega
      obtain ⟨hw46, hwcK, hwcP, hwK, hwZ⟩ := hcu2
      have e3' : va_up ι' (c + 1) r 3 1 = nI (a_N A) := by rw [up_n (by omega)]; exact e3
      refine p64 _ _ _ _ _ _ (pk_le j i (fun c3 => by omega) (fun _ => ?_))
      simp only [q_put_P, q_put_K, hc.k, hc.p2, l3.1, true_and]
      refine v_getL l3 e3' hiN (by omega) z3 ?_
      rw [show pl (rl i) = μ from hμ]
      refine ⟨hcp2.1, hc.k, v_takeOffAhead (c := q_P σ μ 11) (wt := q_P σ μ 11 + 1) (g := a_ru A 0) hc hcp2.1 hνK (by omega) (by omega) (by omega) rfl hwcK hwcP hwK hwZ (by omega) htK htZ (h6 0 (by omega)) u0 ?_⟩
      intro v33 e33
      rw [e33, nI_1]
      refine ih2 (i + 1) _ (by omega) fun x y => ?_
      have ew : z_in (ι' (q_P σ μ 11 + 1)) = z_in (W (rl i)) := z_in_congr fun y hy => hcd2.1 y hy
      have enb : z_nb (a_ru A 0) (ι' (q_P σ μ 11 + 1)) x y ↔ z_nb (a_ru A 0) (W (rl i)) x y := by
        unfold z_nb; rw [ew]
      rw [z_rws_in, hr, enb, hμ', hν', hpd2.1, hpd2.2.1, hpd.1, hpd.2.1]
      constructor
      · rintro ⟨-, -, ⟨c3, c4⟩, c5⟩
        refine ⟨c3, ?_⟩
        rintro ⟨k, c6, c7⟩
        rcases Nat.lt_or_ge k i with c8 | c8
        · exact c4 ⟨k, c8, c7⟩
        · have : k = i := by omega
          subst this; exact c5 c7
      · rintro ⟨c3, c4⟩
        refine ⟨b_lt c3.2, c3.1, ⟨c3, ?_⟩, fun c5 => c4 ⟨i, by omega, c5⟩⟩
        rintro ⟨k, c6, c7⟩
        exact c4 ⟨k, by omega, c7⟩
    | zero =>
      intro i r3 hi hr3
      have hi : i = j := by omega
      subst hi
      refine p64 _ _ _ _ _ _ (br_t (nI_le (Nat.le_refl _) (by omega)) ⟨hνK, hc.k, ?_⟩)
      refine v_takeOffNecks (n := a_ru A 2) hc htK htZ (by omega) (by omega) (h6 2 (by omega)) u2 u3 (fun s fl2 hfl => ?_)
      refine ⟨hfl.imp (fun c1 => c1.1) (fun c1 => c1.1), ?_⟩
      simp only [q_put_P, q_put_K, hce, hcK, true_and, forall_eq, q_put_wI]
      generalize hr4 : z_rws (z_nk (a_ru A 2) r3) r3 = r4
      rw [up_n (show c ≠ 13 by omega), up_n (show c ≠ c + 1 by omega), up_sw (show c + 1 ≠ 13 by omega), up_sw (show c + 1 ≠ c by omega)]
      generalize hι0 : va_up (va_up ι' 13 s) c (va_up (ι' c) 3 fl2) = ι0
      have f0 : ∀ a, a ≠ 13 → a ≠ c → ι0 a = ι' a := fun a a1 a2 => by rw [← hι0, up_n a2, up_n a1]
      have f0c : ι0 c = va_up (ι' c) 3 fl2 := by rw [← hι0, up_s]
      have hν0 : ι0 ν = ι' ν := f0 ν (by omega) (by omega)
      refine v_takeOffHatching hνK (by omega) htK htZ (by rw [hν0]; exact n8) (by rw [hν0]; exact n9) hs16 hwh ?_
      generalize hr5 : z_rws (fun x y => z_in r4 x y ∧ z_hc (a_hs A q) (a_hw A q) x y) r4 = r5
      generalize hι1 : va_up ι0 (c + 1) r5 = ι1
      have f1 : ∀ a, a ≠ c + 1 → ι1 a = ι0 a := fun a a1 => by rw [← hι1, up_n a1]
      have f1t : ι1 (c + 1) = r5 := by rw [← hι1, up_s]
      have f01 : ∀ a, a ≠ 13 → a ≠ c → a ≠ c + 1 → ι1 a = ι' a := fun a a1 a2 a3 => by rw [f1 a a3, f0 a a1 a2]
      have hE1 : c_E A σ ι1 g := hE'.fr (f01 5 (by omega) (by omega) (by omega)) fun k hk => f01 (g k) (by have := (hX.2 k hk).1; omega) (tfEc k hk) (tfE k hk)
      refine ⟨hc.k, v_takeOffIslands hc hE1 ok.2.2.1 hνK (by rw [f01 ν (by omega) (by omega) (by omega)]; exact n0) (by rw [f01 ν (by omega) (by omega) (by omega)]; exact n1) hce hcK hcP htK htZ (by rw [f01 7 (by omega) (by omega) (by omega)]; exact h7) (by rw [f01 6 (by omega) (by omega) (by omega)]; exact h6 3 (by omega)) u4 (by omega) (by omega) (by omega) (by omega) (by omega) tfEc tfE (fun k hk => by have := (hX.2 k hk).1; omega) (by omega) (fun ι2 N hN hN7 g1 g2 g3 g4 g5 g6 => ?_)⟩
      rw [f1t] at hN g3 g4 g5
      show P2 1 (nI i + 1) (q_put σ ι2 κ)
      rw [nI_1]
      have hS : z_in r3 = z_free A (fun p => a_ah A p q) (va_up W q (ι2 (c + 1))) q := z_eqset fun x y => by
        rw [hr3, hr2in]
        unfold z_free z_pl
        constructor
        · rintro ⟨⟨c1, c2, c3⟩, c4⟩
          refine ⟨c1, c2, c3, ?_⟩
          rintro ⟨p, d1, d2, d3, d4, d5⟩
          rw [← hq] at d2
          obtain ⟨k, k1, rfl⟩ := (hord.ahead hjN d1).mp d2
          rw [up_n (by rw [← hq]; exact hord.inj hjN k1)] at d5
          exact c4 ⟨k, k1, d3, d4, d5⟩
        · rintro ⟨c1, c2, c3, c4⟩
          refine ⟨⟨c1, c2, c3⟩, ?_⟩
          rintro ⟨k, k1, d3, d4, d5⟩
          refine c4 ⟨rl k, hord.1 k (by omega), ?_, d3, d4, ?_⟩
          · rw [← hq]; exact hord.2.1 k i k1 hjN
          · rw [up_n (by rw [← hq]; exact hord.inj hjN k1)]; exact d5
      have hfp := z_fp_of (A := A) (q := q) (r1 := r4) (r2 := r5) hS (by rw [hr4]) (by rw [hr5]) hN hfl (ι2 (c + 1)) (by rw [g3])
      refine ih (i + 1) ι2 (va_up W q (ι2 (c + 1))) (va_up isl q (z_cb (z_bad A q) (z_in r5) N)) (va_up pcs q (N - z_cb (z_bad A q) (z_in r5) N)) (va_up fl q fl2) (by omega) (fun a a1 a2 a3 a4 a5 => ?_) g2 (fun k hk => ?_)
      · have h9 := a5 i (by omega)
        rw [hq, hν, hce] at h9
        rw [g1 a a1 a2 a3 h9.1 h9.2, f01 a a4 h9.1 h9.2]
        exact hf a a1 a2 a3 a4 fun k hk => a5 k (by omega)
      · rcases Nat.lt_or_ge k i with c1 | c1
        · have hne : rl k ≠ q := by rw [← hq]; exact hord.inj hjN c1
          have hkN := hord.1 k (by omega)
          rw [up_n hne, up_n hne, up_n hne, up_n hne]
          obtain ⟨d1, d2⟩ := hdn k c1
          have hd2 := hdisν _ hkN hne
          have hcu2 := (htri _ hkN).1
          have hk42 := (hpl _ hkN).2.1
          have e5 : ∀ a, a = q_P σ (pl (rl k)) 11 ∨ a = q_P σ (pl (rl k)) 11 + 1 → ι2 a = ι' a := fun a ha => by
            rw [g1 a (by omega) (by omega) (by omega) (by omega) (by omega), f01 a (by omega) (by omega) (by omega)]
          refine ⟨?_, ?_⟩
          · have e : z_free A (fun p => a_ah A p (rl k)) (va_up W q (ι2 (c + 1))) (rl k) = z_free A (fun p => a_ah A p (rl k)) W (rl k) := z_free_congr (fun _ _ => Iff.rfl) fun p hp hah => by
              rw [up_n]
              intro c2
              rw [c2, ← hq] at hah
              exact hah.as (hord.2.1 k i c1 hjN)
            rw [e]; exact d1
          · unfold c_cd
            rw [e5 _ (Or.inl rfl), e5 _ (Or.inr rfl)]
            exact d2
        · have : k = i := by omega
          subst this
          rw [hq, up_s, up_s, up_s, up_s, hν, hce]
          refine ⟨hfp, fun y _ => rfl, g4, g5, ?_⟩
          rw [g6, f1 c (by omega), f0c, up_s]
