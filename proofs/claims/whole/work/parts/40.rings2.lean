/-! PIECES AND RINGS OF THE CLASS, further -/
/-- how many pieces there are -/
def z_np (S : Nat → Nat → Prop) (N : Nat) : Prop := (∀ j, j < N → z_ne (z_it False j S)) ∧ ¬ z_ne (z_it False N S)
theorem z_np.uniq {S : Nat → Nat → Prop} {N M : Nat} (h : z_np S N) (h' : z_np S M) : N = M := by
  rcases Nat.lt_trichotomy N M with q | q | q
  · exact absurd (h'.1 N q) h.2
  · exact q
  · exact absurd (h.1 M q) h'.2
theorem v_takePiece {σ : q_S} {ι : Nat → Nat → Int32} {κ : Nat → Nat → Int64} {X g ρ γ p c t N : Nat} {x2 : Int32} (hX : q_K σ X = 1) (hXg : q_P σ X 6 = g) (hg : q_gr σ g ρ γ) (hp : q_K σ p = 6) (hpc : q_P σ p 10 = c) (hc : q_K σ c = 2) (hct : q_P σ c 0 = t) (htK : q_K σ t = 1000) (htZ : q_Z σ t = 24) (hask : ι g 0 = 0) (hN : ι c 1 = nI N) (hnp : z_np (z_in (ι t)) N) (hN7 : N ≤ 768) {R : q_O → q_S → Prop}
    (h0 : (x2 < 0 ∨ nI N ≤ x2) → R (.inl (some (.inl 0))) (q_put σ ι κ))
    (h1 : ∀ j, x2 = nI j → j < N → ∀ ι' : Nat → Nat → Int32, z_fr ι ι' g ρ γ → z_in (ι' γ) = z_fc False (z_it False j (z_in (ι t))) → R (.inl (some (.inl 1))) (q_put σ ι' κ)) : V_PF_takePiece X p x2 (q_put σ ι κ) R := by
  subst hXg hpc hct
  intro P15 P36 P60 h15 h36 h60
  have hF : (¬ ι (q_P σ X 6) 0 = 0) = False := by rw [hask]; simp
  have e36 : ∀ j, x2 = nI j → j < N → ∀ d n (ι' : Nat → Nat → Int32), n + d = j + 1 → z_fr ι ι' (q_P σ X 6) ρ γ → z_GS ι' (q_P σ X 6) ρ γ → z_in (ι' ρ) = z_it False n (z_in (ι (q_P σ (q_P σ p 10) 0))) → (0 < n → z_in (ι' γ) = z_fc False (z_it False (n - 1) (z_in (ι (q_P σ (q_P σ p 10) 0))))) → P36 X x2 1 (nI n) (q_put σ ι' κ) := by
    intro j hj hjN d
    induction d with
    | zero =>
      intro n ι' hn q1 q2 q3 q4
      refine h36 _ _ _ _ _ (pk_lt j n (fun _ => h60 _ _ ⟨Or.inr rfl, h1 j hj hjN ι' q1 ?_⟩) (fun q => by omega) hj)
      rw [q4 (by omega), show n - 1 = j by omega]
    | succ d ih =>
      intro n ι' hn q1 q2 q3 q4
      refine h36 _ _ _ _ _ (pk_lt j n (fun q => by omega) (fun _ => br_f (by decide) ⟨hX, hg.1, ?_⟩) hj)
      have ha : ι' (q_P σ X 6) 0 = ι (q_P σ X 6) 0 := q1.2 0 (by decide) (by decide)
      refine v_nextS hg q2 (fun w ι2 w1 w2 w3 => ?_) (fun w ι2 k l w1 w2 w3 w4 w5 w6 w7 w8 w9 w10 w11 w12 => ?_)
      · rw [q3] at w
        exact absurd (hnp.1 n (by omega)) w
      · rw [ha, hF, q3] at w10 w11
        intro v9 e9
        rw [nI_1] at e9
        rw [e9]
        exact ih (n + 1) ι2 (by omega) (q1.tr w1) w9 (by rw [z_it_s]; exact w11) (fun _ => by rw [Nat.add_sub_cancel]; exact w10)
  rcases pk_ix x2 (n := N) (by omega) with q | q | ⟨j, q1, q2⟩
  · exact br_t q (h15 _ (h0 (Or.inl q)))
  · refine br_c (fun z => h15 _ (h0 (Or.inl z))) (fun z => ⟨hp, hc, br_f ?_ (h15 _ (h0 (Or.inr q)))⟩)
    show ¬ x2 < ι (q_P σ p 10) 1
    rw [hN]
    exact Int32.not_lt.mpr q
  · refine br_f (by rw [q2]; exact nI_pos (by omega)) ⟨hp, hc, br_t ?_ ⟨hX, hp, hc, hg.1, ?_⟩⟩
    · show x2 < ι (q_P σ p 10) 1
      rw [hN, q2]
      exact nI_lt q1 (by omega)
    · refine v_start hg htK htZ (fun ι' w1 w2 w3 => ?_)
      exact e36 j q2 q1 (j + 1) 0 ι' (by omega) w1 w2 (z_in_congr w3) (fun z => by omega)
/-- a piece's own ring -/
def z_eg (r : Nat → Int32) (y : Nat) : Int32 := r y &&& (((((r y <<< ((1 : Int32) &&& 31)) &&& (q_ushr (r y) (1 : Int32))) &&& (if y < 23 then r (y + 1) else 0)) &&& (if 0 < y then r (y - 1) else 0)) ^^^ (-1 : Int32))
theorem v_takeEdge {σ : q_S} {ι : Nat → Nat → Int32} {κ : Nat → Nat → Int64} {X g ρ γ sp : Nat} (hX : q_K σ X = 1) (hXg : q_P σ X 6 = g) (hg : q_gr σ g ρ γ) (hsp : q_P σ X 8 = sp) (hspK : q_K σ sp = 1000) (hspZ : q_Z σ sp = 24) (hne : γ ≠ sp) {R : q_O → q_S → Prop}
    (h : ∀ ι' : Nat → Nat → Int32, (∀ a, a ≠ sp → ι' a = ι a) → (∀ y, y < 24 → ι' sp y = z_eg (ι γ) y) → R (.inl none) (q_put σ ι' κ)) : V_PF_takeEdge X (q_put σ ι κ) R := by
  subst hXg hsp
  obtain ⟨hK, hρ, hγ, hKr, hKg, hZr, hZg, hργ⟩ := hg
  have hi : ∀ j : Nat, j < 24 → vp_in (nI j) (q_Z σ γ) := fun j hj => by rw [hZg]; exact vp_in_nI hj (by decide)
  have his : ∀ j : Nat, j < 24 → vp_in (nI j) (q_Z σ (q_P σ X 8)) := fun j hj => by rw [hspZ]; exact vp_in_nI hj (by decide)
  intro P10 P35 P50 h10 h35 h50
  have e10 : ∀ d y (ι' : Nat → Nat → Int32), y + d = 24 → (∀ a, a ≠ q_P σ X 8 → ι' a = ι a) → (∀ j, j < y → ι' (q_P σ X 8) j = z_eg (ι γ) j) → P10 X γ (nI y) (q_put σ ι' κ) := by
    intro d
    induction d with
    | zero =>
      intro y ι' hy ho hr
      exact h10 _ _ _ _ (pk_le 24 y (fun _ => h ι' ho (fun j hj => hr j (by omega))) (fun q => by omega))
    | succ d ih =>
      intro y ι' hy ho hr
      have eg : ∀ j, j < 24 → q_I (q_put σ ι' κ) γ (nI j).toNatClampNeg = ι γ j := fun j hj => by
        rw [nI_clamp (by omega)]
        show ι' γ j = ι γ j
        rw [ho γ hne]
      refine h10 _ _ _ _ (pk_le 24 y (fun q => by omega) (fun _ => ⟨Or.inl hKg, hi y (by omega), fun v2 e2 => ?_⟩))
      rw [eg y (by omega)] at e2
      subst e2
      have e50 : ∀ up dn : Int32, up = (if y < 23 then ι γ (y + 1) else 0) → dn = (if 0 < y then ι γ (y - 1) else 0) → P50 X γ (nI y) (ι γ y) up dn (q_put σ ι' κ) := by
        intro up dn u1 u2
        refine h50 _ _ _ _ _ _ _ ⟨hX, hspK, his y (by omega), fun σ1 e1 v5 e5 => ?_⟩
        rw [nI_clamp (by omega)] at e1
        rw [nI_1] at e5
        subst e1
        rw [e5]
        refine ih (y + 1) (va_up ι' (q_P σ X 8) (va_up (ι' (q_P σ X 8)) y (ι γ y &&& (((((ι γ y <<< ((1 : Int32) &&& 31)) &&& (q_ushr (ι γ y) (1 : Int32))) &&& up) &&& dn) ^^^ (-1 : Int32))))) (by omega) (fun a z => by rw [up_n z]; exact ho a z) (fun j hj => ?_)
        rw [up_s]
        by_cases e : j = y
        · rw [e, up_s]
          unfold z_eg
          rw [u1, u2]
        · rw [up_n e]; exact hr j (by omega)
      have e35 : ∀ up : Int32, up = (if y < 23 then ι γ (y + 1) else 0) → P35 X γ (nI y) (ι γ y) up (q_put σ ι' κ) := by
        intro up u1
        refine h35 _ _ _ _ _ _ (pk_le y 0 (fun q => e50 up 0 u1 (by rw [if_neg (by omega)])) (fun q => ?_))
        have e1 : nI y - 1 = nI (y - 1) := pk_sub (b := 1) (by omega)
        refine ⟨Or.inl hKg, by rw [e1]; exact hi (y - 1) (by omega), ?_⟩
        rw [e1, eg (y - 1) (by omega)]
        exact e50 up _ u1 (by rw [if_pos q])
      refine pk_le 23 y (fun q => e35 0 (by rw [if_neg (by omega)])) (fun q => ?_)
      refine ⟨Or.inl hKg, by rw [nI_1]; exact hi (y + 1) (by omega), ?_⟩
      rw [nI_1, eg (y + 1) (by omega)]
      exact e35 _ (by rw [if_pos q])
  refine ⟨hX, hK, fun v1 e1 => ?_⟩
  have e1' : v1 = γ := e1.trans hγ
  rw [e1']
  exact e10 24 0 ι (by omega) (fun _ _ => rfl) (fun j hj => by omega)
/-- after j holes; the j-th hole -/
def z_hk (S : Nat → Nat → Prop) : Nat → (Nat → Nat → Prop) → Prop
  | 0, S' => S' = S
  | j + 1, S' => ∃ S1 n, z_hk S j S1 ∧ z_hf S1 n ∧ S' = z_it True (n + 1) S1
def z_hp (S : Nat → Nat → Prop) (j : Nat) (G : Nat → Nat → Prop) : Prop := ∃ S1 n, z_hk S j S1 ∧ z_hf S1 n ∧ G = z_fc True (z_it True n S1)
theorem z_hk.uniq {S : Nat → Nat → Prop} : ∀ {j : Nat} {A B : Nat → Nat → Prop}, z_hk S j A → z_hk S j B → A = B := by
  intro j
  induction j with
  | zero => intro A B h h'; exact h.trans h'.symm
  | succ j ih =>
    rintro A B ⟨S1, n, h1, h2, h3⟩ ⟨S2, m, k1, k2, k3⟩
    have e := ih h1 k1
    subst e
    have e2 := h2.uniq k2
    subst e2
    rw [h3, k3]
theorem z_hp.uniq {S : Nat → Nat → Prop} {j : Nat} {A B : Nat → Nat → Prop} (h : z_hp S j A) (h' : z_hp S j B) : A = B := by
  obtain ⟨S1, n, h1, h2, h3⟩ := h
  obtain ⟨S2, m, k1, k2, k3⟩ := h'
  have e := h1.uniq k1
  subst e
  have e2 := h2.uniq k2
  subst e2
  rw [h3, k3]
/-- no more holes after j -/
def z_he (S : Nat → Nat → Prop) (j : Nat) : Prop := ∃ S1, z_hk S j S1 ∧ z_hn S1
theorem z_hk.le {S : Nat → Nat → Prop} : ∀ {j i : Nat} {A : Nat → Nat → Prop}, z_hk S j A → i < j → ∃ S1 n, z_hk S i S1 ∧ z_hf S1 n := by
  intro j
  induction j with
  | zero => intro i A _ hi; omega
  | succ j ih =>
    rintro i A ⟨S1, n, h1, h2, h3⟩ hi
    by_cases e : i = j
    · subst e; exact ⟨S1, n, h1, h2⟩
    · exact ih h1 (by omega)
theorem z_he.no {S : Nat → Nat → Prop} {j i : Nat} {A : Nat → Nat → Prop} (h : z_he S j) (hA : z_hk S i A) (hi : j < i) : False := by
  obtain ⟨S1, h1, h2⟩ := h
  obtain ⟨S2, n, k1, k2⟩ := hA.le hi
  have e := h1.uniq k1
  subst e
  exact k2.nn h2
theorem z_he.uniq {S : Nat → Nat → Prop} {j i : Nat} (h : z_he S j) (h' : z_he S i) : j = i := by
  rcases Nat.lt_trichotomy j i with q | q | q
  · obtain ⟨S1, h1, _⟩ := h'
    exact (h.no h1 q).elim
  · exact q
  · obtain ⟨S1, h1, _⟩ := h
    exact (h'.no h1 q).elim
theorem z_hp.ne {S : Nat → Nat → Prop} {j i : Nat} {G : Nat → Nat → Prop} (h : z_hp S i G) (h' : z_he S j) (hji : j ≤ i) : False := by
  obtain ⟨S1, n, h1, h2, _⟩ := h
  rcases Nat.lt_or_ge j i with q | q
  · exact h'.no h1 q
  · have e : i = j := by omega
    subst e
    obtain ⟨S2, k1, k2⟩ := h'
    have e := h1.uniq k1
    subst e
    exact h2.nn k2
/-- the board without a set of cells -/
def z_co (G : Nat → Nat → Prop) : Nat → Nat → Prop := fun x y => x < 32 ∧ y < 24 ∧ ¬ G x y
theorem z_in_not {r : Nat → Int32} : z_in (fun y => r y ^^^ (-1)) = z_co (z_in r) := z_eqset fun x y => by
  unfold z_in z_co
  rw [b_not]
  simp only [Bool.and_eq_true, decide_eq_true_eq, Bool.not_eq_true']
  constructor
  · rintro ⟨h1, h2, h3⟩
    exact ⟨h2, h1, fun z => by rw [h3] at z; cases z.2⟩
  · rintro ⟨h1, h2, h3⟩
    refine ⟨h2, h1, ?_⟩
    cases e : bt (r y) x
    · rfl
    · exact absurd ⟨h2, e⟩ h3
theorem v_takeRing {σ : q_S} {ι : Nat → Nat → Int32} {κ : Nat → Nat → Int64} {X g ρ γ g2 ρ2 γ2 sp : Nat} {x1 : Int32} (hX : q_K σ X = 1) (hXg : q_P σ X 6 = g) (hg : q_gr σ g ρ γ) (hXg2 : q_P σ X 7 = g2) (hg2 : q_gr σ g2 ρ2 γ2) (hsp : q_P σ X 8 = sp) (hspK : q_K σ sp = 1000) (hspZ : q_Z σ sp = 24) (hne : γ ≠ sp) (hγρ : γ ≠ ρ2) (hask : ¬ ι g2 0 = 0) {R : q_O → q_S → Prop}
    (h0 : x1 < 0 → R (.inl (some (.inl 0))) (q_put σ ι κ))
    (hE : x1 = 0 → ∀ ι' : Nat → Nat → Int32, (∀ a, a ≠ sp → ι' a = ι a) → (∀ y, y < 24 → ι' sp y = z_eg (ι γ) y) → R (.inl (some (.inl 1))) (q_put σ ι' κ))
    (hN : ∀ m, x1 = nI m → 0 < m → m < 2 ^ 31 → (∃ j, j < m ∧ z_he (z_co (z_in (ι γ))) j) → ∀ ι1 ι' : Nat → Nat → Int32, z_fr ι ι1 g2 ρ2 γ2 → (∀ a, a ≠ sp → ι' a = ι1 a) → R (.inl (some (.inl 0))) (q_put σ ι' κ))
    (hF : ∀ m, x1 = nI m → 0 < m → m < 2 ^ 31 → ∀ ι1 ι' : Nat → Nat → Int32, z_fr ι ι1 g2 ρ2 γ2 → (∀ a, a ≠ sp → ι' a = ι1 a) → z_hp (z_co (z_in (ι γ))) (m - 1) (z_in (ι' sp)) → R (.inl (some (.inl 1))) (q_put σ ι' κ)) : V_PF_takeRing X x1 (q_put σ ι κ) R := by
  have hXg2' := hXg2
  have hXg' := hXg
  have hsp' := hsp
  subst hXg2 hsp hXg
  intro P34 P54 h34 h54
  have e54 : ∀ (ι1 : Nat → Nat → Int32) fl, (fl = 0 ∨ fl = 1) → (∀ ι' : Nat → Nat → Int32, (∀ a, a ≠ q_P σ X 8 → ι' a = ι1 a) → (∀ y, y < 24 → ι' (q_P σ X 8) y = ι1 γ2 y) → R (.inl (some (.inl fl))) (q_put σ ι' κ)) → P54 X fl (q_put σ ι1 κ) := by
    intro ι1 fl hfl hh
    refine h54 _ _ _ ⟨hX, hg2.1, hX, ?_, hspK, by decide, by decide, by decide, ?_, ?_, fun σ11 e11 => ⟨hfl, ?_⟩⟩
    · show q_K σ (q_P σ (q_P σ X 7) 2) = 1000
      rw [hg2.2.2.1]; exact hg2.2.2.2.2.1
    · show 0 + 24 ≤ q_Z σ (q_P σ (q_P σ X 7) 2)
      rw [hg2.2.2.1, hg2.2.2.2.2.2.2.1]; exact Nat.le_refl _
    · show 0 + 24 ≤ q_Z σ (q_P σ X 8)
      omega
    · subst e11
      refine hh (va_up ι1 (q_P σ X 8) (va_cpy (ι1 (q_P σ (q_P σ X 7) 2)) (ι1 (q_P σ X 8)) 0 0 24)) (fun a z => by rw [up_n z]) (fun y hy => ?_)
      rw [up_s, pk_cpy_in (Nat.zero_le _) (by omega), hg2.2.2.1]
      congr 1
      omega
  have e34 : ∀ m, x1 = nI m → 0 < m → m < 2 ^ 31 → ∀ d n (ι1 : Nat → Nat → Int32), n + d = m → z_fr ι ι1 (q_P σ X 7) ρ2 γ2 → z_GS ι1 (q_P σ X 7) ρ2 γ2 → z_hk (z_co (z_in (ι γ))) n (z_in (ι1 ρ2)) → (0 < n → z_hp (z_co (z_in (ι γ))) (n - 1) (z_in (ι1 γ2))) → P34 X x1 1 (nI n) (q_put σ ι1 κ) := by
    intro m hm h0m hm31 d
    induction d with
    | zero =>
      intro n ι1 hn q1 q2 q3 q4
      refine h34 _ _ _ _ _ (pk_le m n (fun _ => e54 ι1 1 (Or.inr rfl) (fun ι' w1 w2 => hF m hm h0m hm31 ι1 ι' q1 w1 ?_)) (fun q => by omega) hm)
      have e := q4 (by omega)
      rw [show n - 1 = m - 1 by omega] at e
      rw [z_in_congr w2]; exact e
    | succ d ih =>
      intro n ι1 hn q1 q2 q3 q4
      have ha : ι1 (q_P σ X 7) 0 = ι (q_P σ X 7) 0 := q1.2 0 (by decide) (by decide)
      refine h34 _ _ _ _ _ (pk_le m n (fun q => by omega) (fun _ => br_f (by decide) ⟨hX, ?_⟩) hm)
      refine v_takeNextHole hX rfl hg2 q2 (by rw [ha]; exact hask) (fun w ι2 w1 => ?_) (fun k ι2 w1 w2 w3 w4 w5 w6 => ?_)
      · intro v8 e8
        rw [nI_1] at e8
        rw [e8]
        have fin : P54 X 0 (q_put σ ι2 κ) := e54 ι2 0 (Or.inl rfl) (fun ι' u1 _ => hN m hm h0m hm31 ⟨n, by omega, z_in (ι1 ρ2), q3, w⟩ ι2 ι' (q1.tr w1) u1)
        exact h34 _ _ _ _ _ (br_c (fun _ => fin) (fun _ => br_t rfl fin))
      · intro v8 e8
        rw [nI_1] at e8
        rw [e8]
        exact ih (n + 1) ι2 (by omega) (q1.tr w2) w3 ⟨_, k, q3, w1, w5⟩ (fun _ => by rw [Nat.add_sub_cancel]; exact ⟨_, k, q3, w1, w4⟩)
  by_cases hneg : x1 < 0
  · exact br_f (by rw [Int32.not_le]; exact hneg) (h0 hneg)
  · obtain ⟨m, hm31, hm⟩ := nI_of hneg
    refine br_t (Int32.not_lt.mp hneg) (br_c (fun z => ⟨hX, hX, hg.1, hg2.1, ?_⟩) (fun z => ⟨hX, ?_⟩))
    · have hm0 : 0 < m := by
        rcases Nat.eq_zero_or_pos m with q | q
        · rw [q] at hm; exact absurd hm z
        · exact q
      have eγ : q_P (q_put σ ι κ) (q_P (q_put σ ι κ) X 6) 2 = γ := hg.2.2.1
      rw [eγ]
      refine v_startAround hg2 hg.2.2.2.2.1 hg.2.2.2.2.2.2.1 hγρ (fun ι1 w1 w2 w3 => ?_)
      refine e34 m hm hm0 hm31 m 0 ι1 (by omega) w1 w2 ?_ (fun z => by omega)
      show z_in (ι1 ρ2) = _
      rw [z_in_congr w3, z_in_not]
    · have hz : x1 = 0 := Classical.not_not.mp z
      exact v_takeEdge hX rfl hg rfl hspK hspZ hne (fun ι' w1 w2 => hE hz ι' w1 w2)
