/-! A PLACE IN THE ORDER OF RANKS -/
theorem q_sP_sP (σ : q_S) (t : Nat) (c d : Nat → Nat) : q_sP (q_sP σ t c) t d = q_sP σ t d := by
  unfold q_sP
  simp only [z_rws_up]
/-- f with x at p -/
def z_ins (f : Nat → Nat) (p x : Nat) : Nat → Nat := fun i => if i < p then f i else if i = p then x else f (i - 1)
theorem v_addAt {σ : q_S} {a n p x : Nat} {f : Nat → Nat} (ha : a ≤ 42) (hL : c_L σ a n f) (hn : q_I σ a 1 = nI n) (hA : c_A σ a n) (hr5 : q_K σ 10000005 = 2001 ∧ q_Z σ 10000005 = 0) (hn20 : n < 10) (hp : p ≤ n) (hnn : 42 < q_n σ) (hnn' : q_n σ < 10000000) (hel : ∀ i, i < n → q_el σ (f i) ∧ f i < q_n σ) (hx : q_el σ x ∧ x < q_n σ) {R : q_O → q_S → Prop} (h : ∀ τ, w_ad σ τ a n (z_ins f p x) → R (.inl none) τ) : V_AL_add a (nI p) x σ R := by
  obtain ⟨hK, hK2, hZ, hf⟩ := hL
  intro P38 p38
  refine ⟨hK, ?_⟩
  intro P12 p12
  refine ⟨hK, ?_⟩
  rw [hn]
  refine br_f (nI_nlt hp (by omega)) (br_t (nI_le (a := 0) (by omega) (by omega)) ⟨hK, hK, fun σ1 e1 => ?_⟩)
  obtain ⟨m1, m2⟩ := w_mod (σ := σ) (a := a) (v := q_I σ a 2 + 1)
  rw [← e1] at m1 m2
  have eP : q_P σ1 a = q_P σ a := by rw [e1]; rfl
  have eK : ∀ b, q_K σ1 b = q_K σ b := fun b => by rw [e1]; rfl
  have eZ : ∀ b, q_Z σ1 b = q_Z σ b := fun b => by rw [e1]; rfl
  have ePP : ∀ b, q_P σ1 b = q_P σ b := fun b => by rw [e1]; rfl
  have en : q_n σ1 = q_n σ := by rw [e1]; rfl
  refine ⟨by rw [eK]; exact hK, fun v9 e9 => ⟨by rw [eK]; exact hK, fun v11 e11 => ?_⟩⟩
  rw [m2, hn] at e9
  rw [eP] at e11
  subst e9 e11
  rw [eP, m2, hn]
  have hta : a ≠ q_P σ a 0 := by
    rcases hA with ⟨h1, -⟩ | ⟨h1, -⟩ <;> omega
  have cp : (nI p).toNatClampNeg = p := nI_clamp (by omega)
  have cp1 : (nI (p + 1)).toNatClampNeg = p + 1 := nI_clamp (by omega)
  have cd : (nI (n - p)).toNatClampNeg = n - p := nI_clamp (by omega)
  have fin : ∀ ρ t, q_K ρ a = 8 → q_P ρ a 0 = t → a ≠ t → ((t = q_P σ a 0 ∧ q_n ρ = q_n σ ∧ ¬ q_P σ a 0 = 10000005) ∨ (t = q_n σ ∧ q_n ρ = q_n σ + 1)) → q_K ρ t = 1002 → (q_Z ρ t = 10 ∨ q_Z ρ t = 15 ∨ q_Z ρ t = 22) → n < q_Z ρ t → (∀ i, i < n → q_P ρ t i = f i) → (∀ b, b ≠ a → b ≠ t → w_sm σ ρ b) → q_el ρ x → (∀ i, i < n → q_el ρ (f i)) → P38 a (nI p) x (nI n) t ρ := fun ρ t r1 r2 r3 r4 r5 r6 r7 r8 r9 r10 r11 => by
    refine p38 _ _ _ _ _ _ ?_
    rw [nI_1, pk_sub hp]
    simp only [cp, cp1, cd]
    refine ⟨r5, r5, nI_pos (by omega), nI_pos (by omega), nI_pos (by omega), by omega, by omega, fun i hi => Or.inr ?_, fun σ9 e9 => ⟨by rw [e9]; exact r5, by rw [e9]; exact vp_in_nI (show p < q_Z ρ t by omega) (show q_Z ρ t < 2 ^ 31 by omega), by rw [e9]; exact r10, fun σ13 e13 => ⟨by rw [e13, e9]; exact r1, fun σ14 e14 => ?_⟩⟩⟩
    · rw [r8 (p + i) (by omega)]; exact r11 _ (by omega)
    · rw [e14, e13, e9]
      have e99 : q_wP (q_sP ρ t (va_cpy (q_P ρ t) (q_P ρ t) p (p + 1) (n - p))) t p x = q_sP ρ t (va_up (va_cpy (q_P ρ t) (q_P ρ t) p (p + 1) (n - p)) p x) := by
        unfold q_wP
        rw [q_sP_sP, q_P_sP, if_pos rfl]
      rw [e99]
      refine h _ (w_ad_of r3 r1 r2 r4 r5 r6 r7 (fun i hi => ?_) r9)
      unfold z_ins
      by_cases c1 : i < p
      · rw [if_pos c1, up_n (by omega), pk_cpy_out (by omega)]; exact r8 i (by omega)
      · rw [if_neg c1]
        by_cases c2 : i = p
        · rw [if_pos c2, c2, up_s]
        · rw [if_neg c2, up_n c2, pk_cpy_in (by omega) (by omega), r8 _ (by omega)]
          congr 1; omega
  have hxa : x ≠ a := fun q => by
    have := hx.1
    unfold q_el at this
    rw [q, hK] at this
    omega
  have hfa : ∀ i, i < n → f i ≠ a := fun i hi q => by
    have := (hel i hi).1
    unfold q_el at this
    rw [q, hK] at this
    omega
  rcases hA with ⟨h1, h2⟩ | ⟨h1, h2, h3, h4⟩
  · subst h2
    refine ⟨by rw [eK, h1, hr5.1]; omega, br_f (by rw [eZ, h1, hr5.2]; exact fun q => q rfl) ⟨by rw [eK]; exact hK, ?_⟩⟩
    refine v_grow (n := 0) ha (by rw [eK]; exact hK) (by rw [m2]; exact hn) (Or.inl ⟨by rw [eP]; exact h1, rfl⟩) ⟨by rw [eK]; exact hr5.1, by rw [eZ]; exact hr5.2⟩ (by rw [eP, eZ, h1, hr5.2]) (by omega) (by rw [en]; exact hnn) (by rw [en]; exact hnn') (fun i hi => by omega) (fun τ hg => ?_)
    obtain ⟨g1, g2, g3, g4, g5, g6, g7, g8, g9⟩ := hg
    rw [en] at g3 g4 g5 g6 g7 g8 g9 ⊢
    refine fin τ (q_n σ) g1 g3 (by omega) (Or.inr ⟨rfl, g4⟩) g5 g6 g7 (fun i hi => by omega) (fun b b1 b2 => (m1 b b1).tr (g9 b b1 b2)) ?_ (fun i hi => by omega)
    unfold q_el
    rw [(g9 x hxa (by have := hx.2; omega)).1, eK]; exact hx.1
  · have c : n < q_Z σ (q_P σ a 0) := by omega
    refine ⟨by rw [eK, h3]; omega, br_t (by rw [eZ]; exact fun q => by have := (nI_eq (by omega) (by omega)).mp q; omega) ?_⟩
    refine fin σ1 (q_P σ a 0) (by rw [eK]; exact hK) (by rw [eP]) hta (Or.inl ⟨rfl, en, by omega⟩) (by rw [eK]; exact h3) (by rw [eZ]; exact h4) (by rw [eZ]; omega) (fun i hi => by rw [ePP]; exact hf i hi) (fun b b1 _ => m1 b b1) ?_ (fun i hi => ?_)
    · unfold q_el
      rw [eK]; exact hx.1
    · unfold q_el
      rw [eK]; exact (hel i hi).1
theorem v_placeOfRank {A : a_A} {σ : q_S} {ι : Nat → Nat → Int32} {κ : Nat → Nat → Int64} {pl rl : Nat → Nat} {r : Int32} (hk : q_K σ 1 = 1) (hp2 : q_P σ 1 2 = 3) (l3 : c_L σ 3 (a_N A) (fun j => pl (rl j))) (z3 : q_Z σ (q_P σ 3 0) < 1000) (s3 : ι 3 1 = nI (a_N A)) (hN8 : a_N A ≤ 8) (hpl : ∀ j, j < a_N A → q_K σ (pl (rl j)) = 6 ∧ ι (pl (rl j)) 2 = a_rk A (rl j)) {R : q_O → q_S → Prop}
    (h : ∀ p, p ≤ a_N A → (∀ i, i < p → r ≤ a_rk A (rl i)) → (p < a_N A → a_rk A (rl p) < r) → R (.inl (some (.inl (nI p)))) (q_put σ ι κ)) : V_PF_placeOfRank 1 r (q_put σ ι κ) R := by
  intro P2 P41 p2 p41
  suffices L : ∀ (d k : Nat), k + d = a_N A → (∀ i, i < k → r ≤ a_rk A (rl i)) → P2 1 r (nI k) (q_put σ ι κ) from L (a_N A) 0 (by omega) (fun i hi => by omega)
  intro d
  induction d with
  | zero =>
    intro k hk2 hv
    refine p2 _ _ _ _ ⟨hk, ?_⟩
    simp only [q_put_P, q_put_K, hp2]
    exact ⟨l3.1, v_sizeL l3.1 s3 (br_t (nI_le (by omega) (by omega)) (p41 _ _ (h k (by omega) hv (fun q => by omega))))⟩
  | succ d ih =>
    intro k hk2 hv
    obtain ⟨q1, q2⟩ := hpl k (by omega)
    refine p2 _ _ _ _ ⟨hk, ?_⟩
    simp only [q_put_P, q_put_K, hp2]
    refine ⟨l3.1, v_sizeL l3.1 s3 (br_f (nI_ge (by omega) (by omega)) ?_)⟩
    simp only [q_put_P, q_put_K, hk, hp2, l3.1, true_and]
    refine v_getL l3 s3 (by omega) (by omega) z3 ?_
    simp only [q_cr, q_put_K, q_put_I, q1, q2, true_and]
    refine br_c (fun c => p41 _ _ (h k (by omega) hv (fun _ => c))) (fun c v17 e17 => ?_)
    rw [e17, nI_1]
    refine ih (k + 1) (by omega) fun i hi => ?_
    rcases Nat.lt_or_ge i k with c2 | c2
    · exact hv i c2
    · have : i = k := by omega
      subst this
      rw [iI_lt] at c
      rw [iI_le]; omega
theorem qP_wP (s : q_S) (a k x b j : Nat) : q_P (q_wP s a k x) b j = if b = a ∧ j = k then x else q_P s b j := by
  unfold q_wP
  rw [q_P_sP]
  by_cases c : b = a
  · subst c
    rw [if_pos rfl]
    by_cases c2 : j = k
    · rw [c2, up_s, if_pos ⟨rfl, rfl⟩]
    · rw [up_n c2, if_neg (fun q => c2 q.2)]
  · rw [if_neg c, if_neg (fun q => c q.1)]
theorem qP_new1 (s : q_S) (k z b j : Nat) : q_P (q_new s k z) b j = if b = q_n s then 0 else q_P s b j := by
  rw [q_P_new]
  by_cases c : b = q_n s
  · rw [if_pos c, if_pos c]
  · rw [if_neg c, if_neg c]
theorem qI_wI (s : q_S) (a k : Nat) (x : Int32) (b j : Nat) : q_I (q_wI s a k x) b j = if b = a ∧ j = k then x else q_I s b j := by
  unfold q_wI
  rw [q_I_sI]
  by_cases c : b = a
  · subst c
    rw [if_pos rfl]
    by_cases c2 : j = k
    · rw [c2, up_s, if_pos ⟨rfl, rfl⟩]
    · rw [up_n c2, if_neg (fun q => c2 q.2)]
  · rw [if_neg c, if_neg (fun q => c q.1)]
theorem qI_new1 (s : q_S) (k z b j : Nat) : q_I (q_new s k z) b j = if b = q_n s then 0 else q_I s b j := by
  rw [q_I_new]
  by_cases c : b = q_n s
  · rw [if_pos c, if_pos c]
  · rw [if_neg c, if_neg c]
theorem qK_wP (s : q_S) (a k x b : Nat) : q_K (q_wP s a k x) b = q_K s b := rfl
theorem qK_wI (s : q_S) (a k : Nat) (x : Int32) (b : Nat) : q_K (q_wI s a k x) b = q_K s b := rfl
theorem qZ_wP (s : q_S) (a k x b : Nat) : q_Z (q_wP s a k x) b = q_Z s b := rfl
theorem qZ_wI (s : q_S) (a k : Nat) (x : Int32) (b : Nat) : q_Z (q_wI s a k x) b = q_Z s b := rfl
theorem qn_wP (s : q_S) (a k x : Nat) : q_n (q_wP s a k x) = q_n s := rfl
theorem qn_wI (s : q_S) (a k : Nat) (x : Int32) : q_n (q_wI s a k x) = q_n s := rfl
theorem qI_wP (s : q_S) (a k x b : Nat) : q_I (q_wP s a k x) b = q_I s b := rfl
theorem qP_wI (s : q_S) (a k : Nat) (x : Int32) (b : Nat) : q_P (q_wI s a k x) b = q_P s b := rfl
theorem w_sm_wP {s : q_S} {a k x b : Nat} (h : b ≠ a) : w_sm s (q_wP s a k x) b := ⟨rfl, rfl, rfl, rfl, funext fun j => by rw [qP_wP, if_neg (fun q => h q.1)]⟩
theorem w_sm_wI {s : q_S} {a k : Nat} {x : Int32} {b : Nat} (h : b ≠ a) : w_sm s (q_wI s a k x) b := ⟨rfl, rfl, funext fun j => by rw [qI_wI, if_neg (fun q => h q.1)], rfl, rfl⟩
