/-! ALL PLANES FILLED, BY THE REFERENCE, further -/
theorem zc_sub {f g : Nat → Bool} {n : Nat} (h : ∀ i, i < n → f i = true → g i = true) : z_cn f n ≤ z_cn g n := by
  induction n with
  | zero => exact Nat.le_refl _
  | succ n ih =>
    have h1 := ih fun i hi => h i (by omega)
    show z_cn f n + (if f n = true then 1 else 0) ≤ z_cn g n + (if g n = true then 1 else 0)
    by_cases c : f n = true
    · rw [if_pos c, if_pos (h n (by omega) c)]; omega
    · rw [if_neg c]; omega
theorem zc_lt {f g : Nat → Bool} {n a : Nat} (h : ∀ i, i < n → f i = true → g i = true) (ha : a < n) (h1 : ¬ f a = true) (h2 : g a = true) : z_cn f n < z_cn g n := by
  induction n with
  | zero => omega
  | succ n ih =>
    show z_cn f n + (if f n = true then 1 else 0) < z_cn g n + (if g n = true then 1 else 0)
    by_cases c : a = n
    · subst c
      have := zc_sub (f := f) (g := g) (n := a) fun i hi => h i (by omega)
      rw [if_neg h1, if_pos h2]; omega
    · have := ih (fun i hi => h i (by omega)) (by omega)
      by_cases c2 : f n = true
      · rw [if_pos c2, if_pos (h n (by omega) c2)]; omega
      · rw [if_neg c2]; omega
theorem zc_all {f : Nat → Bool} {n : Nat} (h : z_cn f n = n) : ∀ i, i < n → f i = true := by
  induction n with
  | zero => intro i hi; omega
  | succ n ih =>
    have h1 : z_cn f n + (if f n = true then 1 else 0) = n + 1 := h
    have h2 := z_cn_le f n
    intro i hi
    by_cases c : f n = true
    · rw [if_pos c] at h1
      rcases Nat.lt_or_ge i n with c2 | c2
      · exact ih (by omega) i c2
      · have : i = n := by omega
        rw [this]; exact c
    · rw [if_neg c] at h1; omega
theorem zc_true {f : Nat → Bool} {n : Nat} (h : ∀ i, i < n → f i = true) : z_cn f n = n := by
  induction n with
  | zero => rfl
  | succ n ih =>
    show z_cn f n + (if f n = true then 1 else 0) = n + 1
    rw [if_pos (h n (by omega)), ih fun i hi => h i (by omega)]
theorem zc_false {f : Nat → Bool} {n : Nat} (h : ∀ i, i < n → ¬ f i = true) : z_cn f n = 0 := by
  induction n with
  | zero => rfl
  | succ n ih =>
    show z_cn f n + (if f n = true then 1 else 0) = 0
    rw [if_neg (h n (by omega)), ih fun i hi => h i (by omega)]
noncomputable def a_rkn (A : a_A) (q : Nat) : Nat := z_cn (fun p => @decide (a_ah A p q) (Classical.propDecidable _)) (a_N A)
theorem a_rkn_lt {A : a_A} {p q : Nat} (hp : p < a_N A) (h : a_ah A p q) : a_rkn A p < a_rkn A q := by
  unfold a_rkn
  refine zc_lt (a := p) (fun i hi c => ?_) hp (fun c => ?_) ?_
  · exact @decide_eq_true _ (Classical.propDecidable _) ((@of_decide_eq_true _ (Classical.propDecidable _) c).tr h)
  · exact (@of_decide_eq_true _ (Classical.propDecidable _) c).irr
  · exact @decide_eq_true _ (Classical.propDecidable _) h
theorem z_all.uniq {A : a_A} {W V : Nat → Nat → Int32} {isl isl' pcs pcs' : Nat → Nat} {fl fl' : Nat → Int32} (h : z_all A W isl pcs fl) (h' : z_all A V isl' pcs' fl') : ∀ q, q < a_N A → z_in (W q) = z_in (V q) ∧ isl q = isl' q ∧ pcs q = pcs' q ∧ fl q = fl' q := by
  have H : ∀ (m q : Nat), a_rkn A q = m → q < a_N A → z_in (W q) = z_in (V q) ∧ isl q = isl' q ∧ pcs q = pcs' q ∧ fl q = fl' q := by
    intro m
    induction m using Nat.strongRecOn with
    | ind m ih =>
    intro q hm hq
    have e : z_free A (fun p => a_ah A p q) W q = z_free A (fun p => a_ah A p q) V q := z_free_congr (fun _ _ => Iff.rfl) fun p hp hah => (ih (a_rkn A p) (by have := a_rkn_lt hp hah; omega) p rfl hp).1
    have h1 := h q hq
    have h2 := h' q hq
    rw [e] at h1
    exact h1.uniq h2
  intro q hq
  exact H _ q rfl hq
theorem v_fillAll {σ : q_S} {ι : Nat → Nat → Int32} {κ : Nat → Nat → Int64} {A : a_A} (hm : m_S σ) (h0 : m_0 A ι κ) (ok : a_ok A) {R : q_O → q_S → Prop}
    (h : ∀ (ι' : Nat → Nat → Int32) (κ' : Nat → Nat → Int64) (W : Nat → Nat → Int32) (isl pcs : Nat → Nat) (fl : Nat → Int32), z_all A W isl pcs fl → (∀ p, p < a_N A → ∀ y, y < 24 → κ' 32 (24 * p + y) = zx (W p y)) → (∀ p, p < a_N A → ι' 35 p = nI (isl p)) → (∀ p, p < a_N A → ι' 36 p = fl p) → (∀ a, a ≠ 35 → a ≠ 36 → a ≠ 37 → ι' a = ι a) → (∀ a, a ≠ 32 → a ≠ 38 → a ≠ 39 → a ≠ 40 → a ≠ 41 → κ' a = κ a) → R (.inl none) (q_put σ ι' κ')) : V_PM_fillAll 14 (q_put σ ι κ) R := by
  intro P2 P23 P35 P72 P76 P77 p2 p23 p35 p72 p76 p77
  have hN8 := ok.1.1
  have LK : ∀ (d k : Nat) (ι' : Nat → Nat → Int32) (κ' : Nat → Nat → Int64) (W : Nat → Nat → Int32) (isl pcs : Nat → Nat) (fl : Nat → Int32), k + d = a_N A → (∀ a, a ≠ 35 → a ≠ 36 → a ≠ 37 → ι' a = ι a) → (∀ a, a ≠ 32 → a ≠ 38 → a ≠ 39 → a ≠ 40 → a ≠ 41 → κ' a = κ a) → z_cn (fun p => decide (¬ ι' 37 p = 0)) (a_N A) = k → (∀ p q, p < a_N A → q < a_N A → ¬ ι' 37 q = 0 → a_ah A p q → ¬ ι' 37 p = 0) → (∀ q, q < a_N A → ¬ ι' 37 q = 0 → z_fp A q (z_free A (fun p => a_ah A p q) W q) (z_in (W q)) (isl q) (pcs q) (fl q) ∧ (∀ y, y < 24 → κ' 32 (24 * q + y) = zx (W q y)) ∧ ι' 35 q = nI (isl q) ∧ ι' 36 q = fl q) → P23 14 (nI k) (q_put σ ι' κ') := by
    intro d
    induction d with
    | zero =>
      intro k ι' κ' W isl pcs fl hk hfi hfk hcn hup hdn
      have hall : ∀ p, p < a_N A → ¬ ι' 37 p = 0 := fun p hp => by
        have := zc_all (by rw [hcn]; omega) p hp
        exact of_decide_eq_true this
      have hN : ι' 14 2 = nI (a_N A) := by rw [hfi 14 (by omega) (by omega) (by omega)]; exact h0.1.1
      refine p23 _ _ _ ⟨hm.k, pk_le (a_N A) k (fun _ => ?_) (fun c => by omega) hN⟩
      exact h ι' κ' W isl pcs fl (fun q hq => (hdn q hq (hall q hq)).1) (fun q hq => (hdn q hq (hall q hq)).2.1) (fun q hq => (hdn q hq (hall q hq)).2.2.1) (fun q hq => (hdn q hq (hall q hq)).2.2.2) hfi hfk
    | succ d ih =>
      intro k ι' κ' W isl pcs fl hk hfi hfk hcn hup hdn
      have hN : ι' 14 2 = nI (a_N A) := by rw [hfi 14 (by omega) (by omega) (by omega)]; exact h0.1.1
      have h0' : m_0 A ι' κ' := h0.fr (fun a ha => hfi a (by omega) (by omega) (by omega)) (fun a ha => hfk a (by omega) (by omega) (by omega) (by omega) (by omega))
      refine p23 _ _ _ ⟨hm.k, pk_le (a_N A) k (fun c => by omega) (fun _ => ?_) hN⟩
      suffices LP : ∀ (e p : Nat) (w : Int32), p + e = a_N A → ((w = -1 ∧ ∀ s, s < p → ¬ ι' 37 s = 0) ∨ ∃ b, b < p ∧ w = nI b ∧ ι' 37 b = 0 ∧ ∀ s, s < p → ι' 37 s = 0 → s ≠ b → a_ah A b s) → P35 14 (nI k) w (nI p) (q_put σ ι' κ') from LP (a_N A) 0 (-1) (by omega) (Or.inl ⟨rfl, fun s hs => by omega⟩)
      intro e
      induction e with
      | zero =>
        intro p w hp hw
        have hp : p = a_N A := by omega
        subst hp
        refine p35 _ _ _ _ _ ⟨hm.k, pk_le (a_N A) (a_N A) (fun _ => ⟨hm.k, ?_⟩) (fun c => by omega) hN⟩
        rcases hw with ⟨-, hw⟩ | ⟨b, hb, rfl, hb0, hbest⟩
        · exfalso
          have := zc_true (f := fun p => decide (¬ ι' 37 p = 0)) (n := a_N A) fun i hi => decide_eq_true (hw i hi)
          omega
        · have hset : ∀ s, s < a_N A → (¬ ι' 37 s = 0 ↔ a_ah A s b) := fun s hs => by
            constructor
            · intro c
              have hne : s ≠ b := fun c2 => c (by rw [c2]; exact hb0)
              rcases a_ah.tot (A := A) hne with c2 | c2
              · exact c2
              · exact absurd hb0 (hup b s hb hs c c2)
            · intro c c2
              have hne : s ≠ b := fun c3 => by subst c3; exact c.irr
              exact c.as (hbest s hs c2 hne)
          refine v_fillPlane (W := W) hm h0' ok hb (fun s hs c y hy => (hdn s hs c).2.1 y hy) (fun κ2 r isl2 pcs2 fl2 hfp g1 g2 g3 => ?_)
          intro v8 e8
          rw [e8, nI_1]
          generalize hι2 : va_up (va_up (va_up ι' 36 (va_up (ι' 36) b fl2)) 35 (va_up (ι' 35) b (nI isl2))) 37 (va_up (ι' 37) b 1) = ι2
          have e37 : ι2 37 = va_up (ι' 37) b 1 := by rw [← hι2, up_s]
          have e35 : ι2 35 = va_up (ι' 35) b (nI isl2) := by rw [← hι2, up_n (by omega), up_s]
          have e36 : ι2 36 = va_up (ι' 36) b fl2 := by rw [← hι2, up_n (by omega), up_n (by omega), up_s]
          have eo : ∀ a, a ≠ 35 → a ≠ 36 → a ≠ 37 → ι2 a = ι' a := fun a a1 a2 a3 => by rw [← hι2, up_n a3, up_n a1, up_n a2]
          refine ih (k + 1) ι2 κ2 (va_up W b r) (va_up isl b isl2) (va_up pcs b pcs2) (va_up fl b fl2) (by omega) (fun a a1 a2 a3 => by rw [eo a a1 a2 a3]; exact hfi a a1 a2 a3) (fun a a1 a2 a3 a4 a5 => by rw [g3 a a1 a2 a3 a4 a5]; exact hfk a a1 a2 a3 a4 a5) ?_ ?_ ?_
          · rw [e37, z_cn_one (f := fun p => decide (¬ va_up (ι' 37) b 1 p = 0)) (g := fun p => decide (¬ ι' 37 p = 0)) (a := b) (fun i hi => by rw [up_n hi]) (by rw [up_s]; decide) (by rw [hb0]; decide) hb, hcn]
          · intro s q hs hq c1 c2 c3
            rw [e37] at c1 c3
            by_cases c4 : s = b
            · rw [c4, up_s] at c3; exact absurd c3 (by decide)
            · rw [up_n c4] at c3
              by_cases c5 : q = b
              · rw [c5] at c2; exact (hset s hs).mpr c2 c3
              · rw [up_n c5] at c1; exact hup s q hs hq c1 c2 c3
          · intro q hq c1
            rw [e37] at c1
            by_cases c5 : q = b
            · subst c5
              rw [up_s, up_s, up_s, up_s, e35, e36, up_s, up_s]
              refine ⟨?_, g1, rfl, rfl⟩
              have e : z_free A (fun p => a_ah A p q) (va_up W q r) q = z_free A (fun p => ¬ ι' 37 p = 0) W q := z_free_congr (fun s hs => (hset s hs).symm) fun s hs c => by
                rw [up_n (fun c2 => by rw [c2] at c; exact c hb0)]
              rw [e]; exact hfp
            · rw [up_n c5] at c1
              obtain ⟨d1, d2, d3, d4⟩ := hdn q hq c1
              rw [up_n c5, up_n c5, up_n c5, up_n c5, e35, e36, up_n c5, up_n c5]
              refine ⟨?_, fun y hy => ?_, d3, d4⟩
              · have e : z_free A (fun p => a_ah A p q) (va_up W b r) q = z_free A (fun p => a_ah A p q) W q := z_free_congr (fun _ _ => Iff.rfl) fun s hs c => by
                  rw [up_n (fun c2 => by rw [c2] at c; exact hup b q hb hq c1 c hb0)]
                rw [e]; exact d1
              · rw [g2 (24 * q + y) (by omega)]; exact d2 y hy
      | succ e ih2 =>
        intro p w hp hw
        have cp : (nI p).toNatClampNeg = p := nI_clamp (by omega)
        have vp : vp_in (nI p) 8 := vp_in_nI (by omega) (by omega)
        have hkeep : (∀ s, s < p + 1 → ι' 37 s = 0 → s < p ∨ (∃ b, b < p ∧ w = nI b ∧ ι' 37 b = 0 ∧ a_ah A b p)) → P76 14 (nI k) w (nI p) (q_put σ ι' κ') := fun c => by
          refine p76 _ _ _ _ _ (p77 _ _ _ _ _ fun v1 e1 => ?_)
          rw [e1, nI_1]
          refine ih2 (p + 1) w (by omega) ?_
          rcases hw with ⟨w1, w2⟩ | ⟨b, w1, w2, w3, w4⟩
          · refine Or.inl ⟨w1, fun s hs c2 => ?_⟩
            rcases c s hs c2 with c3 | ⟨b, c4, c5, c6, c7⟩
            · exact w2 s c3 c2
            · exact w2 b c4 c6
          · refine Or.inr ⟨b, by omega, w2, w3, fun s hs c2 c3 => ?_⟩
            rcases Nat.lt_or_ge s p with c4 | c4
            · exact w4 s c4 c2 c3
            · have hsp : s = p := by omega
              subst hsp
              rcases c s hs c2 with c5 | ⟨b', c5, c6, c7, c8⟩
              · omega
              · have : b = b' := by
                  rw [w2] at c6
                  exact (nI_eq (by omega) (by omega)).mp c6
                rw [this]; exact c8
        have htake : ι' 37 p = 0 → (∀ s, s < p → ι' 37 s = 0 → a_ah A p s) → P72 14 (nI k) (nI p) (q_put σ ι' κ') := fun c c2 => by
          refine p72 _ _ _ _ (p77 _ _ _ _ _ fun v1 e1 => ?_)
          rw [e1, nI_1]
          refine ih2 (p + 1) (nI p) (by omega) (Or.inr ⟨p, by omega, rfl, c, fun s hs c3 c4 => c2 s (by omega) c3⟩)
        refine p35 _ _ _ _ _ ⟨hm.k, pk_le (a_N A) p (fun c => by omega) (fun _ => ?_) hN⟩
        simp only [q_put_K, q_put_P, q_put_Z, q_put_I, hm.k, hm.p27, hm.k27, hm.z27, hm.p5, hm.k5, hm.z5, cp, vp, true_or, true_and]
        refine br_c (fun c => hkeep fun s hs c2 => ?_) (fun c => br_c (fun c2 => ?_) (fun c2 => ?_))
        · rcases Nat.lt_or_ge s p with c3 | c3
          · exact Or.inl c3
          · have : s = p := by omega
            rw [this] at c2; exact absurd c2 c
        · have c := Decidable.not_not.mp c
          refine htake c fun s hs c3 => ?_
          rcases hw with ⟨w1, w2⟩ | ⟨b, w1, w2, w3, w4⟩
          · exact absurd c3 (w2 s hs)
          · rw [w2] at c2
            exact absurd c2 (by
              rw [iI_eq, nI_toInt (by omega)]
              show ¬ (b : Int) = -1
              omega)
        · have c := Decidable.not_not.mp c
          rcases hw with ⟨w1, w2⟩ | ⟨b, w1, w2, w3, w4⟩
          · exact absurd w1 c2
          · have cb : (nI b).toNatClampNeg = b := nI_clamp (by omega)
            have vb : vp_in (nI b) 8 := vp_in_nI (by omega) (by omega)
            have r17 : ∀ s, s < a_N A → ι' 17 s = a_rk A s := fun s hs => by rw [hfi 17 (by omega) (by omega) (by omega)]; exact (h0.1.2 s hs).2.2.1
            subst w2
            simp only [cb, vb, r17 p (by omega), r17 b (by omega), true_and]
            refine br_c (fun c3 => hkeep fun s hs c4 => ?_) (fun c3 => htake c fun s hs c4 => ?_)
            · rcases Nat.lt_or_ge s p with c5 | c5
              · exact Or.inl c5
              · refine Or.inr ⟨b, w1, rfl, w3, ?_⟩
                unfold a_ah
                rw [iI_le] at c3
                rw [iI_lt, iI_eq]
                omega
            · have hbp : a_ah A p b := by
                unfold a_ah
                rw [iI_le] at c3
                rw [iI_lt]
                omega
              by_cases c5 : s = b
              · rw [c5]; exact hbp
              · exact hbp.tr (w4 s hs c4 c5)
  have L0 : ∀ (d p : Nat) (ι' : Nat → Nat → Int32), p + d = 8 → (∀ a, a ≠ 37 → ι' a = ι a) → (∀ j, j < p → ι' 37 j = 0) → P2 14 (nI p) (q_put σ ι' κ) := by
    have d1 : ((0 : Int32) = 0 ∨ (0 : Int32) = 1) := Or.inl rfl
    intro d
    induction d with
    | zero =>
      intro p ι' hp hf hz
      refine p2 _ _ _ (pk_le 8 p (fun _ => ?_) (fun c => by omega))
      refine LK (a_N A) 0 ι' κ (fun _ _ => 0) (fun _ => 0) (fun _ => 0) (fun _ => 0) (by omega) (fun a a1 a2 a3 => hf a a3) (fun _ _ _ _ _ _ => rfl) ?_ ?_ ?_
      · exact zc_false fun i hi c => of_decide_eq_true c (hz i (by omega))
      · intro s q hs hq c1; exact absurd (hz q (by omega)) c1
      · intro q hq c1; exact absurd (hz q (by omega)) c1
    | succ d ih =>
      intro p ι' hp hf hz
      have cp : (nI p).toNatClampNeg = p := nI_clamp (by omega)
      have vp : vp_in (nI p) 8 := vp_in_nI (by omega) (by omega)
      refine p2 _ _ _ (pk_le 8 p (fun c => by omega) (fun _ => ?_))
      simp only [q_put_K, q_put_P, q_put_Z, hm.k, hm.p27, hm.k27, hm.z27, cp, vp, d1, true_or, true_and, forall_eq, q_put_wI]
      rw [nI_1]
      refine ih (p + 1) _ (by omega) (fun a ha => by rw [up_n ha]; exact hf a ha) fun j hj => ?_
      rw [up_s]
      by_cases c : j = p
      · rw [c, up_s]
      · rw [up_n c]; exact hz j (by omega)
  exact L0 8 0 ι rfl (fun _ _ => rfl) (fun j hj => by omega)
