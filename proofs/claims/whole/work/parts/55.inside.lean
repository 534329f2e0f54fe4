/-! WITHIN THE OUTLINE, BY THE REFERENCE -/
def z_fl (b : Bool) : Int32 := if b = true then 1 else 0
theorem z_fl01 (b : Bool) : z_fl b = 0 ∨ z_fl b = 1 := by cases b <;> simp [z_fl]
theorem z_fl_eq (a b : Bool) : z_fl a = z_fl b ↔ a = b := by cases a <;> cases b <;> simp [z_fl]
theorem z_fl_0 (b : Bool) : z_fl b = 0 ↔ b = false := by cases b <;> simp [z_fl]
theorem v_isInside {σ : q_S} {ι : Nat → Nat → Int32} {κ : Nat → Nat → Int64} {q rc x y : Nat} {nn : Nat → Nat} {XX YY : Nat → Nat → Nat} (hm : m_S σ) (hq : q < 8) (hrc : ι 18 q = nI rc) (hrc4 : rc ≤ 4) (hD : ∀ j, j < rc → ι 19 (4 * q + j) = nI (nn j) ∧ 1 ≤ nn j ∧ nn j ≤ 12 ∧ ∀ k, k < nn j → κ 20 (12 * (4 * q + j) + k) = iL (XX j k) ∧ κ 21 (12 * (4 * q + j) + k) = iL (YY j k) ∧ XX j k ≤ 32 ∧ YY j k ≤ 24) (hx : x < 32) (hy : y < 24) {R : q_O → q_S → Prop}
    (h : R (.inl (some (.inl (z_fl (z_par (fun j => z_rp (nn j) (XX j) (YY j) x y) rc))))) (q_put σ ι κ)) : V_PM_isInside 14 (nI q) (nI x) (nI y) (q_put σ ι κ) R := by
  intro P8 P35 P97 P98 P130 P131 P146 P259 P267 P269 p8 p35 p97 p98 p130 p131 p146 p259 p267 p269 v1 e1
  rw [e1, show (4 : Int32) = nI 4 from rfl, pk_mul]
  have cq : (nI q).toNatClampNeg = q := nI_clamp (by omega)
  have vq : vp_in (nI q) 8 := vp_in_nI (by omega) (by omega)
  have ex : (nI x).toInt64 = iL x := by rw [iI_nI, i2l (by omega) (by omega)]
  have ey : (nI y).toInt64 = iL y := by rw [iI_nI, i2l (by omega) (by omega)]
  have ty : (iL (y : Int)).toInt = y := iL_t (by omega) (by omega)
  have e0L : (0 : Int64).toInt = 0 := rfl
  suffices H : ∀ (d j : Nat), j + d = rc → P8 14 (nI q) (nI x) (nI y) (z_fl (z_par (fun j => z_rp (nn j) (XX j) (YY j) x y) j)) (nI (4 * q + j)) (q_put σ ι κ) from H rc 0 (by omega)
  intro d
  induction d with
  | zero =>
    intro j hj
    have hj : j = rc := by omega
    subst hj
    refine p8 _ _ _ _ _ _ _ ⟨hm.k, ?_⟩
    simp only [q_put_K, q_put_P, q_put_Z, q_put_I, hm.p6, hm.k6, hm.z6, cq, vq, hrc, true_or, true_and]
    rw [show (4 : Int32) = nI 4 from rfl, pk_mul, nI_add]
    exact br_t (nI_le (Nat.le_refl _) (by omega)) ⟨z_fl01 _, h⟩
  | succ d ih =>
    intro j hj
    obtain ⟨hn, hn1, hn12, hc⟩ := hD j (by omega)
    have cr : (nI (4 * q + j)).toNatClampNeg = 4 * q + j := nI_clamp (by omega)
    have vr : vp_in (nI (4 * q + j)) 32 := vp_in_nI (by omega) (by omega)
    refine p8 _ _ _ _ _ _ _ ⟨hm.k, ?_⟩
    simp only [q_put_K, q_put_P, q_put_Z, q_put_I, hm.k, hm.p6, hm.k6, hm.z6, hm.p7, hm.k7, hm.z7, cq, vq, cr, vr, hrc, hn, true_or, true_and, forall_eq]
    rw [show (4 : Int32) = nI 4 from rfl, pk_mul, nI_add]
    refine br_f (nI_ge (by omega) (by omega)) ?_
    generalize hacc : z_par (fun j => z_rp (nn j) (XX j) (YY j) x y) j = acc
    have hnx : P8 14 (nI q) (nI x) (nI y) (z_fl (acc ^^ z_rp (nn j) (XX j) (YY j) x y)) (nI (4 * q + j + 1)) (q_put σ ι κ) := by
      have := ih (j + 1) (by omega)
      rw [← hacc]; exact this
    generalize hN : nn j = n at *
    suffices H2 : ∀ (e k : Nat), k + e = n → P35 14 (nI q) (nI x) (nI y) (z_fl (acc ^^ z_par (fun k => z_crb (XX j k) (YY j k) (XX j ((k + 1) % n)) (YY j ((k + 1) % n)) x y) k)) (nI (4 * q + j)) (nI n) (nI k) (q_put σ ι κ) by
      have := H2 n 0 (by omega)
      rw [show z_par (fun k => z_crb (XX j k) (YY j k) (XX j ((k + 1) % n)) (YY j ((k + 1) % n)) x y) 0 = false from rfl, Bool.xor_false] at this
      exact this
    intro e
    induction e with
    | zero =>
      intro k hk
      have hk : k = n := by omega
      subst hk
      refine p35 _ _ _ _ _ _ _ _ _ (br_t (nI_le (Nat.le_refl _) (by omega)) fun v2 e2 => ?_)
      rw [e2, nI_1]
      exact hnx
    | succ e ih2 =>
      intro k hk
      generalize ho : (acc ^^ z_par (fun k => z_crb (XX j k) (YY j k) (XX j ((k + 1) % n)) (YY j ((k + 1) % n)) x y) k) = o
      have hk' : (k + 1) % n < n := Nat.mod_lt _ (by omega)
      obtain ⟨f1, f2, f3, f4⟩ := hc k (by omega)
      obtain ⟨g1, g2, g3, g4⟩ := hc ((k + 1) % n) hk'
      have hnext : ∀ o' : Bool, o' = (o ^^ z_crb (XX j k) (YY j k) (XX j ((k + 1) % n)) (YY j ((k + 1) % n)) x y) → P269 14 (nI q) (nI x) (nI y) (z_fl o') (nI (4 * q + j)) (nI n) (nI k) (q_put σ ι κ) := fun o' ho' => by
        refine p269 _ _ _ _ _ _ _ _ _ fun v1 e1 => ?_
        rw [e1, nI_1, ho', ← ho, Bool.xor_assoc]
        exact ih2 (k + 1) (by omega)
      refine p35 _ _ _ _ _ _ _ _ _ (br_f (nI_ge (by omega) (by omega)) fun v3 e3 => ⟨nI_ne0 (by omega) (by omega), fun v4 e4 => ?_⟩)
      rw [show (12 : Int32) = nI 12 from rfl, pk_mul, nI_add] at e3
      rw [show (12 : Int32) = nI 12 from rfl, pk_mul, nI_1, i_rem (by omega) (by omega) (by omega), nI_add] at e4
      subst e3 e4
      generalize hb : 12 * (4 * q + j) + (k + 1) % n = b at *
      generalize ha : 12 * (4 * q + j) + k = a at *
      generalize hbX : XX j ((k + 1) % n) = bx at *
      generalize hbY : YY j ((k + 1) % n) = bY at *
      generalize haX : XX j k = ax at *
      generalize haY : YY j k = ay at *
      have ca : (nI a).toNatClampNeg = a := nI_clamp (by omega)
      have va : vp_in (nI a) 384 := vp_in_nI (by omega) (by omega)
      have cb : (nI b).toNatClampNeg = b := nI_clamp (by omega)
      have vb : vp_in (nI b) 384 := vp_in_nI (by omega) (by omega)
      have t1 : (iL (ay : Int)).toInt = ay := iL_t (by omega) (by omega)
      have t2 : (iL (bY : Int)).toInt = bY := iL_t (by omega) (by omega)
      have h259 : ∀ g : Int32, g = z_fl (z_crb ax ay bx bY x y) → P259 14 (nI q) (nI x) (nI y) (nI (4 * q + j)) (nI n) (nI k) g (z_fl o) (q_put σ ι κ) := fun g hg => by
        rw [hg]
        refine p259 _ _ _ _ _ _ _ _ _ _ (br_c (fun c => p267 _ _ _ _ _ _ _ _ _ ?_) (fun c => p267 _ _ _ _ _ _ _ _ _ ?_))
        · rw [z_fl_eq] at c
          exact hnext false (by rw [c, Bool.xor_self])
        · rw [z_fl_eq] at c
          refine hnext true ?_
          cases o <;> cases h9 : z_crb ax ay bx bY x y <;> rw [h9] at c <;> first | rfl | exact absurd rfl c
      have h146 : ∀ u : Int32, ((u = 1 ∧ ay ≤ y ∧ y < bY) ∨ (u = 0 ∧ bY ≤ y ∧ y < ay)) → P146 14 (nI q) (nI x) (nI y) (z_fl o) (nI (4 * q + j)) (nI n) (nI k) (nI a) (nI b) u (q_put σ ι κ) := fun u hu => by
        refine p146 _ _ _ _ _ _ _ _ _ _ _ _ ?_
        simp only [q_put_K, q_put_P, q_put_Z, q_put_L, hm.k, hm.p8, hm.k8, hm.z8, hm.p9, hm.k9, hm.z9, ca, va, cb, vb, f1, f2, g1, g2, ex, ey, true_and, forall_eq, show (2 : Int64) = iL 2 from rfl, show (1 : Int64) = iL 1 from rfl, iL_mul, iL_sub, iL_add]
        have m1 := i_mulb (a := 2 * (ax : Int) - 2 * x - 1) (b := (bY : Int) - ay) 70 24 (by omega) (by omega) (by omega) (by omega)
        have m2 := i_mulb (a := 2 * (y : Int) + 1 - 2 * ay) (b := (bx : Int) - ax) 50 32 (by omega) (by omega) (by omega) (by omega)
        have hV : z_crv ax ay bx bY x y = (2 * (ax : Int) - 2 * x - 1) * ((bY : Int) - ay) + (2 * (y : Int) + 1 - 2 * ay) * ((bx : Int) - ax) := rfl
        rw [← hV]
        have tV : (iL (z_crv ax ay bx bY x y)).toInt = z_crv ax ay bx bY x y := iL_t (by omega) (by omega)
        simp only [lg_cmp_ge, lg_cmp_le, iL_le, tV, e0L]
        rcases hu with ⟨u1, u2, u3⟩ | ⟨u1, u2, u3⟩
        · subst u1
          refine br_f (by decide) (br_c (fun c => h259 0 ?_) (fun c => h259 1 ?_))
          · rw [show z_crb ax ay bx bY x y = false from ?_]; · rfl
            unfold z_crb
            rw [decide_eq_false (by omega), decide_eq_false (by omega)]; rfl
          · rw [show z_crb ax ay bx bY x y = true from ?_]; · rfl
            unfold z_crb
            rw [decide_eq_true (by omega)]; rfl
        · subst u1
          refine br_t rfl (br_c (fun c => h259 0 ?_) (fun c => h259 1 ?_))
          · rw [show z_crb ax ay bx bY x y = false from ?_]; · rfl
            unfold z_crb
            rw [decide_eq_false (by omega), decide_eq_false (by omega)]; rfl
          · rw [show z_crb ax ay bx bY x y = true from ?_]; · rfl
            unfold z_crb
            rw [decide_eq_false (by omega), decide_eq_true (by omega)]; rfl
      have h131 : ∀ u w : Int32, ((u = 1 ∧ ay ≤ y ∧ y < bY) ∨ (u = 0 ∧ ¬ (ay ≤ y ∧ y < bY))) → ((w = 1 ∧ bY ≤ y ∧ y < ay) ∨ (w = 0 ∧ ¬ (bY ≤ y ∧ y < ay))) → P131 14 (nI q) (nI x) (nI y) (z_fl o) (nI (4 * q + j)) (nI n) (nI k) (nI a) (nI b) u w (q_put σ ι κ) := fun u w hu hw => by
        refine p131 _ _ _ _ _ _ _ _ _ _ _ _ _ (br_c (fun c => ?_) (fun c => br_c (fun c2 => ?_) (fun c2 => ?_)))
        · rcases hu with hu | hu
          · exact h146 u (Or.inl hu)
          · exact absurd hu.1 c
        · have c := Decidable.not_not.mp c
          rcases hw with hw | hw
          · exact h146 u (Or.inr ⟨c, hw.2⟩)
          · exact absurd hw.1 c2
        · have c := Decidable.not_not.mp c
          have c2 := Decidable.not_not.mp c2
          rcases hu with hu | hu
          · rw [hu.1] at c; exact absurd c (by decide)
          rcases hw with hw | hw
          · rw [hw.1] at c2; exact absurd c2 (by decide)
          refine hnext o ?_
          rw [show z_crb ax ay bx bY x y = false from ?_, Bool.xor_false]
          unfold z_crb
          rw [decide_eq_false (by have := hu.2; have := hw.2; omega), decide_eq_false (by have := hu.2; have := hw.2; omega)]; rfl
      have h98 : ∀ u : Int32, ((u = 1 ∧ ay ≤ y ∧ y < bY) ∨ (u = 0 ∧ ¬ (ay ≤ y ∧ y < bY))) → P98 14 (nI q) (nI x) (nI y) (z_fl o) (nI (4 * q + j)) (nI n) (nI k) (nI a) (nI b) u (q_put σ ι κ) := fun u hu => by
        refine p98 _ _ _ _ _ _ _ _ _ _ _ _ ?_
        simp only [q_put_K, q_put_P, q_put_Z, q_put_L, hm.k, hm.p9, hm.k9, hm.z9, ca, va, cb, vb, f2, g2, ey, lg_cmp_le, lg_cmp_gt, iL_le, iL_lt, t1, t2, ty, true_and]
        refine br_c (fun c => p130 _ _ _ _ _ _ _ _ _ _ _ _ (h131 u 0 hu (Or.inr ⟨rfl, by omega⟩))) (fun c => br_c (fun c2 => p130 _ _ _ _ _ _ _ _ _ _ _ _ (h131 u 0 hu (Or.inr ⟨rfl, by omega⟩))) (fun c2 => h131 u 1 hu (Or.inl ⟨rfl, by omega, by omega⟩)))
      simp only [q_put_K, q_put_P, q_put_Z, q_put_L, hm.k, hm.p9, hm.k9, hm.z9, ca, va, cb, vb, f2, g2, ey, lg_cmp_le, lg_cmp_gt, iL_le, iL_lt, t1, t2, ty, true_and]
      refine br_c (fun c => p97 _ _ _ _ _ _ _ _ _ _ _ (h98 0 (Or.inr ⟨rfl, by omega⟩))) (fun c => br_c (fun c2 => p97 _ _ _ _ _ _ _ _ _ _ _ (h98 0 (Or.inr ⟨rfl, by omega⟩))) (fun c2 => h98 1 (Or.inl ⟨rfl, by omega, by omega⟩)))
