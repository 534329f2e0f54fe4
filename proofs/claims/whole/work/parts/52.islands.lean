/-! ISLANDS -/
theorem z_fc_of {R T : Nat → Nat → Prop} {ask : Prop} (hsub : ∀ x y, T x y → R x y) (hin : ∀ x y, z_fc ask R x y → T x y) (hne : z_ne R) : z_fc ask T = z_fc ask R := by
  obtain ⟨a, b, hf⟩ := z_first_ex hne
  have hab : z_fc ask R a b := (z_fc_iff hf a b).mpr fun S hS _ => hS
  have hfT : z_first T a b := ⟨hin a b hab, fun x y h => hf.2 x y (hsub x y h)⟩
  refine z_eqset fun x y => ?_
  rw [z_fc_iff hfT, z_fc_iff hf]
  constructor
  · intro h S hS hcl
    exact h S hS fun x y x' y' h1 h2 h3 => hcl x y x' y' h1 h2 (hsub _ _ h3)
  · intro h S hS hcl
    have := h (fun x y => S x y ∧ z_comp ask R a b x y) ⟨hS, fun S' h' _ => h'⟩ fun x y x' y' h1 h2 h3 => by
      have hc : z_comp ask R a b x' y' := fun S' h' hcl' => hcl' x y x' y' (h1.2 S' h' hcl') h2 h3
      exact ⟨hcl x y x' y' h1.1 h2 (hin _ _ ((z_fc_iff hf x' y').mpr hc)), hc⟩
    exact this.1
/-- the n-th group -/
def z_gp (S : Nat → Nat → Prop) (j : Nat) : Nat → Nat → Prop := z_fc False (z_it False j S)
noncomputable def z_cb (B : (Nat → Nat → Prop) → Prop) (S : Nat → Nat → Prop) : Nat → Nat
  | 0 => 0
  | n + 1 => z_cb B S n + @ite Nat (B (z_gp S n)) (Classical.propDecidable _) 1 0
def z_kp (B : (Nat → Nat → Prop) → Prop) (S : Nat → Nat → Prop) (n x y : Nat) : Prop := S x y ∧ ¬ ∃ j, j < n ∧ B (z_gp S j) ∧ z_gp S j x y
theorem z_cb_t {B : (Nat → Nat → Prop) → Prop} {S : Nat → Nat → Prop} {n : Nat} (h : B (z_gp S n)) : z_cb B S (n + 1) = z_cb B S n + 1 := by
  show z_cb B S n + _ = _
  rw [if_pos h]
theorem z_cb_f {B : (Nat → Nat → Prop) → Prop} {S : Nat → Nat → Prop} {n : Nat} (h : ¬ B (z_gp S n)) : z_cb B S (n + 1) = z_cb B S n := by
  show z_cb B S n + _ = _
  rw [if_neg h]; rfl
theorem z_cb_le (B : (Nat → Nat → Prop) → Prop) (S : Nat → Nat → Prop) (n : Nat) : z_cb B S n ≤ n := by
  induction n with
  | zero => exact Nat.le_refl _
  | succ n ih =>
    by_cases h : B (z_gp S n)
    · rw [z_cb_t h]; omega
    · rw [z_cb_f h]; omega
theorem z_gp_sub {S : Nat → Nat → Prop} {j x y : Nat} (h : z_gp S j x y) : z_it False j S x y := h.sub
theorem z_it_le {S : Nat → Nat → Prop} {n m x y : Nat} (hnm : n ≤ m) (h : z_it False m S x y) : z_it False n S x y := by
  obtain ⟨d, rfl⟩ : ∃ d, m = n + d := ⟨m - n, by omega⟩
  rw [← z_it_add] at h
  exact z_it_sub h
theorem z_gp_dis {S : Nat → Nat → Prop} {i j x y : Nat} (hi : z_gp S i x y) (hj : z_gp S j x y) (hij : i < j) : False := by
  have h1 := z_it_le (n := i + 1) (by omega) (z_gp_sub hj)
  rw [z_it_s] at h1
  exact h1.2 hi
theorem z_kp_it {B : (Nat → Nat → Prop) → Prop} {S : Nat → Nat → Prop} {N : Nat} (hN : z_np S N) : ∀ n, n ≤ N → z_it False (n - z_cb B S n) (z_kp B S N) = fun x y => z_kp B S N x y ∧ z_it False n S x y := by
  intro n
  induction n with
  | zero => intro _; exact z_eqset fun x y => ⟨fun h => ⟨h, h.1⟩, fun h => h.1⟩
  | succ n ih =>
    intro hn
    have ih := ih (by omega)
    have hle := z_cb_le B S n
    by_cases hb : B (z_gp S n)
    · rw [z_cb_t hb, show n + 1 - (z_cb B S n + 1) = n - z_cb B S n by omega, ih]
      refine z_eqset fun x y => ?_
      rw [z_it_s]
      constructor
      · rintro ⟨h1, h2⟩; exact ⟨h1, h2, fun h3 => h1.2 ⟨n, by omega, hb, h3⟩⟩
      · rintro ⟨h1, h2⟩; exact ⟨h1, h2.1⟩
    · rw [z_cb_f hb, show n + 1 - z_cb B S n = (n - z_cb B S n) + 1 by omega, z_it_s, ih]
      have e : z_fc False (fun x y => z_kp B S N x y ∧ z_it False n S x y) = z_fc False (z_it False n S) := by
        refine z_fc_of (fun x y h => h.2) (fun x y h => ⟨⟨z_it_sub (z_gp_sub (j := n) h), ?_⟩, z_gp_sub (j := n) h⟩) (hN.1 n (by omega))
        rintro ⟨j, h1, h2, h3⟩
        rcases Nat.lt_trichotomy j n with c | c | c
        · exact z_gp_dis h3 h c
        · subst c; exact hb h2
        · exact z_gp_dis h h3 c
      refine z_eqset fun x y => ?_
      unfold z_rm
      rw [e, z_it_s]
      constructor
      · rintro ⟨⟨h1, h2⟩, h3⟩; exact ⟨h1, h2, h3⟩
      · rintro ⟨h1, h2, h3⟩; exact ⟨⟨h1, h2⟩, h3⟩
theorem z_np_kp {B : (Nat → Nat → Prop) → Prop} {S : Nat → Nat → Prop} {N : Nat} (hN : z_np S N) : z_np (z_kp B S N) (N - z_cb B S N) := by
  constructor
  · intro k hk
    have H : ∀ m, k < m - z_cb B S m → ∃ n, n < m ∧ n - z_cb B S n = k ∧ ¬ B (z_gp S n) := by
      intro m
      induction m with
      | zero => intro h; omega
      | succ m ih =>
        intro h
        have hle := z_cb_le B S m
        by_cases hb : B (z_gp S m)
        · rw [z_cb_t hb] at h
          obtain ⟨n, h1, h2⟩ := ih (by omega)
          exact ⟨n, by omega, h2⟩
        · rw [z_cb_f hb] at h
          rcases Nat.lt_or_ge k (m - z_cb B S m) with c | c
          · obtain ⟨n, h1, h2⟩ := ih c
            exact ⟨n, by omega, h2⟩
          · exact ⟨m, by omega, by omega, hb⟩
    obtain ⟨n, h1, h2, h3⟩ := H N hk
    rw [← h2, z_kp_it hN n (by omega)]
    obtain ⟨x, y, hxy⟩ := z_fc_ne (ask := False) (hN.1 n h1)
    refine ⟨x, y, ⟨z_it_sub (z_gp_sub (j := n) hxy), ?_⟩, z_gp_sub (j := n) hxy⟩
    rintro ⟨j, c1, c2, c3⟩
    rcases Nat.lt_trichotomy j n with c | c | c
    · exact z_gp_dis c3 hxy c
    · subst c; exact h3 c2
    · exact z_gp_dis hxy c3 c
  · rw [z_kp_it hN N (Nat.le_refl _)]
    rintro ⟨x, y, h1, h2⟩
    exact hN.2 ⟨x, y, h2⟩
noncomputable def z_sz (G : Nat → Nat → Prop) : Nat := z_ca (fun y => z_rw (fun x => G x y))
theorem z_sz_in {p : Nat → Int32} {G : Nat → Nat → Prop} (h : z_in p = G) : z_ca p = z_sz G := by
  refine z_sm_congr fun y hy => congrArg z_pc (z_rw_of fun x hx => ?_)
  rw [← h]
  exact ⟨fun c => ⟨hy, c⟩, fun c => c.2⟩
/-- a pad of the plane has a cell of the group -/
def z_pd (A : a_A) (q : Nat) (G : Nat → Nat → Prop) : Prop := ∃ i, i < a_E A ∧ a_pl A i = a_la A q ∧ a_pn A i = a_nt A q ∧ ∃ x y, G x y ∧ z_nr (a_px A i) (a_py A i) (a_pw A i) (a_ph A i) 0 x y
def z_bad (A : a_A) (q : Nat) (G : Nat → Nat → Prop) : Prop := z_sz G < a_ru A 3 ∧ ¬ z_pd A q G
/-- the group at hand has a cell of a pad -/
theorem v_meets {σ : q_S} {ι : Nat → Nat → Int32} {κ : Nat → Nat → Int64} {g ρ γ f l p px py pw ph : Nat} (hg : q_gr σ g ρ γ) (hf3 : ι g 3 = nI f) (hl4 : ι g 4 = nI l) (hfl : f ≤ l) (hl : l < 24) (hz : ∀ y, y < 24 → (y < f ∨ l < y) → ι γ y = 0) (hK5 : q_K σ p = 5) (f4 : ι p 2 = nI px) (f5 : ι p 3 = nI py) (f6 : ι p 4 = nI pw) (f7 : ι p 5 = nI ph) (g1 : px + pw ≤ 32) (g2 : py + ph ≤ 24) {R : q_O → q_S → Prop}
    (h1 : (∃ x y, z_in (ι γ) x y ∧ z_nr px py pw ph 0 x y) → R (.inl (some (.inl 1))) (q_put σ ι κ)) (h0 : ¬ (∃ x y, z_in (ι γ) x y ∧ z_nr px py pw ph 0 x y) → R (.inl (some (.inl 0))) (q_put σ ι κ)) : V_PG_meets g p (q_put σ ι κ) R := by
  obtain ⟨hK, rfl, rfl, hKr, hKg, hZr, hZg, hne⟩ := hg
  have hi : ∀ j : Nat, j < 24 → vp_in (nI j) (q_Z σ (q_P σ g 2)) := fun j hj => by rw [hZg]; exact vp_in_nI hj (by decide)
  intro P5 h5
  have e5 : ∀ d y, y + d = l + 1 → f ≤ y → (∀ j x, j < y → ¬ (bt (ι (q_P σ g 2) j) x = true ∧ z_nr px py pw ph 0 x j)) → P5 g p (nI y) (q_put σ ι κ) := by
    intro d
    induction d with
    | zero =>
      intro y hy hfy hv
      refine h5 _ _ _ _ ⟨hK, pk_lt l y (fun _ => h0 ?_) (fun q => by omega) hl4⟩
      rintro ⟨x, j, c3, c4⟩
      rcases Nat.lt_or_ge j y with c | c
      · exact hv j x c ⟨c3.2, c4⟩
      · have c5 := c3.2
        rw [hz j c3.1 (Or.inr (by omega))] at c5
        exact b_z.mp rfl x c5
    | succ d ih =>
      intro y hy hfy hv
      have nb : ∀ x, bt (f_PP_near (q_put σ ι κ) p (nI y) 0) x = true ↔ z_nr px py pw ph 0 x y := fun x => z_near (off := 0) (show q_I (q_put σ ι κ) p 2 = _ from f4) f5 f6 f7 g1 g2 (by omega) (by omega) x
      have e9 : q_I (q_put σ ι κ) (q_P (q_put σ ι κ) g 2) (nI y).toNatClampNeg = ι (q_P σ g 2) y := by rw [nI_clamp (by omega)]; rfl
      refine h5 _ _ _ _ ⟨hK, pk_lt l y (fun q => by omega) (fun _ => ⟨hK, Or.inl hKg, hi y (by omega), hK5, ?_⟩) hl4⟩
      rw [e9]
      refine br_c (fun c3 v8 e8 => ?_) (fun c3 => h1 ?_)
      · rw [e8, nI_1]
        refine ih (y + 1) (by omega) (by omega) fun j x hj => ?_
        rcases Nat.lt_or_ge j y with c4 | c4
        · exact hv j x c4
        · have : j = y := by omega
          subst this
          rintro ⟨c5, c6⟩
          exact b_z.mp c3 x (b_ad.mpr ⟨c5, (nb x).mpr c6⟩)
      · obtain ⟨x, hx, c4⟩ := b_ne0.mp c3
        obtain ⟨c5, c6⟩ := b_ad.mp c4
        exact ⟨x, y, ⟨by omega, c5⟩, (nb x).mp c6⟩
  refine ⟨hK, fun v1 e1 => ?_⟩
  have e1' : v1 = nI f := e1.trans hf3
  rw [e1']
  refine e5 (l + 1 - f) f (by omega) (Nat.le_refl _) fun j x hj => ?_
  rintro ⟨c5, -⟩
  rw [hz j (by omega) (Or.inl hj)] at c5
  exact b_z.mp rfl x c5
theorem v_pieceHasPad {σ : q_S} {ι : Nat → Nat → Int32} {κ : Nat → Nat → Int64} {A : a_A} {f : Nat → Nat} {ν q : Nat} (hc : c_S σ) (hE : c_E A σ ι f) (ok : a_okE A) (hν : q_K σ ν = 6) (hn : ι ν 0 = a_nt A q) (hl : ι ν 1 = a_la A q) {kf kl : Nat} (x3 : ι 7 3 = nI kf) (x4 : ι 7 4 = nI kl) (x5 : kf ≤ kl) (x6 : kl < 24) (x7 : ∀ y, y < 24 → (y < kf ∨ kl < y) → ι 9 y = 0) {R : q_O → q_S → Prop}
    (h1 : z_pd A q (z_in (ι 9)) → R (.inl (some (.inl 1))) (q_put σ ι κ)) (h0 : ¬ z_pd A q (z_in (ι 9)) → R (.inl (some (.inl 0))) (q_put σ ι κ)) : V_PF_pieceHasPad 1 ν (q_put σ ι κ) R := by
  intro P2 P64 p2 p64
  obtain ⟨b0, b1⟩ := ok
  have H : ∀ (d k : Nat), k + d = a_E A → (∀ i, i < k → ¬ (a_pl A i = a_la A q ∧ a_pn A i = a_nt A q ∧ ∃ x y, z_in (ι 9) x y ∧ z_nr (a_px A i) (a_py A i) (a_pw A i) (a_ph A i) 0 x y)) → P2 1 ν (nI k) (q_put σ ι κ) := by
    intro d
    induction d with
    | zero =>
      intro k hk hv
      refine p2 _ _ _ _ ⟨hc.k, ?_⟩
      simp only [q_put_P, q_put_K, hc.p4]
      refine ⟨hE.1.1, v_sizeL hE.1.1 hE.2.2.1 ?_⟩
      refine br_t (nI_le (by omega) (by omega)) (h0 ?_)
      rintro ⟨i, c1, c2⟩
      exact hv i (by omega) c2
    | succ d ih =>
      intro k hk hv
      obtain ⟨f1, f2, f3, f4, f5, f6, f7⟩ := hE.2.2.2 k (by omega)
      obtain ⟨g1, g2, g3, g4⟩ := b1 k (by omega)
      have hnext : ¬ (a_pl A k = a_la A q ∧ a_pn A k = a_nt A q ∧ ∃ x y, z_in (ι 9) x y ∧ z_nr (a_px A k) (a_py A k) (a_pw A k) (a_ph A k) 0 x y) → P64 1 ν (nI k) (q_put σ ι κ) := fun c => by
        refine p64 _ _ _ _ fun v1 e1 => ?_
        rw [e1, nI_1]
        refine ih (k + 1) (by omega) fun i hi => ?_
        rcases Nat.lt_or_ge i k with c2 | c2
        · exact hv i c2
        · have : i = k := by omega
          subst this; exact c
      refine p2 _ _ _ _ ⟨hc.k, ?_⟩
      simp only [q_put_P, q_put_K, hc.p4]
      refine ⟨hE.1.1, v_sizeL hE.1.1 hE.2.2.1 ?_⟩
      refine br_f (nI_ge (by omega) (by omega)) ?_
      simp only [q_put_P, q_put_K, hc.p4, hc.k, hE.1.1, true_and]
      refine v_getL hE.1 hE.2.2.1 (by omega) (by omega) hE.2.1 ?_
      simp only [q_cr, q_put_P, q_put_K, q_put_I, f1, hν, f2, f3, hn, hl, true_and]
      refine br_c (fun c => hnext fun c2 => c c2.1) (fun c => br_c (fun c2 => hnext fun c3 => c2 c3.2.1) (fun c2 => ?_))
      have c := Decidable.not_not.mp c
      have c2 := Decidable.not_not.mp c2
      simp only [q_put_P, q_put_K, hc.k, hc.p6, hc.g7.1, true_and]
      refine v_meets hc.g7 x3 x4 x5 x6 x7 f1 f4 f5 f6 f7 g1 g2 (fun c3 => br_f (by decide) (h1 ⟨k, by omega, c, c2, c3⟩)) (fun c3 => br_t rfl (hnext fun c4 => c3 c4.2.2))
  exact H (a_E A) 0 (by omega) (fun i hi => by omega)
/-- the pads of the reference -/
def m_E (A : a_A) (ι : Nat → Nat → Int32) : Prop := ι 14 16 = nI (a_E A) ∧ ∀ i, i < a_E A → ι 27 i = a_pn A i ∧ ι 28 i = a_pl A i ∧ ι 29 (4 * i) = nI (a_px A i) ∧ ι 29 (4 * i + 1) = nI (a_py A i) ∧ ι 29 (4 * i + 2) = nI (a_pw A i) ∧ ι 29 (4 * i + 3) = nI (a_ph A i)
theorem v_hasPad {σ : q_S} {ι : Nat → Nat → Int32} {κ : Nat → Nat → Int64} {A : a_A} {q : Nat} {p : Nat → Int32} (hm : m_S σ) (hE : m_E A ι) (ok : a_okE A) (hq : q < 8) (hn : ι 15 q = a_nt A q) (hl : ι 16 q = a_la A q) (hp : z_zr κ 39 p) {R : q_O → q_S → Prop}
    (h1 : z_pd A q (z_in p) → R (.inl (some (.inl 1))) (q_put σ ι κ)) (h0 : ¬ z_pd A q (z_in p) → R (.inl (some (.inl 0))) (q_put σ ι κ)) : V_PM_hasPad 14 (nI q) (q_put σ ι κ) R := by
  intro P2 P54 P131 p2 p54 p131
  obtain ⟨b0, b1⟩ := ok
  have cq : (nI q).toNatClampNeg = q := nI_clamp (by omega)
  have vq : vp_in (nI q) 8 := vp_in_nI (by omega) (by omega)
  have H : ∀ (d k : Nat), k + d = a_E A → (∀ i, i < k → ¬ (a_pl A i = a_la A q ∧ a_pn A i = a_nt A q ∧ ∃ x y, z_in p x y ∧ z_nr (a_px A i) (a_py A i) (a_pw A i) (a_ph A i) 0 x y)) → P2 14 (nI q) (nI k) (q_put σ ι κ) := by
    intro d
    induction d with
    | zero =>
      intro k hk hv
      refine p2 _ _ _ _ ⟨hm.k, pk_le (a_E A) k (fun _ => h0 ?_) (fun c => by omega) hE.1⟩
      rintro ⟨i, c1, c2⟩
      exact hv i (by omega) c2
    | succ d ih =>
      intro k hk hv
      obtain ⟨f1, f2, f3, f4, f5, f6⟩ := hE.2 k (by omega)
      obtain ⟨g1, g2, g3, g4⟩ := b1 k (by omega)
      have hnext : ¬ (a_pl A k = a_la A q ∧ a_pn A k = a_nt A q ∧ ∃ x y, z_in p x y ∧ z_nr (a_px A k) (a_py A k) (a_pw A k) (a_ph A k) 0 x y) → P131 14 (nI q) (nI k) (q_put σ ι κ) := fun c => by
        refine p131 _ _ _ _ fun v1 e1 => ?_
        rw [e1, nI_1]
        refine ih (k + 1) (by omega) fun i hi => ?_
        rcases Nat.lt_or_ge i k with c2 | c2
        · exact hv i c2
        · have : i = k := by omega
          subst this; exact c
      have e0 : (4 : Int32) * nI k = nI (4 * k) := pk_mul 4 k
      have e1 : nI (4 * k) + 1 = nI (4 * k + 1) := nI_add (4 * k) 1
      have e2 : nI (4 * k) + 2 = nI (4 * k + 2) := nI_add (4 * k) 2
      have e3 : nI (4 * k) + 3 = nI (4 * k + 3) := nI_add (4 * k) 3
      have c0 : (nI (4 * k)).toNatClampNeg = 4 * k := nI_clamp (by omega)
      have c1 : (nI (4 * k + 1)).toNatClampNeg = 4 * k + 1 := nI_clamp (by omega)
      have c2 : (nI (4 * k + 2)).toNatClampNeg = 4 * k + 2 := nI_clamp (by omega)
      have c3 : (nI (4 * k + 3)).toNatClampNeg = 4 * k + 3 := nI_clamp (by omega)
      have ck : (nI k).toNatClampNeg = k := nI_clamp (by omega)
      have v0 : vp_in (nI (4 * k)) 40 := vp_in_nI (by omega) (by omega)
      have v1 : vp_in (nI (4 * k + 1)) 40 := vp_in_nI (by omega) (by omega)
      have v2 : vp_in (nI (4 * k + 2)) 40 := vp_in_nI (by omega) (by omega)
      have v3 : vp_in (nI (4 * k + 3)) 40 := vp_in_nI (by omega) (by omega)
      have vk : vp_in (nI k) 10 := vp_in_nI (by omega) (by omega)
      refine p2 _ _ _ _ ⟨hm.k, pk_le (a_E A) k (fun c => by omega) (fun _ => ?_) hE.1⟩
      simp only [q_put_K, q_put_P, q_put_Z, q_put_I, hm.k, hm.p18, hm.k18, hm.z18, hm.p4, hm.k4, hm.z4, hm.p17, hm.k17, hm.z17, hm.p3, hm.k3, hm.z3, hm.p19, hm.k19, hm.z19, e0, e1, c1, v1, ck, cq, vk, vq, true_or, true_and, forall_eq, f1, f2, f4, hn, hl]
      refine br_c (fun c => hnext fun c2 => c c2.1) (fun c => br_c (fun c5 => ?_) (fun c2 => hnext fun c3 => c2 c3.2.1))
      have c := Decidable.not_not.mp c
      suffices Hy : ∀ (e y : Nat), y + e = a_py A k + a_ph A k → a_py A k ≤ y → (∀ j x, j < y → ¬ (bt (p j) x = true ∧ z_nr (a_px A k) (a_py A k) (a_pw A k) (a_ph A k) 0 x j)) → P54 14 (nI q) (nI k) (nI y) (q_put σ ι κ) from Hy (a_ph A k) (a_py A k) rfl (Nat.le_refl _) (fun j x hj c6 => by have := c6.2; unfold z_nr at this; omega)
      intro e
      induction e with
      | zero =>
        intro y hy hy2 hv2
        refine p54 _ _ _ _ _ ?_
        simp only [q_put_K, q_put_P, q_put_Z, q_put_I, hm.k, hm.p19, hm.k19, hm.z19, e0, e1, e3, c1, c3, v1, v3, true_or, true_and, f4, f6, nI_add]
        refine br_t (nI_le (by omega) (by omega)) (hnext ?_)
        rintro ⟨-, -, x, j, c7, c8⟩
        refine hv2 j x ?_ ⟨c7.2, c8⟩
        unfold z_nr at c8; omega
      | succ e ih2 =>
        intro y hy hy2 hv2
        have cy : (nI y).toNatClampNeg = y := nI_clamp (by omega)
        have vy : vp_in (nI y) 24 := vp_in_nI (by omega) (by omega)
        have ep : κ 39 y = zx (p y) := hp y (by omega)
        refine p54 _ _ _ _ _ ?_
        simp only [q_put_K, q_put_P, q_put_Z, q_put_I, q_put_L, hm.k, hm.p19, hm.k19, hm.z19, hm.p29, hm.k29, hm.z29, e0, e1, e2, e3, c0, c1, c2, c3, v0, v1, v2, v3, cy, vy, true_or, true_and, f3, f4, f5, f6, nI_add, ep]
        refine br_f (nI_ge (by omega) (by omega)) ?_
        rw [show nI (a_px A k + a_pw A k) - 1 = iI ((a_px A k + a_pw A k : Nat) - 1 : Int) by rw [iI_nI, show (1 : Int32) = iI 1 from rfl, iI_sub], iI_nI (a_px A k)]
        refine v_span (by omega) (by omega) (by omega) (by omega) ?_
        simp only [q_cl', zx_and, lg_cmp_eq, zx_eq0]
        have nb : ∀ x, bt (z_sp (a_px A k : Int) ((a_px A k + a_pw A k : Nat) - 1 : Int)) x = true ↔ z_nr (a_px A k) (a_py A k) (a_pw A k) (a_ph A k) 0 x y := fun x => by
          rw [z_sp_iff (by omega) (by omega) (by omega) (by omega)]; unfold z_nr; omega
        refine br_c (fun c7 v8 e8 => ?_) (fun c7 => h1 ?_)
        · rw [e8, nI_1]
          refine ih2 (y + 1) (by omega) (by omega) fun j x hj => ?_
          rcases Nat.lt_or_ge j y with c4 | c4
          · exact hv2 j x c4
          · have : j = y := by omega
            subst this
            rintro ⟨c8, c9⟩
            exact b_z.mp c7 x (b_ad.mpr ⟨c8, (nb x).mpr c9⟩)
        · obtain ⟨x, hx, c8⟩ := b_ne0.mp c7
          obtain ⟨c9, c10⟩ := b_ad.mp c8
          exact ⟨k, by omega, c, c5, x, y, ⟨by omega, c9⟩, (nb x).mp c10⟩
  exact H (a_E A) 0 (by omega) (fun i hi => by omega)
theorem m_S.mp {σ : q_S} (h : m_S σ) : q_mp σ 14 39 41 := ⟨h.k, h.p29, h.p31, h.k29, h.k31, h.z29, h.z31, by omega⟩
theorem z_kp_s {B : (Nat → Nat → Prop) → Prop} {S : Nat → Nat → Prop} {n : Nat} (h : B (z_gp S n)) (x y : Nat) : z_kp B S (n + 1) x y ↔ z_kp B S n x y ∧ ¬ z_gp S n x y := by
  constructor
  · rintro ⟨h1, h2⟩
    refine ⟨⟨h1, ?_⟩, fun h3 => h2 ⟨n, by omega, h, h3⟩⟩
    rintro ⟨j, h3, h4⟩
    exact h2 ⟨j, by omega, h4⟩
  · rintro ⟨⟨h1, h2⟩, h3⟩
    refine ⟨h1, ?_⟩
    rintro ⟨j, h4, h5⟩
    rcases Nat.lt_or_ge j n with c | c
    · exact h2 ⟨j, c, h5⟩
    · have : j = n := by omega
      subst this; exact h3 h5.2
theorem z_kp_f {B : (Nat → Nat → Prop) → Prop} {S : Nat → Nat → Prop} {n : Nat} (h : ¬ B (z_gp S n)) : z_kp B S (n + 1) = z_kp B S n := z_eqset fun x y => by
  constructor
  · rintro ⟨h1, h2⟩
    refine ⟨h1, ?_⟩
    rintro ⟨j, h3, h4⟩
    exact h2 ⟨j, by omega, h4⟩
  · rintro ⟨h1, h2⟩
    refine ⟨h1, ?_⟩
    rintro ⟨j, h4, h5⟩
    rcases Nat.lt_or_ge j n with c | c
    · exact h2 ⟨j, c, h5⟩
    · have : j = n := by omega
      subst this; exact h h5.1
theorem z_kp_0 {B : (Nat → Nat → Prop) → Prop} {S : Nat → Nat → Prop} : z_kp B S 0 = S := z_eqset fun x y => ⟨fun h => h.1, fun h => ⟨h, by rintro ⟨j, h1, -⟩; omega⟩⟩
theorem v_takeIslands {σ : q_S} {ι : Nat → Nat → Int32} {κ : Nat → Nat → Int64} {A : a_A} {q : Nat} {r : Nat → Int32} (hm : m_S σ) (hE : m_E A ι) (ok : a_okE A) (hq : q < 8) (hn : ι 15 q = a_nt A q) (hl : ι 16 q = a_la A q) (ha : ι 30 3 = nI (a_ru A 3)) (ba : a_ru A 3 ≤ 1000) (hr : z_zr κ 38 r) {R : q_O → q_S → Prop}
    (h : ∀ (κ' : Nat → Nat → Int64) (N : Nat), z_np (z_in r) N → (∀ a, a ≠ 38 → a ≠ 39 → a ≠ 41 → κ' a = κ a) → z_zr κ' 38 (z_rws (z_kp (z_bad A q) (z_in r) N) r) → R (.inl (some (.inl (nI (z_cb (z_bad A q) (z_in r) N))))) (q_put σ ι κ')) : V_PM_takeIslands 14 (nI q) (q_put σ ι κ) R := by
  intro P4 P28 P40 P93 p4 p28 p40 p93
  have v3 : vp_in 3 4 := vp_in_nI (n := 3) (by omega) (by omega)
  have d3 : (3 : Int32).toNatClampNeg = 3 := by decide
  have L1 : ∀ (c : Nat) (k : Nat) (κ' : Nat → Nat → Int64) (s : Nat → Int32), z_ca s ≤ c → z_in s = z_it False k (z_in r) → (∀ j, j < k → z_ne (z_it False j (z_in r))) → (∀ a, a ≠ 38 → a ≠ 39 → a ≠ 41 → κ' a = κ a) → z_zr κ' 41 s → z_zr κ' 38 (z_rws (z_kp (z_bad A q) (z_in r) k) r) → P28 14 (nI q) (nI (z_cb (z_bad A q) (z_in r) k)) (q_put σ ι κ') := by
    intro c
    induction c using Nat.strongRecOn with
    | ind c ih =>
    intro k κ' s hc hs hne hf h41 h38
    refine p28 _ _ _ _ ⟨hm.k, v_nextPiece hm.mp h41 (fun c0 κ2 f2 _ _ => ?_) (fun c1 κ2 p f2 h39 hp h41' => ?_)⟩
    · refine br_t rfl (h κ2 k ⟨hne, ?_⟩ (fun a x1 x2 x3 => by rw [f2 a x2 x3]; exact hf a x1 x2 x3) ?_)
      · rw [← hs]; exact z_ne_rows0.mpr c0
      · intro y hy; rw [f2 38 (by omega) (by omega)]; exact h38 y hy
    · refine br_f (by decide) ?_
      have hpe : z_in p = z_gp (z_in r) k := by
        unfold z_gp; rw [← hs]; exact z_eqset hp
      have hsub : ∀ y, y < 24 → z_sub (p y) (s y) := fun y hy x hx => (((hp x y).mp ⟨hy, hx⟩).sub).2
      have hpne : z_ne (z_in p) := by
        rw [z_eqset hp]; exact z_fc_ne (z_ne_rows.mpr c1)
      have hlt := z_ca_andn hsub hpne
      have hrm : z_in (fun y => s y &&& (p y ^^^ (-1))) = z_it False (k + 1) (z_in r) := by
        rw [z_in_andn hp, hs, z_it_s]
      have hne' : ∀ j, j < k + 1 → z_ne (z_it False j (z_in r)) := fun j hj => by
        rcases Nat.lt_or_ge j k with c | c
        · exact hne j c
        · have : j = k := by omega
          subst this; rw [← hs]; exact z_ne_rows.mpr c1
      have h38' : z_zr κ2 38 (z_rws (z_kp (z_bad A q) (z_in r) k) r) := fun y hy => by
        rw [f2 38 (by omega) (by omega)]; exact h38 y hy
      have hf' : ∀ a, a ≠ 38 → a ≠ 39 → a ≠ 41 → κ2 a = κ a := fun a x1 x2 x3 => by rw [f2 a x2 x3]; exact hf a x1 x2 x3
      have hgood : ¬ z_bad A q (z_in p) → P28 14 (nI q) (nI (z_cb (z_bad A q) (z_in r) k)) (q_put σ ι κ2) := fun hb => by
        rw [hpe] at hb
        have := ih (z_ca (fun y => s y &&& (p y ^^^ (-1)))) (by omega) (k + 1) κ2 _ (Nat.le_refl _) hrm hne' hf' h41' (by rw [z_kp_f hb]; exact h38')
        rwa [z_cb_f hb] at this
      have hbad : z_bad A q (z_in p) → ∀ (e y : Nat) (κ3 : Nat → Nat → Int64), y + e = 24 → (∀ a, a ≠ 38 → κ3 a = κ2 a) → z_zr κ3 38 (z_mix (z_rws (z_kp (z_bad A q) (z_in r) (k + 1)) r) (z_rws (z_kp (z_bad A q) (z_in r) k) r) y) → P93 14 (nI q) (nI (z_cb (z_bad A q) (z_in r) (k + 1))) (nI y) (q_put σ ι κ3) := fun hb => by
        rw [hpe] at hb
        intro e
        induction e with
        | zero =>
          intro y κ3 hy f3 h38''
          have hy : y = 24 := by omega
          subst hy
          refine p93 _ _ _ _ _ (br_t (nI_le (a := 24) (Nat.le_refl _) (by omega)) ?_)
          refine ih (z_ca (fun y => s y &&& (p y ^^^ (-1)))) (by omega) (k + 1) κ3 _ (Nat.le_refl _) hrm hne' (fun a x1 x2 x3 => by rw [f3 a x1]; exact hf' a x1 x2 x3) (fun y hy => by rw [f3 41 (by omega)]; exact h41' y hy) (fun y hy => ?_)
          rw [h38'' y hy, z_mix_lo hy]
        | succ e ih2 =>
          intro y κ3 hy f3 h38''
          have cy : (nI y).toNatClampNeg = y := nI_clamp (by omega)
          have vy : vp_in (nI y) 24 := vp_in_nI (by omega) (by omega)
          have e38 : κ3 38 y = zx (z_rws (z_kp (z_bad A q) (z_in r) k) r y) := by rw [h38'' y (by omega), z_mix_hi (Nat.le_refl y)]
          have e39 : κ3 39 y = zx (p y) := by rw [f3 39 (by omega)]; exact h39 y (by omega)
          refine p93 _ _ _ _ _ (br_f (nI_ge (b := 24) (by omega) (by omega)) ?_)
          simp only [q_put_K, q_put_P, q_put_Z, q_put_L, hm.k, hm.p28, hm.k28, hm.z28, hm.p29, hm.k29, hm.z29, cy, vy, e38, e39, true_and, forall_eq]
          rw [q_put_wL, nI_1, zx_andn]
          refine ih2 (y + 1) _ (by omega) (fun a ha => by rw [up_n ha]; exact f3 a ha) ?_
          have := h38''.up y (z_rws (z_kp (z_bad A q) (z_in r) k) r y &&& (p y ^^^ (-1)))
          rw [show z_rws (z_kp (z_bad A q) (z_in r) k) r y &&& (p y ^^^ (-1)) = z_rws (z_kp (z_bad A q) (z_in r) (k + 1)) r y by
            rw [z_rws_at (by omega), z_rws_at (by omega)]
            refine z_rw_of fun x hx => ?_
            rw [b_an, z_rw_iff, z_kp_s hb, ← hpe]
            exact ⟨fun c => ⟨c.1.2, fun c2 => c.2 c2.2⟩, fun c => ⟨⟨hx, c.1⟩, fun c2 => c.2 ⟨by omega, c2⟩⟩⟩] at this ⊢
          rwa [z_mix_up (z_rws (z_kp (z_bad A q) (z_in r) (k + 1)) r)] at this
      suffices H2 : ∀ (e y : Nat), y + e = 24 → P40 14 (nI q) (nI (z_cb (z_bad A q) (z_in r) k)) (nI (z_sm (fun y => z_pc (p y)) y)) (nI y) (q_put σ ι κ2) from H2 24 0 rfl
      intro e
      induction e with
      | zero =>
        intro y hy
        have hy : y = 24 := by omega
        subst hy
        refine p40 _ _ _ _ _ _ (br_t (nI_le (a := 24) (Nat.le_refl _) (by omega)) ?_)
        simp only [q_put_K, q_put_P, q_put_Z, q_put_I, hm.k, hm.p20, hm.k20, hm.z20, v3, d3, ha, true_or, true_and]
        have hsz : z_sm (fun y => z_pc (p y)) 24 = z_sz (z_in p) := z_sz_in rfl
        have hle : z_sm (fun y => z_pc (p y)) 24 ≤ 768 := z_ca_le p
        refine pk_le (a_ru A 3) (z_sm (fun y => z_pc (p y)) 24) (fun c2 => hgood fun c3 => ?_) (fun c2 => ?_)
        · have := c3.1; omega
        · refine v_hasPad hm hE ok hq hn hl h39 (fun c3 => br_f (by decide) (hgood fun c4 => c4.2 c3)) (fun c3 => br_t rfl fun v12 e12 => ?_)
          have hb : z_bad A q (z_in p) := ⟨by omega, c3⟩
          rw [e12, nI_1, ← z_cb_t (B := z_bad A q) (S := z_in r) (n := k) (by rw [← hpe]; exact hb)]
          exact hbad hb 24 0 κ2 rfl (fun _ _ => rfl) (by rw [z_mix0]; exact h38')
      | succ e ih2 =>
        intro y hy
        have cy : (nI y).toNatClampNeg = y := nI_clamp (by omega)
        have vy : vp_in (nI y) 24 := vp_in_nI (by omega) (by omega)
        have e39 : κ2 39 y = zx (p y) := h39 y (by omega)
        refine p40 _ _ _ _ _ _ (br_f (nI_ge (b := 24) (by omega) (by omega)) ?_)
        simp only [q_put_K, q_put_P, q_put_Z, q_put_L, hm.k, hm.p29, hm.k29, hm.z29, cy, vy, e39, true_and]
        refine v_count fun v20 e20 v21 e21 => ?_
        rw [e20, e21, nI_add, nI_1]
        exact ih2 (y + 1) (by omega)
  have L0 : ∀ (d k : Nat) (κ' : Nat → Nat → Int64), k + d = 24 → (∀ a, a ≠ 41 → κ' a = κ a) → (∀ y, y < k → κ' 41 y = zx (r y)) → P4 14 (nI q) 0 (nI k) (q_put σ ι κ') := by
    intro d
    induction d with
    | zero =>
      intro k κ' hk hf h41
      refine p4 _ _ _ _ _ (pk_le 24 k (fun _ => ?_) (fun c => by omega))
      refine L1 (z_ca r) 0 κ' r (Nat.le_refl _) rfl (fun j hj => by omega) (fun a x1 x2 x3 => hf a x3) (fun y hy => h41 y (by omega)) (fun y hy => ?_)
      rw [hf 38 (by omega), hr y hy, z_kp_0, z_rws_id]
    | succ d ih =>
      intro k κ' hk hf h41
      have ck : (nI k).toNatClampNeg = k := nI_clamp (by omega)
      have vk : vp_in (nI k) 24 := vp_in_nI (by omega) (by omega)
      refine p4 _ _ _ _ _ (pk_le 24 k (fun c => by omega) (fun _ => ?_))
      simp only [q_put_K, q_put_P, q_put_Z, q_put_L, hm.k, hm.p28, hm.k28, hm.z28, hm.p31, hm.k31, hm.z31, ck, vk, true_and, forall_eq]
      rw [q_put_wL, nI_1, hf 38 (by omega), hr k (by omega)]
      refine ih (k + 1) _ (by omega) (fun a ha => by rw [up_n ha]; exact hf a ha) fun y hy => ?_
      rw [up_s]
      by_cases c : y = k
      · rw [c, up_s]
      · rw [up_n c]; exact h41 y (by omega)
  exact L0 24 0 κ rfl (fun _ _ => rfl) (fun y hy => by omega)
