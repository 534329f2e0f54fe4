/-! THE REFERENCE FILLS -/
def m_R (A : a_A) (ι : Nat → Nat → Int32) (κ : Nat → Nat → Int64) (q : Nat) : Prop := ι 18 q = nI (a_rc A q) ∧ ∃ (nn : Nat → Nat) (XX YY : Nat → Nat → Nat), (∀ j, j < a_rc A q → ι 19 (4 * q + j) = nI (nn j) ∧ 1 ≤ nn j ∧ nn j ≤ 12 ∧ ∀ k, k < nn j → κ 20 (12 * (4 * q + j) + k) = iL (XX j k) ∧ κ 21 (12 * (4 * q + j) + k) = iL (YY j k) ∧ XX j k ≤ 32 ∧ YY j k ≤ 24) ∧ ∀ x y, x < 32 → y < 24 → bt (a_ou A q y) x = z_par (fun j => z_rp (nn j) (XX j) (YY j) x y) (a_rc A q)
def m_O (A : a_A) (ι : Nat → Nat → Int32) (κ : Nat → Nat → Int64) (q : Nat) : Prop := (∀ j, a_rc A q < j → j < 4 → ι 19 (4 * q + j) = 0) ∧ (a_rc A q < 4 → ι 19 (4 * q + a_rc A q) = nI (a_oc A q) ∧ ∀ k, k < a_oc A q → κ 20 (12 * (4 * q + a_rc A q) + k) = iL (a_ox A q k) ∧ κ 21 (12 * (4 * q + a_rc A q) + k) = iL (a_oy A q k))
def m_P (A : a_A) (ι : Nat → Nat → Int32) (κ : Nat → Nat → Int64) : Prop := ι 14 2 = nI (a_N A) ∧ ∀ q, q < a_N A → ι 15 q = a_nt A q ∧ ι 16 q = a_la A q ∧ ι 17 q = a_rk A q ∧ ι 22 q = nI (a_hs A q) ∧ ι 23 q = nI (a_hw A q) ∧ m_R A ι κ q ∧ m_O A ι κ q
def m_U (A : a_A) (ι : Nat → Nat → Int32) : Prop := ∀ j, j < 4 → ι 30 j = nI (a_ru A j)
def m_0 (A : a_A) (ι : Nat → Nat → Int32) (κ : Nat → Nat → Int64) : Prop := m_P A ι κ ∧ m_D A ι κ ∧ m_E A ι ∧ m_U A ι ∧ ι 14 1 = nI (a_ly A)
def a_okU (A : a_A) : Prop := a_ru A 0 ≤ 5 ∧ a_ru A 1 ≤ 4 ∧ 1 ≤ a_ru A 2 ∧ a_ru A 2 ≤ 5 ∧ a_ru A 3 ≤ 1000
def a_okP (A : a_A) : Prop := a_N A ≤ 8 ∧ ∀ q, q < a_N A → a_hs A q ≤ 16 ∧ a_hw A q ≤ a_hs A q ∧ a_rc A q ≤ 4 ∧ a_oc A q ≤ 12 ∧ (a_rc A q = 4 → a_oc A q = 0) ∧ ∀ k, k < a_oc A q → a_ox A q k ≤ 32 ∧ a_oy A q k ≤ 24
def a_ok (A : a_A) : Prop := a_okP A ∧ a_okD A ∧ a_okE A ∧ a_okU A ∧ 1 ≤ a_ly A ∧ a_ly A ≤ 4
theorem m_0.fr {A : a_A} {ι ι' : Nat → Nat → Int32} {κ κ' : Nat → Nat → Int64} (h : m_0 A ι κ) (hι : ∀ a, a < 31 → ι' a = ι a) (hκ : ∀ a, a < 31 → κ' a = κ a) : m_0 A ι' κ' := by
  have i14 := hι 14 (by omega)
  have i15 := hι 15 (by omega)
  have i16 := hι 16 (by omega)
  have i17 := hι 17 (by omega)
  have i18 := hι 18 (by omega)
  have i19 := hι 19 (by omega)
  have i22 := hι 22 (by omega)
  have i23 := hι 23 (by omega)
  have i24 := hι 24 (by omega)
  have i25 := hι 25 (by omega)
  have i27 := hι 27 (by omega)
  have i28 := hι 28 (by omega)
  have i29 := hι 29 (by omega)
  have i30 := hι 30 (by omega)
  have k20 := hκ 20 (by omega)
  have k21 := hκ 21 (by omega)
  have k26 := hκ 26 (by omega)
  unfold m_0 m_P m_R m_O m_D m_E m_U at *
  simp only [i14, i15, i16, i17, i18, i19, i22, i23, i24, i25, i27, i28, i29, i30, k20, k21, k26]
  exact h
/-- barred by planes -/
def z_pl (A : a_A) (Dn : Nat → Prop) (W : Nat → Nat → Int32) (q x y : Nat) : Prop := ∃ p, p < a_N A ∧ Dn p ∧ a_la A p = a_la A q ∧ ¬ a_nt A p = a_nt A q ∧ z_nb (a_ru A 0) (W p) x y
def z_free (A : a_A) (Dn : Nat → Prop) (W : Nat → Nat → Int32) (q x y : Nat) : Prop := z_in (a_ou A q) x y ∧ ¬ z_db A q x y ∧ ¬ z_eb A q x y ∧ ¬ z_pl A Dn W q x y
theorem z_free_congr {A : a_A} {Dn Dm : Nat → Prop} {W V : Nat → Nat → Int32} {q : Nat} (h1 : ∀ p, p < a_N A → (Dn p ↔ Dm p)) (h2 : ∀ p, p < a_N A → Dm p → z_in (W p) = z_in (V p)) : z_free A Dn W q = z_free A Dm V q := z_eqset fun x y => by
  unfold z_free
  have e : z_pl A Dn W q x y ↔ z_pl A Dm V q x y := by
    unfold z_pl z_nb
    constructor
    · rintro ⟨p, c1, c2, c3, c4, c5⟩
      have c2' := (h1 p c1).mp c2
      rw [h2 p c1 c2'] at c5
      exact ⟨p, c1, c2', c3, c4, c5⟩
    · rintro ⟨p, c1, c2, c3, c4, c5⟩
      rw [← h2 p c1 c2] at c5
      exact ⟨p, c1, (h1 p c1).mpr c2, c3, c4, c5⟩
  rw [e]
theorem v_findFree {σ : q_S} {ι : Nat → Nat → Int32} {κ : Nat → Nat → Int64} {A : a_A} {q : Nat} {W : Nat → Nat → Int32} (hm : m_S σ) (h0 : m_0 A ι κ) (ok : a_ok A) (hq : q < a_N A) (hW : ∀ p, p < a_N A → ¬ ι 37 p = 0 → ∀ y, y < 24 → κ 32 (24 * p + y) = zx (W p y)) {R : q_O → q_S → Prop}
    (h : ∀ κ' : Nat → Nat → Int64, (∀ a, a ≠ 38 → κ' a = κ a) → z_zr κ' 38 (z_rws (z_free A (fun p => ¬ ι 37 p = 0) W q) (fun _ => 0)) → R (.inl none) (q_put σ ι κ')) : V_PM_findFree 14 (nI q) (q_put σ ι κ) R := by
  intro P2 P13 P51 P52 P63 p2 p13 p51 p52 p63
  have hN8 := ok.1.1
  have hE10 := ok.2.2.1.1
  obtain ⟨u0, u1, u2, u3, u4⟩ := ok.2.2.2.1
  suffices L : ∀ (d y : Nat) (κ' : Nat → Nat → Int64), y + d = 24 → (∀ a, a ≠ 38 → κ' a = κ a) → (∀ j, j < y → κ' 38 j = zx (z_rw (fun x => z_free A (fun p => ¬ ι 37 p = 0) W q x j))) → P2 14 (nI q) (nI y) (q_put σ ι κ') from L 24 0 κ rfl (fun _ _ => rfl) (fun j hj => by omega)
  intro d
  induction d with
  | zero =>
    intro y κ' hy hf h38
    refine p2 _ _ _ _ (pk_le 24 y (fun _ => h κ' hf fun j hj => ?_) (fun c => by omega))
    rw [h38 j (by omega), z_rws_at hj]
  | succ d ih =>
    intro y κ' hy hf h38
    have h0' : m_0 A ι κ' := h0.fr (fun _ _ => rfl) (fun a ha => hf a (by omega))
    obtain ⟨hP, hD, hE, hU, -⟩ := h0'
    obtain ⟨n1, n2, n3, n4, n5, ⟨r1, nn, XX, YY, r2, r3⟩, -⟩ := hP.2 q hq
    have rc4 := (ok.1.2 q hq).2.2.1
    have cy : (nI y).toNatClampNeg = y := nI_clamp (by omega)
    have vy : vp_in (nI y) 24 := vp_in_nI (by omega) (by omega)
    refine p2 _ _ _ _ (pk_le 24 y (fun c => by omega) (fun _ => ?_))
    have Lp : ∀ (e k : Nat) (v : Int32), k + e = a_E A → (∀ x, bt v x = true ↔ z_in (a_ou A q) x y ∧ ¬ z_db A q x y ∧ ¬ ∃ i, i < k ∧ z_pb (a_pl A i = a_la A q) (a_pn A i = a_nt A q) (a_px A i) (a_py A i) (a_pw A i) (a_ph A i) (a_ru A 0) (a_ru A 1) x y) → P63 14 (nI q) (nI y) (zx v) (nI k) (q_put σ ι κ') := by
      intro e
      induction e with
      | zero =>
        intro k v hk hv
        have hk : k = a_E A := by omega
        subst hk
        refine p63 _ _ _ _ _ _ ⟨hm.k, pk_le (a_E A) (a_E A) (fun _ => ⟨hm.k, hm.k, ?_⟩) (fun c => by omega) hE.1⟩
        refine v_barredByPlanes (W := W) hm hP.1 hN8 (by omega) (hU 0 (by omega)) u0 (by omega) (fun p c1 c2 y c3 => by rw [hf 32 (by omega)]; exact hW p c1 c2 y c3) ?_
        simp only [q_cl', q_put_K, q_put_P, q_put_Z, hm.p28, hm.k28, hm.z28, cy, vy, true_and, forall_eq]
        rw [zx_andn, q_put_wL, nI_1]
        refine ih (y + 1) _ (by omega) (fun a ha => by rw [up_n ha]; exact hf a ha) (fun j hj => ?_)
        rw [up_s]
        by_cases c : j = y
        · subst c
          rw [up_s]
          congr 1
          refine z_rw_of fun x hx => ?_
          rw [b_an, hv, z_rw_iff]
          constructor
          · rintro ⟨⟨c1, c2, c3⟩, c4⟩
            refine ⟨c1, c2, c3, ?_⟩
            rintro ⟨p, d1, d2, d3, d4, d5⟩
            refine c4 ⟨hx, p, d1, d2, ?_, ?_, d5⟩
            · rw [(hP.2 p d1).2.1, n2]; exact d3
            · rw [(hP.2 p d1).1, n1]; exact d4
          · rintro ⟨c1, c2, c3, c4⟩
            refine ⟨⟨c1, c2, c3⟩, ?_⟩
            rintro ⟨-, p, d1, d2, d3, d4, d5⟩
            rw [(hP.2 p d1).2.1, n2] at d3
            rw [(hP.2 p d1).1, n1] at d4
            exact c4 ⟨p, d1, d2, d3, d4, d5⟩
        · rw [up_n c]; exact h38 j (by omega)
      | succ e ih2 =>
        intro k v hk hv
        obtain ⟨f1, f2, f3, f4, f5, f6⟩ := hE.2 k (by omega)
        have b0 := ok.2.2.1.1
        obtain ⟨g1, g2, g3, g4⟩ := ok.2.2.1.2 k (by omega)
        refine p63 _ _ _ _ _ _ ⟨hm.k, pk_le (a_E A) k (fun c => by omega) (fun _ => ⟨hm.k, ?_⟩) hE.1⟩
        refine v_barredByPad hm (by omega) (by omega) f3 f4 f5 f6 (hU 0 (by omega)) (hU 1 (by omega)) g1 g2 g3 g4 (by omega) (by omega) (by omega) (fun u hu v18 e18 v19 e19 => ?_)
        rw [f2, n2, f1, n1] at hu
        rw [e18, e19, zx_andn, nI_1]
        refine ih2 (k + 1) _ (by omega) fun x => ?_
        rw [b_an, hv, hu]
        constructor
        · rintro ⟨⟨c1, c2, c3⟩, c4⟩
          refine ⟨c1, c2, ?_⟩
          rintro ⟨i, d1, d2⟩
          rcases Nat.lt_or_ge i k with c | c
          · exact c3 ⟨i, c, d2⟩
          · have : i = k := by omega
            subst this; exact c4 d2
        · rintro ⟨c1, c2, c3⟩
          refine ⟨⟨c1, c2, ?_⟩, fun c4 => c3 ⟨k, by omega, c4⟩⟩
          rintro ⟨i, d1, d2⟩
          exact c3 ⟨i, by omega, d2⟩
    have Lx : ∀ (e x : Nat) (v : Int32), x + e = 32 → (∀ j, bt v j = true ↔ j < x ∧ z_in (a_ou A q) j y ∧ ¬ z_db A q j y) → P13 14 (nI q) (nI y) (zx v) (nI x) (q_put σ ι κ') := by
      intro e
      induction e with
      | zero =>
        intro x v hx hv
        refine p13 _ _ _ _ _ _ (pk_le 32 x (fun _ => Lp (a_E A) 0 v (by omega) fun j => ?_) (fun c => by omega))
        rw [hv]
        constructor
        · rintro ⟨c1, c2, c3⟩
          exact ⟨c2, c3, by rintro ⟨i, c4, -⟩; omega⟩
        · rintro ⟨c1, c2, -⟩
          exact ⟨by have := b_lt c1.2; omega, c1, c2⟩
      | succ e ih2 =>
        intro x v hx hv
        have hstep : ∀ u : Int32, (∀ j, bt u j = true ↔ j = x ∧ z_in (a_ou A q) j y ∧ ¬ z_db A q j y) → P52 14 (nI q) (nI y) (nI x) (zx u) (zx v) (q_put σ ι κ') := fun u hu => by
          refine p52 _ _ _ _ _ _ _ fun v1 e1 v2 e2 => ?_
          rw [e1, e2, zx_or, nI_1]
          refine ih2 (x + 1) _ (by omega) fun j => ?_
          rw [b_ao, hv, hu]
          constructor
          · rintro (c | c)
            · exact ⟨by omega, c.2⟩
            · exact ⟨by omega, c.2⟩
          · rintro ⟨c1, c2⟩
            rcases Nat.lt_or_ge j x with c | c
            · exact Or.inl ⟨c, c2⟩
            · exact Or.inr ⟨by omega, c2⟩
        have hskip : ¬ (z_in (a_ou A q) x y ∧ ¬ z_db A q x y) → P51 14 (nI q) (nI y) (nI x) (zx v) (q_put σ ι κ') := fun c => by
          refine p51 _ _ _ _ _ _ ?_
          rw [← zx_0]
          refine hstep 0 fun j => ?_
          rw [b_0]
          constructor
          · intro c2; cases c2
          · rintro ⟨rfl, c2⟩; exact absurd c2 c
        have hb := r3 x y (by omega) (by omega)
        refine p13 _ _ _ _ _ _ (pk_le 32 x (fun c => by omega) (fun _ => ⟨hm.k, ?_⟩))
        refine v_isInside (nn := nn) (XX := XX) (YY := YY) hm (by omega) r1 rc4 r2 (by omega) (by omega) ?_
        rw [← hb]
        refine br_c (fun c => hskip fun c2 => ?_) (fun c => ⟨hm.k, v_isInObstacle hm hD ok.2.1 (by omega) n1 n2 (hU 0 (by omega)) u0 (by omega) (by omega) (fun c2 => br_t (by decide) (hskip fun c3 => c3.2 c2)) (fun c2 => br_f (by decide) ?_)⟩)
        · rw [z_fl_0] at c
          have := c2.1.2
          rw [c] at this; cases this
        · rw [z_bit (by omega)]
          refine hstep _ fun j => ?_
          rw [z_span, iL_t (by omega) (by omega)]
          have c3 : bt (a_ou A q y) x = true := by
            cases c4 : bt (a_ou A q y) x
            · rw [c4] at c; exact absurd rfl c
            · rfl
          constructor
          · intro c4
            have : j = x := by omega
            subst this; exact ⟨rfl, ⟨by omega, c3⟩, c2⟩
          · rintro ⟨rfl, c4⟩; omega
    have := Lx 32 0 0 (by omega) (fun j => by
      rw [b_0]
      constructor
      · intro c; cases c
      · intro c; omega)
    rw [zx_0] at this
    exact this
