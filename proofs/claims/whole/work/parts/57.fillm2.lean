/-! ONE PLANE FILLED; ALL PLANES FILLED, BY THE REFERENCE -/
def z_nks (n : Nat) (S : Nat → Nat → Prop) (x y : Nat) : Prop := ∃ y0, y0 + n ≤ 24 ∧ y0 ≤ y ∧ y < y0 + n ∧ ∃ x0, x0 ≤ x ∧ x < x0 + n ∧ ∀ i j, i < n → j < n → S (x0 + i) (y0 + j)
theorem z_nk_s {n : Nat} {r : Nat → Int32} {x y : Nat} : z_nk n r x y ↔ z_nks n (z_in r) x y := by
  unfold z_nk z_nks z_ws z_in
  constructor
  · rintro ⟨y0, c1, c2, c3, x0, c4, c5, c6⟩
    exact ⟨y0, c1, c2, c3, x0, c4, c5, fun i j hi hj => ⟨by omega, c6 i j hi hj⟩⟩
  · rintro ⟨y0, c1, c2, c3, x0, c4, c5, c6⟩
    exact ⟨y0, c1, c2, c3, x0, c4, c5, fun i j hi hj => (c6 i j hi hj).2⟩
theorem z_nks_sub {n : Nat} {S : Nat → Nat → Prop} {x y : Nat} (h : z_nks n S x y) : S x y := by
  obtain ⟨y0, c1, c2, c3, x0, c4, c5, c6⟩ := h
  have := c6 (x - x0) (y - y0) (by omega) (by omega)
  rwa [show x0 + (x - x0) = x by omega, show y0 + (y - y0) = y by omega] at this
/-- what is left after necks and hatching -/
def z_s2 (A : a_A) (q : Nat) (S : Nat → Nat → Prop) (x y : Nat) : Prop := z_nks (a_ru A 2) S x y ∧ z_hc (a_hs A q) (a_hw A q) x y
/-- what filling makes of the free cells -/
def z_fp (A : a_A) (q : Nat) (S T : Nat → Nat → Prop) (isl pcs : Nat) (fl : Int32) : Prop := ∃ N, z_np (z_s2 A q S) N ∧ N ≤ 768 ∧ T = z_kp (z_bad A q) (z_s2 A q S) N ∧ isl = z_cb (z_bad A q) (z_s2 A q S) N ∧ pcs = N - isl ∧ ((fl = 0 ∧ ∀ x y, S x y → z_nks (a_ru A 2) S x y) ∨ (fl = 1 ∧ ¬ ∀ x y, S x y → z_nks (a_ru A 2) S x y))
theorem z_fp.uniq {A : a_A} {q : Nat} {S T T' : Nat → Nat → Prop} {isl pcs isl' pcs' : Nat} {fl fl' : Int32} (h : z_fp A q S T isl pcs fl) (h' : z_fp A q S T' isl' pcs' fl') : T = T' ∧ isl = isl' ∧ pcs = pcs' ∧ fl = fl' := by
  obtain ⟨N, a1, a2, a3, a4, a5, a6⟩ := h
  obtain ⟨M, b1, b2, b3, b4, b5, b6⟩ := h'
  have e := a1.uniq b1
  subst e
  refine ⟨by rw [a3, b3], by rw [a4, b4], by rw [a5, b5, a4, b4], ?_⟩
  rcases a6 with ⟨c1, c2⟩ | ⟨c1, c2⟩
  · rcases b6 with ⟨d1, d2⟩ | ⟨d1, d2⟩
    · rw [c1, d1]
    · exact absurd c2 d2
  · rcases b6 with ⟨d1, d2⟩ | ⟨d1, d2⟩
    · exact absurd d2 c2
    · rw [c1, d1]
theorem z_fp.np {A : a_A} {q : Nat} {S T : Nat → Nat → Prop} {isl pcs : Nat} {fl : Int32} (h : z_fp A q S T isl pcs fl) : z_np T pcs ∧ pcs ≤ 768 ∧ isl ≤ 768 ∧ (fl = 0 ∨ fl = 1) := by
  obtain ⟨N, a1, a2, a3, a4, a5, a6⟩ := h
  have := z_cb_le (z_bad A q) (z_s2 A q S) N
  refine ⟨?_, by omega, by omega, a6.imp (fun c => c.1) (fun c => c.1)⟩
  rw [a3, a5, a4]
  exact z_np_kp a1
theorem z_np_le {r : Nat → Int32} {N : Nat} (h : z_np (z_in r) N) : N ≤ 768 := by
  have H : ∀ k, k ≤ N → ∃ s : Nat → Int32, z_in s = z_it False k (z_in r) ∧ z_ca s + k ≤ z_ca r := by
    intro k
    induction k with
    | zero => intro _; exact ⟨r, rfl, by omega⟩
    | succ k ih =>
      intro hk
      obtain ⟨s, h1, h2⟩ := ih (by omega)
      have hne : z_ne (z_in s) := by rw [h1]; exact h.1 k (by omega)
      have hp : ∀ x y, z_in (z_rws (z_fc False (z_in s)) s) x y ↔ z_fc False (z_in s) x y := fun x y => by
        rw [z_rws_in]
        exact ⟨fun c => c.2.2, fun c => ⟨b_lt c.sub.2, c.sub.1, c⟩⟩
      refine ⟨fun y => s y &&& (z_rws (z_fc False (z_in s)) s y ^^^ (-1)), ?_, ?_⟩
      · rw [z_in_andn hp, h1, z_it_s]
      · have := z_ca_andn (r := s) (p := z_rws (z_fc False (z_in s)) s) (fun y hy x hx => ((hp x y).mp ⟨hy, hx⟩).sub.2) (by
          rw [z_eqset hp]; exact z_fc_ne hne)
        omega
  obtain ⟨s, -, h2⟩ := H N (Nat.le_refl _)
  have := z_ca_le r
  omega
theorem z_fp_of {A : a_A} {q N : Nat} {S : Nat → Nat → Prop} {r0 r1 r2 : Nat → Int32} {fl : Int32} (h0 : z_in r0 = S) (h1 : z_in r1 = z_in (z_rws (z_nk (a_ru A 2) r0) r0)) (h2 : z_in r2 = z_in (z_rws (fun x y => z_in r1 x y ∧ z_hc (a_hs A q) (a_hw A q) x y) r1)) (hN : z_np (z_in r2) N) (hfl : (fl = 0 ∧ ∀ y, y < 24 → z_rws (z_nk (a_ru A 2) r0) r0 y = r0 y) ∨ (fl = 1 ∧ ¬ ∀ y, y < 24 → z_rws (z_nk (a_ru A 2) r0) r0 y = r0 y)) (r3 : Nat → Int32) (h3 : z_in r3 = z_in (z_rws (z_kp (z_bad A q) (z_in r2) N) r2)) : z_fp A q S (z_in r3) (z_cb (z_bad A q) (z_in r2) N) (N - z_cb (z_bad A q) (z_in r2) N) fl := by
  have e1 : z_in r1 = z_nks (a_ru A 2) S := by
    rw [h1, ← h0]
    refine z_eqset fun x y => ?_
    rw [z_rws_in, z_nk_s]
    exact ⟨fun c => c.2.2, fun c => ⟨b_lt (z_nks_sub c).2, (z_nks_sub c).1, c⟩⟩
  have e2 : z_in r2 = z_s2 A q S := by
    rw [h2]
    refine z_eqset fun x y => ?_
    rw [z_rws_in]
    unfold z_s2
    rw [← e1]
    exact ⟨fun c => c.2.2, fun c => ⟨b_lt c.1.2, c.1.1, c⟩⟩
  have e3 : z_in r3 = z_kp (z_bad A q) (z_in r2) N := by
    rw [h3]
    refine z_eqset fun x y => ?_
    rw [z_rws_in]
    exact ⟨fun c => c.2.2, fun c => ⟨b_lt c.1.2, c.1.1, c⟩⟩
  have ef : (∀ y, y < 24 → z_rws (z_nk (a_ru A 2) r0) r0 y = r0 y) ↔ ∀ x y, S x y → z_nks (a_ru A 2) S x y := by
    rw [← h0]
    constructor
    · intro c x y hx
      have := c y hx.1
      have h9 := hx.2
      rw [← this, z_rws_at hx.1, z_rw_iff, z_nk_s] at h9
      exact h9.2
    · intro c y hy
      rw [z_rws_at hy]
      refine (z_rw_of fun x hx => ?_).symm
      rw [z_nk_s]
      exact ⟨fun c2 => c x y ⟨hy, c2⟩, fun c2 => (z_nks_sub c2).2⟩
  rw [e2] at e3 hN ⊢
  refine ⟨N, hN, ?_, e3, rfl, rfl, ?_⟩
  · rw [← e2] at hN; exact z_np_le hN
  · rw [ef] at hfl; exact hfl
theorem v_fillPlane {σ : q_S} {ι : Nat → Nat → Int32} {κ : Nat → Nat → Int64} {A : a_A} {q : Nat} {W : Nat → Nat → Int32} (hm : m_S σ) (h0 : m_0 A ι κ) (ok : a_ok A) (hq : q < a_N A) (hW : ∀ p, p < a_N A → ¬ ι 37 p = 0 → ∀ y, y < 24 → κ 32 (24 * p + y) = zx (W p y)) {R : q_O → q_S → Prop}
    (h : ∀ (κ' : Nat → Nat → Int64) (r : Nat → Int32) (isl pcs : Nat) (fl : Int32), z_fp A q (z_free A (fun p => ¬ ι 37 p = 0) W q) (z_in r) isl pcs fl → (∀ y, y < 24 → κ' 32 (24 * q + y) = zx (r y)) → (∀ k, (k < 24 * q ∨ 24 * q + 24 ≤ k) → κ' 32 k = κ 32 k) → (∀ a, a ≠ 32 → a ≠ 38 → a ≠ 39 → a ≠ 40 → a ≠ 41 → κ' a = κ a) → R (.inl none) (q_put σ (va_up (va_up (va_up ι 36 (va_up (ι 36) q fl)) 35 (va_up (ι 35) q (nI isl))) 37 (va_up (ι 37) q 1)) κ')) : V_PM_fillPlane 14 (nI q) (q_put σ ι κ) R := by
  intro P33 p33
  have hN8 := ok.1.1
  obtain ⟨hs16, hwh, -⟩ := ok.1.2 q hq
  obtain ⟨u0, u1, u2, u3, u4⟩ := ok.2.2.2.1
  have h0c := h0
  obtain ⟨hP, hD, hE, hU, -⟩ := h0
  obtain ⟨n1, n2, n3, n4, n5, -, -⟩ := hP.2 q hq
  have cq : (nI q).toNatClampNeg = q := nI_clamp (by omega)
  have vq : vp_in (nI q) 8 := vp_in_nI (by omega) (by omega)
  refine ⟨hm.k, v_findFree hm h0c ok hq hW (fun κ1 f1 e1 => ?_)⟩
  refine ⟨hm.k, hm.k, v_takeNecks hm e1 (hU 2 (by omega)) u2 u3 (fun κ2 fl f2 e2 hfl => ?_)⟩
  refine ⟨hfl.imp (fun c => c.1) (fun c => c.1), ?_⟩
  simp only [q_put_K, q_put_P, q_put_Z, hm.p26, hm.k26, hm.z26, hm.k, cq, vq, true_and, forall_eq, q_put_wI]
  refine v_hatchFree hm (by omega) e2 (by rw [up_n (by omega)]; exact n4) (by rw [up_n (by omega)]; exact n5) hs16 hwh (fun κ3 f3 e3 => ?_)
  have hE' : m_E A (va_up ι 36 (va_up (ι 36) q fl)) := by
    unfold m_E
    simp only [up_n (show (14 : Nat) ≠ 36 by omega), up_n (show (27 : Nat) ≠ 36 by omega), up_n (show (28 : Nat) ≠ 36 by omega), up_n (show (29 : Nat) ≠ 36 by omega)]
    exact hE
  refine ⟨hm.k, hm.k, v_takeIslands hm hE' ok.2.2.1 (by omega) (by rw [up_n (by omega)]; exact n1) (by rw [up_n (by omega)]; exact n2) (by rw [up_n (by omega)]; exact hU 3 (by omega)) u4 e3 (fun κ4 N hN f4 e4 => ?_)⟩
  simp only [q_ci, q_put_K, q_put_P, q_put_Z, hm.p25, hm.k25, hm.z25, hm.k, cq, vq, true_and, forall_eq, q_put_wI, up_n (show (35 : Nat) ≠ 36 by omega)]
  generalize hr0 : z_rws (z_free A (fun p => ¬ ι 37 p = 0) W q) (fun _ => 0) = r0 at e1 e2 e3 e4 hN hfl
  have hS : z_in r0 = z_free A (fun p => ¬ ι 37 p = 0) W q := by
    rw [← hr0]
    refine z_eqset fun x y => ?_
    rw [z_rws_in]
    exact ⟨fun c => c.2.2, fun c => ⟨b_lt c.1.2, c.1.1, c⟩⟩
  have hfp := z_fp_of (A := A) (q := q) hS rfl rfl hN hfl _ rfl
  suffices L : ∀ (d y : Nat) (κ' : Nat → Nat → Int64), y + d = 24 → (∀ a, a ≠ 32 → κ' a = κ4 a) → (∀ j, j < y → κ' 32 (24 * q + j) = κ4 38 j) → (∀ k, (k < 24 * q ∨ 24 * q + 24 ≤ k) → κ' 32 k = κ4 32 k) → P33 14 (nI q) (nI y) (q_put σ (va_up (va_up ι 36 (va_up (ι 36) q fl)) 35 (va_up (ι 35) q (nI (z_cb (z_bad A q) (z_in (z_rws (fun x y => z_in (z_rws (z_nk (a_ru A 2) r0) r0) x y ∧ z_hc (a_hs A q) (a_hw A q) x y) (z_rws (z_nk (a_ru A 2) r0) r0))) N)))) κ') from L 24 0 κ4 rfl (fun _ _ => rfl) (fun j hj => by omega) (fun _ _ => rfl)
  have d1 : ((1 : Int32) = 0 ∨ (1 : Int32) = 1) := Or.inr rfl
  intro d
  induction d with
  | zero =>
    intro y κ' hy hf hd ho
    refine p33 _ _ _ _ (pk_le 24 y (fun _ => ?_) (fun c => by omega))
    simp only [q_put_K, q_put_P, q_put_Z, hm.p27, hm.k27, hm.z27, hm.k, cq, vq, d1, or_true, true_and, forall_eq, q_put_wI, up_n (show (37 : Nat) ≠ 36 by omega), up_n (show (37 : Nat) ≠ 35 by omega)]
    refine h κ' _ _ _ fl hfp (fun j hj => ?_) (fun k hk => ?_) (fun a a1 a2 a3 a4 a5 => ?_)
    · rw [hd j (by omega)]; exact e4 j hj
    · rw [ho k hk, f4 32 (by omega) (by omega) (by omega), f3 32 (by omega), f2 32 (by omega) (by omega), f1 32 (by omega)]
    · rw [hf a a1, f4 a a2 a3 a5, f3 a a2, f2 a a2 a4, f1 a a2]
  | succ d ih =>
    intro y κ' hy hf hd ho
    have cy : (nI y).toNatClampNeg = y := nI_clamp (by omega)
    have vy : vp_in (nI y) 24 := vp_in_nI (by omega) (by omega)
    have e24 : (24 : Int32) * nI q + nI y = nI (24 * q + y) := by
      rw [show (24 : Int32) = nI 24 from rfl, pk_mul, nI_add]
    have cc : (nI (24 * q + y)).toNatClampNeg = 24 * q + y := nI_clamp (by omega)
    have vv : vp_in (nI (24 * q + y)) 192 := vp_in_nI (by omega) (by omega)
    refine p33 _ _ _ _ (pk_le 24 y (fun c => by omega) (fun _ => ?_))
    simp only [q_put_K, q_put_P, q_put_Z, q_put_L, hm.p28, hm.k28, hm.z28, hm.p22, hm.k22, hm.z22, hm.k, cy, vy, e24, cc, vv, true_and, forall_eq, q_put_wL]
    rw [nI_1]
    refine ih (y + 1) _ (by omega) (fun a ha => by rw [up_n ha]; exact hf a ha) (fun j hj => ?_) (fun k hk => ?_)
    · rw [up_s]
      by_cases c : j = y
      · rw [c, up_s, hf 38 (by omega)]
      · rw [up_n (by omega)]; exact hd j (by omega)
    · rw [up_s, up_n (by omega)]; exact ho k hk
/-- p is filled ahead of q -/
def a_ah (A : a_A) (p q : Nat) : Prop := a_rk A q < a_rk A p ∨ (a_rk A p = a_rk A q ∧ p < q)
theorem a_ah.irr {A : a_A} {p : Nat} (h : a_ah A p p) : False := by
  unfold a_ah at h
  rw [iI_lt] at h
  omega
theorem a_ah.as {A : a_A} {p q : Nat} (h : a_ah A p q) (h' : a_ah A q p) : False := by
  unfold a_ah at h h'
  rw [iI_lt, iI_eq] at h h'
  omega
theorem a_ah.tr {A : a_A} {p q s : Nat} (h : a_ah A p q) (h' : a_ah A q s) : a_ah A p s := by
  unfold a_ah at *
  rw [iI_lt, iI_eq] at *
  omega
theorem a_ah.tot {A : a_A} {p q : Nat} (h : p ≠ q) : a_ah A p q ∨ a_ah A q p := by
  unfold a_ah
  rw [iI_lt, iI_eq, iI_lt, iI_eq]
  omega
/-- all planes are filled -/
def z_all (A : a_A) (W : Nat → Nat → Int32) (isl pcs : Nat → Nat) (fl : Nat → Int32) : Prop := ∀ q, q < a_N A → z_fp A q (z_free A (fun p => a_ah A p q) W q) (z_in (W q)) (isl q) (pcs q) (fl q)
