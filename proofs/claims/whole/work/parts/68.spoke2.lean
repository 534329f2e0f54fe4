/-! A SPOKE OF THE CLASS -/
def z_cx (px pw k n : Nat) : Int := if k = 0 then (px : Int) + pw + n else if k = 2 then (px : Int) - 1 - n else ((px + (pw - 1) / 2 : Nat) : Int)
def z_cy (py ph k n : Nat) : Int := if k = 1 then (py : Int) + ph + n else if k = 3 then (py : Int) - 1 - n else ((py + (ph - 1) / 2 : Nat) : Int)
theorem z_cx0 (px pw n : Nat) : z_cx px pw 0 n = (px : Int) + pw + n := rfl
theorem z_cx1 (px pw n : Nat) : z_cx px pw 1 n = ((px + (pw - 1) / 2 : Nat) : Int) := rfl
theorem z_cx2 (px pw n : Nat) : z_cx px pw 2 n = (px : Int) - 1 - n := rfl
theorem z_cx3 (px pw n : Nat) : z_cx px pw 3 n = ((px + (pw - 1) / 2 : Nat) : Int) := rfl
theorem z_cy0 (py ph n : Nat) : z_cy py ph 0 n = ((py + (ph - 1) / 2 : Nat) : Int) := rfl
theorem z_cy1 (py ph n : Nat) : z_cy py ph 1 n = (py : Int) + ph + n := rfl
theorem z_cy2 (py ph n : Nat) : z_cy py ph 2 n = ((py + (ph - 1) / 2 : Nat) : Int) := rfl
theorem z_cy3 (py ph n : Nat) : z_cy py ph 3 n = (py : Int) - 1 - n := rfl
theorem z_k4 {k : Nat} (h : k < 4) : k = 0 ∨ k = 1 ∨ k = 2 ∨ k = 3 := by omega
theorem z_sk_cell {px py pw ph m k x y : Nat} (hk : k < 4) (h1 : px + pw ≤ 32) (h2 : py + ph ≤ 24) (w1 : 1 ≤ pw) (w2 : 1 ≤ ph) (hy : y < 24) : z_sk px py pw ph m k x y ↔ ∃ n, n < m ∧ (x : Int) = z_cx px pw k n ∧ (y : Int) = z_cy py ph k n ∧ x < 32 := by
  unfold z_sk
  rcases z_k4 hk with e | e | e | e <;> subst e
  · simp only [z_cx0, z_cy0]
    constructor
    · intro c
      exact ⟨x - (px + pw), by omega, by omega, by omega, by omega⟩
    · rintro ⟨n, c1, c2, c3, c4⟩
      exact ⟨c4, Or.inl ⟨trivial, by omega, by omega, by omega⟩⟩
  · simp only [z_cx1, z_cy1]
    constructor
    · intro c
      exact ⟨y - (py + ph), by omega, by omega, by omega, by omega⟩
    · rintro ⟨n, c1, c2, c3, c4⟩
      exact ⟨c4, Or.inr (Or.inr (Or.inl ⟨trivial, by omega, by omega, by omega⟩))⟩
  · simp only [z_cx2, z_cy2]
    constructor
    · intro c
      exact ⟨px - 1 - x, by omega, by omega, by omega, by omega⟩
    · rintro ⟨n, c1, c2, c3, c4⟩
      exact ⟨c4, Or.inr (Or.inl ⟨trivial, by omega, by omega, by omega⟩)⟩
  · simp only [z_cx3, z_cy3]
    constructor
    · intro c
      exact ⟨py - 1 - y, by omega, by omega, by omega, by omega⟩
    · rintro ⟨n, c1, c2, c3, c4⟩
      exact ⟨c4, Or.inr (Or.inr (Or.inr ⟨trivial, by omega, by omega, by omega⟩))⟩
theorem z_bX {σ : q_S} {a px pw k : Nat} (hx : q_I σ a 2 = nI px) (hw : q_I σ a 4 = nI pw) (h1 : px + pw ≤ 32) (w1 : 1 ≤ pw) (hk : k < 4) : f_PP_besideX σ a (nI k) = iI (z_cx px pw k 0) := by
  have eX : f_PP_middleX σ a = iI ((px + (pw - 1) / 2 : Nat) : Int) := by
    unfold f_PP_middleX
    rw [hx, hw]
    simp only [iI_nI, show (1 : Int32) = iI 1 from rfl, iI_sub]
    rw [show ((pw : Int) - 1) = ((pw - 1 : Nat) : Int) by omega, iI_div2 (by omega), iI_add]; congr 1
  unfold f_PP_besideX
  rw [eX, hx, hw]
  rcases z_k4 hk with e | e | e | e <;> subst e
  · rw [if_neg (by decide), z_cx0, iI_nI, iI_nI, iI_add]; congr 1 <;> omega
  · rw [if_pos (by decide), if_pos (by decide), z_cx1]
  · rw [if_pos (by decide), if_neg (by decide), z_cx2, iI_nI, show (1 : Int32) = iI 1 from rfl, iI_sub]; congr 1 <;> omega
  · rw [if_pos (by decide), if_pos (by decide), z_cx3]
theorem z_bY {σ : q_S} {a py ph k : Nat} (hy : q_I σ a 3 = nI py) (hh : q_I σ a 5 = nI ph) (h2 : py + ph ≤ 24) (w2 : 1 ≤ ph) (hk : k < 4) : f_PP_besideY σ a (nI k) = iI (z_cy py ph k 0) := by
  have eY : f_PP_middleY σ a = iI ((py + (ph - 1) / 2 : Nat) : Int) := by
    unfold f_PP_middleY
    rw [hy, hh]
    simp only [iI_nI, show (1 : Int32) = iI 1 from rfl, iI_sub]
    rw [show ((ph : Int) - 1) = ((ph - 1 : Nat) : Int) by omega, iI_div2 (by omega), iI_add]; congr 1
  unfold f_PP_besideY
  rw [eY, hy, hh]
  rcases z_k4 hk with e | e | e | e <;> subst e
  · rw [if_pos (by decide), if_pos (by decide), z_cy0]
  · rw [if_neg (by decide), z_cy1, iI_nI, iI_nI, iI_add]; congr 1 <;> omega
  · rw [if_pos (by decide), if_pos (by decide), z_cy2]
  · rw [if_pos (by decide), if_neg (by decide), z_cy3, iI_nI, show (1 : Int32) = iI 1 from rfl, iI_sub]; congr 1 <;> omega
theorem z_stepX {px pw k n : Nat} (hk : k < 4) : iI (z_cx px pw k n) + q_a3 k = iI (z_cx px pw k (n + 1)) := by
  rcases z_k4 hk with e | e | e | e <;> subst e
  · rw [z_cx0, z_cx0, show q_a3 0 = iI 1 from rfl, iI_add]; congr 1 <;> omega
  · rw [z_cx1, z_cx1, show q_a3 1 = iI 0 from rfl, iI_add]; congr 1 <;> omega
  · rw [z_cx2, z_cx2, show q_a3 2 = iI (-1) from rfl, iI_add]; congr 1 <;> omega
  · rw [z_cx3, z_cx3, show q_a3 3 = iI 0 from rfl, iI_add]; congr 1 <;> omega
theorem z_stepY {py ph k n : Nat} (hk : k < 4) : iI (z_cy py ph k n) + q_a4 k = iI (z_cy py ph k (n + 1)) := by
  rcases z_k4 hk with e | e | e | e <;> subst e
  · rw [z_cy0, z_cy0, show q_a4 0 = iI 0 from rfl, iI_add]; congr 1 <;> omega
  · rw [z_cy1, z_cy1, show q_a4 1 = iI 1 from rfl, iI_add]; congr 1 <;> omega
  · rw [z_cy2, z_cy2, show q_a4 2 = iI 0 from rfl, iI_add]; congr 1 <;> omega
  · rw [z_cy3, z_cy3, show q_a4 3 = iI (-1) from rfl, iI_add]; congr 1 <;> omega
theorem z_cxb {px pw k n : Nat} (hk : k < 4) (h1 : px + pw ≤ 32) (hn : n ≤ 10) : -100 ≤ z_cx px pw k n ∧ z_cx px pw k n ≤ 100 := by
  rcases z_k4 hk with e | e | e | e <;> subst e
  · rw [z_cx0]; omega
  · rw [z_cx1]; omega
  · rw [z_cx2]; omega
  · rw [z_cx3]; omega
theorem z_cyb {py ph k n : Nat} (hk : k < 4) (h1 : py + ph ≤ 24) (hn : n ≤ 10) : -100 ≤ z_cy py ph k n ∧ z_cy py ph k n ≤ 100 := by
  rcases z_k4 hk with e | e | e | e <;> subst e
  · rw [z_cy0]; omega
  · rw [z_cy1]; omega
  · rw [z_cy2]; omega
  · rw [z_cy3]; omega
/-- once off the board a spoke stays off it -/
theorem z_off {px py pw ph k n t : Nat} (hk : k < 4) (h1 : px + pw ≤ 32) (h2 : py + ph ≤ 24) (w1 : 1 ≤ pw) (w2 : 1 ≤ ph) (hn : n ≤ t) (h : ¬ (0 ≤ z_cx px pw k n ∧ z_cx px pw k n < 32 ∧ 0 ≤ z_cy py ph k n ∧ z_cy py ph k n < 24)) : ¬ (0 ≤ z_cx px pw k t ∧ z_cx px pw k t < 32 ∧ 0 ≤ z_cy py ph k t ∧ z_cy py ph k t < 24) := by
  rcases z_k4 hk with e | e | e | e <;> subst e
  · rw [z_cx0, z_cy0] at *; omega
  · rw [z_cx1, z_cy1] at *; omega
  · rw [z_cx2, z_cy2] at *; omega
  · rw [z_cx3, z_cy3] at *; omega
/-- a spoke is filled -/
def z_spk (A : a_A) (e k : Nat) : Prop := (∃ x y, y < 24 ∧ z_sk (a_px A e) (a_py A e) (a_pw A e) (a_ph A e) (a_ru A 1) k x y) ∧ ∀ x y, y < 24 → z_sk (a_px A e) (a_py A e) (a_pw A e) (a_ph A e) (a_ru A 1) k x y → z_fw A (a_pn A e) (a_pl A e) x y
theorem v_spokeIsFilled {A : a_A} {σ : q_S} {pl rl f g : Nat → Nat} {e k L : Nat} {xs : Nat → Int32} (hw : w_D A σ (q_I σ) pl rl f g) (ok : a_ok A) (hr : w_R L xs σ) (he : e < a_E A) (hk : k < 4) {R : q_O → q_S → Prop}
    (h1 : z_spk A e k → R (.inl (some (.inl 1))) σ) (h0 : ¬ z_spk A e k → R (.inl (some (.inl 0))) σ) : V_PF_spokeIsFilled 1 (g e) (nI k) σ R := by
  intro P19 P95 p19 p95
  have hc := hw.1
  obtain ⟨f1, f2, f3, f4, f5, f6, f7⟩ := hw.2.2.2.1.2.2.2 e he
  obtain ⟨g1, g2, g3, g4⟩ := ok.2.2.1.2 e he
  have u1 := ok.2.2.2.1.2.1
  have i6 : q_I σ 6 1 = nI (a_ru A 1) := hw.2.2.2.2.2.1.2 1 (by omega)
  have v1 : vp_in 1 4 := vp_in_nI (n := 1) (by omega) (by omega)
  have d1 : (1 : Int32).toNatClampNeg = 1 := by decide
  have ck : (nI k).toNatClampNeg = k := nI_clamp (by omega)
  have vk : vp_in (nI k) 4 := vp_in_nI (by omega) (by omega)
  have r3 := hr.2.2.2.1
  have r4 := hr.2.2.2.2.1
  refine ⟨f1, fun v2 e2 => ⟨f1, fun v4 e4 => ?_⟩⟩
  rw [z_bX f4 f6 g1 g3 hk] at e2
  rw [z_bY f5 f7 g2 g4 hk] at e4
  subst e2 e4
  suffices Ln : ∀ (d n : Nat), n + d = a_ru A 1 → (∀ t, t < n → (0 ≤ z_cx (a_px A e) (a_pw A e) k t ∧ z_cx (a_px A e) (a_pw A e) k t < 32 ∧ 0 ≤ z_cy (a_py A e) (a_ph A e) k t ∧ z_cy (a_py A e) (a_ph A e) k t < 24) ∧ ∀ x y : Nat, (x : Int) = z_cx (a_px A e) (a_pw A e) k t → (y : Int) = z_cy (a_py A e) (a_ph A e) k t → z_fw A (a_pn A e) (a_pl A e) x y) → P19 1 (g e) (nI k) (iI (z_cx (a_px A e) (a_pw A e) k n)) (iI (z_cy (a_py A e) (a_ph A e) k n)) (if n = 0 then 0 else 1) (nI n) σ from Ln (a_ru A 1) 0 (by omega) (fun t ht => by omega)
  have hend : ∀ n, n ≤ a_ru A 1 → (∀ t, t < n → (0 ≤ z_cx (a_px A e) (a_pw A e) k t ∧ z_cx (a_px A e) (a_pw A e) k t < 32 ∧ 0 ≤ z_cy (a_py A e) (a_ph A e) k t ∧ z_cy (a_py A e) (a_ph A e) k t < 24) ∧ ∀ x y : Nat, (x : Int) = z_cx (a_px A e) (a_pw A e) k t → (y : Int) = z_cy (a_py A e) (a_ph A e) k t → z_fw A (a_pn A e) (a_pl A e) x y) → (∀ t, n ≤ t → t < a_ru A 1 → ¬ (0 ≤ z_cx (a_px A e) (a_pw A e) k t ∧ z_cx (a_px A e) (a_pw A e) k t < 32 ∧ 0 ≤ z_cy (a_py A e) (a_ph A e) k t ∧ z_cy (a_py A e) (a_ph A e) k t < 24)) → P95 (if n = 0 then 0 else 1) σ := fun n hn hin hout => by
    by_cases c : n = 0
    · rw [if_pos c]
      refine p95 _ _ ⟨Or.inl rfl, h0 ?_⟩
      rintro ⟨⟨x, y, c1, c2⟩, -⟩
      obtain ⟨t, q1, q2, q3, q4⟩ := (z_sk_cell hk g1 g2 g3 g4 c1).mp c2
      exact hout t (by omega) q1 ⟨by omega, by omega, by omega, by omega⟩
    · rw [if_neg c]
      refine p95 _ _ ⟨Or.inr rfl, h1 ⟨?_, fun x y c1 c2 => ?_⟩⟩
      · have h9 := (hin 0 (by omega)).1
        refine ⟨(z_cx (a_px A e) (a_pw A e) k 0).toNat, (z_cy (a_py A e) (a_ph A e) k 0).toNat, by omega, ?_⟩
        exact (z_sk_cell hk g1 g2 g3 g4 (by omega)).mpr ⟨0, by omega, by omega, by omega, by omega⟩
      · obtain ⟨t, q1, q2, q3, q4⟩ := (z_sk_cell hk g1 g2 g3 g4 c1).mp c2
        rcases Nat.lt_or_ge t n with c3 | c3
        · exact (hin t c3).2 x y q2 q3
        · exact absurd ⟨by omega, by omega, by omega, by omega⟩ (hout t c3 q1)
  intro d
  induction d with
  | zero =>
    intro n hn hin
    refine p19 _ _ _ _ _ _ _ _ ?_
    simp only [hc.k, hc.p5, hc.k6, hc.z6, v1, d1, i6, true_or, true_and]
    exact br_t (nI_le (by omega) (by omega)) (hend n (by omega) hin (fun t a b => by omega))
  | succ d ih =>
    intro n hn hin
    have bx := z_cxb (px := a_px A e) (pw := a_pw A e) (k := k) (n := n) hk g1 (by omega)
    have bY := z_cyb (py := a_py A e) (ph := a_ph A e) (k := k) (n := n) hk g2 (by omega)
    refine p19 _ _ _ _ _ _ _ _ ?_
    simp only [hc.k, hc.p5, hc.k6, hc.z6, v1, d1, i6, true_or, true_and]
    refine br_f (nI_ge (by omega) (by omega)) ?_
    rw [i2l (by omega) (by omega), i2l (by omega) (by omega)]
    have ob := z_onBoard (iL (z_cx (a_px A e) (a_pw A e) k n)) (iL (z_cy (a_py A e) (a_ph A e) k n))
    rw [iL_t (by omega) (by omega), iL_t (by omega) (by omega)] at ob
    rcases ob with ⟨o1, o2⟩ | ⟨o1, o2, o3, o4, o5⟩
    · exact br_t o1 (hend n (by omega) hin (fun t a b => z_off hk g1 g2 g3 g4 a o2))
    · refine br_f (by rw [o1]; decide) ⟨f1, f1, ?_⟩
      obtain ⟨y, hy⟩ : ∃ y : Nat, z_cy (a_py A e) (a_ph A e) k n = y := ⟨_, (Int.toNat_of_nonneg o4).symm⟩
      obtain ⟨x, hx⟩ : ∃ x : Nat, z_cx (a_px A e) (a_pw A e) k n = x := ⟨_, (Int.toNat_of_nonneg o2).symm⟩
      have f2' : q_I σ (g e) 0 = a_pn A e := f2
      have f3' : q_I σ (g e) 1 = a_pl A e := f3
      rw [f2', f3', hy, ← iI_nI, hx]
      have := v_filledRow (A := A) (σ := σ) (ι := q_I σ) (κ := q_L σ) (n := a_pn A e) (l := a_pl A e) (y := y) hw ok (by omega) (R := q_ci (fun v11 σ12 => ((¬ (v11 &&& (f_PF_span (iL x) (iL x))) = (0 : Int32) → (q_K σ12 10000003 = 1000 ∨ q_K σ12 10000003 = 2000) ∧ vp_in (nI k) (q_Z σ12 10000003) ∧ ∀ v14 : Int32, v14 = iI x + (q_I σ12 10000003 (nI k).toNatClampNeg) → (q_K σ12 10000004 = 1000 ∨ q_K σ12 10000004 = 2000) ∧ vp_in (nI k) (q_Z σ12 10000004) ∧ ∀ v17 : Int32, v17 = nI y + (q_I σ12 10000004 (nI k).toNatClampNeg) → ∀ v20 : Int32, v20 = nI n + (1 : Int32) → P19 1 (g e) (nI k) v14 v17 (1 : Int32) v20 σ12) ∧ (¬ (¬ (v11 &&& (f_PF_span (iL x) (iL x))) = (0 : Int32)) → R (.inl (some (.inl (0 : Int32)))) σ12))) (fun n9 σ9 => R (.inr n9) σ9)) ?_
      · exact this
      refine br_c (fun c => ?_) (fun c => h0 ?_)
      · show ((q_K σ 10000003 = 1000 ∨ q_K σ 10000003 = 2000) ∧ vp_in (nI k) (q_Z σ 10000003) ∧ ∀ v14 : Int32, v14 = iI x + (q_I σ 10000003 (nI k).toNatClampNeg) → (q_K σ 10000004 = 1000 ∨ q_K σ 10000004 = 2000) ∧ vp_in (nI k) (q_Z σ 10000004) ∧ ∀ v17 : Int32, v17 = nI y + (q_I σ 10000004 (nI k).toNatClampNeg) → ∀ v20 : Int32, v20 = nI n + (1 : Int32) → P19 1 (g e) (nI k) v14 v17 (1 : Int32) v20 σ)
        simp only [r3.1, r3.2.1, r3.2.2, r4.1, r4.2.1, r4.2.2, vk, ck, or_true, true_and, forall_eq]
        rw [nI_1, ← hx, iI_nI y, ← hy, z_stepX hk, z_stepY hk]
        have hnx := ih (n + 1) (by omega) (fun t ht => ?_)
        · rw [if_neg (by omega)] at hnx; exact hnx
        · rcases Nat.lt_or_ge t n with c3 | c3
          · exact hin t c3
          · have : t = n := by omega
            subst this
            refine ⟨⟨o2, o3, o4, o5⟩, fun x' y' q1 q2 => ?_⟩
            have ex : x' = x := by omega
            have ey : y' = y := by omega
            subst ex ey
            obtain ⟨j, -, hj⟩ := b_ne0.mp c
            rw [b_ad, z_rw_iff, z_span, iL_t (by omega) (by omega)] at hj
            have : j = x' := by omega
            subst this
            exact hj.1.2
      · rintro ⟨-, c2⟩
        have c := Decidable.not_not.mp c
        have h9 := c2 x y (by omega) ((z_sk_cell hk g1 g2 g3 g4 (by omega)).mpr ⟨n, by omega, hx.symm, hy.symm, by omega⟩)
        refine b_z.mp c x ?_
        rw [b_ad, z_rw_iff, z_span, iL_t (by omega) (by omega)]
        exact ⟨⟨by omega, h9⟩, by omega, by omega, by omega⟩
theorem k_spoke {A : a_A} {σ : q_S} {x k w : Int32} {L : Nat} {xs : Nat → Int32} (h : w_C A σ) (ok : a_ok A) (hr : w_R L xs σ) (hn : q_n σ < 1000000) (hk : q_K σ 42 = 1001) (hz : q_Z σ 42 = 1) {R : q_O → q_S → Prop}
    (h1 : (¬ ∃ e kk ww : Nat, x = nI e ∧ e < a_E A ∧ k = nI kk ∧ kk < 4 ∧ w = nI ww ∧ ww < 3) → ∀ τ, w_C A τ → w_fo σ τ → R (.inl (some (.inl 1))) τ)
    (h0 : ∀ e kk ww : Nat, x = nI e → e < a_E A → k = nI kk → kk < 4 → w = nI ww → ww < 3 → ∀ (v : Int32) τ, ((ww = 0 ∧ z_spk A e kk ∧ v = 1) ∨ (ww = 0 ∧ ¬ z_spk A e kk ∧ v = 0) ∨ (ww = 1 ∧ v = iI (z_cx (a_px A e) (a_pw A e) kk 0)) ∨ (ww = 2 ∧ v = iI (z_cy (a_py A e) (a_ph A e) kk 0))) → w_C A τ → w_fo σ τ → q_L τ 42 0 = v.toInt64 → R (.inl (some (.inl 0))) τ) : V_LW_spoke 1 x k w 42 σ R := by
  obtain ⟨pl, rl, f, g, hw⟩ := h
  have hc := hw.1
  have hE := hw.2.2.2.1
  have hE10 := ok.2.2.1.1
  obtain ⟨t1, t2, t3, t4, t5⟩ := w_thr 9 hw hn (fun _ _ => rfl)
  refine ⟨hc.k, ?_⟩
  intro P17 P45 P89 P110 p17 p45 p89 p110
  have ht17 : (¬ ∃ e kk ww : Nat, x = nI e ∧ e < a_E A ∧ k = nI kk ∧ kk < 4 ∧ w = nI ww ∧ ww < 3) → P17 σ := fun c2 => p17 _ ⟨t1, fun v2 e2 σ3 e3 => ⟨by rw [e2]; exact t2, by rw [e2, e3]; exact ⟨t3, h1 c2 _ t4 t5⟩⟩⟩
  have ht45 : (¬ ∃ e kk ww : Nat, x = nI e ∧ e < a_E A ∧ k = nI kk ∧ kk < 4 ∧ w = nI ww ∧ ww < 3) → P45 σ := fun c2 => p45 _ ⟨t1, fun v2 e2 σ3 e3 => ⟨by rw [e2]; exact t2, by rw [e2, e3]; exact ⟨t3, h1 c2 _ t4 t5⟩⟩⟩
  refine br_c (fun c => ht17 ?_) (fun c => ⟨hc.k, ?_⟩)
  · rintro ⟨e, kk, ww, q1, q2, -⟩
    rw [q1] at c
    exact nI_pos (by omega) c
  obtain ⟨e, he31, rfl⟩ := nI_of c
  rw [← q_put_self σ]
  simp only [q_put_P, q_put_K, hc.p4]
  refine ⟨hE.1.1, v_sizeL hE.1.1 hE.2.2.1 (br_c (fun c2 => ?_) (fun c2 => ht17 ?_))⟩
  · have he : e < a_E A := (nI_ltI he31 (by omega)).mp c2
    obtain ⟨f1, f2, f3, f4, f5, f6, f7⟩ := hE.2.2.2 e he
    obtain ⟨g1, g2, g3, g4⟩ := ok.2.2.1.2 e he
    refine br_c (fun c3 => ht45 ?_) (fun c3 => br_c (fun c4 => ht45 ?_) (fun c4 => br_c (fun c5 => ht45 ?_) (fun c5 => br_c (fun c6 => ?_) (fun c6 => ht45 ?_))))
    · rintro ⟨e', kk, ww, q1, q2, q3, q4, -⟩
      rw [q3] at c3
      exact nI_pos (by omega) c3
    · rintro ⟨e', kk, ww, q1, q2, q3, q4, -⟩
      rw [q3] at c4
      exact nI_ge (b := 4) q4 (by omega) c4
    · rintro ⟨e', kk, ww, q1, q2, q3, q4, q5, q6⟩
      rw [q5] at c5
      exact nI_pos (by omega) c5
    · obtain ⟨kk, k31, rfl⟩ := nI_of c3
      obtain ⟨ww, w31, rfl⟩ := nI_of c5
      have hkk : kk < 4 := by
        rcases Nat.lt_or_ge kk 4 with q | q
        · exact q
        · exact absurd (nI_le (a := 4) q k31) c4
      have hww : ww < 3 := by
        rcases Nat.lt_or_ge ww 3 with q | q
        · exact q
        · exact absurd c6 (nI_ge (a := 2) (by omega) w31)
      simp only [q_put_P, q_put_K, hc.k, hc.p4, hE.1.1, true_and]
      refine v_getL hE.1 hE.2.2.1 he (by omega) hE.2.1 ⟨f1, ?_⟩
      have out : ∀ v : Int32, ((ww = 0 ∧ z_spk A e kk ∧ v = 1) ∨ (ww = 0 ∧ ¬ z_spk A e kk ∧ v = 0) ∨ (ww = 1 ∧ v = iI (z_cx (a_px A e) (a_pw A e) kk 0)) ∨ (ww = 2 ∧ v = iI (z_cy (a_py A e) (a_ph A e) kk 0))) → (q_ci (fun v4 σ5 => q_K σ5 42 = 1001 ∧ vp_in (0 : Int32) (q_Z σ5 42) ∧ ∀ σ6 : q_S, σ6 = q_wL σ5 42 (0 : Int32).toNatClampNeg v4.toInt64 → R (.inl (some (.inl (0 : Int32)))) σ6) (fun n2 σ3 => q_K σ3 n2 = 9 ∧ R (.inl (some (.inl (1 : Int32)))) σ3)) (.inl (some (.inl v))) (q_put σ (q_I σ) (q_L σ)) := fun v hv => by
        refine v_out (R := fun τ => R (.inl (some (.inl 0))) τ) hk hz ?_
        exact h0 e kk ww rfl he rfl hkk rfl hww v _ hv hw.c (w_fo_put (fun _ _ => rfl) (fun t ht => by rw [up_n ht])) (by rw [q_put_L, up_o])
      refine br_c (fun c7 => br_c (fun c8 => ⟨f1, p110 _ _ (out _ (Or.inr (Or.inr (Or.inr ⟨?_, ?_⟩))))⟩) (fun c8 => ⟨f1, p110 _ _ (out _ (Or.inr (Or.inr (Or.inl ⟨?_, ?_⟩))))⟩)) (fun c7 => ⟨hc.k, ?_⟩)
      · have q1 : ww ≠ 0 := fun q => by subst q; exact c7 rfl
        have q2 : ww ≠ 1 := fun q => by subst q; exact c8 rfl
        omega
      · exact z_bY f5 f7 g2 g4 hkk
      · exact (nI_eq w31 (by omega)).mp (Decidable.not_not.mp c8)
      · exact z_bX f4 f6 g1 g3 hkk
      · have w0 : ww = 0 := (nI_eq w31 (by omega)).mp (Decidable.not_not.mp c7)
        refine v_spokeIsFilled (A := A) hw ok hr he hkk (fun c8 => br_f (by decide) (p89 _ _ (out 1 (Or.inl ⟨w0, c8, rfl⟩)))) (fun c8 => br_t rfl (p89 _ _ (out 0 (Or.inr (Or.inl ⟨w0, c8, rfl⟩)))))
    · rintro ⟨e', kk, ww, q1, q2, q3, q4, q5, q6⟩
      rw [q5] at c6
      exact c6 (nI_le (b := 2) (by omega) (by omega))
  · rintro ⟨e', kk, ww, q1, q2, -⟩
    have : e = e' := (nI_eq he31 (by omega)).mp q1
    subst this
    exact c2 (nI_lt q2 (by omega))
