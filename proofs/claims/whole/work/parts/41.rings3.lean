/-! PIECES AND RINGS OF THE REFERENCE -/
/-- an array of the reference: its field, name, kind, length -/
def q_ml (σ : q_S) (Y k a kd n : Nat) : Prop := q_P σ Y k = a ∧ q_K σ a = kd ∧ q_Z σ a = n
theorem z_it_sub {ask : Prop} {n : Nat} : ∀ {R : Nat → Nat → Prop} {x y : Nat}, z_it ask n R x y → R x y := by
  induction n with
  | zero => intro R x y h; exact h
  | succ n ih => intro R x y h; exact (ih h).1
theorem z_it_ca {r r' : Nat → Int32} {n : Nat} (h : z_in r' = z_it True (n + 1) (z_in r)) (hne : z_ne (z_it True n (z_in r))) : z_ca r' < z_ca r := by
  obtain ⟨x, y, hxy⟩ := z_fc_ne (ask := True) hne
  have h1 : z_in r x y := z_it_sub (z_fc.sub hxy)
  have h2 : ¬ z_in r' x y := by
    rw [h, z_it_s]
    exact fun z => z.2 hxy
  refine z_ca_lt (fun j hj x9 h9 => ?_) (k := y) h1.1 (fun e => ?_)
  · have : z_in r' x9 j := ⟨hj, h9⟩
    rw [h] at this
    exact (z_it_sub this).2
  · exact h2 ⟨h1.1, by rw [e]; exact h1.2⟩
theorem v_look {σ : q_S} {ι : Nat → Nat → Int32} {κ : Nat → Nat → Int64} {Y fi rs i : Nat} {f : Nat → Int32} (hY : q_K σ Y = 7) (h21 : q_ml σ Y 21 fi 1001 192) (h31 : q_ml σ Y 31 rs 1001 24) (hne : fi ≠ rs) (hi : i < 8) (hf : ∀ y, y < 24 → κ fi (24 * i + y) = zx (f y)) {R : q_O → q_S → Prop}
    (h : ∀ κ' : Nat → Nat → Int64, (∀ a, a ≠ rs → κ' a = κ a) → z_zr κ' rs f → R (.inl none) (q_put σ ι κ')) : V_PM_look Y (nI i) (q_put σ ι κ) R := by
  obtain ⟨rfl, hKf, hZf⟩ := h21
  obtain ⟨rfl, hKr, hZr⟩ := h31
  intro P2 h2
  have e2 : ∀ d y (κ' : Nat → Nat → Int64), y + d = 24 → (∀ a, a ≠ q_P σ Y 31 → κ' a = κ a) → (∀ j, j < y → κ' (q_P σ Y 31) j = zx (f j)) → P2 Y (nI i) (nI y) (q_put σ ι κ') := by
    intro d
    induction d with
    | zero =>
      intro y κ' hy ho hr
      exact h2 _ _ _ _ (pk_le 24 y (fun _ => h κ' ho (fun j hj => hr j (by omega))) (fun q => by omega))
    | succ d ih =>
      intro y κ' hy ho hr
      have e1 : (24 : Int32) * nI i + nI y = nI (24 * i + y) := by rw [show (24 : Int32) = nI 24 from rfl, pk_mul, nI_add]
      refine h2 _ _ _ _ (pk_le 24 y (fun q => by omega) (fun _ => ⟨hY, hY, hKf, ?_, hKr, ?_, fun σ2 e2 v9 e9 => ?_⟩))
      · rw [e1]
        show vp_in _ (q_Z σ (q_P σ Y 21))
        rw [hZf]; exact vp_in_nI (by omega) (by decide)
      · show vp_in _ (q_Z σ (q_P σ Y 31))
        rw [hZr]; exact vp_in_nI (by omega) (by decide)
      · rw [e1, nI_clamp (by omega), nI_clamp (by omega)] at e2
        rw [nI_1] at e9
        have e2' : σ2 = q_put σ ι (va_up κ' (q_P σ Y 31) (va_up (κ' (q_P σ Y 31)) y (κ' (q_P σ Y 21) (24 * i + y)))) := e2
        rw [ho _ hne, hf y (by omega)] at e2'
        rw [e2', e9]
        refine ih (y + 1) _ (by omega) (fun a z => by rw [up_n z]; exact ho a z) (fun j hj => ?_)
        rw [up_s]
        by_cases e : j = y
        · rw [e, up_s]
        · rw [up_n e]; exact hr j (by omega)
  exact e2 24 0 κ (by omega) (fun _ _ => rfl) (fun j hj => by omega)
theorem v_takeOutside {σ : q_S} {ι : Nat → Nat → Int32} {κ : Nat → Nat → Int64} {Y pc rs : Nat} {p : Nat → Int32} (hm : q_mp σ Y pc rs) (hp : z_zr κ pc p) {R : q_O → q_S → Prop}
    (h : ∀ κ' : Nat → Nat → Int64, (∀ a, a ≠ rs → κ' a = κ a) → z_zr κ' rs (fun y => p y ^^^ (-1)) → R (.inl none) (q_put σ ι κ')) : V_PM_takeOutside Y (q_put σ ι κ) R := by
  obtain ⟨hK, rfl, rfl, hKp, hKr, hZp, hZr, hne⟩ := hm
  have hip : ∀ j : Nat, j < 24 → vp_in (nI j) (q_Z σ (q_P σ Y 29)) := fun j hj => by rw [hZp]; exact vp_in_nI hj (by decide)
  have hir : ∀ j : Nat, j < 24 → vp_in (nI j) (q_Z σ (q_P σ Y 31)) := fun j hj => by rw [hZr]; exact vp_in_nI hj (by decide)
  intro P2 h2
  have e2 : ∀ d y (κ' : Nat → Nat → Int64), y + d = 24 → (∀ a, a ≠ q_P σ Y 31 → κ' a = κ a) → (∀ j, j < y → κ' (q_P σ Y 31) j = zx (p j ^^^ (-1))) → P2 Y (nI y) (q_put σ ι κ') := by
    intro d
    induction d with
    | zero =>
      intro y κ' hy ho hr
      exact h2 _ _ _ (pk_le 24 y (fun _ => h κ' ho (fun j hj => hr j (by omega))) (fun q => by omega))
    | succ d ih =>
      intro y κ' hy ho hr
      refine h2 _ _ _ (pk_le 24 y (fun q => by omega) (fun _ => ⟨hK, hK, hKp, hip y (by omega), hKr, hir y (by omega), fun σ2 e2 v9 e9 => ?_⟩))
      rw [nI_clamp (by omega)] at e2
      rw [nI_1] at e9
      have e2' : σ2 = q_put σ ι (va_up κ' (q_P σ Y 31) (va_up (κ' (q_P σ Y 31)) y ((4294967295 : Int64) &&& (κ' (q_P σ Y 29) y ^^^ (-1))))) := e2
      rw [ho _ hne, hp y (by omega), zx_alln] at e2'
      rw [e2', e9]
      refine ih (y + 1) _ (by omega) (fun a z => by rw [up_n z]; exact ho a z) (fun j hj => ?_)
      rw [up_s]
      by_cases e : j = y
      · rw [e, up_s]
      · rw [up_n e]; exact hr j (by omega)
  exact e2 24 0 κ (by omega) (fun _ _ => rfl) (fun j hj => by omega)
theorem z_isPlane {σ : q_S} {ι : Nat → Nat → Int32} {κ : Nat → Nat → Int64} {Y N : Nat} {x : Int32} (hN : ι Y 2 = nI N) (hN8 : N ≤ 8) : (f_PM_isPlane (q_put σ ι κ) Y x = 0 ∧ (x < 0 ∨ nI N ≤ x)) ∨ (f_PM_isPlane (q_put σ ι κ) Y x = 1 ∧ ∃ i, i < N ∧ x = nI i) := by
  unfold f_PM_isPlane
  have e : q_I (q_put σ ι κ) Y 2 = nI N := hN
  rw [e]
  rcases pk_ix x (n := N) (by omega) with q | q | ⟨i, q1, q2⟩
  · exact Or.inl ⟨by rw [if_pos q], Or.inl q⟩
  · refine Or.inl ⟨?_, Or.inr q⟩
    by_cases z : x < 0
    · rw [if_pos z]
    · rw [if_neg z, if_pos q]
  · refine Or.inr ⟨?_, i, q1, q2⟩
    rw [q2, if_neg (nI_pos (by omega)), if_neg (nI_ge q1 (by omega))]
theorem v_findPiece {σ : q_S} {ι : Nat → Nat → Int32} {κ : Nat → Nat → Int64} {Y fi pc rs N : Nat} {x1 x2 : Int32} {F : Nat → Nat → Int32} {M : Nat → Nat} (hm : q_mp σ Y pc rs) (h21 : q_ml σ Y 21 fi 1001 192) (hfr : fi ≠ rs) (hN : ι Y 2 = nI N) (hN8 : N ≤ 8) (hF : ∀ i, i < N → ∀ y, y < 24 → κ fi (24 * i + y) = zx (F i y)) (hM : ∀ i, i < N → z_np (z_in (F i)) (M i) ∧ M i ≤ 768) {R : q_O → q_S → Prop}
    (hinv : ((x1 < 0 ∨ nI N ≤ x1) ∨ x2 < 0) → R (.inl (some (.inl 0))) (q_put σ ι κ))
    (hno : ∀ i j, x1 = nI i → i < N → x2 = nI j → j < 2 ^ 31 → M i ≤ j → ∀ κ' : Nat → Nat → Int64, (∀ a, a ≠ pc → a ≠ rs → κ' a = κ a) → R (.inl (some (.inl 0))) (q_put σ ι κ'))
    (hyes : ∀ i j, x1 = nI i → i < N → x2 = nI j → j < M i → ∀ (κ' : Nat → Nat → Int64) (p : Nat → Int32), (∀ a, a ≠ pc → a ≠ rs → κ' a = κ a) → z_zr κ' pc p → z_in p = z_fc False (z_it False j (z_in (F i))) → R (.inl (some (.inl 1))) (q_put σ ι κ')) : V_PM_findPiece Y x1 x2 (q_put σ ι κ) R := by
  intro P12 P21 h12 hh21
  have hne : pc ≠ rs := hm.2.2.2.2.2.2.2
  have h31 : q_ml σ Y 31 rs 1001 24 := ⟨hm.2.2.1, hm.2.2.2.2.1, hm.2.2.2.2.2.2.1⟩
  have e21 : ∀ i j, x1 = nI i → i < N → x2 = nI j → j < 2 ^ 31 → ∀ d n (κ' : Nat → Nat → Int64) (r : Nat → Int32), n + d = M i + 1 → n ≤ j + 1 → (∀ a, a ≠ pc → a ≠ rs → κ' a = κ a) → z_zr κ' rs r → z_in r = z_it False n (z_in (F i)) → (0 < n → ∃ p, z_zr κ' pc p ∧ z_in p = z_fc False (z_it False (n - 1) (z_in (F i)))) → n ≤ M i → P21 Y x2 (nI n) (q_put σ ι κ') := by
    intro i j hi hiN hj hj31 d
    obtain ⟨hM1, hM2⟩ := hM i hiN
    induction d with
    | zero => intro n κ' r hn _ _ _ _ _ hnM; omega
    | succ d ih =>
      intro n κ' r hn hnj ho hr hin hp hnM
      refine hh21 _ _ _ _ (pk_lt j n (fun q => ?_) (fun q => ⟨hm.1, ?_⟩) hj)
      · obtain ⟨p, p1, p2⟩ := hp (by omega)
        refine hyes i j hi hiN hj (by omega) κ' p ho p1 ?_
        rw [p2, show n - 1 = j by omega]
      · refine v_nextPiece hm hr (fun w κ2 w1 w2 w3 => ?_) (fun w κ2 p w1 w2 w3 w4 => ?_)
        · refine br_f (fun z => z rfl) (hno i j hi hiN hj hj31 ?_ κ2 (fun a z1 z2 => (w1 a z1 z2).trans (ho a z1 z2)))
          rcases Nat.lt_or_ge j (M i) with u | u
          · have := hM1.1 n (by omega)
            rw [← hin] at this
            exact absurd this (z_ne_rows0.mpr w)
          · exact u
        · have hnn : n < M i := by
            rcases Nat.lt_or_ge n (M i) with u | u
            · exact u
            · have e : n = M i := by omega
              have := hM1.2
              rw [← e, ← hin] at this
              exact absurd (z_ne_rows.mpr w) this
          refine br_t (by decide) (fun v8 e8 => ?_)
          rw [nI_1] at e8
          rw [e8]
          have hpf : z_in p = z_fc False (z_in r) := z_eqset w3
          exact ih (n + 1) κ2 _ (by omega) (by omega) (fun a z1 z2 => (w1 a z1 z2).trans (ho a z1 z2)) w4 (by rw [z_in_andn w3, hin, z_it_s]) (fun _ => ⟨p, w2, by rw [Nat.add_sub_cancel, hpf, hin]⟩) (by omega)
  refine ⟨hm.1, ?_⟩
  rcases z_isPlane (σ := σ) (κ := κ) (x := x1) hN hN8 with ⟨e1, e2⟩ | ⟨e1, i, hi, e2⟩
  · exact br_t e1 (h12 _ (hinv (Or.inl e2)))
  · refine br_f (by rw [e1]; decide) ?_
    by_cases hneg : x2 < 0
    · exact br_f (by rw [Int32.not_le]; exact hneg) (h12 _ (hinv (Or.inr hneg)))
    · obtain ⟨j, hj31, hj⟩ := nI_of hneg
      refine br_t (Int32.not_lt.mp hneg) ⟨hm.1, ?_⟩
      rw [e2]
      refine v_look hm.1 h21 h31 hfr (by omega) (hF i hi) (fun κ' w1 w2 => ?_)
      exact e21 i j e2 hi hj hj31 (M i + 1) 0 κ' (F i) (by omega) (by omega) (fun a z1 z2 => w1 a z2) w2 rfl (fun z => by omega) (Nat.zero_le _)
theorem zx_eg (p : Nat → Int32) (y : Nat) : zx (p y) &&& ((if 0 < y ∧ y < 23 then (((zx (p (y - 1)) &&& zx (p (y + 1))) &&& (zx (p y) <<< ((1 : Int32).toInt64 &&& 63))) &&& (zx (p y) >>> ((1 : Int32).toInt64 &&& 63))) else 0) ^^^ (-1)) = zx (z_eg p y) := by
  refine zx_eq fun i hi => ?_
  unfold z_eg
  rw [l_and, l_not, l_zx, b_and, b_not, b_and, b_and, b_and, b_shl1, b_ushr1]
  by_cases h : 0 < y ∧ y < 23
  · rw [if_pos h, if_pos h.1, if_pos h.2, l_and, l_and, l_and, l_zx, l_zx, l_shl1, l_shr1 _ (zx_63 _), l_zx, l_zx]
    rcases Nat.lt_or_ge i 32 with q | q
    · simp only [hi, q, decide_true, Bool.true_and]
      cases bt (p y) i <;> cases bt (p (y - 1)) i <;> cases bt (p (y + 1)) i <;> cases bt (p y) (i - 1) <;> cases bt (p y) (i + 1) <;> cases decide (0 < i) <;> rfl
    · simp [b_big q]
  · rw [if_neg h, l_0]
    rcases Nat.lt_or_ge i 32 with q | q
    · have : bt (if y < 23 then p (y + 1) else 0) i = false ∨ bt (if 0 < y then p (y - 1) else 0) i = false := by
        by_cases h2 : y < 23
        · exact Or.inr (by rw [if_neg (by omega), b_0])
        · exact Or.inl (by rw [if_neg h2, b_0])
      rcases this with e | e
      · rw [e]; simp [hi, q]
      · rw [e]; simp [hi, q]
    · simp [b_big q]
