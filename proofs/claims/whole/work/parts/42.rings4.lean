/-! RINGS OF THE REFERENCE -/
theorem v_findRing {σ : q_S} {ι : Nat → Nat → Int32} {κ : Nat → Nat → Int64} {Y fi pc rs ot N : Nat} {x1 x2 x3 : Int32} {F : Nat → Nat → Int32} {M : Nat → Nat} (hm : q_mp σ Y pc rs) (h21 : q_ml σ Y 21 fi 1001 192) (h30 : q_ml σ Y 30 ot 1001 24) (hfr : fi ≠ rs) (hop : ot ≠ pc) (hN : ι Y 2 = nI N) (hN8 : N ≤ 8) (hF : ∀ i, i < N → ∀ y, y < 24 → κ fi (24 * i + y) = zx (F i y)) (hM : ∀ i, i < N → z_np (z_in (F i)) (M i) ∧ M i ≤ 768) {R : q_O → q_S → Prop}
    (hno : (((x1 < 0 ∨ nI N ≤ x1) ∨ x2 < 0) ∨ x3 < 0 ∨ (∃ i j, x1 = nI i ∧ i < N ∧ x2 = nI j ∧ j < 2 ^ 31 ∧ M i ≤ j) ∨ (∃ i j m, x1 = nI i ∧ i < N ∧ x2 = nI j ∧ j < M i ∧ x3 = nI m ∧ m < 2 ^ 31 ∧ 0 < m ∧ ∃ q, q < m ∧ z_he (z_co (z_fc False (z_it False j (z_in (F i))))) q)) → ∀ κ' : Nat → Nat → Int64, (∀ a, a ≠ pc → a ≠ rs → a ≠ ot → κ' a = κ a) → R (.inl (some (.inl 0))) (q_put σ ι κ'))
    (hyes : ∀ i j m, x1 = nI i → i < N → x2 = nI j → j < M i → x3 = nI m → m < 2 ^ 31 → ∀ (κ' : Nat → Nat → Int64) (p : Nat → Int32), (∀ a, a ≠ pc → a ≠ rs → a ≠ ot → κ' a = κ a) → z_zr κ' pc p → ((m = 0 ∧ ∃ q, z_in q = z_fc False (z_it False j (z_in (F i))) ∧ ∀ y, y < 24 → p y = z_eg q y) ∨ (0 < m ∧ z_hp (z_co (z_fc False (z_it False j (z_in (F i))))) (m - 1) (z_in p))) → R (.inl (some (.inl 1))) (q_put σ ι κ')) : V_PM_findRing Y x1 x2 x3 (q_put σ ι κ) R := by
  have hm' := hm
  obtain ⟨hK, rfl, rfl, hKp, hKr, hZp, hZr, hne⟩ := hm
  obtain ⟨rfl, hKo, hZo⟩ := h30
  have hip : ∀ j : Nat, j < 24 → vp_in (nI j) (q_Z σ (q_P σ Y 29)) := fun j hj => by rw [hZp]; exact vp_in_nI hj (by decide)
  have hio : ∀ j : Nat, j < 24 → vp_in (nI j) (q_Z σ (q_P σ Y 30)) := fun j hj => by rw [hZo]; exact vp_in_nI hj (by decide)
  intro P13 P22 P52 P113 P114 P152 h13 h22 h52 h113 h114 h152
  -- the piece's own ring
  have e52 : ∀ (q : Nat → Int32), (∀ (κ' : Nat → Nat → Int64) (p : Nat → Int32), (∀ a, a ≠ q_P σ Y 29 → a ≠ q_P σ Y 31 → a ≠ q_P σ Y 30 → κ' a = κ a) → z_zr κ' (q_P σ Y 29) p → (∀ y, y < 24 → p y = z_eg q y) → R (.inl (some (.inl 1))) (q_put σ ι κ')) → ∀ d y (κ' : Nat → Nat → Int64), y + d = 24 → (∀ a, a ≠ q_P σ Y 29 → a ≠ q_P σ Y 31 → a ≠ q_P σ Y 30 → κ' a = κ a) → z_zr κ' (q_P σ Y 30) q → (∀ j, j < y → κ' (q_P σ Y 29) j = zx (z_eg q j)) → P52 Y (nI y) (q_put σ ι κ') := by
    intro q hend d
    induction d with
    | zero =>
      intro y κ' hy ho hq hp
      exact h52 _ _ _ (pk_le 24 y (fun _ => hend κ' (z_eg q) ho (fun j hj => hp j (by omega)) (fun _ _ => rfl)) (fun z => by omega))
    | succ d ih =>
      intro y κ' hy ho hq hp
      have e114 : ∀ w : Int64, w = (if 0 < y ∧ y < 23 then (((zx (q (y - 1)) &&& zx (q (y + 1))) &&& (zx (q y) <<< ((1 : Int32).toInt64 &&& 63))) &&& (zx (q y) >>> ((1 : Int32).toInt64 &&& 63))) else 0) → P114 Y (nI y) w (q_put σ ι κ') := by
        intro w hw
        refine h114 _ _ _ _ ⟨hK, hK, hKo, hio y (by omega), hKp, hip y (by omega), fun σ1 e1 v8 e8 => ?_⟩
        rw [nI_clamp (by omega)] at e1
        rw [nI_1] at e8
        have e1' : σ1 = q_put σ ι (va_up κ' (q_P σ Y 29) (va_up (κ' (q_P σ Y 29)) y (κ' (q_P σ Y 30) y &&& (w ^^^ (-1))))) := e1
        rw [hq y (by omega), hw, zx_eg] at e1'
        rw [e1', e8]
        refine ih (y + 1) _ (by omega) (fun a z1 z2 z3 => by rw [up_n z1]; exact ho a z1 z2 z3) (hq.other hop _) (fun j hj => ?_)
        rw [up_s]
        by_cases e : j = y
        · rw [e, up_s]
        · rw [up_n e]; exact hp j (by omega)
      have el : ∀ j, j < 24 → q_L (q_put σ ι κ') (q_P (q_put σ ι κ') Y 30) (nI j).toNatClampNeg = zx (q j) := fun j hj => by
        rw [nI_clamp (by omega)]; exact hq j hj
      refine h52 _ _ _ (pk_le 24 y (fun z => by omega) (fun _ => pk_le y 0 (fun z => h113 _ _ _ (e114 0 (by rw [if_neg (by omega)]))) (fun z => pk_le 23 y (fun z2 => h113 _ _ _ (e114 0 (by rw [if_neg (by omega)]))) (fun z2 => ?_))))
      have e1 : nI y - 1 = nI (y - 1) := pk_sub (b := 1) (by omega)
      refine ⟨hK, hKo, by rw [e1]; exact hio (y - 1) (by omega), hK, hKo, by rw [nI_1]; exact hio (y + 1) (by omega), hK, hKo, hio y (by omega), hK, hKo, hio y (by omega), ?_⟩
      rw [e1, nI_1, el (y - 1) (by omega), el (y + 1) (by omega), el y (by omega)]
      exact e114 _ (by rw [if_pos ⟨z, z2⟩])
  have e22 : ∀ (q : Nat → Int32), (∀ (κ' : Nat → Nat → Int64) (p : Nat → Int32), (∀ a, a ≠ q_P σ Y 29 → a ≠ q_P σ Y 31 → a ≠ q_P σ Y 30 → κ' a = κ a) → z_zr κ' (q_P σ Y 29) p → (∀ y, y < 24 → p y = z_eg q y) → R (.inl (some (.inl 1))) (q_put σ ι κ')) → ∀ d y (κ' : Nat → Nat → Int64), y + d = 24 → (∀ a, a ≠ q_P σ Y 29 → a ≠ q_P σ Y 31 → a ≠ q_P σ Y 30 → κ' a = κ a) → z_zr κ' (q_P σ Y 29) q → (∀ j, j < y → κ' (q_P σ Y 30) j = zx (q j)) → P22 Y (nI y) (q_put σ ι κ') := by
    intro q hend d
    induction d with
    | zero =>
      intro y κ' hy ho hq hp
      exact h22 _ _ _ (pk_le 24 y (fun _ => e52 q hend 24 0 κ' (by omega) ho (fun j hj => hp j (by omega)) (fun j hj => by omega)) (fun z => by omega))
    | succ d ih =>
      intro y κ' hy ho hq hp
      refine h22 _ _ _ (pk_le 24 y (fun z => by omega) (fun _ => ⟨hK, hK, hKp, hip y (by omega), hKo, hio y (by omega), fun σ2 e2 v9 e9 => ?_⟩))
      rw [nI_clamp (by omega)] at e2
      rw [nI_1] at e9
      have e2' : σ2 = q_put σ ι (va_up κ' (q_P σ Y 30) (va_up (κ' (q_P σ Y 30)) y (κ' (q_P σ Y 29) y))) := e2
      rw [hq y (by omega)] at e2'
      rw [e2', e9]
      refine ih (y + 1) _ (by omega) (fun a z1 z2 z3 => by rw [up_n z3]; exact ho a z1 z2 z3) (hq.other (Ne.symm hop) _) (fun j hj => ?_)
      rw [up_s]
      by_cases e : j = y
      · rw [e, up_s]
      · rw [up_n e]; exact hp j (by omega)
  -- holes
  have e152 : ∀ i j m, x1 = nI i → i < N → x2 = nI j → j < M i → x3 = nI m → 0 < m → m < 2 ^ 31 → ∀ B n (κ' : Nat → Nat → Int64) (r : Nat → Int32), z_ca r < B → n ≤ m → (∀ a, a ≠ q_P σ Y 29 → a ≠ q_P σ Y 31 → a ≠ q_P σ Y 30 → κ' a = κ a) → z_zr κ' (q_P σ Y 31) r → z_hk (z_co (z_fc False (z_it False j (z_in (F i))))) n (z_in r) → (0 < n → ∃ p, z_zr κ' (q_P σ Y 29) p ∧ z_hp (z_co (z_fc False (z_it False j (z_in (F i))))) (n - 1) (z_in p)) → n + z_ca r ≤ 768 → P152 Y x3 (nI n) (q_put σ ι κ') := by
    intro i j m hi hiN hj hjM hmm hm0 hm31 B
    induction B with
    | zero => intro n κ' r hB; omega
    | succ B ih =>
      intro n κ' r hB hnm ho hr hhk hhp hn7
      refine h152 _ _ _ _ (pk_le m n (fun z => ?_) (fun z => ⟨hK, ?_⟩) hmm)
      · have e : n = m := by omega
        obtain ⟨p, p1, p2⟩ := hhp (by omega)
        rw [e] at p2
        exact hyes i j m hi hiN hj hjM hmm hm31 κ' p ho p1 (Or.inr ⟨hm0, p2⟩)
      · refine v_nextHole hm' hr (fun w κ2 w1 => ?_) (fun k κ2 p r2 w1 w2 w3 w4 w5 w6 => ?_)
        · refine br_f (fun z9 => z9 rfl) (hno (Or.inr (Or.inr (Or.inr ⟨i, j, m, hi, hiN, hj, hjM, hmm, hm31, hm0, n, z, z_in r, hhk, w⟩))) κ2 (fun a z1 z2 z3 => (w1 a z1 z2).trans (ho a z1 z2 z3)))
        · refine br_t (by decide) (fun v8 e8 => ?_)
          rw [nI_1] at e8
          rw [e8]
          have hca := z_it_ca w6 w1.2.1
          exact ih (n + 1) κ2 r2 (by omega) (by omega) (fun a z1 z2 z3 => (w2 a z1 z2).trans (ho a z1 z2 z3)) w5 ⟨_, k, hhk, w1, w6⟩ (fun _ => ⟨p, w3, by rw [Nat.add_sub_cancel]; exact ⟨_, k, hhk, w1, w4⟩⟩) (by omega)
  refine ⟨hK, ?_⟩
  refine v_findPiece hm' h21 hfr hN hN8 hF hM (fun w => br_t rfl (h13 _ (hno (Or.inl w) κ (fun _ _ _ _ => rfl)))) (fun i j w1 w2 w3 w31 w4 κ' w5 => br_t rfl (h13 _ (hno (Or.inr (Or.inr (Or.inl ⟨i, j, w1, w2, w3, w31, w4⟩))) κ' (fun a z1 z2 _ => w5 a z1 z2)))) (fun i j w1 w2 w3 w4 κ' p w5 w6 w7 => br_f (by decide) ?_)
  by_cases hneg : x3 < 0
  · exact br_f (by rw [Int32.not_le]; exact hneg) (h13 _ (hno (Or.inr (Or.inl hneg)) κ' (fun a z1 z2 _ => w5 a z1 z2)))
  · obtain ⟨m, hm31, hmm⟩ := nI_of hneg
    refine br_t (Int32.not_lt.mp hneg) (br_c (fun z => ⟨hK, ?_⟩) (fun z => ?_))
    · have hm0 : 0 < m := by
        rcases Nat.eq_zero_or_pos m with q | q
        · rw [q] at hmm; exact absurd hmm z
        · exact q
      refine v_takeOutside hm' w6 (fun κ2 u1 u2 => ?_)
      refine e152 i j m w1 w2 w3 w4 hmm hm0 hm31 769 0 κ2 _ (by have := z_ca_le (fun y => p y ^^^ (-1)); omega) (by omega) (fun a z1 z2 z3 => (u1 a z2).trans (w5 a z1 z2)) u2 ?_ (fun z => by omega) (by have := z_ca_le (fun y => p y ^^^ (-1)); omega)
      show z_in (fun y => p y ^^^ (-1)) = _
      rw [z_in_not, w7]
    · have hz : x3 = nI 0 := Classical.not_not.mp z
      refine e22 p (fun κ2 p2 u1 u2 u3 => hyes i j 0 w1 w2 w3 w4 hz (by omega) κ2 p2 u1 u2 (Or.inl ⟨rfl, p, w7, u3⟩)) 24 0 κ' (by omega) (fun a z1 z2 _ => w5 a z1 z2) w6 (fun j hj => by omega)
theorem v_ringsM {σ : q_S} {ι : Nat → Nat → Int32} {κ : Nat → Nat → Int64} {Y fi pc rs N : Nat} {x1 x2 : Int32} {F : Nat → Nat → Int32} {M : Nat → Nat} (hm : q_mp σ Y pc rs) (h21 : q_ml σ Y 21 fi 1001 192) (hfr : fi ≠ rs) (hN : ι Y 2 = nI N) (hN8 : N ≤ 8) (hF : ∀ i, i < N → ∀ y, y < 24 → κ fi (24 * i + y) = zx (F i y)) (hM : ∀ i, i < N → z_np (z_in (F i)) (M i) ∧ M i ≤ 768) {R : q_O → q_S → Prop}
    (hno : ∀ κ' : Nat → Nat → Int64, (((x1 < 0 ∨ nI N ≤ x1) ∨ x2 < 0) ∨ (∃ i j, x1 = nI i ∧ i < N ∧ x2 = nI j ∧ j < 2 ^ 31 ∧ M i ≤ j)) → (∀ a, a ≠ pc → a ≠ rs → κ' a = κ a) → R (.inl (some (.inl 0))) (q_put σ (va_up ι Y (va_up (ι Y) 0 1)) κ'))
    (hyes : ∀ i j c, x1 = nI i → i < N → x2 = nI j → j < M i → z_he (z_co (z_fc False (z_it False j (z_in (F i))))) c → ∀ κ' : Nat → Nat → Int64, (∀ a, a ≠ pc → a ≠ rs → κ' a = κ a) → R (.inl (some (.inl (nI (c + 1))))) (q_put σ (va_up ι Y (va_up (ι Y) 0 0)) κ')) : V_PM_rings Y x1 x2 (q_put σ ι κ) R := by
  have hK := hm.1
  intro P15 P33 h15 h33
  have e33 : ∀ i j, x1 = nI i → i < N → x2 = nI j → j < M i → ∀ B c (κ' : Nat → Nat → Int64) (r : Nat → Int32), z_ca r < B → (∀ a, a ≠ pc → a ≠ rs → κ' a = κ a) → z_zr κ' rs r → z_hk (z_co (z_fc False (z_it False j (z_in (F i))))) c (z_in r) → P33 Y (nI (c + 1)) (q_put σ (va_up ι Y (va_up (ι Y) 0 0)) κ') := by
    intro i j hi hiN hj hjM B
    induction B with
    | zero => intro c κ' r hB; omega
    | succ B ih =>
      intro c κ' r hB ho hr hhk
      refine h33 _ _ _ ⟨hK, ?_⟩
      refine v_nextHole hm hr (fun w κ2 w1 => ?_) (fun k κ2 p r2 w1 w2 w3 w4 w5 w6 => ?_)
      · exact br_t rfl (hyes i j c hi hiN hj hjM ⟨z_in r, hhk, w⟩ κ2 (fun a z1 z2 => (w1 a z1 z2).trans (ho a z1 z2)))
      · refine br_f (by decide) (fun v7 e7 => ?_)
        rw [nI_1] at e7
        rw [e7]
        have hca := z_it_ca w6 w1.2.1
        exact ih (c + 1) κ2 r2 (by omega) (fun a z1 z2 => (w2 a z1 z2).trans (ho a z1 z2)) w5 ⟨_, k, hhk, w1, w6⟩
  refine ⟨hK, ?_⟩
  refine v_findPiece hm h21 hfr hN hN8 hF hM (fun w => br_t rfl (h15 _ _ _ _ ⟨hK, fun σ1 e1 => ?_⟩)) (fun i j w1 w2 w3 w31 w4 κ' w5 => br_t rfl (h15 _ _ _ _ ⟨hK, fun σ1 e1 => ?_⟩)) (fun i j w1 w2 w3 w4 κ' p w5 w6 w7 => br_f (by decide) (h15 _ _ _ _ ⟨hK, fun σ1 e1 => ?_⟩))
  · subst e1
    refine ⟨hK, br_f ?_ (hno κ (Or.inl w) (fun _ _ _ => rfl))⟩
    show ¬ va_up ι Y (va_up (ι Y) 0 1) Y 0 = 0
    rw [up_s, up_s]; decide
  · subst e1
    refine ⟨hK, br_f ?_ (hno κ' (Or.inr ⟨i, j, w1, w2, w3, w31, w4⟩) w5)⟩
    show ¬ va_up ι Y (va_up (ι Y) 0 1) Y 0 = 0
    rw [up_s, up_s]; decide
  · subst e1
    refine ⟨hK, br_t ?_ ⟨hK, ?_⟩⟩
    · show va_up ι Y (va_up (ι Y) 0 0) Y 0 = 0
      rw [up_s, up_s]
    · refine v_takeOutside (ι := va_up ι Y (va_up (ι Y) 0 0)) hm w6 (fun κ2 u1 u2 => ?_)
      refine e33 i j w1 w2 w3 w4 769 0 κ2 _ (by have := z_ca_le (fun y => p y ^^^ (-1)); omega) (fun a z1 z2 => (u1 a z2).trans (w5 a z1 z2)) u2 ?_
      show z_in (fun y => p y ^^^ (-1)) = _
      rw [z_in_not, w7]
