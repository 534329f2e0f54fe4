/-! HOLES -/
theorem z_eqset {A B : Nat → Nat → Prop} (h : ∀ x y, A x y ↔ B x y) : A = B := funext fun x => funext fun y => propext (h x y)
/-- less the group of the first cell; so often -/
def z_rm (ask : Prop) (R : Nat → Nat → Prop) : Nat → Nat → Prop := fun x y => R x y ∧ ¬ z_fc ask R x y
def z_it (ask : Prop) : Nat → (Nat → Nat → Prop) → (Nat → Nat → Prop)
  | 0, R => R
  | n + 1, R => z_it ask n (z_rm ask R)
theorem z_it_add (ask : Prop) (n m : Nat) (R : Nat → Nat → Prop) : z_it ask n (z_it ask m R) = z_it ask (m + n) R := by
  induction m generalizing R with
  | zero => rw [Nat.zero_add]; rfl
  | succ m ih => rw [Nat.succ_add]; exact ih (z_rm ask R)
theorem z_it_s (ask : Prop) (n : Nat) (R : Nat → Nat → Prop) : z_it ask (n + 1) R = z_rm ask (z_it ask n R) := (z_it_add ask 1 n R).symm
def z_ne (R : Nat → Nat → Prop) : Prop := ∃ x y, R x y
/-- comes to the border -/
def z_bd (G : Nat → Nat → Prop) : Prop := ∃ x y, G x y ∧ (x = 0 ∨ x = 31 ∨ y = 0 ∨ y = 23)
theorem z_in_andn {r p : Nat → Int32} {ask : Prop} (h : ∀ x y, z_in p x y ↔ z_fc ask (z_in r) x y) : z_in (fun y => r y &&& (p y ^^^ (-1))) = z_rm ask (z_in r) := z_eqset fun x y => by
  unfold z_rm
  rw [← h]
  unfold z_in
  rw [b_and, b_not]
  simp only [Bool.and_eq_true, decide_eq_true_eq, Bool.not_eq_true']
  constructor
  · rintro ⟨h1, h2, h3, h4⟩
    exact ⟨⟨h1, h2⟩, fun z => by rw [h4] at z; cases z.2⟩
  · rintro ⟨⟨h1, h2⟩, h3⟩
    refine ⟨h1, h2, b_lt h2, ?_⟩
    cases e : bt (p y) x
    · rfl
    · exact absurd ⟨h1, e⟩ h3
theorem z_in_congr {r q : Nat → Int32} (h : ∀ y, y < 24 → r y = q y) : z_in r = z_in q := z_eqset fun x y => by
  unfold z_in
  constructor
  · rintro ⟨h1, h2⟩; rw [h y h1] at h2; exact ⟨h1, h2⟩
  · rintro ⟨h1, h2⟩; rw [← h y h1] at h2; exact ⟨h1, h2⟩
theorem z_in_eq {r q : Nat → Int32} (h : z_in r = z_in q) {y : Nat} (hy : y < 24) : r y = q y := b_ext fun x _ => by
  have h1 : z_in r x y ↔ z_in q x y := by rw [h]
  cases e1 : bt (r y) x <;> cases e2 : bt (q y) x
  · rfl
  · exact absurd (h1.mpr ⟨hy, e2⟩).2 (by rw [e1]; decide)
  · exact absurd (h1.mp ⟨hy, e1⟩).2 (by rw [e2]; decide)
  · rfl
theorem z_ne_rows {r : Nat → Int32} : z_ne (z_in r) ↔ ∃ y, y < 24 ∧ ¬ r y = 0 := by
  constructor
  · rintro ⟨x, y, h1, h2⟩
    exact ⟨y, h1, fun z => by rw [z, b_0] at h2; cases h2⟩
  · rintro ⟨y, h1, h2⟩
    obtain ⟨x, _, h3⟩ := b_ne0.mp h2
    exact ⟨x, y, h1, h3⟩
theorem z_ne_rows0 {r : Nat → Int32} : ¬ z_ne (z_in r) ↔ ∀ y, y < 24 → r y = 0 := by
  rw [z_ne_rows]
  constructor
  · intro h y hy
    by_cases e : r y = 0
    · exact e
    · exact absurd ⟨y, hy, e⟩ h
  · rintro h ⟨y, hy, h2⟩
    exact h2 (h y hy)
/-- there is a first cell where there is any -/
theorem z_first_ex {R : Nat → Nat → Prop} (h : z_ne R) : ∃ a b, z_first R a b := by
  obtain ⟨x, y, hxy⟩ := h
  obtain ⟨b, ⟨x1, hb⟩, hb2⟩ := pk_least (fun b => ∃ x, R x b) ⟨y, x, hxy⟩
  obtain ⟨a, ha, ha2⟩ := pk_least (fun a => R a b) ⟨x1, hb⟩
  refine ⟨a, b, ha, fun x y hx => ?_⟩
  rcases Nat.lt_trichotomy y b with q | q | q
  · exact absurd ⟨x, hx⟩ (hb2 y q)
  · subst q
    refine Or.inr ⟨rfl, ?_⟩
    rcases Nat.lt_or_ge x a with q | q
    · exact absurd hx (ha2 x q)
    · exact q
  · exact Or.inl q
theorem z_fc_ne {ask : Prop} {R : Nat → Nat → Prop} (h : z_ne R) : z_ne (z_fc ask R) := by
  obtain ⟨a, b, hab⟩ := z_first_ex h
  exact ⟨a, b, a, b, hab, fun S h1 _ => h1⟩
theorem z_ca_andn {r p : Nat → Int32} (hp : ∀ y, y < 24 → z_sub (p y) (r y)) (hne : z_ne (z_in p)) : z_ca (fun y => r y &&& (p y ^^^ (-1))) < z_ca r := by
  obtain ⟨x, y, hy, hx⟩ := hne
  refine z_ca_lt (fun j _ x9 h9 => ?_) (k := y) hy (fun e => ?_)
  · rw [b_and, Bool.and_eq_true] at h9; exact h9.1
  · have h1 := hp y hy x hx
    rw [← e, b_and, b_not, hx] at h1
    simp at h1
/-- a hole found after n groups that come to the border; none -/
def z_hs (R : Nat → Nat → Prop) (n : Nat) : Prop := ∀ i, i < n → z_ne (z_it True i R) ∧ z_bd (z_fc True (z_it True i R))
def z_hf (R : Nat → Nat → Prop) (n : Nat) : Prop := z_hs R n ∧ z_ne (z_it True n R) ∧ ¬ z_bd (z_fc True (z_it True n R))
def z_hn (R : Nat → Nat → Prop) : Prop := ∃ n, z_hs R n ∧ ¬ z_ne (z_it True n R)
theorem z_hf.uniq {R : Nat → Nat → Prop} {n m : Nat} (h : z_hf R n) (h' : z_hf R m) : n = m := by
  rcases Nat.lt_trichotomy n m with q | q | q
  · exact absurd (h'.1 n q).2 h.2.2
  · exact q
  · exact absurd (h.1 m q).2 h'.2.2
theorem z_hf.nn {R : Nat → Nat → Prop} {n : Nat} (h : z_hf R n) : ¬ z_hn R := by
  rintro ⟨m, h1, h2⟩
  rcases Nat.lt_trichotomy n m with q | q | q
  · exact h.2.2 (h1 n q).2
  · subst q; exact h2 h.2.1
  · exact h2 (h.1 m q).1
theorem z_hs.s {R : Nat → Nat → Prop} {n : Nat} (h : z_hs R n) (h1 : z_ne (z_it True n R)) (h2 : z_bd (z_fc True (z_it True n R))) : z_hs R (n + 1) := by
  intro i hi
  by_cases e : i = n
  · subst e; exact ⟨h1, h2⟩
  · exact h i (by omega)
theorem v_growAskew {σ : q_S} {ι : Nat → Nat → Int32} {κ : Nat → Nat → Int64} {Y pc rs a k : Nat} {r p : Nat → Int32} (hm : q_mp σ Y pc rs) (hr : z_zr κ rs r) (hp : z_zr κ pc p) (hMI : z_MI True r a k p) {R : q_O → q_S → Prop}
    (h : ∀ (κ' : Nat → Nat → Int64) (q : Nat → Int32), (∀ b, b ≠ pc → κ' b = κ b) → z_zr κ' pc q → z_MI True r a k q → z_cl True (z_in r) (z_in q) → R (.inl none) (q_put σ ι κ')) : V_PM_growAskew Y (q_put σ ι κ) R := by
  obtain ⟨hK, rfl, rfl, hKp, hKr, hZp, hZr, hne⟩ := hm
  have hip : ∀ j : Nat, j < 24 → vp_in (nI j) (q_Z σ (q_P σ Y 29)) := fun j hj => by rw [hZp]; exact vp_in_nI hj (by decide)
  have hir : ∀ j : Nat, j < 24 → vp_in (nI j) (q_Z σ (q_P σ Y 31)) := fun j hj => by rw [hZr]; exact vp_in_nI hj (by decide)
  intro P2 P10 P38 P57 P87 P92 h2 h10 h38 h57 h87 h92
  have e2 : ∀ N κ' p fl, 768 - z_ca p < N → (∀ b, b ≠ q_P σ Y 29 → κ' b = κ b) → z_zr κ' (q_P σ Y 29) p → z_MI True r a k p → (fl = 0 → z_cl True (z_in r) (z_in p)) → P2 Y fl (q_put σ ι κ') := by
    intro N
    induction N with
    | zero => intro κ' p fl hN; omega
    | succ N ihN =>
      intro κ' p fl hN ho hp hMI hcl
      refine h2 _ _ _ (br_c (fun e => h κ' p ho hp hMI (hcl e)) (fun e => ?_))
      have e10 : ∀ d y κ' q fl, y + d = 24 → (∀ b, b ≠ q_P σ Y 29 → κ' b = κ b) → z_zr κ' (q_P σ Y 29) q → z_MI True r a k q → (∀ j, z_sub (p j) (q j)) → (fl = 0 ∨ fl = 1) → (fl = 0 → q = p ∧ ∀ j, j < y → z_nv True r p j (p j)) → (fl = 1 → z_ca p < z_ca q) → P10 Y fl (nI y) (q_put σ ι κ') := by
        intro d
        induction d with
        | zero =>
          intro y κ' q fl hy ho hq hMI' hsub hfl hfl0 hfl1
          refine h10 _ _ _ _ (pk_le 24 y (fun _ => ?_) (fun z => by omega))
          rcases hfl with e9 | e9
          · obtain ⟨z1, z2⟩ := hfl0 e9
            have hcl' : z_cl True (z_in r) (z_in q) := by rw [z1]; exact z_nv_closed (fun j hj => z2 j (by omega))
            exact h2 _ _ _ (br_t e9 (h κ' q ho hq hMI' hcl'))
          · have q1 := hfl1 e9
            have q2 := z_ca_le q
            refine ihN κ' q fl (by omega) ho hq hMI' (fun z => ?_)
            rw [e9] at z; exact absurd z (by decide)
        | succ d ih =>
          intro y κ' q fl hy ho hq hMI' hsub hfl hfl0 hfl1
          refine h10 _ _ _ _ (pk_le 24 y (fun z => by omega) (fun _ => ⟨hK, hKp, hip y (by omega), ?_⟩))
          have fin : ∀ dn up : Int32, (∀ x, bt dn x = true ↔ (0 < y ∧ bt (q (y - 1)) x = true)) → (∀ x, bt up x = true ↔ (y + 1 < 24 ∧ bt (q (y + 1)) x = true)) → P57 Y fl (nI y) (zx up) (zx (q y) ||| zx dn) (q_put σ ι κ') := by
            intro dn up g1 g2
            refine h57 _ _ _ _ _ _ (fun v1 e1 => ?_)
            rw [zx_or, zx_or] at e1
            rw [e1]
            refine v_wide (n := 1) (by decide) ?_
            refine ⟨hK, hKr, hir y (by omega), fun v2 e2 => ?_⟩
            have e2' : v2 = zx (z_d1 ((q y ||| dn) ||| up)) &&& κ' (q_P σ Y 31) (nI y).toNatClampNeg := e2
            rw [nI_clamp (by omega), ho _ (Ne.symm hne), hr y (by omega), zx_and] at e2'
            have hnv := z_nv_ofA (r := r) (p := q) (k := y) (by omega) g1 g2
            have hs := hnv.sub (by omega) (hMI'.2.1 y (by omega))
            have nx : ∀ fl', (fl' = 0 ∨ fl' = 1) → (fl' = 0 → fl = 0 ∧ z_d1 ((q y ||| dn) ||| up) &&& r y = q y) → (fl' = 1 → fl = 1 ∨ ¬ z_d1 ((q y ||| dn) ||| up) &&& r y = q y) → P92 Y (nI y) v2 fl' (q_put σ ι κ') := by
              intro fl' u0 u1 u2
              refine h92 _ _ _ _ _ ⟨hK, hKp, hip y (by omega), fun σ1 e9 v5 e5 => ?_⟩
              rw [nI_clamp (by omega), e2'] at e9
              rw [nI_1] at e5
              subst e9
              rw [e5]
              refine ih (y + 1) (va_up κ' (q_P σ Y 29) (va_up (κ' (q_P σ Y 29)) y (zx (z_d1 ((q y ||| dn) ||| up) &&& r y)))) (va_up q y (z_d1 ((q y ||| dn) ||| up) &&& r y)) fl' (by omega) (fun b q1 => by rw [up_n q1]; exact ho b q1) (hq.up y _) (hMI'.upd hnv (by omega)) (fun j => (hsub j).tr (z_up_sub hs j)) u0 (fun z => ?_) (fun z => ?_)
              · obtain ⟨w1, w2⟩ := u1 z
                obtain ⟨w3, w4⟩ := hfl0 w1
                have w5 : va_up q y (z_d1 ((q y ||| dn) ||| up) &&& r y) = q := funext fun j => by
                  by_cases e : j = y
                  · rw [e, up_s, w2]
                  · rw [up_n e]
                refine ⟨w5.trans w3, fun j hj => ?_⟩
                by_cases e : j = y
                · rw [e]
                  rw [w2] at hnv
                  rw [← w3]; exact hnv
                · exact w4 j (by omega)
              · rcases u2 z with w | w
                · exact Nat.lt_of_lt_of_le (hfl1 w) (z_ca_mono (fun j _ => z_up_sub hs j))
                · have w1 := z_ca_lt (a := q) (b := va_up q y (z_d1 ((q y ||| dn) ||| up) &&& r y)) (fun j _ => z_up_sub hs j) (k := y) (by omega) (by rw [up_s]; exact fun z => w z.symm)
                  rcases hfl with e9 | e9
                  · rw [(hfl0 e9).1] at w1 ⊢; exact w1
                  · have := hfl1 e9; omega
            refine ⟨fun z => h87 _ _ _ _ (nx 1 (Or.inr rfl) (fun z => absurd z (by decide)) (fun _ => Or.inl ?_)), fun z => ⟨hK, hKp, hip y (by omega), fun w => ?_, fun w => ?_⟩⟩
            · rcases hfl with e9 | e9
              · exact absurd e9 z
              · exact e9
            · rw [lg_cmp_eq] at w
              have w' : v2 = κ' (q_P σ Y 29) (nI y).toNatClampNeg := w
              rw [nI_clamp (by omega), hq y (by omega), e2'] at w'
              refine nx 0 (Or.inl rfl) (fun _ => ⟨?_, zx_inj w'⟩) (fun z => absurd z (by decide))
              rcases hfl with e9 | e9
              · exact e9
              · exact absurd (fun z2 => by rw [e9] at z2; exact absurd z2 (by decide)) z
            · refine h87 _ _ _ _ (nx 1 (Or.inr rfl) (fun z => absurd z (by decide)) (fun _ => Or.inr (fun w2 => w ?_)))
              rw [lg_cmp_eq]
              show v2 = κ' (q_P σ Y 29) (nI y).toNatClampNeg
              rw [nI_clamp (by omega), hq y (by omega), e2', w2]
          have mid : ∀ dn : Int32, (∀ x, bt dn x = true ↔ (0 < y ∧ bt (q (y - 1)) x = true)) → P38 Y fl (nI y) (zx dn) (zx (q y)) (q_put σ ι κ') := by
            intro dn g1
            refine h38 _ _ _ _ _ _ (pk_le 23 y (fun z => ?_) (fun z => ⟨hK, hKp, by rw [nI_1]; exact hip (y + 1) (by omega), ?_⟩))
            · have := fin dn 0 g1 (fun x => by rw [b_0]; constructor; (intro z; cases z); (rintro ⟨z, _⟩; omega))
              rw [zx_0] at this; exact this
            · have e9 : q_L (q_put σ ι κ') (q_P (q_put σ ι κ') Y 29) (nI y + 1).toNatClampNeg = zx (q (y + 1)) := by
                rw [nI_1, nI_clamp (by omega)]; exact hq (y + 1) (by omega)
              rw [e9]
              exact fin dn (q (y + 1)) g1 (fun x => ⟨fun z => ⟨by omega, z⟩, fun z => z.2⟩)
          have e9 : q_L (q_put σ ι κ') (q_P (q_put σ ι κ') Y 29) (nI y).toNatClampNeg = zx (q y) := by
            rw [nI_clamp (by omega)]; exact hq y (by omega)
          rw [e9]
          refine pk_le y 0 (fun z => ?_) (fun z => ?_)
          · have := mid 0 (fun x => by rw [b_0]; constructor; (intro z; cases z); (rintro ⟨z, _⟩; omega))
            rw [zx_0] at this; exact this
          · have e1 : nI y - 1 = nI (y - 1) := pk_sub (b := 1) (by omega)
            have e8 : q_L (q_put σ ι κ') (q_P (q_put σ ι κ') Y 29) (nI y - 1).toNatClampNeg = zx (q (y - 1)) := by
              rw [e1, nI_clamp (by omega)]; exact hq (y - 1) (by omega)
            refine ⟨hK, hKp, by rw [e1]; exact hip (y - 1) (by omega), ?_⟩
            rw [e8]
            exact mid (q (y - 1)) (fun x => ⟨fun z => ⟨by omega, z⟩, fun z => z.2⟩)
      exact e10 24 0 κ' p 0 (by omega) ho hp hMI (fun _ => z_sub.rf _) (Or.inl rfl) (fun _ => ⟨rfl, fun j hj => by omega⟩) (fun z => absurd z (by decide))
  exact e2 769 κ p 1 (by omega) (fun _ _ => rfl) hp hMI (fun z => absurd z (by decide))
