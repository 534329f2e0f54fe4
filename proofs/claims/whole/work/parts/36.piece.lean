/-! THE REFERENCE'S NEXT PIECE -/
/-- a row and the cells beside it in the row -/
def z_d1 (v : Int32) : Int32 := v ||| ((v <<< ((1 : Int32) &&& 31)) ||| (q_ushr v (1 : Int32)))
theorem z_d1_iff (v : Int32) (x : Nat) : bt (z_d1 v) x = true ↔ x < 32 ∧ ∃ x0, bt v x0 = true ∧ x ≤ x0 + 1 ∧ x0 ≤ x + 1 := z_dil v x
def z_dn : Nat → Int32 → Int32
  | 0, v => v
  | n + 1, v => z_dn n (z_d1 v)
theorem zx_d1 (v : Int32) : ((zx v ||| (zx v <<< ((1 : Int32).toInt64 &&& 63))) ||| (zx v >>> ((1 : Int32).toInt64 &&& 63))) &&& (4294967295 : Int64) = zx (z_d1 v) := by
  refine zx_eq fun i hi => ?_
  rw [l_and, l_or, l_or, l_shl1, l_shr1 _ (zx_63 v), l_all', l_zx, l_zx, l_zx]
  unfold z_d1
  rw [b_or, b_or, b_shl1, b_ushr1]
  rcases Nat.lt_or_ge i 32 with h | h
  · simp [h, hi, Bool.or_assoc]
  · simp [Nat.not_lt.mpr h, b_big h, b_big (show 32 ≤ i + 1 by omega)]
theorem v_wide {v : Int32} {n : Nat} {σ : q_S} (hn : n < 1000) {R : q_O → q_S → Prop} (h : R (.inl (some (.inr (.inl (zx (z_dn n v)))))) σ) : V_PM_wide (zx v) (nI n) σ R := by
  intro P5 h5
  have e5 : ∀ d k w, k + d = n → z_dn d w = z_dn n v → P5 (nI n) (zx w) (nI k) σ := by
    intro d
    induction d with
    | zero =>
      intro k w hk hw
      refine h5 _ _ _ _ (pk_le n k (fun _ => ?_) (fun q => by omega))
      rw [show w = z_dn n v from hw]; exact h
    | succ d ih =>
      intro k w hk hw
      refine h5 _ _ _ _ (pk_le n k (fun q => by omega) (fun _ => fun v2 e2 v3 e3 => ?_))
      rw [zx_d1] at e2
      rw [nI_1] at e3
      rw [e2, e3]
      exact ih (k + 1) (z_d1 w) (by omega) hw
  exact e5 n 0 v (by omega) rfl
/-- rows of the reference as rows of the class -/
def z_zr (κ : Nat → Nat → Int64) (a : Nat) (p : Nat → Int32) : Prop := ∀ y, y < 24 → κ a y = zx (p y)
theorem z_zr.up {κ : Nat → Nat → Int64} {a : Nat} {p : Nat → Int32} (h : z_zr κ a p) (k : Nat) (w : Int32) : z_zr (va_up κ a (va_up (κ a) k (zx w))) a (va_up p k w) := by
  intro y hy
  rw [up_s]
  by_cases e : y = k
  · rw [e, up_s, up_s]
  · rw [up_n e, up_n e]; exact h y hy
theorem z_zr.other {κ : Nat → Nat → Int64} {a b : Nat} {p : Nat → Int32} (h : z_zr κ a p) (hab : a ≠ b) (f : Nat → Int64) : z_zr (va_up κ b f) a p := by
  intro y hy
  rw [up_n hab]; exact h y hy
/-- the reference's rows of the piece and of the rest -/
def q_mp (σ : q_S) (Y pc rs : Nat) : Prop := q_K σ Y = 7 ∧ q_P σ Y 29 = pc ∧ q_P σ Y 31 = rs ∧ q_K σ pc = 1001 ∧ q_K σ rs = 1001 ∧ q_Z σ pc = 24 ∧ q_Z σ rs = 24 ∧ pc ≠ rs
/-- a row as a pass leaves it: the rest's cells that are in the piece or beside it -/
def z_nv (ask : Prop) (r p : Nat → Int32) (y : Nat) (v : Int32) : Prop := ∀ x, bt v x = true ↔ bt (r y) x = true ∧ ∃ x0 y0, z_in p x0 y0 ∧ ((x0 = x ∧ y0 = y) ∨ z_ad ask x0 y0 x y)
def z_MI (ask : Prop) (r : Nat → Int32) (a b : Nat) (p : Nat → Int32) : Prop := z_in p a b ∧ (∀ y, y < 24 → z_sub (p y) (r y)) ∧ (∀ S : Nat → Nat → Prop, S a b → z_cl ask (z_in r) S → ∀ x y, z_in p x y → S x y)
theorem z_nv.sub {ask : Prop} {r p : Nat → Int32} {y : Nat} {v : Int32} (h : z_nv ask r p y v) (hy : y < 24) (hs : z_sub (p y) (r y)) : z_sub (p y) v := fun x hx => (h x).mpr ⟨hs x hx, x, y, ⟨hy, hx⟩, Or.inl ⟨rfl, rfl⟩⟩
theorem z_MI.upd {ask : Prop} {r : Nat → Int32} {a b k : Nat} {p : Nat → Int32} {v : Int32} (h : z_MI ask r a b p) (hv : z_nv ask r p k v) (hk : k < 24) : z_MI ask r a b (va_up p k v) := by
  obtain ⟨h1, h2, h3⟩ := h
  have hs := hv.sub hk (h2 k hk)
  refine ⟨⟨h1.1, ?_⟩, fun y hy => ?_, fun S hS hcl x y hx => ?_⟩
  · by_cases e : b = k
    · subst e; rw [up_s]; exact hs a h1.2
    · rw [up_n e]; exact h1.2
  · by_cases e : y = k
    · subst e; rw [up_s]; exact fun x hx => ((hv x).mp hx).1
    · rw [up_n e]; exact h2 y hy
  · obtain ⟨hy, hb⟩ := hx
    by_cases e : y = k
    · subst e
      rw [up_s] at hb
      obtain ⟨q1, x0, y0, q2, q3⟩ := (hv x).mp hb
      rcases q3 with ⟨rfl, rfl⟩ | q3
      · exact h3 S hS hcl _ _ q2
      · exact hcl x0 y0 x y (h3 S hS hcl _ _ q2) q3 ⟨hy, q1⟩
    · rw [up_n e] at hb
      exact h3 S hS hcl x y ⟨hy, hb⟩
theorem z_nv_closed {ask : Prop} {r p : Nat → Int32} (h : ∀ y, y < 24 → z_nv ask r p y (p y)) : z_cl ask (z_in r) (z_in p) := fun x y x' y' hx had hr => ⟨hr.1, (h y' hr.1 x').mpr ⟨hr.2, x, y, hx, Or.inr had⟩⟩
theorem z_up_sub {p : Nat → Int32} {k : Nat} {v : Int32} (h : z_sub (p k) v) (y : Nat) : z_sub (p y) (va_up p k v y) := by
  by_cases e : y = k
  · subst e; rw [up_s]; exact h
  · rw [up_n e]; exact z_sub.rf _
/-- the row, and those above and below -/
theorem z_nv_of {r p : Nat → Int32} {k : Nat} (hk : k < 24) {dn up : Int32} (hd : ∀ x, bt dn x = true ↔ (0 < k ∧ bt (p (k - 1)) x = true)) (hu : ∀ x, bt up x = true ↔ (k + 1 < 24 ∧ bt (p (k + 1)) x = true)) : z_nv False r p k (((z_d1 (p k) ||| dn) ||| up) &&& r k) := by
  intro x
  rw [b_and, b_or, b_or]
  simp only [Bool.and_eq_true, Bool.or_eq_true, z_d1_iff, hd, hu]
  constructor
  · rintro ⟨(⟨h0, x0, h1, h2, h3⟩ | ⟨h1, h2⟩) | ⟨h1, h2⟩, h4⟩
    · refine ⟨h4, x0, k, ⟨hk, h1⟩, ?_⟩
      by_cases e : x0 = x
      · exact Or.inl ⟨e, rfl⟩
      · exact Or.inr (Or.inl ⟨rfl, by omega⟩)
    · exact ⟨h4, x, k - 1, ⟨by omega, h2⟩, Or.inr (Or.inr (Or.inl ⟨rfl, by omega⟩))⟩
    · exact ⟨h4, x, k + 1, ⟨h1, h2⟩, Or.inr (Or.inr (Or.inl ⟨rfl, by omega⟩))⟩
  · rintro ⟨h4, x0, y0, ⟨h5, h6⟩, h7⟩
    refine ⟨?_, h4⟩
    rcases h7 with ⟨rfl, rfl⟩ | ⟨rfl, h8⟩ | ⟨rfl, h8⟩ | ⟨h8, _⟩
    · exact Or.inl (Or.inl ⟨b_lt h6, x0, h6, by omega, by omega⟩)
    · exact Or.inl (Or.inl ⟨b_lt h4, x0, h6, by omega, by omega⟩)
    · rcases h8 with rfl | rfl
      · exact Or.inl (Or.inr ⟨by omega, by rw [Nat.add_sub_cancel]; exact h6⟩)
      · exact Or.inr ⟨h5, h6⟩
    · exact False.elim h8
theorem z_nv_ofA {r p : Nat → Int32} {k : Nat} (hk : k < 24) {dn up : Int32} (hd : ∀ x, bt dn x = true ↔ (0 < k ∧ bt (p (k - 1)) x = true)) (hu : ∀ x, bt up x = true ↔ (k + 1 < 24 ∧ bt (p (k + 1)) x = true)) : z_nv True r p k (z_d1 ((p k ||| dn) ||| up) &&& r k) := by
  intro x
  rw [b_and]
  simp only [Bool.and_eq_true, z_d1_iff, b_or, Bool.or_eq_true, hd, hu]
  constructor
  · rintro ⟨⟨h0, x0, h1, h2, h3⟩, h4⟩
    refine ⟨h4, ?_⟩
    rcases h1 with (h1 | ⟨h1, h5⟩) | ⟨h1, h5⟩
    · refine ⟨x0, k, ⟨hk, h1⟩, ?_⟩
      by_cases e : x0 = x
      · exact Or.inl ⟨e, rfl⟩
      · exact Or.inr (Or.inl ⟨rfl, by omega⟩)
    · exact ⟨x0, k - 1, ⟨by omega, h5⟩, Or.inr (Or.inr (Or.inr ⟨trivial, by omega, by omega, by omega⟩))⟩
    · exact ⟨x0, k + 1, ⟨h1, h5⟩, Or.inr (Or.inr (Or.inr ⟨trivial, by omega, by omega, by omega⟩))⟩
  · rintro ⟨h4, x0, y0, ⟨h5, h6⟩, h7⟩
    refine ⟨⟨b_lt h4, x0, ?_⟩, h4⟩
    have hy : y0 = k ∨ (0 < k ∧ y0 = k - 1) ∨ y0 = k + 1 := by
      rcases h7 with ⟨_, q⟩ | ⟨q, _⟩ | ⟨_, q⟩ | ⟨_, _, _, q⟩ <;> omega
    have hx : x ≤ x0 + 1 ∧ x0 ≤ x + 1 := by
      rcases h7 with ⟨q, _⟩ | ⟨_, q⟩ | ⟨q, _⟩ | ⟨_, q, q2, _⟩ <;> omega
    refine ⟨?_, hx.1, hx.2⟩
    rcases hy with rfl | ⟨q, rfl⟩ | rfl
    · exact Or.inl (Or.inl h6)
    · exact Or.inl (Or.inr ⟨q, h6⟩)
    · exact Or.inr ⟨h5, h6⟩
theorem z_0row {r : Int32} : r &&& ((0 : Int32) ^^^ (-1)) = r := b_ext fun i hi => by rw [b_and, b_not, b_0]; simp [hi]
/-- the first cell of rows -/
theorem z_first_of {r : Nat → Int32} {k a : Nat} (hk : k < 24) (hr0 : ∀ y, y < k → r y = 0) (ha : bt (r k) a = true) (ha0 : ∀ j, j < a → bt (r k) j = false) : z_first (z_in r) a k := by
  refine ⟨⟨hk, ha⟩, fun x y hx => ?_⟩
  rcases Nat.lt_trichotomy y k with q | q | q
  · have := hx.2
    rw [hr0 y q, b_0] at this; cases this
  · subst q
    refine Or.inr ⟨rfl, ?_⟩
    rcases Nat.lt_or_ge x a with q | q
    · have := hx.2
      rw [ha0 x q] at this; cases this
    · exact q
  · exact Or.inl q
/-- what has been found when the rows below y are through: nothing, or the lowest cell of the first row that has any -/
def z_fd (r p : Nat → Int32) (y : Nat) (fl : Int32) : Prop := (fl = 0 ∧ (∀ j, j < y → r j = 0) ∧ ∀ j, j < y → p j = 0) ∨ (fl = 1 ∧ ∃ k, k < y ∧ ¬ r k = 0 ∧ (∀ j, j < k → r j = 0) ∧ p k = r k &&& (-(r k)) ∧ ∀ j, j < y → j ≠ k → p j = 0)
theorem z_fd_seed {r p : Nat → Int32} (ask : Prop) (h : z_fd r p 24 1) : ∃ a k, z_first (z_in r) a k ∧ z_MI ask r a k p := by
  rcases h with ⟨h, _⟩ | ⟨_, k, hk, hrk, hr0, hpk, hp0⟩
  · cases h
  · obtain ⟨a, ha, ha0⟩ := b_least hrk
    have hin : ∀ x y, z_in p x y ↔ x = a ∧ y = k := fun x y => by
      constructor
      · rintro ⟨q1, q2⟩
        by_cases e : y = k
        · subst e
          rw [hpk, z_one ha ha0] at q2
          exact ⟨q2, rfl⟩
        · rw [hp0 y q1 e, b_0] at q2; cases q2
      · rintro ⟨rfl, rfl⟩
        refine ⟨hk, ?_⟩
        rw [hpk, z_one ha ha0]
    refine ⟨a, k, z_first_of hk hr0 ha ha0, (hin a k).mpr ⟨rfl, rfl⟩, fun y hy x hx => ?_, fun S h1 h2 x y h3 => ?_⟩
    · obtain ⟨rfl, rfl⟩ := (hin x y).mp ⟨hy, hx⟩
      exact ha
    · obtain ⟨rfl, rfl⟩ := (hin x y).mp h3
      exact h1
theorem v_nextPiece {σ : q_S} {ι : Nat → Nat → Int32} {κ : Nat → Nat → Int64} {Y pc rs : Nat} {r : Nat → Int32} (hm : q_mp σ Y pc rs) (hr : z_zr κ rs r) {R : q_O → q_S → Prop}
    (h0 : (∀ y, y < 24 → r y = 0) → ∀ κ' : Nat → Nat → Int64, (∀ a, a ≠ pc → a ≠ rs → κ' a = κ a) → z_zr κ' pc (fun _ => 0) → z_zr κ' rs r → R (.inl (some (.inl 0))) (q_put σ ι κ'))
    (h1 : (∃ y, y < 24 ∧ ¬ r y = 0) → ∀ (κ' : Nat → Nat → Int64) (p : Nat → Int32), (∀ a, a ≠ pc → a ≠ rs → κ' a = κ a) → z_zr κ' pc p → (∀ x y, z_in p x y ↔ z_fc False (z_in r) x y) → z_zr κ' rs (fun y => r y &&& (p y ^^^ (-1))) → R (.inl (some (.inl 1))) (q_put σ ι κ')) : V_PM_nextPiece Y (q_put σ ι κ) R := by
  obtain ⟨hK, rfl, rfl, hKp, hKr, hZp, hZr, hne⟩ := hm
  have hip : ∀ j : Nat, j < 24 → vp_in (nI j) (q_Z σ (q_P σ Y 29)) := fun j hj => by rw [hZp]; exact vp_in_nI hj (by decide)
  have hir : ∀ j : Nat, j < 24 → vp_in (nI j) (q_Z σ (q_P σ Y 31)) := fun j hj => by rw [hZr]; exact vp_in_nI hj (by decide)
  intro P4 P58 P66 P74 P106 P125 P155 P160 P180 h4 h58 h66 h74 h106 h125 h155 h160 h180
  -- the piece goes off the rest
  have e180 : ∀ d y κ' fl p, y + d = 24 → (fl = 0 ∨ fl = 1) → (∀ a, a ≠ q_P σ Y 29 → a ≠ q_P σ Y 31 → κ' a = κ a) → z_zr κ' (q_P σ Y 29) p → (∀ j, j < 24 → κ' (q_P σ Y 31) j = if j < y then zx (r j &&& (p j ^^^ (-1))) else zx (r j)) → (∀ κ'' : Nat → Nat → Int64, (∀ a, a ≠ q_P σ Y 29 → a ≠ q_P σ Y 31 → κ'' a = κ a) → z_zr κ'' (q_P σ Y 29) p → z_zr κ'' (q_P σ Y 31) (fun y => r y &&& (p y ^^^ (-1))) → R (.inl (some (.inl fl))) (q_put σ ι κ'')) → P180 Y fl (nI y) (q_put σ ι κ') := by
    intro d
    induction d with
    | zero =>
      intro y κ' fl p hy hfl ho hp hrs hend
      refine h180 _ _ _ _ (pk_le 24 y (fun _ => ⟨hfl, hend κ' ho hp (fun j hj => ?_)⟩) (fun q => by omega))
      rw [hrs j hj, if_pos (by omega)]
    | succ d ih =>
      intro y κ' fl p hy hfl ho hp hrs hend
      refine h180 _ _ _ _ (pk_le 24 y (fun q => by omega) (fun _ => ⟨hK, hK, hKr, hir y (by omega), hK, hKp, hip y (by omega), hKr, hir y (by omega), fun σ2 e2 v12 e12 => ?_⟩))
      rw [nI_clamp (by omega)] at e2
      rw [nI_1] at e12
      have e2' : σ2 = q_put σ ι (va_up κ' (q_P σ Y 31) (va_up (κ' (q_P σ Y 31)) y (κ' (q_P σ Y 31) y &&& (κ' (q_P σ Y 29) y ^^^ (-1))))) := e2
      rw [hrs y (by omega), if_neg (by omega), hp y (by omega), zx_andn] at e2'
      rw [e2', e12]
      refine ih (y + 1) _ fl p (by omega) hfl (fun a q1 q2 => by rw [up_n q2]; exact ho a q1 q2) (hp.other hne _) (fun j hj => ?_) hend
      rw [up_s]
      by_cases e : j = y
      · rw [e, up_s, if_pos (by omega)]
      · rw [up_n e, hrs j hj]
        by_cases q : j < y
        · rw [if_pos q, if_pos (by omega)]
        · rw [if_neg q, if_neg (by omega)]
  -- the passes
  have e66 : ∀ N κ' p a k fl, 768 - z_ca p ≤ N → z_first (z_in r) a k → (∀ b, b ≠ q_P σ Y 29 → κ' b = κ b) → z_zr κ' (q_P σ Y 29) p → z_MI False r a k p → (fl = 0 → z_cl False (z_in r) (z_in p)) → P66 Y 1 fl (q_put σ ι κ') := by
    intro N
    induction N with
    | zero =>
      intro κ' p a k fl hN hf ho hp hMI hcl
      refine h66 _ _ _ _ (br_c (fun e => ?_) (fun e => ?_))
      · refine e180 24 0 κ' 1 p (by omega) (Or.inr rfl) (fun b q1 q2 => ho b q1) hp (fun j hj => ?_) (fun κ'' g1 g2 g3 => h1 ⟨k, hf.1.1, fun z => ?_⟩ κ'' p g1 g2 (fun x y => z_comp_of hf hMI.1 hMI.2.2 (hcl e) x y) g3)
        · rw [ho _ (Ne.symm hne), hr j hj, if_neg (by omega)]
        · have := hf.1.2
          rw [z, b_0] at this; cases this
      · -- all cells are in it: it is closed, whatever the pass says
        have hfull : ∀ x y, x < 32 → y < 24 → bt (p y) x = true := by
          intro x y hx hy
          cases e9 : bt (p y) x
          · exfalso
            have q1 := z_sm_lt (f := fun y => z_pc (p y)) (g := fun _ => 32) (n := 24) (k := y) (fun _ _ => z_pc_le _) hy (by
              have := z_cn_lt (f := bt (p y)) (g := fun _ => true) (n := 32) (k := x) (fun _ _ _ => rfl) hx rfl e9
              exact Nat.lt_of_lt_of_le this (z_cn_le _ _))
            have q2 := z_sm_le (f := fun _ => 32) (n := 24) (b := 32) (fun _ _ => Nat.le_refl _)
            have q3 : z_ca p < 768 := Nat.lt_of_lt_of_le q1 q2
            omega
          · rfl
        have hcl' : z_cl False (z_in r) (z_in p) := fun x y x' y' _ _ q => ⟨q.1, hfull x' y' (b_lt q.2) q.1⟩
        -- one pass changes nothing, then the end
        have e74 : ∀ d y κ', y + d = 24 → (∀ b, b ≠ q_P σ Y 29 → κ' b = κ b) → z_zr κ' (q_P σ Y 29) p → P74 Y 1 0 (nI y) (q_put σ ι κ') := by
          intro d
          induction d with
          | zero =>
            intro y κ' hy ho hp
            refine h74 _ _ _ _ _ (pk_le 24 y (fun _ => h66 _ _ _ _ (br_t rfl (e180 24 0 κ' 1 p (by omega) (Or.inr rfl) (fun b q1 q2 => ho b q1) hp (fun j hj => ?_) (fun κ'' g1 g2 g3 => h1 ⟨k, hf.1.1, fun z => ?_⟩ κ'' p g1 g2 (fun x y => z_comp_of hf hMI.1 hMI.2.2 hcl' x y) g3)))) (fun q => by omega))
            · rw [ho _ (Ne.symm hne), hr j hj, if_neg (by omega)]
            · have := hf.1.2
              rw [z, b_0] at this; cases this
          | succ d ih =>
            intro y κ' hy ho hp
            refine h74 _ _ _ _ _ (pk_le 24 y (fun q => by omega) (fun _ => ⟨hK, hKp, hip y (by omega), ?_⟩))
            have fin : ∀ dn up : Int32, (∀ x, bt dn x = true ↔ (0 < y ∧ bt (p (y - 1)) x = true)) → (∀ x, bt up x = true ↔ (y + 1 < 24 ∧ bt (p (y + 1)) x = true)) → P125 Y 1 0 (nI y) (zx up) (zx (z_d1 (p y)) ||| zx dn) (q_put σ ι κ') := by
              intro dn up g1 g2
              refine h125 _ _ _ _ _ _ _ (fun v1 e1 => ⟨hK, hKr, hir y (by omega), fun v2 e2 => ?_⟩)
              have e2' : v2 = v1 &&& κ' (q_P σ Y 31) (nI y).toNatClampNeg := e2
              rw [nI_clamp (by omega), ho _ (Ne.symm hne), hr y (by omega), e1, zx_or, zx_or, zx_and] at e2'
              have hnv := z_nv_of (r := r) (p := p) (k := y) (by omega) g1 g2
              have hv : ((z_d1 (p y) ||| dn) ||| up) &&& r y = p y := by
                refine (z_sub.eq (fun x hx => hfull x y (b_lt hx) (by omega)) (hnv.sub (by omega) (hMI.2.1 y (by omega))))
              rw [hv] at e2'
              refine ⟨fun q => absurd rfl q, fun _ => ⟨hK, hKp, hip y (by omega), fun q => ?_, fun q => ?_⟩⟩
              · refine h160 _ _ _ _ _ _ ⟨hK, hKp, hip y (by omega), fun σ1 e9 v5 e5 => ?_⟩
                rw [nI_clamp (by omega), e2'] at e9
                rw [nI_1] at e5
                subst e9
                rw [e5]
                refine ih (y + 1) (va_up κ' (q_P σ Y 29) (va_up (κ' (q_P σ Y 29)) y (zx (p y)))) (by omega) (fun b q1 => by rw [up_n q1]; exact ho b q1) ?_
                have := hp.up y (p y)
                rwa [show va_up p y (p y) = p from funext fun j => by
                  by_cases e : j = y
                  · rw [e, up_s]
                  · rw [up_n e]] at this
              · refine absurd ?_ q
                rw [lg_cmp_eq]
                show v2 = κ' (q_P σ Y 29) (nI y).toNatClampNeg
                rw [nI_clamp (by omega), hp y (by omega), e2']
            have mid : ∀ dn : Int32, (∀ x, bt dn x = true ↔ (0 < y ∧ bt (p (y - 1)) x = true)) → P106 Y 1 0 (nI y) (zx dn) (zx (z_d1 (p y))) (q_put σ ι κ') := by
              intro dn g1
              refine h106 _ _ _ _ _ _ _ (pk_le 23 y (fun q => ?_) (fun q => ⟨hK, hKp, by rw [nI_1]; exact hip (y + 1) (by omega), ?_⟩))
              · have := fin dn 0 g1 (fun x => by rw [b_0]; constructor; (intro z; cases z); (rintro ⟨z, _⟩; omega))
                rw [zx_0] at this; exact this
              · have e9 : q_L (q_put σ ι κ') (q_P (q_put σ ι κ') Y 29) (nI y + 1).toNatClampNeg = zx (p (y + 1)) := by
                  rw [nI_1, nI_clamp (by omega)]; exact hp (y + 1) (by omega)
                rw [e9]
                exact fin dn (p (y + 1)) g1 (fun x => ⟨fun z => ⟨by omega, z⟩, fun z => z.2⟩)
            have e9 : q_L (q_put σ ι κ') (q_P (q_put σ ι κ') Y 29) (nI y).toNatClampNeg = zx (p y) := by
              rw [nI_clamp (by omega)]; exact hp y (by omega)
            rw [e9]
            refine v_wide (n := 1) (by decide) ?_
            refine pk_le y 0 (fun q => ?_) (fun q => ?_)
            · have := mid 0 (fun x => by rw [b_0]; constructor; (intro z; cases z); (rintro ⟨z, _⟩; omega))
              rw [zx_0] at this; exact this
            · have e1 : nI y - 1 = nI (y - 1) := pk_sub (b := 1) (by omega)
              have e8 : q_L (q_put σ ι κ') (q_P (q_put σ ι κ') Y 29) (nI y - 1).toNatClampNeg = zx (p (y - 1)) := by
                rw [e1, nI_clamp (by omega)]; exact hp (y - 1) (by omega)
              refine ⟨hK, hKp, by rw [e1]; exact hip (y - 1) (by omega), ?_⟩
              rw [e8]
              exact mid (p (y - 1)) (fun x => ⟨fun z => ⟨by omega, z⟩, fun z => z.2⟩)
        exact e74 24 0 κ' (by omega) ho hp
    | succ N ihN =>
      intro κ' p a k fl hN hf ho hp hMI hcl
      refine h66 _ _ _ _ (br_c (fun e => ?_) (fun e => ?_))
      · refine e180 24 0 κ' 1 p (by omega) (Or.inr rfl) (fun b q1 q2 => ho b q1) hp (fun j hj => ?_) (fun κ'' g1 g2 g3 => h1 ⟨k, hf.1.1, fun z => ?_⟩ κ'' p g1 g2 (fun x y => z_comp_of hf hMI.1 hMI.2.2 (hcl e) x y) g3)
        · rw [ho _ (Ne.symm hne), hr j hj, if_neg (by omega)]
        · have := hf.1.2
          rw [z, b_0] at this; cases this
      · have e74 : ∀ d y κ' q fl, y + d = 24 → (∀ b, b ≠ q_P σ Y 29 → κ' b = κ b) → z_zr κ' (q_P σ Y 29) q → z_MI False r a k q → (∀ j, z_sub (p j) (q j)) → (fl = 0 ∨ fl = 1) → (fl = 0 → q = p ∧ ∀ j, j < y → z_nv False r p j (p j)) → (fl = 1 → z_ca p < z_ca q) → P74 Y 1 fl (nI y) (q_put σ ι κ') := by
          intro d
          induction d with
          | zero =>
            intro y κ' q fl hy ho hq hMI' hsub hfl hfl0 hfl1
            refine h74 _ _ _ _ _ (pk_le 24 y (fun _ => ?_) (fun z => by omega))
            rcases hfl with e9 | e9
            · obtain ⟨z1, z2⟩ := hfl0 e9
              have hcl' : z_cl False (z_in r) (z_in q) := by rw [z1]; exact z_nv_closed (fun j hj => z2 j (by omega))
              rw [e9]
              refine h66 _ _ _ _ (br_t rfl (e180 24 0 κ' 1 q (by omega) (Or.inr rfl) (fun b q1 q2 => ho b q1) hq (fun j hj => ?_) (fun κ'' g1 g2 g3 => h1 ⟨k, hf.1.1, fun z => ?_⟩ κ'' q g1 g2 (fun x y => z_comp_of hf hMI'.1 hMI'.2.2 hcl' x y) g3)))
              · rw [ho _ (Ne.symm hne), hr j hj, if_neg (by omega)]
              · have := hf.1.2
                rw [z, b_0] at this; cases this
            · have := hfl1 e9
              refine ihN κ' q a k fl (by omega) hf ho hq hMI' (fun z => ?_)
              rw [e9] at z; exact absurd z (by decide)
          | succ d ih =>
            intro y κ' q fl hy ho hq hMI' hsub hfl hfl0 hfl1
            refine h74 _ _ _ _ _ (pk_le 24 y (fun z => by omega) (fun _ => ⟨hK, hKp, hip y (by omega), ?_⟩))
            have fin : ∀ dn up : Int32, (∀ x, bt dn x = true ↔ (0 < y ∧ bt (q (y - 1)) x = true)) → (∀ x, bt up x = true ↔ (y + 1 < 24 ∧ bt (q (y + 1)) x = true)) → P125 Y 1 fl (nI y) (zx up) (zx (z_d1 (q y)) ||| zx dn) (q_put σ ι κ') := by
              intro dn up g1 g2
              refine h125 _ _ _ _ _ _ _ (fun v1 e1 => ⟨hK, hKr, hir y (by omega), fun v2 e2 => ?_⟩)
              have e2' : v2 = v1 &&& κ' (q_P σ Y 31) (nI y).toNatClampNeg := e2
              rw [nI_clamp (by omega), ho _ (Ne.symm hne), hr y (by omega), e1, zx_or, zx_or, zx_and] at e2'
              have hnv := z_nv_of (r := r) (p := q) (k := y) (by omega) g1 g2
              have hs := hnv.sub (by omega) (hMI'.2.1 y (by omega))
              have nx : ∀ fl', (fl' = 0 ∨ fl' = 1) → (fl' = 0 → fl = 0 ∧ ((z_d1 (q y) ||| dn) ||| up) &&& r y = q y) → (fl' = 1 → fl = 1 ∨ ¬ ((z_d1 (q y) ||| dn) ||| up) &&& r y = q y) → P160 Y 1 (nI y) v2 fl' (q_put σ ι κ') := by
                intro fl' u0 u1 u2
                refine h160 _ _ _ _ _ _ ⟨hK, hKp, hip y (by omega), fun σ1 e9 v5 e5 => ?_⟩
                rw [nI_clamp (by omega), e2'] at e9
                rw [nI_1] at e5
                subst e9
                rw [e5]
                refine ih (y + 1) (va_up κ' (q_P σ Y 29) (va_up (κ' (q_P σ Y 29)) y (zx (((z_d1 (q y) ||| dn) ||| up) &&& r y)))) (va_up q y (((z_d1 (q y) ||| dn) ||| up) &&& r y)) fl' (by omega) (fun b q1 => by rw [up_n q1]; exact ho b q1) (hq.up y _) (hMI'.upd hnv (by omega)) (fun j => (hsub j).tr (z_up_sub hs j)) u0 (fun z => ?_) (fun z => ?_)
                · obtain ⟨w1, w2⟩ := u1 z
                  obtain ⟨w3, w4⟩ := hfl0 w1
                  have w5 : va_up q y (((z_d1 (q y) ||| dn) ||| up) &&& r y) = q := funext fun j => by
                    by_cases e : j = y
                    · rw [e, up_s, w2]
                    · rw [up_n e]
                  refine ⟨w5.trans w3, fun j hj => ?_⟩
                  by_cases e : j = y
                  · rw [e]
                    rw [w2] at hnv
                    rw [← w3]; exact hnv
                  · exact w4 j (by omega)
                · rcases u2 z with w | w
                  · exact Nat.lt_of_lt_of_le (hfl1 w) (z_ca_mono (fun j _ => z_up_sub hs j))
                  · have w1 := z_ca_lt (a := q) (b := va_up q y (((z_d1 (q y) ||| dn) ||| up) &&& r y)) (fun j _ => z_up_sub hs j) (k := y) (by omega) (by rw [up_s]; exact fun z => w z.symm)
                    rcases hfl with e9 | e9
                    · rw [(hfl0 e9).1] at w1 ⊢; exact w1
                    · have := hfl1 e9; omega
              refine ⟨fun z => h155 _ _ _ _ _ (nx 1 (Or.inr rfl) (fun z => absurd z (by decide)) (fun _ => Or.inl ?_)), fun z => ⟨hK, hKp, hip y (by omega), fun w => ?_, fun w => ?_⟩⟩
              · rcases hfl with e9 | e9
                · exact absurd e9 z
                · exact e9
              · rw [lg_cmp_eq] at w
                have w' : v2 = κ' (q_P σ Y 29) (nI y).toNatClampNeg := w
                rw [nI_clamp (by omega), hq y (by omega), e2'] at w'
                refine nx 0 (Or.inl rfl) (fun _ => ⟨?_, zx_inj w'⟩) (fun z => absurd z (by decide))
                rcases hfl with e9 | e9
                · exact e9
                · exact absurd (fun z2 => by rw [e9] at z2; exact absurd z2 (by decide)) z
              · refine h155 _ _ _ _ _ (nx 1 (Or.inr rfl) (fun z => absurd z (by decide)) (fun _ => Or.inr (fun w2 => w ?_)))
                rw [lg_cmp_eq]
                show v2 = κ' (q_P σ Y 29) (nI y).toNatClampNeg
                rw [nI_clamp (by omega), hq y (by omega), e2', w2]
            have mid : ∀ dn : Int32, (∀ x, bt dn x = true ↔ (0 < y ∧ bt (q (y - 1)) x = true)) → P106 Y 1 fl (nI y) (zx dn) (zx (z_d1 (q y))) (q_put σ ι κ') := by
              intro dn g1
              refine h106 _ _ _ _ _ _ _ (pk_le 23 y (fun z => ?_) (fun z => ⟨hK, hKp, by rw [nI_1]; exact hip (y + 1) (by omega), ?_⟩))
              · have := fin dn 0 g1 (fun x => by rw [b_0]; constructor; (intro z; cases z); (rintro ⟨z, _⟩; omega))
                rw [zx_0] at this; exact this
              · have e9 : q_L (q_put σ ι κ') (q_P (q_put σ ι κ') Y 29) (nI y + 1).toNatClampNeg = zx (q (y + 1)) := by
                  rw [nI_1, nI_clamp (by omega)]; exact hq (y + 1) (by omega)
                rw [e9]
                exact fin dn (q (y + 1)) g1 (fun x => ⟨fun z => ⟨by omega, z⟩, fun z => z.2⟩)
            have e9 : q_L (q_put σ ι κ') (q_P (q_put σ ι κ') Y 29) (nI y).toNatClampNeg = zx (q y) := by
              rw [nI_clamp (by omega)]; exact hq y (by omega)
            rw [e9]
            refine v_wide (n := 1) (by decide) ?_
            refine pk_le y 0 (fun z => ?_) (fun z => ?_)
            · have := mid 0 (fun x => by rw [b_0]; constructor; (intro z; cases z); (rintro ⟨z, _⟩; omega))
              rw [zx_0] at this; exact this
            · have e1 : nI y - 1 = nI (y - 1) := pk_sub (b := 1) (by omega)
              have e8 : q_L (q_put σ ι κ') (q_P (q_put σ ι κ') Y 29) (nI y - 1).toNatClampNeg = zx (q (y - 1)) := by
                rw [e1, nI_clamp (by omega)]; exact hq (y - 1) (by omega)
              refine ⟨hK, hKp, by rw [e1]; exact hip (y - 1) (by omega), ?_⟩
              rw [e8]
              exact mid (q (y - 1)) (fun x => ⟨fun z => ⟨by omega, z⟩, fun z => z.2⟩)
        exact e74 24 0 κ' p 0 (by omega) ho hp hMI (fun _ => z_sub.rf _) (Or.inl rfl) (fun _ => ⟨rfl, fun j hj => by omega⟩) (fun z => absurd z (by decide))
  -- the first cell
  have e4 : ∀ d y κ' p fl, y + d = 24 → (∀ b, b ≠ q_P σ Y 29 → κ' b = κ b) → (∀ j, j < y → κ' (q_P σ Y 29) j = zx (p j)) → z_fd r p y fl → P4 Y fl (nI y) (q_put σ ι κ') := by
    intro d
    induction d with
    | zero =>
      intro y κ' p fl hy ho hp hfd
      obtain rfl : y = 24 := by omega
      refine h4 _ _ _ _ (pk_le 24 24 (fun _ => ?_) (fun q => by omega))
      rcases hfd with ⟨e, q1, q2⟩ | ⟨e, q⟩
      · rw [e]
        refine h66 _ _ _ _ (br_t rfl (e180 24 0 κ' 0 (fun _ => 0) (by omega) (Or.inl rfl) (fun b u1 u2 => ho b u1) (fun j hj => by rw [hp j hj, q2 j hj]) (fun j hj => ?_) (fun κ'' g1 g2 g3 => h0 q1 κ'' g1 g2 (fun j hj => ?_))))
        · rw [ho _ (Ne.symm hne), hr j hj, if_neg (by omega)]
        · rw [g3 j hj]
          show zx (r j &&& (0 ^^^ (-1))) = _
          rw [z_0row]
      · rw [e]
        obtain ⟨a, k, u1, u2⟩ := z_fd_seed (ask := False) (Or.inr ⟨rfl, q⟩ : z_fd r p 24 1)
        exact e66 768 κ' p a k 1 (by omega) u1 ho hp u2 (fun z => absurd z (by decide))
    | succ d ih =>
      intro y κ' p fl hy ho hp hfd
      refine h4 _ _ _ _ (pk_le 24 y (fun q => by omega) (fun _ => ⟨hK, hKp, hip y (by omega), fun σ2 e2 => ?_⟩))
      rw [nI_clamp (by omega)] at e2
      subst e2
      have nx : ∀ κ'' p' fl', (∀ b, b ≠ q_P σ Y 29 → κ'' b = κ b) → (∀ j, j < y + 1 → κ'' (q_P σ Y 29) j = zx (p' j)) → z_fd r p' (y + 1) fl' → P58 Y fl' (nI y) (q_put σ ι κ'') := by
        intro κ'' p' fl' u1 u2 u3
        refine h58 _ _ _ _ (fun v1 e1 => ?_)
        rw [nI_1] at e1
        rw [e1]
        exact ih (y + 1) κ'' p' fl' (by omega) u1 u2 u3
      have ho' : ∀ b, b ≠ q_P σ Y 29 → va_up κ' (q_P σ Y 29) (va_up (κ' (q_P σ Y 29)) y 0) b = κ b := fun b hb => by rw [up_n hb]; exact ho b hb
      have hp' : ∀ j, j < y + 1 → va_up κ' (q_P σ Y 29) (va_up (κ' (q_P σ Y 29)) y 0) (q_P σ Y 29) j = zx (va_up p y 0 j) := fun j hj => by
        rw [up_s]
        by_cases e : j = y
        · rw [e, up_s, up_s, zx_0]
        · rw [up_n e, up_n e]; exact hp j (by omega)
      rcases hfd with ⟨e, q1, q2⟩ | ⟨e, k, w1, w2, w3, w4, w5⟩
      · have eR : q_L (q_put σ ι (va_up κ' (q_P σ Y 29) (va_up (κ' (q_P σ Y 29)) y 0))) (q_P σ Y 31) (nI y).toNatClampNeg = zx (r y) := by
          show va_up κ' (q_P σ Y 29) (va_up (κ' (q_P σ Y 29)) y 0) (q_P σ Y 31) (nI y).toNatClampNeg = _
          rw [nI_clamp (by omega), ho' _ (Ne.symm hne)]; exact hr y (by omega)
        refine ⟨fun z => absurd e z, fun _ => ⟨hK, hKr, hir y (by omega), fun z => ?_, fun z => ?_⟩⟩
        · have z' : ¬ r y = 0 := fun z2 => z (by
            rw [lg_cmp_eq]
            refine eR.trans ?_
            rw [z2, zx_0])
          refine ⟨hK, hK, hKr, hir y (by omega), hK, hKr, hir y (by omega), hKp, hip y (by omega), fun σ11 e11 => ?_⟩
          have e11' : σ11 = q_put σ ι (va_up (va_up κ' (q_P σ Y 29) (va_up (κ' (q_P σ Y 29)) y 0)) (q_P σ Y 29) (va_up (va_up κ' (q_P σ Y 29) (va_up (κ' (q_P σ Y 29)) y 0) (q_P σ Y 29)) y (zx (r y &&& (-(r y)))))) := by
            rw [e11]
            have eR' : q_L (q_wL (q_put σ ι κ') (q_P (q_put σ ι κ') Y 29) y 0) (q_P (q_wL (q_put σ ι κ') (q_P (q_put σ ι κ') Y 29) y 0) Y 31) (nI y).toNatClampNeg = zx (r y) := eR
            rw [eR', zx_low, nI_clamp (by omega)]
            rfl
          rw [e11']
          refine nx _ (va_up p y (r y &&& (-(r y)))) 1 (fun b hb => by rw [up_n hb]; exact ho' b hb) (fun j hj => ?_) (Or.inr ⟨rfl, y, by omega, z', q1, up_s _ _ _, fun j hj hne2 => by rw [up_n hne2]; exact q2 j (by omega)⟩)
          rw [up_s]
          by_cases e3 : j = y
          · rw [e3, up_s, up_s]
          · rw [up_n e3, up_n e3, up_s, up_n e3]; exact hp j (by omega)
        · have z' : r y = 0 := by
            by_cases z2 : r y = 0
            · exact z2
            · exact absurd (fun z3 => z2 (zx_eq0.mp (eR.symm.trans ((lg_cmp_eq _ _).mp z3)))) z
          refine nx _ (va_up p y 0) fl ho' hp' (Or.inl ⟨e, fun j hj => ?_, fun j hj => ?_⟩)
          · by_cases e3 : j = y
            · rw [e3]; exact z'
            · exact q1 j (by omega)
          · by_cases e3 : j = y
            · rw [e3, up_s]
            · rw [up_n e3]; exact q2 j (by omega)
      · refine ⟨fun _ => nx _ (va_up p y 0) fl ho' hp' (Or.inr ⟨e, k, by omega, w2, w3, by rw [up_n (by omega)]; exact w4, fun j hj hjk => ?_⟩), fun z => absurd (fun z2 => by rw [e] at z2; exact absurd z2 (by decide)) z⟩
        by_cases e3 : j = y
        · rw [e3, up_s]
        · rw [up_n e3]; exact w5 j (by omega) hjk
  exact e4 24 0 κ (fun _ => 0) 0 (by omega) (fun _ _ => rfl) (fun j hj => by omega) (Or.inl ⟨rfl, fun j hj => by omega, fun j hj => by omega⟩)
