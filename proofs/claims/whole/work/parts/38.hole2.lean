/-! THE REFERENCE'S NEXT HOLE -/
theorem z_edge (v : Int32) : zx v &&& ((1 : Int64) ||| f_PM_bit (31 : Int32)) = 0 ↔ ¬ (bt v 0 = true ∨ bt v 31 = true) := by
  have hc : ((1 : Int64) ||| f_PM_bit (31 : Int32)) = 2147483649 := by decide +kernel
  have hb : ∀ i, i < 64 → bl (2147483649 : Int64) i = decide (i = 0 ∨ i = 31) := by decide +kernel
  rw [hc, l_eq0]
  constructor
  · rintro h (h1 | h1)
    · have := h 0 (by decide)
      rw [l_and, l_zx, hb 0 (by decide), h1] at this
      exact absurd this (by decide)
    · have := h 31 (by decide)
      rw [l_and, l_zx, hb 31 (by decide), h1] at this
      exact absurd this (by decide)
  · intro h i hi
    rw [l_and, l_zx, hb i hi]
    by_cases e : i = 0 ∨ i = 31
    · cases e2 : bt v i
      · rfl
      · exact absurd (by rcases e with rfl | rfl; exact Or.inl e2; exact Or.inr e2) h
    · rw [decide_eq_false e, Bool.and_false]
theorem z_bd_rows {p : Nat → Int32} : z_bd (z_in p) ↔ (¬ p 0 = 0 ∨ ¬ p 23 = 0) ∨ ∃ y, y < 24 ∧ (bt (p y) 0 = true ∨ bt (p y) 31 = true) := by
  constructor
  · rintro ⟨x, y, ⟨h1, h2⟩, h3⟩
    rcases h3 with rfl | rfl | rfl | rfl
    · exact Or.inr ⟨y, h1, Or.inl h2⟩
    · exact Or.inr ⟨y, h1, Or.inr h2⟩
    · exact Or.inl (Or.inl (b_ne0.mpr ⟨x, b_lt h2, h2⟩))
    · exact Or.inl (Or.inr (b_ne0.mpr ⟨x, b_lt h2, h2⟩))
  · rintro ((h | h) | ⟨y, h1, h2 | h2⟩)
    · obtain ⟨x, _, h3⟩ := b_ne0.mp h
      exact ⟨x, 0, ⟨by decide, h3⟩, by omega⟩
    · obtain ⟨x, _, h3⟩ := b_ne0.mp h
      exact ⟨x, 23, ⟨by decide, h3⟩, by omega⟩
    · exact ⟨0, y, ⟨h1, h2⟩, by omega⟩
    · exact ⟨31, y, ⟨h1, h2⟩, by omega⟩
theorem v_nextHole {σ : q_S} {ι : Nat → Nat → Int32} {κ : Nat → Nat → Int64} {Y pc rs : Nat} {r : Nat → Int32} (hm : q_mp σ Y pc rs) (hr : z_zr κ rs r) {R : q_O → q_S → Prop}
    (h0 : z_hn (z_in r) → ∀ κ' : Nat → Nat → Int64, (∀ a, a ≠ pc → a ≠ rs → κ' a = κ a) → R (.inl (some (.inl 0))) (q_put σ ι κ'))
    (h1 : ∀ n (κ' : Nat → Nat → Int64) (p r' : Nat → Int32), z_hf (z_in r) n → (∀ a, a ≠ pc → a ≠ rs → κ' a = κ a) → z_zr κ' pc p → z_in p = z_fc True (z_it True n (z_in r)) → z_zr κ' rs r' → z_in r' = z_it True (n + 1) (z_in r) → R (.inl (some (.inl 1))) (q_put σ ι κ')) : V_PM_nextHole Y (q_put σ ι κ) R := by
  have hm' := hm
  obtain ⟨hK, rfl, rfl, hKp, hKr, hZp, hZr, hne⟩ := hm
  have hip : ∀ j : Nat, j < 24 → vp_in (nI j) (q_Z σ (q_P σ Y 29)) := fun j hj => by rw [hZp]; exact vp_in_nI hj (by decide)
  have hir : ∀ j : Nat, j < 24 → vp_in (nI j) (q_Z σ (q_P σ Y 31)) := fun j hj => by rw [hZr]; exact vp_in_nI hj (by decide)
  intro P2 P10 P64 P103 P108 P111 P140 P145 h2 h10 h64 h103 h108 h111 h140 h145
  have e2 : ∀ N n κ' r' fl, z_ca r' < N → z_zr κ' (q_P σ Y 31) r' → z_in r' = z_it True n (z_in r) → z_hs (z_in r) n → (∀ a, a ≠ q_P σ Y 29 → a ≠ q_P σ Y 31 → κ' a = κ a) → ¬ fl = 0 → P2 Y fl (q_put σ ι κ') := by
    intro N
    induction N with
    | zero => intro n κ' r' fl hN; omega
    | succ N ihN =>
      intro n κ' r' fl hN hr' hin hhs ho hfl
      refine h2 _ _ _ (br_f hfl ?_)
      have e10 : ∀ d y κ'' p fl, y + d = 24 → (∀ b, b ≠ q_P σ Y 29 → κ'' b = κ' b) → (∀ j, j < y → κ'' (q_P σ Y 29) j = zx (p j)) → z_fd r' p y fl → P10 Y fl (nI y) (q_put σ ι κ'') := by
        intro d
        induction d with
        | zero =>
          intro y κ'' p fl hy ho' hp hfd
          obtain rfl : y = 24 := by omega
          have hr'' : z_zr κ'' (q_P σ Y 31) r' := fun j hj => by rw [ho' _ (Ne.symm hne)]; exact hr' j hj
          have hoo : ∀ a, a ≠ q_P σ Y 29 → a ≠ q_P σ Y 31 → κ'' a = κ a := fun a q1 q2 => (ho' a q1).trans (ho a q1 q2)
          refine h10 _ _ _ _ (pk_le 24 24 (fun _ => ?_) (fun q => by omega))
          rcases hfd with ⟨e, q1, q2⟩ | ⟨e, q⟩
          · refine ⟨fun z => absurd e z, fun _ => h0 ⟨n, hhs, ?_⟩ κ'' hoo⟩
            rw [← hin]; exact z_ne_rows0.mpr q1
          · obtain ⟨a, k, u1, u2⟩ := z_fd_seed (ask := True) (Or.inr ⟨rfl, q⟩ : z_fd r' p 24 1)
            refine ⟨fun _ => ⟨hK, ?_⟩, fun z => absurd (fun z2 => by rw [e] at z2; exact absurd z2 (by decide)) z⟩
            refine v_growAskew hm' hr'' hp u2 (fun κ3 p3 w1 w2 w3 w4 => ?_)
            have hr3 : z_zr κ3 (q_P σ Y 31) r' := fun j hj => by rw [w1 _ (Ne.symm hne)]; exact hr'' j hj
            have hp3 : z_in p3 = z_fc True (z_in r') := z_eqset fun x y => z_comp_of u1 w3.1 w3.2.2 w4 x y
            have hne3 : z_ne (z_it True n (z_in r)) := by rw [← hin]; exact ⟨a, k, u1.1⟩
            have hoo3 : ∀ a, a ≠ q_P σ Y 29 → a ≠ q_P σ Y 31 → κ3 a = κ a := fun a q1 q2 => (w1 a q1).trans (hoo a q1 q2)
            have e111 : ∀ d y κ4 bd, y + d = 24 → (∀ a, a ≠ q_P σ Y 29 → a ≠ q_P σ Y 31 → κ4 a = κ a) → z_zr κ4 (q_P σ Y 29) p3 → (∀ j, j < 24 → κ4 (q_P σ Y 31) j = if j < y then zx (r' j &&& (p3 j ^^^ (-1))) else zx (r' j)) → ((bd = 0 ∧ ¬ ((¬ p3 0 = 0 ∨ ¬ p3 23 = 0) ∨ ∃ j, j < y ∧ (bt (p3 j) 0 = true ∨ bt (p3 j) 31 = true))) ∨ (bd = 1 ∧ ((¬ p3 0 = 0 ∨ ¬ p3 23 = 0) ∨ ∃ j, j < y ∧ (bt (p3 j) 0 = true ∨ bt (p3 j) 31 = true)))) → P111 Y fl bd (nI y) (q_put σ ι κ4) := by
              intro d
              induction d with
              | zero =>
                intro y κ4 bd hy g1 g2 g3 g4
                obtain rfl : y = 24 := by omega
                have hrs : z_zr κ4 (q_P σ Y 31) (fun y => r' y &&& (p3 y ^^^ (-1))) := fun j hj => by rw [g3 j hj, if_pos hj]
                have hrin : z_in (fun y => r' y &&& (p3 y ^^^ (-1))) = z_it True (n + 1) (z_in r) := by
                  rw [z_in_andn (ask := True) (fun x y => by rw [hp3]), hin, z_it_s]
                refine h111 _ _ _ _ _ (pk_le 24 24 (fun _ => ?_) (fun q => by omega))
                rcases g4 with ⟨g5, g6⟩ | ⟨g5, g6⟩
                · refine ⟨fun z => absurd g5 z, fun _ => h1 n κ4 p3 _ ⟨hhs, hne3, ?_⟩ g1 g2 (by rw [hp3, hin]) hrs hrin⟩
                  rw [← hin, ← hp3]
                  exact fun z => g6 (z_bd_rows.mp z)
                · refine ⟨fun _ => ihN (n + 1) κ4 _ fl ?_ hrs hrin (hhs.s hne3 ?_) g1 (fun z => by rw [e] at z; exact absurd z (by decide)), fun z => absurd (fun z2 => by rw [g5] at z2; exact absurd z2 (by decide)) z⟩
                  · have := z_ca_andn (r := r') (p := p3) w3.2.1 ⟨a, k, w3.1⟩
                    omega
                  · rw [← hin, ← hp3]; exact z_bd_rows.mpr g6
              | succ d ih =>
                intro y κ4 bd hy g1 g2 g3 g4
                refine h111 _ _ _ _ _ (pk_le 24 y (fun q => by omega) (fun _ => ?_))
                have nx : ∀ bd', ((bd' = 0 ∧ ¬ ((¬ p3 0 = 0 ∨ ¬ p3 23 = 0) ∨ ∃ j, j < y + 1 ∧ (bt (p3 j) 0 = true ∨ bt (p3 j) 31 = true))) ∨ (bd' = 1 ∧ ((¬ p3 0 = 0 ∨ ¬ p3 23 = 0) ∨ ∃ j, j < y + 1 ∧ (bt (p3 j) 0 = true ∨ bt (p3 j) 31 = true)))) → P145 Y fl (nI y) bd' (q_put σ ι κ4) := by
                  intro bd' g5
                  refine h145 _ _ _ _ _ ⟨hK, hK, hKr, hir y (by omega), hK, hKp, hip y (by omega), hKr, hir y (by omega), fun σ1 e1 v11 e11 => ?_⟩
                  rw [nI_clamp (by omega)] at e1
                  rw [nI_1] at e11
                  have e1' : σ1 = q_put σ ι (va_up κ4 (q_P σ Y 31) (va_up (κ4 (q_P σ Y 31)) y (κ4 (q_P σ Y 31) y &&& (κ4 (q_P σ Y 29) y ^^^ (-1))))) := e1
                  rw [g3 y (by omega), if_neg (by omega), g2 y (by omega), zx_andn] at e1'
                  rw [e1', e11]
                  refine ih (y + 1) _ bd' (by omega) (fun a q1 q2 => by rw [up_n q2]; exact g1 a q1 q2) (g2.other hne _) (fun j hj => ?_) g5
                  rw [up_s]
                  by_cases e : j = y
                  · rw [e, up_s, if_pos (by omega)]
                  · rw [up_n e, g3 j hj]
                    by_cases q : j < y
                    · rw [if_pos q, if_pos (by omega)]
                    · rw [if_neg q, if_neg (by omega)]
                rcases g4 with ⟨g5, g6⟩ | ⟨g5, g6⟩
                · have eP : q_L (q_put σ ι κ4) (q_P (q_put σ ι κ4) Y 29) (nI y).toNatClampNeg = zx (p3 y) := by
                    rw [nI_clamp (by omega)]; exact g2 y (by omega)
                  refine ⟨fun z => absurd g5 z, fun _ => ⟨hK, hKp, hip y (by omega), ?_⟩⟩
                  rw [eP, lg_cmp_eq, z_edge]
                  refine ⟨fun z => nx 0 (Or.inl ⟨rfl, ?_⟩), fun z => h140 _ _ _ _ (nx 1 (Or.inr ⟨rfl, ?_⟩))⟩
                  · rintro (w | ⟨j, q1, q2⟩)
                    · exact g6 (Or.inl w)
                    · by_cases e : j = y
                      · rw [e] at q2; exact z q2
                      · exact g6 (Or.inr ⟨j, by omega, q2⟩)
                  · exact Or.inr ⟨y, by omega, Classical.not_not.mp z⟩
                · refine ⟨fun z => h140 _ _ _ _ (nx 1 (Or.inr ⟨rfl, ?_⟩)), fun z => absurd (fun z2 => by rw [g5] at z2; exact absurd z2 (by decide)) z⟩
                  rcases g6 with w | ⟨j, q1, q2⟩
                  · exact Or.inl w
                  · exact Or.inr ⟨j, by omega, q2⟩
            have st : ∀ bd, ((bd = 0 ∧ ¬ (¬ p3 0 = 0 ∨ ¬ p3 23 = 0)) ∨ (bd = 1 ∧ (¬ p3 0 = 0 ∨ ¬ p3 23 = 0))) → P108 Y fl bd (q_put σ ι κ3) := by
              intro bd hbd
              refine h108 _ _ _ _ (e111 24 0 κ3 bd (by omega) hoo3 w2 (fun j hj => by rw [hr3 j hj, if_neg (by omega)]) ?_)
              rcases hbd with ⟨q1, q2⟩ | ⟨q1, q2⟩
              · refine Or.inl ⟨q1, ?_⟩
                rintro (w | ⟨j, w, _⟩)
                · exact q2 w
                · omega
              · exact Or.inr ⟨q1, Or.inl q2⟩
            have eP0 : q_L (q_put σ ι κ3) (q_P (q_put σ ι κ3) Y 29) (0 : Int32).toNatClampNeg = zx (p3 0) := w2 0 (by decide)
            have eP23 : q_L (q_put σ ι κ3) (q_P (q_put σ ι κ3) Y 29) (23 : Int32).toNatClampNeg = zx (p3 23) := w2 23 (by decide)
            refine ⟨hK, hKp, hip 0 (by decide), ?_⟩
            rw [eP0, lg_cmp_eq, zx_eq0]
            refine ⟨fun z => h103 _ _ _ (st 1 (Or.inr ⟨rfl, Or.inl z⟩)), fun z => ⟨hK, hKp, hip 23 (by decide), ?_⟩⟩
            rw [eP23, lg_cmp_eq, zx_eq0]
            refine ⟨fun z2 => st 0 (Or.inl ⟨rfl, ?_⟩), fun z2 => h103 _ _ _ (st 1 (Or.inr ⟨rfl, Or.inr z2⟩))⟩
            rintro (w | w)
            · exact z w
            · exact w z2
        | succ d ih =>
          intro y κ'' p fl hy ho' hp hfd
          refine h10 _ _ _ _ (pk_le 24 y (fun q => by omega) (fun _ => ⟨hK, hKp, hip y (by omega), fun σ2 e2 => ?_⟩))
          rw [nI_clamp (by omega)] at e2
          subst e2
          have nx : ∀ κ4 p' fl', (∀ b, b ≠ q_P σ Y 29 → κ4 b = κ' b) → (∀ j, j < y + 1 → κ4 (q_P σ Y 29) j = zx (p' j)) → z_fd r' p' (y + 1) fl' → P64 Y fl' (nI y) (q_put σ ι κ4) := by
            intro κ4 p' fl' u1 u2 u3
            refine h64 _ _ _ _ (fun v1 e1 => ?_)
            rw [nI_1] at e1
            rw [e1]
            exact ih (y + 1) κ4 p' fl' (by omega) u1 u2 u3
          have ho2 : ∀ b, b ≠ q_P σ Y 29 → va_up κ'' (q_P σ Y 29) (va_up (κ'' (q_P σ Y 29)) y 0) b = κ' b := fun b hb => by rw [up_n hb]; exact ho' b hb
          have hp2 : ∀ j, j < y + 1 → va_up κ'' (q_P σ Y 29) (va_up (κ'' (q_P σ Y 29)) y 0) (q_P σ Y 29) j = zx (va_up p y 0 j) := fun j hj => by
            rw [up_s]
            by_cases e : j = y
            · rw [e, up_s, up_s, zx_0]
            · rw [up_n e, up_n e]; exact hp j (by omega)
          rcases hfd with ⟨e, q1, q2⟩ | ⟨e, k, w1, w2, w3, w4, w5⟩
          · have eR : q_L (q_put σ ι (va_up κ'' (q_P σ Y 29) (va_up (κ'' (q_P σ Y 29)) y 0))) (q_P σ Y 31) (nI y).toNatClampNeg = zx (r' y) := by
              show va_up κ'' (q_P σ Y 29) (va_up (κ'' (q_P σ Y 29)) y 0) (q_P σ Y 31) (nI y).toNatClampNeg = _
              rw [nI_clamp (by omega), ho2 _ (Ne.symm hne)]; exact hr' y (by omega)
            refine ⟨fun z => absurd e z, fun _ => ⟨hK, hKr, hir y (by omega), fun z => ?_, fun z => ?_⟩⟩
            · have z' : ¬ r' y = 0 := fun z2 => z (by
                rw [lg_cmp_eq]
                refine eR.trans ?_
                rw [z2, zx_0])
              refine ⟨hK, hK, hKr, hir y (by omega), hK, hKr, hir y (by omega), hKp, hip y (by omega), fun σ11 e11 => ?_⟩
              have e11' : σ11 = q_put σ ι (va_up (va_up κ'' (q_P σ Y 29) (va_up (κ'' (q_P σ Y 29)) y 0)) (q_P σ Y 29) (va_up (va_up κ'' (q_P σ Y 29) (va_up (κ'' (q_P σ Y 29)) y 0) (q_P σ Y 29)) y (zx (r' y &&& (-(r' y)))))) := by
                rw [e11]
                have eR' : q_L (q_wL (q_put σ ι κ'') (q_P (q_put σ ι κ'') Y 29) y 0) (q_P (q_wL (q_put σ ι κ'') (q_P (q_put σ ι κ'') Y 29) y 0) Y 31) (nI y).toNatClampNeg = zx (r' y) := eR
                rw [eR', zx_low, nI_clamp (by omega)]
                rfl
              rw [e11']
              refine nx _ (va_up p y (r' y &&& (-(r' y)))) 1 (fun b hb => by rw [up_n hb]; exact ho2 b hb) (fun j hj => ?_) (Or.inr ⟨rfl, y, by omega, z', q1, up_s _ _ _, fun j hj hne2 => by rw [up_n hne2]; exact q2 j (by omega)⟩)
              rw [up_s]
              by_cases e3 : j = y
              · rw [e3, up_s, up_s]
              · rw [up_n e3, up_n e3, up_s, up_n e3]; exact hp j (by omega)
            · have z' : r' y = 0 := by
                by_cases z2 : r' y = 0
                · exact z2
                · exact absurd (fun z3 => z2 (zx_eq0.mp (eR.symm.trans ((lg_cmp_eq _ _).mp z3)))) z
              refine nx _ (va_up p y 0) fl ho2 hp2 (Or.inl ⟨e, fun j hj => ?_, fun j hj => ?_⟩)
              · by_cases e3 : j = y
                · rw [e3]; exact z'
                · exact q1 j (by omega)
              · by_cases e3 : j = y
                · rw [e3, up_s]
                · rw [up_n e3]; exact q2 j (by omega)
          · refine ⟨fun _ => nx _ (va_up p y 0) fl ho2 hp2 (Or.inr ⟨e, k, by omega, w2, w3, by rw [up_n (by omega)]; exact w4, fun j hj hjk => ?_⟩), fun z => absurd (fun z2 => by rw [e] at z2; exact absurd z2 (by decide)) z⟩
            by_cases e3 : j = y
            · rw [e3, up_s]
            · rw [up_n e3]; exact w5 j (by omega) hjk
      exact e10 24 0 κ' (fun _ => 0) 0 (by omega) (fun _ _ => rfl) (fun j hj => by omega) (Or.inl ⟨rfl, fun j hj => by omega, fun j hj => by omega⟩)
  exact e2 769 0 κ r 1 (by have := z_ca_le r; omega) hr rfl (fun i hi => by omega) (fun _ _ _ => rfl) (by decide)
