/-! ISLANDS OF THE CLASS -/
theorem v_takeOffIslands {σ : q_S} {ι : Nat → Nat → Int32} {κ : Nat → Nat → Int64} {A : a_A} {f : Nat → Nat} {ν c t q : Nat} (hc : c_S σ) (hE : c_E A σ ι f) (ok : a_okE A) (hν : q_K σ ν = 6) (hn : ι ν 0 = a_nt A q) (hl : ι ν 1 = a_la A q) (hνc : q_P σ ν 11 = c) (hcK : q_K σ c = 2) (hct : q_P σ c 0 = t) (htK : q_K σ t = 1000) (htZ : q_Z σ t = 24) (hask : ι 7 0 = 0) (h63 : ι 6 3 = nI (a_ru A 3)) (ba : a_ru A 3 ≤ 1000)
    (c13 : 13 < c) (t13 : 13 < t) (hcν : c ≠ ν) (htν : t ≠ ν) (hctn : c ≠ t) (hfc : ∀ i, i < a_E A → f i ≠ c) (hft : ∀ i, i < a_E A → f i ≠ t) (hf13 : ∀ i, i < a_E A → 13 < f i) (hν13 : 13 < ν) {R : q_O → q_S → Prop}
    (h : ∀ (ι' : Nat → Nat → Int32) (N : Nat), z_np (z_in (ι t)) N → N ≤ 768 → (∀ a, a ≠ 7 → a ≠ 8 → a ≠ 9 → a ≠ c → a ≠ t → ι' a = ι a) → ι' 7 0 = 0 → ι' t = z_rws (z_kp (z_bad A q) (z_in (ι t)) N) (ι t) → ι' c 1 = nI (N - z_cb (z_bad A q) (z_in (ι t)) N) → ι' c 2 = nI (z_cb (z_bad A q) (z_in (ι t)) N) → ι' c 3 = ι c 3 → R (.inl none) (q_put σ ι' κ)) : V_PF_takeOffIslands 1 ν (q_put σ ι κ) R := by
  intro P28 P93 P103 P109 p28 p93 p103 p109
  have v3 : vp_in 3 4 := vp_in_nI (n := 3) (by omega) (by omega)
  have d3 : (3 : Int32).toNatClampNeg = 3 := by decide
  have hg7 := hc.g7
  generalize hr : ι t = r at h
  have L1 : ∀ (d k : Nat) (ι' : Nat → Nat → Int32), k + d = 768 → (∀ a, a ≠ 7 → a ≠ 8 → a ≠ 9 → a ≠ c → a ≠ t → ι' a = ι a) → ι' 7 0 = 0 → z_GS ι' 7 8 9 → z_in (ι' 8) = z_it False k (z_in r) → (∀ j, j < k → z_ne (z_it False j (z_in r))) → z_ca (ι' 8) + k ≤ 768 → ι' t = z_rws (z_kp (z_bad A q) (z_in r) k) r → ι' c 1 = nI (k - z_cb (z_bad A q) (z_in r) k) → ι' c 2 = nI (z_cb (z_bad A q) (z_in r) k) → ι' c 3 = ι c 3 → P28 1 ν c (nI k) (q_put σ ι' κ) := by
    intro d
    induction d with
    | zero =>
      intro k ι' hk hf h7 hGS h8 hne hca ht hc1 hc2 hc3
      have hk : k = 768 := by omega
      subst hk
      refine p28 _ _ _ _ _ (pk_le 768 768 (fun _ => p109 _ ?_) (fun c => by omega))
      refine h ι' 768 ⟨hne, ?_⟩ (Nat.le_refl _) hf h7 ht hc1 hc2 hc3
      rw [← h8]; exact z_ca0 (by omega)
    | succ d ih =>
      intro k ι' hk hf h7 hGS h8 hne hca ht hc1 hc2 hc3
      refine p28 _ _ _ _ _ (pk_le 768 k (fun c => by omega) (fun _ => ⟨hc.k, ?_⟩))
      simp only [q_put_P, q_put_K, hc.p6]
      refine ⟨hg7.1, v_nextS hg7 hGS (fun c0 ι2 f2 g2 e2 => ?_) (fun c1 ι2 kk ll f2 x3 x4 x5 x6 x7 x8 x9 g2 e9 e8 hlt => ?_)⟩
      · refine br_t rfl (p109 _ ?_)
        refine h ι2 k ⟨hne, by rw [← h8]; exact c0⟩ (by omega) (fun a a1 a2 a3 a4 a5 => by rw [f2.1 a a1 a2 a3]; exact hf a a1 a2 a3 a4 a5) (by rw [f2.2 0 (by omega) (by omega)]; exact h7) ?_ ?_ ?_ ?_
        · rw [f2.1 t (by omega) (by omega) (by omega)]; exact ht
        · rw [f2.1 c (by omega) (by omega) (by omega)]; exact hc1
        · rw [f2.1 c (by omega) (by omega) (by omega)]; exact hc2
        · rw [f2.1 c (by omega) (by omega) (by omega)]; exact hc3
      · refine br_f (by decide) ?_
        have hfalse : (¬ ι' 7 0 = 0) = False := eq_false (fun q => q h7)
        rw [hfalse] at e9 e8
        have hpe : z_in (ι2 9) = z_gp (z_in r) k := by unfold z_gp; rw [← h8]; exact e9
        have hrm : z_in (ι2 8) = z_it False (k + 1) (z_in r) := by rw [e8, h8, z_it_s]
        have hne' : ∀ j, j < k + 1 → z_ne (z_it False j (z_in r)) := fun j hj => by
          rcases Nat.lt_or_ge j k with c | c
          · exact hne j c
          · have : j = k := by omega
            subst this; rw [← h8]; exact c1
        have hf2 : ∀ a, a ≠ 7 → a ≠ 8 → a ≠ 9 → ι2 a = ι' a := f2.1
        have hE2 : c_E A σ ι2 f := by
          refine ⟨hE.1, hE.2.1, ?_, fun i hi => ?_⟩
          · rw [hf2 5 (by omega) (by omega) (by omega), hf 5 (by omega) (by omega) (by omega) (by omega) (by omega)]; exact hE.2.2.1
          · have h13 := hf13 i hi
            rw [hf2 (f i) (by omega) (by omega) (by omega), hf (f i) (by omega) (by omega) (by omega) (hfc i hi) (hft i hi)]; exact hE.2.2.2 i hi
        have hν2 : ι2 ν = ι ν := by rw [hf2 ν (by omega) (by omega) (by omega), hf ν (by omega) (by omega) (by omega) hcν.symm htν.symm]
        have h6 : ι2 6 = ι 6 := by rw [hf2 6 (by omega) (by omega) (by omega), hf 6 (by omega) (by omega) (by omega) (by omega) (by omega)]
        have hc2e : ι2 c = ι' c := hf2 c (by omega) (by omega) (by omega)
        have ht2e : ι2 t = ι' t := hf2 t (by omega) (by omega) (by omega)
        have h72 : ι2 7 0 = 0 := by rw [f2.2 0 (by omega) (by omega)]; exact h7
        have hcble := z_cb_le (z_bad A q) (z_in r) k
        simp only [q_put_P, q_put_K, hc.k, hc.p6, hg7.1, true_and]
        refine v_size hg7 x3 x4 x5 x6 x7 ?_
        simp only [q_ci, q_put_P, q_put_K, q_put_Z, q_put_I, hc.k, hc.p5, hc.k6, hc.z6, v3, d3, h6, h63, true_or, true_and]
        have hsz : z_ca (ι2 9) = z_sz (z_in (ι2 9)) := z_sz_in rfl
        have hle : z_ca (ι2 9) ≤ 768 := z_ca_le _
        have hgood : ¬ z_bad A q (z_in (ι2 9)) → P93 1 ν c (nI k) (q_put σ ι2 κ) := fun hb => by
          rw [hpe] at hb
          refine p93 _ _ _ _ _ ?_
          simp only [q_put_K, q_put_I, hcK, true_and, forall_eq]
          refine p103 _ _ _ _ _ fun v1 e1 => ?_
          rw [e1, nI_1, q_put_wI, hc2e, hc1, nI_1]
          refine ih (k + 1) _ (by omega) (fun a a1 a2 a3 a4 a5 => by rw [up_n a4, hf2 a a1 a2 a3]; exact hf a a1 a2 a3 a4 a5) (by rw [up_n (by omega)]; exact h72) ?_ (by rw [up_n (by omega)]; exact hrm) hne' (by rw [up_n (by omega)]; omega) (by rw [up_n hctn.symm, z_kp_f hb, ht2e]; exact ht) ?_ ?_ ?_
          · unfold z_GS
            rw [up_n (show 7 ≠ c by omega), up_n (show 8 ≠ c by omega), up_n (show 9 ≠ c by omega)]; exact g2
          · rw [up_s, up_s, z_cb_f hb]; congr 1; omega
          · rw [up_s, up_n (by omega), z_cb_f hb]; exact hc2
          · rw [up_s, up_n (by omega)]; exact hc3
        refine pk_le (a_ru A 3) (z_ca (ι2 9)) (fun c2 => hgood fun c3 => ?_) (fun c2 => ?_)
        · have := c3.1; omega
        · refine v_pieceHasPad hc hE2 ok hν (by rw [hν2]; exact hn) (by rw [hν2]; exact hl) x3 x4 x5 x6 x7 (fun c3 => br_t (by decide) (hgood fun c4 => c4.2 c3)) (fun c3 => br_f (by decide) ?_)
          have hb : z_bad A q (z_in (ι2 9)) := ⟨by omega, c3⟩
          rw [hpe] at hb
          simp only [q_put_K, q_put_I, q_put_P, hcK, hc.k, hc.p6, hg7.1, hct, true_and, forall_eq, q_put_wI, hc2e, hc2, nI_1]
          refine v_takeOff (f := kk) (l := ll) hg7 (by rw [up_n (show 7 ≠ c by omega)]; exact x3) (by rw [up_n (show 7 ≠ c by omega)]; exact x4) (by omega) x6 htK htZ (by omega) (fun ι3 f3 e3 => ?_)
          refine p103 _ _ _ _ _ fun v1 e1 => ?_
          rw [e1, nI_1]
          have hc3' : ι3 c = va_up (ι' c) 2 (nI (z_cb (z_bad A q) (z_in r) k + 1)) := by rw [f3 c hctn, up_s]
          refine ih (k + 1) ι3 (by omega) (fun a a1 a2 a3 a4 a5 => by rw [f3 a a5, up_n a4, hf2 a a1 a2 a3]; exact hf a a1 a2 a3 a4 a5) (by rw [f3 7 (by omega), up_n (by omega)]; exact h72) ?_ (by rw [f3 8 (by omega), up_n (by omega)]; exact hrm) hne' (by rw [f3 8 (by omega), up_n (by omega)]; omega) ?_ ?_ ?_ ?_
          · unfold z_GS
            rw [f3 7 (by omega), f3 8 (by omega), f3 9 (by omega), up_n (show 7 ≠ c by omega), up_n (show 8 ≠ c by omega), up_n (show 9 ≠ c by omega)]; exact g2
          · funext y
            rw [e3 y, up_n hctn.symm, up_n (show 9 ≠ c by omega), ht2e, ht]
            rcases Nat.lt_or_ge y 24 with hy | hy
            · have e1 : (if kk ≤ y ∧ y ≤ ll then z_rws (z_kp (z_bad A q) (z_in r) k) r y &&& (ι2 9 y ^^^ (-1)) else z_rws (z_kp (z_bad A q) (z_in r) k) r y) = z_rws (z_kp (z_bad A q) (z_in r) k) r y &&& (ι2 9 y ^^^ (-1)) := by
                by_cases c4 : kk ≤ y ∧ y ≤ ll
                · rw [if_pos c4]
                · rw [if_neg c4, x7 y hy (by omega), z_0row]
              rw [e1, z_rws_at hy, z_rws_at hy]
              refine z_rw_of fun x hx => ?_
              rw [b_an, z_rw_iff, z_kp_s hb, ← hpe]
              exact ⟨fun c => ⟨c.1.2, fun c2 => c.2 c2.2⟩, fun c => ⟨⟨hx, c.1⟩, fun c2 => c.2 ⟨hy, c2⟩⟩⟩
            · rw [if_neg (by omega)]
              unfold z_rws
              rw [z_mix_hi hy, z_mix_hi hy]
          · rw [hc3', up_n (by omega), z_cb_t hb]
            rw [hc1]; congr 1; omega
          · rw [hc3', up_s, z_cb_t hb]
          · rw [hc3', up_n (by omega)]; exact hc3
  simp only [q_put_K, q_put_P, hν, hνc, hcK, hc.k, hc.p6, hg7.1, hct, q_put_wI, true_and, forall_eq, up_s, z_rws_up]
  refine v_start hg7 htK htZ fun ι2 f2 g2 e2 => ?_
  have hf2 : ∀ a, a ≠ 7 → a ≠ 8 → a ≠ 9 → a ≠ c → ι2 a = ι a := fun a a1 a2 a3 a4 => by rw [f2.1 a a1 a2 a3, up_n a4]
  have hc2e : ι2 c = va_up (va_up (ι c) 1 0) 2 0 := by rw [f2.1 c (by omega) (by omega) (by omega), up_s]
  have e8 : z_in (ι2 8) = z_in r := z_in_congr fun y hy => by rw [e2 y hy, up_n hctn.symm, hr]
  refine L1 768 0 ι2 (by omega) (fun a a1 a2 a3 a4 _ => hf2 a a1 a2 a3 a4) ?_ g2 e8 (fun j hj => by omega) (by have := z_ca_le (ι2 8); omega) ?_ ?_ ?_ ?_
  · rw [f2.2 0 (by omega) (by omega), up_n (by omega)]; exact hask
  · rw [hf2 t (by omega) (by omega) (by omega) hctn.symm, hr, z_kp_0, z_rws_id]
  · rw [hc2e, up_n (by omega), up_s]; rfl
  · rw [hc2e, up_s]; rfl
  · rw [hc2e, up_n (by omega), up_n (by omega)]
