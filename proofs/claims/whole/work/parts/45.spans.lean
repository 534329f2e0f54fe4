/-! SIGNED NUMBERS, SPANS -/
def iI (z : Int) : Int32 := Int32.ofInt z
def iL (z : Int) : Int64 := Int64.ofInt z
theorem iI_t {z : Int} (h : -2147483648 ≤ z) (h' : z < 2147483648) : (iI z).toInt = z := Int32.toInt_ofInt_of_le (by simpa using h) (by simpa using h')
theorem iL_t {z : Int} (h : -9223372036854775808 ≤ z) (h' : z < 9223372036854775808) : (iL z).toInt = z := Int64.toInt_ofInt_of_le (by simpa using h) (by simpa using h')
theorem iI_of (x : Int32) : x = iI x.toInt := by unfold iI; rw [Int32.ofInt_toInt]
theorem iL_of (x : Int64) : x = iL x.toInt := by unfold iL; rw [Int64.ofInt_toInt]
theorem iI_nI (n : Nat) : nI n = iI n := by unfold nI iI; exact Int32.ofInt_eq_ofNat.symm
theorem iI_add (a b : Int) : iI a + iI b = iI (a + b) := (Int32.ofInt_add a b).symm
theorem iI_sub (a b : Int) : iI a - iI b = iI (a - b) := by unfold iI; rw [Int32.ofInt_sub]
theorem iI_mul (a b : Int) : iI a * iI b = iI (a * b) := (Int32.ofInt_mul a b).symm
theorem iL_add (a b : Int) : iL a + iL b = iL (a + b) := (Int64.ofInt_add a b).symm
theorem iL_sub (a b : Int) : iL a - iL b = iL (a - b) := by unfold iL; rw [Int64.ofInt_sub]
theorem iL_mul (a b : Int) : iL a * iL b = iL (a * b) := (Int64.ofInt_mul a b).symm
theorem iI_rg (x : Int32) : -2147483648 ≤ x.toInt ∧ x.toInt < 2147483648 := ⟨by simpa using x.le_toInt, by simpa using x.toInt_lt⟩
theorem iL_rg (x : Int64) : -9223372036854775808 ≤ x.toInt ∧ x.toInt < 9223372036854775808 := ⟨by simpa using x.le_toInt, by simpa using x.toInt_lt⟩
theorem iI_lt {x y : Int32} : x < y ↔ x.toInt < y.toInt := Int32.lt_iff_toInt_lt
theorem iI_le {x y : Int32} : x ≤ y ↔ x.toInt ≤ y.toInt := Int32.le_iff_toInt_le
theorem iL_lt {x y : Int64} : x < y ↔ x.toInt < y.toInt := Int64.lt_iff_toInt_lt
theorem iL_le {x y : Int64} : x ≤ y ↔ x.toInt ≤ y.toInt := Int64.le_iff_toInt_le
theorem iI_eq {x y : Int32} : x = y ↔ x.toInt = y.toInt := Int32.toInt_inj.symm
theorem iL_eq {x y : Int64} : x = y ↔ x.toInt = y.toInt := Int64.toInt_inj.symm
theorem i2l {z : Int} (h : -2147483648 ≤ z) (h' : z < 2147483648) : (iI z).toInt64 = iL z := Int64.toInt_inj.mp (by rw [Int32.toInt_toInt64, iI_t h h', iL_t (by omega) (by omega)])
theorem i2l_t (x : Int32) : x.toInt64.toInt = x.toInt := Int32.toInt_toInt64 x
theorem l2i {z : Int} : (iL z).toInt32 = iI z := by
  unfold iL iI
  rw [Int64.toInt32_ofInt]
theorem b_row {u v : Int32} {P : Nat → Prop} (hu : ∀ x, bt u x = true ↔ P x) (hv : ∀ x, bt v x = true ↔ P x) : u = v := b_ext fun x _ => by
  rw [Bool.eq_iff_iff, hu, hv]
theorem b_iff {u v : Int32} (h : ∀ x, bt u x = true ↔ bt v x = true) : u = v := b_row h (fun _ => Iff.rfl)
theorem b_nt {v : Int32} {x : Nat} : bt (v ^^^ (-1)) x = true ↔ x < 32 ∧ ¬ bt v x = true := by
  rw [b_not]; simp
theorem b_an {u v : Int32} {x : Nat} : bt (u &&& (v ^^^ (-1))) x = true ↔ bt u x = true ∧ ¬ bt v x = true := by
  rw [b_and, Bool.and_eq_true, b_nt]
  constructor
  · rintro ⟨h1, -, h2⟩; exact ⟨h1, h2⟩
  · rintro ⟨h1, h2⟩; exact ⟨h1, b_lt h1, h2⟩
theorem b_ad {u v : Int32} {x : Nat} : bt (u &&& v) x = true ↔ bt u x = true ∧ bt v x = true := by rw [b_and, Bool.and_eq_true]
theorem b_ao {u v : Int32} {x : Nat} : bt (u ||| v) x = true ↔ bt u x = true ∨ bt v x = true := by rw [b_or, Bool.or_eq_true]
theorem b_0f {x : Nat} : ¬ bt 0 x = true := by rw [b_0]; simp
theorem b_z {u : Int32} : u = 0 ↔ ∀ x, ¬ bt u x = true := by
  rw [b_eq0]
  constructor
  · intro h x hx; have := h x (b_lt hx); rw [this] at hx; cases hx
  · intro h x _; cases e : bt u x
    · rfl
    · exact absurd e (h x)
theorem z_mx2 (a b : Int64) : (f_MT_max2 a b).toInt = max a.toInt b.toInt := by
  unfold f_MT_max2
  by_cases h : a < b
  · rw [if_pos ((lg_cmp_lt a b).mpr h)]; rw [iL_lt] at h; omega
  · rw [if_neg (fun q => h ((lg_cmp_lt a b).mp q))]; rw [iL_lt] at h; omega
theorem z_mn2 (a b : Int64) : (f_MT_min2 a b).toInt = min a.toInt b.toInt := by
  unfold f_MT_min2
  by_cases h : b < a
  · rw [if_pos ((lg_cmp_gt a b).mpr h)]; rw [iL_lt] at h; omega
  · rw [if_neg (fun q => h ((lg_cmp_gt a b).mp q))]; rw [iL_lt] at h; omega
theorem z_mx (a b : Int32) : (f_MT_max a b).toInt = max a.toInt b.toInt := by
  unfold f_MT_max
  by_cases h : a < b
  · rw [if_pos h]; rw [iI_lt] at h; omega
  · rw [if_neg h]; rw [iI_lt] at h; omega
theorem z_mn (a b : Int32) : (f_MT_min a b).toInt = min a.toInt b.toInt := by
  unfold f_MT_min
  by_cases h : b < a
  · rw [if_pos h]; rw [iI_lt] at h; omega
  · rw [if_neg h]; rw [iI_lt] at h; omega
/-- a row from a to b -/
theorem z_span (a b : Int64) (x : Nat) : bt (f_PF_span a b) x = true ↔ x < 32 ∧ a.toInt ≤ x ∧ (x : Int) ≤ b.toInt := by
  unfold f_PF_span
  have h0 : (0 : Int64).toInt = 0 := rfl
  have h31 : (31 : Int64).toInt = 31 := rfl
  have e1 := z_mx2 0 a
  have e2 := z_mn2 31 b
  generalize f_MT_max2 0 a = F at e1 ⊢
  generalize f_MT_min2 31 b = L at e2 ⊢
  rw [h0] at e1
  rw [h31] at e2
  by_cases h : F ≤ L
  · rw [if_pos ((lg_cmp_le F L).mpr h)]
    rw [iL_le] at h
    obtain ⟨f, hf⟩ : ∃ f : Nat, F.toInt = f := ⟨F.toInt.toNat, by omega⟩
    obtain ⟨l, hl⟩ : ∃ l : Nat, L.toInt = l := ⟨L.toInt.toNat, by omega⟩
    have e3 : F.toInt32 = nI f := by rw [iL_of F, l2i, hf, iI_nI]
    have e4 : (31 - L).toInt32 = nI (31 - l) := by
      rw [iL_of L, hl, show (31 : Int64) = iL 31 from rfl, iL_sub, l2i, iI_nI]
      congr 1; omega
    rw [e3, e4, b_and, Bool.and_eq_true]
    have e5 : bt (q_ushr (-1) (nI (31 - l))) x = true ↔ x ≤ l := by
      rw [b_ushr (31 - l) (by omega)]
      rcases Nat.lt_or_ge (31 - l + x) 32 with h1 | h1
      · rw [b_m1 _ h1]; simp; omega
      · rw [b_big h1]; simp; omega
    rw [e5]
    rcases Nat.lt_or_ge x 32 with hx | hx
    · rw [b_shl f (by omega) _ hx, Bool.and_eq_true, decide_eq_true_iff, b_m1 _ (by omega)]
      simp only [and_true]
      omega
    · rw [b_big hx]; simp; omega
  · rw [if_neg (fun q => h ((lg_cmp_le F L).mp q))]
    rw [iL_le] at h
    rw [b_0]
    constructor
    · intro q; cases q
    · intro q; omega
theorem z_bit {x : Nat} (hx : x < 32) : f_PM_bit (nI x) = zx (f_PF_span (iL x) (iL x)) := by
  refine zx_eq fun i hi => ?_
  unfold f_PM_bit
  rw [if_neg (nI_pos (by omega)), if_neg (by rw [show (32 : Int32) = nI 32 from rfl]; exact nI_ge hx (by omega)), l_shl x hx _ hi, Bool.eq_iff_iff, z_span, iL_t (by omega) (by omega), Bool.and_eq_true, decide_eq_true_iff]
  have : ∀ j, bl 1 j = true ↔ j = 0 := by
    intro j
    rcases Nat.lt_or_ge j 64 with h | h
    · revert j; decide +kernel
    · rw [l_big h]; simp; omega
  rw [this]
  omega
theorem z_bit_iff {x : Nat} (hx : x < 32) (v : Int32) : (zx v &&& f_PM_bit (nI x) = 0) ↔ ¬ bt v x = true := by
  rw [z_bit hx, zx_and, zx_eq0, b_z]
  constructor
  · intro h q; exact h x (b_ad.mpr ⟨q, (z_span _ _ _).mpr ⟨hx, by rw [iL_t] <;> omega, by rw [iL_t] <;> omega⟩⟩)
  · intro h j hj
    obtain ⟨h1, h2⟩ := b_ad.mp hj
    rw [z_span, iL_t (by omega) (by omega)] at h2
    have : j = x := by omega
    exact h (this ▸ h1)
theorem z_bitO {x : Int32} (h : x.toInt < 0 ∨ 32 ≤ x.toInt) : f_PM_bit x = 0 := by
  unfold f_PM_bit
  rcases h with h | h
  · rw [if_pos (by rw [iI_lt]; exact h)]
  · by_cases h1 : x < 0
    · rw [if_pos h1]
    · rw [if_neg h1, if_pos (by rw [iI_le]; exact h)]
theorem z_bitZ (x : Int32) : f_PM_bit x = zx (f_PF_span x.toInt64 x.toInt64) := by
  by_cases h : x.toInt < 0 ∨ 32 ≤ x.toInt
  · rw [z_bitO h]
    have : f_PF_span x.toInt64 x.toInt64 = 0 := b_z.mpr fun j hj => by
      rw [z_span, i2l_t] at hj; omega
    rw [this, zx_0]
  · obtain ⟨k, hk⟩ : ∃ k : Nat, x.toInt = k := ⟨x.toInt.toNat, by omega⟩
    have e : x = nI k := by rw [iI_of x, hk, iI_nI]
    rw [e, z_bit (by omega), iI_nI, i2l (by omega) (by omega)]
def z_sp (a b : Int) : Int32 := f_PF_span (iL a) (iL b)
theorem z_sp_iff {a b : Int} (ha : -2147483648 ≤ a) (ha' : a < 2147483648) (hb : -2147483648 ≤ b) (hb' : b < 2147483648) (x : Nat) : bt (z_sp a b) x = true ↔ x < 32 ∧ a ≤ x ∧ (x : Int) ≤ b := by
  unfold z_sp
  rw [z_span, iL_t (by omega) (by omega), iL_t (by omega) (by omega)]
theorem v_span {a b : Int} {σ : q_S} (ha : -1000 ≤ a) (ha' : a < 1000) (hb : -1000 ≤ b) (hb' : b < 1000) {R : q_O → q_S → Prop} (h : R (.inl (some (.inr (.inl (zx (z_sp a b)))))) σ) : V_PM_span (iI a) (iI b) σ R := by
  intro P5 h5
  suffices H : ∀ (d : Nat) (x : Int) (v : Int32), x + d = max a (b + 1) → a ≤ x → (∀ j, bt v j = true ↔ j < 32 ∧ a ≤ j ∧ (j : Int) < x) → P5 (iI b) (zx v) (iI x) σ by
    have := H (max a (b + 1) - a).toNat a 0 (by omega) (by omega) (fun j => by rw [b_0]; constructor; { intro q; cases q }; { intro q; omega })
    rwa [zx_0] at this
  intro d
  induction d with
  | zero =>
    intro x v hx hax hv
    refine h5 _ _ _ _ (br_t (by rw [iI_lt, iI_t (by omega) (by omega), iI_t (by omega) (by omega)]; omega) ?_)
    have : v = z_sp a b := b_iff fun j => by
      rw [hv, z_sp_iff (by omega) (by omega) (by omega) (by omega)]; omega
    rwa [this]
  | succ d ih =>
    intro x v hx hax hv
    refine h5 _ _ _ _ (br_f (by rw [iI_lt, iI_t (by omega) (by omega), iI_t (by omega) (by omega)]; omega) ?_)
    intro v2 e2 v3 e3
    rw [e2, e3, z_bitZ, zx_or, show (1 : Int32) = iI 1 from rfl, iI_add]
    refine ih (x + 1) _ (by omega) (by omega) (fun j => ?_)
    rw [b_ao, hv, z_span, i2l (by omega) (by omega), iL_t (by omega) (by omega)]
    omega
theorem v_rect {a b c d y : Int} {σ : q_S} (ha : -1000 ≤ a) (ha' : a < 1000) (hb : -1000 ≤ b) (hb' : b < 1000) (hc : -1000 ≤ c) (hc' : c < 1000) (hd : -1000 ≤ d) (hd' : d < 1000) (hy : -1000 ≤ y) (hy' : y < 1000) {R : q_O → q_S → Prop} (h : R (.inl (some (.inr (.inl (zx (if b ≤ y ∧ y ≤ d then z_sp a c else 0)))))) σ) : V_PM_rectangle (iI a) (iI b) (iI c) (iI d) (iI y) σ R := by
  intro P20 P21 h20 h21
  have hb2 := iI_t (z := b) (by omega) (by omega)
  have hd2 := iI_t (z := d) (by omega) (by omega)
  have hy2 := iI_t (z := y) (by omega) (by omega)
  refine br_c (fun q => ?_) (fun q => br_c (fun q2 => ?_) (fun q2 => ?_))
  · rw [iI_lt, hb2, hy2] at q
    rw [if_neg (by omega), zx_0] at h
    exact h20 _ (h21 _ _ h)
  · rw [iI_lt, hd2, hy2] at q2
    rw [if_neg (by omega), zx_0] at h
    exact h20 _ (h21 _ _ h)
  · rw [iI_lt, hb2, hy2] at q
    rw [iI_lt, hd2, hy2] at q2
    rw [if_pos (by omega)] at h
    exact v_span ha ha' hc hc' (h21 _ _ h)
