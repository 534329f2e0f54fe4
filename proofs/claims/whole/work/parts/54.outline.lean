/-! OUTLINES: sides crossed, by parity -/
theorem z_msb (a b : Int32) (hb : 0 ≤ b.toInt) : (0 ≤ a ^^^ b) ↔ 0 ≤ a.toInt := by
  have e : ∀ x : Int32, 0 ≤ x.toInt ↔ x.toBitVec.msb = false := fun x => by
    rw [BitVec.msb_eq_toInt]
    show 0 ≤ x.toBitVec.toInt ↔ _
    simp
  have hb' : b.toBitVec.msb = false := (e b).mp hb
  rw [iI_le]
  show 0 ≤ (a ^^^ b).toInt ↔ _
  rw [e, e, Int32.toBitVec_xor, BitVec.msb_xor, hb', Bool.xor_false]
theorem z_fdv {a b : Int} (ha : -1000000 ≤ a) (ha' : a < 1000000) (hb : 0 < b) (hb' : b < 1000000) : f_MT_floorDiv (iI a) (iI b) = iI (a / b) := by
  have hbt : (iI b).toInt = b := iI_t (by omega) (by omega)
  have hat : (iI a).toInt = a := iI_t (by omega) (by omega)
  have hne : ¬ iI b = -1 := by
    intro h
    rw [h] at hbt
    have : (-1 : Int32).toInt = -1 := rfl
    omega
  unfold f_MT_floorDiv
  rcases Int.lt_or_le a 0 with c | c
  · rw [if_neg (fun h => by have := (z_msb _ _ (by rw [hbt]; omega)).mp h; rw [hat] at this; omega)]
    obtain ⟨m, rfl⟩ : ∃ m : Int, a = -m := ⟨-a, by omega⟩
    have h1 : m / b * b ≤ m := Int.ediv_mul_le m (by omega)
    have h2 : m < (m / b + 1) * b := Int.lt_ediv_add_one_mul_self m hb
    have h3 : 0 ≤ m / b := Int.ediv_nonneg (by omega) (by omega)
    have h4 : m / b ≤ m := Int.ediv_le_self b (by omega)
    have h5 : 0 ≤ m / b * b := Int.mul_nonneg h3 (by omega)
    rw [Int.add_mul, Int.one_mul] at h2
    have hq : iI (-m) / iI b = iI (-(m / b)) := by
      rw [iI_eq, Int32.toInt_div_of_ne_right _ _ hne, hat, hbt, Int.neg_tdiv, Int.tdiv_eq_ediv_of_nonneg (by omega), iI_t (by omega) (by omega)]
    have e1 : -(m / b) * b = -(m / b * b) := Int.neg_mul _ _
    rw [hq, iI_mul, e1]
    have hc : iI (-(m / b * b)) = iI (-m) ↔ m / b * b = m := by
      rw [iI_eq, iI_t (by omega) (by omega), hat]; omega
    by_cases c2 : m / b * b = m
    · rw [if_pos (hc.mpr c2)]
      congr 1
      refine Int.le_antisymm ?_ ?_
      · rw [Int.le_ediv_iff_mul_le hb, e1]; omega
      · refine Int.lt_add_one_iff.mp ?_
        rw [Int.ediv_lt_iff_lt_mul hb, Int.add_mul, Int.one_mul, e1]; omega
    · rw [if_neg (fun h => c2 (hc.mp h)), show (1 : Int32) = iI 1 from rfl, iI_sub]
      congr 1
      refine Int.le_antisymm ?_ ?_
      · rw [Int.le_ediv_iff_mul_le hb, Int.sub_mul, Int.one_mul, e1]; omega
      · refine Int.le_sub_one_of_lt ?_
        rw [Int.ediv_lt_iff_lt_mul hb, e1]; omega
  · rw [if_pos ((z_msb _ _ (by rw [hbt]; omega)).mpr (by rw [hat]; omega))]
    have h3 : 0 ≤ a / b := Int.ediv_nonneg (by omega) (by omega)
    have h4 : a / b ≤ a := Int.ediv_le_self b (by omega)
    rw [iI_eq, Int32.toInt_div_of_ne_right _ _ hne, hat, hbt, Int.tdiv_eq_ediv_of_nonneg (by omega), iI_t (by omega) (by omega)]
theorem i_mulb {a b : Int} (m n : Nat) (h1 : -m ≤ a) (h2 : a ≤ m) (h3 : -n ≤ b) (h4 : b ≤ n) : -((m * n : Nat) : Int) ≤ a * b ∧ a * b ≤ ((m * n : Nat) : Int) := by
  have e : (a * b).natAbs = a.natAbs * b.natAbs := Int.natAbs_mul a b
  have l : a.natAbs * b.natAbs ≤ m * n := Nat.mul_le_mul (by omega) (by omega)
  omega
/-- the parity of what holds among the first n -/
def z_par (e : Nat → Bool) : Nat → Bool
  | 0 => false
  | n + 1 => z_par e n ^^ e n
theorem z_par_congr {e f : Nat → Bool} {n : Nat} (h : ∀ k, k < n → e k = f k) : z_par e n = z_par f n := by
  induction n with
  | zero => rfl
  | succ n ih => show (z_par e n ^^ e n) = (z_par f n ^^ f n); rw [ih fun k hk => h k (by omega), h n (by omega)]
/-- the way from the cell's middle to greater x meets the side -/
def z_crv (ax ay bx bY x y : Nat) : Int := (2 * (ax : Int) - 2 * x - 1) * ((bY : Int) - ay) + (2 * (y : Int) + 1 - 2 * ay) * ((bx : Int) - ax)
def z_crb (ax ay bx bY x y : Nat) : Bool := decide (ay ≤ y ∧ y < bY ∧ 0 < z_crv ax ay bx bY x y) || decide (bY ≤ y ∧ y < ay ∧ z_crv ax ay bx bY x y < 0)
def z_lo (lx ly hx hy x y : Nat) : Prop := ly ≤ y ∧ y < hy ∧ (2 * (x : Int) + 1) * ((hy : Int) - ly) < 2 * (lx : Int) * ((hy : Int) - ly) + (2 * ((y : Int) - ly) + 1) * ((hx : Int) - lx)
theorem z_lo_up {ax ay bx bY x y : Nat} (h : ay < bY) : z_lo ax ay bx bY x y ↔ z_crb ax ay bx bY x y = true := by
  unfold z_lo z_crb z_crv
  have e1 : (2 * (ax : Int) - 2 * x - 1) * ((bY : Int) - ay) = 2 * (ax : Int) * ((bY : Int) - ay) - (2 * (x : Int) + 1) * ((bY : Int) - ay) := by
    rw [← Int.sub_mul]; congr 1; omega
  have e2 : (2 * (y : Int) + 1 - 2 * ay) * ((bx : Int) - ax) = (2 * ((y : Int) - ay) + 1) * ((bx : Int) - ax) := by
    congr 1; omega
  rw [Bool.or_eq_true, decide_eq_true_iff, decide_eq_true_iff, e1, e2]
  omega
theorem i_cross (ax ay bx bY x y : Int) : (2 * ax - 2 * x - 1) * (bY - ay) + (2 * y + 1 - 2 * ay) * (bx - ax) = (2 * x + 1) * (ay - bY) - (2 * bx * (ay - bY) + (2 * (y - bY) + 1) * (ax - bx)) := by
  simp only [Int.mul_add, Int.add_mul, Int.mul_sub, Int.sub_mul, Int.one_mul, Int.mul_one, Int.mul_assoc, Int.mul_comm, Int.mul_left_comm]
  omega
theorem z_lo_dn {ax ay bx bY x y : Nat} (h : bY ≤ ay) : z_lo bx bY ax ay x y ↔ z_crb ax ay bx bY x y = true := by
  unfold z_lo z_crb z_crv
  rw [Bool.or_eq_true, decide_eq_true_iff, decide_eq_true_iff, i_cross]
  omega
/-- cells turned over -/
noncomputable def z_tn (C : Nat → Nat → Prop) (r : Nat → Int32) : Nat → Int32 := z_mix (fun y => r y ^^^ z_rw (fun x => C x y)) r 24
noncomputable def z_tb (c : Nat → Nat → Bool) (r : Nat → Int32) : Nat → Int32 := z_tn (fun x y => c x y = true) r
theorem z_tn_congr {C D : Nat → Nat → Prop} (r : Nat → Int32) (h : ∀ x y, x < 32 → y < 24 → (C x y ↔ D x y)) : z_tn C r = z_tn D r := funext fun y => by
  unfold z_tn
  rcases Nat.lt_or_ge y 24 with hy | hy
  · rw [z_mix_lo hy, z_mix_lo hy]
    congr 1
    refine z_rw_of fun x hx => ?_
    rw [z_rw_iff, h x y hx hy]
    exact ⟨fun c => c.2, fun c => ⟨hx, c⟩⟩
  · rw [z_mix_hi hy, z_mix_hi hy]
theorem z_rw_bool (c : Nat → Bool) {x : Nat} (hx : x < 32) : bt (z_rw (fun x => c x = true)) x = c x := by
  rw [Bool.eq_iff_iff, z_rw_iff]
  exact ⟨fun h => h.2, fun h => ⟨hx, h⟩⟩
theorem z_tb_tb (c d : Nat → Nat → Bool) (r : Nat → Int32) : z_tb d (z_tb c r) = z_tb (fun x y => c x y ^^ d x y) r := funext fun y => by
  unfold z_tb z_tn
  rcases Nat.lt_or_ge y 24 with hy | hy
  · rw [z_mix_lo hy, z_mix_lo hy, z_mix_lo hy]
    refine b_ext fun x hx => ?_
    rw [b_xor, b_xor, b_xor, z_rw_bool (fun x => c x y) hx, z_rw_bool (fun x => d x y) hx, z_rw_bool (fun x => c x y ^^ d x y) hx, Bool.xor_assoc]
  · rw [z_mix_hi hy, z_mix_hi hy, z_mix_hi hy]
theorem z_tb_at {c : Nat → Nat → Bool} {r : Nat → Int32} {x y : Nat} (hx : x < 32) (hy : y < 24) : bt (z_tb c r y) x = (bt (r y) x ^^ c x y) := by
  unfold z_tb z_tn
  rw [z_mix_lo hy, b_xor, z_rw_bool (fun x => c x y) hx]
theorem z_tb_0 (r : Nat → Int32) : z_tb (fun _ _ => false) r = r := funext fun y => by
  rcases Nat.lt_or_ge y 24 with hy | hy
  · refine b_ext fun x hx => ?_
    rw [z_tb_at hx hy, Bool.xor_false]
  · unfold z_tb z_tn; rw [z_mix_hi hy]
theorem v_turn {σ : q_S} {ι : Nat → Nat → Int32} {κ : Nat → Nat → Int64} {ν t lx ly hx hy : Nat} {r : Nat → Int32} (hν : q_K σ ν = 6) (hνt : q_P σ ν 3 = t) (htK : q_K σ t = 1000) (htZ : q_Z σ t = 24) (b1 : lx ≤ 32) (b2 : ly ≤ 24) (b3 : hx ≤ 32) (b4 : hy ≤ 24) {R : q_O → q_S → Prop}
    (h : R (.inl none) (q_put σ (va_up ι t (z_tn (z_lo lx ly hx hy) r)) κ)) : V_PL_turnLeftOf ν (nI lx) (nI ly) (nI hx) (nI hy) (q_put σ (va_up ι t r) κ) R := by
  intro P15 P90 p15 p90 v1 e1
  rw [iI_nI hy, iI_nI ly, iI_sub] at e1
  subst e1
  have hz : ∀ k, (∀ y, k ≤ y → y < 24 → ∀ x, ¬ z_lo lx ly hx hy x y) → z_mix (fun y => r y ^^^ z_rw (fun x => z_lo lx ly hx hy x y)) r k = z_mix (fun y => r y ^^^ z_rw (fun x => z_lo lx ly hx hy x y)) r (max k 24) := fun k hk => funext fun y => by
    rcases Nat.lt_or_ge y k with c | c
    · rw [z_mix_lo c, z_mix_lo (by omega)]
    · rw [z_mix_hi c]
      rcases Nat.lt_or_ge y 24 with c2 | c2
      · rw [z_mix_lo (by omega)]
        refine b_ext fun x hx9 => ?_
        have : bt (z_rw (fun x => z_lo lx ly hx hy x y)) x = false := by
          cases e : bt (z_rw (fun x => z_lo lx ly hx hy x y)) x
          · rfl
          · exact absurd ((z_rw_iff _ x).mp e).2 (hk y c c2 x)
        rw [b_xor, this, Bool.xor_false]
      · rw [z_mix_hi (by omega)]
  refine br_c (fun c => ?_) (fun c => ?_)
  · rw [iI_lt, iI_t (by omega) (by omega)] at c
    have c : (0 : Int) < (hy : Int) - ly := c
    suffices H : ∀ (d y : Nat), y + d = hy → ly ≤ y → P15 ν (nI lx) (nI ly) (nI hx) (nI hy) (iI ((hy : Int) - ly)) (nI y) (q_put σ (va_up ι t (z_mix (fun y => r y ^^^ z_rw (fun x => z_lo lx ly hx hy x y)) r y)) κ) by
      have := H (hy - ly) ly (by omega) (Nat.le_refl _)
      rwa [show z_mix (fun y => r y ^^^ z_rw (fun x => z_lo lx ly hx hy x y)) r ly = r by
        funext y
        rcases Nat.lt_or_ge y ly with c2 | c2
        · rw [z_mix_lo c2]
          refine b_ext fun x hx9 => ?_
          have : bt (z_rw (fun x => z_lo lx ly hx hy x y)) x = false := by
            cases e : bt (z_rw (fun x => z_lo lx ly hx hy x y)) x
            · rfl
            · have := ((z_rw_iff _ x).mp e).2.1; omega
          rw [b_xor, this, Bool.xor_false]
        · rw [z_mix_hi c2]] at this
    intro d
    induction d with
    | zero =>
      intro y hd hy2
      refine p15 _ _ _ _ _ _ _ _ (pk_le hy y (fun _ => p90 _ ?_) (fun c => by omega))
      have e := hz y (fun y2 c2 c3 x c4 => by have := c4.2.1; omega)
      rw [show max y 24 = 24 by omega] at e
      rw [e]; exact h
    | succ d ih =>
      intro y hd hy2
      have cy : (nI y).toNatClampNeg = y := nI_clamp (by omega)
      have vy : vp_in (nI y) 24 := vp_in_nI (by omega) (by omega)
      refine p15 _ _ _ _ _ _ _ _ (pk_le hy y (fun c => by omega) (fun _ => pk_le 24 y (fun c => by omega) (fun _ => fun v3 e3 => ⟨fun c2 => ?_, fun v5 e5 => ?_⟩)))
      · rw [iI_eq, iI_t (by omega) (by omega)] at c2
        have c2 : (hy : Int) - ly = 0 := c2
        omega
      simp only [iI_nI, show (2 : Int32) = iI 2 from rfl, show (1 : Int32) = iI 1 from rfl, iI_sub, iI_add, iI_mul] at e3
      have m1 := i_mulb (a := 2 * (lx : Int)) (b := (hy : Int) - ly) 64 24 (by omega) (by omega) (by omega) (by omega)
      have m2 := i_mulb (a := 2 * ((y : Int) - ly) + 1) (b := (hx : Int) - lx) 50 32 (by omega) (by omega) (by omega) (by omega)
      have hlo : ∀ x : Nat, z_lo lx ly hx hy x y ↔ (2 * (x : Int) + 1) * ((hy : Int) - ly) < 2 * (lx : Int) * ((hy : Int) - ly) + (2 * ((y : Int) - ly) + 1) * ((hx : Int) - lx) := fun x => ⟨fun q => q.2.2, fun q => ⟨hy2, by omega, q⟩⟩
      have hM : -5000 ≤ 2 * (lx : Int) * ((hy : Int) - ly) + (2 * ((y : Int) - ly) + 1) * ((hx : Int) - lx) ∧ 2 * (lx : Int) * ((hy : Int) - ly) + (2 * ((y : Int) - ly) + 1) * ((hx : Int) - lx) ≤ 5000 := by omega
      generalize 2 * (lx : Int) * ((hy : Int) - ly) + (2 * ((y : Int) - ly) + 1) * ((hx : Int) - lx) = M at e3 hlo hM
      rw [e3, show (1 : Int32) = iI 1 from rfl, iI_sub, z_fdv (by omega) (by omega) c (by omega)] at e5
      have g1 : -6000 ≤ (M - 1) / ((hy : Int) - ly) := by rw [Int.le_ediv_iff_mul_le c]; omega
      have g2 : (M - 1) / ((hy : Int) - ly) < 6000 := by rw [Int.ediv_lt_iff_lt_mul c]; omega
      have d2 : ¬ (2 : Int32) = 0 := by decide
      simp only [q_put_K, q_put_P, q_put_Z, q_put_I, hν, hνt, htK, htZ, vy, cy, d2, not_false_eq_true, up_s, true_or, true_and, forall_eq, z_mix_hi (Nat.le_refl y)]
      rw [q_putw, nI_1, e5, show (1 : Int32) = iI 1 from rfl, iI_sub, show (2 : Int32) = iI 2 from rfl, z_fdv (by omega) (by omega) (by omega) (by omega), i2l (by omega) (by omega)]
      have eb : f_PF_span 0 (iL (((M - 1) / ((hy : Int) - ly) - 1) / 2)) = z_rw (fun x => z_lo lx ly hx hy x y) := z_rw_of fun x hx2 => by
        rw [z_span, iL_t (by omega) (by omega), hlo]
        have e0 : (0 : Int64).toInt = 0 := rfl
        have e6 := Int.le_ediv_iff_mul_le (a := 2 * (x : Int) + 1) (b := M - 1) c
        rw [e0]
        constructor
        · intro q
          have := e6.mp (by omega)
          omega
        · intro q
          have := e6.mpr (by omega)
          omega
      rw [eb, z_mix_up (fun y => r y ^^^ z_rw (fun x => z_lo lx ly hx hy x y))]
      exact ih (y + 1) (by omega) (by omega)
  · rw [iI_lt, iI_t (by omega) (by omega)] at c
    have c : ¬ (0 : Int) < (hy : Int) - ly := c
    have e := hz 0 (fun y2 c2 c3 x c4 => by have := c4.1; have := c4.2.1; omega)
    rw [z_mix0, show max 0 24 = 24 by omega] at e
    rw [e]; exact h
/-- the parity of a ring -/
def z_rp (n : Nat) (X Y : Nat → Nat) (x y : Nat) : Bool := z_par (fun k => z_crb (X k) (Y k) (X ((k + 1) % n)) (Y ((k + 1) % n)) x y) n
theorem z_par_rot (e : Nat → Bool) (n : Nat) (h : 1 ≤ n) : z_par (fun k => e (if k = 0 then n - 1 else k - 1)) n = z_par e n := by
  have H : ∀ k, z_par (fun k => e (if k = 0 then n - 1 else k - 1)) (k + 1) = (e (n - 1) ^^ z_par e k) := by
    intro k
    induction k with
    | zero =>
      show (false ^^ e (if 0 = 0 then n - 1 else 0 - 1)) = (e (n - 1) ^^ false)
      rw [if_pos rfl, Bool.false_xor, Bool.xor_false]
    | succ k ih =>
      show (z_par (fun k => e (if k = 0 then n - 1 else k - 1)) (k + 1) ^^ e (if k + 1 = 0 then n - 1 else k + 1 - 1)) = (e (n - 1) ^^ (z_par e k ^^ e k))
      rw [ih, if_neg (by omega), Nat.add_sub_cancel, Bool.xor_assoc]
  obtain ⟨m, rfl⟩ : ∃ m, n = m + 1 := ⟨n - 1, by omega⟩
  rw [H m, Nat.add_sub_cancel]
  show (e m ^^ z_par e m) = (z_par e m ^^ e m)
  rw [Bool.xor_comm]
theorem v_closeRing {σ : q_S} {ι : Nat → Nat → Int32} {κ : Nat → Nat → Int64} {ν t cx cy n : Nat} {X Y : Nat → Nat} (hν : q_K σ ν = 6) (hνt : q_P σ ν 3 = t) (hνx : q_P σ ν 4 = cx) (hνy : q_P σ ν 5 = cy) (htK : q_K σ t = 1000) (htZ : q_Z σ t = 24) (hxK : q_K σ cx = 1000) (hxZ : q_Z σ cx = 12) (hyK : q_K σ cy = 1000) (hyZ : q_Z σ cy = 12) (n1 : ν ≠ t) (n2 : cx ≠ t) (n3 : cy ≠ t) (hn : ι ν 6 = nI n) (hn12 : n ≤ 12) (hX : ∀ k, k < n → ι cx k = nI (X k) ∧ X k ≤ 32) (hY : ∀ k, k < n → ι cy k = nI (Y k) ∧ Y k ≤ 24) {R : q_O → q_S → Prop}
    (h0 : n < 3 → R (.inl (some (.inl 0))) (q_put σ ι κ)) (h1 : 3 ≤ n → R (.inl (some (.inl 1))) (q_put σ (va_up (va_up ι t (z_tb (z_rp n X Y) (ι t))) ν (va_up (va_up (ι ν) 6 0) 7 (ι ν 7 + 1))) κ)) : V_PL_closeRing ν (q_put σ ι κ) R := by
  intro P19 P101 p19 p101
  simp only [q_put_K, q_put_I, hν, hn, true_and, forall_eq]
  refine pk_le 3 n (fun c => ?_) (fun c => h0 c)
  have e1 : nI n - 1 = nI (n - 1) := pk_sub (b := 1) (by omega)
  rw [e1]
  suffices H : ∀ (d k : Nat), k + d = n → P19 ν (nI (if k = 0 then n - 1 else k - 1)) (nI k) (q_put σ (va_up ι t (z_tb (fun x y => z_par (fun k => z_crb (X (if k = 0 then n - 1 else k - 1)) (Y (if k = 0 then n - 1 else k - 1)) (X ((((if k = 0 then n - 1 else k - 1)) + 1) % n)) (Y ((((if k = 0 then n - 1 else k - 1)) + 1) % n)) x y) k) (ι t))) κ) by
    have := H n 0 (by omega)
    rw [if_pos rfl, show z_tb (fun x y => z_par (fun k => z_crb (X (if k = 0 then n - 1 else k - 1)) (Y (if k = 0 then n - 1 else k - 1)) (X ((((if k = 0 then n - 1 else k - 1)) + 1) % n)) (Y ((((if k = 0 then n - 1 else k - 1)) + 1) % n)) x y) 0) (ι t) = ι t from z_tb_0 _, up_id] at this
    exact this
  intro d
  induction d with
  | zero =>
    intro k hk
    have hk : k = n := by omega
    subst hk
    refine p19 _ _ _ _ ⟨hν, ?_⟩
    rw [q_put_I, up_n n1, hn]
    refine br_t (nI_le (Nat.le_refl _) (by omega)) ?_
    simp only [q_put_K, q_put_I, hν, q_put_wI, up_n n1, up_s, z_rws_up, up_n (show (7 : Nat) ≠ 6 by omega), true_and, forall_eq]
    have e : z_tb (fun x y => z_par (fun j => z_crb (X (if j = 0 then k - 1 else j - 1)) (Y (if j = 0 then k - 1 else j - 1)) (X ((((if j = 0 then k - 1 else j - 1)) + 1) % k)) (Y ((((if j = 0 then k - 1 else j - 1)) + 1) % k)) x y) k) (ι t) = z_tb (z_rp k X Y) (ι t) := by
      congr 1
      funext x y
      exact z_par_rot (fun j => z_crb (X j) (Y j) (X ((j + 1) % k)) (Y ((j + 1) % k)) x y) k (by omega)
    rw [e]
    exact h1 c
  | succ d ih =>
    intro k hk
    have hfr : (if k = 0 then n - 1 else k - 1) < n ∧ ((if k = 0 then n - 1 else k - 1) + 1) % n = k := by
      by_cases c2 : k = 0
      · rw [if_pos c2, show n - 1 + 1 = n by omega, Nat.mod_self]; exact ⟨by omega, c2.symm⟩
      · rw [if_neg c2, show k - 1 + 1 = k by omega, Nat.mod_eq_of_lt (by omega)]; exact ⟨by omega, rfl⟩
    have hstep : ∀ r2 : Nat → Int32, r2 = z_tb (fun x y => z_crb (X (if k = 0 then n - 1 else k - 1)) (Y (if k = 0 then n - 1 else k - 1)) (X k) (Y k) x y) (z_tb (fun x y => z_par (fun k => z_crb (X (if k = 0 then n - 1 else k - 1)) (Y (if k = 0 then n - 1 else k - 1)) (X ((((if k = 0 then n - 1 else k - 1)) + 1) % n)) (Y ((((if k = 0 then n - 1 else k - 1)) + 1) % n)) x y) k) (ι t)) → P101 ν (nI k) (q_put σ (va_up ι t r2) κ) := fun r2 e2 => by
      refine p101 _ _ _ fun v1 e3 => ?_
      rw [e3, nI_1]
      have := ih (k + 1) (by omega)
      rw [if_neg (by omega), Nat.add_sub_cancel] at this
      rw [e2, z_tb_tb]
      refine cast (congrArg (fun z => P19 ν (nI k) (nI (k + 1)) (q_put σ (va_up ι t z) κ)) ?_) this
      congr 1
      funext x y
      show (z_par _ k ^^ z_crb _ _ (X ((((if k = 0 then n - 1 else k - 1)) + 1) % n)) (Y ((((if k = 0 then n - 1 else k - 1)) + 1) % n)) x y) = _
      rw [hfr.2]
    obtain ⟨hfr1, -⟩ := hfr
    generalize (if k = 0 then n - 1 else k - 1) = fr at hfr1 hstep ⊢
    generalize z_tb (fun x y => z_par (fun k => z_crb (X (if k = 0 then n - 1 else k - 1)) (Y (if k = 0 then n - 1 else k - 1)) (X ((((if k = 0 then n - 1 else k - 1)) + 1) % n)) (Y ((((if k = 0 then n - 1 else k - 1)) + 1) % n)) x y) k) (ι t) = r1 at hstep ⊢
    have ck : (nI k).toNatClampNeg = k := nI_clamp (by omega)
    have vk : vp_in (nI k) 12 := vp_in_nI (by omega) (by omega)
    have cf : (nI fr).toNatClampNeg = fr := nI_clamp (by omega)
    have vf : vp_in (nI fr) 12 := vp_in_nI (by omega) (by omega)
    obtain ⟨x1, x2⟩ := hX k (by omega)
    obtain ⟨x3, x4⟩ := hX fr (by omega)
    obtain ⟨y1, y2⟩ := hY k (by omega)
    obtain ⟨y3, y4⟩ := hY fr (by omega)
    refine p19 _ _ _ _ ⟨hν, ?_⟩
    rw [q_put_I, up_n n1, hn]
    refine br_f (nI_ge (by omega) (by omega)) ?_
    simp only [q_put_K, q_put_P, q_put_Z, q_put_I, hν, hνx, hνy, hxK, hxZ, hyK, hyZ, ck, vk, cf, vf, up_n n2, up_n n3, x1, x3, y1, y3, true_or, true_and]
    refine pk_le (Y k) (Y fr) (fun c2 => ?_) (fun c2 => ?_)
    · refine v_turn hν hνt htK htZ x2 y2 x4 y4 (hstep _ ?_)
      exact z_tn_congr _ fun x y _ _ => z_lo_dn c2
    · refine v_turn hν hνt htK htZ x4 y4 x2 y2 (hstep _ ?_)
      exact z_tn_congr _ fun x y _ _ => z_lo_up c2
