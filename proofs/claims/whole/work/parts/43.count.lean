/-! COUNTING BITS -/
theorem nx_and (a b : Nat) : nI a &&& nI b = nI (a &&& b) := by
  apply Int32.toBitVec_inj.1
  show BitVec.ofNat 32 a &&& BitVec.ofNat 32 b = BitVec.ofNat 32 (a &&& b)
  apply BitVec.eq_of_getLsbD_eq
  intro i hi
  simp [hi]
theorem n_and (A M : Nat) : A &&& M = ((A % 256) &&& (M % 256)) + 256 * ((A / 256) &&& (M / 256)) := by
  have h1 := Nat.and_mod_two_pow (a := A) (b := M) (n := 8)
  have h2 := Nat.and_div_two_pow (a := A) (b := M) (n := 8)
  rw [show (2 : Nat) ^ 8 = 256 from rfl] at h1 h2
  rw [← h1, ← h2]
  omega
def n_m1 (a : Nat) : Nat := (a / 2) &&& 85
def n_p1 (a : Nat) : Nat := a - n_m1 a
def n_p2 (a : Nat) : Nat := (n_p1 a &&& 51) + ((n_p1 a / 4) &&& 51)
def n_p3 (a : Nat) : Nat := (n_p2 a + n_p2 a / 16) &&& 15
theorem n_t1 : ∀ a, a < 256 → ∀ e, e < 2 → (a / 2 + 128 * e) &&& 85 = n_m1 a := by decide +kernel
theorem n_t2 : ∀ a, a < 256 → n_m1 a ≤ a ∧ n_p1 a < 256 ∧ n_p2 a ≤ 68 ∧ n_p3 a ≤ 8 ∧ n_p2 a % 16 ≤ 4 := by decide +kernel
theorem n_t3 : ∀ a, a < 256 → ∀ e, e < 4 → (a / 4 + 64 * e) &&& 51 = (a / 4) &&& 51 := by decide +kernel
theorem n_t4 : ∀ a, a < 69 → ∀ e, e < 16 → (a + (a / 16 + 16 * e)) &&& 15 = (a + a / 16) &&& 15 := by decide +kernel
theorem n_t5 : ∀ t, t < 33 → ∀ e, e < 256 → (t + 256 * e) &&& 63 = t := by decide +kernel
def n_pc8 (a : Nat) : Nat := a % 2 + a / 2 % 2 + a / 4 % 2 + a / 8 % 2 + a / 16 % 2 + a / 32 % 2 + a / 64 % 2 + a / 128 % 2
theorem n_t6 : ∀ a, a < 256 → n_p3 a = n_pc8 a := by decide +kernel
def n_w (a b c d : Nat) : Nat := a + 256 * (b + 256 * (c + 256 * d))
theorem n_s1 {a b c d : Nat} (ha : a < 256) (hb : b < 256) (hc : c < 256) (hd : d < 256) : (n_w a b c d / 2) &&& 1431655765 = n_w (n_m1 a) (n_m1 b) (n_m1 c) (n_m1 d) := by
  unfold n_w
  rw [n_and, show (a + 256 * (b + 256 * (c + 256 * d))) / 2 % 256 = a / 2 + 128 * (b % 2) by omega, show 1431655765 % 256 = 85 from rfl, n_t1 a ha _ (Nat.mod_lt _ (by decide)),
    show (a + 256 * (b + 256 * (c + 256 * d))) / 2 / 256 = (b + 256 * (c + 256 * d)) / 2 by omega, show 1431655765 / 256 = 5592405 from rfl,
    n_and, show (b + 256 * (c + 256 * d)) / 2 % 256 = b / 2 + 128 * (c % 2) by omega, show 5592405 % 256 = 85 from rfl, n_t1 b hb _ (Nat.mod_lt _ (by decide)),
    show (b + 256 * (c + 256 * d)) / 2 / 256 = (c + 256 * d) / 2 by omega, show 5592405 / 256 = 21845 from rfl,
    n_and, show (c + 256 * d) / 2 % 256 = c / 2 + 128 * (d % 2) by omega, show 21845 % 256 = 85 from rfl, n_t1 c hc _ (Nat.mod_lt _ (by decide)),
    show (c + 256 * d) / 2 / 256 = d / 2 + 128 * 0 by omega, show 21845 / 256 = 85 from rfl, n_t1 d hd 0 (by decide)]
theorem n_s2a {a b c d : Nat} (ha : a < 256) (hb : b < 256) (hc : c < 256) (hd : d < 256) : (n_w a b c d) &&& 858993459 = n_w (a &&& 51) (b &&& 51) (c &&& 51) (d &&& 51) := by
  unfold n_w
  rw [n_and, show (a + 256 * (b + 256 * (c + 256 * d))) % 256 = a by omega, show 858993459 % 256 = 51 from rfl, show (a + 256 * (b + 256 * (c + 256 * d))) / 256 = b + 256 * (c + 256 * d) by omega, show 858993459 / 256 = 3355443 from rfl,
    n_and (b + 256 * (c + 256 * d)), show (b + 256 * (c + 256 * d)) % 256 = b by omega, show 3355443 % 256 = 51 from rfl, show (b + 256 * (c + 256 * d)) / 256 = c + 256 * d by omega, show 3355443 / 256 = 13107 from rfl,
    n_and (c + 256 * d), show (c + 256 * d) % 256 = c by omega, show 13107 % 256 = 51 from rfl, show (c + 256 * d) / 256 = d by omega, show 13107 / 256 = 51 from rfl]
theorem n_s2b {a b c d : Nat} (ha : a < 256) (hb : b < 256) (hc : c < 256) (hd : d < 256) : (n_w a b c d / 4) &&& 858993459 = n_w ((a / 4) &&& 51) ((b / 4) &&& 51) ((c / 4) &&& 51) ((d / 4) &&& 51) := by
  unfold n_w
  rw [n_and, show (a + 256 * (b + 256 * (c + 256 * d))) / 4 % 256 = a / 4 + 64 * (b % 4) by omega, show 858993459 % 256 = 51 from rfl, n_t3 a ha _ (Nat.mod_lt _ (by decide)),
    show (a + 256 * (b + 256 * (c + 256 * d))) / 4 / 256 = (b + 256 * (c + 256 * d)) / 4 by omega, show 858993459 / 256 = 3355443 from rfl,
    n_and ((b + 256 * (c + 256 * d)) / 4), show (b + 256 * (c + 256 * d)) / 4 % 256 = b / 4 + 64 * (c % 4) by omega, show 3355443 % 256 = 51 from rfl, n_t3 b hb _ (Nat.mod_lt _ (by decide)),
    show (b + 256 * (c + 256 * d)) / 4 / 256 = (c + 256 * d) / 4 by omega, show 3355443 / 256 = 13107 from rfl,
    n_and ((c + 256 * d) / 4), show (c + 256 * d) / 4 % 256 = c / 4 + 64 * (d % 4) by omega, show 13107 % 256 = 51 from rfl, n_t3 c hc _ (Nat.mod_lt _ (by decide)),
    show (c + 256 * d) / 4 / 256 = d / 4 + 64 * 0 by omega, show 13107 / 256 = 51 from rfl, n_t3 d hd 0 (by decide)]
theorem n_s3 {a b c d : Nat} (ha : a < 69) (hb : b < 69) (hc : c < 69) (hd : d < 69) (hb4 : b % 16 ≤ 4) (hc4 : c % 16 ≤ 4) (hd4 : d % 16 ≤ 4) : (n_w a b c d + n_w a b c d / 16) &&& 252645135 = n_w ((a + a / 16) &&& 15) ((b + b / 16) &&& 15) ((c + c / 16) &&& 15) ((d + d / 16) &&& 15) := by
  have e : n_w a b c d + n_w a b c d / 16 = n_w (a + (a / 16 + 16 * (b % 16))) (b + (b / 16 + 16 * (c % 16))) (c + (c / 16 + 16 * (d % 16))) (d + (d / 16 + 16 * 0)) := by
    unfold n_w; omega
  have q1 : a + (a / 16 + 16 * (b % 16)) < 256 := by omega
  have q2 : b + (b / 16 + 16 * (c % 16)) < 256 := by omega
  have q3 : c + (c / 16 + 16 * (d % 16)) < 256 := by omega
  have q4 : d + (d / 16 + 16 * 0) < 256 := by omega
  have t1 := n_t4 a ha (b % 16) (Nat.mod_lt _ (by decide))
  have t2 := n_t4 b hb (c % 16) (Nat.mod_lt _ (by decide))
  have t3 := n_t4 c hc (d % 16) (Nat.mod_lt _ (by decide))
  have t4 := n_t4 d hd 0 (by decide)
  rw [e]
  generalize a + (a / 16 + 16 * (b % 16)) = A at *
  generalize b + (b / 16 + 16 * (c % 16)) = B at *
  generalize c + (c / 16 + 16 * (d % 16)) = C at *
  generalize d + (d / 16 + 16 * 0) = D at *
  rw [← t1, ← t2, ← t3, ← t4]
  unfold n_w
  rw [n_and, show (A + 256 * (B + 256 * (C + 256 * D))) % 256 = A by omega, show 252645135 % 256 = 15 from rfl, show (A + 256 * (B + 256 * (C + 256 * D))) / 256 = B + 256 * (C + 256 * D) by omega, show 252645135 / 256 = 986895 from rfl,
    n_and (B + 256 * (C + 256 * D)), show (B + 256 * (C + 256 * D)) % 256 = B by omega, show 986895 % 256 = 15 from rfl, show (B + 256 * (C + 256 * D)) / 256 = C + 256 * D by omega, show 986895 / 256 = 3855 from rfl,
    n_and (C + 256 * D), show (C + 256 * D) % 256 = C by omega, show 3855 % 256 = 15 from rfl, show (C + 256 * D) / 256 = D by omega, show 3855 / 256 = 15 from rfl]
theorem n_ushr {n k : Nat} (hn : n < 2 ^ 32) (hk : k < 32) : q_ushr (nI n) (nI k) = nI (n / 2 ^ k) := pk_ushrN hn (nI k) k (s_u k hk)
/-- the bits of a number, eight by eight -/
theorem z_cn8 (f : Nat → Bool) (k : Nat) : z_cn f (k + 8) = z_cn f k + ((if f k = true then 1 else 0) + (if f (k + 1) = true then 1 else 0) + (if f (k + 2) = true then 1 else 0) + (if f (k + 3) = true then 1 else 0) + (if f (k + 4) = true then 1 else 0) + (if f (k + 5) = true then 1 else 0) + (if f (k + 6) = true then 1 else 0) + (if f (k + 7) = true then 1 else 0)) := by
  show ((((((((z_cn f k + _) + _) + _) + _) + _) + _) + _) + _) = _
  omega
theorem b_nI {u i : Nat} (hi : i < 32) : (if bt (nI u) i = true then 1 else 0) = u / 2 ^ i % 2 := by
  have : bt (nI u) i = decide (u / 2 ^ i % 2 = 1) := by
    show (BitVec.ofNat 32 u).getLsbD i = _
    rw [BitVec.getLsbD_ofNat]
    simp only [hi, decide_true, Bool.true_and]
    rw [Nat.testBit_eq_decide_div_mod_eq]
  rw [this]
  by_cases h : u / 2 ^ i % 2 = 1
  · rw [decide_eq_true h, if_pos rfl, h]
  · rw [decide_eq_false h, if_neg (by decide)]
    omega
theorem n_byte (u k : Nat) (hk : k + 8 ≤ 32) : z_cn (bt (nI u)) (k + 8) = z_cn (bt (nI u)) k + n_pc8 (u / 2 ^ k % 256) := by
  have e : ∀ j, u / 2 ^ (k + j) = u / 2 ^ k / 2 ^ j := fun j => by rw [Nat.pow_add, Nat.div_div_eq_div_mul]
  rw [z_cn8, b_nI (u := u) (show k < 32 by omega), b_nI (u := u) (show k + 1 < 32 by omega), b_nI (u := u) (show k + 2 < 32 by omega), b_nI (u := u) (show k + 3 < 32 by omega), b_nI (u := u) (show k + 4 < 32 by omega), b_nI (u := u) (show k + 5 < 32 by omega), b_nI (u := u) (show k + 6 < 32 by omega), b_nI (u := u) (show k + 7 < 32 by omega),
    e 1, e 2, e 3, e 4, e 5, e 6, e 7]
  generalize u / 2 ^ k = w
  have h0 : w % 2 = w % 256 % 2 := by omega
  have h1 : w / 2 ^ 1 % 2 = w % 256 / 2 % 2 := by omega
  have h2 : w / 2 ^ 2 % 2 = w % 256 / 4 % 2 := by omega
  have h3 : w / 2 ^ 3 % 2 = w % 256 / 8 % 2 := by omega
  have h4 : w / 2 ^ 4 % 2 = w % 256 / 16 % 2 := by omega
  have h5 : w / 2 ^ 5 % 2 = w % 256 / 32 % 2 := by omega
  have h6 : w / 2 ^ 6 % 2 = w % 256 / 64 % 2 := by omega
  have h7 : w / 2 ^ 7 % 2 = w % 256 / 128 % 2 := by omega
  rw [h0, h1, h2, h3, h4, h5, h6, h7]
  rfl
theorem z_pc_nI {a b c d : Nat} (ha : a < 256) (hb : b < 256) (hc : c < 256) (hd : d < 256) : z_pc (nI (n_w a b c d)) = n_pc8 a + n_pc8 b + n_pc8 c + n_pc8 d := by
  unfold z_pc
  rw [show (32 : Nat) = 24 + 8 from rfl, n_byte _ 24 (by decide), show (24 : Nat) = 16 + 8 from rfl, n_byte _ 16 (by decide), show (16 : Nat) = 8 + 8 from rfl, n_byte _ 8 (by decide), show (8 : Nat) = 0 + 8 from rfl, n_byte _ 0 (by decide)]
  rw [show z_cn (bt (nI (n_w a b c d))) 0 = 0 from rfl]
  have e0 : n_w a b c d / 2 ^ 0 % 256 = a := by unfold n_w; omega
  have e1 : n_w a b c d / 2 ^ (0 + 8) % 256 = b := by unfold n_w; omega
  have e2 : n_w a b c d / 2 ^ (0 + 8 + (0 + 8)) % 256 = c := by unfold n_w; omega
  have e3 : n_w a b c d / 2 ^ (0 + 8 + (0 + 8) + (0 + 8)) % 256 = d := by unfold n_w; omega
  rw [e0, e1, e2, e3]
  omega
theorem z_bits (v : Int32) : f_IN_bitCount v = nI (z_pc v) := by
  obtain ⟨u, hu, rfl⟩ : ∃ u, u < 2 ^ 32 ∧ v = nI u := ⟨v.toBitVec.toNat, v.toBitVec.isLt, by
    apply Int32.toBitVec_inj.1
    show v.toBitVec = BitVec.ofNat 32 v.toBitVec.toNat
    rw [BitVec.ofNat_toNat, BitVec.setWidth_eq]⟩
  obtain ⟨a, b, c, d, ha, hb, hc, hd, rfl⟩ : ∃ a b c d, a < 256 ∧ b < 256 ∧ c < 256 ∧ d < 256 ∧ u = n_w a b c d := ⟨u % 256, u / 256 % 256, u / 65536 % 256, u / 16777216, by omega, by omega, by omega, by omega, by unfold n_w; omega⟩
  obtain ⟨a1, a2, a3, a4, a5⟩ := n_t2 a ha
  obtain ⟨b1, b2, b3, b4, b5⟩ := n_t2 b hb
  obtain ⟨c1, c2, c3, c4, c5⟩ := n_t2 c hc
  obtain ⟨d1, d2, d3, d4, d5⟩ := n_t2 d hd
  have v1 : nI (n_w a b c d) - ((q_ushr (nI (n_w a b c d)) (1 : Int32)) &&& (1431655765 : Int32)) = nI (n_w (n_p1 a) (n_p1 b) (n_p1 c) (n_p1 d)) := by
    rw [show (1 : Int32) = nI 1 from rfl, n_ushr hu (by decide), show (1431655765 : Int32) = nI 1431655765 from rfl, nx_and, show (2 : Nat) ^ 1 = 2 from rfl, n_s1 ha hb hc hd, pk_sub (by unfold n_w; omega)]
    congr 1
    unfold n_w n_p1
    omega
  have v2 : (nI (n_w (n_p1 a) (n_p1 b) (n_p1 c) (n_p1 d)) &&& (858993459 : Int32)) + ((q_ushr (nI (n_w (n_p1 a) (n_p1 b) (n_p1 c) (n_p1 d))) (2 : Int32)) &&& (858993459 : Int32)) = nI (n_w (n_p2 a) (n_p2 b) (n_p2 c) (n_p2 d)) := by
    rw [show (2 : Int32) = nI 2 from rfl, n_ushr (by unfold n_w; omega) (by decide), show (858993459 : Int32) = nI 858993459 from rfl, nx_and, nx_and, show (2 : Nat) ^ 2 = 4 from rfl, n_s2a a2 b2 c2 d2, n_s2b a2 b2 c2 d2, nI_add]
    congr 1
    unfold n_w n_p2
    omega
  have v3 : (nI (n_w (n_p2 a) (n_p2 b) (n_p2 c) (n_p2 d)) + q_ushr (nI (n_w (n_p2 a) (n_p2 b) (n_p2 c) (n_p2 d))) (4 : Int32)) &&& (252645135 : Int32) = nI (n_w (n_p3 a) (n_p3 b) (n_p3 c) (n_p3 d)) := by
    rw [show (4 : Int32) = nI 4 from rfl, n_ushr (by unfold n_w; omega) (by decide), show (252645135 : Int32) = nI 252645135 from rfl, nI_add, nx_and, show (2 : Nat) ^ 4 = 16 from rfl, n_s3 (by omega) (by omega) (by omega) (by omega) b5 c5 d5]
    rfl
  have v4 : nI (n_w (n_p3 a) (n_p3 b) (n_p3 c) (n_p3 d)) + q_ushr (nI (n_w (n_p3 a) (n_p3 b) (n_p3 c) (n_p3 d))) (8 : Int32) = nI (n_w (n_p3 a + n_p3 b) (n_p3 b + n_p3 c) (n_p3 c + n_p3 d) (n_p3 d)) := by
    rw [show (8 : Int32) = nI 8 from rfl, n_ushr (by unfold n_w; omega) (by decide), nI_add, show (2 : Nat) ^ 8 = 256 from rfl]
    congr 1
    unfold n_w
    omega
  have v5 : nI (n_w (n_p3 a + n_p3 b) (n_p3 b + n_p3 c) (n_p3 c + n_p3 d) (n_p3 d)) + q_ushr (nI (n_w (n_p3 a + n_p3 b) (n_p3 b + n_p3 c) (n_p3 c + n_p3 d) (n_p3 d))) (16 : Int32) = nI (n_w (n_p3 a + n_p3 b + (n_p3 c + n_p3 d)) (n_p3 b + n_p3 c + n_p3 d) (n_p3 c + n_p3 d) (n_p3 d)) := by
    rw [show (16 : Int32) = nI 16 from rfl, n_ushr (by unfold n_w; omega) (by decide), nI_add, show (2 : Nat) ^ 16 = 65536 from rfl]
    congr 1
    unfold n_w
    omega
  have hf : f_IN_bitCount (nI (n_w a b c d)) = nI (n_w (n_p3 a + n_p3 b + (n_p3 c + n_p3 d)) (n_p3 b + n_p3 c + n_p3 d) (n_p3 c + n_p3 d) (n_p3 d)) &&& (63 : Int32) := by
    unfold f_IN_bitCount
    rw [v1, v2, v3, v4, v5]
  rw [hf, show (63 : Int32) = nI 63 from rfl, nx_and, z_pc_nI ha hb hc hd]
  congr 1
  rw [n_and, show n_w (n_p3 a + n_p3 b + (n_p3 c + n_p3 d)) (n_p3 b + n_p3 c + n_p3 d) (n_p3 c + n_p3 d) (n_p3 d) % 256 = (n_p3 a + n_p3 b + (n_p3 c + n_p3 d)) + 256 * 0 by unfold n_w; omega, show 63 % 256 = 63 from rfl, n_t5 _ (by omega) 0 (by decide), show 63 / 256 = 0 from rfl, Nat.and_zero, n_t6 a ha, n_t6 b hb, n_t6 c hc, n_t6 d hd]
  omega
