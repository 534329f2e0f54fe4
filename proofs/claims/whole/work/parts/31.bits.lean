/-! BITS AND NUMBERS. The family bt is pasted from the kit's BITS.to-paste. -/
def bt (x : Int32) (i : Nat) : Bool := x.toBitVec.getLsbD i
theorem b_ext {x y : Int32} (h : ∀ i, i < 32 → bt x i = bt y i) : x = y := Int32.toBitVec_inj.mp (BitVec.eq_of_getLsbD_eq (fun i hi => h i hi))
theorem b_or (x y : Int32) (i : Nat) : bt (x ||| y) i = (bt x i || bt y i) := by unfold bt; rw [Int32.toBitVec_or, BitVec.getLsbD_or]
theorem b_and (x y : Int32) (i : Nat) : bt (x &&& y) i = (bt x i && bt y i) := by unfold bt; rw [Int32.toBitVec_and, BitVec.getLsbD_and]
theorem b_xor (x y : Int32) (i : Nat) : bt (x ^^^ y) i = (bt x i ^^ bt y i) := by unfold bt; rw [Int32.toBitVec_xor, BitVec.getLsbD_xor]
theorem b_big {x : Int32} {i : Nat} (h : 32 ≤ i) : bt x i = false := BitVec.getLsbD_of_ge _ _ h
theorem b_lt {x : Int32} {i : Nat} (h : bt x i = true) : i < 32 := by
  rcases Nat.lt_or_ge i 32 with h1 | h1
  · exact h1
  · rw [b_big h1] at h; cases h
theorem b_m1 : ∀ i, i < 32 → bt (-1) i = true := by decide +kernel
theorem b_0 (i : Nat) : bt 0 i = false := BitVec.getLsbD_zero
theorem s_l : ∀ n, n < 32 → ((nI n &&& 31).toBitVec.smod 32).toNat = n := by decide +kernel
theorem s_u : ∀ n, n < 32 → (((nI n).toUInt32 &&& Int32.toUInt32 31).toBitVec % 32).toNat = n := by decide +kernel
theorem b_shl (n : Nat) (hn : n < 32) (x : Int32) {i : Nat} (hi : i < 32) : bt (x <<< (nI n &&& 31)) i = (decide (n ≤ i) && bt x (i - n)) := by
  unfold bt
  rw [Int32.toBitVec_shiftLeft]
  show (x.toBitVec <<< ((nI n &&& 31).toBitVec.smod 32).toNat).getLsbD i = _
  rw [s_l n hn, BitVec.getLsbD_shiftLeft]
  rcases Nat.lt_or_ge i n with h | h
  · simp [h, Nat.not_le.mpr h]
  · simp [hi, h, Nat.not_lt.mpr h]
theorem b_ushr (n : Nat) (hn : n < 32) (x : Int32) (i : Nat) : bt (q_ushr x (nI n)) i = bt x (n + i) := by
  show (x.toUInt32 >>> ((nI n).toUInt32 &&& Int32.toUInt32 31)).toBitVec.getLsbD i = x.toUInt32.toBitVec.getLsbD (n + i)
  rw [UInt32.toBitVec_shiftRight]
  show (x.toUInt32.toBitVec >>> (((nI n).toUInt32 &&& Int32.toUInt32 31).toBitVec % 32).toNat).getLsbD i = _
  rw [s_u n hn, BitVec.getLsbD_ushiftRight]
theorem b_not (x : Int32) (i : Nat) : bt (x ^^^ (-1)) i = (decide (i < 32) && !(bt x i)) := by
  rw [b_xor]
  rcases Nat.lt_or_ge i 32 with h | h
  · rw [b_m1 i h]; simp [h]
  · rw [b_big h, b_big h]; simp [Nat.not_lt.mpr h]
theorem b_shl1 (x : Int32) (i : Nat) : bt (x <<< ((1 : Int32) &&& 31)) i = (decide (0 < i) && (decide (i < 32) && bt x (i - 1))) := by
  rcases Nat.lt_or_ge i 32 with h | h
  · have := b_shl 1 (by omega) x h
    rw [show (nI 1 : Int32) = 1 from rfl] at this
    rw [this]
    simp [h, Nat.lt_iff_add_one_le]
  · rw [b_big h]; simp [Nat.not_lt.mpr h]
theorem b_ushr1 (x : Int32) (i : Nat) : bt (q_ushr x (1 : Int32)) i = bt x (i + 1) := by
  have := b_ushr 1 (by omega) x i
  rw [show (nI 1 : Int32) = 1 from rfl, Nat.add_comm] at this
  exact this
theorem b_eq0 {x : Int32} : x = 0 ↔ ∀ i, i < 32 → bt x i = false := ⟨fun h i _ => by rw [h, b_0], fun h => b_ext fun i hi => by rw [h i hi, b_0]⟩
theorem b_ne0 {x : Int32} : ¬ x = 0 ↔ ∃ i, i < 32 ∧ bt x i = true := by
  constructor
  · intro h
    by_cases h1 : ∃ i, i < 32 ∧ bt x i = true
    · exact h1
    · exfalso
      refine h (b_eq0.mpr fun i hi => ?_)
      cases h2 : bt x i
      · rfl
      · exact absurd ⟨i, hi, h2⟩ h1
  · intro ⟨i, hi, h⟩ e
    rw [e, b_0] at h; cases h
/-! longs -/
def bl (x : Int64) (i : Nat) : Bool := x.toBitVec.getLsbD i
theorem l_ext {x y : Int64} (h : ∀ i, i < 64 → bl x i = bl y i) : x = y := Int64.toBitVec_inj.mp (BitVec.eq_of_getLsbD_eq (fun i hi => h i hi))
theorem l_or (x y : Int64) (i : Nat) : bl (x ||| y) i = (bl x i || bl y i) := by unfold bl; rw [Int64.toBitVec_or, BitVec.getLsbD_or]
theorem l_and (x y : Int64) (i : Nat) : bl (x &&& y) i = (bl x i && bl y i) := by unfold bl; rw [Int64.toBitVec_and, BitVec.getLsbD_and]
theorem l_xor (x y : Int64) (i : Nat) : bl (x ^^^ y) i = (bl x i ^^ bl y i) := by unfold bl; rw [Int64.toBitVec_xor, BitVec.getLsbD_xor]
theorem l_big {x : Int64} {i : Nat} (h : 64 ≤ i) : bl x i = false := BitVec.getLsbD_of_ge _ _ h
theorem l_0 (i : Nat) : bl 0 i = false := BitVec.getLsbD_zero
theorem l_m1 : ∀ i, i < 64 → bl (-1) i = true := by decide +kernel
theorem l_all : ∀ i, i < 64 → bl (4294967295 : Int64) i = decide (i < 32) := by decide +kernel
theorem l_all' (i : Nat) : bl (4294967295 : Int64) i = decide (i < 32) := by
  rcases Nat.lt_or_ge i 64 with h | h
  · exact l_all i h
  · rw [l_big h, decide_eq_false (by omega)]
theorem l_not (x : Int64) (i : Nat) : bl (x ^^^ (-1)) i = (decide (i < 64) && !(bl x i)) := by
  rw [l_xor]
  rcases Nat.lt_or_ge i 64 with h | h
  · rw [l_m1 i h]; simp [h]
  · rw [l_big h, l_big h]; simp [Nat.not_lt.mpr h]
theorem t_l : ∀ n, n < 32 → (((nI n).toInt64 &&& 63).toBitVec.smod 64).toNat = n := by decide +kernel
theorem l_shl (n : Nat) (hn : n < 32) (x : Int64) {i : Nat} (hi : i < 64) : bl (x <<< ((nI n).toInt64 &&& 63)) i = (decide (n ≤ i) && bl x (i - n)) := by
  unfold bl
  rw [Int64.toBitVec_shiftLeft]
  show (x.toBitVec <<< (((nI n).toInt64 &&& 63).toBitVec.smod 64).toNat).getLsbD i = _
  rw [t_l n hn, BitVec.getLsbD_shiftLeft]
  rcases Nat.lt_or_ge i n with h | h
  · simp [h, Nat.not_le.mpr h]
  · simp [hi, h, Nat.not_lt.mpr h]
theorem l_shr (n : Nat) (hn : n < 32) (x : Int64) (h0 : bl x 63 = false) (i : Nat) : bl (x >>> ((nI n).toInt64 &&& 63)) i = bl x (n + i) := by
  have h0' : x.toBitVec.msb = false := by
    rw [BitVec.msb_eq_getLsbD_last]; exact h0
  rcases Nat.lt_or_ge i 64 with hi | hi
  · unfold bl
    rw [Int64.toBitVec_shiftRight]
    show (x.toBitVec.sshiftRight (((nI n).toInt64 &&& 63).toBitVec.smod 64).toNat).getLsbD i = _
    rw [t_l n hn, BitVec.getLsbD_sshiftRight, h0']
    rcases Nat.lt_or_ge (n + i) 64 with h | h
    · simp [h]; omega
    · rw [BitVec.getLsbD_of_ge _ _ h]; simp [Nat.not_lt.mpr h]
  · rw [l_big hi, l_big (by omega)]
theorem l_shl1 (x : Int64) (i : Nat) : bl (x <<< ((1 : Int32).toInt64 &&& 63)) i = (decide (0 < i) && (decide (i < 64) && bl x (i - 1))) := by
  rcases Nat.lt_or_ge i 64 with h | h
  · have := l_shl 1 (by omega) x h
    rw [show (nI 1 : Int32) = 1 from rfl] at this
    rw [this]
    simp [h, Nat.lt_iff_add_one_le]
  · rw [l_big h]; simp [Nat.not_lt.mpr h]
theorem l_shr1 (x : Int64) (h0 : bl x 63 = false) (i : Nat) : bl (x >>> ((1 : Int32).toInt64 &&& 63)) i = bl x (i + 1) := by
  have := l_shr 1 (by omega) x h0 i
  rw [show (nI 1 : Int32) = 1 from rfl, Nat.add_comm] at this
  exact this
theorem l_eq0 {x : Int64} : x = 0 ↔ ∀ i, i < 64 → bl x i = false := ⟨fun h i _ => by rw [h, l_0], fun h => l_ext fun i hi => by rw [h i hi, l_0]⟩
/-- a row of the reference: a row of the class with zeros before it -/
def zx (r : Int32) : Int64 := Int64.ofBitVec (r.toBitVec.setWidth 64)
theorem l_zx (r : Int32) (i : Nat) : bl (zx r) i = bt r i := by
  show (r.toBitVec.setWidth 64).getLsbD i = _
  rw [BitVec.getLsbD_setWidth]
  rcases Nat.lt_or_ge i 64 with h | h
  · simp [h, bt]
  · rw [b_big (by omega)]; simp [Nat.not_lt.mpr h]
theorem zx_eq {r : Int32} {v : Int64} (h : ∀ i, i < 64 → bl v i = bt r i) : v = zx r := l_ext fun i hi => by rw [h i hi, l_zx]
theorem zx_inj {r q : Int32} (h : zx r = zx q) : r = q := b_ext fun i _ => by rw [← l_zx, ← l_zx, h]
theorem zx_0 : zx 0 = 0 := by decide +kernel
theorem zx_eq0 {r : Int32} : zx r = 0 ↔ r = 0 := ⟨fun h => zx_inj (h.trans zx_0.symm), fun h => by rw [h, zx_0]⟩
theorem zx_63 (r : Int32) : bl (zx r) 63 = false := by rw [l_zx, b_big (by omega)]
theorem zx_or (a b : Int32) : zx a ||| zx b = zx (a ||| b) := zx_eq fun i _ => by rw [l_or, l_zx, l_zx, b_or]
theorem zx_and (a b : Int32) : zx a &&& zx b = zx (a &&& b) := zx_eq fun i _ => by rw [l_and, l_zx, l_zx, b_and]
theorem zx_xor (a b : Int32) : zx a ^^^ zx b = zx (a ^^^ b) := zx_eq fun i _ => by rw [l_xor, l_zx, l_zx, b_xor]
theorem zx_andn (a b : Int32) : zx a &&& (zx b ^^^ (-1)) = zx (a &&& (b ^^^ (-1))) := zx_eq fun i hi => by
  rw [l_and, l_not, l_zx, l_zx, b_and, b_not]
  rcases Nat.lt_or_ge i 32 with h | h
  · simp [h, hi]
  · simp [b_big h]
theorem zx_alln (b : Int32) : (4294967295 : Int64) &&& (zx b ^^^ (-1)) = zx (b ^^^ (-1)) := zx_eq fun i hi => by
  rw [l_and, l_not, l_zx, l_all', b_not]
  simp [hi]
/-- how many of the first n hold -/
def z_cn (f : Nat → Bool) : Nat → Nat
  | 0 => 0
  | n + 1 => z_cn f n + (if f n = true then 1 else 0)
def z_sm (g : Nat → Nat) : Nat → Nat
  | 0 => 0
  | n + 1 => z_sm g n + g n
theorem z_cn_le (f : Nat → Bool) (n : Nat) : z_cn f n ≤ n := by
  induction n with
  | zero => exact Nat.le_refl _
  | succ n ih => unfold z_cn; split <;> omega
theorem z_cn_mono {f g : Nat → Bool} {n : Nat} (h : ∀ i, i < n → f i = true → g i = true) : z_cn f n ≤ z_cn g n := by
  induction n with
  | zero => exact Nat.le_refl _
  | succ n ih =>
    have h1 := ih fun i hi => h i (by omega)
    have h2 := h n (by omega)
    unfold z_cn
    by_cases hf : f n = true
    · rw [if_pos hf, if_pos (h2 hf)]; omega
    · rw [if_neg hf]; split <;> omega
theorem z_cn_lt {f g : Nat → Bool} {n k : Nat} (h : ∀ i, i < n → f i = true → g i = true) (hk : k < n) (hg : g k = true) (hf : f k = false) : z_cn f n < z_cn g n := by
  induction n with
  | zero => omega
  | succ n ih =>
    have h2 := h n (by omega)
    unfold z_cn
    by_cases e : k = n
    · subst e
      have h1 := z_cn_mono (n := k) fun i hi => h i (by omega)
      rw [hf, hg]; simp; omega
    · have h1 := ih (fun i hi => h i (by omega)) (by omega)
      by_cases hf : f n = true
      · rw [if_pos hf, if_pos (h2 hf)]; omega
      · rw [if_neg hf]; split <;> omega
theorem z_cn_congr {f g : Nat → Bool} {n : Nat} (h : ∀ i, i < n → f i = g i) : z_cn f n = z_cn g n := by
  induction n with
  | zero => rfl
  | succ n ih => unfold z_cn; rw [ih fun i hi => h i (by omega), h n (by omega)]
theorem z_cn_ext {f : Nat → Bool} {n m : Nat} (hnm : n ≤ m) (h : ∀ i, n ≤ i → i < m → f i = false) : z_cn f m = z_cn f n := by
  induction m with
  | zero => rw [show n = 0 by omega]
  | succ m ih =>
    by_cases e : n = m + 1
    · rw [e]
    · show z_cn f m + (if f m = true then 1 else 0) = z_cn f n
      rw [ih (by omega) fun i h1 h2 => h i h1 (by omega), h m (by omega) (by omega)]; simp
theorem z_sm_mono {f g : Nat → Nat} {n : Nat} (h : ∀ i, i < n → f i ≤ g i) : z_sm f n ≤ z_sm g n := by
  induction n with
  | zero => exact Nat.le_refl _
  | succ n ih =>
    have h1 := ih fun i hi => h i (by omega)
    have h2 := h n (by omega)
    unfold z_sm; omega
theorem z_sm_lt {f g : Nat → Nat} {n k : Nat} (h : ∀ i, i < n → f i ≤ g i) (hk : k < n) (hkk : f k < g k) : z_sm f n < z_sm g n := by
  induction n with
  | zero => omega
  | succ n ih =>
    have h2 := h n (by omega)
    unfold z_sm
    by_cases e : k = n
    · subst e
      have h1 := z_sm_mono (n := k) fun i hi => h i (by omega)
      omega
    · have h1 := ih (fun i hi => h i (by omega)) (by omega)
      omega
theorem z_sm_congr {f g : Nat → Nat} {n : Nat} (h : ∀ i, i < n → f i = g i) : z_sm f n = z_sm g n := by
  induction n with
  | zero => rfl
  | succ n ih => unfold z_sm; rw [ih fun i hi => h i (by omega), h n (by omega)]
theorem z_sm_le {f : Nat → Nat} {n b : Nat} (h : ∀ i, i < n → f i ≤ b) : z_sm f n ≤ n * b := by
  induction n with
  | zero => simp [z_sm]
  | succ n ih =>
    have h1 := ih fun i hi => h i (by omega)
    have h2 := h n (by omega)
    unfold z_sm
    rw [Nat.succ_mul]; omega
/-- the bits of a row; the cells of rows -/
def z_pc (r : Int32) : Nat := z_cn (bt r) 32
theorem z_pc_le (r : Int32) : z_pc r ≤ 32 := z_cn_le _ _
def z_ca (r : Nat → Int32) : Nat := z_sm (fun y => z_pc (r y)) 24
theorem z_ca_le (r : Nat → Int32) : z_ca r ≤ 768 := z_sm_le fun _ _ => z_pc_le _
/-- rows within rows -/
def z_sub (a b : Int32) : Prop := ∀ x, bt a x = true → bt b x = true
theorem z_sub.rf (a : Int32) : z_sub a a := fun _ h => h
theorem z_sub.tr {a b c : Int32} (h : z_sub a b) (h2 : z_sub b c) : z_sub a c := fun x hx => h2 x (h x hx)
theorem z_sub.eq {a b : Int32} (h : z_sub a b) (h2 : z_sub b a) : a = b := b_ext fun i _ => by
  cases e : bt a i <;> cases e2 : bt b i
  · rfl
  · rw [h2 i e2] at e; cases e
  · rw [h i e] at e2; cases e2
  · rfl
theorem z_sub.pc {a b : Int32} (h : z_sub a b) : z_pc a ≤ z_pc b := z_cn_mono fun i _ => h i
theorem z_sub.pclt {a b : Int32} (h : z_sub a b) (hne : ¬ a = b) : z_pc a < z_pc b := by
  have : ∃ k, k < 32 ∧ bt b k = true ∧ bt a k = false := by
    by_cases h1 : ∃ k, k < 32 ∧ bt b k = true ∧ bt a k = false
    · exact h1
    · exfalso
      refine hne (h.eq fun x hx => ?_)
      cases e : bt a x
      · exact absurd ⟨x, b_lt hx, hx, e⟩ h1
      · rfl
  obtain ⟨k, h1, h2, h3⟩ := this
  exact z_cn_lt (fun i _ => h i) h1 h2 h3
theorem z_ca_mono {a b : Nat → Int32} (h : ∀ y, y < 24 → z_sub (a y) (b y)) : z_ca a ≤ z_ca b := z_sm_mono fun i hi => (h i hi).pc
theorem z_ca_lt {a b : Nat → Int32} (h : ∀ y, y < 24 → z_sub (a y) (b y)) {k : Nat} (hk : k < 24) (hne : ¬ a k = b k) : z_ca a < z_ca b := z_sm_lt (fun i hi => (h i hi).pc) hk ((h k hk).pclt hne)
