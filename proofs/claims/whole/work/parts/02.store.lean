/-! THE STORE: an abstract heap by names. A name n > 0 below 10000000 is the cell at address b0 + n (cells are only ever pushed, so names are given in their order); names from 10000000 on are cells that were there before and are only read. 0 is null. -/
abbrev q_V : Type := Int32 ⊕ Int64 ⊕ Nat
abbrev q_i (x : Int32) : q_V := Sum.inl x
abbrev q_l (x : Int64) : q_V := Sum.inr (Sum.inl x)
abbrev q_r (n : Nat) : q_V := Sum.inr (Sum.inr n)
/-- what is fixed: the classes' numbers and slots; the array classes' numbers by kind; b0; the addresses of the cells that are only read; what those hold that are arrays of ints -/
abbrev q_C : Type := va_G × (Nat → ClassId) × Nat × (Nat → Nat) × (Nat → Nat × (Nat → Int32))
abbrev q_b (cx : q_C) : Nat := cx.2.2.1
def q_ad (cx : q_C) (n : Nat) : Nat := if n < 10000000 then cx.2.2.1 + n else cx.2.2.2.1 (n - 10000000)
def q_tr (cx : q_C) (n : Nat) : Value := if n = 0 then .null else .ref (q_ad cx n)
def q_tv (cx : q_C) (v : q_V) : Value := match v with
  | .inl x => .int x
  | .inr (.inl x) => .long x
  | .inr (.inr n) => q_tr cx n
/-- next name; kinds; lengths; ints; longs; references -/
abbrev q_S : Type := Nat × (Nat → Nat) × (Nat → Nat) × (Nat → Nat → Int32) × (Nat → Nat → Int64) × (Nat → Nat → Nat)
def q_n (σ : q_S) : Nat := σ.1
def q_K (σ : q_S) (a : Nat) : Nat := σ.2.1 a
def q_Z (σ : q_S) (a : Nat) : Nat := σ.2.2.1 a
def q_I (σ : q_S) (a : Nat) : Nat → Int32 := σ.2.2.2.1 a
def q_L (σ : q_S) (a : Nat) : Nat → Int64 := σ.2.2.2.2.1 a
def q_P (σ : q_S) (a : Nat) : Nat → Nat := σ.2.2.2.2.2 a
def q_sI (σ : q_S) (a : Nat) (f : Nat → Int32) : q_S := (σ.1, σ.2.1, σ.2.2.1, va_up σ.2.2.2.1 a f, σ.2.2.2.2.1, σ.2.2.2.2.2)
def q_sL (σ : q_S) (a : Nat) (f : Nat → Int64) : q_S := (σ.1, σ.2.1, σ.2.2.1, σ.2.2.2.1, va_up σ.2.2.2.2.1 a f, σ.2.2.2.2.2)
def q_sP (σ : q_S) (a : Nat) (f : Nat → Nat) : q_S := (σ.1, σ.2.1, σ.2.2.1, σ.2.2.2.1, σ.2.2.2.2.1, va_up σ.2.2.2.2.2 a f)
/-- a new cell of kind k, with z places, all 0 or null -/
def q_new (σ : q_S) (k z : Nat) : q_S := (σ.1 + 1, va_up σ.2.1 σ.1 k, va_up σ.2.2.1 σ.1 z, va_up σ.2.2.2.1 σ.1 (fun _ => 0), va_up σ.2.2.2.2.1 σ.1 (fun _ => 0), va_up σ.2.2.2.2.2 σ.1 (fun _ => 0))
/-- one place of a cell -/
def q_wI (σ : q_S) (a k : Nat) (x : Int32) : q_S := q_sI σ a (va_up (q_I σ a) k x)
def q_wL (σ : q_S) (a k : Nat) (x : Int64) : q_S := q_sL σ a (va_up (q_L σ a) k x)
def q_wP (σ : q_S) (a k : Nat) (x : Nat) : q_S := q_sP σ a (va_up (q_P σ a) k x)
section QSimp
variable (σ : q_S) (a b k z : Nat) (f : Nat → Int32) (g : Nat → Int64) (h : Nat → Nat)
theorem q_n_sI : q_n (q_sI σ a f) = q_n σ := rfl
theorem q_n_sL : q_n (q_sL σ a g) = q_n σ := rfl
theorem q_n_sP : q_n (q_sP σ a h) = q_n σ := rfl
theorem q_n_new : q_n (q_new σ k z) = q_n σ + 1 := rfl
theorem q_K_sI : q_K (q_sI σ a f) b = q_K σ b := rfl
theorem q_K_sL : q_K (q_sL σ a g) b = q_K σ b := rfl
theorem q_K_sP : q_K (q_sP σ a h) b = q_K σ b := rfl
theorem q_K_new : q_K (q_new σ k z) b = if b = q_n σ then k else q_K σ b := rfl
theorem q_Z_sI : q_Z (q_sI σ a f) b = q_Z σ b := rfl
theorem q_Z_sL : q_Z (q_sL σ a g) b = q_Z σ b := rfl
theorem q_Z_sP : q_Z (q_sP σ a h) b = q_Z σ b := rfl
theorem q_Z_new : q_Z (q_new σ k z) b = if b = q_n σ then z else q_Z σ b := rfl
theorem q_I_sI : q_I (q_sI σ a f) b = if b = a then f else q_I σ b := rfl
theorem q_I_sL : q_I (q_sL σ a g) b = q_I σ b := rfl
theorem q_I_sP : q_I (q_sP σ a h) b = q_I σ b := rfl
theorem q_I_new : q_I (q_new σ k z) b = if b = q_n σ then (fun _ => 0) else q_I σ b := rfl
theorem q_L_sI : q_L (q_sI σ a f) b = q_L σ b := rfl
theorem q_L_sL : q_L (q_sL σ a g) b = if b = a then g else q_L σ b := rfl
theorem q_L_sP : q_L (q_sP σ a h) b = q_L σ b := rfl
theorem q_L_new : q_L (q_new σ k z) b = if b = q_n σ then (fun _ => 0) else q_L σ b := rfl
theorem q_P_sI : q_P (q_sI σ a f) b = q_P σ b := rfl
theorem q_P_sL : q_P (q_sL σ a g) b = q_P σ b := rfl
theorem q_P_sP : q_P (q_sP σ a h) b = if b = a then h else q_P σ b := rfl
theorem q_P_new : q_P (q_new σ k z) b = if b = q_n σ then (fun _ => 0) else q_P σ b := rfl
end QSimp
theorem q_tr_pos {cx : q_C} {n : Nat} (h : 0 < n) : q_tr cx n = .ref (q_ad cx n) := by
  unfold q_tr
  rw [if_neg (by omega)]
theorem q_tr_0 {cx : q_C} : q_tr cx 0 = .null := rfl
theorem q_ad_lo {cx : q_C} {n : Nat} (h : n < 10000000) : q_ad cx n = q_b cx + n := by
  unfold q_ad
  rw [if_pos h]
theorem q_tv_r (cx : q_C) (n : Nat) : q_tv cx (q_r n) = q_tr cx n := rfl
theorem q_tv_i (cx : q_C) (x : Int32) : q_tv cx (q_i x) = .int x := rfl
theorem q_tv_l (cx : q_C) (x : Int64) : q_tv cx (q_l x) = .long x := rfl
/-- the field of a type: what the store says of it -/
def q_fv (cx : q_C) (σ : q_S) (a : Nat) (ty : FieldType) (k : Nat) : Value := match ty with
  | .long => .long (q_L σ a k)
  | .object _ => q_tr cx (q_P σ a k)
  | .array _ => q_tr cx (q_P σ a k)
  | _ => .int (q_I σ a k)
/-- the cell named a is as the store says: an object of the class K - 1, an array of the kind K - 1000, or (2000) an array of ints that is only read, of which the context speaks -/
def q_at (cx : q_C) (σ : q_S) (a : Nat) (H : Heap) : Prop :=
  if q_K σ a < 1000 then ∃ r : vw_C, q_cl[q_K σ a - 1]? = some r ∧ t_OB (q_ad cx a) (cx.1.1 (q_K σ a - 1)) r.2.2 (cx.1.2 (q_K σ a - 1)) H (fun k => q_fv cx σ a (q_tf (q_K σ a - 1) k) k)
  else if q_K σ a < 2000 then H[q_ad cx a]? = some (arrV (cx.2.1 (q_K σ a - 1000)) (q_Z σ a) (fun k => q_fv cx σ a (q_ta (q_K σ a - 1000)) k))
  else q_Z σ a = (cx.2.2.2.2 a).1 ∧ q_I σ a = (cx.2.2.2.2 a).2
theorem q_fv_congr {cx : q_C} {σ τ : q_S} {a : Nat} (hI : q_I τ a = q_I σ a) (hL : q_L τ a = q_L σ a) (hP : q_P τ a = q_P σ a) (ty : FieldType) (k : Nat) : q_fv cx τ a ty k = q_fv cx σ a ty k := by
  cases ty <;> simp [q_fv, hI, hL, hP]
theorem q_at.congr {cx : q_C} {σ τ : q_S} {a : Nat} {H : Heap} (h : q_at cx σ a H) (hK : q_K τ a = q_K σ a) (hZ : q_Z τ a = q_Z σ a) (hI : q_I τ a = q_I σ a) (hL : q_L τ a = q_L σ a) (hP : q_P τ a = q_P σ a) : q_at cx τ a H := by
  unfold q_at at h ⊢
  simp only [hK, hZ, hI, q_fv_congr hI hL hP]
  exact h
theorem q_at.kept {cx : q_C} {σ : q_S} {a : Nat} {H H1 : Heap} (h : q_at cx σ a H) (hq : H1[q_ad cx a]? = H[q_ad cx a]?) : q_at cx σ a H1 := by
  unfold q_at at h ⊢
  split
  · rename_i h1
    rw [if_pos h1] at h
    obtain ⟨r, h2, h3⟩ := h
    exact ⟨r, h2, h3.kept hq⟩
  · rename_i h1
    rw [if_neg h1] at h
    split
    · rename_i h2
      rw [if_pos h2] at h
      exact hq.trans h
    · rename_i h2
      rw [if_neg h2] at h
      exact h
/-- THE HEAP IS AS THE STORE SAYS -/
def q_Rep (cx : q_C) (σ : q_S) (H : Heap) : Prop :=
  H.size = q_b cx + q_n σ ∧ (0 < q_n σ ∧ q_n σ ≤ 10000000) ∧ (∀ a, q_K σ a ≠ 0 → 0 < a ∧ (q_K σ a < 2000 → a < q_n σ) ∧ (2000 ≤ q_K σ a → 10000000 ≤ a ∧ a < 10000000 + q_nro ∧ (q_K σ a = 2000 → q_rty a = .int)) ∧ (q_K σ a < 2000 → q_K σ a < 1000 + q_nta)) ∧ ∀ a, q_K σ a ≠ 0 → q_at cx σ a H
theorem q_Rep.pos {cx : q_C} {σ : q_S} {H : Heap} (h : q_Rep cx σ H) {a : Nat} (ha : q_K σ a ≠ 0) : 0 < a := (h.2.2.1 a ha).1
theorem q_Rep.lo {cx : q_C} {σ : q_S} {H : Heap} (h : q_Rep cx σ H) {a : Nat} (ha : q_K σ a ≠ 0) (hk : q_K σ a < 2000) : a < 10000000 ∧ a < q_n σ := by
  have h1 := (h.2.2.1 a ha).2.1 hk
  have h2 := h.2.1.2
  exact ⟨by omega, h1⟩
theorem q_Rep.addr {cx : q_C} {σ : q_S} {H : Heap} (h : q_Rep cx σ H) {a : Nat} (ha : q_K σ a ≠ 0) (hk : q_K σ a < 2000) : q_ad cx a = q_b cx + a ∧ q_ad cx a < H.size := by
  obtain ⟨h1, h2⟩ := h.lo ha hk
  rw [q_ad_lo h1, h.1]
  exact ⟨rfl, by omega⟩
/-- one cell has been written -/
theorem q_Rep.upd {cx : q_C} {σ τ : q_S} {H H1 : Heap} (h : q_Rep cx σ H) (a : Nat) (ha : q_K σ a ≠ 0) (hk : q_K σ a < 2000) (hn : q_n τ = q_n σ) (hK : ∀ b, q_K τ b = q_K σ b)
    (ho : ∀ b, b ≠ a → q_Z τ b = q_Z σ b ∧ q_I τ b = q_I σ b ∧ q_L τ b = q_L σ b ∧ q_P τ b = q_P σ b) (hz : H1.size = H.size) (oq : ∀ q : Nat, q ≠ q_ad cx a → H1[q]? = H[q]?) (hat : q_at cx τ a H1) : q_Rep cx τ H1 := by
  refine ⟨by rw [hz, hn]; exact h.1, by rw [hn]; exact h.2.1, fun b hb => ?_, fun b hb => ?_⟩
  · rw [hK] at hb ⊢
    rw [hn]
    exact h.2.2.1 b hb
  · by_cases e : b = a
    · subst e
      exact hat
    · rw [hK] at hb
      obtain ⟨z1, z2, z3, z4⟩ := ho b e
      by_cases hk2 : q_K σ b < 2000
      · refine ((h.2.2.2 b hb).kept (oq _ ?_)).congr (hK b) z1 z2 z3 z4
        rw [(h.addr hb hk2).1, (h.addr ha hk).1]
        omega
      · have h1 := (h.2.2.2 b hb).congr (hK b) z1 z2 z3 z4
        unfold q_at at h1 ⊢
        rw [hK] at h1 ⊢
        rw [if_neg (by omega), if_neg (by omega)] at h1 ⊢
        exact h1
/-- one cell has come -/
theorem q_Rep.push {cx : q_C} {σ : q_S} {H H1 : Heap} (h : q_Rep cx σ H) {k z : Nat} (hk9 : k < 1000 + q_nta) (hr : q_n σ < 10000000) (hz : H1.size = H.size + 1) (oq : ∀ q : Nat, q < H.size → H1[q]? = H[q]?) (hat : k ≠ 0 → q_at cx (q_new σ k z) (q_n σ) H1) : q_Rep cx (q_new σ k z) H1 := by
  have hsz := h.1
  have hk : k < 2000 := Nat.lt_of_lt_of_le hk9 (by decide)
  refine ⟨by rw [hz, hsz, q_n_new]; omega, ⟨by rw [q_n_new]; omega, by rw [q_n_new]; omega⟩, fun b hb => ?_, fun b hb => ?_⟩
  · rw [q_K_new] at hb ⊢
    by_cases e : b = q_n σ
    · rw [if_pos e] at hb ⊢
      rw [q_n_new]
      have := h.2.1.1
      exact ⟨by omega, fun _ => by omega, fun q => by omega, fun _ => hk9⟩
    · rw [if_neg e] at hb ⊢
      obtain ⟨h1, h2, h3⟩ := h.2.2.1 b hb
      rw [q_n_new]
      exact ⟨h1, fun q => by have := h2 q; omega, h3⟩
  · by_cases e : b = q_n σ
    · subst e
      rw [q_K_new, if_pos rfl] at hb
      exact hat hb
    · have hb' : q_K σ b ≠ 0 := by rw [q_K_new, if_neg e] at hb; exact hb
      have c1 : q_K (q_new σ k z) b = q_K σ b := by rw [q_K_new, if_neg e]
      have c2 : q_Z (q_new σ k z) b = q_Z σ b := by rw [q_Z_new, if_neg e]
      have c3 : q_I (q_new σ k z) b = q_I σ b := by rw [q_I_new, if_neg e]
      have c4 : q_L (q_new σ k z) b = q_L σ b := by rw [q_L_new, if_neg e]
      have c5 : q_P (q_new σ k z) b = q_P σ b := by rw [q_P_new, if_neg e]
      by_cases hk2 : q_K σ b < 2000
      · exact ((h.2.2.2 b hb').kept (oq _ (h.addr hb' hk2).2)).congr c1 c2 c3 c4 c5
      · have h1 := (h.2.2.2 b hb').congr c1 c2 c3 c4 c5
        unfold q_at at h1 ⊢
        rw [c1] at h1 ⊢
        rw [if_neg (by omega), if_neg (by omega)] at h1 ⊢
        exact h1
theorem q_Rep.kind {cx : q_C} {σ : q_S} {H : Heap} (h : q_Rep cx σ H) {a t : Nat} (ha : q_K σ a = 1000 + t) (hc : t < 1000) : t < q_nta := by
  have h1 := (h.2.2.1 a (by omega)).2.2.2 (by omega)
  omega
