/-! THE SHAPE OF THE REFERENCE (by program), THE STATE THAT BOTH HOLD -/
def m_S (σ : q_S) : Prop := q_K σ 14 = 7 ∧ (q_P σ 14 3 = 15 ∧ q_K σ 15 = 1000 ∧ q_Z σ 15 = 8) ∧ (q_P σ 14 4 = 16 ∧ q_K σ 16 = 1000 ∧ q_Z σ 16 = 8) ∧ (q_P σ 14 5 = 17 ∧ q_K σ 17 = 1000 ∧ q_Z σ 17 = 8) ∧ (q_P σ 14 6 = 18 ∧ q_K σ 18 = 1000 ∧ q_Z σ 18 = 8) ∧ (q_P σ 14 7 = 19 ∧ q_K σ 19 = 1000 ∧ q_Z σ 19 = 32) ∧ (q_P σ 14 8 = 20 ∧ q_K σ 20 = 1001 ∧ q_Z σ 20 = 384) ∧ (q_P σ 14 9 = 21 ∧ q_K σ 21 = 1001 ∧ q_Z σ 21 = 384) ∧ (q_P σ 14 10 = 22 ∧ q_K σ 22 = 1000 ∧ q_Z σ 22 = 8) ∧ (q_P σ 14 11 = 23 ∧ q_K σ 23 = 1000 ∧ q_Z σ 23 = 8) ∧ (q_P σ 14 13 = 24 ∧ q_K σ 24 = 1000 ∧ q_Z σ 24 = 20) ∧ (q_P σ 14 14 = 25 ∧ q_K σ 25 = 1000 ∧ q_Z σ 25 = 20) ∧ (q_P σ 14 15 = 26 ∧ q_K σ 26 = 1001 ∧ q_Z σ 26 = 60) ∧ (q_P σ 14 17 = 27 ∧ q_K σ 27 = 1000 ∧ q_Z σ 27 = 10) ∧ (q_P σ 14 18 = 28 ∧ q_K σ 28 = 1000 ∧ q_Z σ 28 = 10) ∧ (q_P σ 14 19 = 29 ∧ q_K σ 29 = 1000 ∧ q_Z σ 29 = 40) ∧ (q_P σ 14 20 = 30 ∧ q_K σ 30 = 1000 ∧ q_Z σ 30 = 4) ∧ (q_P σ 14 21 = 31 ∧ q_K σ 31 = 1001 ∧ q_Z σ 31 = 192) ∧ (q_P σ 14 22 = 32 ∧ q_K σ 32 = 1001 ∧ q_Z σ 32 = 192) ∧ (q_P σ 14 23 = 33 ∧ q_K σ 33 = 1000 ∧ q_Z σ 33 = 8) ∧ (q_P σ 14 24 = 34 ∧ q_K σ 34 = 1003 ∧ q_Z σ 34 = 8) ∧ (q_P σ 14 25 = 35 ∧ q_K σ 35 = 1000 ∧ q_Z σ 35 = 8) ∧ (q_P σ 14 26 = 36 ∧ q_K σ 36 = 1003 ∧ q_Z σ 36 = 8) ∧ (q_P σ 14 27 = 37 ∧ q_K σ 37 = 1003 ∧ q_Z σ 37 = 8) ∧ (q_P σ 14 28 = 38 ∧ q_K σ 38 = 1001 ∧ q_Z σ 38 = 24) ∧ (q_P σ 14 29 = 39 ∧ q_K σ 39 = 1001 ∧ q_Z σ 39 = 24) ∧ (q_P σ 14 30 = 40 ∧ q_K σ 40 = 1001 ∧ q_Z σ 40 = 24) ∧ (q_P σ 14 31 = 41 ∧ q_K σ 41 = 1001 ∧ q_Z σ 41 = 24)
section MS
variable {σ : q_S}
theorem m_S.k (h : m_S σ) : q_K σ 14 = 7 := h.1
theorem m_S.p3 (h : m_S σ) : q_P σ 14 3 = 15 := h.2.1.1
theorem m_S.k3 (h : m_S σ) : q_K σ 15 = 1000 := h.2.1.2.1
theorem m_S.z3 (h : m_S σ) : q_Z σ 15 = 8 := h.2.1.2.2
theorem m_S.p4 (h : m_S σ) : q_P σ 14 4 = 16 := h.2.2.1.1
theorem m_S.k4 (h : m_S σ) : q_K σ 16 = 1000 := h.2.2.1.2.1
theorem m_S.z4 (h : m_S σ) : q_Z σ 16 = 8 := h.2.2.1.2.2
theorem m_S.p5 (h : m_S σ) : q_P σ 14 5 = 17 := h.2.2.2.1.1
theorem m_S.k5 (h : m_S σ) : q_K σ 17 = 1000 := h.2.2.2.1.2.1
theorem m_S.z5 (h : m_S σ) : q_Z σ 17 = 8 := h.2.2.2.1.2.2
theorem m_S.p6 (h : m_S σ) : q_P σ 14 6 = 18 := h.2.2.2.2.1.1
theorem m_S.k6 (h : m_S σ) : q_K σ 18 = 1000 := h.2.2.2.2.1.2.1
theorem m_S.z6 (h : m_S σ) : q_Z σ 18 = 8 := h.2.2.2.2.1.2.2
theorem m_S.p7 (h : m_S σ) : q_P σ 14 7 = 19 := h.2.2.2.2.2.1.1
theorem m_S.k7 (h : m_S σ) : q_K σ 19 = 1000 := h.2.2.2.2.2.1.2.1
theorem m_S.z7 (h : m_S σ) : q_Z σ 19 = 32 := h.2.2.2.2.2.1.2.2
theorem m_S.p8 (h : m_S σ) : q_P σ 14 8 = 20 := h.2.2.2.2.2.2.1.1
theorem m_S.k8 (h : m_S σ) : q_K σ 20 = 1001 := h.2.2.2.2.2.2.1.2.1
theorem m_S.z8 (h : m_S σ) : q_Z σ 20 = 384 := h.2.2.2.2.2.2.1.2.2
theorem m_S.p9 (h : m_S σ) : q_P σ 14 9 = 21 := h.2.2.2.2.2.2.2.1.1
theorem m_S.k9 (h : m_S σ) : q_K σ 21 = 1001 := h.2.2.2.2.2.2.2.1.2.1
theorem m_S.z9 (h : m_S σ) : q_Z σ 21 = 384 := h.2.2.2.2.2.2.2.1.2.2
theorem m_S.p10 (h : m_S σ) : q_P σ 14 10 = 22 := h.2.2.2.2.2.2.2.2.1.1
theorem m_S.k10 (h : m_S σ) : q_K σ 22 = 1000 := h.2.2.2.2.2.2.2.2.1.2.1
theorem m_S.z10 (h : m_S σ) : q_Z σ 22 = 8 := h.2.2.2.2.2.2.2.2.1.2.2
theorem m_S.p11 (h : m_S σ) : q_P σ 14 11 = 23 := h.2.2.2.2.2.2.2.2.2.1.1
theorem m_S.k11 (h : m_S σ) : q_K σ 23 = 1000 := h.2.2.2.2.2.2.2.2.2.1.2.1
theorem m_S.z11 (h : m_S σ) : q_Z σ 23 = 8 := h.2.2.2.2.2.2.2.2.2.1.2.2
theorem m_S.p13 (h : m_S σ) : q_P σ 14 13 = 24 := h.2.2.2.2.2.2.2.2.2.2.1.1
theorem m_S.k13 (h : m_S σ) : q_K σ 24 = 1000 := h.2.2.2.2.2.2.2.2.2.2.1.2.1
theorem m_S.z13 (h : m_S σ) : q_Z σ 24 = 20 := h.2.2.2.2.2.2.2.2.2.2.1.2.2
theorem m_S.p14 (h : m_S σ) : q_P σ 14 14 = 25 := h.2.2.2.2.2.2.2.2.2.2.2.1.1
theorem m_S.k14 (h : m_S σ) : q_K σ 25 = 1000 := h.2.2.2.2.2.2.2.2.2.2.2.1.2.1
theorem m_S.z14 (h : m_S σ) : q_Z σ 25 = 20 := h.2.2.2.2.2.2.2.2.2.2.2.1.2.2
theorem m_S.p15 (h : m_S σ) : q_P σ 14 15 = 26 := h.2.2.2.2.2.2.2.2.2.2.2.2.1.1
theorem m_S.k15 (h : m_S σ) : q_K σ 26 = 1001 := h.2.2.2.2.2.2.2.2.2.2.2.2.1.2.1
theorem m_S.z15 (h : m_S σ) : q_Z σ 26 = 60 := h.2.2.2.2.2.2.2.2.2.2.2.2.1.2.2
theorem m_S.p17 (h : m_S σ) : q_P σ 14 17 = 27 := h.2.2.2.2.2.2.2.2.2.2.2.2.2.1.1
theorem m_S.k17 (h : m_S σ) : q_K σ 27 = 1000 := h.2.2.2.2.2.2.2.2.2.2.2.2.2.1.2.1
theorem m_S.z17 (h : m_S σ) : q_Z σ 27 = 10 := h.2.2.2.2.2.2.2.2.2.2.2.2.2.1.2.2
theorem m_S.p18 (h : m_S σ) : q_P σ 14 18 = 28 := h.2.2.2.2.2.2.2.2.2.2.2.2.2.2.1.1
theorem m_S.k18 (h : m_S σ) : q_K σ 28 = 1000 := h.2.2.2.2.2.2.2.2.2.2.2.2.2.2.1.2.1
theorem m_S.z18 (h : m_S σ) : q_Z σ 28 = 10 := h.2.2.2.2.2.2.2.2.2.2.2.2.2.2.1.2.2
theorem m_S.p19 (h : m_S σ) : q_P σ 14 19 = 29 := h.2.2.2.2.2.2.2.2.2.2.2.2.2.2.2.1.1
theorem m_S.k19 (h : m_S σ) : q_K σ 29 = 1000 := h.2.2.2.2.2.2.2.2.2.2.2.2.2.2.2.1.2.1
theorem m_S.z19 (h : m_S σ) : q_Z σ 29 = 40 := h.2.2.2.2.2.2.2.2.2.2.2.2.2.2.2.1.2.2
theorem m_S.p20 (h : m_S σ) : q_P σ 14 20 = 30 := h.2.2.2.2.2.2.2.2.2.2.2.2.2.2.2.2.1.1
theorem m_S.k20 (h : m_S σ) : q_K σ 30 = 1000 := h.2.2.2.2.2.2.2.2.2.2.2.2.2.2.2.2.1.2.1
theorem m_S.z20 (h : m_S σ) : q_Z σ 30 = 4 := h.2.2.2.2.2.2.2.2.2.2.2.2.2.2.2.2.1.2.2
theorem m_S.p21 (h : m_S σ) : q_P σ 14 21 = 31 := h.2.2.2.2.2.2.2.2.2.2.2.2.2.2.2.2.2.1.1
theorem m_S.k21 (h : m_S σ) : q_K σ 31 = 1001 := h.2.2.2.2.2.2.2.2.2.2.2.2.2.2.2.2.2.1.2.1
theorem m_S.z21 (h : m_S σ) : q_Z σ 31 = 192 := h.2.2.2.2.2.2.2.2.2.2.2.2.2.2.2.2.2.1.2.2
theorem m_S.p22 (h : m_S σ) : q_P σ 14 22 = 32 := h.2.2.2.2.2.2.2.2.2.2.2.2.2.2.2.2.2.2.1.1
theorem m_S.k22 (h : m_S σ) : q_K σ 32 = 1001 := h.2.2.2.2.2.2.2.2.2.2.2.2.2.2.2.2.2.2.1.2.1
theorem m_S.z22 (h : m_S σ) : q_Z σ 32 = 192 := h.2.2.2.2.2.2.2.2.2.2.2.2.2.2.2.2.2.2.1.2.2
theorem m_S.p23 (h : m_S σ) : q_P σ 14 23 = 33 := h.2.2.2.2.2.2.2.2.2.2.2.2.2.2.2.2.2.2.2.1.1
theorem m_S.k23 (h : m_S σ) : q_K σ 33 = 1000 := h.2.2.2.2.2.2.2.2.2.2.2.2.2.2.2.2.2.2.2.1.2.1
theorem m_S.z23 (h : m_S σ) : q_Z σ 33 = 8 := h.2.2.2.2.2.2.2.2.2.2.2.2.2.2.2.2.2.2.2.1.2.2
theorem m_S.p24 (h : m_S σ) : q_P σ 14 24 = 34 := h.2.2.2.2.2.2.2.2.2.2.2.2.2.2.2.2.2.2.2.2.1.1
theorem m_S.k24 (h : m_S σ) : q_K σ 34 = 1003 := h.2.2.2.2.2.2.2.2.2.2.2.2.2.2.2.2.2.2.2.2.1.2.1
theorem m_S.z24 (h : m_S σ) : q_Z σ 34 = 8 := h.2.2.2.2.2.2.2.2.2.2.2.2.2.2.2.2.2.2.2.2.1.2.2
theorem m_S.p25 (h : m_S σ) : q_P σ 14 25 = 35 := h.2.2.2.2.2.2.2.2.2.2.2.2.2.2.2.2.2.2.2.2.2.1.1
theorem m_S.k25 (h : m_S σ) : q_K σ 35 = 1000 := h.2.2.2.2.2.2.2.2.2.2.2.2.2.2.2.2.2.2.2.2.2.1.2.1
theorem m_S.z25 (h : m_S σ) : q_Z σ 35 = 8 := h.2.2.2.2.2.2.2.2.2.2.2.2.2.2.2.2.2.2.2.2.2.1.2.2
theorem m_S.p26 (h : m_S σ) : q_P σ 14 26 = 36 := h.2.2.2.2.2.2.2.2.2.2.2.2.2.2.2.2.2.2.2.2.2.2.1.1
theorem m_S.k26 (h : m_S σ) : q_K σ 36 = 1003 := h.2.2.2.2.2.2.2.2.2.2.2.2.2.2.2.2.2.2.2.2.2.2.1.2.1
theorem m_S.z26 (h : m_S σ) : q_Z σ 36 = 8 := h.2.2.2.2.2.2.2.2.2.2.2.2.2.2.2.2.2.2.2.2.2.2.1.2.2
theorem m_S.p27 (h : m_S σ) : q_P σ 14 27 = 37 := h.2.2.2.2.2.2.2.2.2.2.2.2.2.2.2.2.2.2.2.2.2.2.2.1.1
theorem m_S.k27 (h : m_S σ) : q_K σ 37 = 1003 := h.2.2.2.2.2.2.2.2.2.2.2.2.2.2.2.2.2.2.2.2.2.2.2.1.2.1
theorem m_S.z27 (h : m_S σ) : q_Z σ 37 = 8 := h.2.2.2.2.2.2.2.2.2.2.2.2.2.2.2.2.2.2.2.2.2.2.2.1.2.2
theorem m_S.p28 (h : m_S σ) : q_P σ 14 28 = 38 := h.2.2.2.2.2.2.2.2.2.2.2.2.2.2.2.2.2.2.2.2.2.2.2.2.1.1
theorem m_S.k28 (h : m_S σ) : q_K σ 38 = 1001 := h.2.2.2.2.2.2.2.2.2.2.2.2.2.2.2.2.2.2.2.2.2.2.2.2.1.2.1
theorem m_S.z28 (h : m_S σ) : q_Z σ 38 = 24 := h.2.2.2.2.2.2.2.2.2.2.2.2.2.2.2.2.2.2.2.2.2.2.2.2.1.2.2
theorem m_S.p29 (h : m_S σ) : q_P σ 14 29 = 39 := h.2.2.2.2.2.2.2.2.2.2.2.2.2.2.2.2.2.2.2.2.2.2.2.2.2.1.1
theorem m_S.k29 (h : m_S σ) : q_K σ 39 = 1001 := h.2.2.2.2.2.2.2.2.2.2.2.2.2.2.2.2.2.2.2.2.2.2.2.2.2.1.2.1
theorem m_S.z29 (h : m_S σ) : q_Z σ 39 = 24 := h.2.2.2.2.2.2.2.2.2.2.2.2.2.2.2.2.2.2.2.2.2.2.2.2.2.1.2.2
theorem m_S.p30 (h : m_S σ) : q_P σ 14 30 = 40 := h.2.2.2.2.2.2.2.2.2.2.2.2.2.2.2.2.2.2.2.2.2.2.2.2.2.2.1.1
theorem m_S.k30 (h : m_S σ) : q_K σ 40 = 1001 := h.2.2.2.2.2.2.2.2.2.2.2.2.2.2.2.2.2.2.2.2.2.2.2.2.2.2.1.2.1
theorem m_S.z30 (h : m_S σ) : q_Z σ 40 = 24 := h.2.2.2.2.2.2.2.2.2.2.2.2.2.2.2.2.2.2.2.2.2.2.2.2.2.2.1.2.2
theorem m_S.p31 (h : m_S σ) : q_P σ 14 31 = 41 := h.2.2.2.2.2.2.2.2.2.2.2.2.2.2.2.2.2.2.2.2.2.2.2.2.2.2.2.1
theorem m_S.k31 (h : m_S σ) : q_K σ 41 = 1001 := h.2.2.2.2.2.2.2.2.2.2.2.2.2.2.2.2.2.2.2.2.2.2.2.2.2.2.2.2.1
theorem m_S.z31 (h : m_S σ) : q_Z σ 41 = 24 := h.2.2.2.2.2.2.2.2.2.2.2.2.2.2.2.2.2.2.2.2.2.2.2.2.2.2.2.2.2
end MS
/-- numbers and words, by field and index -/
abbrev a_A : Type := (Nat → Nat → Nat) × (Nat → Nat → Int32) × (Nat → Nat → Nat) × (Nat → Nat → Nat) × (Nat → Nat → Int32) × (Nat → Nat → Int32)
abbrev a_ly (A : a_A) : Nat := A.1 0 0
abbrev a_N (A : a_A) : Nat := A.1 0 1
abbrev a_D (A : a_A) : Nat := A.1 0 2
abbrev a_E (A : a_A) : Nat := A.1 0 3
abbrev a_ru (A : a_A) (i : Nat) : Nat := A.1 1 i
abbrev a_rc (A : a_A) (i : Nat) : Nat := A.1 2 i
abbrev a_oc (A : a_A) (i : Nat) : Nat := A.1 3 i
abbrev a_hs (A : a_A) (i : Nat) : Nat := A.1 4 i
abbrev a_hw (A : a_A) (i : Nat) : Nat := A.1 5 i
abbrev a_is (A : a_A) (i : Nat) : Nat := A.1 6 i
abbrev a_pc (A : a_A) (i : Nat) : Nat := A.1 7 i
abbrev a_dx (A : a_A) (i : Nat) : Nat := A.1 8 i
abbrev a_dy (A : a_A) (i : Nat) : Nat := A.1 9 i
abbrev a_dr (A : a_A) (i : Nat) : Nat := A.1 10 i
abbrev a_px (A : a_A) (i : Nat) : Nat := A.1 11 i
abbrev a_py (A : a_A) (i : Nat) : Nat := A.1 12 i
abbrev a_pw (A : a_A) (i : Nat) : Nat := A.1 13 i
abbrev a_ph (A : a_A) (i : Nat) : Nat := A.1 14 i
abbrev a_ox (A : a_A) (i k : Nat) : Nat := A.2.2.1 i k
abbrev a_oy (A : a_A) (i k : Nat) : Nat := A.2.2.2.1 i k
abbrev a_nt (A : a_A) (i : Nat) : Int32 := A.2.1 0 i
abbrev a_la (A : a_A) (i : Nat) : Int32 := A.2.1 1 i
abbrev a_rk (A : a_A) (i : Nat) : Int32 := A.2.1 2 i
abbrev a_nw (A : a_A) (i : Nat) : Int32 := A.2.1 3 i
abbrev a_dn (A : a_A) (i : Nat) : Int32 := A.2.1 4 i
abbrev a_dl (A : a_A) (i : Nat) : Int32 := A.2.1 5 i
abbrev a_pn (A : a_A) (i : Nat) : Int32 := A.2.1 6 i
abbrev a_pl (A : a_A) (i : Nat) : Int32 := A.2.1 7 i
abbrev a_ou (A : a_A) (i y : Nat) : Int32 := A.2.2.2.2.1 i y
abbrev a_fi (A : a_A) (i y : Nat) : Int32 := A.2.2.2.2.2 i y
/-- off a pad by so much at most -/
def z_nr (px py pw ph off x y : Nat) : Prop := x < 32 ∧ px ≤ x + off ∧ x < px + pw + off ∧ py ≤ y + off ∧ y < py + ph + off
def z_mo (px py pw ph m x y : Nat) : Prop := z_nr px py pw ph m x y ∧ ¬ y = py + (ph - 1) / 2 ∧ ¬ z_nr px py pw ph 0 x y ∧ ¬ (x = px + (pw - 1) / 2 ∧ (y < py ∨ py + ph ≤ y))
theorem iI_div2 {n : Nat} (h : n < 1000) : iI n / 2 = iI ((n / 2 : Nat) : Int) := by
  have : ∀ n : Nat, n < 1000 → iI n / 2 = iI ((n / 2 : Nat) : Int) := by decide +kernel
  exact this n h
theorem z_near {σ : q_S} {a px py pw ph off y : Nat} (hx : q_I σ a 2 = nI px) (hy : q_I σ a 3 = nI py) (hw : q_I σ a 4 = nI pw) (hh : q_I σ a 5 = nI ph) (h1 : px + pw ≤ 32) (h2 : py + ph ≤ 24) (h3 : off < 100) (h4 : y < 100) (x : Nat) : bt (f_PP_near σ a (nI y) (nI off)) x = true ↔ z_nr px py pw ph off x y := by
  unfold f_PP_near z_nr
  rw [hx, hy, hw, hh]
  simp only [iI_nI, show (1 : Int32) = iI 1 from rfl, iI_sub, iI_add, iI_lt, iI_le]
  rw [iI_t (by omega) (by omega), iI_t (by omega) (by omega), iI_t (by omega) (by omega), i2l (by omega) (by omega), i2l (by omega) (by omega)]
  by_cases c1 : (y : Int) < py - off
  · rw [if_pos c1, b_0]; constructor
    · intro q; cases q
    · intro q; omega
  · rw [if_neg c1]
    by_cases c2 : (y : Int) ≤ py + ph - 1 + off
    · rw [if_pos c2, z_span, iL_t (by omega) (by omega), iL_t (by omega) (by omega)]; omega
    · rw [if_neg c2, b_0]; constructor
      · intro q; cases q
      · intro q; omega
theorem z_moat {σ : q_S} {a px py pw ph m y : Nat} (hx : q_I σ a 2 = nI px) (hy : q_I σ a 3 = nI py) (hw : q_I σ a 4 = nI pw) (hh : q_I σ a 5 = nI ph) (h1 : px + pw ≤ 32) (h2 : py + ph ≤ 24) (w1 : 1 ≤ pw) (w2 : 1 ≤ ph) (h3 : m < 100) (h4 : y < 100) (x : Nat) : bt (f_PP_moat σ a (nI y) (nI m)) x = true ↔ z_mo px py pw ph m x y := by
  have e0 : f_PP_near σ a (nI y) 0 = 0 ↔ ¬ (py ≤ y ∧ y < py + ph) := by
    rw [b_z]
    constructor
    · intro h q; exact h px ((z_near (off := 0) hx hy hw hh h1 h2 (by omega) h4 px).mpr ⟨by omega, by omega, by omega, by omega, by omega⟩)
    · intro h j hj
      obtain ⟨q1, q2, q3, q4, q5⟩ := (z_near (off := 0) hx hy hw hh h1 h2 (by omega) h4 j).mp hj
      exact h ⟨by omega, by omega⟩
  have eY : f_PP_middleY σ a = iI ((py + (ph - 1) / 2 : Nat) : Int) := by
    unfold f_PP_middleY
    rw [hy, hh]
    simp only [iI_nI, show (1 : Int32) = iI 1 from rfl, iI_sub]
    rw [show ((ph : Int) - 1) = ((ph - 1 : Nat) : Int) by omega, iI_div2 (by omega), iI_add]; congr 1
  have eX : f_PP_middleX σ a = iI ((px + (pw - 1) / 2 : Nat) : Int) := by
    unfold f_PP_middleX
    rw [hx, hw]
    simp only [iI_nI, show (1 : Int32) = iI 1 from rfl, iI_sub]
    rw [show ((pw : Int) - 1) = ((pw - 1 : Nat) : Int) by omega, iI_div2 (by omega), iI_add]; congr 1
  unfold f_PP_moat z_mo
  have ec : nI y = iI ((py + (ph - 1) / 2 : Nat) : Int) ↔ y = py + (ph - 1) / 2 := by
    rw [iI_eq, iI_nI, iI_t (by omega) (by omega), iI_t (by omega) (by omega)]; omega
  rw [eY, eX, i2l (by omega) (by omega)]
  have n1 := z_near (off := m) hx hy hw hh h1 h2 h3 h4 x
  have n0 := z_near (off := 0) hx hy hw hh h1 h2 (by omega) h4 x
  by_cases c1 : y = py + (ph - 1) / 2
  · rw [if_neg (fun q => q (ec.mpr c1)), b_0]; constructor
    · intro q; cases q
    · intro q; omega
  · rw [if_pos (fun q => c1 (ec.mp q))]
    by_cases c2 : py ≤ y ∧ y < py + ph
    · rw [if_neg (fun q => e0.mp q c2), b_an, n1, show (0 : Int32) = nI 0 from rfl, n0]
      constructor
      · rintro ⟨q1, q2⟩; exact ⟨q1, by omega, q2, by omega⟩
      · rintro ⟨q1, -, q2, -⟩; exact ⟨q1, q2⟩
    · rw [if_pos (e0.mpr c2), b_an, n1, z_span, iL_t (by omega) (by omega)]
      unfold z_nr
      constructor
      · rintro ⟨q1, q2⟩; exact ⟨q1, by omega, by omega, by omega⟩
      · rintro ⟨q1, -, -, q2⟩; exact ⟨q1, by omega⟩
/-- the cells of a spoke -/
def z_sk (px py pw ph m k x y : Nat) : Prop := x < 32 ∧ ((k = 0 ∧ y = py + (ph - 1) / 2 ∧ px + pw ≤ x ∧ x < px + pw + m) ∨ (k = 2 ∧ y = py + (ph - 1) / 2 ∧ x < px ∧ px ≤ x + m) ∨ (k = 1 ∧ x = px + (pw - 1) / 2 ∧ py + ph ≤ y ∧ y < py + ph + m) ∨ (k = 3 ∧ x = px + (pw - 1) / 2 ∧ y < py ∧ py ≤ y + m))
theorem v_spokeBits {σ : q_S} {ι : Nat → Nat → Int32} {κ : Nat → Nat → Int64} {p px py pw ph m k y : Nat} (hm : m_S σ) (hp : p < 10) (hx : ι 29 (4 * p) = nI px) (hy : ι 29 (4 * p + 1) = nI py) (hw : ι 29 (4 * p + 2) = nI pw) (hh : ι 29 (4 * p + 3) = nI ph) (hr : ι 30 1 = nI m) (h1 : px + pw ≤ 32) (h2 : py + ph ≤ 24) (w1 : 1 ≤ pw) (w2 : 1 ≤ ph) (h3 : m < 100) (h4 : y < 100) (h5 : k < 4) {R : q_O → q_S → Prop}
    (h : ∀ v : Int32, (∀ x, bt v x = true ↔ z_sk px py pw ph m k x y) → R (.inl (some (.inr (.inl (zx v))))) (q_put σ ι κ)) : V_PM_spokeBits 14 (nI p) (nI k) (nI y) (q_put σ ι κ) R := by
  intro P128 P156 P185 P186 P210 P211 h128 h156 h185 h186 h210 h211
  have e0 : (4 : Int32) * nI p = nI (4 * p) := pk_mul 4 p
  have e1 : nI (4 * p) + 1 = nI (4 * p + 1) := nI_add (4 * p) 1
  have e2 : nI (4 * p) + 2 = nI (4 * p + 2) := nI_add (4 * p) 2
  have e3 : nI (4 * p) + 3 = nI (4 * p + 3) := nI_add (4 * p) 3
  have c0 : (nI (4 * p)).toNatClampNeg = 4 * p := nI_clamp (by omega)
  have c1 : (nI (4 * p + 1)).toNatClampNeg = 4 * p + 1 := nI_clamp (by omega)
  have c2 : (nI (4 * p + 2)).toNatClampNeg = 4 * p + 2 := nI_clamp (by omega)
  have c3 : (nI (4 * p + 3)).toNatClampNeg = 4 * p + 3 := nI_clamp (by omega)
  have v0 : vp_in (nI (4 * p)) 40 := vp_in_nI (by omega) (by omega)
  have v1 : vp_in (nI (4 * p + 1)) 40 := vp_in_nI (by omega) (by omega)
  have v2 : vp_in (nI (4 * p + 2)) 40 := vp_in_nI (by omega) (by omega)
  have v3 : vp_in (nI (4 * p + 3)) 40 := vp_in_nI (by omega) (by omega)
  have v4 : vp_in 1 4 := vp_in_nI (n := 1) (by omega) (by omega)
  have d1 : (1 : Int32).toNatClampNeg = 1 := by decide
  have d2 : ¬ (2 : Int32) = 0 := by decide
  simp only [q_put_K, q_put_P, q_put_Z, q_put_I, hm.k, hm.p19, hm.k19, hm.z19, hm.p20, hm.k20, hm.z20, e0, e1, e2, e3, c0, c1, c2, c3, v0, v1, v2, v3, v4, d1, d2, not_false_eq_true, true_or, true_and, forall_eq, hx, hy, hw, hh, hr]
  have gX : nI px + (nI pw - 1) / 2 = iI ((px + (pw - 1) / 2 : Nat) : Int) := by
    simp only [iI_nI, show (1 : Int32) = iI 1 from rfl, iI_sub]
    rw [show ((pw : Int) - 1) = ((pw - 1 : Nat) : Int) by omega, iI_div2 (by omega), iI_add]; congr 1
  have gY : nI py + (nI ph - 1) / 2 = iI ((py + (ph - 1) / 2 : Nat) : Int) := by
    simp only [iI_nI, show (1 : Int32) = iI 1 from rfl, iI_sub]
    rw [show ((ph : Int) - 1) = ((ph - 1 : Nat) : Int) by omega, iI_div2 (by omega), iI_add]; congr 1
  rw [gX, gY]
  simp only [iI_nI, show (1 : Int32) = iI 1 from rfl, show (0 : Int32) = iI 0 from rfl, show (2 : Int32) = iI 2 from rfl, iI_sub, iI_add, iI_lt, iI_le, iI_eq]
  rw [iI_t (z := k) (by omega) (by omega), iI_t (z := (0 : Int)) (by omega) (by omega), iI_t (z := (1 : Int)) (by omega) (by omega), iI_t (z := (2 : Int)) (by omega) (by omega), iI_t (z := y) (by omega) (by omega), iI_t (z := py) (by omega) (by omega), iI_t (z := (py : Int) - m) (by omega) (by omega), iI_t (z := (py : Int) + ph - 1) (by omega) (by omega), iI_t (z := (py : Int) + ph - 1 + m) (by omega) (by omega), iI_t (z := ((py + (ph - 1) / 2 : Nat) : Int)) (by omega) (by omega)]
  have hz : (∀ x, ¬ z_sk px py pw ph m k x y) → R (.inl (some (.inr (.inl 0)))) (q_put σ ι κ) := fun q => by
    have := h 0 (fun x => by rw [b_0]; constructor; { intro q; cases q }; { intro q2; exact absurd q2 (q x) })
    rwa [zx_0] at this
  have hb : (∀ x, z_sk px py pw ph m k x y ↔ x = px + (pw - 1) / 2) → R (.inl (some (.inr (.inl (f_PM_bit (iI ((px + (pw - 1) / 2 : Nat) : Int))))))) (q_put σ ι κ) := fun q => by
    rw [z_bitZ, i2l (by omega) (by omega)]
    refine h _ fun x => ?_
    rw [q, z_span, iL_t (by omega) (by omega)]; omega
  refine br_c (fun q1 => br_c (fun q2 => br_c (fun q3 => br_c (fun q4 => h210 _ (h211 _ _ (hz fun x hx => ?_))) (fun q4 => br_c (fun q5 => h210 _ (h211 _ _ (hz fun x hx => ?_))) (fun q5 => h211 _ _ (hb fun x => ?_)))) (fun q3 => br_c (fun q4 => h185 _ (h186 _ _ (hz fun x hx => ?_))) (fun q4 => br_c (fun q5 => h185 _ (h186 _ _ (hz fun x hx => ?_))) (fun q5 => h186 _ _ (hb fun x => ?_))))) (fun q2 => br_c (fun q3 => h156 _ _ (hz fun x hx => ?_)) (fun q3 => v_span (by omega) (by omega) (by omega) (by omega) (h156 _ _ (h _ fun x => ?_))))) (fun q1 => br_c (fun q3 => h128 _ _ (hz fun x hx => ?_)) (fun q3 => v_span (by omega) (by omega) (by omega) (by omega) (h128 _ _ (h _ fun x => ?_))))
  · unfold z_sk at hx; omega
  · unfold z_sk at hx; omega
  · unfold z_sk; omega
  · unfold z_sk at hx; omega
  · unfold z_sk at hx; omega
  · unfold z_sk; omega
  · unfold z_sk at hx; omega
  · rw [z_sp_iff (by omega) (by omega) (by omega) (by omega)]; unfold z_sk; omega
  · unfold z_sk at hx; omega
  · rw [z_sp_iff (by omega) (by omega) (by omega) (by omega)]; unfold z_sk; omega
/-- what a pad bars to a plane -/
def z_pb (nl : Prop) (sm : Prop) (px py pw ph g m x y : Nat) : Prop := nl ∧ ((¬ sm ∧ z_nr px py pw ph g x y) ∨ (sm ∧ z_mo px py pw ph m x y))
theorem z_mo_sk {px py pw ph m x y : Nat} (h1 : px + pw ≤ 32) (h2 : py + ph ≤ 24) (w1 : 1 ≤ pw) (w2 : 1 ≤ ph) : z_mo px py pw ph m x y ↔ z_nr px py pw ph m x y ∧ ¬ z_nr px py pw ph 0 x y ∧ ∀ k, k < 4 → ¬ z_sk px py pw ph m k x y := by
  constructor
  · rintro ⟨q1, q2, q3, q4⟩
    refine ⟨q1, q3, fun k hk hs => ?_⟩
    unfold z_nr at q1
    unfold z_sk at hs
    omega
  · rintro ⟨q1, q2, q3⟩
    have s0 := q3 0 (by omega)
    have s1 := q3 1 (by omega)
    have s2 := q3 2 (by omega)
    have s3 := q3 3 (by omega)
    refine ⟨q1, ?_, q2, ?_⟩
    · unfold z_sk at s0 s2
      unfold z_nr at q1 q2
      omega
    · unfold z_sk at s1 s3
      unfold z_nr at q1
      omega
theorem v_barredByPad {σ : q_S} {ι : Nat → Nat → Int32} {κ : Nat → Nat → Int64} {q p px py pw ph g m y : Nat} (hm : m_S σ) (hq : q < 8) (hp : p < 10) (hx : ι 29 (4 * p) = nI px) (hy : ι 29 (4 * p + 1) = nI py) (hw : ι 29 (4 * p + 2) = nI pw) (hh : ι 29 (4 * p + 3) = nI ph) (hr0 : ι 30 0 = nI g) (hr : ι 30 1 = nI m) (h1 : px + pw ≤ 32) (h2 : py + ph ≤ 24) (w1 : 1 ≤ pw) (w2 : 1 ≤ ph) (h0 : g < 100) (h3 : m < 100) (h4 : y < 100) {R : q_O → q_S → Prop}
    (h : ∀ v : Int32, (∀ x, bt v x = true ↔ z_pb (ι 28 p = ι 16 q) (ι 27 p = ι 15 q) px py pw ph g m x y) → R (.inl (some (.inr (.inl (zx v))))) (q_put σ ι κ)) : V_PM_barredByPad 14 (nI q) (nI p) (nI y) (q_put σ ι κ) R := by
  intro P103 P173 h103 h173
  have e0 : (4 : Int32) * nI p = nI (4 * p) := pk_mul 4 p
  have e1 : nI (4 * p) + 1 = nI (4 * p + 1) := nI_add (4 * p) 1
  have e2 : nI (4 * p) + 2 = nI (4 * p + 2) := nI_add (4 * p) 2
  have e3 : nI (4 * p) + 3 = nI (4 * p + 3) := nI_add (4 * p) 3
  have c0 : (nI (4 * p)).toNatClampNeg = 4 * p := nI_clamp (by omega)
  have c1 : (nI (4 * p + 1)).toNatClampNeg = 4 * p + 1 := nI_clamp (by omega)
  have c2 : (nI (4 * p + 2)).toNatClampNeg = 4 * p + 2 := nI_clamp (by omega)
  have c3 : (nI (4 * p + 3)).toNatClampNeg = 4 * p + 3 := nI_clamp (by omega)
  have cp : (nI p).toNatClampNeg = p := nI_clamp (by omega)
  have cq : (nI q).toNatClampNeg = q := nI_clamp (by omega)
  have v0 : vp_in (nI (4 * p)) 40 := vp_in_nI (by omega) (by omega)
  have v1 : vp_in (nI (4 * p + 1)) 40 := vp_in_nI (by omega) (by omega)
  have v2 : vp_in (nI (4 * p + 2)) 40 := vp_in_nI (by omega) (by omega)
  have v3 : vp_in (nI (4 * p + 3)) 40 := vp_in_nI (by omega) (by omega)
  have vp : vp_in (nI p) 10 := vp_in_nI (by omega) (by omega)
  have vq : vp_in (nI q) 8 := vp_in_nI (by omega) (by omega)
  have v4 : vp_in 1 4 := vp_in_nI (n := 1) (by omega) (by omega)
  have v5 : vp_in 0 4 := vp_in_nI (n := 0) (by omega) (by omega)
  have d1 : (1 : Int32).toNatClampNeg = 1 := by decide
  have d0 : (0 : Int32).toNatClampNeg = 0 := by decide
  have g1 : nI px + nI pw - 1 = iI ((px : Int) + pw - 1) := by
    simp only [iI_nI, show (1 : Int32) = iI 1 from rfl, iI_sub, iI_add]
  have g2 : nI py + nI ph - 1 = iI ((py : Int) + ph - 1) := by
    simp only [iI_nI, show (1 : Int32) = iI 1 from rfl, iI_sub, iI_add]
  simp only [q_put_K, q_put_P, q_put_Z, q_put_I, hm.k, hm.p19, hm.k19, hm.z19, hm.p20, hm.k20, hm.z20, hm.p18, hm.k18, hm.z18, hm.p4, hm.k4, hm.z4, hm.p17, hm.k17, hm.z17, hm.p3, hm.k3, hm.z3, e0, e1, e2, e3, c0, c1, c2, c3, cp, cq, vp, vq, v0, v1, v2, v3, v4, v5, d1, d0, true_or, true_and, forall_eq, hx, hy, hw, hh, hr, hr0, g1, g2]
  refine br_c (fun q1 => br_c (fun q2 => h103 _ _ _ _ _ _ _ _ _ _ ?_) (fun q2 => h103 _ _ _ _ _ _ _ _ _ _ ?_)) (fun q1 => ?_)
  · simp only [iI_nI, iI_sub, iI_add]
    refine v_rect (by omega) (by omega) (by omega) (by omega) (by omega) (by omega) (by omega) (by omega) (by omega) (by omega) ?_
    simp only [q_cl', ← iI_nI, q_put_K, q_put_P, q_put_Z, q_put_I, hm.k, hm.p17, hm.k17, hm.z17, hm.p3, hm.k3, hm.z3, cp, cq, vp, vq, true_or, true_and]
    refine br_f q2 (h _ fun x => ?_)
    unfold z_pb z_nr
    by_cases c : (py : Int) - g ≤ y ∧ (y : Int) ≤ py + ph - 1 + g
    · rw [if_pos c, z_sp_iff (by omega) (by omega) (by omega) (by omega)]
      constructor
      · intro c2; exact ⟨q1, Or.inl ⟨q2, by omega⟩⟩
      · rintro ⟨-, c2 | c2⟩
        · omega
        · exact absurd c2.1 q2
    · rw [if_neg c, b_0]
      constructor
      · intro c2; cases c2
      · rintro ⟨-, c2 | c2⟩
        · omega
        · exact absurd c2.1 q2
  · have q2 : ι 27 p = ι 15 q := Decidable.not_not.mp q2
    simp only [iI_nI, iI_sub, iI_add]
    refine v_rect (by omega) (by omega) (by omega) (by omega) (by omega) (by omega) (by omega) (by omega) (by omega) (by omega) ?_
    simp only [q_cl', ← iI_nI, q_put_K, q_put_P, q_put_Z, q_put_I, hm.k, hm.p17, hm.k17, hm.z17, hm.p3, hm.k3, hm.z3, cp, cq, vp, vq, true_or, true_and]
    refine br_t q2 ?_
    simp only [iI_nI, iI_sub, iI_add]
    refine v_rect (by omega) (by omega) (by omega) (by omega) (by omega) (by omega) (by omega) (by omega) (by omega) (by omega) ?_
    simp only [q_cl', ← iI_nI]
    intro v16 e16
    rw [zx_andn] at e16
    rw [e16]
    have H : ∀ (d k : Nat) (v : Int32), k + d = 4 → (∀ x, bt v x = true ↔ z_nr px py pw ph m x y ∧ ¬ z_nr px py pw ph 0 x y ∧ ∀ j, j < k → ¬ z_sk px py pw ph m j x y) → P173 14 (nI p) (nI y) (zx v) (nI k) (q_put σ ι κ) := by
      intro d
      induction d with
      | zero =>
        intro k v hk hv
        refine h173 _ _ _ _ _ _ (pk_le 4 k (fun _ => h v fun x => ?_) (fun c => by omega))
        rw [hv]
        have hk : k = 4 := by omega
        subst hk
        unfold z_pb
        rw [z_mo_sk h1 h2 w1 w2]
        constructor
        · intro c; exact ⟨q1, Or.inr ⟨q2, c⟩⟩
        · rintro ⟨-, c | c⟩
          · exact absurd q2 c.1
          · exact c.2
      | succ d ih =>
        intro k v hk hv
        refine h173 _ _ _ _ _ _ (pk_le 4 k (fun c => by omega) (fun _ => ⟨hm.k, ?_⟩))
        refine v_spokeBits hm hp hx hy hw hh hr h1 h2 w1 w2 h3 h4 (by omega) ?_
        intro s hs v7 e7 v8 e8
        rw [zx_andn] at e7
        rw [nI_1] at e8
        subst e7 e8
        refine ih (k + 1) _ (by omega) (fun x => ?_)
        rw [b_an, hv, hs]
        constructor
        · rintro ⟨⟨c1, c2, c3⟩, c4⟩
          refine ⟨c1, c2, fun j hj => ?_⟩
          rcases Nat.lt_or_ge j k with c5 | c5
          · exact c3 j c5
          · have : j = k := by omega
            rw [this]; exact c4
        · rintro ⟨c1, c2, c3⟩
          exact ⟨⟨c1, c2, fun j hj => c3 j (by omega)⟩, c3 k (by omega)⟩
    refine H 4 0 _ rfl (fun x => ?_)
    rw [b_an]
    have f1 : ∀ off : Nat, off < 100 → (bt (if (py : Int) - off ≤ y ∧ (y : Int) ≤ py + ph - 1 + off then z_sp (px - off) (px + pw - 1 + off) else 0) x = true ↔ z_nr px py pw ph off x y) := by
      intro off ho
      unfold z_nr
      by_cases c : (py : Int) - off ≤ y ∧ (y : Int) ≤ py + ph - 1 + off
      · rw [if_pos c, z_sp_iff (by omega) (by omega) (by omega) (by omega)]; omega
      · rw [if_neg c, b_0]
        constructor
        · intro c2; cases c2
        · omega
    have f2 := f1 0 (by omega)
    simp only [Int.natCast_zero, Int.sub_zero, Int.add_zero] at f2
    rw [f1 m h3, f2]
    constructor
    · rintro ⟨c1, c2⟩; exact ⟨c1, c2, fun j hj => by omega⟩
    · rintro ⟨c1, c2, -⟩; exact ⟨c1, c2⟩
  · have := h 0 (fun x => by
      rw [b_0]
      constructor
      · intro c; cases c
      · intro c; exact absurd c.1 q1)
    rw [zx_0] at this
    exact this
