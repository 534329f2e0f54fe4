/-! WHAT THE LAW ASKS (by program: wip/whole/tools/gen28.py); k9: how many calls may still come -/
theorem q_tsI {l : Launch} {cx : q_C} {M : q_M} {fr lw kc ks pc : Nat} {lo : List (Nat × q_V)} {st : List q_V} {σ : q_S} {Q : q_O → q_S → Prop} {dflt : Int} {offs : Array Int} {len : Nat} {x : Int32} (i : Nat) {off : Int} {tgt : Nat} {y : Int32} (hd : decode M.2.1 pc = .ok (.tableswitch dflt 0 15 offs, len)) (hx : x = y) (hy : y.toInt = i ∧ i < 16) (ho : offs[i]? = some off) (ht : (pc : Int) + off = (tgt : Int))
    (h : q_G l cx M fr lw kc ks tgt lo st σ Q) : q_G l cx M fr lw kc ks pc lo (.inl x :: st) σ Q := by
  intro p e R s m args below meth c H locs cells slots ls X f1 f2 f3 f4 hR hS hl
  subst hx
  exact lv_tableIn X.1 X.2.1 hd (by rw [hy.1]; omega) (by rw [hy.1]; omega) (by rw [hy.1]; simpa using ho) ht (h p e R s m args below meth c H locs cells slots ls X f1 f2 f3 f4 hR hS hl)
theorem q_tsD {l : Launch} {cx : q_C} {M : q_M} {fr lw kc ks pc : Nat} {lo : List (Nat × q_V)} {st : List q_V} {σ : q_S} {Q : q_O → q_S → Prop} {dflt : Int} {offs : Array Int} {len : Nat} {x : Int32} {tgt : Nat} (hd : decode M.2.1 pc = .ok (.tableswitch dflt 0 15 offs, len)) (hx : x.toInt < 0 ∨ 15 < x.toInt) (ht : (pc : Int) + dflt = (tgt : Int))
    (h : q_G l cx M fr lw kc ks tgt lo st σ Q) : q_G l cx M fr lw kc ks pc lo (.inl x :: st) σ Q := by
  intro p e R s m args below meth c H locs cells slots ls X f1 f2 f3 f4 hR hS hl
  exact lv_tableOut X.1 X.2.1 hd hx ht (h p e R s m args below meth c H locs cells slots ls X f1 f2 f3 f4 hR hS hl)
def V_LW_law_33 (R : q_O → q_S → Prop) (P33 : Nat → Nat → Nat → Nat → Nat → Int32 → q_S → Prop) (P128 : Nat → Nat → Nat → Nat → Nat → Int32 → q_S → Prop) (P208 : Nat → Nat → Nat → Nat → Nat → Int32 → q_S → Prop) (P359 : Nat → Nat → Nat → Nat → Nat → Int32 → q_S → Prop) (P422 : Nat → Nat → Nat → Nat → Nat → Int32 → q_S → Prop) (P628 : Nat → Nat → Nat → Nat → Nat → Int32 → q_S → Prop) (P735 : Nat → Nat → Nat → Nat → Nat → Int32 → q_S → Prop) (P989 : Nat → Nat → Nat → Nat → Nat → Int32 → q_S → Prop) (P1002 : Nat → Nat → Nat → Nat → Nat → Int32 → q_S → Prop) (P1070 : Nat → Nat → Nat → Nat → Nat → Int32 → q_S → Prop) (P1173 : Nat → Nat → Nat → Nat → Nat → Int32 → q_S → Prop) (P1324 : Nat → Nat → Nat → Nat → Nat → Int32 → q_S → Prop) (P1380 : Nat → Nat → Nat → Nat → Nat → Int32 → q_S → Prop) (P1460 : Nat → Nat → Nat → Nat → Nat → Int32 → q_S → Prop) (P1560 : Nat → Nat → Nat → Nat → Nat → Int32 → q_S → Prop) (P1711 : Nat → Nat → Nat → Nat → Nat → Int32 → q_S → Prop) (P1906 : Nat → Nat → Nat → Nat → Nat → Int32 → q_S → Prop) (P1969 : Nat → Nat → Nat → Nat → Nat → Int32 → q_S → Prop) : Prop := ∀ (k9 : Nat) (x0 : Nat) (x1 : Nat) (x2 : Nat) (x3 : Nat) (x4 : Int32) (σ : q_S), (1000 ≤ q_K σ x0 ∧ ((((nI (q_Z σ x0)) - (11 : Int32)) < x4 → R (.inl (some (.inl (1 : Int32)))) σ) ∧ (¬ (((nI (q_Z σ x0)) - (11 : Int32)) < x4) → (q_K σ x0 = 1000 ∨ q_K σ x0 = 2000) ∧ vp_in x4 (q_Z σ x0) ∧ ((((q_I σ x0 x4.toNatClampNeg) &&& (15 : Int32)) = (0 : Int32) → P128 k9 x0 x1 x2 x3 x4 σ) ∧ (¬ ((q_I σ x0 x4.toNatClampNeg) &&& (15 : Int32)) = (0 : Int32) → ((((q_I σ x0 x4.toNatClampNeg) &&& (15 : Int32)) = (1 : Int32) → P208 k9 x0 x1 x2 x3 x4 σ) ∧ (¬ ((q_I σ x0 x4.toNatClampNeg) &&& (15 : Int32)) = (1 : Int32) → ((((q_I σ x0 x4.toNatClampNeg) &&& (15 : Int32)) = (2 : Int32) → P359 k9 x0 x1 x2 x3 x4 σ) ∧ (¬ ((q_I σ x0 x4.toNatClampNeg) &&& (15 : Int32)) = (2 : Int32) → ((((q_I σ x0 x4.toNatClampNeg) &&& (15 : Int32)) = (3 : Int32) → P422 k9 x0 x1 x2 x3 x4 σ) ∧ (¬ ((q_I σ x0 x4.toNatClampNeg) &&& (15 : Int32)) = (3 : Int32) → ((((q_I σ x0 x4.toNatClampNeg) &&& (15 : Int32)) = (4 : Int32) → P628 k9 x0 x1 x2 x3 x4 σ) ∧ (¬ ((q_I σ x0 x4.toNatClampNeg) &&& (15 : Int32)) = (4 : Int32) → ((((q_I σ x0 x4.toNatClampNeg) &&& (15 : Int32)) = (5 : Int32) → P735 k9 x0 x1 x2 x3 x4 σ) ∧ (¬ ((q_I σ x0 x4.toNatClampNeg) &&& (15 : Int32)) = (5 : Int32) → ((((q_I σ x0 x4.toNatClampNeg) &&& (15 : Int32)) = (6 : Int32) → P989 k9 x0 x1 x2 x3 x4 σ) ∧ (¬ ((q_I σ x0 x4.toNatClampNeg) &&& (15 : Int32)) = (6 : Int32) → ((((q_I σ x0 x4.toNatClampNeg) &&& (15 : Int32)) = (7 : Int32) → P1002 k9 x0 x1 x2 x3 x4 σ) ∧ (¬ ((q_I σ x0 x4.toNatClampNeg) &&& (15 : Int32)) = (7 : Int32) → ((((q_I σ x0 x4.toNatClampNeg) &&& (15 : Int32)) = (8 : Int32) → P1070 k9 x0 x1 x2 x3 x4 σ) ∧ (¬ ((q_I σ x0 x4.toNatClampNeg) &&& (15 : Int32)) = (8 : Int32) → ((((q_I σ x0 x4.toNatClampNeg) &&& (15 : Int32)) = (9 : Int32) → P1173 k9 x0 x1 x2 x3 x4 σ) ∧ (¬ ((q_I σ x0 x4.toNatClampNeg) &&& (15 : Int32)) = (9 : Int32) → ((((q_I σ x0 x4.toNatClampNeg) &&& (15 : Int32)) = (10 : Int32) → P1324 k9 x0 x1 x2 x3 x4 σ) ∧ (¬ ((q_I σ x0 x4.toNatClampNeg) &&& (15 : Int32)) = (10 : Int32) → ((((q_I σ x0 x4.toNatClampNeg) &&& (15 : Int32)) = (11 : Int32) → P1380 k9 x0 x1 x2 x3 x4 σ) ∧ (¬ ((q_I σ x0 x4.toNatClampNeg) &&& (15 : Int32)) = (11 : Int32) → ((((q_I σ x0 x4.toNatClampNeg) &&& (15 : Int32)) = (12 : Int32) → P1460 k9 x0 x1 x2 x3 x4 σ) ∧ (¬ ((q_I σ x0 x4.toNatClampNeg) &&& (15 : Int32)) = (12 : Int32) → ((((q_I σ x0 x4.toNatClampNeg) &&& (15 : Int32)) = (13 : Int32) → P1560 k9 x0 x1 x2 x3 x4 σ) ∧ (¬ ((q_I σ x0 x4.toNatClampNeg) &&& (15 : Int32)) = (13 : Int32) → ((((q_I σ x0 x4.toNatClampNeg) &&& (15 : Int32)) = (14 : Int32) → P1711 k9 x0 x1 x2 x3 x4 σ) ∧ (¬ ((q_I σ x0 x4.toNatClampNeg) &&& (15 : Int32)) = (14 : Int32) → ((((q_I σ x0 x4.toNatClampNeg) &&& (15 : Int32)) = (15 : Int32) → P1906 k9 x0 x1 x2 x3 x4 σ) ∧ (¬ ((q_I σ x0 x4.toNatClampNeg) &&& (15 : Int32)) = (15 : Int32) → (((q_I σ x0 x4.toNatClampNeg) &&& (15 : Int32)).toInt < 0 ∨ 15 < ((q_I σ x0 x4.toNatClampNeg) &&& (15 : Int32)).toInt) ∧ P1969 k9 x0 x1 x2 x3 x4 σ))))))))))))))))))))))))))))))))))) → P33 (k9 + 1) x0 x1 x2 x3 x4 σ
def V_LW_law_128 (R : q_O → q_S → Prop) (P128 : Nat → Nat → Nat → Nat → Nat → Int32 → q_S → Prop) (P205 : Nat → Nat → Nat → Nat → Nat → Int32 → q_S → Prop) : Prop := ∀ (k9 : Nat) (x0 : Nat) (x1 : Nat) (x2 : Nat) (x3 : Nat) (x4 : Int32) (σ : q_S), ((q_K σ x0 = 1000 ∨ q_K σ x0 = 2000) ∧ vp_in (x4 + (1 : Int32)) (q_Z σ x0) ∧ (q_K σ x0 = 1000 ∨ q_K σ x0 = 2000) ∧ vp_in (x4 + (2 : Int32)) (q_Z σ x0) ∧ (q_K σ x0 = 1000 ∨ q_K σ x0 = 2000) ∧ vp_in (x4 + (3 : Int32)) (q_Z σ x0) ∧ V_LW_plane x1 (q_I σ x0 (x4 + (1 : Int32)).toNatClampNeg) (q_I σ x0 (x4 + (2 : Int32)).toNatClampNeg) (q_I σ x0 (x4 + (3 : Int32)).toNatClampNeg) x3 σ (q_ci (fun v9 σ10 => (q_K σ10 x0 = 1000 ∨ q_K σ10 x0 = 2000) ∧ vp_in (x4 + (1 : Int32)) (q_Z σ10 x0) ∧ (q_K σ10 x0 = 1000 ∨ q_K σ10 x0 = 2000) ∧ vp_in (x4 + (2 : Int32)) (q_Z σ10 x0) ∧ (q_K σ10 x0 = 1000 ∨ q_K σ10 x0 = 2000) ∧ vp_in (x4 + (3 : Int32)) (q_Z σ10 x0) ∧ q_K σ10 x2 = 7 ∧ V_PM_plane x2 (q_I σ10 x0 (x4 + (1 : Int32)).toNatClampNeg) (q_I σ10 x0 (x4 + (2 : Int32)).toNatClampNeg) (q_I σ10 x0 (x4 + (3 : Int32)).toNatClampNeg) σ10 (q_ci (fun v20 σ21 => q_K σ21 x2 = 7 ∧ (((f_PM_thrown σ21 x2) = v9 → ((¬ v9 = (0 : Int32) → P205 k9 x0 x1 x2 x3 x4 σ21) ∧ (¬ (¬ v9 = (0 : Int32)) → q_K σ21 x3 = 1001 ∧ vp_in (0 : Int32) (q_Z σ21 x3) ∧ (((lg_cmp (q_L σ21 x3 (0 : Int32).toNatClampNeg) v20.toInt64) = (0 : Int32) → P205 k9 x0 x1 x2 x3 x4 σ21) ∧ (¬ ((lg_cmp (q_L σ21 x3 (0 : Int32).toNatClampNeg) v20.toInt64) = (0 : Int32)) → R (.inl (some (.inl (0 : Int32)))) σ21))))) ∧ (¬ ((f_PM_thrown σ21 x2) = v9) → R (.inl (some (.inl (0 : Int32)))) σ21))) (fun n9 σ9 => R (.inr n9) σ9))) (fun n9 σ9 => R (.inr n9) σ9))) → P128 (k9) x0 x1 x2 x3 x4 σ
def V_LW_law_205 (R : q_O → q_S → Prop) (P205 : Nat → Nat → Nat → Nat → Nat → Int32 → q_S → Prop) (P1969 : Nat → Nat → Nat → Nat → Nat → Int32 → q_S → Prop) : Prop := ∀ (k9 : Nat) (x0 : Nat) (x1 : Nat) (x2 : Nat) (x3 : Nat) (x4 : Int32) (σ : q_S), (P1969 k9 x0 x1 x2 x3 x4 σ) → P205 (k9) x0 x1 x2 x3 x4 σ
def V_LW_law_208 (R : q_O → q_S → Prop) (P208 : Nat → Nat → Nat → Nat → Nat → Int32 → q_S → Prop) (P350 : Nat → Nat → Nat → Nat → Nat → Int32 → Int64 → Int64 → q_S → Prop) (P356 : Nat → Nat → Nat → Nat → Nat → Int32 → q_S → Prop) : Prop := ∀ (k9 : Nat) (x0 : Nat) (x1 : Nat) (x2 : Nat) (x3 : Nat) (x4 : Int32) (σ : q_S), ((q_K σ x0 = 1000 ∨ q_K σ x0 = 2000) ∧ vp_in (x4 + (1 : Int32)) (q_Z σ x0) ∧ (q_K σ x0 = 1000 ∨ q_K σ x0 = 2000) ∧ vp_in (x4 + (2 : Int32)) (q_Z σ x0) ∧ (q_K σ x0 = 1000 ∨ q_K σ x0 = 2000) ∧ vp_in (x4 + (3 : Int32)) (q_Z σ x0) ∧ (q_K σ x0 = 1000 ∨ q_K σ x0 = 2000) ∧ vp_in (x4 + (4 : Int32)) (q_Z σ x0) ∧ (q_K σ x0 = 1000 ∨ q_K σ x0 = 2000) ∧ vp_in (x4 + (5 : Int32)) (q_Z σ x0) ∧ V_LW_corner x1 (q_I σ x0 (x4 + (1 : Int32)).toNatClampNeg) ((((q_I σ x0 (x4 + (2 : Int32)).toNatClampNeg).toInt64) <<< ((32 : Int32).toInt64 &&& 63)) ||| (((q_I σ x0 (x4 + (3 : Int32)).toNatClampNeg).toInt64) &&& (4294967295 : Int64))) ((((q_I σ x0 (x4 + (4 : Int32)).toNatClampNeg).toInt64) <<< ((32 : Int32).toInt64 &&& 63)) ||| (((q_I σ x0 (x4 + (5 : Int32)).toNatClampNeg).toInt64) &&& (4294967295 : Int64))) x3 σ (q_ci (fun v13 σ14 => (q_K σ14 x0 = 1000 ∨ q_K σ14 x0 = 2000) ∧ vp_in (x4 + (1 : Int32)) (q_Z σ14 x0) ∧ (q_K σ14 x0 = 1000 ∨ q_K σ14 x0 = 2000) ∧ vp_in (x4 + (2 : Int32)) (q_Z σ14 x0) ∧ (q_K σ14 x0 = 1000 ∨ q_K σ14 x0 = 2000) ∧ vp_in (x4 + (3 : Int32)) (q_Z σ14 x0) ∧ (q_K σ14 x0 = 1000 ∨ q_K σ14 x0 = 2000) ∧ vp_in (x4 + (4 : Int32)) (q_Z σ14 x0) ∧ (q_K σ14 x0 = 1000 ∨ q_K σ14 x0 = 2000) ∧ vp_in (x4 + (5 : Int32)) (q_Z σ14 x0) ∧ q_K σ14 x2 = 7 ∧ V_PM_corner x2 (q_I σ14 x0 (x4 + (1 : Int32)).toNatClampNeg) ((((q_I σ14 x0 (x4 + (2 : Int32)).toNatClampNeg).toInt64) <<< ((32 : Int32).toInt64 &&& 63)) ||| (((q_I σ14 x0 (x4 + (3 : Int32)).toNatClampNeg).toInt64) &&& (4294967295 : Int64))) ((((q_I σ14 x0 (x4 + (4 : Int32)).toNatClampNeg).toInt64) <<< ((32 : Int32).toInt64 &&& 63)) ||| (((q_I σ14 x0 (x4 + (5 : Int32)).toNatClampNeg).toInt64) &&& (4294967295 : Int64))) σ14 (q_ci (fun v28 σ29 => q_K σ29 x2 = 7 ∧ (((f_PM_thrown σ29 x2) = v13 → ((¬ v13 = (0 : Int32) → P356 k9 x0 x1 x2 x3 x4 σ29) ∧ (¬ (¬ v13 = (0 : Int32)) → q_K σ29 x3 = 1001 ∧ vp_in (0 : Int32) (q_Z σ29 x3) ∧ ((v28 = (0 : Int32) → P350 k9 x0 x1 x2 x3 x4 (0 : Int64) (q_L σ29 x3 (0 : Int32).toNatClampNeg) σ29) ∧ (¬ (v28 = (0 : Int32)) → P350 k9 x0 x1 x2 x3 x4 (1 : Int64) (q_L σ29 x3 (0 : Int32).toNatClampNeg) σ29))))) ∧ (¬ ((f_PM_thrown σ29 x2) = v13) → R (.inl (some (.inl (0 : Int32)))) σ29))) (fun n9 σ9 => R (.inr n9) σ9))) (fun n9 σ9 => R (.inr n9) σ9))) → P208 (k9) x0 x1 x2 x3 x4 σ
def V_LW_law_350 (R : q_O → q_S → Prop) (P350 : Nat → Nat → Nat → Nat → Nat → Int32 → Int64 → Int64 → q_S → Prop) (P356 : Nat → Nat → Nat → Nat → Nat → Int32 → q_S → Prop) : Prop := ∀ (k9 : Nat) (x0 : Nat) (x1 : Nat) (x2 : Nat) (x3 : Nat) (x4 : Int32) (y0 : Int64) (y1 : Int64) (σ : q_S), ((((lg_cmp y1 y0) = (0 : Int32) → P356 k9 x0 x1 x2 x3 x4 σ) ∧ (¬ ((lg_cmp y1 y0) = (0 : Int32)) → R (.inl (some (.inl (0 : Int32)))) σ))) → P350 (k9) x0 x1 x2 x3 x4 y0 y1 σ
def V_LW_law_356 (R : q_O → q_S → Prop) (P356 : Nat → Nat → Nat → Nat → Nat → Int32 → q_S → Prop) (P1969 : Nat → Nat → Nat → Nat → Nat → Int32 → q_S → Prop) : Prop := ∀ (k9 : Nat) (x0 : Nat) (x1 : Nat) (x2 : Nat) (x3 : Nat) (x4 : Int32) (σ : q_S), (P1969 k9 x0 x1 x2 x3 x4 σ) → P356 (k9) x0 x1 x2 x3 x4 σ
def V_LW_law_359 (R : q_O → q_S → Prop) (P359 : Nat → Nat → Nat → Nat → Nat → Int32 → q_S → Prop) (P413 : Nat → Nat → Nat → Nat → Nat → Int32 → Int64 → Int64 → q_S → Prop) (P419 : Nat → Nat → Nat → Nat → Nat → Int32 → q_S → Prop) : Prop := ∀ (k9 : Nat) (x0 : Nat) (x1 : Nat) (x2 : Nat) (x3 : Nat) (x4 : Int32) (σ : q_S), ((q_K σ x0 = 1000 ∨ q_K σ x0 = 2000) ∧ vp_in (x4 + (1 : Int32)) (q_Z σ x0) ∧ V_LW_ring x1 (q_I σ x0 (x4 + (1 : Int32)).toNatClampNeg) x3 σ (q_ci (fun v5 σ6 => (q_K σ6 x0 = 1000 ∨ q_K σ6 x0 = 2000) ∧ vp_in (x4 + (1 : Int32)) (q_Z σ6 x0) ∧ q_K σ6 x2 = 7 ∧ V_PM_ring x2 (q_I σ6 x0 (x4 + (1 : Int32)).toNatClampNeg) σ6 (q_ci (fun v12 σ13 => q_K σ13 x2 = 7 ∧ (((f_PM_thrown σ13 x2) = v5 → ((¬ v5 = (0 : Int32) → P419 k9 x0 x1 x2 x3 x4 σ13) ∧ (¬ (¬ v5 = (0 : Int32)) → q_K σ13 x3 = 1001 ∧ vp_in (0 : Int32) (q_Z σ13 x3) ∧ ((v12 = (0 : Int32) → P413 k9 x0 x1 x2 x3 x4 (0 : Int64) (q_L σ13 x3 (0 : Int32).toNatClampNeg) σ13) ∧ (¬ (v12 = (0 : Int32)) → P413 k9 x0 x1 x2 x3 x4 (1 : Int64) (q_L σ13 x3 (0 : Int32).toNatClampNeg) σ13))))) ∧ (¬ ((f_PM_thrown σ13 x2) = v5) → R (.inl (some (.inl (0 : Int32)))) σ13))) (fun n9 σ9 => R (.inr n9) σ9))) (fun n9 σ9 => R (.inr n9) σ9))) → P359 (k9) x0 x1 x2 x3 x4 σ
def V_LW_law_413 (R : q_O → q_S → Prop) (P413 : Nat → Nat → Nat → Nat → Nat → Int32 → Int64 → Int64 → q_S → Prop) (P419 : Nat → Nat → Nat → Nat → Nat → Int32 → q_S → Prop) : Prop := ∀ (k9 : Nat) (x0 : Nat) (x1 : Nat) (x2 : Nat) (x3 : Nat) (x4 : Int32) (y0 : Int64) (y1 : Int64) (σ : q_S), ((((lg_cmp y1 y0) = (0 : Int32) → P419 k9 x0 x1 x2 x3 x4 σ) ∧ (¬ ((lg_cmp y1 y0) = (0 : Int32)) → R (.inl (some (.inl (0 : Int32)))) σ))) → P413 (k9) x0 x1 x2 x3 x4 y0 y1 σ
def V_LW_law_419 (R : q_O → q_S → Prop) (P419 : Nat → Nat → Nat → Nat → Nat → Int32 → q_S → Prop) (P1969 : Nat → Nat → Nat → Nat → Nat → Int32 → q_S → Prop) : Prop := ∀ (k9 : Nat) (x0 : Nat) (x1 : Nat) (x2 : Nat) (x3 : Nat) (x4 : Int32) (σ : q_S), (P1969 k9 x0 x1 x2 x3 x4 σ) → P419 (k9) x0 x1 x2 x3 x4 σ
def V_LW_law_422 (R : q_O → q_S → Prop) (P422 : Nat → Nat → Nat → Nat → Nat → Int32 → q_S → Prop) (P625 : Nat → Nat → Nat → Nat → Nat → Int32 → q_S → Prop) : Prop := ∀ (k9 : Nat) (x0 : Nat) (x1 : Nat) (x2 : Nat) (x3 : Nat) (x4 : Int32) (σ : q_S), ((q_K σ x0 = 1000 ∨ q_K σ x0 = 2000) ∧ vp_in (x4 + (1 : Int32)) (q_Z σ x0) ∧ (q_K σ x0 = 1000 ∨ q_K σ x0 = 2000) ∧ vp_in (x4 + (2 : Int32)) (q_Z σ x0) ∧ (q_K σ x0 = 1000 ∨ q_K σ x0 = 2000) ∧ vp_in (x4 + (3 : Int32)) (q_Z σ x0) ∧ (q_K σ x0 = 1000 ∨ q_K σ x0 = 2000) ∧ vp_in (x4 + (4 : Int32)) (q_Z σ x0) ∧ (q_K σ x0 = 1000 ∨ q_K σ x0 = 2000) ∧ vp_in (x4 + (5 : Int32)) (q_Z σ x0) ∧ (q_K σ x0 = 1000 ∨ q_K σ x0 = 2000) ∧ vp_in (x4 + (6 : Int32)) (q_Z σ x0) ∧ (q_K σ x0 = 1000 ∨ q_K σ x0 = 2000) ∧ vp_in (x4 + (7 : Int32)) (q_Z σ x0) ∧ (q_K σ x0 = 1000 ∨ q_K σ x0 = 2000) ∧ vp_in (x4 + (8 : Int32)) (q_Z σ x0) ∧ V_LW_obstacle x1 (q_I σ x0 (x4 + (1 : Int32)).toNatClampNeg) (q_I σ x0 (x4 + (2 : Int32)).toNatClampNeg) ((((q_I σ x0 (x4 + (3 : Int32)).toNatClampNeg).toInt64) <<< ((32 : Int32).toInt64 &&& 63)) ||| (((q_I σ x0 (x4 + (4 : Int32)).toNatClampNeg).toInt64) &&& (4294967295 : Int64))) ((((q_I σ x0 (x4 + (5 : Int32)).toNatClampNeg).toInt64) <<< ((32 : Int32).toInt64 &&& 63)) ||| (((q_I σ x0 (x4 + (6 : Int32)).toNatClampNeg).toInt64) &&& (4294967295 : Int64))) ((((q_I σ x0 (x4 + (7 : Int32)).toNatClampNeg).toInt64) <<< ((32 : Int32).toInt64 &&& 63)) ||| (((q_I σ x0 (x4 + (8 : Int32)).toNatClampNeg).toInt64) &&& (4294967295 : Int64))) x3 σ (q_ci (fun v19 σ20 => (q_K σ20 x0 = 1000 ∨ q_K σ20 x0 = 2000) ∧ vp_in (x4 + (1 : Int32)) (q_Z σ20 x0) ∧ (q_K σ20 x0 = 1000 ∨ q_K σ20 x0 = 2000) ∧ vp_in (x4 + (2 : Int32)) (q_Z σ20 x0) ∧ (q_K σ20 x0 = 1000 ∨ q_K σ20 x0 = 2000) ∧ vp_in (x4 + (3 : Int32)) (q_Z σ20 x0) ∧ (q_K σ20 x0 = 1000 ∨ q_K σ20 x0 = 2000) ∧ vp_in (x4 + (4 : Int32)) (q_Z σ20 x0) ∧ (q_K σ20 x0 = 1000 ∨ q_K σ20 x0 = 2000) ∧ vp_in (x4 + (5 : Int32)) (q_Z σ20 x0) ∧ (q_K σ20 x0 = 1000 ∨ q_K σ20 x0 = 2000) ∧ vp_in (x4 + (6 : Int32)) (q_Z σ20 x0) ∧ (q_K σ20 x0 = 1000 ∨ q_K σ20 x0 = 2000) ∧ vp_in (x4 + (7 : Int32)) (q_Z σ20 x0) ∧ (q_K σ20 x0 = 1000 ∨ q_K σ20 x0 = 2000) ∧ vp_in (x4 + (8 : Int32)) (q_Z σ20 x0) ∧ q_K σ20 x2 = 7 ∧ V_PM_obstacle x2 (q_I σ20 x0 (x4 + (1 : Int32)).toNatClampNeg) (q_I σ20 x0 (x4 + (2 : Int32)).toNatClampNeg) ((((q_I σ20 x0 (x4 + (3 : Int32)).toNatClampNeg).toInt64) <<< ((32 : Int32).toInt64 &&& 63)) ||| (((q_I σ20 x0 (x4 + (4 : Int32)).toNatClampNeg).toInt64) &&& (4294967295 : Int64))) ((((q_I σ20 x0 (x4 + (5 : Int32)).toNatClampNeg).toInt64) <<< ((32 : Int32).toInt64 &&& 63)) ||| (((q_I σ20 x0 (x4 + (6 : Int32)).toNatClampNeg).toInt64) &&& (4294967295 : Int64))) ((((q_I σ20 x0 (x4 + (7 : Int32)).toNatClampNeg).toInt64) <<< ((32 : Int32).toInt64 &&& 63)) ||| (((q_I σ20 x0 (x4 + (8 : Int32)).toNatClampNeg).toInt64) &&& (4294967295 : Int64))) σ20 (q_ci (fun v40 σ41 => q_K σ41 x2 = 7 ∧ (((f_PM_thrown σ41 x2) = v19 → ((¬ v19 = (0 : Int32) → P625 k9 x0 x1 x2 x3 x4 σ41) ∧ (¬ (¬ v19 = (0 : Int32)) → q_K σ41 x3 = 1001 ∧ vp_in (0 : Int32) (q_Z σ41 x3) ∧ (((lg_cmp (q_L σ41 x3 (0 : Int32).toNatClampNeg) v40.toInt64) = (0 : Int32) → P625 k9 x0 x1 x2 x3 x4 σ41) ∧ (¬ ((lg_cmp (q_L σ41 x3 (0 : Int32).toNatClampNeg) v40.toInt64) = (0 : Int32)) → R (.inl (some (.inl (0 : Int32)))) σ41))))) ∧ (¬ ((f_PM_thrown σ41 x2) = v19) → R (.inl (some (.inl (0 : Int32)))) σ41))) (fun n9 σ9 => R (.inr n9) σ9))) (fun n9 σ9 => R (.inr n9) σ9))) → P422 (k9) x0 x1 x2 x3 x4 σ
def V_LW_law_625 (R : q_O → q_S → Prop) (P625 : Nat → Nat → Nat → Nat → Nat → Int32 → q_S → Prop) (P1969 : Nat → Nat → Nat → Nat → Nat → Int32 → q_S → Prop) : Prop := ∀ (k9 : Nat) (x0 : Nat) (x1 : Nat) (x2 : Nat) (x3 : Nat) (x4 : Int32) (σ : q_S), (P1969 k9 x0 x1 x2 x3 x4 σ) → P625 (k9) x0 x1 x2 x3 x4 σ
def V_LW_law_628 (R : q_O → q_S → Prop) (P628 : Nat → Nat → Nat → Nat → Nat → Int32 → q_S → Prop) (P726 : Nat → Nat → Nat → Nat → Nat → Int32 → Int64 → Int64 → q_S → Prop) (P732 : Nat → Nat → Nat → Nat → Nat → Int32 → q_S → Prop) : Prop := ∀ (k9 : Nat) (x0 : Nat) (x1 : Nat) (x2 : Nat) (x3 : Nat) (x4 : Int32) (σ : q_S), ((q_K σ x0 = 1000 ∨ q_K σ x0 = 2000) ∧ vp_in (x4 + (1 : Int32)) (q_Z σ x0) ∧ (q_K σ x0 = 1000 ∨ q_K σ x0 = 2000) ∧ vp_in (x4 + (2 : Int32)) (q_Z σ x0) ∧ (q_K σ x0 = 1000 ∨ q_K σ x0 = 2000) ∧ vp_in (x4 + (3 : Int32)) (q_Z σ x0) ∧ V_LW_rule x1 (q_I σ x0 (x4 + (1 : Int32)).toNatClampNeg) ((((q_I σ x0 (x4 + (2 : Int32)).toNatClampNeg).toInt64) <<< ((32 : Int32).toInt64 &&& 63)) ||| (((q_I σ x0 (x4 + (3 : Int32)).toNatClampNeg).toInt64) &&& (4294967295 : Int64))) x3 σ (q_ci (fun v9 σ10 => (q_K σ10 x0 = 1000 ∨ q_K σ10 x0 = 2000) ∧ vp_in (x4 + (1 : Int32)) (q_Z σ10 x0) ∧ (q_K σ10 x0 = 1000 ∨ q_K σ10 x0 = 2000) ∧ vp_in (x4 + (2 : Int32)) (q_Z σ10 x0) ∧ (q_K σ10 x0 = 1000 ∨ q_K σ10 x0 = 2000) ∧ vp_in (x4 + (3 : Int32)) (q_Z σ10 x0) ∧ q_K σ10 x2 = 7 ∧ V_PM_rule x2 (q_I σ10 x0 (x4 + (1 : Int32)).toNatClampNeg) ((((q_I σ10 x0 (x4 + (2 : Int32)).toNatClampNeg).toInt64) <<< ((32 : Int32).toInt64 &&& 63)) ||| (((q_I σ10 x0 (x4 + (3 : Int32)).toNatClampNeg).toInt64) &&& (4294967295 : Int64))) σ10 (q_ci (fun v20 σ21 => q_K σ21 x2 = 7 ∧ (((f_PM_thrown σ21 x2) = v9 → ((¬ v9 = (0 : Int32) → P732 k9 x0 x1 x2 x3 x4 σ21) ∧ (¬ (¬ v9 = (0 : Int32)) → q_K σ21 x3 = 1001 ∧ vp_in (0 : Int32) (q_Z σ21 x3) ∧ ((v20 = (0 : Int32) → P726 k9 x0 x1 x2 x3 x4 (0 : Int64) (q_L σ21 x3 (0 : Int32).toNatClampNeg) σ21) ∧ (¬ (v20 = (0 : Int32)) → P726 k9 x0 x1 x2 x3 x4 (1 : Int64) (q_L σ21 x3 (0 : Int32).toNatClampNeg) σ21))))) ∧ (¬ ((f_PM_thrown σ21 x2) = v9) → R (.inl (some (.inl (0 : Int32)))) σ21))) (fun n9 σ9 => R (.inr n9) σ9))) (fun n9 σ9 => R (.inr n9) σ9))) → P628 (k9) x0 x1 x2 x3 x4 σ
def V_LW_law_726 (R : q_O → q_S → Prop) (P726 : Nat → Nat → Nat → Nat → Nat → Int32 → Int64 → Int64 → q_S → Prop) (P732 : Nat → Nat → Nat → Nat → Nat → Int32 → q_S → Prop) : Prop := ∀ (k9 : Nat) (x0 : Nat) (x1 : Nat) (x2 : Nat) (x3 : Nat) (x4 : Int32) (y0 : Int64) (y1 : Int64) (σ : q_S), ((((lg_cmp y1 y0) = (0 : Int32) → P732 k9 x0 x1 x2 x3 x4 σ) ∧ (¬ ((lg_cmp y1 y0) = (0 : Int32)) → R (.inl (some (.inl (0 : Int32)))) σ))) → P726 (k9) x0 x1 x2 x3 x4 y0 y1 σ
def V_LW_law_732 (R : q_O → q_S → Prop) (P732 : Nat → Nat → Nat → Nat → Nat → Int32 → q_S → Prop) (P1969 : Nat → Nat → Nat → Nat → Nat → Int32 → q_S → Prop) : Prop := ∀ (k9 : Nat) (x0 : Nat) (x1 : Nat) (x2 : Nat) (x3 : Nat) (x4 : Int32) (σ : q_S), (P1969 k9 x0 x1 x2 x3 x4 σ) → P732 (k9) x0 x1 x2 x3 x4 σ
def V_LW_law_735 (R : q_O → q_S → Prop) (P735 : Nat → Nat → Nat → Nat → Nat → Int32 → q_S → Prop) (P986 : Nat → Nat → Nat → Nat → Nat → Int32 → q_S → Prop) : Prop := ∀ (k9 : Nat) (x0 : Nat) (x1 : Nat) (x2 : Nat) (x3 : Nat) (x4 : Int32) (σ : q_S), ((q_K σ x0 = 1000 ∨ q_K σ x0 = 2000) ∧ vp_in (x4 + (1 : Int32)) (q_Z σ x0) ∧ (q_K σ x0 = 1000 ∨ q_K σ x0 = 2000) ∧ vp_in (x4 + (2 : Int32)) (q_Z σ x0) ∧ (q_K σ x0 = 1000 ∨ q_K σ x0 = 2000) ∧ vp_in (x4 + (3 : Int32)) (q_Z σ x0) ∧ (q_K σ x0 = 1000 ∨ q_K σ x0 = 2000) ∧ vp_in (x4 + (4 : Int32)) (q_Z σ x0) ∧ (q_K σ x0 = 1000 ∨ q_K σ x0 = 2000) ∧ vp_in (x4 + (5 : Int32)) (q_Z σ x0) ∧ (q_K σ x0 = 1000 ∨ q_K σ x0 = 2000) ∧ vp_in (x4 + (6 : Int32)) (q_Z σ x0) ∧ (q_K σ x0 = 1000 ∨ q_K σ x0 = 2000) ∧ vp_in (x4 + (7 : Int32)) (q_Z σ x0) ∧ (q_K σ x0 = 1000 ∨ q_K σ x0 = 2000) ∧ vp_in (x4 + (8 : Int32)) (q_Z σ x0) ∧ (q_K σ x0 = 1000 ∨ q_K σ x0 = 2000) ∧ vp_in (x4 + (9 : Int32)) (q_Z σ x0) ∧ (q_K σ x0 = 1000 ∨ q_K σ x0 = 2000) ∧ vp_in (x4 + (10 : Int32)) (q_Z σ x0) ∧ V_LW_pad x1 (q_I σ x0 (x4 + (1 : Int32)).toNatClampNeg) (q_I σ x0 (x4 + (2 : Int32)).toNatClampNeg) ((((q_I σ x0 (x4 + (3 : Int32)).toNatClampNeg).toInt64) <<< ((32 : Int32).toInt64 &&& 63)) ||| (((q_I σ x0 (x4 + (4 : Int32)).toNatClampNeg).toInt64) &&& (4294967295 : Int64))) ((((q_I σ x0 (x4 + (5 : Int32)).toNatClampNeg).toInt64) <<< ((32 : Int32).toInt64 &&& 63)) ||| (((q_I σ x0 (x4 + (6 : Int32)).toNatClampNeg).toInt64) &&& (4294967295 : Int64))) ((((q_I σ x0 (x4 + (7 : Int32)).toNatClampNeg).toInt64) <<< ((32 : Int32).toInt64 &&& 63)) ||| (((q_I σ x0 (x4 + (8 : Int32)).toNatClampNeg).toInt64) &&& (4294967295 : Int64))) ((((q_I σ x0 (x4 + (9 : Int32)).toNatClampNeg).toInt64) <<< ((32 : Int32).toInt64 &&& 63)) ||| (((q_I σ x0 (x4 + (10 : Int32)).toNatClampNeg).toInt64) &&& (4294967295 : Int64))) x3 σ (q_ci (fun v23 σ24 => (q_K σ24 x0 = 1000 ∨ q_K σ24 x0 = 2000) ∧ vp_in (x4 + (1 : Int32)) (q_Z σ24 x0) ∧ (q_K σ24 x0 = 1000 ∨ q_K σ24 x0 = 2000) ∧ vp_in (x4 + (2 : Int32)) (q_Z σ24 x0) ∧ (q_K σ24 x0 = 1000 ∨ q_K σ24 x0 = 2000) ∧ vp_in (x4 + (3 : Int32)) (q_Z σ24 x0) ∧ (q_K σ24 x0 = 1000 ∨ q_K σ24 x0 = 2000) ∧ vp_in (x4 + (4 : Int32)) (q_Z σ24 x0) ∧ (q_K σ24 x0 = 1000 ∨ q_K σ24 x0 = 2000) ∧ vp_in (x4 + (5 : Int32)) (q_Z σ24 x0) ∧ (q_K σ24 x0 = 1000 ∨ q_K σ24 x0 = 2000) ∧ vp_in (x4 + (6 : Int32)) (q_Z σ24 x0) ∧ (q_K σ24 x0 = 1000 ∨ q_K σ24 x0 = 2000) ∧ vp_in (x4 + (7 : Int32)) (q_Z σ24 x0) ∧ (q_K σ24 x0 = 1000 ∨ q_K σ24 x0 = 2000) ∧ vp_in (x4 + (8 : Int32)) (q_Z σ24 x0) ∧ (q_K σ24 x0 = 1000 ∨ q_K σ24 x0 = 2000) ∧ vp_in (x4 + (9 : Int32)) (q_Z σ24 x0) ∧ (q_K σ24 x0 = 1000 ∨ q_K σ24 x0 = 2000) ∧ vp_in (x4 + (10 : Int32)) (q_Z σ24 x0) ∧ q_K σ24 x2 = 7 ∧ V_PM_pad x2 (q_I σ24 x0 (x4 + (1 : Int32)).toNatClampNeg) (q_I σ24 x0 (x4 + (2 : Int32)).toNatClampNeg) ((((q_I σ24 x0 (x4 + (3 : Int32)).toNatClampNeg).toInt64) <<< ((32 : Int32).toInt64 &&& 63)) ||| (((q_I σ24 x0 (x4 + (4 : Int32)).toNatClampNeg).toInt64) &&& (4294967295 : Int64))) ((((q_I σ24 x0 (x4 + (5 : Int32)).toNatClampNeg).toInt64) <<< ((32 : Int32).toInt64 &&& 63)) ||| (((q_I σ24 x0 (x4 + (6 : Int32)).toNatClampNeg).toInt64) &&& (4294967295 : Int64))) ((((q_I σ24 x0 (x4 + (7 : Int32)).toNatClampNeg).toInt64) <<< ((32 : Int32).toInt64 &&& 63)) ||| (((q_I σ24 x0 (x4 + (8 : Int32)).toNatClampNeg).toInt64) &&& (4294967295 : Int64))) ((((q_I σ24 x0 (x4 + (9 : Int32)).toNatClampNeg).toInt64) <<< ((32 : Int32).toInt64 &&& 63)) ||| (((q_I σ24 x0 (x4 + (10 : Int32)).toNatClampNeg).toInt64) &&& (4294967295 : Int64))) σ24 (q_ci (fun v48 σ49 => q_K σ49 x2 = 7 ∧ (((f_PM_thrown σ49 x2) = v23 → ((¬ v23 = (0 : Int32) → P986 k9 x0 x1 x2 x3 x4 σ49) ∧ (¬ (¬ v23 = (0 : Int32)) → q_K σ49 x3 = 1001 ∧ vp_in (0 : Int32) (q_Z σ49 x3) ∧ (((lg_cmp (q_L σ49 x3 (0 : Int32).toNatClampNeg) v48.toInt64) = (0 : Int32) → P986 k9 x0 x1 x2 x3 x4 σ49) ∧ (¬ ((lg_cmp (q_L σ49 x3 (0 : Int32).toNatClampNeg) v48.toInt64) = (0 : Int32)) → R (.inl (some (.inl (0 : Int32)))) σ49))))) ∧ (¬ ((f_PM_thrown σ49 x2) = v23) → R (.inl (some (.inl (0 : Int32)))) σ49))) (fun n9 σ9 => R (.inr n9) σ9))) (fun n9 σ9 => R (.inr n9) σ9))) → P735 (k9) x0 x1 x2 x3 x4 σ
def V_LW_law_986 (R : q_O → q_S → Prop) (P986 : Nat → Nat → Nat → Nat → Nat → Int32 → q_S → Prop) (P1969 : Nat → Nat → Nat → Nat → Nat → Int32 → q_S → Prop) : Prop := ∀ (k9 : Nat) (x0 : Nat) (x1 : Nat) (x2 : Nat) (x3 : Nat) (x4 : Int32) (σ : q_S), (P1969 k9 x0 x1 x2 x3 x4 σ) → P986 (k9) x0 x1 x2 x3 x4 σ
def V_LW_law_989 (R : q_O → q_S → Prop) (P989 : Nat → Nat → Nat → Nat → Nat → Int32 → q_S → Prop) (P1969 : Nat → Nat → Nat → Nat → Nat → Int32 → q_S → Prop) : Prop := ∀ (k9 : Nat) (x0 : Nat) (x1 : Nat) (x2 : Nat) (x3 : Nat) (x4 : Int32) (σ : q_S), (q_K σ x1 = 1 ∧ V_PF_fill x1 σ (q_ci (fun v4 σ5 => q_K σ5 x2 = 7 ∧ V_PM_fill x2 σ5 (q_ci (fun v9 σ10 => ((v4 = v9 → P1969 k9 x0 x1 x2 x3 x4 σ10) ∧ (¬ (v4 = v9) → R (.inl (some (.inl (0 : Int32)))) σ10))) (fun n9 σ9 => R (.inr n9) σ9))) (fun n9 σ9 => R (.inr n9) σ9))) → P989 (k9) x0 x1 x2 x3 x4 σ
def V_LW_law_1002 (R : q_O → q_S → Prop) (P1002 : Nat → Nat → Nat → Nat → Nat → Int32 → q_S → Prop) (P1067 : Nat → Nat → Nat → Nat → Nat → Int32 → q_S → Prop) : Prop := ∀ (k9 : Nat) (x0 : Nat) (x1 : Nat) (x2 : Nat) (x3 : Nat) (x4 : Int32) (σ : q_S), ((q_K σ x0 = 1000 ∨ q_K σ x0 = 2000) ∧ vp_in (x4 + (1 : Int32)) (q_Z σ x0) ∧ (q_K σ x0 = 1000 ∨ q_K σ x0 = 2000) ∧ vp_in (x4 + (2 : Int32)) (q_Z σ x0) ∧ V_LW_rings x1 (q_I σ x0 (x4 + (1 : Int32)).toNatClampNeg) (q_I σ x0 (x4 + (2 : Int32)).toNatClampNeg) x3 σ (q_ci (fun v7 σ8 => (q_K σ8 x0 = 1000 ∨ q_K σ8 x0 = 2000) ∧ vp_in (x4 + (1 : Int32)) (q_Z σ8 x0) ∧ (q_K σ8 x0 = 1000 ∨ q_K σ8 x0 = 2000) ∧ vp_in (x4 + (2 : Int32)) (q_Z σ8 x0) ∧ q_K σ8 x2 = 7 ∧ V_PM_rings x2 (q_I σ8 x0 (x4 + (1 : Int32)).toNatClampNeg) (q_I σ8 x0 (x4 + (2 : Int32)).toNatClampNeg) σ8 (q_ci (fun v16 σ17 => q_K σ17 x2 = 7 ∧ (((f_PM_thrown σ17 x2) = v7 → ((¬ v7 = (0 : Int32) → P1067 k9 x0 x1 x2 x3 x4 σ17) ∧ (¬ (¬ v7 = (0 : Int32)) → q_K σ17 x3 = 1001 ∧ vp_in (0 : Int32) (q_Z σ17 x3) ∧ (((lg_cmp (q_L σ17 x3 (0 : Int32).toNatClampNeg) v16.toInt64) = (0 : Int32) → P1067 k9 x0 x1 x2 x3 x4 σ17) ∧ (¬ ((lg_cmp (q_L σ17 x3 (0 : Int32).toNatClampNeg) v16.toInt64) = (0 : Int32)) → R (.inl (some (.inl (0 : Int32)))) σ17))))) ∧ (¬ ((f_PM_thrown σ17 x2) = v7) → R (.inl (some (.inl (0 : Int32)))) σ17))) (fun n9 σ9 => R (.inr n9) σ9))) (fun n9 σ9 => R (.inr n9) σ9))) → P1002 (k9) x0 x1 x2 x3 x4 σ
def V_LW_law_1067 (R : q_O → q_S → Prop) (P1067 : Nat → Nat → Nat → Nat → Nat → Int32 → q_S → Prop) (P1969 : Nat → Nat → Nat → Nat → Nat → Int32 → q_S → Prop) : Prop := ∀ (k9 : Nat) (x0 : Nat) (x1 : Nat) (x2 : Nat) (x3 : Nat) (x4 : Int32) (σ : q_S), (P1969 k9 x0 x1 x2 x3 x4 σ) → P1067 (k9) x0 x1 x2 x3 x4 σ
def V_LW_law_1070 (R : q_O → q_S → Prop) (P1070 : Nat → Nat → Nat → Nat → Nat → Int32 → q_S → Prop) (P1170 : Nat → Nat → Nat → Nat → Nat → Int32 → q_S → Prop) : Prop := ∀ (k9 : Nat) (x0 : Nat) (x1 : Nat) (x2 : Nat) (x3 : Nat) (x4 : Int32) (σ : q_S), ((q_K σ x0 = 1000 ∨ q_K σ x0 = 2000) ∧ vp_in (x4 + (1 : Int32)) (q_Z σ x0) ∧ (q_K σ x0 = 1000 ∨ q_K σ x0 = 2000) ∧ vp_in (x4 + (2 : Int32)) (q_Z σ x0) ∧ (q_K σ x0 = 1000 ∨ q_K σ x0 = 2000) ∧ vp_in (x4 + (3 : Int32)) (q_Z σ x0) ∧ (q_K σ x0 = 1000 ∨ q_K σ x0 = 2000) ∧ vp_in (x4 + (4 : Int32)) (q_Z σ x0) ∧ (q_K σ x0 = 1000 ∨ q_K σ x0 = 2000) ∧ vp_in (x4 + (5 : Int32)) (q_Z σ x0) ∧ V_LW_at x1 (q_I σ x0 (x4 + (1 : Int32)).toNatClampNeg) (q_I σ x0 (x4 + (2 : Int32)).toNatClampNeg) (q_I σ x0 (x4 + (3 : Int32)).toNatClampNeg) (q_I σ x0 (x4 + (4 : Int32)).toNatClampNeg) (q_I σ x0 (x4 + (5 : Int32)).toNatClampNeg) x3 σ (q_ci (fun v13 σ14 => (q_K σ14 x0 = 1000 ∨ q_K σ14 x0 = 2000) ∧ vp_in (x4 + (1 : Int32)) (q_Z σ14 x0) ∧ (q_K σ14 x0 = 1000 ∨ q_K σ14 x0 = 2000) ∧ vp_in (x4 + (2 : Int32)) (q_Z σ14 x0) ∧ (q_K σ14 x0 = 1000 ∨ q_K σ14 x0 = 2000) ∧ vp_in (x4 + (3 : Int32)) (q_Z σ14 x0) ∧ (q_K σ14 x0 = 1000 ∨ q_K σ14 x0 = 2000) ∧ vp_in (x4 + (4 : Int32)) (q_Z σ14 x0) ∧ (q_K σ14 x0 = 1000 ∨ q_K σ14 x0 = 2000) ∧ vp_in (x4 + (5 : Int32)) (q_Z σ14 x0) ∧ q_K σ14 x2 = 7 ∧ V_PM_at x2 (q_I σ14 x0 (x4 + (1 : Int32)).toNatClampNeg) (q_I σ14 x0 (x4 + (2 : Int32)).toNatClampNeg) (q_I σ14 x0 (x4 + (3 : Int32)).toNatClampNeg) (q_I σ14 x0 (x4 + (4 : Int32)).toNatClampNeg) (q_I σ14 x0 (x4 + (5 : Int32)).toNatClampNeg) σ14 (q_cl' (fun v28 σ29 => q_K σ29 x2 = 7 ∧ (((f_PM_thrown σ29 x2) = v13 → ((¬ v13 = (0 : Int32) → P1170 k9 x0 x1 x2 x3 x4 σ29) ∧ (¬ (¬ v13 = (0 : Int32)) → q_K σ29 x3 = 1001 ∧ vp_in (0 : Int32) (q_Z σ29 x3) ∧ (((lg_cmp (q_L σ29 x3 (0 : Int32).toNatClampNeg) v28) = (0 : Int32) → P1170 k9 x0 x1 x2 x3 x4 σ29) ∧ (¬ ((lg_cmp (q_L σ29 x3 (0 : Int32).toNatClampNeg) v28) = (0 : Int32)) → R (.inl (some (.inl (0 : Int32)))) σ29))))) ∧ (¬ ((f_PM_thrown σ29 x2) = v13) → R (.inl (some (.inl (0 : Int32)))) σ29))) (fun n9 σ9 => R (.inr n9) σ9))) (fun n9 σ9 => R (.inr n9) σ9))) → P1070 (k9) x0 x1 x2 x3 x4 σ
def V_LW_law_1170 (R : q_O → q_S → Prop) (P1170 : Nat → Nat → Nat → Nat → Nat → Int32 → q_S → Prop) (P1969 : Nat → Nat → Nat → Nat → Nat → Int32 → q_S → Prop) : Prop := ∀ (k9 : Nat) (x0 : Nat) (x1 : Nat) (x2 : Nat) (x3 : Nat) (x4 : Int32) (σ : q_S), (P1969 k9 x0 x1 x2 x3 x4 σ) → P1170 (k9) x0 x1 x2 x3 x4 σ
def V_LW_law_1173 (R : q_O → q_S → Prop) (P1173 : Nat → Nat → Nat → Nat → Nat → Int32 → q_S → Prop) (P1315 : Nat → Nat → Nat → Nat → Nat → Int32 → Int64 → Int64 → q_S → Prop) (P1321 : Nat → Nat → Nat → Nat → Nat → Int32 → q_S → Prop) : Prop := ∀ (k9 : Nat) (x0 : Nat) (x1 : Nat) (x2 : Nat) (x3 : Nat) (x4 : Int32) (σ : q_S), ((q_K σ x0 = 1000 ∨ q_K σ x0 = 2000) ∧ vp_in (x4 + (1 : Int32)) (q_Z σ x0) ∧ (q_K σ x0 = 1000 ∨ q_K σ x0 = 2000) ∧ vp_in (x4 + (2 : Int32)) (q_Z σ x0) ∧ (q_K σ x0 = 1000 ∨ q_K σ x0 = 2000) ∧ vp_in (x4 + (3 : Int32)) (q_Z σ x0) ∧ (q_K σ x0 = 1000 ∨ q_K σ x0 = 2000) ∧ vp_in (x4 + (4 : Int32)) (q_Z σ x0) ∧ (q_K σ x0 = 1000 ∨ q_K σ x0 = 2000) ∧ vp_in (x4 + (5 : Int32)) (q_Z σ x0) ∧ V_LW_in x1 (q_I σ x0 (x4 + (1 : Int32)).toNatClampNeg) ((((q_I σ x0 (x4 + (2 : Int32)).toNatClampNeg).toInt64) <<< ((32 : Int32).toInt64 &&& 63)) ||| (((q_I σ x0 (x4 + (3 : Int32)).toNatClampNeg).toInt64) &&& (4294967295 : Int64))) ((((q_I σ x0 (x4 + (4 : Int32)).toNatClampNeg).toInt64) <<< ((32 : Int32).toInt64 &&& 63)) ||| (((q_I σ x0 (x4 + (5 : Int32)).toNatClampNeg).toInt64) &&& (4294967295 : Int64))) x3 σ (q_ci (fun v13 σ14 => (q_K σ14 x0 = 1000 ∨ q_K σ14 x0 = 2000) ∧ vp_in (x4 + (1 : Int32)) (q_Z σ14 x0) ∧ (q_K σ14 x0 = 1000 ∨ q_K σ14 x0 = 2000) ∧ vp_in (x4 + (2 : Int32)) (q_Z σ14 x0) ∧ (q_K σ14 x0 = 1000 ∨ q_K σ14 x0 = 2000) ∧ vp_in (x4 + (3 : Int32)) (q_Z σ14 x0) ∧ (q_K σ14 x0 = 1000 ∨ q_K σ14 x0 = 2000) ∧ vp_in (x4 + (4 : Int32)) (q_Z σ14 x0) ∧ (q_K σ14 x0 = 1000 ∨ q_K σ14 x0 = 2000) ∧ vp_in (x4 + (5 : Int32)) (q_Z σ14 x0) ∧ q_K σ14 x2 = 7 ∧ V_PM_in x2 (q_I σ14 x0 (x4 + (1 : Int32)).toNatClampNeg) ((((q_I σ14 x0 (x4 + (2 : Int32)).toNatClampNeg).toInt64) <<< ((32 : Int32).toInt64 &&& 63)) ||| (((q_I σ14 x0 (x4 + (3 : Int32)).toNatClampNeg).toInt64) &&& (4294967295 : Int64))) ((((q_I σ14 x0 (x4 + (4 : Int32)).toNatClampNeg).toInt64) <<< ((32 : Int32).toInt64 &&& 63)) ||| (((q_I σ14 x0 (x4 + (5 : Int32)).toNatClampNeg).toInt64) &&& (4294967295 : Int64))) σ14 (q_ci (fun v28 σ29 => q_K σ29 x2 = 7 ∧ (((f_PM_thrown σ29 x2) = v13 → ((¬ v13 = (0 : Int32) → P1321 k9 x0 x1 x2 x3 x4 σ29) ∧ (¬ (¬ v13 = (0 : Int32)) → q_K σ29 x3 = 1001 ∧ vp_in (0 : Int32) (q_Z σ29 x3) ∧ ((v28 = (0 : Int32) → P1315 k9 x0 x1 x2 x3 x4 (0 : Int64) (q_L σ29 x3 (0 : Int32).toNatClampNeg) σ29) ∧ (¬ (v28 = (0 : Int32)) → P1315 k9 x0 x1 x2 x3 x4 (1 : Int64) (q_L σ29 x3 (0 : Int32).toNatClampNeg) σ29))))) ∧ (¬ ((f_PM_thrown σ29 x2) = v13) → R (.inl (some (.inl (0 : Int32)))) σ29))) (fun n9 σ9 => R (.inr n9) σ9))) (fun n9 σ9 => R (.inr n9) σ9))) → P1173 (k9) x0 x1 x2 x3 x4 σ
def V_LW_law_1315 (R : q_O → q_S → Prop) (P1315 : Nat → Nat → Nat → Nat → Nat → Int32 → Int64 → Int64 → q_S → Prop) (P1321 : Nat → Nat → Nat → Nat → Nat → Int32 → q_S → Prop) : Prop := ∀ (k9 : Nat) (x0 : Nat) (x1 : Nat) (x2 : Nat) (x3 : Nat) (x4 : Int32) (y0 : Int64) (y1 : Int64) (σ : q_S), ((((lg_cmp y1 y0) = (0 : Int32) → P1321 k9 x0 x1 x2 x3 x4 σ) ∧ (¬ ((lg_cmp y1 y0) = (0 : Int32)) → R (.inl (some (.inl (0 : Int32)))) σ))) → P1315 (k9) x0 x1 x2 x3 x4 y0 y1 σ
def V_LW_law_1321 (R : q_O → q_S → Prop) (P1321 : Nat → Nat → Nat → Nat → Nat → Int32 → q_S → Prop) (P1969 : Nat → Nat → Nat → Nat → Nat → Int32 → q_S → Prop) : Prop := ∀ (k9 : Nat) (x0 : Nat) (x1 : Nat) (x2 : Nat) (x3 : Nat) (x4 : Int32) (σ : q_S), (P1969 k9 x0 x1 x2 x3 x4 σ) → P1321 (k9) x0 x1 x2 x3 x4 σ
def V_LW_law_1324 (R : q_O → q_S → Prop) (P1324 : Nat → Nat → Nat → Nat → Nat → Int32 → q_S → Prop) (P1377 : Nat → Nat → Nat → Nat → Nat → Int32 → q_S → Prop) : Prop := ∀ (k9 : Nat) (x0 : Nat) (x1 : Nat) (x2 : Nat) (x3 : Nat) (x4 : Int32) (σ : q_S), ((q_K σ x0 = 1000 ∨ q_K σ x0 = 2000) ∧ vp_in (x4 + (1 : Int32)) (q_Z σ x0) ∧ V_LW_islands x1 (q_I σ x0 (x4 + (1 : Int32)).toNatClampNeg) x3 σ (q_ci (fun v5 σ6 => (q_K σ6 x0 = 1000 ∨ q_K σ6 x0 = 2000) ∧ vp_in (x4 + (1 : Int32)) (q_Z σ6 x0) ∧ q_K σ6 x2 = 7 ∧ V_PM_islands x2 (q_I σ6 x0 (x4 + (1 : Int32)).toNatClampNeg) σ6 (q_ci (fun v12 σ13 => q_K σ13 x2 = 7 ∧ (((f_PM_thrown σ13 x2) = v5 → ((¬ v5 = (0 : Int32) → P1377 k9 x0 x1 x2 x3 x4 σ13) ∧ (¬ (¬ v5 = (0 : Int32)) → q_K σ13 x3 = 1001 ∧ vp_in (0 : Int32) (q_Z σ13 x3) ∧ (((lg_cmp (q_L σ13 x3 (0 : Int32).toNatClampNeg) v12.toInt64) = (0 : Int32) → P1377 k9 x0 x1 x2 x3 x4 σ13) ∧ (¬ ((lg_cmp (q_L σ13 x3 (0 : Int32).toNatClampNeg) v12.toInt64) = (0 : Int32)) → R (.inl (some (.inl (0 : Int32)))) σ13))))) ∧ (¬ ((f_PM_thrown σ13 x2) = v5) → R (.inl (some (.inl (0 : Int32)))) σ13))) (fun n9 σ9 => R (.inr n9) σ9))) (fun n9 σ9 => R (.inr n9) σ9))) → P1324 (k9) x0 x1 x2 x3 x4 σ
def V_LW_law_1377 (R : q_O → q_S → Prop) (P1377 : Nat → Nat → Nat → Nat → Nat → Int32 → q_S → Prop) (P1969 : Nat → Nat → Nat → Nat → Nat → Int32 → q_S → Prop) : Prop := ∀ (k9 : Nat) (x0 : Nat) (x1 : Nat) (x2 : Nat) (x3 : Nat) (x4 : Int32) (σ : q_S), (P1969 k9 x0 x1 x2 x3 x4 σ) → P1377 (k9) x0 x1 x2 x3 x4 σ
def V_LW_law_1380 (R : q_O → q_S → Prop) (P1380 : Nat → Nat → Nat → Nat → Nat → Int32 → q_S → Prop) (P1457 : Nat → Nat → Nat → Nat → Nat → Int32 → q_S → Prop) : Prop := ∀ (k9 : Nat) (x0 : Nat) (x1 : Nat) (x2 : Nat) (x3 : Nat) (x4 : Int32) (σ : q_S), ((q_K σ x0 = 1000 ∨ q_K σ x0 = 2000) ∧ vp_in (x4 + (1 : Int32)) (q_Z σ x0) ∧ (q_K σ x0 = 1000 ∨ q_K σ x0 = 2000) ∧ vp_in (x4 + (2 : Int32)) (q_Z σ x0) ∧ (q_K σ x0 = 1000 ∨ q_K σ x0 = 2000) ∧ vp_in (x4 + (3 : Int32)) (q_Z σ x0) ∧ V_LW_spoke x1 (q_I σ x0 (x4 + (1 : Int32)).toNatClampNeg) (q_I σ x0 (x4 + (2 : Int32)).toNatClampNeg) (q_I σ x0 (x4 + (3 : Int32)).toNatClampNeg) x3 σ (q_ci (fun v9 σ10 => (q_K σ10 x0 = 1000 ∨ q_K σ10 x0 = 2000) ∧ vp_in (x4 + (1 : Int32)) (q_Z σ10 x0) ∧ (q_K σ10 x0 = 1000 ∨ q_K σ10 x0 = 2000) ∧ vp_in (x4 + (2 : Int32)) (q_Z σ10 x0) ∧ (q_K σ10 x0 = 1000 ∨ q_K σ10 x0 = 2000) ∧ vp_in (x4 + (3 : Int32)) (q_Z σ10 x0) ∧ q_K σ10 x2 = 7 ∧ V_PM_spoke x2 (q_I σ10 x0 (x4 + (1 : Int32)).toNatClampNeg) (q_I σ10 x0 (x4 + (2 : Int32)).toNatClampNeg) (q_I σ10 x0 (x4 + (3 : Int32)).toNatClampNeg) σ10 (q_ci (fun v20 σ21 => q_K σ21 x2 = 7 ∧ (((f_PM_thrown σ21 x2) = v9 → ((¬ v9 = (0 : Int32) → P1457 k9 x0 x1 x2 x3 x4 σ21) ∧ (¬ (¬ v9 = (0 : Int32)) → q_K σ21 x3 = 1001 ∧ vp_in (0 : Int32) (q_Z σ21 x3) ∧ (((lg_cmp (q_L σ21 x3 (0 : Int32).toNatClampNeg) v20.toInt64) = (0 : Int32) → P1457 k9 x0 x1 x2 x3 x4 σ21) ∧ (¬ ((lg_cmp (q_L σ21 x3 (0 : Int32).toNatClampNeg) v20.toInt64) = (0 : Int32)) → R (.inl (some (.inl (0 : Int32)))) σ21))))) ∧ (¬ ((f_PM_thrown σ21 x2) = v9) → R (.inl (some (.inl (0 : Int32)))) σ21))) (fun n9 σ9 => R (.inr n9) σ9))) (fun n9 σ9 => R (.inr n9) σ9))) → P1380 (k9) x0 x1 x2 x3 x4 σ
def V_LW_law_1457 (R : q_O → q_S → Prop) (P1457 : Nat → Nat → Nat → Nat → Nat → Int32 → q_S → Prop) (P1969 : Nat → Nat → Nat → Nat → Nat → Int32 → q_S → Prop) : Prop := ∀ (k9 : Nat) (x0 : Nat) (x1 : Nat) (x2 : Nat) (x3 : Nat) (x4 : Int32) (σ : q_S), (P1969 k9 x0 x1 x2 x3 x4 σ) → P1457 (k9) x0 x1 x2 x3 x4 σ
def V_LW_law_1460 (R : q_O → q_S → Prop) (P1460 : Nat → Nat → Nat → Nat → Nat → Int32 → q_S → Prop) (P1557 : Nat → Nat → Nat → Nat → Nat → Int32 → q_S → Prop) : Prop := ∀ (k9 : Nat) (x0 : Nat) (x1 : Nat) (x2 : Nat) (x3 : Nat) (x4 : Int32) (σ : q_S), ((q_K σ x0 = 1000 ∨ q_K σ x0 = 2000) ∧ vp_in (x4 + (1 : Int32)) (q_Z σ x0) ∧ (q_K σ x0 = 1000 ∨ q_K σ x0 = 2000) ∧ vp_in (x4 + (2 : Int32)) (q_Z σ x0) ∧ (q_K σ x0 = 1000 ∨ q_K σ x0 = 2000) ∧ vp_in (x4 + (3 : Int32)) (q_Z σ x0) ∧ V_LW_stitch x1 (q_I σ x0 (x4 + (1 : Int32)).toNatClampNeg) ((((q_I σ x0 (x4 + (2 : Int32)).toNatClampNeg).toInt64) <<< ((32 : Int32).toInt64 &&& 63)) ||| (((q_I σ x0 (x4 + (3 : Int32)).toNatClampNeg).toInt64) &&& (4294967295 : Int64))) x3 σ (q_ci (fun v9 σ10 => (q_K σ10 x0 = 1000 ∨ q_K σ10 x0 = 2000) ∧ vp_in (x4 + (1 : Int32)) (q_Z σ10 x0) ∧ (q_K σ10 x0 = 1000 ∨ q_K σ10 x0 = 2000) ∧ vp_in (x4 + (2 : Int32)) (q_Z σ10 x0) ∧ (q_K σ10 x0 = 1000 ∨ q_K σ10 x0 = 2000) ∧ vp_in (x4 + (3 : Int32)) (q_Z σ10 x0) ∧ q_K σ10 x2 = 7 ∧ V_PM_stitch x2 (q_I σ10 x0 (x4 + (1 : Int32)).toNatClampNeg) ((((q_I σ10 x0 (x4 + (2 : Int32)).toNatClampNeg).toInt64) <<< ((32 : Int32).toInt64 &&& 63)) ||| (((q_I σ10 x0 (x4 + (3 : Int32)).toNatClampNeg).toInt64) &&& (4294967295 : Int64))) σ10 (q_ci (fun v20 σ21 => q_K σ21 x2 = 7 ∧ (((f_PM_thrown σ21 x2) = v9 → ((¬ v9 = (0 : Int32) → P1557 k9 x0 x1 x2 x3 x4 σ21) ∧ (¬ (¬ v9 = (0 : Int32)) → q_K σ21 x3 = 1001 ∧ vp_in (0 : Int32) (q_Z σ21 x3) ∧ (((lg_cmp (q_L σ21 x3 (0 : Int32).toNatClampNeg) v20.toInt64) = (0 : Int32) → P1557 k9 x0 x1 x2 x3 x4 σ21) ∧ (¬ ((lg_cmp (q_L σ21 x3 (0 : Int32).toNatClampNeg) v20.toInt64) = (0 : Int32)) → R (.inl (some (.inl (0 : Int32)))) σ21))))) ∧ (¬ ((f_PM_thrown σ21 x2) = v9) → R (.inl (some (.inl (0 : Int32)))) σ21))) (fun n9 σ9 => R (.inr n9) σ9))) (fun n9 σ9 => R (.inr n9) σ9))) → P1460 (k9) x0 x1 x2 x3 x4 σ
def V_LW_law_1557 (R : q_O → q_S → Prop) (P1557 : Nat → Nat → Nat → Nat → Nat → Int32 → q_S → Prop) (P1969 : Nat → Nat → Nat → Nat → Nat → Int32 → q_S → Prop) : Prop := ∀ (k9 : Nat) (x0 : Nat) (x1 : Nat) (x2 : Nat) (x3 : Nat) (x4 : Int32) (σ : q_S), (P1969 k9 x0 x1 x2 x3 x4 σ) → P1557 (k9) x0 x1 x2 x3 x4 σ
def V_LW_law_1560 (R : q_O → q_S → Prop) (P1560 : Nat → Nat → Nat → Nat → Nat → Int32 → q_S → Prop) (P1702 : Nat → Nat → Nat → Nat → Nat → Int32 → Int64 → Int64 → q_S → Prop) (P1708 : Nat → Nat → Nat → Nat → Nat → Int32 → q_S → Prop) : Prop := ∀ (k9 : Nat) (x0 : Nat) (x1 : Nat) (x2 : Nat) (x3 : Nat) (x4 : Int32) (σ : q_S), ((q_K σ x0 = 1000 ∨ q_K σ x0 = 2000) ∧ vp_in (x4 + (1 : Int32)) (q_Z σ x0) ∧ (q_K σ x0 = 1000 ∨ q_K σ x0 = 2000) ∧ vp_in (x4 + (2 : Int32)) (q_Z σ x0) ∧ (q_K σ x0 = 1000 ∨ q_K σ x0 = 2000) ∧ vp_in (x4 + (3 : Int32)) (q_Z σ x0) ∧ (q_K σ x0 = 1000 ∨ q_K σ x0 = 2000) ∧ vp_in (x4 + (4 : Int32)) (q_Z σ x0) ∧ (q_K σ x0 = 1000 ∨ q_K σ x0 = 2000) ∧ vp_in (x4 + (5 : Int32)) (q_Z σ x0) ∧ V_LW_hatch x1 (q_I σ x0 (x4 + (1 : Int32)).toNatClampNeg) ((((q_I σ x0 (x4 + (2 : Int32)).toNatClampNeg).toInt64) <<< ((32 : Int32).toInt64 &&& 63)) ||| (((q_I σ x0 (x4 + (3 : Int32)).toNatClampNeg).toInt64) &&& (4294967295 : Int64))) ((((q_I σ x0 (x4 + (4 : Int32)).toNatClampNeg).toInt64) <<< ((32 : Int32).toInt64 &&& 63)) ||| (((q_I σ x0 (x4 + (5 : Int32)).toNatClampNeg).toInt64) &&& (4294967295 : Int64))) x3 σ (q_ci (fun v13 σ14 => (q_K σ14 x0 = 1000 ∨ q_K σ14 x0 = 2000) ∧ vp_in (x4 + (1 : Int32)) (q_Z σ14 x0) ∧ (q_K σ14 x0 = 1000 ∨ q_K σ14 x0 = 2000) ∧ vp_in (x4 + (2 : Int32)) (q_Z σ14 x0) ∧ (q_K σ14 x0 = 1000 ∨ q_K σ14 x0 = 2000) ∧ vp_in (x4 + (3 : Int32)) (q_Z σ14 x0) ∧ (q_K σ14 x0 = 1000 ∨ q_K σ14 x0 = 2000) ∧ vp_in (x4 + (4 : Int32)) (q_Z σ14 x0) ∧ (q_K σ14 x0 = 1000 ∨ q_K σ14 x0 = 2000) ∧ vp_in (x4 + (5 : Int32)) (q_Z σ14 x0) ∧ q_K σ14 x2 = 7 ∧ V_PM_hatch x2 (q_I σ14 x0 (x4 + (1 : Int32)).toNatClampNeg) ((((q_I σ14 x0 (x4 + (2 : Int32)).toNatClampNeg).toInt64) <<< ((32 : Int32).toInt64 &&& 63)) ||| (((q_I σ14 x0 (x4 + (3 : Int32)).toNatClampNeg).toInt64) &&& (4294967295 : Int64))) ((((q_I σ14 x0 (x4 + (4 : Int32)).toNatClampNeg).toInt64) <<< ((32 : Int32).toInt64 &&& 63)) ||| (((q_I σ14 x0 (x4 + (5 : Int32)).toNatClampNeg).toInt64) &&& (4294967295 : Int64))) σ14 (q_ci (fun v28 σ29 => q_K σ29 x2 = 7 ∧ (((f_PM_thrown σ29 x2) = v13 → ((¬ v13 = (0 : Int32) → P1708 k9 x0 x1 x2 x3 x4 σ29) ∧ (¬ (¬ v13 = (0 : Int32)) → q_K σ29 x3 = 1001 ∧ vp_in (0 : Int32) (q_Z σ29 x3) ∧ ((v28 = (0 : Int32) → P1702 k9 x0 x1 x2 x3 x4 (0 : Int64) (q_L σ29 x3 (0 : Int32).toNatClampNeg) σ29) ∧ (¬ (v28 = (0 : Int32)) → P1702 k9 x0 x1 x2 x3 x4 (1 : Int64) (q_L σ29 x3 (0 : Int32).toNatClampNeg) σ29))))) ∧ (¬ ((f_PM_thrown σ29 x2) = v13) → R (.inl (some (.inl (0 : Int32)))) σ29))) (fun n9 σ9 => R (.inr n9) σ9))) (fun n9 σ9 => R (.inr n9) σ9))) → P1560 (k9) x0 x1 x2 x3 x4 σ
def V_LW_law_1702 (R : q_O → q_S → Prop) (P1702 : Nat → Nat → Nat → Nat → Nat → Int32 → Int64 → Int64 → q_S → Prop) (P1708 : Nat → Nat → Nat → Nat → Nat → Int32 → q_S → Prop) : Prop := ∀ (k9 : Nat) (x0 : Nat) (x1 : Nat) (x2 : Nat) (x3 : Nat) (x4 : Int32) (y0 : Int64) (y1 : Int64) (σ : q_S), ((((lg_cmp y1 y0) = (0 : Int32) → P1708 k9 x0 x1 x2 x3 x4 σ) ∧ (¬ ((lg_cmp y1 y0) = (0 : Int32)) → R (.inl (some (.inl (0 : Int32)))) σ))) → P1702 (k9) x0 x1 x2 x3 x4 y0 y1 σ
def V_LW_law_1708 (R : q_O → q_S → Prop) (P1708 : Nat → Nat → Nat → Nat → Nat → Int32 → q_S → Prop) (P1969 : Nat → Nat → Nat → Nat → Nat → Int32 → q_S → Prop) : Prop := ∀ (k9 : Nat) (x0 : Nat) (x1 : Nat) (x2 : Nat) (x3 : Nat) (x4 : Int32) (σ : q_S), (P1969 k9 x0 x1 x2 x3 x4 σ) → P1708 (k9) x0 x1 x2 x3 x4 σ
def V_LW_law_1711 (R : q_O → q_S → Prop) (P1711 : Nat → Nat → Nat → Nat → Nat → Int32 → q_S → Prop) (P1969 : Nat → Nat → Nat → Nat → Nat → Int32 → q_S → Prop) : Prop := ∀ (k9 : Nat) (x0 : Nat) (x1 : Nat) (x2 : Nat) (x3 : Nat) (x4 : Int32) (σ : q_S), ((q_K σ x0 = 1000 ∨ q_K σ x0 = 2000) ∧ vp_in (x4 + (1 : Int32)) (q_Z σ x0) ∧ (q_K σ x0 = 1000 ∨ q_K σ x0 = 2000) ∧ vp_in (x4 + (2 : Int32)) (q_Z σ x0) ∧ (q_K σ x0 = 1000 ∨ q_K σ x0 = 2000) ∧ vp_in (x4 + (3 : Int32)) (q_Z σ x0) ∧ (q_K σ x0 = 1000 ∨ q_K σ x0 = 2000) ∧ vp_in (x4 + (4 : Int32)) (q_Z σ x0) ∧ (q_K σ x0 = 1000 ∨ q_K σ x0 = 2000) ∧ vp_in (x4 + (5 : Int32)) (q_Z σ x0) ∧ (q_K σ x0 = 1000 ∨ q_K σ x0 = 2000) ∧ vp_in (x4 + (6 : Int32)) (q_Z σ x0) ∧ (q_K σ x0 = 1000 ∨ q_K σ x0 = 2000) ∧ vp_in (x4 + (7 : Int32)) (q_Z σ x0) ∧ (q_K σ x0 = 1000 ∨ q_K σ x0 = 2000) ∧ vp_in (x4 + (8 : Int32)) (q_Z σ x0) ∧ q_K σ x1 = 1 ∧ V_PF_changed x1 ((((q_I σ x0 (x4 + (1 : Int32)).toNatClampNeg).toInt64) <<< ((32 : Int32).toInt64 &&& 63)) ||| (((q_I σ x0 (x4 + (2 : Int32)).toNatClampNeg).toInt64) &&& (4294967295 : Int64))) ((((q_I σ x0 (x4 + (3 : Int32)).toNatClampNeg).toInt64) <<< ((32 : Int32).toInt64 &&& 63)) ||| (((q_I σ x0 (x4 + (4 : Int32)).toNatClampNeg).toInt64) &&& (4294967295 : Int64))) ((((q_I σ x0 (x4 + (5 : Int32)).toNatClampNeg).toInt64) <<< ((32 : Int32).toInt64 &&& 63)) ||| (((q_I σ x0 (x4 + (6 : Int32)).toNatClampNeg).toInt64) &&& (4294967295 : Int64))) ((((q_I σ x0 (x4 + (7 : Int32)).toNatClampNeg).toInt64) <<< ((32 : Int32).toInt64 &&& 63)) ||| (((q_I σ x0 (x4 + (8 : Int32)).toNatClampNeg).toInt64) &&& (4294967295 : Int64))) σ (q_ci (fun v20 σ21 => (q_K σ21 x0 = 1000 ∨ q_K σ21 x0 = 2000) ∧ vp_in (x4 + (1 : Int32)) (q_Z σ21 x0) ∧ (q_K σ21 x0 = 1000 ∨ q_K σ21 x0 = 2000) ∧ vp_in (x4 + (2 : Int32)) (q_Z σ21 x0) ∧ (q_K σ21 x0 = 1000 ∨ q_K σ21 x0 = 2000) ∧ vp_in (x4 + (3 : Int32)) (q_Z σ21 x0) ∧ (q_K σ21 x0 = 1000 ∨ q_K σ21 x0 = 2000) ∧ vp_in (x4 + (4 : Int32)) (q_Z σ21 x0) ∧ (q_K σ21 x0 = 1000 ∨ q_K σ21 x0 = 2000) ∧ vp_in (x4 + (5 : Int32)) (q_Z σ21 x0) ∧ (q_K σ21 x0 = 1000 ∨ q_K σ21 x0 = 2000) ∧ vp_in (x4 + (6 : Int32)) (q_Z σ21 x0) ∧ (q_K σ21 x0 = 1000 ∨ q_K σ21 x0 = 2000) ∧ vp_in (x4 + (7 : Int32)) (q_Z σ21 x0) ∧ (q_K σ21 x0 = 1000 ∨ q_K σ21 x0 = 2000) ∧ vp_in (x4 + (8 : Int32)) (q_Z σ21 x0) ∧ q_K σ21 x2 = 7 ∧ V_PM_changed x2 ((((q_I σ21 x0 (x4 + (1 : Int32)).toNatClampNeg).toInt64) <<< ((32 : Int32).toInt64 &&& 63)) ||| (((q_I σ21 x0 (x4 + (2 : Int32)).toNatClampNeg).toInt64) &&& (4294967295 : Int64))) ((((q_I σ21 x0 (x4 + (3 : Int32)).toNatClampNeg).toInt64) <<< ((32 : Int32).toInt64 &&& 63)) ||| (((q_I σ21 x0 (x4 + (4 : Int32)).toNatClampNeg).toInt64) &&& (4294967295 : Int64))) ((((q_I σ21 x0 (x4 + (5 : Int32)).toNatClampNeg).toInt64) <<< ((32 : Int32).toInt64 &&& 63)) ||| (((q_I σ21 x0 (x4 + (6 : Int32)).toNatClampNeg).toInt64) &&& (4294967295 : Int64))) ((((q_I σ21 x0 (x4 + (7 : Int32)).toNatClampNeg).toInt64) <<< ((32 : Int32).toInt64 &&& 63)) ||| (((q_I σ21 x0 (x4 + (8 : Int32)).toNatClampNeg).toInt64) &&& (4294967295 : Int64))) σ21 (q_ci (fun v41 σ42 => ((v20 = v41 → P1969 k9 x0 x1 x2 x3 x4 σ42) ∧ (¬ (v20 = v41) → R (.inl (some (.inl (0 : Int32)))) σ42))) (fun n9 σ9 => R (.inr n9) σ9))) (fun n9 σ9 => R (.inr n9) σ9))) → P1711 (k9) x0 x1 x2 x3 x4 σ
def V_LW_law_1906 (R : q_O → q_S → Prop) (P1906 : Nat → Nat → Nat → Nat → Nat → Int32 → q_S → Prop) (P1960 : Nat → Nat → Nat → Nat → Nat → Int32 → Int64 → Int64 → q_S → Prop) (P1966 : Nat → Nat → Nat → Nat → Nat → Int32 → q_S → Prop) : Prop := ∀ (k9 : Nat) (x0 : Nat) (x1 : Nat) (x2 : Nat) (x3 : Nat) (x4 : Int32) (σ : q_S), ((q_K σ x0 = 1000 ∨ q_K σ x0 = 2000) ∧ vp_in (x4 + (1 : Int32)) (q_Z σ x0) ∧ V_LW_narrow x1 (q_I σ x0 (x4 + (1 : Int32)).toNatClampNeg) x3 σ (q_ci (fun v5 σ6 => (q_K σ6 x0 = 1000 ∨ q_K σ6 x0 = 2000) ∧ vp_in (x4 + (1 : Int32)) (q_Z σ6 x0) ∧ q_K σ6 x2 = 7 ∧ V_PM_narrow x2 (q_I σ6 x0 (x4 + (1 : Int32)).toNatClampNeg) σ6 (q_ci (fun v12 σ13 => q_K σ13 x2 = 7 ∧ (((f_PM_thrown σ13 x2) = v5 → ((¬ v5 = (0 : Int32) → P1966 k9 x0 x1 x2 x3 x4 σ13) ∧ (¬ (¬ v5 = (0 : Int32)) → q_K σ13 x3 = 1001 ∧ vp_in (0 : Int32) (q_Z σ13 x3) ∧ ((v12 = (0 : Int32) → P1960 k9 x0 x1 x2 x3 x4 (0 : Int64) (q_L σ13 x3 (0 : Int32).toNatClampNeg) σ13) ∧ (¬ (v12 = (0 : Int32)) → P1960 k9 x0 x1 x2 x3 x4 (1 : Int64) (q_L σ13 x3 (0 : Int32).toNatClampNeg) σ13))))) ∧ (¬ ((f_PM_thrown σ13 x2) = v5) → R (.inl (some (.inl (0 : Int32)))) σ13))) (fun n9 σ9 => R (.inr n9) σ9))) (fun n9 σ9 => R (.inr n9) σ9))) → P1906 (k9) x0 x1 x2 x3 x4 σ
def V_LW_law_1960 (R : q_O → q_S → Prop) (P1960 : Nat → Nat → Nat → Nat → Nat → Int32 → Int64 → Int64 → q_S → Prop) (P1966 : Nat → Nat → Nat → Nat → Nat → Int32 → q_S → Prop) : Prop := ∀ (k9 : Nat) (x0 : Nat) (x1 : Nat) (x2 : Nat) (x3 : Nat) (x4 : Int32) (y0 : Int64) (y1 : Int64) (σ : q_S), ((((lg_cmp y1 y0) = (0 : Int32) → P1966 k9 x0 x1 x2 x3 x4 σ) ∧ (¬ ((lg_cmp y1 y0) = (0 : Int32)) → R (.inl (some (.inl (0 : Int32)))) σ))) → P1960 (k9) x0 x1 x2 x3 x4 y0 y1 σ
def V_LW_law_1966 (R : q_O → q_S → Prop) (P1966 : Nat → Nat → Nat → Nat → Nat → Int32 → q_S → Prop) (P1969 : Nat → Nat → Nat → Nat → Nat → Int32 → q_S → Prop) : Prop := ∀ (k9 : Nat) (x0 : Nat) (x1 : Nat) (x2 : Nat) (x3 : Nat) (x4 : Int32) (σ : q_S), (P1969 k9 x0 x1 x2 x3 x4 σ) → P1966 (k9) x0 x1 x2 x3 x4 σ
def V_LW_law_1969 (R : q_O → q_S → Prop) (P33 : Nat → Nat → Nat → Nat → Nat → Int32 → q_S → Prop) (P1969 : Nat → Nat → Nat → Nat → Nat → Int32 → q_S → Prop) : Prop := ∀ (k9 : Nat) (x0 : Nat) (x1 : Nat) (x2 : Nat) (x3 : Nat) (x4 : Int32) (σ : q_S), (∀ v1 : Int32, v1 = x4 + (11 : Int32) → P33 k9 x0 x1 x2 x3 v1 σ) → P1969 (k9) x0 x1 x2 x3 x4 σ
def V_LW_law (x0 : Nat) (σ : q_S) (R : q_O → q_S → Prop) : Prop :=
  ∀ (P33 : Nat → Nat → Nat → Nat → Nat → Int32 → q_S → Prop),
  ∀ (P128 : Nat → Nat → Nat → Nat → Nat → Int32 → q_S → Prop),
  ∀ (P205 : Nat → Nat → Nat → Nat → Nat → Int32 → q_S → Prop),
  ∀ (P208 : Nat → Nat → Nat → Nat → Nat → Int32 → q_S → Prop),
  ∀ (P350 : Nat → Nat → Nat → Nat → Nat → Int32 → Int64 → Int64 → q_S → Prop),
  ∀ (P356 : Nat → Nat → Nat → Nat → Nat → Int32 → q_S → Prop),
  ∀ (P359 : Nat → Nat → Nat → Nat → Nat → Int32 → q_S → Prop),
  ∀ (P413 : Nat → Nat → Nat → Nat → Nat → Int32 → Int64 → Int64 → q_S → Prop),
  ∀ (P419 : Nat → Nat → Nat → Nat → Nat → Int32 → q_S → Prop),
  ∀ (P422 : Nat → Nat → Nat → Nat → Nat → Int32 → q_S → Prop),
  ∀ (P625 : Nat → Nat → Nat → Nat → Nat → Int32 → q_S → Prop),
  ∀ (P628 : Nat → Nat → Nat → Nat → Nat → Int32 → q_S → Prop),
  ∀ (P726 : Nat → Nat → Nat → Nat → Nat → Int32 → Int64 → Int64 → q_S → Prop),
  ∀ (P732 : Nat → Nat → Nat → Nat → Nat → Int32 → q_S → Prop),
  ∀ (P735 : Nat → Nat → Nat → Nat → Nat → Int32 → q_S → Prop),
  ∀ (P986 : Nat → Nat → Nat → Nat → Nat → Int32 → q_S → Prop),
  ∀ (P989 : Nat → Nat → Nat → Nat → Nat → Int32 → q_S → Prop),
  ∀ (P1002 : Nat → Nat → Nat → Nat → Nat → Int32 → q_S → Prop),
  ∀ (P1067 : Nat → Nat → Nat → Nat → Nat → Int32 → q_S → Prop),
  ∀ (P1070 : Nat → Nat → Nat → Nat → Nat → Int32 → q_S → Prop),
  ∀ (P1170 : Nat → Nat → Nat → Nat → Nat → Int32 → q_S → Prop),
  ∀ (P1173 : Nat → Nat → Nat → Nat → Nat → Int32 → q_S → Prop),
  ∀ (P1315 : Nat → Nat → Nat → Nat → Nat → Int32 → Int64 → Int64 → q_S → Prop),
  ∀ (P1321 : Nat → Nat → Nat → Nat → Nat → Int32 → q_S → Prop),
  ∀ (P1324 : Nat → Nat → Nat → Nat → Nat → Int32 → q_S → Prop),
  ∀ (P1377 : Nat → Nat → Nat → Nat → Nat → Int32 → q_S → Prop),
  ∀ (P1380 : Nat → Nat → Nat → Nat → Nat → Int32 → q_S → Prop),
  ∀ (P1457 : Nat → Nat → Nat → Nat → Nat → Int32 → q_S → Prop),
  ∀ (P1460 : Nat → Nat → Nat → Nat → Nat → Int32 → q_S → Prop),
  ∀ (P1557 : Nat → Nat → Nat → Nat → Nat → Int32 → q_S → Prop),
  ∀ (P1560 : Nat → Nat → Nat → Nat → Nat → Int32 → q_S → Prop),
  ∀ (P1702 : Nat → Nat → Nat → Nat → Nat → Int32 → Int64 → Int64 → q_S → Prop),
  ∀ (P1708 : Nat → Nat → Nat → Nat → Nat → Int32 → q_S → Prop),
  ∀ (P1711 : Nat → Nat → Nat → Nat → Nat → Int32 → q_S → Prop),
  ∀ (P1906 : Nat → Nat → Nat → Nat → Nat → Int32 → q_S → Prop),
  ∀ (P1960 : Nat → Nat → Nat → Nat → Nat → Int32 → Int64 → Int64 → q_S → Prop),
  ∀ (P1966 : Nat → Nat → Nat → Nat → Nat → Int32 → q_S → Prop),
  ∀ (P1969 : Nat → Nat → Nat → Nat → Nat → Int32 → q_S → Prop),
  V_LW_law_33 R P33 P128 P208 P359 P422 P628 P735 P989 P1002 P1070 P1173 P1324 P1380 P1460 P1560 P1711 P1906 P1969 →
  V_LW_law_128 R P128 P205 →
  V_LW_law_205 R P205 P1969 →
  V_LW_law_208 R P208 P350 P356 →
  V_LW_law_350 R P350 P356 →
  V_LW_law_356 R P356 P1969 →
  V_LW_law_359 R P359 P413 P419 →
  V_LW_law_413 R P413 P419 →
  V_LW_law_419 R P419 P1969 →
  V_LW_law_422 R P422 P625 →
  V_LW_law_625 R P625 P1969 →
  V_LW_law_628 R P628 P726 P732 →
  V_LW_law_726 R P726 P732 →
  V_LW_law_732 R P732 P1969 →
  V_LW_law_735 R P735 P986 →
  V_LW_law_986 R P986 P1969 →
  V_LW_law_989 R P989 P1969 →
  V_LW_law_1002 R P1002 P1067 →
  V_LW_law_1067 R P1067 P1969 →
  V_LW_law_1070 R P1070 P1170 →
  V_LW_law_1170 R P1170 P1969 →
  V_LW_law_1173 R P1173 P1315 P1321 →
  V_LW_law_1315 R P1315 P1321 →
  V_LW_law_1321 R P1321 P1969 →
  V_LW_law_1324 R P1324 P1377 →
  V_LW_law_1377 R P1377 P1969 →
  V_LW_law_1380 R P1380 P1457 →
  V_LW_law_1457 R P1457 P1969 →
  V_LW_law_1460 R P1460 P1557 →
  V_LW_law_1557 R P1557 P1969 →
  V_LW_law_1560 R P1560 P1702 P1708 →
  V_LW_law_1702 R P1702 P1708 →
  V_LW_law_1708 R P1708 P1969 →
  V_LW_law_1711 R P1711 P1969 →
  V_LW_law_1906 R P1906 P1960 P1966 →
  V_LW_law_1960 R P1960 P1966 →
  V_LW_law_1966 R P1966 P1969 →
  V_LW_law_1969 R P33 P1969 →
  q_n σ < 10000000 ∧ ∀ v2 : Nat, v2 = q_n σ → ∀ σ3 : q_S, σ3 = q_new σ 1 0 → V_LW_cell x0 (0 : Int32) σ3 (q_ci (fun v6 σ7 => 0 < v2 ∧ V_PF_init v2 v6 σ7 (q_cv (fun σ12 => q_n σ12 < 10000000 ∧ ∀ v14 : Nat, v14 = q_n σ12 → ∀ σ15 : q_S, σ15 = q_new σ12 7 0 → V_LW_cell x0 (0 : Int32) σ15 (q_ci (fun v18 σ19 => 0 < v14 ∧ V_PM_init v14 v18 σ19 (q_cv (fun σ24 => q_n σ24 < 10000000 ∧ ∀ v26 : Nat, v26 = q_n σ24 → ∀ σ27 : q_S, σ27 = q_new σ24 1001 1 → P33 600 x0 v2 v14 v26 (1 : Int32) σ27) (fun n9 σ9 => R (.inr n9) σ9))) (fun n9 σ9 => R (.inr n9) σ9))) (fun n9 σ9 => R (.inr n9) σ9))) (fun n9 σ9 => R (.inr n9) σ9))
set_option maxRecDepth 100000 in
theorem t_LW_law_33 {l : Launch} {cx : q_C} {R : q_O → q_S → Prop} (hlf : l.flags = pinnedFlags ++ [noTraceFlag]) : V_LW_law_33 R (fun (k9 : Nat) (x0 : Nat) (x1 : Nat) (x2 : Nat) (x3 : Nat) (x4 : Int32) (σ : q_S) => q_G l cx M_LW_law 9 576 (20 * k9 + 0) (300 * k9 + 0) 33 [(0, .inr (.inr x0)), (1, .inr (.inr x1)), (2, .inr (.inr x2)), (3, .inr (.inr x3)), (4, .inl x4)] [] σ R) (fun (k9 : Nat) (x0 : Nat) (x1 : Nat) (x2 : Nat) (x3 : Nat) (x4 : Int32) (σ : q_S) => q_G l cx M_LW_law 9 576 (20 * k9 + 13) (300 * k9 + 198) 128 [(0, .inr (.inr x0)), (1, .inr (.inr x1)), (2, .inr (.inr x2)), (3, .inr (.inr x3)), (4, .inl x4)] [] σ R) (fun (k9 : Nat) (x0 : Nat) (x1 : Nat) (x2 : Nat) (x3 : Nat) (x4 : Int32) (σ : q_S) => q_G l cx M_LW_law 9 576 (20 * k9 + 2) (300 * k9 + 12) 208 [(0, .inr (.inr x0)), (1, .inr (.inr x1)), (2, .inr (.inr x2)), (3, .inr (.inr x3)), (4, .inl x4)] [] σ R) (fun (k9 : Nat) (x0 : Nat) (x1 : Nat) (x2 : Nat) (x3 : Nat) (x4 : Int32) (σ : q_S) => q_G l cx M_LW_law 9 576 (20 * k9 + 1) (300 * k9 + 6) 359 [(0, .inr (.inr x0)), (1, .inr (.inr x1)), (2, .inr (.inr x2)), (3, .inr (.inr x3)), (4, .inl x4)] [] σ R) (fun (k9 : Nat) (x0 : Nat) (x1 : Nat) (x2 : Nat) (x3 : Nat) (x4 : Int32) (σ : q_S) => q_G l cx M_LW_law 9 576 (20 * k9 + 5) (300 * k9 + 55) 422 [(0, .inr (.inr x0)), (1, .inr (.inr x1)), (2, .inr (.inr x2)), (3, .inr (.inr x3)), (4, .inl x4)] [] σ R) (fun (k9 : Nat) (x0 : Nat) (x1 : Nat) (x2 : Nat) (x3 : Nat) (x4 : Int32) (σ : q_S) => q_G l cx M_LW_law 9 576 (20 * k9 + 1) (300 * k9 + 6) 628 [(0, .inr (.inr x0)), (1, .inr (.inr x1)), (2, .inr (.inr x2)), (3, .inr (.inr x3)), (4, .inl x4)] [] σ R) (fun (k9 : Nat) (x0 : Nat) (x1 : Nat) (x2 : Nat) (x3 : Nat) (x4 : Int32) (σ : q_S) => q_G l cx M_LW_law 9 576 (20 * k9 + 4) (300 * k9 + 50) 735 [(0, .inr (.inr x0)), (1, .inr (.inr x1)), (2, .inr (.inr x2)), (3, .inr (.inr x3)), (4, .inl x4)] [] σ R) (fun (k9 : Nat) (x0 : Nat) (x1 : Nat) (x2 : Nat) (x3 : Nat) (x4 : Int32) (σ : q_S) => q_G l cx M_LW_law 9 576 (20 * k9 + 0) (300 * k9 + 0) 989 [(0, .inr (.inr x0)), (1, .inr (.inr x1)), (2, .inr (.inr x2)), (3, .inr (.inr x3)), (4, .inl x4)] [] σ R) (fun (k9 : Nat) (x0 : Nat) (x1 : Nat) (x2 : Nat) (x3 : Nat) (x4 : Int32) (σ : q_S) => q_G l cx M_LW_law 9 576 (20 * k9 + 2) (300 * k9 + 12) 1002 [(0, .inr (.inr x0)), (1, .inr (.inr x1)), (2, .inr (.inr x2)), (3, .inr (.inr x3)), (4, .inl x4)] [] σ R) (fun (k9 : Nat) (x0 : Nat) (x1 : Nat) (x2 : Nat) (x3 : Nat) (x4 : Int32) (σ : q_S) => q_G l cx M_LW_law 9 576 (20 * k9 + 2) (300 * k9 + 12) 1070 [(0, .inr (.inr x0)), (1, .inr (.inr x1)), (2, .inr (.inr x2)), (3, .inr (.inr x3)), (4, .inl x4)] [] σ R) (fun (k9 : Nat) (x0 : Nat) (x1 : Nat) (x2 : Nat) (x3 : Nat) (x4 : Int32) (σ : q_S) => q_G l cx M_LW_law 9 576 (20 * k9 + 1) (300 * k9 + 6) 1173 [(0, .inr (.inr x0)), (1, .inr (.inr x1)), (2, .inr (.inr x2)), (3, .inr (.inr x3)), (4, .inl x4)] [] σ R) (fun (k9 : Nat) (x0 : Nat) (x1 : Nat) (x2 : Nat) (x3 : Nat) (x4 : Int32) (σ : q_S) => q_G l cx M_LW_law 9 576 (20 * k9 + 1) (300 * k9 + 6) 1324 [(0, .inr (.inr x0)), (1, .inr (.inr x1)), (2, .inr (.inr x2)), (3, .inr (.inr x3)), (4, .inl x4)] [] σ R) (fun (k9 : Nat) (x0 : Nat) (x1 : Nat) (x2 : Nat) (x3 : Nat) (x4 : Int32) (σ : q_S) => q_G l cx M_LW_law 9 576 (20 * k9 + 1) (300 * k9 + 6) 1380 [(0, .inr (.inr x0)), (1, .inr (.inr x1)), (2, .inr (.inr x2)), (3, .inr (.inr x3)), (4, .inl x4)] [] σ R) (fun (k9 : Nat) (x0 : Nat) (x1 : Nat) (x2 : Nat) (x3 : Nat) (x4 : Int32) (σ : q_S) => q_G l cx M_LW_law 9 576 (20 * k9 + 2) (300 * k9 + 12) 1460 [(0, .inr (.inr x0)), (1, .inr (.inr x1)), (2, .inr (.inr x2)), (3, .inr (.inr x3)), (4, .inl x4)] [] σ R) (fun (k9 : Nat) (x0 : Nat) (x1 : Nat) (x2 : Nat) (x3 : Nat) (x4 : Int32) (σ : q_S) => q_G l cx M_LW_law 9 576 (20 * k9 + 2) (300 * k9 + 12) 1560 [(0, .inr (.inr x0)), (1, .inr (.inr x1)), (2, .inr (.inr x2)), (3, .inr (.inr x3)), (4, .inl x4)] [] σ R) (fun (k9 : Nat) (x0 : Nat) (x1 : Nat) (x2 : Nat) (x3 : Nat) (x4 : Int32) (σ : q_S) => q_G l cx M_LW_law 9 576 (20 * k9 + 0) (300 * k9 + 0) 1711 [(0, .inr (.inr x0)), (1, .inr (.inr x1)), (2, .inr (.inr x2)), (3, .inr (.inr x3)), (4, .inl x4)] [] σ R) (fun (k9 : Nat) (x0 : Nat) (x1 : Nat) (x2 : Nat) (x3 : Nat) (x4 : Int32) (σ : q_S) => q_G l cx M_LW_law 9 576 (20 * k9 + 1) (300 * k9 + 6) 1906 [(0, .inr (.inr x0)), (1, .inr (.inr x1)), (2, .inr (.inr x2)), (3, .inr (.inr x3)), (4, .inl x4)] [] σ R) (fun (k9 : Nat) (x0 : Nat) (x1 : Nat) (x2 : Nat) (x3 : Nat) (x4 : Int32) (σ : q_S) => q_G l cx M_LW_law 9 576 (20 * k9 + 0) (300 * k9 + 0) 1969 [(0, .inr (.inr x0)), (1, .inr (.inr x1)), (2, .inr (.inr x2)), (3, .inr (.inr x3)), (4, .inl x4)] [] σ R) := by
      intro k9 x0 x1 x2 x3 x4 σ hV
      show q_G l cx M_LW_law 9 576 (20 * (k9 + 1) + 0) (300 * (k9 + 1) + 0) 33 [(0, .inr (.inr x0)), (1, .inr (.inr x1)), (2, .inr (.inr x2)), (3, .inr (.inr x3)), (4, .inl x4)] [] σ R
      refine q_less (kc' := 20 * k9 + 20) (ks' := 300 * k9 + 300) (by omega) (by omega) ?_
      refine q_run k_LW_law_0 19 5 40 rfl ?_
      show 1000 ≤ q_K σ x0 ∧ q_G l cx M_LW_law 9 576 (20 * k9 + 20) (300 * k9 + 300) 40 [(0, .inr (.inr x0)), (1, .inr (.inr x1)), (2, .inr (.inr x2)), (3, .inr (.inr x3)), (4, .inl x4)] [.inl ((nI (q_Z σ x0)) - (11 : Int32)), .inl x4] σ R
      obtain ⟨s1, hV⟩ := hV
      refine ⟨s1, ?_⟩
      refine q_icmp (q_dc k_LW_law_0 24 rfl) rfl (fun h2 => ?_) (fun h2 => ?_)
      · have hV := hV.1 h2
        refine q_run k_LW_law_30 2 1 1976 rfl ?_
        show q_G l cx M_LW_law 9 576 (20 * k9 + 20) (300 * k9 + 300) 1976 [(0, .inr (.inr x0)), (1, .inr (.inr x1)), (2, .inr (.inr x2)), (3, .inr (.inr x3)), (4, .inl x4)] [.inl (1 : Int32)] σ R
        exact q_zreturn (q_dc k_LW_law_30 3 rfl) rfl (by decide) hV
      · have hV := hV.2 h2
        refine q_run k_LW_law_0 25 5 50 rfl ?_
        show (q_K σ x0 = 1000 ∨ q_K σ x0 = 2000) ∧ vp_in x4 (q_Z σ x0) ∧ q_G l cx M_LW_law 9 576 (20 * k9 + 20) (300 * k9 + 300) 50 [(0, .inr (.inr x0)), (1, .inr (.inr x1)), (2, .inr (.inr x2)), (3, .inr (.inr x3)), (4, .inl x4)] [.inl ((q_I σ x0 x4.toNatClampNeg) &&& (15 : Int32))] σ R
        obtain ⟨s3, s4, hV⟩ := hV
        refine ⟨s3, s4, ?_⟩
        by_cases h5 : ((q_I σ x0 x4.toNatClampNeg) &&& (15 : Int32)) = (0 : Int32)
        · have hV := hV.1 h5
          refine q_tsI (i := 0) (off := 78) (tgt := 128) (q_dc k_LW_law_0 30 rfl) h5 (by decide) rfl rfl ?_
          exact q_less (Nat.add_le_add_left (Nat.le_of_ble_eq_true rfl) _) (Nat.add_le_add_left (Nat.le_of_ble_eq_true rfl) _) (q_subk [0, 1, 2, 3, 4] rfl hV)
        have hV := hV.2 h5
        by_cases h6 : ((q_I σ x0 x4.toNatClampNeg) &&& (15 : Int32)) = (1 : Int32)
        · have hV := hV.1 h6
          refine q_tsI (i := 1) (off := 158) (tgt := 208) (q_dc k_LW_law_0 30 rfl) h6 (by decide) rfl rfl ?_
          exact q_less (Nat.add_le_add_left (Nat.le_of_ble_eq_true rfl) _) (Nat.add_le_add_left (Nat.le_of_ble_eq_true rfl) _) (q_subk [0, 1, 2, 3, 4] rfl hV)
        have hV := hV.2 h6
        by_cases h7 : ((q_I σ x0 x4.toNatClampNeg) &&& (15 : Int32)) = (2 : Int32)
        · have hV := hV.1 h7
          refine q_tsI (i := 2) (off := 309) (tgt := 359) (q_dc k_LW_law_0 30 rfl) h7 (by decide) rfl rfl ?_
          exact q_less (Nat.add_le_add_left (Nat.le_of_ble_eq_true rfl) _) (Nat.add_le_add_left (Nat.le_of_ble_eq_true rfl) _) (q_subk [0, 1, 2, 3, 4] rfl hV)
        have hV := hV.2 h7
        by_cases h8 : ((q_I σ x0 x4.toNatClampNeg) &&& (15 : Int32)) = (3 : Int32)
        · have hV := hV.1 h8
          refine q_tsI (i := 3) (off := 372) (tgt := 422) (q_dc k_LW_law_0 30 rfl) h8 (by decide) rfl rfl ?_
          exact q_less (Nat.add_le_add_left (Nat.le_of_ble_eq_true rfl) _) (Nat.add_le_add_left (Nat.le_of_ble_eq_true rfl) _) (q_subk [0, 1, 2, 3, 4] rfl hV)
        have hV := hV.2 h8
        by_cases h9 : ((q_I σ x0 x4.toNatClampNeg) &&& (15 : Int32)) = (4 : Int32)
        · have hV := hV.1 h9
          refine q_tsI (i := 4) (off := 578) (tgt := 628) (q_dc k_LW_law_0 30 rfl) h9 (by decide) rfl rfl ?_
          exact q_less (Nat.add_le_add_left (Nat.le_of_ble_eq_true rfl) _) (Nat.add_le_add_left (Nat.le_of_ble_eq_true rfl) _) (q_subk [0, 1, 2, 3, 4] rfl hV)
        have hV := hV.2 h9
        by_cases h10 : ((q_I σ x0 x4.toNatClampNeg) &&& (15 : Int32)) = (5 : Int32)
        · have hV := hV.1 h10
          refine q_tsI (i := 5) (off := 685) (tgt := 735) (q_dc k_LW_law_0 30 rfl) h10 (by decide) rfl rfl ?_
          exact q_less (Nat.add_le_add_left (Nat.le_of_ble_eq_true rfl) _) (Nat.add_le_add_left (Nat.le_of_ble_eq_true rfl) _) (q_subk [0, 1, 2, 3, 4] rfl hV)
        have hV := hV.2 h10
        by_cases h11 : ((q_I σ x0 x4.toNatClampNeg) &&& (15 : Int32)) = (6 : Int32)
        · have hV := hV.1 h11
          refine q_tsI (i := 6) (off := 939) (tgt := 989) (q_dc k_LW_law_0 30 rfl) h11 (by decide) rfl rfl ?_
          exact q_less (Nat.add_le_add_left (Nat.le_of_ble_eq_true rfl) _) (Nat.add_le_add_left (Nat.le_of_ble_eq_true rfl) _) (q_subk [0, 1, 2, 3, 4] rfl hV)
        have hV := hV.2 h11
        by_cases h12 : ((q_I σ x0 x4.toNatClampNeg) &&& (15 : Int32)) = (7 : Int32)
        · have hV := hV.1 h12
          refine q_tsI (i := 7) (off := 952) (tgt := 1002) (q_dc k_LW_law_0 30 rfl) h12 (by decide) rfl rfl ?_
          exact q_less (Nat.add_le_add_left (Nat.le_of_ble_eq_true rfl) _) (Nat.add_le_add_left (Nat.le_of_ble_eq_true rfl) _) (q_subk [0, 1, 2, 3, 4] rfl hV)
        have hV := hV.2 h12
        by_cases h13 : ((q_I σ x0 x4.toNatClampNeg) &&& (15 : Int32)) = (8 : Int32)
        · have hV := hV.1 h13
          refine q_tsI (i := 8) (off := 1020) (tgt := 1070) (q_dc k_LW_law_0 30 rfl) h13 (by decide) rfl rfl ?_
          exact q_less (Nat.add_le_add_left (Nat.le_of_ble_eq_true rfl) _) (Nat.add_le_add_left (Nat.le_of_ble_eq_true rfl) _) (q_subk [0, 1, 2, 3, 4] rfl hV)
        have hV := hV.2 h13
        by_cases h14 : ((q_I σ x0 x4.toNatClampNeg) &&& (15 : Int32)) = (9 : Int32)
        · have hV := hV.1 h14
          refine q_tsI (i := 9) (off := 1123) (tgt := 1173) (q_dc k_LW_law_0 30 rfl) h14 (by decide) rfl rfl ?_
          exact q_less (Nat.add_le_add_left (Nat.le_of_ble_eq_true rfl) _) (Nat.add_le_add_left (Nat.le_of_ble_eq_true rfl) _) (q_subk [0, 1, 2, 3, 4] rfl hV)
        have hV := hV.2 h14
        by_cases h15 : ((q_I σ x0 x4.toNatClampNeg) &&& (15 : Int32)) = (10 : Int32)
        · have hV := hV.1 h15
          refine q_tsI (i := 10) (off := 1274) (tgt := 1324) (q_dc k_LW_law_0 30 rfl) h15 (by decide) rfl rfl ?_
          exact q_less (Nat.add_le_add_left (Nat.le_of_ble_eq_true rfl) _) (Nat.add_le_add_left (Nat.le_of_ble_eq_true rfl) _) (q_subk [0, 1, 2, 3, 4] rfl hV)
        have hV := hV.2 h15
        by_cases h16 : ((q_I σ x0 x4.toNatClampNeg) &&& (15 : Int32)) = (11 : Int32)
        · have hV := hV.1 h16
          refine q_tsI (i := 11) (off := 1330) (tgt := 1380) (q_dc k_LW_law_0 30 rfl) h16 (by decide) rfl rfl ?_
          exact q_less (Nat.add_le_add_left (Nat.le_of_ble_eq_true rfl) _) (Nat.add_le_add_left (Nat.le_of_ble_eq_true rfl) _) (q_subk [0, 1, 2, 3, 4] rfl hV)
        have hV := hV.2 h16
        by_cases h17 : ((q_I σ x0 x4.toNatClampNeg) &&& (15 : Int32)) = (12 : Int32)
        · have hV := hV.1 h17
          refine q_tsI (i := 12) (off := 1410) (tgt := 1460) (q_dc k_LW_law_0 30 rfl) h17 (by decide) rfl rfl ?_
          exact q_less (Nat.add_le_add_left (Nat.le_of_ble_eq_true rfl) _) (Nat.add_le_add_left (Nat.le_of_ble_eq_true rfl) _) (q_subk [0, 1, 2, 3, 4] rfl hV)
        have hV := hV.2 h17
        by_cases h18 : ((q_I σ x0 x4.toNatClampNeg) &&& (15 : Int32)) = (13 : Int32)
        · have hV := hV.1 h18
          refine q_tsI (i := 13) (off := 1510) (tgt := 1560) (q_dc k_LW_law_0 30 rfl) h18 (by decide) rfl rfl ?_
          exact q_less (Nat.add_le_add_left (Nat.le_of_ble_eq_true rfl) _) (Nat.add_le_add_left (Nat.le_of_ble_eq_true rfl) _) (q_subk [0, 1, 2, 3, 4] rfl hV)
        have hV := hV.2 h18
        by_cases h19 : ((q_I σ x0 x4.toNatClampNeg) &&& (15 : Int32)) = (14 : Int32)
        · have hV := hV.1 h19
          refine q_tsI (i := 14) (off := 1661) (tgt := 1711) (q_dc k_LW_law_0 30 rfl) h19 (by decide) rfl rfl ?_
          exact q_less (Nat.add_le_add_left (Nat.le_of_ble_eq_true rfl) _) (Nat.add_le_add_left (Nat.le_of_ble_eq_true rfl) _) (q_subk [0, 1, 2, 3, 4] rfl hV)
        have hV := hV.2 h19
        by_cases h20 : ((q_I σ x0 x4.toNatClampNeg) &&& (15 : Int32)) = (15 : Int32)
        · have hV := hV.1 h20
          refine q_tsI (i := 15) (off := 1856) (tgt := 1906) (q_dc k_LW_law_0 30 rfl) h20 (by decide) rfl rfl ?_
          exact q_less (Nat.add_le_add_left (Nat.le_of_ble_eq_true rfl) _) (Nat.add_le_add_left (Nat.le_of_ble_eq_true rfl) _) (q_subk [0, 1, 2, 3, 4] rfl hV)
        have hV := hV.2 h20
        obtain ⟨s21, hV⟩ := hV
        refine q_tsD (tgt := 1969) (q_dc k_LW_law_0 30 rfl) s21 rfl ?_
        exact q_less (Nat.add_le_add_left (Nat.le_of_ble_eq_true rfl) _) (Nat.add_le_add_left (Nat.le_of_ble_eq_true rfl) _) (q_subk [0, 1, 2, 3, 4] rfl hV)
set_option maxRecDepth 100000 in
theorem t_LW_law_128 {l : Launch} {cx : q_C} {R : q_O → q_S → Prop} (hlf : l.flags = pinnedFlags ++ [noTraceFlag]) : V_LW_law_128 R (fun (k9 : Nat) (x0 : Nat) (x1 : Nat) (x2 : Nat) (x3 : Nat) (x4 : Int32) (σ : q_S) => q_G l cx M_LW_law 9 576 (20 * k9 + 13) (300 * k9 + 198) 128 [(0, .inr (.inr x0)), (1, .inr (.inr x1)), (2, .inr (.inr x2)), (3, .inr (.inr x3)), (4, .inl x4)] [] σ R) (fun (k9 : Nat) (x0 : Nat) (x1 : Nat) (x2 : Nat) (x3 : Nat) (x4 : Int32) (σ : q_S) => q_G l cx M_LW_law 9 576 (20 * k9 + 0) (300 * k9 + 0) 205 [(0, .inr (.inr x0)), (1, .inr (.inr x1)), (2, .inr (.inr x2)), (3, .inr (.inr x3)), (4, .inl x4)] [] σ R) := by
      intro k9 x0 x1 x2 x3 x4 σ hV
      show q_G l cx M_LW_law 9 576 (20 * k9 + 13) (300 * k9 + 198) 128 [(0, .inr (.inr x0)), (1, .inr (.inr x1)), (2, .inr (.inr x2)), (3, .inr (.inr x3)), (4, .inl x4)] [] σ R
      refine q_run k_LW_law_1 0 17 148 rfl ?_
      show (q_K σ x0 = 1000 ∨ q_K σ x0 = 2000) ∧ vp_in (x4 + (1 : Int32)) (q_Z σ x0) ∧ (q_K σ x0 = 1000 ∨ q_K σ x0 = 2000) ∧ vp_in (x4 + (2 : Int32)) (q_Z σ x0) ∧ (q_K σ x0 = 1000 ∨ q_K σ x0 = 2000) ∧ vp_in (x4 + (3 : Int32)) (q_Z σ x0) ∧ q_G l cx M_LW_law 9 576 (20 * k9 + 13) (300 * k9 + 198) 148 [(0, .inr (.inr x0)), (1, .inr (.inr x1)), (2, .inr (.inr x2)), (3, .inr (.inr x3)), (4, .inl x4)] [.inr (.inr x3), .inl (q_I σ x0 (x4 + (3 : Int32)).toNatClampNeg), .inl (q_I σ x0 (x4 + (2 : Int32)).toNatClampNeg), .inl (q_I σ x0 (x4 + (1 : Int32)).toNatClampNeg), .inr (.inr x1)] σ R
      obtain ⟨s1, s2, s3, s4, s5, s6, hV⟩ := hV
      refine ⟨s1, s2, s3, s4, s5, s6, ?_⟩
      refine q_less (kc' := (20 * k9 + 0) + 13) (ks' := (300 * k9 + 0) + 198) (Nat.add_le_add_left (Nat.le_of_ble_eq_true rfl) _) (Nat.add_le_add_left (Nat.le_of_ble_eq_true rfl) _) ?_
      refine q_callS (st := []) (t_LW_plane (l := l) (cx := cx) hlf hV) (q_dc k_LW_law_1 17 rfl) (Or.inl (List.mem_of_getElem? (i := 292) (by decide +kernel))) w_LW_plane s_LW_plane a_LW_plane (q_wt (Nat.le_of_ble_eq_true rfl)) ⟨Nat.le_of_ble_eq_true rfl, Nat.le_of_ble_eq_true rfl⟩ (fun v9 τ9 q9 => ?_) (fun n9 τ9 q9 => q_T.leave rfl q9)
      obtain ⟨v9, rfl, hV⟩ := q_ci_elim q9
      clear q9
      have hV := hV
      revert hV
      generalize τ9 = σ10
      intro hV
      show q_G l cx M_LW_law 9 576 (20 * k9 + 0) (300 * k9 + 0) 151 [(0, .inr (.inr x0)), (1, .inr (.inr x1)), (2, .inr (.inr x2)), (3, .inr (.inr x3)), (4, .inl x4)] [.inl v9] σ10 R
      refine q_run k_LW_law_1 18 17 172 rfl ?_
      show (q_K σ10 x0 = 1000 ∨ q_K σ10 x0 = 2000) ∧ vp_in (x4 + (1 : Int32)) (q_Z σ10 x0) ∧ (q_K σ10 x0 = 1000 ∨ q_K σ10 x0 = 2000) ∧ vp_in (x4 + (2 : Int32)) (q_Z σ10 x0) ∧ (q_K σ10 x0 = 1000 ∨ q_K σ10 x0 = 2000) ∧ vp_in (x4 + (3 : Int32)) (q_Z σ10 x0) ∧ q_G l cx M_LW_law 9 576 (20 * k9 + 0) (300 * k9 + 0) 172 [(5, .inl v9), (0, .inr (.inr x0)), (1, .inr (.inr x1)), (2, .inr (.inr x2)), (3, .inr (.inr x3)), (4, .inl x4)] [.inl (q_I σ10 x0 (x4 + (3 : Int32)).toNatClampNeg), .inl (q_I σ10 x0 (x4 + (2 : Int32)).toNatClampNeg), .inl (q_I σ10 x0 (x4 + (1 : Int32)).toNatClampNeg), .inr (.inr x2)] σ10 R
      obtain ⟨s11, s12, s13, s14, s15, s16, hV⟩ := hV
      refine ⟨s11, s12, s13, s14, s15, s16, ?_⟩
      obtain ⟨s17, hV⟩ := hV
      refine q_callV (st := []) (as := [.inl (q_I σ10 x0 (x4 + (1 : Int32)).toNatClampNeg), .inl (q_I σ10 x0 (x4 + (2 : Int32)).toNatClampNeg), .inl (q_I σ10 x0 (x4 + (3 : Int32)).toNatClampNeg)]) (t_PM_plane (l := l) (cx := cx)  hV) (q_dc k_LW_law_1 35 rfl) (Or.inl (List.mem_of_getElem? (i := 940) (by decide +kernel))) w_PM_plane n_PM_plane (ci := 6) rfl e_PM_plane a_PM_plane (q_wt (Nat.le_of_ble_eq_true rfl)) ⟨Nat.le_of_ble_eq_true rfl, Nat.le_of_ble_eq_true rfl⟩ s17 (fun v9 τ9 q9 => ?_) (fun n9 τ9 q9 => q_T.leave rfl q9)
      obtain ⟨v20, rfl, hV⟩ := q_ci_elim q9
      clear q9
      have hV := hV
      revert hV
      generalize τ9 = σ21
      intro hV
      show q_G l cx M_LW_law 9 576 (20 * k9 + 0) (300 * k9 + 0) 175 [(5, .inl v9), (0, .inr (.inr x0)), (1, .inr (.inr x1)), (2, .inr (.inr x2)), (3, .inr (.inr x3)), (4, .inl x4)] [.inl v20] σ21 R
      refine q_run k_LW_law_1 36 2 178 rfl ?_
      show q_G l cx M_LW_law 9 576 (20 * k9 + 0) (300 * k9 + 0) 178 [(6, .inl v20), (5, .inl v9), (0, .inr (.inr x0)), (1, .inr (.inr x1)), (2, .inr (.inr x2)), (3, .inr (.inr x3)), (4, .inl x4)] [.inr (.inr x2)] σ21 R
      obtain ⟨s22, hV⟩ := hV
      refine q_callV (st := []) (as := []) (t_PM_thrown (l := l) (cx := cx) (σ := σ21) x2 s22) (q_dc k_LW_law_1 38 rfl) (Or.inl (List.mem_of_getElem? (i := 936) (by decide +kernel))) w_PM_thrown n_PM_thrown (ci := 6) rfl e_PM_thrown a_PM_thrown (q_wt (Nat.le_of_ble_eq_true rfl)) ⟨Nat.le_of_ble_eq_true rfl, Nat.le_of_ble_eq_true rfl⟩ s22 (fun v9 τ9 q9 => ?_) (fun n9 τ9 q9 => by cases q9.1)
      obtain ⟨q8, q7⟩ := q9
      cases q8
      rw [q7]
      show q_G l cx M_LW_law 9 576 (20 * k9 + 0) (300 * k9 + 0) 181 [(6, .inl v20), (5, .inl v9), (0, .inr (.inr x0)), (1, .inr (.inr x1)), (2, .inr (.inr x2)), (3, .inr (.inr x3)), (4, .inl x4)] [.inl (f_PM_thrown σ21 x2)] σ21 R
      refine q_run k_LW_law_1 39 1 183 rfl ?_
      show q_G l cx M_LW_law 9 576 (20 * k9 + 0) (300 * k9 + 0) 183 [(6, .inl v20), (5, .inl v9), (0, .inr (.inr x0)), (1, .inr (.inr x1)), (2, .inr (.inr x2)), (3, .inr (.inr x3)), (4, .inl x4)] [.inl v9, .inl (f_PM_thrown σ21 x2)] σ21 R
      refine q_icmp (q_dc k_LW_law_1 40 rfl) rfl (fun h23 => ?_) (fun h23 => ?_)
      · have hV := hV.1 h23
        refine q_run k_LW_law_1 43 1 190 rfl ?_
        show q_G l cx M_LW_law 9 576 (20 * k9 + 0) (300 * k9 + 0) 190 [(6, .inl v20), (5, .inl v9), (0, .inr (.inr x0)), (1, .inr (.inr x1)), (2, .inr (.inr x2)), (3, .inr (.inr x3)), (4, .inl x4)] [.inl v9] σ21 R
        refine q_ifz (q_dc k_LW_law_1 44 rfl) rfl (fun h24 => ?_) (fun h24 => ?_)
        · have hV := hV.1 h24
          exact q_less (Nat.add_le_add_left (Nat.le_of_ble_eq_true rfl) _) (Nat.add_le_add_left (Nat.le_of_ble_eq_true rfl) _) (q_subk [2, 3, 4, 5, 6] rfl hV)
        · have hV := hV.2 h24
          refine q_run k_LW_law_1 45 6 200 rfl ?_
          show q_K σ21 x3 = 1001 ∧ vp_in (0 : Int32) (q_Z σ21 x3) ∧ q_G l cx M_LW_law 9 576 (20 * k9 + 0) (300 * k9 + 0) 200 [(6, .inl v20), (5, .inl v9), (0, .inr (.inr x0)), (1, .inr (.inr x1)), (2, .inr (.inr x2)), (3, .inr (.inr x3)), (4, .inl x4)] [.inl (lg_cmp (q_L σ21 x3 (0 : Int32).toNatClampNeg) v20.toInt64)] σ21 R
          obtain ⟨s25, s26, hV⟩ := hV
          refine ⟨s25, s26, ?_⟩
          refine q_ifz (q_dc k_LW_law_1 51 rfl) rfl (fun h27 => ?_) (fun h27 => ?_)
          · have hV := hV.1 h27
            exact q_less (Nat.add_le_add_left (Nat.le_of_ble_eq_true rfl) _) (Nat.add_le_add_left (Nat.le_of_ble_eq_true rfl) _) (q_subk [2, 3, 4, 5, 6] rfl hV)
          · have hV := hV.2 h27
            refine q_run k_LW_law_1 52 1 204 rfl ?_
            show q_G l cx M_LW_law 9 576 (20 * k9 + 0) (300 * k9 + 0) 204 [(6, .inl v20), (5, .inl v9), (0, .inr (.inr x0)), (1, .inr (.inr x1)), (2, .inr (.inr x2)), (3, .inr (.inr x3)), (4, .inl x4)] [.inl (0 : Int32)] σ21 R
            exact q_zreturn (q_dc k_LW_law_1 53 rfl) rfl (by decide) hV
      · have hV := hV.2 h23
        refine q_run k_LW_law_1 41 1 187 rfl ?_
        show q_G l cx M_LW_law 9 576 (20 * k9 + 0) (300 * k9 + 0) 187 [(6, .inl v20), (5, .inl v9), (0, .inr (.inr x0)), (1, .inr (.inr x1)), (2, .inr (.inr x2)), (3, .inr (.inr x3)), (4, .inl x4)] [.inl (0 : Int32)] σ21 R
        exact q_zreturn (q_dc k_LW_law_1 42 rfl) rfl (by decide) hV
set_option maxRecDepth 100000 in
theorem t_LW_law_205 {l : Launch} {cx : q_C} {R : q_O → q_S → Prop} (hlf : l.flags = pinnedFlags ++ [noTraceFlag]) : V_LW_law_205 R (fun (k9 : Nat) (x0 : Nat) (x1 : Nat) (x2 : Nat) (x3 : Nat) (x4 : Int32) (σ : q_S) => q_G l cx M_LW_law 9 576 (20 * k9 + 0) (300 * k9 + 0) 205 [(0, .inr (.inr x0)), (1, .inr (.inr x1)), (2, .inr (.inr x2)), (3, .inr (.inr x3)), (4, .inl x4)] [] σ R) (fun (k9 : Nat) (x0 : Nat) (x1 : Nat) (x2 : Nat) (x3 : Nat) (x4 : Int32) (σ : q_S) => q_G l cx M_LW_law 9 576 (20 * k9 + 0) (300 * k9 + 0) 1969 [(0, .inr (.inr x0)), (1, .inr (.inr x1)), (2, .inr (.inr x2)), (3, .inr (.inr x3)), (4, .inl x4)] [] σ R) := by
      intro k9 x0 x1 x2 x3 x4 σ hV
      show q_G l cx M_LW_law 9 576 (20 * k9 + 0) (300 * k9 + 0) 205 [(0, .inr (.inr x0)), (1, .inr (.inr x1)), (2, .inr (.inr x2)), (3, .inr (.inr x3)), (4, .inl x4)] [] σ R
      refine q_goto (q_dc k_LW_law_1 54 rfl) rfl ?_
      exact q_less (Nat.add_le_add_left (Nat.le_of_ble_eq_true rfl) _) (Nat.add_le_add_left (Nat.le_of_ble_eq_true rfl) _) (q_subk [0, 1, 2, 3, 4] rfl hV)
set_option maxRecDepth 100000 in
theorem t_LW_law_208 {l : Launch} {cx : q_C} {R : q_O → q_S → Prop} (hlf : l.flags = pinnedFlags ++ [noTraceFlag]) : V_LW_law_208 R (fun (k9 : Nat) (x0 : Nat) (x1 : Nat) (x2 : Nat) (x3 : Nat) (x4 : Int32) (σ : q_S) => q_G l cx M_LW_law 9 576 (20 * k9 + 2) (300 * k9 + 12) 208 [(0, .inr (.inr x0)), (1, .inr (.inr x1)), (2, .inr (.inr x2)), (3, .inr (.inr x3)), (4, .inl x4)] [] σ R) (fun (k9 : Nat) (x0 : Nat) (x1 : Nat) (x2 : Nat) (x3 : Nat) (x4 : Int32) (y0 : Int64) (y1 : Int64) (σ : q_S) => q_G l cx M_LW_law 9 576 (20 * k9 + 0) (300 * k9 + 0) 350 [(0, .inr (.inr x0)), (1, .inr (.inr x1)), (2, .inr (.inr x2)), (3, .inr (.inr x3)), (4, .inl x4)] [.inr (.inl y0), .inr (.inl y1)] σ R) (fun (k9 : Nat) (x0 : Nat) (x1 : Nat) (x2 : Nat) (x3 : Nat) (x4 : Int32) (σ : q_S) => q_G l cx M_LW_law 9 576 (20 * k9 + 0) (300 * k9 + 0) 356 [(0, .inr (.inr x0)), (1, .inr (.inr x1)), (2, .inr (.inr x2)), (3, .inr (.inr x3)), (4, .inl x4)] [] σ R) := by
      intro k9 x0 x1 x2 x3 x4 σ hV
      show q_G l cx M_LW_law 9 576 (20 * k9 + 2) (300 * k9 + 12) 208 [(0, .inr (.inr x0)), (1, .inr (.inr x1)), (2, .inr (.inr x2)), (3, .inr (.inr x3)), (4, .inl x4)] [] σ R
      refine q_run k_LW_law_2 0 41 260 rfl ?_
      show (q_K σ x0 = 1000 ∨ q_K σ x0 = 2000) ∧ vp_in (x4 + (1 : Int32)) (q_Z σ x0) ∧ (q_K σ x0 = 1000 ∨ q_K σ x0 = 2000) ∧ vp_in (x4 + (2 : Int32)) (q_Z σ x0) ∧ (q_K σ x0 = 1000 ∨ q_K σ x0 = 2000) ∧ vp_in (x4 + (3 : Int32)) (q_Z σ x0) ∧ (q_K σ x0 = 1000 ∨ q_K σ x0 = 2000) ∧ vp_in (x4 + (4 : Int32)) (q_Z σ x0) ∧ (q_K σ x0 = 1000 ∨ q_K σ x0 = 2000) ∧ vp_in (x4 + (5 : Int32)) (q_Z σ x0) ∧ q_G l cx M_LW_law 9 576 (20 * k9 + 2) (300 * k9 + 12) 260 [(0, .inr (.inr x0)), (1, .inr (.inr x1)), (2, .inr (.inr x2)), (3, .inr (.inr x3)), (4, .inl x4)] [.inr (.inr x3), .inr (.inl ((((q_I σ x0 (x4 + (4 : Int32)).toNatClampNeg).toInt64) <<< ((32 : Int32).toInt64 &&& 63)) ||| (((q_I σ x0 (x4 + (5 : Int32)).toNatClampNeg).toInt64) &&& (4294967295 : Int64)))), .inr (.inl ((((q_I σ x0 (x4 + (2 : Int32)).toNatClampNeg).toInt64) <<< ((32 : Int32).toInt64 &&& 63)) ||| (((q_I σ x0 (x4 + (3 : Int32)).toNatClampNeg).toInt64) &&& (4294967295 : Int64)))), .inl (q_I σ x0 (x4 + (1 : Int32)).toNatClampNeg), .inr (.inr x1)] σ R
      obtain ⟨s1, s2, s3, s4, s5, s6, s7, s8, s9, s10, hV⟩ := hV
      refine ⟨s1, s2, s3, s4, s5, s6, s7, s8, s9, s10, ?_⟩
      refine q_less (kc' := (20 * k9 + 0) + 2) (ks' := (300 * k9 + 0) + 12) (Nat.add_le_add_left (Nat.le_of_ble_eq_true rfl) _) (Nat.add_le_add_left (Nat.le_of_ble_eq_true rfl) _) ?_
      refine q_callS (st := []) (t_LW_corner (l := l) (cx := cx) hlf hV) (q_dc k_LW_law_2 41 rfl) (Or.inl (List.mem_of_getElem? (i := 679) (by decide +kernel))) w_LW_corner s_LW_corner a_LW_corner (q_wt (Nat.le_of_ble_eq_true rfl)) ⟨Nat.le_of_ble_eq_true rfl, Nat.le_of_ble_eq_true rfl⟩ (fun v9 τ9 q9 => ?_) (fun n9 τ9 q9 => q_T.leave rfl q9)
      obtain ⟨v13, rfl, hV⟩ := q_ci_elim q9
      clear q9
      have hV := hV
      revert hV
      generalize τ9 = σ14
      intro hV
      show q_G l cx M_LW_law 9 576 (20 * k9 + 0) (300 * k9 + 0) 263 [(0, .inr (.inr x0)), (1, .inr (.inr x1)), (2, .inr (.inr x2)), (3, .inr (.inr x3)), (4, .inl x4)] [.inl v13] σ14 R
      refine q_run k_LW_law_2 42 8 273 rfl ?_
      show (q_K σ14 x0 = 1000 ∨ q_K σ14 x0 = 2000) ∧ vp_in (x4 + (1 : Int32)) (q_Z σ14 x0) ∧ q_G l cx M_LW_law 9 576 (20 * k9 + 0) (300 * k9 + 0) 273 [(5, .inl v13), (0, .inr (.inr x0)), (1, .inr (.inr x1)), (2, .inr (.inr x2)), (3, .inr (.inr x3)), (4, .inl x4)] [.inr (.inr x0), .inl (q_I σ14 x0 (x4 + (1 : Int32)).toNatClampNeg), .inr (.inr x2)] σ14 R
      obtain ⟨s15, s16, hV⟩ := hV
      refine ⟨s15, s16, ?_⟩
      refine q_run k_LW_law_3 0 33 316 rfl ?_
      show (q_K σ14 x0 = 1000 ∨ q_K σ14 x0 = 2000) ∧ vp_in (x4 + (2 : Int32)) (q_Z σ14 x0) ∧ (q_K σ14 x0 = 1000 ∨ q_K σ14 x0 = 2000) ∧ vp_in (x4 + (3 : Int32)) (q_Z σ14 x0) ∧ (q_K σ14 x0 = 1000 ∨ q_K σ14 x0 = 2000) ∧ vp_in (x4 + (4 : Int32)) (q_Z σ14 x0) ∧ (q_K σ14 x0 = 1000 ∨ q_K σ14 x0 = 2000) ∧ vp_in (x4 + (5 : Int32)) (q_Z σ14 x0) ∧ q_G l cx M_LW_law 9 576 (20 * k9 + 0) (300 * k9 + 0) 316 [(5, .inl v13), (0, .inr (.inr x0)), (1, .inr (.inr x1)), (2, .inr (.inr x2)), (3, .inr (.inr x3)), (4, .inl x4)] [.inr (.inl ((((q_I σ14 x0 (x4 + (4 : Int32)).toNatClampNeg).toInt64) <<< ((32 : Int32).toInt64 &&& 63)) ||| (((q_I σ14 x0 (x4 + (5 : Int32)).toNatClampNeg).toInt64) &&& (4294967295 : Int64)))), .inr (.inl ((((q_I σ14 x0 (x4 + (2 : Int32)).toNatClampNeg).toInt64) <<< ((32 : Int32).toInt64 &&& 63)) ||| (((q_I σ14 x0 (x4 + (3 : Int32)).toNatClampNeg).toInt64) &&& (4294967295 : Int64)))), .inl (q_I σ14 x0 (x4 + (1 : Int32)).toNatClampNeg), .inr (.inr x2)] σ14 R
      obtain ⟨s17, s18, s19, s20, s21, s22, s23, s24, hV⟩ := hV
      refine ⟨s17, s18, s19, s20, s21, s22, s23, s24, ?_⟩
      obtain ⟨s25, hV⟩ := hV
      refine q_callV (st := []) (as := [.inl (q_I σ14 x0 (x4 + (1 : Int32)).toNatClampNeg), .inr (.inl ((((q_I σ14 x0 (x4 + (2 : Int32)).toNatClampNeg).toInt64) <<< ((32 : Int32).toInt64 &&& 63)) ||| (((q_I σ14 x0 (x4 + (3 : Int32)).toNatClampNeg).toInt64) &&& (4294967295 : Int64)))), .inr (.inl ((((q_I σ14 x0 (x4 + (4 : Int32)).toNatClampNeg).toInt64) <<< ((32 : Int32).toInt64 &&& 63)) ||| (((q_I σ14 x0 (x4 + (5 : Int32)).toNatClampNeg).toInt64) &&& (4294967295 : Int64))))]) (t_PM_corner (l := l) (cx := cx)  hV) (q_dc k_LW_law_3 33 rfl) (Or.inl (List.mem_of_getElem? (i := 950) (by decide +kernel))) w_PM_corner n_PM_corner (ci := 6) rfl e_PM_corner a_PM_corner (q_wt (Nat.le_of_ble_eq_true rfl)) ⟨Nat.le_of_ble_eq_true rfl, Nat.le_of_ble_eq_true rfl⟩ s25 (fun v9 τ9 q9 => ?_) (fun n9 τ9 q9 => q_T.leave rfl q9)
      obtain ⟨v28, rfl, hV⟩ := q_ci_elim q9
      clear q9
      have hV := hV
      revert hV
      generalize τ9 = σ29
      intro hV
      show q_G l cx M_LW_law 9 576 (20 * k9 + 0) (300 * k9 + 0) 319 [(5, .inl v13), (0, .inr (.inr x0)), (1, .inr (.inr x1)), (2, .inr (.inr x2)), (3, .inr (.inr x3)), (4, .inl x4)] [.inl v28] σ29 R
      refine q_run k_LW_law_3 34 2 322 rfl ?_
      show q_G l cx M_LW_law 9 576 (20 * k9 + 0) (300 * k9 + 0) 322 [(6, .inl v28), (5, .inl v13), (0, .inr (.inr x0)), (1, .inr (.inr x1)), (2, .inr (.inr x2)), (3, .inr (.inr x3)), (4, .inl x4)] [.inr (.inr x2)] σ29 R
      obtain ⟨s30, hV⟩ := hV
      refine q_callV (st := []) (as := []) (t_PM_thrown (l := l) (cx := cx) (σ := σ29) x2 s30) (q_dc k_LW_law_3 36 rfl) (Or.inl (List.mem_of_getElem? (i := 936) (by decide +kernel))) w_PM_thrown n_PM_thrown (ci := 6) rfl e_PM_thrown a_PM_thrown (q_wt (Nat.le_of_ble_eq_true rfl)) ⟨Nat.le_of_ble_eq_true rfl, Nat.le_of_ble_eq_true rfl⟩ s30 (fun v9 τ9 q9 => ?_) (fun n9 τ9 q9 => by cases q9.1)
      obtain ⟨q8, q7⟩ := q9
      cases q8
      rw [q7]
      show q_G l cx M_LW_law 9 576 (20 * k9 + 0) (300 * k9 + 0) 325 [(6, .inl v28), (5, .inl v13), (0, .inr (.inr x0)), (1, .inr (.inr x1)), (2, .inr (.inr x2)), (3, .inr (.inr x3)), (4, .inl x4)] [.inl (f_PM_thrown σ29 x2)] σ29 R
      refine q_run k_LW_law_3 37 1 327 rfl ?_
      show q_G l cx M_LW_law 9 576 (20 * k9 + 0) (300 * k9 + 0) 327 [(6, .inl v28), (5, .inl v13), (0, .inr (.inr x0)), (1, .inr (.inr x1)), (2, .inr (.inr x2)), (3, .inr (.inr x3)), (4, .inl x4)] [.inl v13, .inl (f_PM_thrown σ29 x2)] σ29 R
      refine q_icmp (q_dc k_LW_law_3 38 rfl) rfl (fun h31 => ?_) (fun h31 => ?_)
      · have hV := hV.1 h31
        refine q_run k_LW_law_3 41 1 334 rfl ?_
        show q_G l cx M_LW_law 9 576 (20 * k9 + 0) (300 * k9 + 0) 334 [(6, .inl v28), (5, .inl v13), (0, .inr (.inr x0)), (1, .inr (.inr x1)), (2, .inr (.inr x2)), (3, .inr (.inr x3)), (4, .inl x4)] [.inl v13] σ29 R
        refine q_ifz (q_dc k_LW_law_3 42 rfl) rfl (fun h32 => ?_) (fun h32 => ?_)
        · have hV := hV.1 h32
          exact q_less (Nat.add_le_add_left (Nat.le_of_ble_eq_true rfl) _) (Nat.add_le_add_left (Nat.le_of_ble_eq_true rfl) _) (q_subk [2, 3, 4, 5, 6] rfl hV)
        · have hV := hV.2 h32
          refine q_run k_LW_law_3 43 4 342 rfl ?_
          show q_K σ29 x3 = 1001 ∧ vp_in (0 : Int32) (q_Z σ29 x3) ∧ q_G l cx M_LW_law 9 576 (20 * k9 + 0) (300 * k9 + 0) 342 [(6, .inl v28), (5, .inl v13), (0, .inr (.inr x0)), (1, .inr (.inr x1)), (2, .inr (.inr x2)), (3, .inr (.inr x3)), (4, .inl x4)] [.inl v28, .inr (.inl (q_L σ29 x3 (0 : Int32).toNatClampNeg))] σ29 R
          obtain ⟨s33, s34, hV⟩ := hV
          refine ⟨s33, s34, ?_⟩
          refine q_ifz (q_dc k_LW_law_3 47 rfl) rfl (fun h35 => ?_) (fun h35 => ?_)
          · have hV := hV.1 h35
            refine q_run k_LW_law_3 50 1 350 rfl ?_
            show q_G l cx M_LW_law 9 576 (20 * k9 + 0) (300 * k9 + 0) 350 [(6, .inl v28), (5, .inl v13), (0, .inr (.inr x0)), (1, .inr (.inr x1)), (2, .inr (.inr x2)), (3, .inr (.inr x3)), (4, .inl x4)] [.inr (.inl (0 : Int64)), .inr (.inl (q_L σ29 x3 (0 : Int32).toNatClampNeg))] σ29 R
            exact q_less (Nat.add_le_add_left (Nat.le_of_ble_eq_true rfl) _) (Nat.add_le_add_left (Nat.le_of_ble_eq_true rfl) _) (q_subk [2, 3, 4, 5, 6] rfl hV)
          · have hV := hV.2 h35
            refine q_run k_LW_law_3 48 1 346 rfl ?_
            show q_G l cx M_LW_law 9 576 (20 * k9 + 0) (300 * k9 + 0) 346 [(6, .inl v28), (5, .inl v13), (0, .inr (.inr x0)), (1, .inr (.inr x1)), (2, .inr (.inr x2)), (3, .inr (.inr x3)), (4, .inl x4)] [.inr (.inl (1 : Int64)), .inr (.inl (q_L σ29 x3 (0 : Int32).toNatClampNeg))] σ29 R
            refine q_goto (q_dc k_LW_law_3 49 rfl) rfl ?_
            exact q_less (Nat.add_le_add_left (Nat.le_of_ble_eq_true rfl) _) (Nat.add_le_add_left (Nat.le_of_ble_eq_true rfl) _) (q_subk [2, 3, 4, 5, 6] rfl hV)
      · have hV := hV.2 h31
        refine q_run k_LW_law_3 39 1 331 rfl ?_
        show q_G l cx M_LW_law 9 576 (20 * k9 + 0) (300 * k9 + 0) 331 [(6, .inl v28), (5, .inl v13), (0, .inr (.inr x0)), (1, .inr (.inr x1)), (2, .inr (.inr x2)), (3, .inr (.inr x3)), (4, .inl x4)] [.inl (0 : Int32)] σ29 R
        exact q_zreturn (q_dc k_LW_law_3 40 rfl) rfl (by decide) hV
set_option maxRecDepth 100000 in
theorem t_LW_law_350 {l : Launch} {cx : q_C} {R : q_O → q_S → Prop} (hlf : l.flags = pinnedFlags ++ [noTraceFlag]) : V_LW_law_350 R (fun (k9 : Nat) (x0 : Nat) (x1 : Nat) (x2 : Nat) (x3 : Nat) (x4 : Int32) (y0 : Int64) (y1 : Int64) (σ : q_S) => q_G l cx M_LW_law 9 576 (20 * k9 + 0) (300 * k9 + 0) 350 [(0, .inr (.inr x0)), (1, .inr (.inr x1)), (2, .inr (.inr x2)), (3, .inr (.inr x3)), (4, .inl x4)] [.inr (.inl y0), .inr (.inl y1)] σ R) (fun (k9 : Nat) (x0 : Nat) (x1 : Nat) (x2 : Nat) (x3 : Nat) (x4 : Int32) (σ : q_S) => q_G l cx M_LW_law 9 576 (20 * k9 + 0) (300 * k9 + 0) 356 [(0, .inr (.inr x0)), (1, .inr (.inr x1)), (2, .inr (.inr x2)), (3, .inr (.inr x3)), (4, .inl x4)] [] σ R) := by
      intro k9 x0 x1 x2 x3 x4 y0 y1 σ hV
      show q_G l cx M_LW_law 9 576 (20 * k9 + 0) (300 * k9 + 0) 350 [(0, .inr (.inr x0)), (1, .inr (.inr x1)), (2, .inr (.inr x2)), (3, .inr (.inr x3)), (4, .inl x4)] [.inr (.inl y0), .inr (.inl y1)] σ R
      refine q_run k_LW_law_3 51 1 351 rfl ?_
      show q_G l cx M_LW_law 9 576 (20 * k9 + 0) (300 * k9 + 0) 351 [(0, .inr (.inr x0)), (1, .inr (.inr x1)), (2, .inr (.inr x2)), (3, .inr (.inr x3)), (4, .inl x4)] [.inl (lg_cmp y1 y0)] σ R
      refine q_ifz (q_dc k_LW_law_3 52 rfl) rfl (fun h1 => ?_) (fun h1 => ?_)
      · have hV := hV.1 h1
        exact q_less (Nat.add_le_add_left (Nat.le_of_ble_eq_true rfl) _) (Nat.add_le_add_left (Nat.le_of_ble_eq_true rfl) _) (q_subk [0, 1, 2, 3, 4] rfl hV)
      · have hV := hV.2 h1
        refine q_run k_LW_law_3 53 1 355 rfl ?_
        show q_G l cx M_LW_law 9 576 (20 * k9 + 0) (300 * k9 + 0) 355 [(0, .inr (.inr x0)), (1, .inr (.inr x1)), (2, .inr (.inr x2)), (3, .inr (.inr x3)), (4, .inl x4)] [.inl (0 : Int32)] σ R
        exact q_zreturn (q_dc k_LW_law_3 54 rfl) rfl (by decide) hV
set_option maxRecDepth 100000 in
theorem t_LW_law_356 {l : Launch} {cx : q_C} {R : q_O → q_S → Prop} (hlf : l.flags = pinnedFlags ++ [noTraceFlag]) : V_LW_law_356 R (fun (k9 : Nat) (x0 : Nat) (x1 : Nat) (x2 : Nat) (x3 : Nat) (x4 : Int32) (σ : q_S) => q_G l cx M_LW_law 9 576 (20 * k9 + 0) (300 * k9 + 0) 356 [(0, .inr (.inr x0)), (1, .inr (.inr x1)), (2, .inr (.inr x2)), (3, .inr (.inr x3)), (4, .inl x4)] [] σ R) (fun (k9 : Nat) (x0 : Nat) (x1 : Nat) (x2 : Nat) (x3 : Nat) (x4 : Int32) (σ : q_S) => q_G l cx M_LW_law 9 576 (20 * k9 + 0) (300 * k9 + 0) 1969 [(0, .inr (.inr x0)), (1, .inr (.inr x1)), (2, .inr (.inr x2)), (3, .inr (.inr x3)), (4, .inl x4)] [] σ R) := by
      intro k9 x0 x1 x2 x3 x4 σ hV
      show q_G l cx M_LW_law 9 576 (20 * k9 + 0) (300 * k9 + 0) 356 [(0, .inr (.inr x0)), (1, .inr (.inr x1)), (2, .inr (.inr x2)), (3, .inr (.inr x3)), (4, .inl x4)] [] σ R
      refine q_goto (q_dc k_LW_law_3 55 rfl) rfl ?_
      exact q_less (Nat.add_le_add_left (Nat.le_of_ble_eq_true rfl) _) (Nat.add_le_add_left (Nat.le_of_ble_eq_true rfl) _) (q_subk [0, 1, 2, 3, 4] rfl hV)
set_option maxRecDepth 100000 in
theorem t_LW_law_359 {l : Launch} {cx : q_C} {R : q_O → q_S → Prop} (hlf : l.flags = pinnedFlags ++ [noTraceFlag]) : V_LW_law_359 R (fun (k9 : Nat) (x0 : Nat) (x1 : Nat) (x2 : Nat) (x3 : Nat) (x4 : Int32) (σ : q_S) => q_G l cx M_LW_law 9 576 (20 * k9 + 1) (300 * k9 + 6) 359 [(0, .inr (.inr x0)), (1, .inr (.inr x1)), (2, .inr (.inr x2)), (3, .inr (.inr x3)), (4, .inl x4)] [] σ R) (fun (k9 : Nat) (x0 : Nat) (x1 : Nat) (x2 : Nat) (x3 : Nat) (x4 : Int32) (y0 : Int64) (y1 : Int64) (σ : q_S) => q_G l cx M_LW_law 9 576 (20 * k9 + 0) (300 * k9 + 0) 413 [(0, .inr (.inr x0)), (1, .inr (.inr x1)), (2, .inr (.inr x2)), (3, .inr (.inr x3)), (4, .inl x4)] [.inr (.inl y0), .inr (.inl y1)] σ R) (fun (k9 : Nat) (x0 : Nat) (x1 : Nat) (x2 : Nat) (x3 : Nat) (x4 : Int32) (σ : q_S) => q_G l cx M_LW_law 9 576 (20 * k9 + 0) (300 * k9 + 0) 419 [(0, .inr (.inr x0)), (1, .inr (.inr x1)), (2, .inr (.inr x2)), (3, .inr (.inr x3)), (4, .inl x4)] [] σ R) := by
      intro k9 x0 x1 x2 x3 x4 σ hV
      show q_G l cx M_LW_law 9 576 (20 * k9 + 1) (300 * k9 + 6) 359 [(0, .inr (.inr x0)), (1, .inr (.inr x1)), (2, .inr (.inr x2)), (3, .inr (.inr x3)), (4, .inl x4)] [] σ R
      refine q_run k_LW_law_4 0 7 367 rfl ?_
      show (q_K σ x0 = 1000 ∨ q_K σ x0 = 2000) ∧ vp_in (x4 + (1 : Int32)) (q_Z σ x0) ∧ q_G l cx M_LW_law 9 576 (20 * k9 + 1) (300 * k9 + 6) 367 [(0, .inr (.inr x0)), (1, .inr (.inr x1)), (2, .inr (.inr x2)), (3, .inr (.inr x3)), (4, .inl x4)] [.inr (.inr x3), .inl (q_I σ x0 (x4 + (1 : Int32)).toNatClampNeg), .inr (.inr x1)] σ R
      obtain ⟨s1, s2, hV⟩ := hV
      refine ⟨s1, s2, ?_⟩
      refine q_less (kc' := (20 * k9 + 0) + 1) (ks' := (300 * k9 + 0) + 6) (Nat.add_le_add_left (Nat.le_of_ble_eq_true rfl) _) (Nat.add_le_add_left (Nat.le_of_ble_eq_true rfl) _) ?_
      refine q_callS (st := []) (t_LW_ring (l := l) (cx := cx) hlf hV) (q_dc k_LW_law_4 7 rfl) (Or.inl (List.mem_of_getElem? (i := 695) (by decide +kernel))) w_LW_ring s_LW_ring a_LW_ring (q_wt (Nat.le_of_ble_eq_true rfl)) ⟨Nat.le_of_ble_eq_true rfl, Nat.le_of_ble_eq_true rfl⟩ (fun v9 τ9 q9 => ?_) (fun n9 τ9 q9 => q_T.leave rfl q9)
      obtain ⟨v5, rfl, hV⟩ := q_ci_elim q9
      clear q9
      have hV := hV
      revert hV
      generalize τ9 = σ6
      intro hV
      show q_G l cx M_LW_law 9 576 (20 * k9 + 0) (300 * k9 + 0) 370 [(0, .inr (.inr x0)), (1, .inr (.inr x1)), (2, .inr (.inr x2)), (3, .inr (.inr x3)), (4, .inl x4)] [.inl v5] σ6 R
      refine q_run k_LW_law_4 8 7 379 rfl ?_
      show (q_K σ6 x0 = 1000 ∨ q_K σ6 x0 = 2000) ∧ vp_in (x4 + (1 : Int32)) (q_Z σ6 x0) ∧ q_G l cx M_LW_law 9 576 (20 * k9 + 0) (300 * k9 + 0) 379 [(5, .inl v5), (0, .inr (.inr x0)), (1, .inr (.inr x1)), (2, .inr (.inr x2)), (3, .inr (.inr x3)), (4, .inl x4)] [.inl (q_I σ6 x0 (x4 + (1 : Int32)).toNatClampNeg), .inr (.inr x2)] σ6 R
      obtain ⟨s7, s8, hV⟩ := hV
      refine ⟨s7, s8, ?_⟩
      obtain ⟨s9, hV⟩ := hV
      refine q_callV (st := []) (as := [.inl (q_I σ6 x0 (x4 + (1 : Int32)).toNatClampNeg)]) (t_PM_ring (l := l) (cx := cx)  hV) (q_dc k_LW_law_4 15 rfl) (Or.inl (List.mem_of_getElem? (i := 962) (by decide +kernel))) w_PM_ring n_PM_ring (ci := 6) rfl e_PM_ring a_PM_ring (q_wt (Nat.le_of_ble_eq_true rfl)) ⟨Nat.le_of_ble_eq_true rfl, Nat.le_of_ble_eq_true rfl⟩ s9 (fun v9 τ9 q9 => ?_) (fun n9 τ9 q9 => q_T.leave rfl q9)
      obtain ⟨v12, rfl, hV⟩ := q_ci_elim q9
      clear q9
      have hV := hV
      revert hV
      generalize τ9 = σ13
      intro hV
      show q_G l cx M_LW_law 9 576 (20 * k9 + 0) (300 * k9 + 0) 382 [(5, .inl v5), (0, .inr (.inr x0)), (1, .inr (.inr x1)), (2, .inr (.inr x2)), (3, .inr (.inr x3)), (4, .inl x4)] [.inl v12] σ13 R
      refine q_run k_LW_law_4 16 2 385 rfl ?_
      show q_G l cx M_LW_law 9 576 (20 * k9 + 0) (300 * k9 + 0) 385 [(6, .inl v12), (5, .inl v5), (0, .inr (.inr x0)), (1, .inr (.inr x1)), (2, .inr (.inr x2)), (3, .inr (.inr x3)), (4, .inl x4)] [.inr (.inr x2)] σ13 R
      obtain ⟨s14, hV⟩ := hV
      refine q_callV (st := []) (as := []) (t_PM_thrown (l := l) (cx := cx) (σ := σ13) x2 s14) (q_dc k_LW_law_4 18 rfl) (Or.inl (List.mem_of_getElem? (i := 936) (by decide +kernel))) w_PM_thrown n_PM_thrown (ci := 6) rfl e_PM_thrown a_PM_thrown (q_wt (Nat.le_of_ble_eq_true rfl)) ⟨Nat.le_of_ble_eq_true rfl, Nat.le_of_ble_eq_true rfl⟩ s14 (fun v9 τ9 q9 => ?_) (fun n9 τ9 q9 => by cases q9.1)
      obtain ⟨q8, q7⟩ := q9
      cases q8
      rw [q7]
      show q_G l cx M_LW_law 9 576 (20 * k9 + 0) (300 * k9 + 0) 388 [(6, .inl v12), (5, .inl v5), (0, .inr (.inr x0)), (1, .inr (.inr x1)), (2, .inr (.inr x2)), (3, .inr (.inr x3)), (4, .inl x4)] [.inl (f_PM_thrown σ13 x2)] σ13 R
      refine q_run k_LW_law_4 19 1 390 rfl ?_
      show q_G l cx M_LW_law 9 576 (20 * k9 + 0) (300 * k9 + 0) 390 [(6, .inl v12), (5, .inl v5), (0, .inr (.inr x0)), (1, .inr (.inr x1)), (2, .inr (.inr x2)), (3, .inr (.inr x3)), (4, .inl x4)] [.inl v5, .inl (f_PM_thrown σ13 x2)] σ13 R
      refine q_icmp (q_dc k_LW_law_4 20 rfl) rfl (fun h15 => ?_) (fun h15 => ?_)
      · have hV := hV.1 h15
        refine q_run k_LW_law_4 23 1 397 rfl ?_
        show q_G l cx M_LW_law 9 576 (20 * k9 + 0) (300 * k9 + 0) 397 [(6, .inl v12), (5, .inl v5), (0, .inr (.inr x0)), (1, .inr (.inr x1)), (2, .inr (.inr x2)), (3, .inr (.inr x3)), (4, .inl x4)] [.inl v5] σ13 R
        refine q_ifz (q_dc k_LW_law_4 24 rfl) rfl (fun h16 => ?_) (fun h16 => ?_)
        · have hV := hV.1 h16
          exact q_less (Nat.add_le_add_left (Nat.le_of_ble_eq_true rfl) _) (Nat.add_le_add_left (Nat.le_of_ble_eq_true rfl) _) (q_subk [2, 3, 4, 5, 6] rfl hV)
        · have hV := hV.2 h16
          refine q_run k_LW_law_4 25 4 405 rfl ?_
          show q_K σ13 x3 = 1001 ∧ vp_in (0 : Int32) (q_Z σ13 x3) ∧ q_G l cx M_LW_law 9 576 (20 * k9 + 0) (300 * k9 + 0) 405 [(6, .inl v12), (5, .inl v5), (0, .inr (.inr x0)), (1, .inr (.inr x1)), (2, .inr (.inr x2)), (3, .inr (.inr x3)), (4, .inl x4)] [.inl v12, .inr (.inl (q_L σ13 x3 (0 : Int32).toNatClampNeg))] σ13 R
          obtain ⟨s17, s18, hV⟩ := hV
          refine ⟨s17, s18, ?_⟩
          refine q_ifz (q_dc k_LW_law_4 29 rfl) rfl (fun h19 => ?_) (fun h19 => ?_)
          · have hV := hV.1 h19
            refine q_run k_LW_law_4 32 1 413 rfl ?_
            show q_G l cx M_LW_law 9 576 (20 * k9 + 0) (300 * k9 + 0) 413 [(6, .inl v12), (5, .inl v5), (0, .inr (.inr x0)), (1, .inr (.inr x1)), (2, .inr (.inr x2)), (3, .inr (.inr x3)), (4, .inl x4)] [.inr (.inl (0 : Int64)), .inr (.inl (q_L σ13 x3 (0 : Int32).toNatClampNeg))] σ13 R
            exact q_less (Nat.add_le_add_left (Nat.le_of_ble_eq_true rfl) _) (Nat.add_le_add_left (Nat.le_of_ble_eq_true rfl) _) (q_subk [2, 3, 4, 5, 6] rfl hV)
          · have hV := hV.2 h19
            refine q_run k_LW_law_4 30 1 409 rfl ?_
            show q_G l cx M_LW_law 9 576 (20 * k9 + 0) (300 * k9 + 0) 409 [(6, .inl v12), (5, .inl v5), (0, .inr (.inr x0)), (1, .inr (.inr x1)), (2, .inr (.inr x2)), (3, .inr (.inr x3)), (4, .inl x4)] [.inr (.inl (1 : Int64)), .inr (.inl (q_L σ13 x3 (0 : Int32).toNatClampNeg))] σ13 R
            refine q_goto (q_dc k_LW_law_4 31 rfl) rfl ?_
            exact q_less (Nat.add_le_add_left (Nat.le_of_ble_eq_true rfl) _) (Nat.add_le_add_left (Nat.le_of_ble_eq_true rfl) _) (q_subk [2, 3, 4, 5, 6] rfl hV)
      · have hV := hV.2 h15
        refine q_run k_LW_law_4 21 1 394 rfl ?_
        show q_G l cx M_LW_law 9 576 (20 * k9 + 0) (300 * k9 + 0) 394 [(6, .inl v12), (5, .inl v5), (0, .inr (.inr x0)), (1, .inr (.inr x1)), (2, .inr (.inr x2)), (3, .inr (.inr x3)), (4, .inl x4)] [.inl (0 : Int32)] σ13 R
        exact q_zreturn (q_dc k_LW_law_4 22 rfl) rfl (by decide) hV
set_option maxRecDepth 100000 in
theorem t_LW_law_413 {l : Launch} {cx : q_C} {R : q_O → q_S → Prop} (hlf : l.flags = pinnedFlags ++ [noTraceFlag]) : V_LW_law_413 R (fun (k9 : Nat) (x0 : Nat) (x1 : Nat) (x2 : Nat) (x3 : Nat) (x4 : Int32) (y0 : Int64) (y1 : Int64) (σ : q_S) => q_G l cx M_LW_law 9 576 (20 * k9 + 0) (300 * k9 + 0) 413 [(0, .inr (.inr x0)), (1, .inr (.inr x1)), (2, .inr (.inr x2)), (3, .inr (.inr x3)), (4, .inl x4)] [.inr (.inl y0), .inr (.inl y1)] σ R) (fun (k9 : Nat) (x0 : Nat) (x1 : Nat) (x2 : Nat) (x3 : Nat) (x4 : Int32) (σ : q_S) => q_G l cx M_LW_law 9 576 (20 * k9 + 0) (300 * k9 + 0) 419 [(0, .inr (.inr x0)), (1, .inr (.inr x1)), (2, .inr (.inr x2)), (3, .inr (.inr x3)), (4, .inl x4)] [] σ R) := by
      intro k9 x0 x1 x2 x3 x4 y0 y1 σ hV
      show q_G l cx M_LW_law 9 576 (20 * k9 + 0) (300 * k9 + 0) 413 [(0, .inr (.inr x0)), (1, .inr (.inr x1)), (2, .inr (.inr x2)), (3, .inr (.inr x3)), (4, .inl x4)] [.inr (.inl y0), .inr (.inl y1)] σ R
      refine q_run k_LW_law_4 33 1 414 rfl ?_
      show q_G l cx M_LW_law 9 576 (20 * k9 + 0) (300 * k9 + 0) 414 [(0, .inr (.inr x0)), (1, .inr (.inr x1)), (2, .inr (.inr x2)), (3, .inr (.inr x3)), (4, .inl x4)] [.inl (lg_cmp y1 y0)] σ R
      refine q_ifz (q_dc k_LW_law_4 34 rfl) rfl (fun h1 => ?_) (fun h1 => ?_)
      · have hV := hV.1 h1
        exact q_less (Nat.add_le_add_left (Nat.le_of_ble_eq_true rfl) _) (Nat.add_le_add_left (Nat.le_of_ble_eq_true rfl) _) (q_subk [0, 1, 2, 3, 4] rfl hV)
      · have hV := hV.2 h1
        refine q_run k_LW_law_4 35 1 418 rfl ?_
        show q_G l cx M_LW_law 9 576 (20 * k9 + 0) (300 * k9 + 0) 418 [(0, .inr (.inr x0)), (1, .inr (.inr x1)), (2, .inr (.inr x2)), (3, .inr (.inr x3)), (4, .inl x4)] [.inl (0 : Int32)] σ R
        exact q_zreturn (q_dc k_LW_law_4 36 rfl) rfl (by decide) hV
set_option maxRecDepth 100000 in
theorem t_LW_law_419 {l : Launch} {cx : q_C} {R : q_O → q_S → Prop} (hlf : l.flags = pinnedFlags ++ [noTraceFlag]) : V_LW_law_419 R (fun (k9 : Nat) (x0 : Nat) (x1 : Nat) (x2 : Nat) (x3 : Nat) (x4 : Int32) (σ : q_S) => q_G l cx M_LW_law 9 576 (20 * k9 + 0) (300 * k9 + 0) 419 [(0, .inr (.inr x0)), (1, .inr (.inr x1)), (2, .inr (.inr x2)), (3, .inr (.inr x3)), (4, .inl x4)] [] σ R) (fun (k9 : Nat) (x0 : Nat) (x1 : Nat) (x2 : Nat) (x3 : Nat) (x4 : Int32) (σ : q_S) => q_G l cx M_LW_law 9 576 (20 * k9 + 0) (300 * k9 + 0) 1969 [(0, .inr (.inr x0)), (1, .inr (.inr x1)), (2, .inr (.inr x2)), (3, .inr (.inr x3)), (4, .inl x4)] [] σ R) := by
      intro k9 x0 x1 x2 x3 x4 σ hV
      show q_G l cx M_LW_law 9 576 (20 * k9 + 0) (300 * k9 + 0) 419 [(0, .inr (.inr x0)), (1, .inr (.inr x1)), (2, .inr (.inr x2)), (3, .inr (.inr x3)), (4, .inl x4)] [] σ R
      refine q_goto (q_dc k_LW_law_4 37 rfl) rfl ?_
      exact q_less (Nat.add_le_add_left (Nat.le_of_ble_eq_true rfl) _) (Nat.add_le_add_left (Nat.le_of_ble_eq_true rfl) _) (q_subk [0, 1, 2, 3, 4] rfl hV)
set_option maxRecDepth 100000 in
theorem t_LW_law_422 {l : Launch} {cx : q_C} {R : q_O → q_S → Prop} (hlf : l.flags = pinnedFlags ++ [noTraceFlag]) : V_LW_law_422 R (fun (k9 : Nat) (x0 : Nat) (x1 : Nat) (x2 : Nat) (x3 : Nat) (x4 : Int32) (σ : q_S) => q_G l cx M_LW_law 9 576 (20 * k9 + 5) (300 * k9 + 55) 422 [(0, .inr (.inr x0)), (1, .inr (.inr x1)), (2, .inr (.inr x2)), (3, .inr (.inr x3)), (4, .inl x4)] [] σ R) (fun (k9 : Nat) (x0 : Nat) (x1 : Nat) (x2 : Nat) (x3 : Nat) (x4 : Int32) (σ : q_S) => q_G l cx M_LW_law 9 576 (20 * k9 + 0) (300 * k9 + 0) 625 [(0, .inr (.inr x0)), (1, .inr (.inr x1)), (2, .inr (.inr x2)), (3, .inr (.inr x3)), (4, .inl x4)] [] σ R) := by
      intro k9 x0 x1 x2 x3 x4 σ hV
      show q_G l cx M_LW_law 9 576 (20 * k9 + 5) (300 * k9 + 55) 422 [(0, .inr (.inr x0)), (1, .inr (.inr x1)), (2, .inr (.inr x2)), (3, .inr (.inr x3)), (4, .inl x4)] [] σ R
      refine q_run k_LW_law_5 0 50 487 rfl ?_
      show (q_K σ x0 = 1000 ∨ q_K σ x0 = 2000) ∧ vp_in (x4 + (1 : Int32)) (q_Z σ x0) ∧ (q_K σ x0 = 1000 ∨ q_K σ x0 = 2000) ∧ vp_in (x4 + (2 : Int32)) (q_Z σ x0) ∧ (q_K σ x0 = 1000 ∨ q_K σ x0 = 2000) ∧ vp_in (x4 + (3 : Int32)) (q_Z σ x0) ∧ (q_K σ x0 = 1000 ∨ q_K σ x0 = 2000) ∧ vp_in (x4 + (4 : Int32)) (q_Z σ x0) ∧ (q_K σ x0 = 1000 ∨ q_K σ x0 = 2000) ∧ vp_in (x4 + (5 : Int32)) (q_Z σ x0) ∧ (q_K σ x0 = 1000 ∨ q_K σ x0 = 2000) ∧ vp_in (x4 + (6 : Int32)) (q_Z σ x0) ∧ (q_K σ x0 = 1000 ∨ q_K σ x0 = 2000) ∧ vp_in (x4 + (7 : Int32)) (q_Z σ x0) ∧ q_G l cx M_LW_law 9 576 (20 * k9 + 5) (300 * k9 + 55) 487 [(0, .inr (.inr x0)), (1, .inr (.inr x1)), (2, .inr (.inr x2)), (3, .inr (.inr x3)), (4, .inl x4)] [.inl (q_I σ x0 (x4 + (7 : Int32)).toNatClampNeg), .inr (.inl ((((q_I σ x0 (x4 + (5 : Int32)).toNatClampNeg).toInt64) <<< ((32 : Int32).toInt64 &&& 63)) ||| (((q_I σ x0 (x4 + (6 : Int32)).toNatClampNeg).toInt64) &&& (4294967295 : Int64)))), .inr (.inl ((((q_I σ x0 (x4 + (3 : Int32)).toNatClampNeg).toInt64) <<< ((32 : Int32).toInt64 &&& 63)) ||| (((q_I σ x0 (x4 + (4 : Int32)).toNatClampNeg).toInt64) &&& (4294967295 : Int64)))), .inl (q_I σ x0 (x4 + (2 : Int32)).toNatClampNeg), .inl (q_I σ x0 (x4 + (1 : Int32)).toNatClampNeg), .inr (.inr x1)] σ R
      obtain ⟨s1, s2, s3, s4, s5, s6, s7, s8, s9, s10, s11, s12, s13, s14, hV⟩ := hV
      refine ⟨s1, s2, s3, s4, s5, s6, s7, s8, s9, s10, s11, s12, s13, s14, ?_⟩
      refine q_run k_LW_law_6 0 13 505 rfl ?_
      show (q_K σ x0 = 1000 ∨ q_K σ x0 = 2000) ∧ vp_in (x4 + (8 : Int32)) (q_Z σ x0) ∧ q_G l cx M_LW_law 9 576 (20 * k9 + 5) (300 * k9 + 55) 505 [(0, .inr (.inr x0)), (1, .inr (.inr x1)), (2, .inr (.inr x2)), (3, .inr (.inr x3)), (4, .inl x4)] [.inr (.inr x3), .inr (.inl ((((q_I σ x0 (x4 + (7 : Int32)).toNatClampNeg).toInt64) <<< ((32 : Int32).toInt64 &&& 63)) ||| (((q_I σ x0 (x4 + (8 : Int32)).toNatClampNeg).toInt64) &&& (4294967295 : Int64)))), .inr (.inl ((((q_I σ x0 (x4 + (5 : Int32)).toNatClampNeg).toInt64) <<< ((32 : Int32).toInt64 &&& 63)) ||| (((q_I σ x0 (x4 + (6 : Int32)).toNatClampNeg).toInt64) &&& (4294967295 : Int64)))), .inr (.inl ((((q_I σ x0 (x4 + (3 : Int32)).toNatClampNeg).toInt64) <<< ((32 : Int32).toInt64 &&& 63)) ||| (((q_I σ x0 (x4 + (4 : Int32)).toNatClampNeg).toInt64) &&& (4294967295 : Int64)))), .inl (q_I σ x0 (x4 + (2 : Int32)).toNatClampNeg), .inl (q_I σ x0 (x4 + (1 : Int32)).toNatClampNeg), .inr (.inr x1)] σ R
      obtain ⟨s15, s16, hV⟩ := hV
      refine ⟨s15, s16, ?_⟩
      refine q_less (kc' := (20 * k9 + 0) + 5) (ks' := (300 * k9 + 0) + 55) (Nat.add_le_add_left (Nat.le_of_ble_eq_true rfl) _) (Nat.add_le_add_left (Nat.le_of_ble_eq_true rfl) _) ?_
      refine q_callS (st := []) (t_LW_obstacle (l := l) (cx := cx) hlf hV) (q_dc k_LW_law_6 13 rfl) (Or.inl (List.mem_of_getElem? (i := 710) (by decide +kernel))) w_LW_obstacle s_LW_obstacle a_LW_obstacle (q_wt (Nat.le_of_ble_eq_true rfl)) ⟨Nat.le_of_ble_eq_true rfl, Nat.le_of_ble_eq_true rfl⟩ (fun v9 τ9 q9 => ?_) (fun n9 τ9 q9 => q_T.leave rfl q9)
      obtain ⟨v19, rfl, hV⟩ := q_ci_elim q9
      clear q9
      have hV := hV
      revert hV
      generalize τ9 = σ20
      intro hV
      show q_G l cx M_LW_law 9 576 (20 * k9 + 0) (300 * k9 + 0) 508 [(0, .inr (.inr x0)), (1, .inr (.inr x1)), (2, .inr (.inr x2)), (3, .inr (.inr x3)), (4, .inl x4)] [.inl v19] σ20 R
      refine q_run k_LW_law_6 14 36 554 rfl ?_
      show (q_K σ20 x0 = 1000 ∨ q_K σ20 x0 = 2000) ∧ vp_in (x4 + (1 : Int32)) (q_Z σ20 x0) ∧ (q_K σ20 x0 = 1000 ∨ q_K σ20 x0 = 2000) ∧ vp_in (x4 + (2 : Int32)) (q_Z σ20 x0) ∧ (q_K σ20 x0 = 1000 ∨ q_K σ20 x0 = 2000) ∧ vp_in (x4 + (3 : Int32)) (q_Z σ20 x0) ∧ (q_K σ20 x0 = 1000 ∨ q_K σ20 x0 = 2000) ∧ vp_in (x4 + (4 : Int32)) (q_Z σ20 x0) ∧ (q_K σ20 x0 = 1000 ∨ q_K σ20 x0 = 2000) ∧ vp_in (x4 + (5 : Int32)) (q_Z σ20 x0) ∧ q_G l cx M_LW_law 9 576 (20 * k9 + 0) (300 * k9 + 0) 554 [(5, .inl v19), (0, .inr (.inr x0)), (1, .inr (.inr x1)), (2, .inr (.inr x2)), (3, .inr (.inr x3)), (4, .inl x4)] [.inl (32 : Int32), .inr (.inl ((q_I σ20 x0 (x4 + (5 : Int32)).toNatClampNeg).toInt64)), .inr (.inl ((((q_I σ20 x0 (x4 + (3 : Int32)).toNatClampNeg).toInt64) <<< ((32 : Int32).toInt64 &&& 63)) ||| (((q_I σ20 x0 (x4 + (4 : Int32)).toNatClampNeg).toInt64) &&& (4294967295 : Int64)))), .inl (q_I σ20 x0 (x4 + (2 : Int32)).toNatClampNeg), .inl (q_I σ20 x0 (x4 + (1 : Int32)).toNatClampNeg), .inr (.inr x2)] σ20 R
      obtain ⟨s21, s22, s23, s24, s25, s26, s27, s28, s29, s30, hV⟩ := hV
      refine ⟨s21, s22, s23, s24, s25, s26, s27, s28, s29, s30, ?_⟩
      refine q_run k_LW_law_7 0 27 592 rfl ?_
      show (q_K σ20 x0 = 1000 ∨ q_K σ20 x0 = 2000) ∧ vp_in (x4 + (6 : Int32)) (q_Z σ20 x0) ∧ (q_K σ20 x0 = 1000 ∨ q_K σ20 x0 = 2000) ∧ vp_in (x4 + (7 : Int32)) (q_Z σ20 x0) ∧ (q_K σ20 x0 = 1000 ∨ q_K σ20 x0 = 2000) ∧ vp_in (x4 + (8 : Int32)) (q_Z σ20 x0) ∧ q_G l cx M_LW_law 9 576 (20 * k9 + 0) (300 * k9 + 0) 592 [(5, .inl v19), (0, .inr (.inr x0)), (1, .inr (.inr x1)), (2, .inr (.inr x2)), (3, .inr (.inr x3)), (4, .inl x4)] [.inr (.inl ((((q_I σ20 x0 (x4 + (7 : Int32)).toNatClampNeg).toInt64) <<< ((32 : Int32).toInt64 &&& 63)) ||| (((q_I σ20 x0 (x4 + (8 : Int32)).toNatClampNeg).toInt64) &&& (4294967295 : Int64)))), .inr (.inl ((((q_I σ20 x0 (x4 + (5 : Int32)).toNatClampNeg).toInt64) <<< ((32 : Int32).toInt64 &&& 63)) ||| (((q_I σ20 x0 (x4 + (6 : Int32)).toNatClampNeg).toInt64) &&& (4294967295 : Int64)))), .inr (.inl ((((q_I σ20 x0 (x4 + (3 : Int32)).toNatClampNeg).toInt64) <<< ((32 : Int32).toInt64 &&& 63)) ||| (((q_I σ20 x0 (x4 + (4 : Int32)).toNatClampNeg).toInt64) &&& (4294967295 : Int64)))), .inl (q_I σ20 x0 (x4 + (2 : Int32)).toNatClampNeg), .inl (q_I σ20 x0 (x4 + (1 : Int32)).toNatClampNeg), .inr (.inr x2)] σ20 R
      obtain ⟨s31, s32, s33, s34, s35, s36, hV⟩ := hV
      refine ⟨s31, s32, s33, s34, s35, s36, ?_⟩
      obtain ⟨s37, hV⟩ := hV
      refine q_callV (st := []) (as := [.inl (q_I σ20 x0 (x4 + (1 : Int32)).toNatClampNeg), .inl (q_I σ20 x0 (x4 + (2 : Int32)).toNatClampNeg), .inr (.inl ((((q_I σ20 x0 (x4 + (3 : Int32)).toNatClampNeg).toInt64) <<< ((32 : Int32).toInt64 &&& 63)) ||| (((q_I σ20 x0 (x4 + (4 : Int32)).toNatClampNeg).toInt64) &&& (4294967295 : Int64)))), .inr (.inl ((((q_I σ20 x0 (x4 + (5 : Int32)).toNatClampNeg).toInt64) <<< ((32 : Int32).toInt64 &&& 63)) ||| (((q_I σ20 x0 (x4 + (6 : Int32)).toNatClampNeg).toInt64) &&& (4294967295 : Int64)))), .inr (.inl ((((q_I σ20 x0 (x4 + (7 : Int32)).toNatClampNeg).toInt64) <<< ((32 : Int32).toInt64 &&& 63)) ||| (((q_I σ20 x0 (x4 + (8 : Int32)).toNatClampNeg).toInt64) &&& (4294967295 : Int64))))]) (t_PM_obstacle (l := l) (cx := cx)  hV) (q_dc k_LW_law_7 27 rfl) (Or.inl (List.mem_of_getElem? (i := 966) (by decide +kernel))) w_PM_obstacle n_PM_obstacle (ci := 6) rfl e_PM_obstacle a_PM_obstacle (q_wt (Nat.le_of_ble_eq_true rfl)) ⟨Nat.le_of_ble_eq_true rfl, Nat.le_of_ble_eq_true rfl⟩ s37 (fun v9 τ9 q9 => ?_) (fun n9 τ9 q9 => q_T.leave rfl q9)
      obtain ⟨v40, rfl, hV⟩ := q_ci_elim q9
      clear q9
      have hV := hV
      revert hV
      generalize τ9 = σ41
      intro hV
      show q_G l cx M_LW_law 9 576 (20 * k9 + 0) (300 * k9 + 0) 595 [(5, .inl v19), (0, .inr (.inr x0)), (1, .inr (.inr x1)), (2, .inr (.inr x2)), (3, .inr (.inr x3)), (4, .inl x4)] [.inl v40] σ41 R
      refine q_run k_LW_law_7 28 2 598 rfl ?_
      show q_G l cx M_LW_law 9 576 (20 * k9 + 0) (300 * k9 + 0) 598 [(6, .inl v40), (5, .inl v19), (0, .inr (.inr x0)), (1, .inr (.inr x1)), (2, .inr (.inr x2)), (3, .inr (.inr x3)), (4, .inl x4)] [.inr (.inr x2)] σ41 R
      obtain ⟨s42, hV⟩ := hV
      refine q_callV (st := []) (as := []) (t_PM_thrown (l := l) (cx := cx) (σ := σ41) x2 s42) (q_dc k_LW_law_7 30 rfl) (Or.inl (List.mem_of_getElem? (i := 936) (by decide +kernel))) w_PM_thrown n_PM_thrown (ci := 6) rfl e_PM_thrown a_PM_thrown (q_wt (Nat.le_of_ble_eq_true rfl)) ⟨Nat.le_of_ble_eq_true rfl, Nat.le_of_ble_eq_true rfl⟩ s42 (fun v9 τ9 q9 => ?_) (fun n9 τ9 q9 => by cases q9.1)
      obtain ⟨q8, q7⟩ := q9
      cases q8
      rw [q7]
      show q_G l cx M_LW_law 9 576 (20 * k9 + 0) (300 * k9 + 0) 601 [(6, .inl v40), (5, .inl v19), (0, .inr (.inr x0)), (1, .inr (.inr x1)), (2, .inr (.inr x2)), (3, .inr (.inr x3)), (4, .inl x4)] [.inl (f_PM_thrown σ41 x2)] σ41 R
      refine q_run k_LW_law_7 31 1 603 rfl ?_
      show q_G l cx M_LW_law 9 576 (20 * k9 + 0) (300 * k9 + 0) 603 [(6, .inl v40), (5, .inl v19), (0, .inr (.inr x0)), (1, .inr (.inr x1)), (2, .inr (.inr x2)), (3, .inr (.inr x3)), (4, .inl x4)] [.inl v19, .inl (f_PM_thrown σ41 x2)] σ41 R
      refine q_icmp (q_dc k_LW_law_7 32 rfl) rfl (fun h43 => ?_) (fun h43 => ?_)
      · have hV := hV.1 h43
        refine q_run k_LW_law_7 35 1 610 rfl ?_
        show q_G l cx M_LW_law 9 576 (20 * k9 + 0) (300 * k9 + 0) 610 [(6, .inl v40), (5, .inl v19), (0, .inr (.inr x0)), (1, .inr (.inr x1)), (2, .inr (.inr x2)), (3, .inr (.inr x3)), (4, .inl x4)] [.inl v19] σ41 R
        refine q_ifz (q_dc k_LW_law_7 36 rfl) rfl (fun h44 => ?_) (fun h44 => ?_)
        · have hV := hV.1 h44
          exact q_less (Nat.add_le_add_left (Nat.le_of_ble_eq_true rfl) _) (Nat.add_le_add_left (Nat.le_of_ble_eq_true rfl) _) (q_subk [2, 3, 4, 5, 6] rfl hV)
        · have hV := hV.2 h44
          refine q_run k_LW_law_7 37 6 620 rfl ?_
          show q_K σ41 x3 = 1001 ∧ vp_in (0 : Int32) (q_Z σ41 x3) ∧ q_G l cx M_LW_law 9 576 (20 * k9 + 0) (300 * k9 + 0) 620 [(6, .inl v40), (5, .inl v19), (0, .inr (.inr x0)), (1, .inr (.inr x1)), (2, .inr (.inr x2)), (3, .inr (.inr x3)), (4, .inl x4)] [.inl (lg_cmp (q_L σ41 x3 (0 : Int32).toNatClampNeg) v40.toInt64)] σ41 R
          obtain ⟨s45, s46, hV⟩ := hV
          refine ⟨s45, s46, ?_⟩
          refine q_ifz (q_dc k_LW_law_7 43 rfl) rfl (fun h47 => ?_) (fun h47 => ?_)
          · have hV := hV.1 h47
            exact q_less (Nat.add_le_add_left (Nat.le_of_ble_eq_true rfl) _) (Nat.add_le_add_left (Nat.le_of_ble_eq_true rfl) _) (q_subk [2, 3, 4, 5, 6] rfl hV)
          · have hV := hV.2 h47
            refine q_run k_LW_law_7 44 1 624 rfl ?_
            show q_G l cx M_LW_law 9 576 (20 * k9 + 0) (300 * k9 + 0) 624 [(6, .inl v40), (5, .inl v19), (0, .inr (.inr x0)), (1, .inr (.inr x1)), (2, .inr (.inr x2)), (3, .inr (.inr x3)), (4, .inl x4)] [.inl (0 : Int32)] σ41 R
            exact q_zreturn (q_dc k_LW_law_7 45 rfl) rfl (by decide) hV
      · have hV := hV.2 h43
        refine q_run k_LW_law_7 33 1 607 rfl ?_
        show q_G l cx M_LW_law 9 576 (20 * k9 + 0) (300 * k9 + 0) 607 [(6, .inl v40), (5, .inl v19), (0, .inr (.inr x0)), (1, .inr (.inr x1)), (2, .inr (.inr x2)), (3, .inr (.inr x3)), (4, .inl x4)] [.inl (0 : Int32)] σ41 R
        exact q_zreturn (q_dc k_LW_law_7 34 rfl) rfl (by decide) hV
set_option maxRecDepth 100000 in
theorem t_LW_law_625 {l : Launch} {cx : q_C} {R : q_O → q_S → Prop} (hlf : l.flags = pinnedFlags ++ [noTraceFlag]) : V_LW_law_625 R (fun (k9 : Nat) (x0 : Nat) (x1 : Nat) (x2 : Nat) (x3 : Nat) (x4 : Int32) (σ : q_S) => q_G l cx M_LW_law 9 576 (20 * k9 + 0) (300 * k9 + 0) 625 [(0, .inr (.inr x0)), (1, .inr (.inr x1)), (2, .inr (.inr x2)), (3, .inr (.inr x3)), (4, .inl x4)] [] σ R) (fun (k9 : Nat) (x0 : Nat) (x1 : Nat) (x2 : Nat) (x3 : Nat) (x4 : Int32) (σ : q_S) => q_G l cx M_LW_law 9 576 (20 * k9 + 0) (300 * k9 + 0) 1969 [(0, .inr (.inr x0)), (1, .inr (.inr x1)), (2, .inr (.inr x2)), (3, .inr (.inr x3)), (4, .inl x4)] [] σ R) := by
      intro k9 x0 x1 x2 x3 x4 σ hV
      show q_G l cx M_LW_law 9 576 (20 * k9 + 0) (300 * k9 + 0) 625 [(0, .inr (.inr x0)), (1, .inr (.inr x1)), (2, .inr (.inr x2)), (3, .inr (.inr x3)), (4, .inl x4)] [] σ R
      refine q_goto (q_dc k_LW_law_7 46 rfl) rfl ?_
      exact q_less (Nat.add_le_add_left (Nat.le_of_ble_eq_true rfl) _) (Nat.add_le_add_left (Nat.le_of_ble_eq_true rfl) _) (q_subk [0, 1, 2, 3, 4] rfl hV)
set_option maxRecDepth 100000 in
theorem t_LW_law_628 {l : Launch} {cx : q_C} {R : q_O → q_S → Prop} (hlf : l.flags = pinnedFlags ++ [noTraceFlag]) : V_LW_law_628 R (fun (k9 : Nat) (x0 : Nat) (x1 : Nat) (x2 : Nat) (x3 : Nat) (x4 : Int32) (σ : q_S) => q_G l cx M_LW_law 9 576 (20 * k9 + 1) (300 * k9 + 6) 628 [(0, .inr (.inr x0)), (1, .inr (.inr x1)), (2, .inr (.inr x2)), (3, .inr (.inr x3)), (4, .inl x4)] [] σ R) (fun (k9 : Nat) (x0 : Nat) (x1 : Nat) (x2 : Nat) (x3 : Nat) (x4 : Int32) (y0 : Int64) (y1 : Int64) (σ : q_S) => q_G l cx M_LW_law 9 576 (20 * k9 + 0) (300 * k9 + 0) 726 [(0, .inr (.inr x0)), (1, .inr (.inr x1)), (2, .inr (.inr x2)), (3, .inr (.inr x3)), (4, .inl x4)] [.inr (.inl y0), .inr (.inl y1)] σ R) (fun (k9 : Nat) (x0 : Nat) (x1 : Nat) (x2 : Nat) (x3 : Nat) (x4 : Int32) (σ : q_S) => q_G l cx M_LW_law 9 576 (20 * k9 + 0) (300 * k9 + 0) 732 [(0, .inr (.inr x0)), (1, .inr (.inr x1)), (2, .inr (.inr x2)), (3, .inr (.inr x3)), (4, .inl x4)] [] σ R) := by
      intro k9 x0 x1 x2 x3 x4 σ hV
      show q_G l cx M_LW_law 9 576 (20 * k9 + 1) (300 * k9 + 6) 628 [(0, .inr (.inr x0)), (1, .inr (.inr x1)), (2, .inr (.inr x2)), (3, .inr (.inr x3)), (4, .inl x4)] [] σ R
      refine q_run k_LW_law_8 0 24 658 rfl ?_
      show (q_K σ x0 = 1000 ∨ q_K σ x0 = 2000) ∧ vp_in (x4 + (1 : Int32)) (q_Z σ x0) ∧ (q_K σ x0 = 1000 ∨ q_K σ x0 = 2000) ∧ vp_in (x4 + (2 : Int32)) (q_Z σ x0) ∧ (q_K σ x0 = 1000 ∨ q_K σ x0 = 2000) ∧ vp_in (x4 + (3 : Int32)) (q_Z σ x0) ∧ q_G l cx M_LW_law 9 576 (20 * k9 + 1) (300 * k9 + 6) 658 [(0, .inr (.inr x0)), (1, .inr (.inr x1)), (2, .inr (.inr x2)), (3, .inr (.inr x3)), (4, .inl x4)] [.inr (.inr x3), .inr (.inl ((((q_I σ x0 (x4 + (2 : Int32)).toNatClampNeg).toInt64) <<< ((32 : Int32).toInt64 &&& 63)) ||| (((q_I σ x0 (x4 + (3 : Int32)).toNatClampNeg).toInt64) &&& (4294967295 : Int64)))), .inl (q_I σ x0 (x4 + (1 : Int32)).toNatClampNeg), .inr (.inr x1)] σ R
      obtain ⟨s1, s2, s3, s4, s5, s6, hV⟩ := hV
      refine ⟨s1, s2, s3, s4, s5, s6, ?_⟩
      refine q_less (kc' := (20 * k9 + 0) + 1) (ks' := (300 * k9 + 0) + 6) (Nat.add_le_add_left (Nat.le_of_ble_eq_true rfl) _) (Nat.add_le_add_left (Nat.le_of_ble_eq_true rfl) _) ?_
      refine q_callS (st := []) (t_LW_rule (l := l) (cx := cx) hlf hV) (q_dc k_LW_law_8 24 rfl) (Or.inl (List.mem_of_getElem? (i := 732) (by decide +kernel))) w_LW_rule s_LW_rule a_LW_rule (q_wt (Nat.le_of_ble_eq_true rfl)) ⟨Nat.le_of_ble_eq_true rfl, Nat.le_of_ble_eq_true rfl⟩ (fun v9 τ9 q9 => ?_) (fun n9 τ9 q9 => q_T.leave rfl q9)
      obtain ⟨v9, rfl, hV⟩ := q_ci_elim q9
      clear q9
      have hV := hV
      revert hV
      generalize τ9 = σ10
      intro hV
      show q_G l cx M_LW_law 9 576 (20 * k9 + 0) (300 * k9 + 0) 661 [(0, .inr (.inr x0)), (1, .inr (.inr x1)), (2, .inr (.inr x2)), (3, .inr (.inr x3)), (4, .inl x4)] [.inl v9] σ10 R
      refine q_run k_LW_law_8 25 24 692 rfl ?_
      show (q_K σ10 x0 = 1000 ∨ q_K σ10 x0 = 2000) ∧ vp_in (x4 + (1 : Int32)) (q_Z σ10 x0) ∧ (q_K σ10 x0 = 1000 ∨ q_K σ10 x0 = 2000) ∧ vp_in (x4 + (2 : Int32)) (q_Z σ10 x0) ∧ (q_K σ10 x0 = 1000 ∨ q_K σ10 x0 = 2000) ∧ vp_in (x4 + (3 : Int32)) (q_Z σ10 x0) ∧ q_G l cx M_LW_law 9 576 (20 * k9 + 0) (300 * k9 + 0) 692 [(5, .inl v9), (0, .inr (.inr x0)), (1, .inr (.inr x1)), (2, .inr (.inr x2)), (3, .inr (.inr x3)), (4, .inl x4)] [.inr (.inl ((((q_I σ10 x0 (x4 + (2 : Int32)).toNatClampNeg).toInt64) <<< ((32 : Int32).toInt64 &&& 63)) ||| (((q_I σ10 x0 (x4 + (3 : Int32)).toNatClampNeg).toInt64) &&& (4294967295 : Int64)))), .inl (q_I σ10 x0 (x4 + (1 : Int32)).toNatClampNeg), .inr (.inr x2)] σ10 R
      obtain ⟨s11, s12, s13, s14, s15, s16, hV⟩ := hV
      refine ⟨s11, s12, s13, s14, s15, s16, ?_⟩
      obtain ⟨s17, hV⟩ := hV
      refine q_callV (st := []) (as := [.inl (q_I σ10 x0 (x4 + (1 : Int32)).toNatClampNeg), .inr (.inl ((((q_I σ10 x0 (x4 + (2 : Int32)).toNatClampNeg).toInt64) <<< ((32 : Int32).toInt64 &&& 63)) ||| (((q_I σ10 x0 (x4 + (3 : Int32)).toNatClampNeg).toInt64) &&& (4294967295 : Int64))))]) (t_PM_rule (l := l) (cx := cx)  hV) (q_dc k_LW_law_8 49 rfl) (Or.inl (List.mem_of_getElem? (i := 975) (by decide +kernel))) w_PM_rule n_PM_rule (ci := 6) rfl e_PM_rule a_PM_rule (q_wt (Nat.le_of_ble_eq_true rfl)) ⟨Nat.le_of_ble_eq_true rfl, Nat.le_of_ble_eq_true rfl⟩ s17 (fun v9 τ9 q9 => ?_) (fun n9 τ9 q9 => q_T.leave rfl q9)
      obtain ⟨v20, rfl, hV⟩ := q_ci_elim q9
      clear q9
      have hV := hV
      revert hV
      generalize τ9 = σ21
      intro hV
      show q_G l cx M_LW_law 9 576 (20 * k9 + 0) (300 * k9 + 0) 695 [(5, .inl v9), (0, .inr (.inr x0)), (1, .inr (.inr x1)), (2, .inr (.inr x2)), (3, .inr (.inr x3)), (4, .inl x4)] [.inl v20] σ21 R
      refine q_run k_LW_law_9 0 2 698 rfl ?_
      show q_G l cx M_LW_law 9 576 (20 * k9 + 0) (300 * k9 + 0) 698 [(6, .inl v20), (5, .inl v9), (0, .inr (.inr x0)), (1, .inr (.inr x1)), (2, .inr (.inr x2)), (3, .inr (.inr x3)), (4, .inl x4)] [.inr (.inr x2)] σ21 R
      obtain ⟨s22, hV⟩ := hV
      refine q_callV (st := []) (as := []) (t_PM_thrown (l := l) (cx := cx) (σ := σ21) x2 s22) (q_dc k_LW_law_9 2 rfl) (Or.inl (List.mem_of_getElem? (i := 936) (by decide +kernel))) w_PM_thrown n_PM_thrown (ci := 6) rfl e_PM_thrown a_PM_thrown (q_wt (Nat.le_of_ble_eq_true rfl)) ⟨Nat.le_of_ble_eq_true rfl, Nat.le_of_ble_eq_true rfl⟩ s22 (fun v9 τ9 q9 => ?_) (fun n9 τ9 q9 => by cases q9.1)
      obtain ⟨q8, q7⟩ := q9
      cases q8
      rw [q7]
      show q_G l cx M_LW_law 9 576 (20 * k9 + 0) (300 * k9 + 0) 701 [(6, .inl v20), (5, .inl v9), (0, .inr (.inr x0)), (1, .inr (.inr x1)), (2, .inr (.inr x2)), (3, .inr (.inr x3)), (4, .inl x4)] [.inl (f_PM_thrown σ21 x2)] σ21 R
      refine q_run k_LW_law_9 3 1 703 rfl ?_
      show q_G l cx M_LW_law 9 576 (20 * k9 + 0) (300 * k9 + 0) 703 [(6, .inl v20), (5, .inl v9), (0, .inr (.inr x0)), (1, .inr (.inr x1)), (2, .inr (.inr x2)), (3, .inr (.inr x3)), (4, .inl x4)] [.inl v9, .inl (f_PM_thrown σ21 x2)] σ21 R
      refine q_icmp (q_dc k_LW_law_9 4 rfl) rfl (fun h23 => ?_) (fun h23 => ?_)
      · have hV := hV.1 h23
        refine q_run k_LW_law_9 7 1 710 rfl ?_
        show q_G l cx M_LW_law 9 576 (20 * k9 + 0) (300 * k9 + 0) 710 [(6, .inl v20), (5, .inl v9), (0, .inr (.inr x0)), (1, .inr (.inr x1)), (2, .inr (.inr x2)), (3, .inr (.inr x3)), (4, .inl x4)] [.inl v9] σ21 R
        refine q_ifz (q_dc k_LW_law_9 8 rfl) rfl (fun h24 => ?_) (fun h24 => ?_)
        · have hV := hV.1 h24
          exact q_less (Nat.add_le_add_left (Nat.le_of_ble_eq_true rfl) _) (Nat.add_le_add_left (Nat.le_of_ble_eq_true rfl) _) (q_subk [2, 3, 4, 5, 6] rfl hV)
        · have hV := hV.2 h24
          refine q_run k_LW_law_9 9 4 718 rfl ?_
          show q_K σ21 x3 = 1001 ∧ vp_in (0 : Int32) (q_Z σ21 x3) ∧ q_G l cx M_LW_law 9 576 (20 * k9 + 0) (300 * k9 + 0) 718 [(6, .inl v20), (5, .inl v9), (0, .inr (.inr x0)), (1, .inr (.inr x1)), (2, .inr (.inr x2)), (3, .inr (.inr x3)), (4, .inl x4)] [.inl v20, .inr (.inl (q_L σ21 x3 (0 : Int32).toNatClampNeg))] σ21 R
          obtain ⟨s25, s26, hV⟩ := hV
          refine ⟨s25, s26, ?_⟩
          refine q_ifz (q_dc k_LW_law_9 13 rfl) rfl (fun h27 => ?_) (fun h27 => ?_)
          · have hV := hV.1 h27
            refine q_run k_LW_law_9 16 1 726 rfl ?_
            show q_G l cx M_LW_law 9 576 (20 * k9 + 0) (300 * k9 + 0) 726 [(6, .inl v20), (5, .inl v9), (0, .inr (.inr x0)), (1, .inr (.inr x1)), (2, .inr (.inr x2)), (3, .inr (.inr x3)), (4, .inl x4)] [.inr (.inl (0 : Int64)), .inr (.inl (q_L σ21 x3 (0 : Int32).toNatClampNeg))] σ21 R
            exact q_less (Nat.add_le_add_left (Nat.le_of_ble_eq_true rfl) _) (Nat.add_le_add_left (Nat.le_of_ble_eq_true rfl) _) (q_subk [2, 3, 4, 5, 6] rfl hV)
          · have hV := hV.2 h27
            refine q_run k_LW_law_9 14 1 722 rfl ?_
            show q_G l cx M_LW_law 9 576 (20 * k9 + 0) (300 * k9 + 0) 722 [(6, .inl v20), (5, .inl v9), (0, .inr (.inr x0)), (1, .inr (.inr x1)), (2, .inr (.inr x2)), (3, .inr (.inr x3)), (4, .inl x4)] [.inr (.inl (1 : Int64)), .inr (.inl (q_L σ21 x3 (0 : Int32).toNatClampNeg))] σ21 R
            refine q_goto (q_dc k_LW_law_9 15 rfl) rfl ?_
            exact q_less (Nat.add_le_add_left (Nat.le_of_ble_eq_true rfl) _) (Nat.add_le_add_left (Nat.le_of_ble_eq_true rfl) _) (q_subk [2, 3, 4, 5, 6] rfl hV)
      · have hV := hV.2 h23
        refine q_run k_LW_law_9 5 1 707 rfl ?_
        show q_G l cx M_LW_law 9 576 (20 * k9 + 0) (300 * k9 + 0) 707 [(6, .inl v20), (5, .inl v9), (0, .inr (.inr x0)), (1, .inr (.inr x1)), (2, .inr (.inr x2)), (3, .inr (.inr x3)), (4, .inl x4)] [.inl (0 : Int32)] σ21 R
        exact q_zreturn (q_dc k_LW_law_9 6 rfl) rfl (by decide) hV
set_option maxRecDepth 100000 in
theorem t_LW_law_726 {l : Launch} {cx : q_C} {R : q_O → q_S → Prop} (hlf : l.flags = pinnedFlags ++ [noTraceFlag]) : V_LW_law_726 R (fun (k9 : Nat) (x0 : Nat) (x1 : Nat) (x2 : Nat) (x3 : Nat) (x4 : Int32) (y0 : Int64) (y1 : Int64) (σ : q_S) => q_G l cx M_LW_law 9 576 (20 * k9 + 0) (300 * k9 + 0) 726 [(0, .inr (.inr x0)), (1, .inr (.inr x1)), (2, .inr (.inr x2)), (3, .inr (.inr x3)), (4, .inl x4)] [.inr (.inl y0), .inr (.inl y1)] σ R) (fun (k9 : Nat) (x0 : Nat) (x1 : Nat) (x2 : Nat) (x3 : Nat) (x4 : Int32) (σ : q_S) => q_G l cx M_LW_law 9 576 (20 * k9 + 0) (300 * k9 + 0) 732 [(0, .inr (.inr x0)), (1, .inr (.inr x1)), (2, .inr (.inr x2)), (3, .inr (.inr x3)), (4, .inl x4)] [] σ R) := by
      intro k9 x0 x1 x2 x3 x4 y0 y1 σ hV
      show q_G l cx M_LW_law 9 576 (20 * k9 + 0) (300 * k9 + 0) 726 [(0, .inr (.inr x0)), (1, .inr (.inr x1)), (2, .inr (.inr x2)), (3, .inr (.inr x3)), (4, .inl x4)] [.inr (.inl y0), .inr (.inl y1)] σ R
      refine q_run k_LW_law_9 17 1 727 rfl ?_
      show q_G l cx M_LW_law 9 576 (20 * k9 + 0) (300 * k9 + 0) 727 [(0, .inr (.inr x0)), (1, .inr (.inr x1)), (2, .inr (.inr x2)), (3, .inr (.inr x3)), (4, .inl x4)] [.inl (lg_cmp y1 y0)] σ R
      refine q_ifz (q_dc k_LW_law_9 18 rfl) rfl (fun h1 => ?_) (fun h1 => ?_)
      · have hV := hV.1 h1
        exact q_less (Nat.add_le_add_left (Nat.le_of_ble_eq_true rfl) _) (Nat.add_le_add_left (Nat.le_of_ble_eq_true rfl) _) (q_subk [0, 1, 2, 3, 4] rfl hV)
      · have hV := hV.2 h1
        refine q_run k_LW_law_9 19 1 731 rfl ?_
        show q_G l cx M_LW_law 9 576 (20 * k9 + 0) (300 * k9 + 0) 731 [(0, .inr (.inr x0)), (1, .inr (.inr x1)), (2, .inr (.inr x2)), (3, .inr (.inr x3)), (4, .inl x4)] [.inl (0 : Int32)] σ R
        exact q_zreturn (q_dc k_LW_law_9 20 rfl) rfl (by decide) hV
set_option maxRecDepth 100000 in
theorem t_LW_law_732 {l : Launch} {cx : q_C} {R : q_O → q_S → Prop} (hlf : l.flags = pinnedFlags ++ [noTraceFlag]) : V_LW_law_732 R (fun (k9 : Nat) (x0 : Nat) (x1 : Nat) (x2 : Nat) (x3 : Nat) (x4 : Int32) (σ : q_S) => q_G l cx M_LW_law 9 576 (20 * k9 + 0) (300 * k9 + 0) 732 [(0, .inr (.inr x0)), (1, .inr (.inr x1)), (2, .inr (.inr x2)), (3, .inr (.inr x3)), (4, .inl x4)] [] σ R) (fun (k9 : Nat) (x0 : Nat) (x1 : Nat) (x2 : Nat) (x3 : Nat) (x4 : Int32) (σ : q_S) => q_G l cx M_LW_law 9 576 (20 * k9 + 0) (300 * k9 + 0) 1969 [(0, .inr (.inr x0)), (1, .inr (.inr x1)), (2, .inr (.inr x2)), (3, .inr (.inr x3)), (4, .inl x4)] [] σ R) := by
      intro k9 x0 x1 x2 x3 x4 σ hV
      show q_G l cx M_LW_law 9 576 (20 * k9 + 0) (300 * k9 + 0) 732 [(0, .inr (.inr x0)), (1, .inr (.inr x1)), (2, .inr (.inr x2)), (3, .inr (.inr x3)), (4, .inl x4)] [] σ R
      refine q_goto (q_dc k_LW_law_9 21 rfl) rfl ?_
      exact q_less (Nat.add_le_add_left (Nat.le_of_ble_eq_true rfl) _) (Nat.add_le_add_left (Nat.le_of_ble_eq_true rfl) _) (q_subk [0, 1, 2, 3, 4] rfl hV)
set_option maxRecDepth 100000 in
theorem t_LW_law_735 {l : Launch} {cx : q_C} {R : q_O → q_S → Prop} (hlf : l.flags = pinnedFlags ++ [noTraceFlag]) : V_LW_law_735 R (fun (k9 : Nat) (x0 : Nat) (x1 : Nat) (x2 : Nat) (x3 : Nat) (x4 : Int32) (σ : q_S) => q_G l cx M_LW_law 9 576 (20 * k9 + 4) (300 * k9 + 50) 735 [(0, .inr (.inr x0)), (1, .inr (.inr x1)), (2, .inr (.inr x2)), (3, .inr (.inr x3)), (4, .inl x4)] [] σ R) (fun (k9 : Nat) (x0 : Nat) (x1 : Nat) (x2 : Nat) (x3 : Nat) (x4 : Int32) (σ : q_S) => q_G l cx M_LW_law 9 576 (20 * k9 + 0) (300 * k9 + 0) 986 [(0, .inr (.inr x0)), (1, .inr (.inr x1)), (2, .inr (.inr x2)), (3, .inr (.inr x3)), (4, .inl x4)] [] σ R) := by
      intro k9 x0 x1 x2 x3 x4 σ hV
      show q_G l cx M_LW_law 9 576 (20 * k9 + 4) (300 * k9 + 50) 735 [(0, .inr (.inr x0)), (1, .inr (.inr x1)), (2, .inr (.inr x2)), (3, .inr (.inr x3)), (4, .inl x4)] [] σ R
      refine q_run k_LW_law_10 0 50 800 rfl ?_
      show (q_K σ x0 = 1000 ∨ q_K σ x0 = 2000) ∧ vp_in (x4 + (1 : Int32)) (q_Z σ x0) ∧ (q_K σ x0 = 1000 ∨ q_K σ x0 = 2000) ∧ vp_in (x4 + (2 : Int32)) (q_Z σ x0) ∧ (q_K σ x0 = 1000 ∨ q_K σ x0 = 2000) ∧ vp_in (x4 + (3 : Int32)) (q_Z σ x0) ∧ (q_K σ x0 = 1000 ∨ q_K σ x0 = 2000) ∧ vp_in (x4 + (4 : Int32)) (q_Z σ x0) ∧ (q_K σ x0 = 1000 ∨ q_K σ x0 = 2000) ∧ vp_in (x4 + (5 : Int32)) (q_Z σ x0) ∧ (q_K σ x0 = 1000 ∨ q_K σ x0 = 2000) ∧ vp_in (x4 + (6 : Int32)) (q_Z σ x0) ∧ (q_K σ x0 = 1000 ∨ q_K σ x0 = 2000) ∧ vp_in (x4 + (7 : Int32)) (q_Z σ x0) ∧ q_G l cx M_LW_law 9 576 (20 * k9 + 4) (300 * k9 + 50) 800 [(0, .inr (.inr x0)), (1, .inr (.inr x1)), (2, .inr (.inr x2)), (3, .inr (.inr x3)), (4, .inl x4)] [.inl (q_I σ x0 (x4 + (7 : Int32)).toNatClampNeg), .inr (.inl ((((q_I σ x0 (x4 + (5 : Int32)).toNatClampNeg).toInt64) <<< ((32 : Int32).toInt64 &&& 63)) ||| (((q_I σ x0 (x4 + (6 : Int32)).toNatClampNeg).toInt64) &&& (4294967295 : Int64)))), .inr (.inl ((((q_I σ x0 (x4 + (3 : Int32)).toNatClampNeg).toInt64) <<< ((32 : Int32).toInt64 &&& 63)) ||| (((q_I σ x0 (x4 + (4 : Int32)).toNatClampNeg).toInt64) &&& (4294967295 : Int64)))), .inl (q_I σ x0 (x4 + (2 : Int32)).toNatClampNeg), .inl (q_I σ x0 (x4 + (1 : Int32)).toNatClampNeg), .inr (.inr x1)] σ R
      obtain ⟨s1, s2, s3, s4, s5, s6, s7, s8, s9, s10, s11, s12, s13, s14, hV⟩ := hV
      refine ⟨s1, s2, s3, s4, s5, s6, s7, s8, s9, s10, s11, s12, s13, s14, ?_⟩
      refine q_run k_LW_law_11 0 30 842 rfl ?_
      show (q_K σ x0 = 1000 ∨ q_K σ x0 = 2000) ∧ vp_in (x4 + (8 : Int32)) (q_Z σ x0) ∧ (q_K σ x0 = 1000 ∨ q_K σ x0 = 2000) ∧ vp_in (x4 + (9 : Int32)) (q_Z σ x0) ∧ (q_K σ x0 = 1000 ∨ q_K σ x0 = 2000) ∧ vp_in (x4 + (10 : Int32)) (q_Z σ x0) ∧ q_G l cx M_LW_law 9 576 (20 * k9 + 4) (300 * k9 + 50) 842 [(0, .inr (.inr x0)), (1, .inr (.inr x1)), (2, .inr (.inr x2)), (3, .inr (.inr x3)), (4, .inl x4)] [.inr (.inr x3), .inr (.inl ((((q_I σ x0 (x4 + (9 : Int32)).toNatClampNeg).toInt64) <<< ((32 : Int32).toInt64 &&& 63)) ||| (((q_I σ x0 (x4 + (10 : Int32)).toNatClampNeg).toInt64) &&& (4294967295 : Int64)))), .inr (.inl ((((q_I σ x0 (x4 + (7 : Int32)).toNatClampNeg).toInt64) <<< ((32 : Int32).toInt64 &&& 63)) ||| (((q_I σ x0 (x4 + (8 : Int32)).toNatClampNeg).toInt64) &&& (4294967295 : Int64)))), .inr (.inl ((((q_I σ x0 (x4 + (5 : Int32)).toNatClampNeg).toInt64) <<< ((32 : Int32).toInt64 &&& 63)) ||| (((q_I σ x0 (x4 + (6 : Int32)).toNatClampNeg).toInt64) &&& (4294967295 : Int64)))), .inr (.inl ((((q_I σ x0 (x4 + (3 : Int32)).toNatClampNeg).toInt64) <<< ((32 : Int32).toInt64 &&& 63)) ||| (((q_I σ x0 (x4 + (4 : Int32)).toNatClampNeg).toInt64) &&& (4294967295 : Int64)))), .inl (q_I σ x0 (x4 + (2 : Int32)).toNatClampNeg), .inl (q_I σ x0 (x4 + (1 : Int32)).toNatClampNeg), .inr (.inr x1)] σ R
      obtain ⟨s15, s16, s17, s18, s19, s20, hV⟩ := hV
      refine ⟨s15, s16, s17, s18, s19, s20, ?_⟩
      refine q_less (kc' := (20 * k9 + 0) + 4) (ks' := (300 * k9 + 0) + 50) (Nat.add_le_add_left (Nat.le_of_ble_eq_true rfl) _) (Nat.add_le_add_left (Nat.le_of_ble_eq_true rfl) _) ?_
      refine q_callS (st := []) (t_LW_pad (l := l) (cx := cx) hlf hV) (q_dc k_LW_law_11 30 rfl) (Or.inl (List.mem_of_getElem? (i := 741) (by decide +kernel))) w_LW_pad s_LW_pad a_LW_pad (q_wt (Nat.le_of_ble_eq_true rfl)) ⟨Nat.le_of_ble_eq_true rfl, Nat.le_of_ble_eq_true rfl⟩ (fun v9 τ9 q9 => ?_) (fun n9 τ9 q9 => q_T.leave rfl q9)
      obtain ⟨v23, rfl, hV⟩ := q_ci_elim q9
      clear q9
      have hV := hV
      revert hV
      generalize τ9 = σ24
      intro hV
      show q_G l cx M_LW_law 9 576 (20 * k9 + 0) (300 * k9 + 0) 845 [(0, .inr (.inr x0)), (1, .inr (.inr x1)), (2, .inr (.inr x2)), (3, .inr (.inr x3)), (4, .inl x4)] [.inl v23] σ24 R
      refine q_run k_LW_law_11 31 19 869 rfl ?_
      show (q_K σ24 x0 = 1000 ∨ q_K σ24 x0 = 2000) ∧ vp_in (x4 + (1 : Int32)) (q_Z σ24 x0) ∧ (q_K σ24 x0 = 1000 ∨ q_K σ24 x0 = 2000) ∧ vp_in (x4 + (2 : Int32)) (q_Z σ24 x0) ∧ (q_K σ24 x0 = 1000 ∨ q_K σ24 x0 = 2000) ∧ vp_in (x4 + (3 : Int32)) (q_Z σ24 x0) ∧ q_G l cx M_LW_law 9 576 (20 * k9 + 0) (300 * k9 + 0) 869 [(5, .inl v23), (0, .inr (.inr x0)), (1, .inr (.inr x1)), (2, .inr (.inr x2)), (3, .inr (.inr x3)), (4, .inl x4)] [.inl (32 : Int32), .inr (.inl ((q_I σ24 x0 (x4 + (3 : Int32)).toNatClampNeg).toInt64)), .inl (q_I σ24 x0 (x4 + (2 : Int32)).toNatClampNeg), .inl (q_I σ24 x0 (x4 + (1 : Int32)).toNatClampNeg), .inr (.inr x2)] σ24 R
      obtain ⟨s25, s26, s27, s28, s29, s30, hV⟩ := hV
      refine ⟨s25, s26, s27, s28, s29, s30, ?_⟩
      refine q_run k_LW_law_12 0 50 937 rfl ?_
      show (q_K σ24 x0 = 1000 ∨ q_K σ24 x0 = 2000) ∧ vp_in (x4 + (4 : Int32)) (q_Z σ24 x0) ∧ (q_K σ24 x0 = 1000 ∨ q_K σ24 x0 = 2000) ∧ vp_in (x4 + (5 : Int32)) (q_Z σ24 x0) ∧ (q_K σ24 x0 = 1000 ∨ q_K σ24 x0 = 2000) ∧ vp_in (x4 + (6 : Int32)) (q_Z σ24 x0) ∧ (q_K σ24 x0 = 1000 ∨ q_K σ24 x0 = 2000) ∧ vp_in (x4 + (7 : Int32)) (q_Z σ24 x0) ∧ (q_K σ24 x0 = 1000 ∨ q_K σ24 x0 = 2000) ∧ vp_in (x4 + (8 : Int32)) (q_Z σ24 x0) ∧ (q_K σ24 x0 = 1000 ∨ q_K σ24 x0 = 2000) ∧ vp_in (x4 + (9 : Int32)) (q_Z σ24 x0) ∧ q_G l cx M_LW_law 9 576 (20 * k9 + 0) (300 * k9 + 0) 937 [(5, .inl v23), (0, .inr (.inr x0)), (1, .inr (.inr x1)), (2, .inr (.inr x2)), (3, .inr (.inr x3)), (4, .inl x4)] [.inr (.inl ((q_I σ24 x0 (x4 + (9 : Int32)).toNatClampNeg).toInt64)), .inr (.inl ((((q_I σ24 x0 (x4 + (7 : Int32)).toNatClampNeg).toInt64) <<< ((32 : Int32).toInt64 &&& 63)) ||| (((q_I σ24 x0 (x4 + (8 : Int32)).toNatClampNeg).toInt64) &&& (4294967295 : Int64)))), .inr (.inl ((((q_I σ24 x0 (x4 + (5 : Int32)).toNatClampNeg).toInt64) <<< ((32 : Int32).toInt64 &&& 63)) ||| (((q_I σ24 x0 (x4 + (6 : Int32)).toNatClampNeg).toInt64) &&& (4294967295 : Int64)))), .inr (.inl ((((q_I σ24 x0 (x4 + (3 : Int32)).toNatClampNeg).toInt64) <<< ((32 : Int32).toInt64 &&& 63)) ||| (((q_I σ24 x0 (x4 + (4 : Int32)).toNatClampNeg).toInt64) &&& (4294967295 : Int64)))), .inl (q_I σ24 x0 (x4 + (2 : Int32)).toNatClampNeg), .inl (q_I σ24 x0 (x4 + (1 : Int32)).toNatClampNeg), .inr (.inr x2)] σ24 R
      obtain ⟨s31, s32, s33, s34, s35, s36, s37, s38, s39, s40, s41, s42, hV⟩ := hV
      refine ⟨s31, s32, s33, s34, s35, s36, s37, s38, s39, s40, s41, s42, ?_⟩
      refine q_run k_LW_law_13 0 11 953 rfl ?_
      show (q_K σ24 x0 = 1000 ∨ q_K σ24 x0 = 2000) ∧ vp_in (x4 + (10 : Int32)) (q_Z σ24 x0) ∧ q_G l cx M_LW_law 9 576 (20 * k9 + 0) (300 * k9 + 0) 953 [(5, .inl v23), (0, .inr (.inr x0)), (1, .inr (.inr x1)), (2, .inr (.inr x2)), (3, .inr (.inr x3)), (4, .inl x4)] [.inr (.inl ((((q_I σ24 x0 (x4 + (9 : Int32)).toNatClampNeg).toInt64) <<< ((32 : Int32).toInt64 &&& 63)) ||| (((q_I σ24 x0 (x4 + (10 : Int32)).toNatClampNeg).toInt64) &&& (4294967295 : Int64)))), .inr (.inl ((((q_I σ24 x0 (x4 + (7 : Int32)).toNatClampNeg).toInt64) <<< ((32 : Int32).toInt64 &&& 63)) ||| (((q_I σ24 x0 (x4 + (8 : Int32)).toNatClampNeg).toInt64) &&& (4294967295 : Int64)))), .inr (.inl ((((q_I σ24 x0 (x4 + (5 : Int32)).toNatClampNeg).toInt64) <<< ((32 : Int32).toInt64 &&& 63)) ||| (((q_I σ24 x0 (x4 + (6 : Int32)).toNatClampNeg).toInt64) &&& (4294967295 : Int64)))), .inr (.inl ((((q_I σ24 x0 (x4 + (3 : Int32)).toNatClampNeg).toInt64) <<< ((32 : Int32).toInt64 &&& 63)) ||| (((q_I σ24 x0 (x4 + (4 : Int32)).toNatClampNeg).toInt64) &&& (4294967295 : Int64)))), .inl (q_I σ24 x0 (x4 + (2 : Int32)).toNatClampNeg), .inl (q_I σ24 x0 (x4 + (1 : Int32)).toNatClampNeg), .inr (.inr x2)] σ24 R
      obtain ⟨s43, s44, hV⟩ := hV
      refine ⟨s43, s44, ?_⟩
      obtain ⟨s45, hV⟩ := hV
      refine q_callV (st := []) (as := [.inl (q_I σ24 x0 (x4 + (1 : Int32)).toNatClampNeg), .inl (q_I σ24 x0 (x4 + (2 : Int32)).toNatClampNeg), .inr (.inl ((((q_I σ24 x0 (x4 + (3 : Int32)).toNatClampNeg).toInt64) <<< ((32 : Int32).toInt64 &&& 63)) ||| (((q_I σ24 x0 (x4 + (4 : Int32)).toNatClampNeg).toInt64) &&& (4294967295 : Int64)))), .inr (.inl ((((q_I σ24 x0 (x4 + (5 : Int32)).toNatClampNeg).toInt64) <<< ((32 : Int32).toInt64 &&& 63)) ||| (((q_I σ24 x0 (x4 + (6 : Int32)).toNatClampNeg).toInt64) &&& (4294967295 : Int64)))), .inr (.inl ((((q_I σ24 x0 (x4 + (7 : Int32)).toNatClampNeg).toInt64) <<< ((32 : Int32).toInt64 &&& 63)) ||| (((q_I σ24 x0 (x4 + (8 : Int32)).toNatClampNeg).toInt64) &&& (4294967295 : Int64)))), .inr (.inl ((((q_I σ24 x0 (x4 + (9 : Int32)).toNatClampNeg).toInt64) <<< ((32 : Int32).toInt64 &&& 63)) ||| (((q_I σ24 x0 (x4 + (10 : Int32)).toNatClampNeg).toInt64) &&& (4294967295 : Int64))))]) (t_PM_pad (l := l) (cx := cx)  hV) (q_dc k_LW_law_13 11 rfl) (Or.inl (List.mem_of_getElem? (i := 971) (by decide +kernel))) w_PM_pad n_PM_pad (ci := 6) rfl e_PM_pad a_PM_pad (q_wt (Nat.le_of_ble_eq_true rfl)) ⟨Nat.le_of_ble_eq_true rfl, Nat.le_of_ble_eq_true rfl⟩ s45 (fun v9 τ9 q9 => ?_) (fun n9 τ9 q9 => q_T.leave rfl q9)
      obtain ⟨v48, rfl, hV⟩ := q_ci_elim q9
      clear q9
      have hV := hV
      revert hV
      generalize τ9 = σ49
      intro hV
      show q_G l cx M_LW_law 9 576 (20 * k9 + 0) (300 * k9 + 0) 956 [(5, .inl v23), (0, .inr (.inr x0)), (1, .inr (.inr x1)), (2, .inr (.inr x2)), (3, .inr (.inr x3)), (4, .inl x4)] [.inl v48] σ49 R
      refine q_run k_LW_law_13 12 2 959 rfl ?_
      show q_G l cx M_LW_law 9 576 (20 * k9 + 0) (300 * k9 + 0) 959 [(6, .inl v48), (5, .inl v23), (0, .inr (.inr x0)), (1, .inr (.inr x1)), (2, .inr (.inr x2)), (3, .inr (.inr x3)), (4, .inl x4)] [.inr (.inr x2)] σ49 R
      obtain ⟨s50, hV⟩ := hV
      refine q_callV (st := []) (as := []) (t_PM_thrown (l := l) (cx := cx) (σ := σ49) x2 s50) (q_dc k_LW_law_13 14 rfl) (Or.inl (List.mem_of_getElem? (i := 936) (by decide +kernel))) w_PM_thrown n_PM_thrown (ci := 6) rfl e_PM_thrown a_PM_thrown (q_wt (Nat.le_of_ble_eq_true rfl)) ⟨Nat.le_of_ble_eq_true rfl, Nat.le_of_ble_eq_true rfl⟩ s50 (fun v9 τ9 q9 => ?_) (fun n9 τ9 q9 => by cases q9.1)
      obtain ⟨q8, q7⟩ := q9
      cases q8
      rw [q7]
      show q_G l cx M_LW_law 9 576 (20 * k9 + 0) (300 * k9 + 0) 962 [(6, .inl v48), (5, .inl v23), (0, .inr (.inr x0)), (1, .inr (.inr x1)), (2, .inr (.inr x2)), (3, .inr (.inr x3)), (4, .inl x4)] [.inl (f_PM_thrown σ49 x2)] σ49 R
      refine q_run k_LW_law_13 15 1 964 rfl ?_
      show q_G l cx M_LW_law 9 576 (20 * k9 + 0) (300 * k9 + 0) 964 [(6, .inl v48), (5, .inl v23), (0, .inr (.inr x0)), (1, .inr (.inr x1)), (2, .inr (.inr x2)), (3, .inr (.inr x3)), (4, .inl x4)] [.inl v23, .inl (f_PM_thrown σ49 x2)] σ49 R
      refine q_icmp (q_dc k_LW_law_13 16 rfl) rfl (fun h51 => ?_) (fun h51 => ?_)
      · have hV := hV.1 h51
        refine q_run k_LW_law_13 19 1 971 rfl ?_
        show q_G l cx M_LW_law 9 576 (20 * k9 + 0) (300 * k9 + 0) 971 [(6, .inl v48), (5, .inl v23), (0, .inr (.inr x0)), (1, .inr (.inr x1)), (2, .inr (.inr x2)), (3, .inr (.inr x3)), (4, .inl x4)] [.inl v23] σ49 R
        refine q_ifz (q_dc k_LW_law_13 20 rfl) rfl (fun h52 => ?_) (fun h52 => ?_)
        · have hV := hV.1 h52
          exact q_less (Nat.add_le_add_left (Nat.le_of_ble_eq_true rfl) _) (Nat.add_le_add_left (Nat.le_of_ble_eq_true rfl) _) (q_subk [2, 3, 4, 5, 6] rfl hV)
        · have hV := hV.2 h52
          refine q_run k_LW_law_13 21 6 981 rfl ?_
          show q_K σ49 x3 = 1001 ∧ vp_in (0 : Int32) (q_Z σ49 x3) ∧ q_G l cx M_LW_law 9 576 (20 * k9 + 0) (300 * k9 + 0) 981 [(6, .inl v48), (5, .inl v23), (0, .inr (.inr x0)), (1, .inr (.inr x1)), (2, .inr (.inr x2)), (3, .inr (.inr x3)), (4, .inl x4)] [.inl (lg_cmp (q_L σ49 x3 (0 : Int32).toNatClampNeg) v48.toInt64)] σ49 R
          obtain ⟨s53, s54, hV⟩ := hV
          refine ⟨s53, s54, ?_⟩
          refine q_ifz (q_dc k_LW_law_13 27 rfl) rfl (fun h55 => ?_) (fun h55 => ?_)
          · have hV := hV.1 h55
            exact q_less (Nat.add_le_add_left (Nat.le_of_ble_eq_true rfl) _) (Nat.add_le_add_left (Nat.le_of_ble_eq_true rfl) _) (q_subk [2, 3, 4, 5, 6] rfl hV)
          · have hV := hV.2 h55
            refine q_run k_LW_law_13 28 1 985 rfl ?_
            show q_G l cx M_LW_law 9 576 (20 * k9 + 0) (300 * k9 + 0) 985 [(6, .inl v48), (5, .inl v23), (0, .inr (.inr x0)), (1, .inr (.inr x1)), (2, .inr (.inr x2)), (3, .inr (.inr x3)), (4, .inl x4)] [.inl (0 : Int32)] σ49 R
            exact q_zreturn (q_dc k_LW_law_13 29 rfl) rfl (by decide) hV
      · have hV := hV.2 h51
        refine q_run k_LW_law_13 17 1 968 rfl ?_
        show q_G l cx M_LW_law 9 576 (20 * k9 + 0) (300 * k9 + 0) 968 [(6, .inl v48), (5, .inl v23), (0, .inr (.inr x0)), (1, .inr (.inr x1)), (2, .inr (.inr x2)), (3, .inr (.inr x3)), (4, .inl x4)] [.inl (0 : Int32)] σ49 R
        exact q_zreturn (q_dc k_LW_law_13 18 rfl) rfl (by decide) hV
set_option maxRecDepth 100000 in
theorem t_LW_law_986 {l : Launch} {cx : q_C} {R : q_O → q_S → Prop} (hlf : l.flags = pinnedFlags ++ [noTraceFlag]) : V_LW_law_986 R (fun (k9 : Nat) (x0 : Nat) (x1 : Nat) (x2 : Nat) (x3 : Nat) (x4 : Int32) (σ : q_S) => q_G l cx M_LW_law 9 576 (20 * k9 + 0) (300 * k9 + 0) 986 [(0, .inr (.inr x0)), (1, .inr (.inr x1)), (2, .inr (.inr x2)), (3, .inr (.inr x3)), (4, .inl x4)] [] σ R) (fun (k9 : Nat) (x0 : Nat) (x1 : Nat) (x2 : Nat) (x3 : Nat) (x4 : Int32) (σ : q_S) => q_G l cx M_LW_law 9 576 (20 * k9 + 0) (300 * k9 + 0) 1969 [(0, .inr (.inr x0)), (1, .inr (.inr x1)), (2, .inr (.inr x2)), (3, .inr (.inr x3)), (4, .inl x4)] [] σ R) := by
      intro k9 x0 x1 x2 x3 x4 σ hV
      show q_G l cx M_LW_law 9 576 (20 * k9 + 0) (300 * k9 + 0) 986 [(0, .inr (.inr x0)), (1, .inr (.inr x1)), (2, .inr (.inr x2)), (3, .inr (.inr x3)), (4, .inl x4)] [] σ R
      refine q_goto (q_dc k_LW_law_13 30 rfl) rfl ?_
      exact q_less (Nat.add_le_add_left (Nat.le_of_ble_eq_true rfl) _) (Nat.add_le_add_left (Nat.le_of_ble_eq_true rfl) _) (q_subk [0, 1, 2, 3, 4] rfl hV)
set_option maxRecDepth 100000 in
theorem t_LW_law_989 {l : Launch} {cx : q_C} {R : q_O → q_S → Prop} (hlf : l.flags = pinnedFlags ++ [noTraceFlag]) : V_LW_law_989 R (fun (k9 : Nat) (x0 : Nat) (x1 : Nat) (x2 : Nat) (x3 : Nat) (x4 : Int32) (σ : q_S) => q_G l cx M_LW_law 9 576 (20 * k9 + 0) (300 * k9 + 0) 989 [(0, .inr (.inr x0)), (1, .inr (.inr x1)), (2, .inr (.inr x2)), (3, .inr (.inr x3)), (4, .inl x4)] [] σ R) (fun (k9 : Nat) (x0 : Nat) (x1 : Nat) (x2 : Nat) (x3 : Nat) (x4 : Int32) (σ : q_S) => q_G l cx M_LW_law 9 576 (20 * k9 + 0) (300 * k9 + 0) 1969 [(0, .inr (.inr x0)), (1, .inr (.inr x1)), (2, .inr (.inr x2)), (3, .inr (.inr x3)), (4, .inl x4)] [] σ R) := by
      intro k9 x0 x1 x2 x3 x4 σ hV
      show q_G l cx M_LW_law 9 576 (20 * k9 + 0) (300 * k9 + 0) 989 [(0, .inr (.inr x0)), (1, .inr (.inr x1)), (2, .inr (.inr x2)), (3, .inr (.inr x3)), (4, .inl x4)] [] σ R
      refine q_run k_LW_law_14 0 1 990 rfl ?_
      show q_G l cx M_LW_law 9 576 (20 * k9 + 0) (300 * k9 + 0) 990 [(0, .inr (.inr x0)), (1, .inr (.inr x1)), (2, .inr (.inr x2)), (3, .inr (.inr x3)), (4, .inl x4)] [.inr (.inr x1)] σ R
      obtain ⟨s1, hV⟩ := hV
      refine q_callV (st := []) (as := []) (t_PF_fill (l := l) (cx := cx)  hV) (q_dc k_LW_law_14 1 rfl) (Or.inl (List.mem_of_getElem? (i := 165) (by decide +kernel))) w_PF_fill n_PF_fill (ci := 0) rfl e_PF_fill a_PF_fill (q_wt (Nat.le_of_ble_eq_true rfl)) ⟨Nat.le_of_ble_eq_true rfl, Nat.le_of_ble_eq_true rfl⟩ s1 (fun v9 τ9 q9 => ?_) (fun n9 τ9 q9 => q_T.leave rfl q9)
      obtain ⟨v4, rfl, hV⟩ := q_ci_elim q9
      clear q9
      have hV := hV
      revert hV
      generalize τ9 = σ5
      intro hV
      show q_G l cx M_LW_law 9 576 (20 * k9 + 0) (300 * k9 + 0) 993 [(0, .inr (.inr x0)), (1, .inr (.inr x1)), (2, .inr (.inr x2)), (3, .inr (.inr x3)), (4, .inl x4)] [.inl v4] σ5 R
      refine q_run k_LW_law_14 2 1 994 rfl ?_
      show q_G l cx M_LW_law 9 576 (20 * k9 + 0) (300 * k9 + 0) 994 [(0, .inr (.inr x0)), (1, .inr (.inr x1)), (2, .inr (.inr x2)), (3, .inr (.inr x3)), (4, .inl x4)] [.inr (.inr x2), .inl v4] σ5 R
      obtain ⟨s6, hV⟩ := hV
      refine q_callV (st := [.inl v4]) (as := []) (t_PM_fill (l := l) (cx := cx)  hV) (q_dc k_LW_law_14 3 rfl) (Or.inl (List.mem_of_getElem? (i := 987) (by decide +kernel))) w_PM_fill n_PM_fill (ci := 6) rfl e_PM_fill a_PM_fill (q_wt (Nat.le_of_ble_eq_true rfl)) ⟨Nat.le_of_ble_eq_true rfl, Nat.le_of_ble_eq_true rfl⟩ s6 (fun v9 τ9 q9 => ?_) (fun n9 τ9 q9 => q_T.leave rfl q9)
      obtain ⟨v9, rfl, hV⟩ := q_ci_elim q9
      clear q9
      have hV := hV
      revert hV
      generalize τ9 = σ10
      intro hV
      show q_G l cx M_LW_law 9 576 (20 * k9 + 0) (300 * k9 + 0) 997 [(0, .inr (.inr x0)), (1, .inr (.inr x1)), (2, .inr (.inr x2)), (3, .inr (.inr x3)), (4, .inl x4)] [.inl v9, .inl v4] σ10 R
      refine q_icmp (q_dc k_LW_law_14 4 rfl) rfl (fun h11 => ?_) (fun h11 => ?_)
      · have hV := hV.1 h11
        exact q_less (Nat.add_le_add_left (Nat.le_of_ble_eq_true rfl) _) (Nat.add_le_add_left (Nat.le_of_ble_eq_true rfl) _) (q_subk [0, 1, 2, 3, 4] rfl hV)
      · have hV := hV.2 h11
        refine q_run k_LW_law_14 5 1 1001 rfl ?_
        show q_G l cx M_LW_law 9 576 (20 * k9 + 0) (300 * k9 + 0) 1001 [(0, .inr (.inr x0)), (1, .inr (.inr x1)), (2, .inr (.inr x2)), (3, .inr (.inr x3)), (4, .inl x4)] [.inl (0 : Int32)] σ10 R
        exact q_zreturn (q_dc k_LW_law_14 6 rfl) rfl (by decide) hV
set_option maxRecDepth 100000 in
theorem t_LW_law_1002 {l : Launch} {cx : q_C} {R : q_O → q_S → Prop} (hlf : l.flags = pinnedFlags ++ [noTraceFlag]) : V_LW_law_1002 R (fun (k9 : Nat) (x0 : Nat) (x1 : Nat) (x2 : Nat) (x3 : Nat) (x4 : Int32) (σ : q_S) => q_G l cx M_LW_law 9 576 (20 * k9 + 2) (300 * k9 + 12) 1002 [(0, .inr (.inr x0)), (1, .inr (.inr x1)), (2, .inr (.inr x2)), (3, .inr (.inr x3)), (4, .inl x4)] [] σ R) (fun (k9 : Nat) (x0 : Nat) (x1 : Nat) (x2 : Nat) (x3 : Nat) (x4 : Int32) (σ : q_S) => q_G l cx M_LW_law 9 576 (20 * k9 + 0) (300 * k9 + 0) 1067 [(0, .inr (.inr x0)), (1, .inr (.inr x1)), (2, .inr (.inr x2)), (3, .inr (.inr x3)), (4, .inl x4)] [] σ R) := by
      intro k9 x0 x1 x2 x3 x4 σ hV
      show q_G l cx M_LW_law 9 576 (20 * k9 + 2) (300 * k9 + 12) 1002 [(0, .inr (.inr x0)), (1, .inr (.inr x1)), (2, .inr (.inr x2)), (3, .inr (.inr x3)), (4, .inl x4)] [] σ R
      refine q_run k_LW_law_15 0 12 1016 rfl ?_
      show (q_K σ x0 = 1000 ∨ q_K σ x0 = 2000) ∧ vp_in (x4 + (1 : Int32)) (q_Z σ x0) ∧ (q_K σ x0 = 1000 ∨ q_K σ x0 = 2000) ∧ vp_in (x4 + (2 : Int32)) (q_Z σ x0) ∧ q_G l cx M_LW_law 9 576 (20 * k9 + 2) (300 * k9 + 12) 1016 [(0, .inr (.inr x0)), (1, .inr (.inr x1)), (2, .inr (.inr x2)), (3, .inr (.inr x3)), (4, .inl x4)] [.inr (.inr x3), .inl (q_I σ x0 (x4 + (2 : Int32)).toNatClampNeg), .inl (q_I σ x0 (x4 + (1 : Int32)).toNatClampNeg), .inr (.inr x1)] σ R
      obtain ⟨s1, s2, s3, s4, hV⟩ := hV
      refine ⟨s1, s2, s3, s4, ?_⟩
      refine q_less (kc' := (20 * k9 + 0) + 2) (ks' := (300 * k9 + 0) + 12) (Nat.add_le_add_left (Nat.le_of_ble_eq_true rfl) _) (Nat.add_le_add_left (Nat.le_of_ble_eq_true rfl) _) ?_
      refine q_callS (st := []) (t_LW_rings (l := l) (cx := cx) hlf hV) (q_dc k_LW_law_15 12 rfl) (Or.inl (List.mem_of_getElem? (i := 767) (by decide +kernel))) w_LW_rings s_LW_rings a_LW_rings (q_wt (Nat.le_of_ble_eq_true rfl)) ⟨Nat.le_of_ble_eq_true rfl, Nat.le_of_ble_eq_true rfl⟩ (fun v9 τ9 q9 => ?_) (fun n9 τ9 q9 => q_T.leave rfl q9)
      obtain ⟨v7, rfl, hV⟩ := q_ci_elim q9
      clear q9
      have hV := hV
      revert hV
      generalize τ9 = σ8
      intro hV
      show q_G l cx M_LW_law 9 576 (20 * k9 + 0) (300 * k9 + 0) 1019 [(0, .inr (.inr x0)), (1, .inr (.inr x1)), (2, .inr (.inr x2)), (3, .inr (.inr x3)), (4, .inl x4)] [.inl v7] σ8 R
      refine q_run k_LW_law_15 13 12 1034 rfl ?_
      show (q_K σ8 x0 = 1000 ∨ q_K σ8 x0 = 2000) ∧ vp_in (x4 + (1 : Int32)) (q_Z σ8 x0) ∧ (q_K σ8 x0 = 1000 ∨ q_K σ8 x0 = 2000) ∧ vp_in (x4 + (2 : Int32)) (q_Z σ8 x0) ∧ q_G l cx M_LW_law 9 576 (20 * k9 + 0) (300 * k9 + 0) 1034 [(5, .inl v7), (0, .inr (.inr x0)), (1, .inr (.inr x1)), (2, .inr (.inr x2)), (3, .inr (.inr x3)), (4, .inl x4)] [.inl (q_I σ8 x0 (x4 + (2 : Int32)).toNatClampNeg), .inl (q_I σ8 x0 (x4 + (1 : Int32)).toNatClampNeg), .inr (.inr x2)] σ8 R
      obtain ⟨s9, s10, s11, s12, hV⟩ := hV
      refine ⟨s9, s10, s11, s12, ?_⟩
      obtain ⟨s13, hV⟩ := hV
      refine q_callV (st := []) (as := [.inl (q_I σ8 x0 (x4 + (1 : Int32)).toNatClampNeg), .inl (q_I σ8 x0 (x4 + (2 : Int32)).toNatClampNeg)]) (t_PM_rings (l := l) (cx := cx)  hV) (q_dc k_LW_law_15 25 rfl) (Or.inl (List.mem_of_getElem? (i := 1067) (by decide +kernel))) w_PM_rings n_PM_rings (ci := 6) rfl e_PM_rings a_PM_rings (q_wt (Nat.le_of_ble_eq_true rfl)) ⟨Nat.le_of_ble_eq_true rfl, Nat.le_of_ble_eq_true rfl⟩ s13 (fun v9 τ9 q9 => ?_) (fun n9 τ9 q9 => q_T.leave rfl q9)
      obtain ⟨v16, rfl, hV⟩ := q_ci_elim q9
      clear q9
      have hV := hV
      revert hV
      generalize τ9 = σ17
      intro hV
      show q_G l cx M_LW_law 9 576 (20 * k9 + 0) (300 * k9 + 0) 1037 [(5, .inl v7), (0, .inr (.inr x0)), (1, .inr (.inr x1)), (2, .inr (.inr x2)), (3, .inr (.inr x3)), (4, .inl x4)] [.inl v16] σ17 R
      refine q_run k_LW_law_15 26 2 1040 rfl ?_
      show q_G l cx M_LW_law 9 576 (20 * k9 + 0) (300 * k9 + 0) 1040 [(6, .inl v16), (5, .inl v7), (0, .inr (.inr x0)), (1, .inr (.inr x1)), (2, .inr (.inr x2)), (3, .inr (.inr x3)), (4, .inl x4)] [.inr (.inr x2)] σ17 R
      obtain ⟨s18, hV⟩ := hV
      refine q_callV (st := []) (as := []) (t_PM_thrown (l := l) (cx := cx) (σ := σ17) x2 s18) (q_dc k_LW_law_15 28 rfl) (Or.inl (List.mem_of_getElem? (i := 936) (by decide +kernel))) w_PM_thrown n_PM_thrown (ci := 6) rfl e_PM_thrown a_PM_thrown (q_wt (Nat.le_of_ble_eq_true rfl)) ⟨Nat.le_of_ble_eq_true rfl, Nat.le_of_ble_eq_true rfl⟩ s18 (fun v9 τ9 q9 => ?_) (fun n9 τ9 q9 => by cases q9.1)
      obtain ⟨q8, q7⟩ := q9
      cases q8
      rw [q7]
      show q_G l cx M_LW_law 9 576 (20 * k9 + 0) (300 * k9 + 0) 1043 [(6, .inl v16), (5, .inl v7), (0, .inr (.inr x0)), (1, .inr (.inr x1)), (2, .inr (.inr x2)), (3, .inr (.inr x3)), (4, .inl x4)] [.inl (f_PM_thrown σ17 x2)] σ17 R
      refine q_run k_LW_law_15 29 1 1045 rfl ?_
      show q_G l cx M_LW_law 9 576 (20 * k9 + 0) (300 * k9 + 0) 1045 [(6, .inl v16), (5, .inl v7), (0, .inr (.inr x0)), (1, .inr (.inr x1)), (2, .inr (.inr x2)), (3, .inr (.inr x3)), (4, .inl x4)] [.inl v7, .inl (f_PM_thrown σ17 x2)] σ17 R
      refine q_icmp (q_dc k_LW_law_15 30 rfl) rfl (fun h19 => ?_) (fun h19 => ?_)
      · have hV := hV.1 h19
        refine q_run k_LW_law_15 33 1 1052 rfl ?_
        show q_G l cx M_LW_law 9 576 (20 * k9 + 0) (300 * k9 + 0) 1052 [(6, .inl v16), (5, .inl v7), (0, .inr (.inr x0)), (1, .inr (.inr x1)), (2, .inr (.inr x2)), (3, .inr (.inr x3)), (4, .inl x4)] [.inl v7] σ17 R
        refine q_ifz (q_dc k_LW_law_15 34 rfl) rfl (fun h20 => ?_) (fun h20 => ?_)
        · have hV := hV.1 h20
          exact q_less (Nat.add_le_add_left (Nat.le_of_ble_eq_true rfl) _) (Nat.add_le_add_left (Nat.le_of_ble_eq_true rfl) _) (q_subk [2, 3, 4, 5, 6] rfl hV)
        · have hV := hV.2 h20
          refine q_run k_LW_law_15 35 6 1062 rfl ?_
          show q_K σ17 x3 = 1001 ∧ vp_in (0 : Int32) (q_Z σ17 x3) ∧ q_G l cx M_LW_law 9 576 (20 * k9 + 0) (300 * k9 + 0) 1062 [(6, .inl v16), (5, .inl v7), (0, .inr (.inr x0)), (1, .inr (.inr x1)), (2, .inr (.inr x2)), (3, .inr (.inr x3)), (4, .inl x4)] [.inl (lg_cmp (q_L σ17 x3 (0 : Int32).toNatClampNeg) v16.toInt64)] σ17 R
          obtain ⟨s21, s22, hV⟩ := hV
          refine ⟨s21, s22, ?_⟩
          refine q_ifz (q_dc k_LW_law_15 41 rfl) rfl (fun h23 => ?_) (fun h23 => ?_)
          · have hV := hV.1 h23
            exact q_less (Nat.add_le_add_left (Nat.le_of_ble_eq_true rfl) _) (Nat.add_le_add_left (Nat.le_of_ble_eq_true rfl) _) (q_subk [2, 3, 4, 5, 6] rfl hV)
          · have hV := hV.2 h23
            refine q_run k_LW_law_15 42 1 1066 rfl ?_
            show q_G l cx M_LW_law 9 576 (20 * k9 + 0) (300 * k9 + 0) 1066 [(6, .inl v16), (5, .inl v7), (0, .inr (.inr x0)), (1, .inr (.inr x1)), (2, .inr (.inr x2)), (3, .inr (.inr x3)), (4, .inl x4)] [.inl (0 : Int32)] σ17 R
            exact q_zreturn (q_dc k_LW_law_15 43 rfl) rfl (by decide) hV
      · have hV := hV.2 h19
        refine q_run k_LW_law_15 31 1 1049 rfl ?_
        show q_G l cx M_LW_law 9 576 (20 * k9 + 0) (300 * k9 + 0) 1049 [(6, .inl v16), (5, .inl v7), (0, .inr (.inr x0)), (1, .inr (.inr x1)), (2, .inr (.inr x2)), (3, .inr (.inr x3)), (4, .inl x4)] [.inl (0 : Int32)] σ17 R
        exact q_zreturn (q_dc k_LW_law_15 32 rfl) rfl (by decide) hV
set_option maxRecDepth 100000 in
theorem t_LW_law_1067 {l : Launch} {cx : q_C} {R : q_O → q_S → Prop} (hlf : l.flags = pinnedFlags ++ [noTraceFlag]) : V_LW_law_1067 R (fun (k9 : Nat) (x0 : Nat) (x1 : Nat) (x2 : Nat) (x3 : Nat) (x4 : Int32) (σ : q_S) => q_G l cx M_LW_law 9 576 (20 * k9 + 0) (300 * k9 + 0) 1067 [(0, .inr (.inr x0)), (1, .inr (.inr x1)), (2, .inr (.inr x2)), (3, .inr (.inr x3)), (4, .inl x4)] [] σ R) (fun (k9 : Nat) (x0 : Nat) (x1 : Nat) (x2 : Nat) (x3 : Nat) (x4 : Int32) (σ : q_S) => q_G l cx M_LW_law 9 576 (20 * k9 + 0) (300 * k9 + 0) 1969 [(0, .inr (.inr x0)), (1, .inr (.inr x1)), (2, .inr (.inr x2)), (3, .inr (.inr x3)), (4, .inl x4)] [] σ R) := by
      intro k9 x0 x1 x2 x3 x4 σ hV
      show q_G l cx M_LW_law 9 576 (20 * k9 + 0) (300 * k9 + 0) 1067 [(0, .inr (.inr x0)), (1, .inr (.inr x1)), (2, .inr (.inr x2)), (3, .inr (.inr x3)), (4, .inl x4)] [] σ R
      refine q_goto (q_dc k_LW_law_15 44 rfl) rfl ?_
      exact q_less (Nat.add_le_add_left (Nat.le_of_ble_eq_true rfl) _) (Nat.add_le_add_left (Nat.le_of_ble_eq_true rfl) _) (q_subk [0, 1, 2, 3, 4] rfl hV)
set_option maxRecDepth 100000 in
theorem t_LW_law_1070 {l : Launch} {cx : q_C} {R : q_O → q_S → Prop} (hlf : l.flags = pinnedFlags ++ [noTraceFlag]) : V_LW_law_1070 R (fun (k9 : Nat) (x0 : Nat) (x1 : Nat) (x2 : Nat) (x3 : Nat) (x4 : Int32) (σ : q_S) => q_G l cx M_LW_law 9 576 (20 * k9 + 2) (300 * k9 + 12) 1070 [(0, .inr (.inr x0)), (1, .inr (.inr x1)), (2, .inr (.inr x2)), (3, .inr (.inr x3)), (4, .inl x4)] [] σ R) (fun (k9 : Nat) (x0 : Nat) (x1 : Nat) (x2 : Nat) (x3 : Nat) (x4 : Int32) (σ : q_S) => q_G l cx M_LW_law 9 576 (20 * k9 + 0) (300 * k9 + 0) 1170 [(0, .inr (.inr x0)), (1, .inr (.inr x1)), (2, .inr (.inr x2)), (3, .inr (.inr x3)), (4, .inl x4)] [] σ R) := by
      intro k9 x0 x1 x2 x3 x4 σ hV
      show q_G l cx M_LW_law 9 576 (20 * k9 + 2) (300 * k9 + 12) 1070 [(0, .inr (.inr x0)), (1, .inr (.inr x1)), (2, .inr (.inr x2)), (3, .inr (.inr x3)), (4, .inl x4)] [] σ R
      refine q_run k_LW_law_16 0 27 1102 rfl ?_
      show (q_K σ x0 = 1000 ∨ q_K σ x0 = 2000) ∧ vp_in (x4 + (1 : Int32)) (q_Z σ x0) ∧ (q_K σ x0 = 1000 ∨ q_K σ x0 = 2000) ∧ vp_in (x4 + (2 : Int32)) (q_Z σ x0) ∧ (q_K σ x0 = 1000 ∨ q_K σ x0 = 2000) ∧ vp_in (x4 + (3 : Int32)) (q_Z σ x0) ∧ (q_K σ x0 = 1000 ∨ q_K σ x0 = 2000) ∧ vp_in (x4 + (4 : Int32)) (q_Z σ x0) ∧ (q_K σ x0 = 1000 ∨ q_K σ x0 = 2000) ∧ vp_in (x4 + (5 : Int32)) (q_Z σ x0) ∧ q_G l cx M_LW_law 9 576 (20 * k9 + 2) (300 * k9 + 12) 1102 [(0, .inr (.inr x0)), (1, .inr (.inr x1)), (2, .inr (.inr x2)), (3, .inr (.inr x3)), (4, .inl x4)] [.inr (.inr x3), .inl (q_I σ x0 (x4 + (5 : Int32)).toNatClampNeg), .inl (q_I σ x0 (x4 + (4 : Int32)).toNatClampNeg), .inl (q_I σ x0 (x4 + (3 : Int32)).toNatClampNeg), .inl (q_I σ x0 (x4 + (2 : Int32)).toNatClampNeg), .inl (q_I σ x0 (x4 + (1 : Int32)).toNatClampNeg), .inr (.inr x1)] σ R
      obtain ⟨s1, s2, s3, s4, s5, s6, s7, s8, s9, s10, hV⟩ := hV
      refine ⟨s1, s2, s3, s4, s5, s6, s7, s8, s9, s10, ?_⟩
      refine q_less (kc' := (20 * k9 + 0) + 2) (ks' := (300 * k9 + 0) + 12) (Nat.add_le_add_left (Nat.le_of_ble_eq_true rfl) _) (Nat.add_le_add_left (Nat.le_of_ble_eq_true rfl) _) ?_
      refine q_callS (st := []) (t_LW_at (l := l) (cx := cx) hlf hV) (q_dc k_LW_law_16 27 rfl) (Or.inl (List.mem_of_getElem? (i := 785) (by decide +kernel))) w_LW_at s_LW_at a_LW_at (q_wt (Nat.le_of_ble_eq_true rfl)) ⟨Nat.le_of_ble_eq_true rfl, Nat.le_of_ble_eq_true rfl⟩ (fun v9 τ9 q9 => ?_) (fun n9 τ9 q9 => q_T.leave rfl q9)
      obtain ⟨v13, rfl, hV⟩ := q_ci_elim q9
      clear q9
      have hV := hV
      revert hV
      generalize τ9 = σ14
      intro hV
      show q_G l cx M_LW_law 9 576 (20 * k9 + 0) (300 * k9 + 0) 1105 [(0, .inr (.inr x0)), (1, .inr (.inr x1)), (2, .inr (.inr x2)), (3, .inr (.inr x3)), (4, .inl x4)] [.inl v13] σ14 R
      refine q_run k_LW_law_16 28 22 1132 rfl ?_
      show (q_K σ14 x0 = 1000 ∨ q_K σ14 x0 = 2000) ∧ vp_in (x4 + (1 : Int32)) (q_Z σ14 x0) ∧ (q_K σ14 x0 = 1000 ∨ q_K σ14 x0 = 2000) ∧ vp_in (x4 + (2 : Int32)) (q_Z σ14 x0) ∧ (q_K σ14 x0 = 1000 ∨ q_K σ14 x0 = 2000) ∧ vp_in (x4 + (3 : Int32)) (q_Z σ14 x0) ∧ (q_K σ14 x0 = 1000 ∨ q_K σ14 x0 = 2000) ∧ vp_in (x4 + (4 : Int32)) (q_Z σ14 x0) ∧ q_G l cx M_LW_law 9 576 (20 * k9 + 0) (300 * k9 + 0) 1132 [(5, .inl v13), (0, .inr (.inr x0)), (1, .inr (.inr x1)), (2, .inr (.inr x2)), (3, .inr (.inr x3)), (4, .inl x4)] [.inl (q_I σ14 x0 (x4 + (4 : Int32)).toNatClampNeg), .inl (q_I σ14 x0 (x4 + (3 : Int32)).toNatClampNeg), .inl (q_I σ14 x0 (x4 + (2 : Int32)).toNatClampNeg), .inl (q_I σ14 x0 (x4 + (1 : Int32)).toNatClampNeg), .inr (.inr x2)] σ14 R
      obtain ⟨s15, s16, s17, s18, s19, s20, s21, s22, hV⟩ := hV
      refine ⟨s15, s16, s17, s18, s19, s20, s21, s22, ?_⟩
      refine q_run k_LW_law_17 0 5 1138 rfl ?_
      show (q_K σ14 x0 = 1000 ∨ q_K σ14 x0 = 2000) ∧ vp_in (x4 + (5 : Int32)) (q_Z σ14 x0) ∧ q_G l cx M_LW_law 9 576 (20 * k9 + 0) (300 * k9 + 0) 1138 [(5, .inl v13), (0, .inr (.inr x0)), (1, .inr (.inr x1)), (2, .inr (.inr x2)), (3, .inr (.inr x3)), (4, .inl x4)] [.inl (q_I σ14 x0 (x4 + (5 : Int32)).toNatClampNeg), .inl (q_I σ14 x0 (x4 + (4 : Int32)).toNatClampNeg), .inl (q_I σ14 x0 (x4 + (3 : Int32)).toNatClampNeg), .inl (q_I σ14 x0 (x4 + (2 : Int32)).toNatClampNeg), .inl (q_I σ14 x0 (x4 + (1 : Int32)).toNatClampNeg), .inr (.inr x2)] σ14 R
      obtain ⟨s23, s24, hV⟩ := hV
      refine ⟨s23, s24, ?_⟩
      obtain ⟨s25, hV⟩ := hV
      refine q_callV (st := []) (as := [.inl (q_I σ14 x0 (x4 + (1 : Int32)).toNatClampNeg), .inl (q_I σ14 x0 (x4 + (2 : Int32)).toNatClampNeg), .inl (q_I σ14 x0 (x4 + (3 : Int32)).toNatClampNeg), .inl (q_I σ14 x0 (x4 + (4 : Int32)).toNatClampNeg), .inl (q_I σ14 x0 (x4 + (5 : Int32)).toNatClampNeg)]) (t_PM_at (l := l) (cx := cx)  hV) (q_dc k_LW_law_17 5 rfl) (Or.inl (List.mem_of_getElem? (i := 1083) (by decide +kernel))) w_PM_at n_PM_at (ci := 6) rfl e_PM_at a_PM_at (q_wt (Nat.le_of_ble_eq_true rfl)) ⟨Nat.le_of_ble_eq_true rfl, Nat.le_of_ble_eq_true rfl⟩ s25 (fun v9 τ9 q9 => ?_) (fun n9 τ9 q9 => q_T.leave rfl q9)
      obtain ⟨v28, rfl, hV⟩ := q_cl_elim q9
      clear q9
      have hV := hV
      revert hV
      generalize τ9 = σ29
      intro hV
      show q_G l cx M_LW_law 9 576 (20 * k9 + 0) (300 * k9 + 0) 1141 [(5, .inl v13), (0, .inr (.inr x0)), (1, .inr (.inr x1)), (2, .inr (.inr x2)), (3, .inr (.inr x3)), (4, .inl x4)] [.inr (.inl v28)] σ29 R
      refine q_run k_LW_law_17 6 2 1144 rfl ?_
      show q_G l cx M_LW_law 9 576 (20 * k9 + 0) (300 * k9 + 0) 1144 [(6, .inr (.inl v28)), (5, .inl v13), (0, .inr (.inr x0)), (1, .inr (.inr x1)), (2, .inr (.inr x2)), (3, .inr (.inr x3)), (4, .inl x4)] [.inr (.inr x2)] σ29 R
      obtain ⟨s30, hV⟩ := hV
      refine q_callV (st := []) (as := []) (t_PM_thrown (l := l) (cx := cx) (σ := σ29) x2 s30) (q_dc k_LW_law_17 8 rfl) (Or.inl (List.mem_of_getElem? (i := 936) (by decide +kernel))) w_PM_thrown n_PM_thrown (ci := 6) rfl e_PM_thrown a_PM_thrown (q_wt (Nat.le_of_ble_eq_true rfl)) ⟨Nat.le_of_ble_eq_true rfl, Nat.le_of_ble_eq_true rfl⟩ s30 (fun v9 τ9 q9 => ?_) (fun n9 τ9 q9 => by cases q9.1)
      obtain ⟨q8, q7⟩ := q9
      cases q8
      rw [q7]
      show q_G l cx M_LW_law 9 576 (20 * k9 + 0) (300 * k9 + 0) 1147 [(6, .inr (.inl v28)), (5, .inl v13), (0, .inr (.inr x0)), (1, .inr (.inr x1)), (2, .inr (.inr x2)), (3, .inr (.inr x3)), (4, .inl x4)] [.inl (f_PM_thrown σ29 x2)] σ29 R
      refine q_run k_LW_law_17 9 1 1149 rfl ?_
      show q_G l cx M_LW_law 9 576 (20 * k9 + 0) (300 * k9 + 0) 1149 [(6, .inr (.inl v28)), (5, .inl v13), (0, .inr (.inr x0)), (1, .inr (.inr x1)), (2, .inr (.inr x2)), (3, .inr (.inr x3)), (4, .inl x4)] [.inl v13, .inl (f_PM_thrown σ29 x2)] σ29 R
      refine q_icmp (q_dc k_LW_law_17 10 rfl) rfl (fun h31 => ?_) (fun h31 => ?_)
      · have hV := hV.1 h31
        refine q_run k_LW_law_17 13 1 1156 rfl ?_
        show q_G l cx M_LW_law 9 576 (20 * k9 + 0) (300 * k9 + 0) 1156 [(6, .inr (.inl v28)), (5, .inl v13), (0, .inr (.inr x0)), (1, .inr (.inr x1)), (2, .inr (.inr x2)), (3, .inr (.inr x3)), (4, .inl x4)] [.inl v13] σ29 R
        refine q_ifz (q_dc k_LW_law_17 14 rfl) rfl (fun h32 => ?_) (fun h32 => ?_)
        · have hV := hV.1 h32
          exact q_less (Nat.add_le_add_left (Nat.le_of_ble_eq_true rfl) _) (Nat.add_le_add_left (Nat.le_of_ble_eq_true rfl) _) (q_subk [2, 3, 4, 5, 6] rfl hV)
        · have hV := hV.2 h32
          refine q_run k_LW_law_17 15 5 1165 rfl ?_
          show q_K σ29 x3 = 1001 ∧ vp_in (0 : Int32) (q_Z σ29 x3) ∧ q_G l cx M_LW_law 9 576 (20 * k9 + 0) (300 * k9 + 0) 1165 [(6, .inr (.inl v28)), (5, .inl v13), (0, .inr (.inr x0)), (1, .inr (.inr x1)), (2, .inr (.inr x2)), (3, .inr (.inr x3)), (4, .inl x4)] [.inl (lg_cmp (q_L σ29 x3 (0 : Int32).toNatClampNeg) v28)] σ29 R
          obtain ⟨s33, s34, hV⟩ := hV
          refine ⟨s33, s34, ?_⟩
          refine q_ifz (q_dc k_LW_law_17 20 rfl) rfl (fun h35 => ?_) (fun h35 => ?_)
          · have hV := hV.1 h35
            exact q_less (Nat.add_le_add_left (Nat.le_of_ble_eq_true rfl) _) (Nat.add_le_add_left (Nat.le_of_ble_eq_true rfl) _) (q_subk [2, 3, 4, 5, 6] rfl hV)
          · have hV := hV.2 h35
            refine q_run k_LW_law_17 21 1 1169 rfl ?_
            show q_G l cx M_LW_law 9 576 (20 * k9 + 0) (300 * k9 + 0) 1169 [(6, .inr (.inl v28)), (5, .inl v13), (0, .inr (.inr x0)), (1, .inr (.inr x1)), (2, .inr (.inr x2)), (3, .inr (.inr x3)), (4, .inl x4)] [.inl (0 : Int32)] σ29 R
            exact q_zreturn (q_dc k_LW_law_17 22 rfl) rfl (by decide) hV
      · have hV := hV.2 h31
        refine q_run k_LW_law_17 11 1 1153 rfl ?_
        show q_G l cx M_LW_law 9 576 (20 * k9 + 0) (300 * k9 + 0) 1153 [(6, .inr (.inl v28)), (5, .inl v13), (0, .inr (.inr x0)), (1, .inr (.inr x1)), (2, .inr (.inr x2)), (3, .inr (.inr x3)), (4, .inl x4)] [.inl (0 : Int32)] σ29 R
        exact q_zreturn (q_dc k_LW_law_17 12 rfl) rfl (by decide) hV
set_option maxRecDepth 100000 in
theorem t_LW_law_1170 {l : Launch} {cx : q_C} {R : q_O → q_S → Prop} (hlf : l.flags = pinnedFlags ++ [noTraceFlag]) : V_LW_law_1170 R (fun (k9 : Nat) (x0 : Nat) (x1 : Nat) (x2 : Nat) (x3 : Nat) (x4 : Int32) (σ : q_S) => q_G l cx M_LW_law 9 576 (20 * k9 + 0) (300 * k9 + 0) 1170 [(0, .inr (.inr x0)), (1, .inr (.inr x1)), (2, .inr (.inr x2)), (3, .inr (.inr x3)), (4, .inl x4)] [] σ R) (fun (k9 : Nat) (x0 : Nat) (x1 : Nat) (x2 : Nat) (x3 : Nat) (x4 : Int32) (σ : q_S) => q_G l cx M_LW_law 9 576 (20 * k9 + 0) (300 * k9 + 0) 1969 [(0, .inr (.inr x0)), (1, .inr (.inr x1)), (2, .inr (.inr x2)), (3, .inr (.inr x3)), (4, .inl x4)] [] σ R) := by
      intro k9 x0 x1 x2 x3 x4 σ hV
      show q_G l cx M_LW_law 9 576 (20 * k9 + 0) (300 * k9 + 0) 1170 [(0, .inr (.inr x0)), (1, .inr (.inr x1)), (2, .inr (.inr x2)), (3, .inr (.inr x3)), (4, .inl x4)] [] σ R
      refine q_goto (q_dc k_LW_law_17 23 rfl) rfl ?_
      exact q_less (Nat.add_le_add_left (Nat.le_of_ble_eq_true rfl) _) (Nat.add_le_add_left (Nat.le_of_ble_eq_true rfl) _) (q_subk [0, 1, 2, 3, 4] rfl hV)
set_option maxRecDepth 100000 in
theorem t_LW_law_1173 {l : Launch} {cx : q_C} {R : q_O → q_S → Prop} (hlf : l.flags = pinnedFlags ++ [noTraceFlag]) : V_LW_law_1173 R (fun (k9 : Nat) (x0 : Nat) (x1 : Nat) (x2 : Nat) (x3 : Nat) (x4 : Int32) (σ : q_S) => q_G l cx M_LW_law 9 576 (20 * k9 + 1) (300 * k9 + 6) 1173 [(0, .inr (.inr x0)), (1, .inr (.inr x1)), (2, .inr (.inr x2)), (3, .inr (.inr x3)), (4, .inl x4)] [] σ R) (fun (k9 : Nat) (x0 : Nat) (x1 : Nat) (x2 : Nat) (x3 : Nat) (x4 : Int32) (y0 : Int64) (y1 : Int64) (σ : q_S) => q_G l cx M_LW_law 9 576 (20 * k9 + 0) (300 * k9 + 0) 1315 [(0, .inr (.inr x0)), (1, .inr (.inr x1)), (2, .inr (.inr x2)), (3, .inr (.inr x3)), (4, .inl x4)] [.inr (.inl y0), .inr (.inl y1)] σ R) (fun (k9 : Nat) (x0 : Nat) (x1 : Nat) (x2 : Nat) (x3 : Nat) (x4 : Int32) (σ : q_S) => q_G l cx M_LW_law 9 576 (20 * k9 + 0) (300 * k9 + 0) 1321 [(0, .inr (.inr x0)), (1, .inr (.inr x1)), (2, .inr (.inr x2)), (3, .inr (.inr x3)), (4, .inl x4)] [] σ R) := by
      intro k9 x0 x1 x2 x3 x4 σ hV
      show q_G l cx M_LW_law 9 576 (20 * k9 + 1) (300 * k9 + 6) 1173 [(0, .inr (.inr x0)), (1, .inr (.inr x1)), (2, .inr (.inr x2)), (3, .inr (.inr x3)), (4, .inl x4)] [] σ R
      refine q_run k_LW_law_18 0 41 1225 rfl ?_
      show (q_K σ x0 = 1000 ∨ q_K σ x0 = 2000) ∧ vp_in (x4 + (1 : Int32)) (q_Z σ x0) ∧ (q_K σ x0 = 1000 ∨ q_K σ x0 = 2000) ∧ vp_in (x4 + (2 : Int32)) (q_Z σ x0) ∧ (q_K σ x0 = 1000 ∨ q_K σ x0 = 2000) ∧ vp_in (x4 + (3 : Int32)) (q_Z σ x0) ∧ (q_K σ x0 = 1000 ∨ q_K σ x0 = 2000) ∧ vp_in (x4 + (4 : Int32)) (q_Z σ x0) ∧ (q_K σ x0 = 1000 ∨ q_K σ x0 = 2000) ∧ vp_in (x4 + (5 : Int32)) (q_Z σ x0) ∧ q_G l cx M_LW_law 9 576 (20 * k9 + 1) (300 * k9 + 6) 1225 [(0, .inr (.inr x0)), (1, .inr (.inr x1)), (2, .inr (.inr x2)), (3, .inr (.inr x3)), (4, .inl x4)] [.inr (.inr x3), .inr (.inl ((((q_I σ x0 (x4 + (4 : Int32)).toNatClampNeg).toInt64) <<< ((32 : Int32).toInt64 &&& 63)) ||| (((q_I σ x0 (x4 + (5 : Int32)).toNatClampNeg).toInt64) &&& (4294967295 : Int64)))), .inr (.inl ((((q_I σ x0 (x4 + (2 : Int32)).toNatClampNeg).toInt64) <<< ((32 : Int32).toInt64 &&& 63)) ||| (((q_I σ x0 (x4 + (3 : Int32)).toNatClampNeg).toInt64) &&& (4294967295 : Int64)))), .inl (q_I σ x0 (x4 + (1 : Int32)).toNatClampNeg), .inr (.inr x1)] σ R
      obtain ⟨s1, s2, s3, s4, s5, s6, s7, s8, s9, s10, hV⟩ := hV
      refine ⟨s1, s2, s3, s4, s5, s6, s7, s8, s9, s10, ?_⟩
      refine q_less (kc' := (20 * k9 + 0) + 1) (ks' := (300 * k9 + 0) + 6) (Nat.add_le_add_left (Nat.le_of_ble_eq_true rfl) _) (Nat.add_le_add_left (Nat.le_of_ble_eq_true rfl) _) ?_
      refine q_callS (st := []) (t_LW_in (l := l) (cx := cx) hlf hV) (q_dc k_LW_law_18 41 rfl) (Or.inl (List.mem_of_getElem? (i := 805) (by decide +kernel))) w_LW_in s_LW_in a_LW_in (q_wt (Nat.le_of_ble_eq_true rfl)) ⟨Nat.le_of_ble_eq_true rfl, Nat.le_of_ble_eq_true rfl⟩ (fun v9 τ9 q9 => ?_) (fun n9 τ9 q9 => q_T.leave rfl q9)
      obtain ⟨v13, rfl, hV⟩ := q_ci_elim q9
      clear q9
      have hV := hV
      revert hV
      generalize τ9 = σ14
      intro hV
      show q_G l cx M_LW_law 9 576 (20 * k9 + 0) (300 * k9 + 0) 1228 [(0, .inr (.inr x0)), (1, .inr (.inr x1)), (2, .inr (.inr x2)), (3, .inr (.inr x3)), (4, .inl x4)] [.inl v13] σ14 R
      refine q_run k_LW_law_18 42 8 1238 rfl ?_
      show (q_K σ14 x0 = 1000 ∨ q_K σ14 x0 = 2000) ∧ vp_in (x4 + (1 : Int32)) (q_Z σ14 x0) ∧ q_G l cx M_LW_law 9 576 (20 * k9 + 0) (300 * k9 + 0) 1238 [(5, .inl v13), (0, .inr (.inr x0)), (1, .inr (.inr x1)), (2, .inr (.inr x2)), (3, .inr (.inr x3)), (4, .inl x4)] [.inr (.inr x0), .inl (q_I σ14 x0 (x4 + (1 : Int32)).toNatClampNeg), .inr (.inr x2)] σ14 R
      obtain ⟨s15, s16, hV⟩ := hV
      refine ⟨s15, s16, ?_⟩
      refine q_run k_LW_law_19 0 33 1281 rfl ?_
      show (q_K σ14 x0 = 1000 ∨ q_K σ14 x0 = 2000) ∧ vp_in (x4 + (2 : Int32)) (q_Z σ14 x0) ∧ (q_K σ14 x0 = 1000 ∨ q_K σ14 x0 = 2000) ∧ vp_in (x4 + (3 : Int32)) (q_Z σ14 x0) ∧ (q_K σ14 x0 = 1000 ∨ q_K σ14 x0 = 2000) ∧ vp_in (x4 + (4 : Int32)) (q_Z σ14 x0) ∧ (q_K σ14 x0 = 1000 ∨ q_K σ14 x0 = 2000) ∧ vp_in (x4 + (5 : Int32)) (q_Z σ14 x0) ∧ q_G l cx M_LW_law 9 576 (20 * k9 + 0) (300 * k9 + 0) 1281 [(5, .inl v13), (0, .inr (.inr x0)), (1, .inr (.inr x1)), (2, .inr (.inr x2)), (3, .inr (.inr x3)), (4, .inl x4)] [.inr (.inl ((((q_I σ14 x0 (x4 + (4 : Int32)).toNatClampNeg).toInt64) <<< ((32 : Int32).toInt64 &&& 63)) ||| (((q_I σ14 x0 (x4 + (5 : Int32)).toNatClampNeg).toInt64) &&& (4294967295 : Int64)))), .inr (.inl ((((q_I σ14 x0 (x4 + (2 : Int32)).toNatClampNeg).toInt64) <<< ((32 : Int32).toInt64 &&& 63)) ||| (((q_I σ14 x0 (x4 + (3 : Int32)).toNatClampNeg).toInt64) &&& (4294967295 : Int64)))), .inl (q_I σ14 x0 (x4 + (1 : Int32)).toNatClampNeg), .inr (.inr x2)] σ14 R
      obtain ⟨s17, s18, s19, s20, s21, s22, s23, s24, hV⟩ := hV
      refine ⟨s17, s18, s19, s20, s21, s22, s23, s24, ?_⟩
      obtain ⟨s25, hV⟩ := hV
      refine q_callV (st := []) (as := [.inl (q_I σ14 x0 (x4 + (1 : Int32)).toNatClampNeg), .inr (.inl ((((q_I σ14 x0 (x4 + (2 : Int32)).toNatClampNeg).toInt64) <<< ((32 : Int32).toInt64 &&& 63)) ||| (((q_I σ14 x0 (x4 + (3 : Int32)).toNatClampNeg).toInt64) &&& (4294967295 : Int64)))), .inr (.inl ((((q_I σ14 x0 (x4 + (4 : Int32)).toNatClampNeg).toInt64) <<< ((32 : Int32).toInt64 &&& 63)) ||| (((q_I σ14 x0 (x4 + (5 : Int32)).toNatClampNeg).toInt64) &&& (4294967295 : Int64))))]) (t_PM_in (l := l) (cx := cx)  hV) (q_dc k_LW_law_19 33 rfl) (Or.inl (List.mem_of_getElem? (i := 1055) (by decide +kernel))) w_PM_in n_PM_in (ci := 6) rfl e_PM_in a_PM_in (q_wt (Nat.le_of_ble_eq_true rfl)) ⟨Nat.le_of_ble_eq_true rfl, Nat.le_of_ble_eq_true rfl⟩ s25 (fun v9 τ9 q9 => ?_) (fun n9 τ9 q9 => q_T.leave rfl q9)
      obtain ⟨v28, rfl, hV⟩ := q_ci_elim q9
      clear q9
      have hV := hV
      revert hV
      generalize τ9 = σ29
      intro hV
      show q_G l cx M_LW_law 9 576 (20 * k9 + 0) (300 * k9 + 0) 1284 [(5, .inl v13), (0, .inr (.inr x0)), (1, .inr (.inr x1)), (2, .inr (.inr x2)), (3, .inr (.inr x3)), (4, .inl x4)] [.inl v28] σ29 R
      refine q_run k_LW_law_19 34 2 1287 rfl ?_
      show q_G l cx M_LW_law 9 576 (20 * k9 + 0) (300 * k9 + 0) 1287 [(6, .inl v28), (5, .inl v13), (0, .inr (.inr x0)), (1, .inr (.inr x1)), (2, .inr (.inr x2)), (3, .inr (.inr x3)), (4, .inl x4)] [.inr (.inr x2)] σ29 R
      obtain ⟨s30, hV⟩ := hV
      refine q_callV (st := []) (as := []) (t_PM_thrown (l := l) (cx := cx) (σ := σ29) x2 s30) (q_dc k_LW_law_19 36 rfl) (Or.inl (List.mem_of_getElem? (i := 936) (by decide +kernel))) w_PM_thrown n_PM_thrown (ci := 6) rfl e_PM_thrown a_PM_thrown (q_wt (Nat.le_of_ble_eq_true rfl)) ⟨Nat.le_of_ble_eq_true rfl, Nat.le_of_ble_eq_true rfl⟩ s30 (fun v9 τ9 q9 => ?_) (fun n9 τ9 q9 => by cases q9.1)
      obtain ⟨q8, q7⟩ := q9
      cases q8
      rw [q7]
      show q_G l cx M_LW_law 9 576 (20 * k9 + 0) (300 * k9 + 0) 1290 [(6, .inl v28), (5, .inl v13), (0, .inr (.inr x0)), (1, .inr (.inr x1)), (2, .inr (.inr x2)), (3, .inr (.inr x3)), (4, .inl x4)] [.inl (f_PM_thrown σ29 x2)] σ29 R
      refine q_run k_LW_law_19 37 1 1292 rfl ?_
      show q_G l cx M_LW_law 9 576 (20 * k9 + 0) (300 * k9 + 0) 1292 [(6, .inl v28), (5, .inl v13), (0, .inr (.inr x0)), (1, .inr (.inr x1)), (2, .inr (.inr x2)), (3, .inr (.inr x3)), (4, .inl x4)] [.inl v13, .inl (f_PM_thrown σ29 x2)] σ29 R
      refine q_icmp (q_dc k_LW_law_19 38 rfl) rfl (fun h31 => ?_) (fun h31 => ?_)
      · have hV := hV.1 h31
        refine q_run k_LW_law_19 41 1 1299 rfl ?_
        show q_G l cx M_LW_law 9 576 (20 * k9 + 0) (300 * k9 + 0) 1299 [(6, .inl v28), (5, .inl v13), (0, .inr (.inr x0)), (1, .inr (.inr x1)), (2, .inr (.inr x2)), (3, .inr (.inr x3)), (4, .inl x4)] [.inl v13] σ29 R
        refine q_ifz (q_dc k_LW_law_19 42 rfl) rfl (fun h32 => ?_) (fun h32 => ?_)
        · have hV := hV.1 h32
          exact q_less (Nat.add_le_add_left (Nat.le_of_ble_eq_true rfl) _) (Nat.add_le_add_left (Nat.le_of_ble_eq_true rfl) _) (q_subk [2, 3, 4, 5, 6] rfl hV)
        · have hV := hV.2 h32
          refine q_run k_LW_law_19 43 4 1307 rfl ?_
          show q_K σ29 x3 = 1001 ∧ vp_in (0 : Int32) (q_Z σ29 x3) ∧ q_G l cx M_LW_law 9 576 (20 * k9 + 0) (300 * k9 + 0) 1307 [(6, .inl v28), (5, .inl v13), (0, .inr (.inr x0)), (1, .inr (.inr x1)), (2, .inr (.inr x2)), (3, .inr (.inr x3)), (4, .inl x4)] [.inl v28, .inr (.inl (q_L σ29 x3 (0 : Int32).toNatClampNeg))] σ29 R
          obtain ⟨s33, s34, hV⟩ := hV
          refine ⟨s33, s34, ?_⟩
          refine q_ifz (q_dc k_LW_law_19 47 rfl) rfl (fun h35 => ?_) (fun h35 => ?_)
          · have hV := hV.1 h35
            refine q_run k_LW_law_19 50 1 1315 rfl ?_
            show q_G l cx M_LW_law 9 576 (20 * k9 + 0) (300 * k9 + 0) 1315 [(6, .inl v28), (5, .inl v13), (0, .inr (.inr x0)), (1, .inr (.inr x1)), (2, .inr (.inr x2)), (3, .inr (.inr x3)), (4, .inl x4)] [.inr (.inl (0 : Int64)), .inr (.inl (q_L σ29 x3 (0 : Int32).toNatClampNeg))] σ29 R
            exact q_less (Nat.add_le_add_left (Nat.le_of_ble_eq_true rfl) _) (Nat.add_le_add_left (Nat.le_of_ble_eq_true rfl) _) (q_subk [2, 3, 4, 5, 6] rfl hV)
          · have hV := hV.2 h35
            refine q_run k_LW_law_19 48 1 1311 rfl ?_
            show q_G l cx M_LW_law 9 576 (20 * k9 + 0) (300 * k9 + 0) 1311 [(6, .inl v28), (5, .inl v13), (0, .inr (.inr x0)), (1, .inr (.inr x1)), (2, .inr (.inr x2)), (3, .inr (.inr x3)), (4, .inl x4)] [.inr (.inl (1 : Int64)), .inr (.inl (q_L σ29 x3 (0 : Int32).toNatClampNeg))] σ29 R
            refine q_goto (q_dc k_LW_law_19 49 rfl) rfl ?_
            exact q_less (Nat.add_le_add_left (Nat.le_of_ble_eq_true rfl) _) (Nat.add_le_add_left (Nat.le_of_ble_eq_true rfl) _) (q_subk [2, 3, 4, 5, 6] rfl hV)
      · have hV := hV.2 h31
        refine q_run k_LW_law_19 39 1 1296 rfl ?_
        show q_G l cx M_LW_law 9 576 (20 * k9 + 0) (300 * k9 + 0) 1296 [(6, .inl v28), (5, .inl v13), (0, .inr (.inr x0)), (1, .inr (.inr x1)), (2, .inr (.inr x2)), (3, .inr (.inr x3)), (4, .inl x4)] [.inl (0 : Int32)] σ29 R
        exact q_zreturn (q_dc k_LW_law_19 40 rfl) rfl (by decide) hV
set_option maxRecDepth 100000 in
theorem t_LW_law_1315 {l : Launch} {cx : q_C} {R : q_O → q_S → Prop} (hlf : l.flags = pinnedFlags ++ [noTraceFlag]) : V_LW_law_1315 R (fun (k9 : Nat) (x0 : Nat) (x1 : Nat) (x2 : Nat) (x3 : Nat) (x4 : Int32) (y0 : Int64) (y1 : Int64) (σ : q_S) => q_G l cx M_LW_law 9 576 (20 * k9 + 0) (300 * k9 + 0) 1315 [(0, .inr (.inr x0)), (1, .inr (.inr x1)), (2, .inr (.inr x2)), (3, .inr (.inr x3)), (4, .inl x4)] [.inr (.inl y0), .inr (.inl y1)] σ R) (fun (k9 : Nat) (x0 : Nat) (x1 : Nat) (x2 : Nat) (x3 : Nat) (x4 : Int32) (σ : q_S) => q_G l cx M_LW_law 9 576 (20 * k9 + 0) (300 * k9 + 0) 1321 [(0, .inr (.inr x0)), (1, .inr (.inr x1)), (2, .inr (.inr x2)), (3, .inr (.inr x3)), (4, .inl x4)] [] σ R) := by
      intro k9 x0 x1 x2 x3 x4 y0 y1 σ hV
      show q_G l cx M_LW_law 9 576 (20 * k9 + 0) (300 * k9 + 0) 1315 [(0, .inr (.inr x0)), (1, .inr (.inr x1)), (2, .inr (.inr x2)), (3, .inr (.inr x3)), (4, .inl x4)] [.inr (.inl y0), .inr (.inl y1)] σ R
      refine q_run k_LW_law_19 51 1 1316 rfl ?_
      show q_G l cx M_LW_law 9 576 (20 * k9 + 0) (300 * k9 + 0) 1316 [(0, .inr (.inr x0)), (1, .inr (.inr x1)), (2, .inr (.inr x2)), (3, .inr (.inr x3)), (4, .inl x4)] [.inl (lg_cmp y1 y0)] σ R
      refine q_ifz (q_dc k_LW_law_19 52 rfl) rfl (fun h1 => ?_) (fun h1 => ?_)
      · have hV := hV.1 h1
        exact q_less (Nat.add_le_add_left (Nat.le_of_ble_eq_true rfl) _) (Nat.add_le_add_left (Nat.le_of_ble_eq_true rfl) _) (q_subk [0, 1, 2, 3, 4] rfl hV)
      · have hV := hV.2 h1
        refine q_run k_LW_law_19 53 1 1320 rfl ?_
        show q_G l cx M_LW_law 9 576 (20 * k9 + 0) (300 * k9 + 0) 1320 [(0, .inr (.inr x0)), (1, .inr (.inr x1)), (2, .inr (.inr x2)), (3, .inr (.inr x3)), (4, .inl x4)] [.inl (0 : Int32)] σ R
        exact q_zreturn (q_dc k_LW_law_19 54 rfl) rfl (by decide) hV
set_option maxRecDepth 100000 in
theorem t_LW_law_1321 {l : Launch} {cx : q_C} {R : q_O → q_S → Prop} (hlf : l.flags = pinnedFlags ++ [noTraceFlag]) : V_LW_law_1321 R (fun (k9 : Nat) (x0 : Nat) (x1 : Nat) (x2 : Nat) (x3 : Nat) (x4 : Int32) (σ : q_S) => q_G l cx M_LW_law 9 576 (20 * k9 + 0) (300 * k9 + 0) 1321 [(0, .inr (.inr x0)), (1, .inr (.inr x1)), (2, .inr (.inr x2)), (3, .inr (.inr x3)), (4, .inl x4)] [] σ R) (fun (k9 : Nat) (x0 : Nat) (x1 : Nat) (x2 : Nat) (x3 : Nat) (x4 : Int32) (σ : q_S) => q_G l cx M_LW_law 9 576 (20 * k9 + 0) (300 * k9 + 0) 1969 [(0, .inr (.inr x0)), (1, .inr (.inr x1)), (2, .inr (.inr x2)), (3, .inr (.inr x3)), (4, .inl x4)] [] σ R) := by
      intro k9 x0 x1 x2 x3 x4 σ hV
      show q_G l cx M_LW_law 9 576 (20 * k9 + 0) (300 * k9 + 0) 1321 [(0, .inr (.inr x0)), (1, .inr (.inr x1)), (2, .inr (.inr x2)), (3, .inr (.inr x3)), (4, .inl x4)] [] σ R
      refine q_goto (q_dc k_LW_law_19 55 rfl) rfl ?_
      exact q_less (Nat.add_le_add_left (Nat.le_of_ble_eq_true rfl) _) (Nat.add_le_add_left (Nat.le_of_ble_eq_true rfl) _) (q_subk [0, 1, 2, 3, 4] rfl hV)
set_option maxRecDepth 100000 in
theorem t_LW_law_1324 {l : Launch} {cx : q_C} {R : q_O → q_S → Prop} (hlf : l.flags = pinnedFlags ++ [noTraceFlag]) : V_LW_law_1324 R (fun (k9 : Nat) (x0 : Nat) (x1 : Nat) (x2 : Nat) (x3 : Nat) (x4 : Int32) (σ : q_S) => q_G l cx M_LW_law 9 576 (20 * k9 + 1) (300 * k9 + 6) 1324 [(0, .inr (.inr x0)), (1, .inr (.inr x1)), (2, .inr (.inr x2)), (3, .inr (.inr x3)), (4, .inl x4)] [] σ R) (fun (k9 : Nat) (x0 : Nat) (x1 : Nat) (x2 : Nat) (x3 : Nat) (x4 : Int32) (σ : q_S) => q_G l cx M_LW_law 9 576 (20 * k9 + 0) (300 * k9 + 0) 1377 [(0, .inr (.inr x0)), (1, .inr (.inr x1)), (2, .inr (.inr x2)), (3, .inr (.inr x3)), (4, .inl x4)] [] σ R) := by
      intro k9 x0 x1 x2 x3 x4 σ hV
      show q_G l cx M_LW_law 9 576 (20 * k9 + 1) (300 * k9 + 6) 1324 [(0, .inr (.inr x0)), (1, .inr (.inr x1)), (2, .inr (.inr x2)), (3, .inr (.inr x3)), (4, .inl x4)] [] σ R
      refine q_run k_LW_law_20 0 7 1332 rfl ?_
      show (q_K σ x0 = 1000 ∨ q_K σ x0 = 2000) ∧ vp_in (x4 + (1 : Int32)) (q_Z σ x0) ∧ q_G l cx M_LW_law 9 576 (20 * k9 + 1) (300 * k9 + 6) 1332 [(0, .inr (.inr x0)), (1, .inr (.inr x1)), (2, .inr (.inr x2)), (3, .inr (.inr x3)), (4, .inl x4)] [.inr (.inr x3), .inl (q_I σ x0 (x4 + (1 : Int32)).toNatClampNeg), .inr (.inr x1)] σ R
      obtain ⟨s1, s2, hV⟩ := hV
      refine ⟨s1, s2, ?_⟩
      refine q_less (kc' := (20 * k9 + 0) + 1) (ks' := (300 * k9 + 0) + 6) (Nat.add_le_add_left (Nat.le_of_ble_eq_true rfl) _) (Nat.add_le_add_left (Nat.le_of_ble_eq_true rfl) _) ?_
      refine q_callS (st := []) (t_LW_islands (l := l) (cx := cx) hlf hV) (q_dc k_LW_law_20 7 rfl) (Or.inl (List.mem_of_getElem? (i := 812) (by decide +kernel))) w_LW_islands s_LW_islands a_LW_islands (q_wt (Nat.le_of_ble_eq_true rfl)) ⟨Nat.le_of_ble_eq_true rfl, Nat.le_of_ble_eq_true rfl⟩ (fun v9 τ9 q9 => ?_) (fun n9 τ9 q9 => q_T.leave rfl q9)
      obtain ⟨v5, rfl, hV⟩ := q_ci_elim q9
      clear q9
      have hV := hV
      revert hV
      generalize τ9 = σ6
      intro hV
      show q_G l cx M_LW_law 9 576 (20 * k9 + 0) (300 * k9 + 0) 1335 [(0, .inr (.inr x0)), (1, .inr (.inr x1)), (2, .inr (.inr x2)), (3, .inr (.inr x3)), (4, .inl x4)] [.inl v5] σ6 R
      refine q_run k_LW_law_20 8 7 1344 rfl ?_
      show (q_K σ6 x0 = 1000 ∨ q_K σ6 x0 = 2000) ∧ vp_in (x4 + (1 : Int32)) (q_Z σ6 x0) ∧ q_G l cx M_LW_law 9 576 (20 * k9 + 0) (300 * k9 + 0) 1344 [(5, .inl v5), (0, .inr (.inr x0)), (1, .inr (.inr x1)), (2, .inr (.inr x2)), (3, .inr (.inr x3)), (4, .inl x4)] [.inl (q_I σ6 x0 (x4 + (1 : Int32)).toNatClampNeg), .inr (.inr x2)] σ6 R
      obtain ⟨s7, s8, hV⟩ := hV
      refine ⟨s7, s8, ?_⟩
      obtain ⟨s9, hV⟩ := hV
      refine q_callV (st := []) (as := [.inl (q_I σ6 x0 (x4 + (1 : Int32)).toNatClampNeg)]) (t_PM_islands (l := l) (cx := cx)  hV) (q_dc k_LW_law_20 15 rfl) (Or.inl (List.mem_of_getElem? (i := 1059) (by decide +kernel))) w_PM_islands n_PM_islands (ci := 6) rfl e_PM_islands a_PM_islands (q_wt (Nat.le_of_ble_eq_true rfl)) ⟨Nat.le_of_ble_eq_true rfl, Nat.le_of_ble_eq_true rfl⟩ s9 (fun v9 τ9 q9 => ?_) (fun n9 τ9 q9 => q_T.leave rfl q9)
      obtain ⟨v12, rfl, hV⟩ := q_ci_elim q9
      clear q9
      have hV := hV
      revert hV
      generalize τ9 = σ13
      intro hV
      show q_G l cx M_LW_law 9 576 (20 * k9 + 0) (300 * k9 + 0) 1347 [(5, .inl v5), (0, .inr (.inr x0)), (1, .inr (.inr x1)), (2, .inr (.inr x2)), (3, .inr (.inr x3)), (4, .inl x4)] [.inl v12] σ13 R
      refine q_run k_LW_law_20 16 2 1350 rfl ?_
      show q_G l cx M_LW_law 9 576 (20 * k9 + 0) (300 * k9 + 0) 1350 [(6, .inl v12), (5, .inl v5), (0, .inr (.inr x0)), (1, .inr (.inr x1)), (2, .inr (.inr x2)), (3, .inr (.inr x3)), (4, .inl x4)] [.inr (.inr x2)] σ13 R
      obtain ⟨s14, hV⟩ := hV
      refine q_callV (st := []) (as := []) (t_PM_thrown (l := l) (cx := cx) (σ := σ13) x2 s14) (q_dc k_LW_law_20 18 rfl) (Or.inl (List.mem_of_getElem? (i := 936) (by decide +kernel))) w_PM_thrown n_PM_thrown (ci := 6) rfl e_PM_thrown a_PM_thrown (q_wt (Nat.le_of_ble_eq_true rfl)) ⟨Nat.le_of_ble_eq_true rfl, Nat.le_of_ble_eq_true rfl⟩ s14 (fun v9 τ9 q9 => ?_) (fun n9 τ9 q9 => by cases q9.1)
      obtain ⟨q8, q7⟩ := q9
      cases q8
      rw [q7]
      show q_G l cx M_LW_law 9 576 (20 * k9 + 0) (300 * k9 + 0) 1353 [(6, .inl v12), (5, .inl v5), (0, .inr (.inr x0)), (1, .inr (.inr x1)), (2, .inr (.inr x2)), (3, .inr (.inr x3)), (4, .inl x4)] [.inl (f_PM_thrown σ13 x2)] σ13 R
      refine q_run k_LW_law_20 19 1 1355 rfl ?_
      show q_G l cx M_LW_law 9 576 (20 * k9 + 0) (300 * k9 + 0) 1355 [(6, .inl v12), (5, .inl v5), (0, .inr (.inr x0)), (1, .inr (.inr x1)), (2, .inr (.inr x2)), (3, .inr (.inr x3)), (4, .inl x4)] [.inl v5, .inl (f_PM_thrown σ13 x2)] σ13 R
      refine q_icmp (q_dc k_LW_law_20 20 rfl) rfl (fun h15 => ?_) (fun h15 => ?_)
      · have hV := hV.1 h15
        refine q_run k_LW_law_20 23 1 1362 rfl ?_
        show q_G l cx M_LW_law 9 576 (20 * k9 + 0) (300 * k9 + 0) 1362 [(6, .inl v12), (5, .inl v5), (0, .inr (.inr x0)), (1, .inr (.inr x1)), (2, .inr (.inr x2)), (3, .inr (.inr x3)), (4, .inl x4)] [.inl v5] σ13 R
        refine q_ifz (q_dc k_LW_law_20 24 rfl) rfl (fun h16 => ?_) (fun h16 => ?_)
        · have hV := hV.1 h16
          exact q_less (Nat.add_le_add_left (Nat.le_of_ble_eq_true rfl) _) (Nat.add_le_add_left (Nat.le_of_ble_eq_true rfl) _) (q_subk [2, 3, 4, 5, 6] rfl hV)
        · have hV := hV.2 h16
          refine q_run k_LW_law_20 25 6 1372 rfl ?_
          show q_K σ13 x3 = 1001 ∧ vp_in (0 : Int32) (q_Z σ13 x3) ∧ q_G l cx M_LW_law 9 576 (20 * k9 + 0) (300 * k9 + 0) 1372 [(6, .inl v12), (5, .inl v5), (0, .inr (.inr x0)), (1, .inr (.inr x1)), (2, .inr (.inr x2)), (3, .inr (.inr x3)), (4, .inl x4)] [.inl (lg_cmp (q_L σ13 x3 (0 : Int32).toNatClampNeg) v12.toInt64)] σ13 R
          obtain ⟨s17, s18, hV⟩ := hV
          refine ⟨s17, s18, ?_⟩
          refine q_ifz (q_dc k_LW_law_20 31 rfl) rfl (fun h19 => ?_) (fun h19 => ?_)
          · have hV := hV.1 h19
            exact q_less (Nat.add_le_add_left (Nat.le_of_ble_eq_true rfl) _) (Nat.add_le_add_left (Nat.le_of_ble_eq_true rfl) _) (q_subk [2, 3, 4, 5, 6] rfl hV)
          · have hV := hV.2 h19
            refine q_run k_LW_law_20 32 1 1376 rfl ?_
            show q_G l cx M_LW_law 9 576 (20 * k9 + 0) (300 * k9 + 0) 1376 [(6, .inl v12), (5, .inl v5), (0, .inr (.inr x0)), (1, .inr (.inr x1)), (2, .inr (.inr x2)), (3, .inr (.inr x3)), (4, .inl x4)] [.inl (0 : Int32)] σ13 R
            exact q_zreturn (q_dc k_LW_law_20 33 rfl) rfl (by decide) hV
      · have hV := hV.2 h15
        refine q_run k_LW_law_20 21 1 1359 rfl ?_
        show q_G l cx M_LW_law 9 576 (20 * k9 + 0) (300 * k9 + 0) 1359 [(6, .inl v12), (5, .inl v5), (0, .inr (.inr x0)), (1, .inr (.inr x1)), (2, .inr (.inr x2)), (3, .inr (.inr x3)), (4, .inl x4)] [.inl (0 : Int32)] σ13 R
        exact q_zreturn (q_dc k_LW_law_20 22 rfl) rfl (by decide) hV
set_option maxRecDepth 100000 in
theorem t_LW_law_1377 {l : Launch} {cx : q_C} {R : q_O → q_S → Prop} (hlf : l.flags = pinnedFlags ++ [noTraceFlag]) : V_LW_law_1377 R (fun (k9 : Nat) (x0 : Nat) (x1 : Nat) (x2 : Nat) (x3 : Nat) (x4 : Int32) (σ : q_S) => q_G l cx M_LW_law 9 576 (20 * k9 + 0) (300 * k9 + 0) 1377 [(0, .inr (.inr x0)), (1, .inr (.inr x1)), (2, .inr (.inr x2)), (3, .inr (.inr x3)), (4, .inl x4)] [] σ R) (fun (k9 : Nat) (x0 : Nat) (x1 : Nat) (x2 : Nat) (x3 : Nat) (x4 : Int32) (σ : q_S) => q_G l cx M_LW_law 9 576 (20 * k9 + 0) (300 * k9 + 0) 1969 [(0, .inr (.inr x0)), (1, .inr (.inr x1)), (2, .inr (.inr x2)), (3, .inr (.inr x3)), (4, .inl x4)] [] σ R) := by
      intro k9 x0 x1 x2 x3 x4 σ hV
      show q_G l cx M_LW_law 9 576 (20 * k9 + 0) (300 * k9 + 0) 1377 [(0, .inr (.inr x0)), (1, .inr (.inr x1)), (2, .inr (.inr x2)), (3, .inr (.inr x3)), (4, .inl x4)] [] σ R
      refine q_goto (q_dc k_LW_law_20 34 rfl) rfl ?_
      exact q_less (Nat.add_le_add_left (Nat.le_of_ble_eq_true rfl) _) (Nat.add_le_add_left (Nat.le_of_ble_eq_true rfl) _) (q_subk [0, 1, 2, 3, 4] rfl hV)
set_option maxRecDepth 100000 in
theorem t_LW_law_1380 {l : Launch} {cx : q_C} {R : q_O → q_S → Prop} (hlf : l.flags = pinnedFlags ++ [noTraceFlag]) : V_LW_law_1380 R (fun (k9 : Nat) (x0 : Nat) (x1 : Nat) (x2 : Nat) (x3 : Nat) (x4 : Int32) (σ : q_S) => q_G l cx M_LW_law 9 576 (20 * k9 + 1) (300 * k9 + 6) 1380 [(0, .inr (.inr x0)), (1, .inr (.inr x1)), (2, .inr (.inr x2)), (3, .inr (.inr x3)), (4, .inl x4)] [] σ R) (fun (k9 : Nat) (x0 : Nat) (x1 : Nat) (x2 : Nat) (x3 : Nat) (x4 : Int32) (σ : q_S) => q_G l cx M_LW_law 9 576 (20 * k9 + 0) (300 * k9 + 0) 1457 [(0, .inr (.inr x0)), (1, .inr (.inr x1)), (2, .inr (.inr x2)), (3, .inr (.inr x3)), (4, .inl x4)] [] σ R) := by
      intro k9 x0 x1 x2 x3 x4 σ hV
      show q_G l cx M_LW_law 9 576 (20 * k9 + 1) (300 * k9 + 6) 1380 [(0, .inr (.inr x0)), (1, .inr (.inr x1)), (2, .inr (.inr x2)), (3, .inr (.inr x3)), (4, .inl x4)] [] σ R
      refine q_run k_LW_law_21 0 17 1400 rfl ?_
      show (q_K σ x0 = 1000 ∨ q_K σ x0 = 2000) ∧ vp_in (x4 + (1 : Int32)) (q_Z σ x0) ∧ (q_K σ x0 = 1000 ∨ q_K σ x0 = 2000) ∧ vp_in (x4 + (2 : Int32)) (q_Z σ x0) ∧ (q_K σ x0 = 1000 ∨ q_K σ x0 = 2000) ∧ vp_in (x4 + (3 : Int32)) (q_Z σ x0) ∧ q_G l cx M_LW_law 9 576 (20 * k9 + 1) (300 * k9 + 6) 1400 [(0, .inr (.inr x0)), (1, .inr (.inr x1)), (2, .inr (.inr x2)), (3, .inr (.inr x3)), (4, .inl x4)] [.inr (.inr x3), .inl (q_I σ x0 (x4 + (3 : Int32)).toNatClampNeg), .inl (q_I σ x0 (x4 + (2 : Int32)).toNatClampNeg), .inl (q_I σ x0 (x4 + (1 : Int32)).toNatClampNeg), .inr (.inr x1)] σ R
      obtain ⟨s1, s2, s3, s4, s5, s6, hV⟩ := hV
      refine ⟨s1, s2, s3, s4, s5, s6, ?_⟩
      refine q_less (kc' := (20 * k9 + 0) + 1) (ks' := (300 * k9 + 0) + 6) (Nat.add_le_add_left (Nat.le_of_ble_eq_true rfl) _) (Nat.add_le_add_left (Nat.le_of_ble_eq_true rfl) _) ?_
      refine q_callS (st := []) (t_LW_spoke (l := l) (cx := cx) hlf hV) (q_dc k_LW_law_21 17 rfl) (Or.inl (List.mem_of_getElem? (i := 819) (by decide +kernel))) w_LW_spoke s_LW_spoke a_LW_spoke (q_wt (Nat.le_of_ble_eq_true rfl)) ⟨Nat.le_of_ble_eq_true rfl, Nat.le_of_ble_eq_true rfl⟩ (fun v9 τ9 q9 => ?_) (fun n9 τ9 q9 => q_T.leave rfl q9)
      obtain ⟨v9, rfl, hV⟩ := q_ci_elim q9
      clear q9
      have hV := hV
      revert hV
      generalize τ9 = σ10
      intro hV
      show q_G l cx M_LW_law 9 576 (20 * k9 + 0) (300 * k9 + 0) 1403 [(0, .inr (.inr x0)), (1, .inr (.inr x1)), (2, .inr (.inr x2)), (3, .inr (.inr x3)), (4, .inl x4)] [.inl v9] σ10 R
      refine q_run k_LW_law_21 18 17 1424 rfl ?_
      show (q_K σ10 x0 = 1000 ∨ q_K σ10 x0 = 2000) ∧ vp_in (x4 + (1 : Int32)) (q_Z σ10 x0) ∧ (q_K σ10 x0 = 1000 ∨ q_K σ10 x0 = 2000) ∧ vp_in (x4 + (2 : Int32)) (q_Z σ10 x0) ∧ (q_K σ10 x0 = 1000 ∨ q_K σ10 x0 = 2000) ∧ vp_in (x4 + (3 : Int32)) (q_Z σ10 x0) ∧ q_G l cx M_LW_law 9 576 (20 * k9 + 0) (300 * k9 + 0) 1424 [(5, .inl v9), (0, .inr (.inr x0)), (1, .inr (.inr x1)), (2, .inr (.inr x2)), (3, .inr (.inr x3)), (4, .inl x4)] [.inl (q_I σ10 x0 (x4 + (3 : Int32)).toNatClampNeg), .inl (q_I σ10 x0 (x4 + (2 : Int32)).toNatClampNeg), .inl (q_I σ10 x0 (x4 + (1 : Int32)).toNatClampNeg), .inr (.inr x2)] σ10 R
      obtain ⟨s11, s12, s13, s14, s15, s16, hV⟩ := hV
      refine ⟨s11, s12, s13, s14, s15, s16, ?_⟩
      obtain ⟨s17, hV⟩ := hV
      refine q_callV (st := []) (as := [.inl (q_I σ10 x0 (x4 + (1 : Int32)).toNatClampNeg), .inl (q_I σ10 x0 (x4 + (2 : Int32)).toNatClampNeg), .inl (q_I σ10 x0 (x4 + (3 : Int32)).toNatClampNeg)]) (t_PM_spoke (l := l) (cx := cx)  hV) (q_dc k_LW_law_21 35 rfl) (Or.inl (List.mem_of_getElem? (i := 1090) (by decide +kernel))) w_PM_spoke n_PM_spoke (ci := 6) rfl e_PM_spoke a_PM_spoke (q_wt (Nat.le_of_ble_eq_true rfl)) ⟨Nat.le_of_ble_eq_true rfl, Nat.le_of_ble_eq_true rfl⟩ s17 (fun v9 τ9 q9 => ?_) (fun n9 τ9 q9 => q_T.leave rfl q9)
      obtain ⟨v20, rfl, hV⟩ := q_ci_elim q9
      clear q9
      have hV := hV
      revert hV
      generalize τ9 = σ21
      intro hV
      show q_G l cx M_LW_law 9 576 (20 * k9 + 0) (300 * k9 + 0) 1427 [(5, .inl v9), (0, .inr (.inr x0)), (1, .inr (.inr x1)), (2, .inr (.inr x2)), (3, .inr (.inr x3)), (4, .inl x4)] [.inl v20] σ21 R
      refine q_run k_LW_law_21 36 2 1430 rfl ?_
      show q_G l cx M_LW_law 9 576 (20 * k9 + 0) (300 * k9 + 0) 1430 [(6, .inl v20), (5, .inl v9), (0, .inr (.inr x0)), (1, .inr (.inr x1)), (2, .inr (.inr x2)), (3, .inr (.inr x3)), (4, .inl x4)] [.inr (.inr x2)] σ21 R
      obtain ⟨s22, hV⟩ := hV
      refine q_callV (st := []) (as := []) (t_PM_thrown (l := l) (cx := cx) (σ := σ21) x2 s22) (q_dc k_LW_law_21 38 rfl) (Or.inl (List.mem_of_getElem? (i := 936) (by decide +kernel))) w_PM_thrown n_PM_thrown (ci := 6) rfl e_PM_thrown a_PM_thrown (q_wt (Nat.le_of_ble_eq_true rfl)) ⟨Nat.le_of_ble_eq_true rfl, Nat.le_of_ble_eq_true rfl⟩ s22 (fun v9 τ9 q9 => ?_) (fun n9 τ9 q9 => by cases q9.1)
      obtain ⟨q8, q7⟩ := q9
      cases q8
      rw [q7]
      show q_G l cx M_LW_law 9 576 (20 * k9 + 0) (300 * k9 + 0) 1433 [(6, .inl v20), (5, .inl v9), (0, .inr (.inr x0)), (1, .inr (.inr x1)), (2, .inr (.inr x2)), (3, .inr (.inr x3)), (4, .inl x4)] [.inl (f_PM_thrown σ21 x2)] σ21 R
      refine q_run k_LW_law_21 39 1 1435 rfl ?_
      show q_G l cx M_LW_law 9 576 (20 * k9 + 0) (300 * k9 + 0) 1435 [(6, .inl v20), (5, .inl v9), (0, .inr (.inr x0)), (1, .inr (.inr x1)), (2, .inr (.inr x2)), (3, .inr (.inr x3)), (4, .inl x4)] [.inl v9, .inl (f_PM_thrown σ21 x2)] σ21 R
      refine q_icmp (q_dc k_LW_law_21 40 rfl) rfl (fun h23 => ?_) (fun h23 => ?_)
      · have hV := hV.1 h23
        refine q_run k_LW_law_21 43 1 1442 rfl ?_
        show q_G l cx M_LW_law 9 576 (20 * k9 + 0) (300 * k9 + 0) 1442 [(6, .inl v20), (5, .inl v9), (0, .inr (.inr x0)), (1, .inr (.inr x1)), (2, .inr (.inr x2)), (3, .inr (.inr x3)), (4, .inl x4)] [.inl v9] σ21 R
        refine q_ifz (q_dc k_LW_law_21 44 rfl) rfl (fun h24 => ?_) (fun h24 => ?_)
        · have hV := hV.1 h24
          exact q_less (Nat.add_le_add_left (Nat.le_of_ble_eq_true rfl) _) (Nat.add_le_add_left (Nat.le_of_ble_eq_true rfl) _) (q_subk [2, 3, 4, 5, 6] rfl hV)
        · have hV := hV.2 h24
          refine q_run k_LW_law_21 45 6 1452 rfl ?_
          show q_K σ21 x3 = 1001 ∧ vp_in (0 : Int32) (q_Z σ21 x3) ∧ q_G l cx M_LW_law 9 576 (20 * k9 + 0) (300 * k9 + 0) 1452 [(6, .inl v20), (5, .inl v9), (0, .inr (.inr x0)), (1, .inr (.inr x1)), (2, .inr (.inr x2)), (3, .inr (.inr x3)), (4, .inl x4)] [.inl (lg_cmp (q_L σ21 x3 (0 : Int32).toNatClampNeg) v20.toInt64)] σ21 R
          obtain ⟨s25, s26, hV⟩ := hV
          refine ⟨s25, s26, ?_⟩
          refine q_ifz (q_dc k_LW_law_21 51 rfl) rfl (fun h27 => ?_) (fun h27 => ?_)
          · have hV := hV.1 h27
            exact q_less (Nat.add_le_add_left (Nat.le_of_ble_eq_true rfl) _) (Nat.add_le_add_left (Nat.le_of_ble_eq_true rfl) _) (q_subk [2, 3, 4, 5, 6] rfl hV)
          · have hV := hV.2 h27
            refine q_run k_LW_law_21 52 1 1456 rfl ?_
            show q_G l cx M_LW_law 9 576 (20 * k9 + 0) (300 * k9 + 0) 1456 [(6, .inl v20), (5, .inl v9), (0, .inr (.inr x0)), (1, .inr (.inr x1)), (2, .inr (.inr x2)), (3, .inr (.inr x3)), (4, .inl x4)] [.inl (0 : Int32)] σ21 R
            exact q_zreturn (q_dc k_LW_law_21 53 rfl) rfl (by decide) hV
      · have hV := hV.2 h23
        refine q_run k_LW_law_21 41 1 1439 rfl ?_
        show q_G l cx M_LW_law 9 576 (20 * k9 + 0) (300 * k9 + 0) 1439 [(6, .inl v20), (5, .inl v9), (0, .inr (.inr x0)), (1, .inr (.inr x1)), (2, .inr (.inr x2)), (3, .inr (.inr x3)), (4, .inl x4)] [.inl (0 : Int32)] σ21 R
        exact q_zreturn (q_dc k_LW_law_21 42 rfl) rfl (by decide) hV
set_option maxRecDepth 100000 in
theorem t_LW_law_1457 {l : Launch} {cx : q_C} {R : q_O → q_S → Prop} (hlf : l.flags = pinnedFlags ++ [noTraceFlag]) : V_LW_law_1457 R (fun (k9 : Nat) (x0 : Nat) (x1 : Nat) (x2 : Nat) (x3 : Nat) (x4 : Int32) (σ : q_S) => q_G l cx M_LW_law 9 576 (20 * k9 + 0) (300 * k9 + 0) 1457 [(0, .inr (.inr x0)), (1, .inr (.inr x1)), (2, .inr (.inr x2)), (3, .inr (.inr x3)), (4, .inl x4)] [] σ R) (fun (k9 : Nat) (x0 : Nat) (x1 : Nat) (x2 : Nat) (x3 : Nat) (x4 : Int32) (σ : q_S) => q_G l cx M_LW_law 9 576 (20 * k9 + 0) (300 * k9 + 0) 1969 [(0, .inr (.inr x0)), (1, .inr (.inr x1)), (2, .inr (.inr x2)), (3, .inr (.inr x3)), (4, .inl x4)] [] σ R) := by
      intro k9 x0 x1 x2 x3 x4 σ hV
      show q_G l cx M_LW_law 9 576 (20 * k9 + 0) (300 * k9 + 0) 1457 [(0, .inr (.inr x0)), (1, .inr (.inr x1)), (2, .inr (.inr x2)), (3, .inr (.inr x3)), (4, .inl x4)] [] σ R
      refine q_goto (q_dc k_LW_law_21 54 rfl) rfl ?_
      exact q_less (Nat.add_le_add_left (Nat.le_of_ble_eq_true rfl) _) (Nat.add_le_add_left (Nat.le_of_ble_eq_true rfl) _) (q_subk [0, 1, 2, 3, 4] rfl hV)
set_option maxRecDepth 100000 in
theorem t_LW_law_1460 {l : Launch} {cx : q_C} {R : q_O → q_S → Prop} (hlf : l.flags = pinnedFlags ++ [noTraceFlag]) : V_LW_law_1460 R (fun (k9 : Nat) (x0 : Nat) (x1 : Nat) (x2 : Nat) (x3 : Nat) (x4 : Int32) (σ : q_S) => q_G l cx M_LW_law 9 576 (20 * k9 + 2) (300 * k9 + 12) 1460 [(0, .inr (.inr x0)), (1, .inr (.inr x1)), (2, .inr (.inr x2)), (3, .inr (.inr x3)), (4, .inl x4)] [] σ R) (fun (k9 : Nat) (x0 : Nat) (x1 : Nat) (x2 : Nat) (x3 : Nat) (x4 : Int32) (σ : q_S) => q_G l cx M_LW_law 9 576 (20 * k9 + 0) (300 * k9 + 0) 1557 [(0, .inr (.inr x0)), (1, .inr (.inr x1)), (2, .inr (.inr x2)), (3, .inr (.inr x3)), (4, .inl x4)] [] σ R) := by
      intro k9 x0 x1 x2 x3 x4 σ hV
      show q_G l cx M_LW_law 9 576 (20 * k9 + 2) (300 * k9 + 12) 1460 [(0, .inr (.inr x0)), (1, .inr (.inr x1)), (2, .inr (.inr x2)), (3, .inr (.inr x3)), (4, .inl x4)] [] σ R
      refine q_run k_LW_law_22 0 24 1490 rfl ?_
      show (q_K σ x0 = 1000 ∨ q_K σ x0 = 2000) ∧ vp_in (x4 + (1 : Int32)) (q_Z σ x0) ∧ (q_K σ x0 = 1000 ∨ q_K σ x0 = 2000) ∧ vp_in (x4 + (2 : Int32)) (q_Z σ x0) ∧ (q_K σ x0 = 1000 ∨ q_K σ x0 = 2000) ∧ vp_in (x4 + (3 : Int32)) (q_Z σ x0) ∧ q_G l cx M_LW_law 9 576 (20 * k9 + 2) (300 * k9 + 12) 1490 [(0, .inr (.inr x0)), (1, .inr (.inr x1)), (2, .inr (.inr x2)), (3, .inr (.inr x3)), (4, .inl x4)] [.inr (.inr x3), .inr (.inl ((((q_I σ x0 (x4 + (2 : Int32)).toNatClampNeg).toInt64) <<< ((32 : Int32).toInt64 &&& 63)) ||| (((q_I σ x0 (x4 + (3 : Int32)).toNatClampNeg).toInt64) &&& (4294967295 : Int64)))), .inl (q_I σ x0 (x4 + (1 : Int32)).toNatClampNeg), .inr (.inr x1)] σ R
      obtain ⟨s1, s2, s3, s4, s5, s6, hV⟩ := hV
      refine ⟨s1, s2, s3, s4, s5, s6, ?_⟩
      refine q_less (kc' := (20 * k9 + 0) + 2) (ks' := (300 * k9 + 0) + 12) (Nat.add_le_add_left (Nat.le_of_ble_eq_true rfl) _) (Nat.add_le_add_left (Nat.le_of_ble_eq_true rfl) _) ?_
      refine q_callS (st := []) (t_LW_stitch (l := l) (cx := cx) hlf hV) (q_dc k_LW_law_22 24 rfl) (Or.inl (List.mem_of_getElem? (i := 838) (by decide +kernel))) w_LW_stitch s_LW_stitch a_LW_stitch (q_wt (Nat.le_of_ble_eq_true rfl)) ⟨Nat.le_of_ble_eq_true rfl, Nat.le_of_ble_eq_true rfl⟩ (fun v9 τ9 q9 => ?_) (fun n9 τ9 q9 => q_T.leave rfl q9)
      obtain ⟨v9, rfl, hV⟩ := q_ci_elim q9
      clear q9
      have hV := hV
      revert hV
      generalize τ9 = σ10
      intro hV
      show q_G l cx M_LW_law 9 576 (20 * k9 + 0) (300 * k9 + 0) 1493 [(0, .inr (.inr x0)), (1, .inr (.inr x1)), (2, .inr (.inr x2)), (3, .inr (.inr x3)), (4, .inl x4)] [.inl v9] σ10 R
      refine q_run k_LW_law_22 25 24 1524 rfl ?_
      show (q_K σ10 x0 = 1000 ∨ q_K σ10 x0 = 2000) ∧ vp_in (x4 + (1 : Int32)) (q_Z σ10 x0) ∧ (q_K σ10 x0 = 1000 ∨ q_K σ10 x0 = 2000) ∧ vp_in (x4 + (2 : Int32)) (q_Z σ10 x0) ∧ (q_K σ10 x0 = 1000 ∨ q_K σ10 x0 = 2000) ∧ vp_in (x4 + (3 : Int32)) (q_Z σ10 x0) ∧ q_G l cx M_LW_law 9 576 (20 * k9 + 0) (300 * k9 + 0) 1524 [(5, .inl v9), (0, .inr (.inr x0)), (1, .inr (.inr x1)), (2, .inr (.inr x2)), (3, .inr (.inr x3)), (4, .inl x4)] [.inr (.inl ((((q_I σ10 x0 (x4 + (2 : Int32)).toNatClampNeg).toInt64) <<< ((32 : Int32).toInt64 &&& 63)) ||| (((q_I σ10 x0 (x4 + (3 : Int32)).toNatClampNeg).toInt64) &&& (4294967295 : Int64)))), .inl (q_I σ10 x0 (x4 + (1 : Int32)).toNatClampNeg), .inr (.inr x2)] σ10 R
      obtain ⟨s11, s12, s13, s14, s15, s16, hV⟩ := hV
      refine ⟨s11, s12, s13, s14, s15, s16, ?_⟩
      obtain ⟨s17, hV⟩ := hV
      refine q_callV (st := []) (as := [.inl (q_I σ10 x0 (x4 + (1 : Int32)).toNatClampNeg), .inr (.inl ((((q_I σ10 x0 (x4 + (2 : Int32)).toNatClampNeg).toInt64) <<< ((32 : Int32).toInt64 &&& 63)) ||| (((q_I σ10 x0 (x4 + (3 : Int32)).toNatClampNeg).toInt64) &&& (4294967295 : Int64))))]) (t_PM_stitch (l := l) (cx := cx)  hV) (q_dc k_LW_law_22 49 rfl) (Or.inl (List.mem_of_getElem? (i := 1094) (by decide +kernel))) w_PM_stitch n_PM_stitch (ci := 6) rfl e_PM_stitch a_PM_stitch (q_wt (Nat.le_of_ble_eq_true rfl)) ⟨Nat.le_of_ble_eq_true rfl, Nat.le_of_ble_eq_true rfl⟩ s17 (fun v9 τ9 q9 => ?_) (fun n9 τ9 q9 => q_T.leave rfl q9)
      obtain ⟨v20, rfl, hV⟩ := q_ci_elim q9
      clear q9
      have hV := hV
      revert hV
      generalize τ9 = σ21
      intro hV
      show q_G l cx M_LW_law 9 576 (20 * k9 + 0) (300 * k9 + 0) 1527 [(5, .inl v9), (0, .inr (.inr x0)), (1, .inr (.inr x1)), (2, .inr (.inr x2)), (3, .inr (.inr x3)), (4, .inl x4)] [.inl v20] σ21 R
      refine q_run k_LW_law_23 0 2 1530 rfl ?_
      show q_G l cx M_LW_law 9 576 (20 * k9 + 0) (300 * k9 + 0) 1530 [(6, .inl v20), (5, .inl v9), (0, .inr (.inr x0)), (1, .inr (.inr x1)), (2, .inr (.inr x2)), (3, .inr (.inr x3)), (4, .inl x4)] [.inr (.inr x2)] σ21 R
      obtain ⟨s22, hV⟩ := hV
      refine q_callV (st := []) (as := []) (t_PM_thrown (l := l) (cx := cx) (σ := σ21) x2 s22) (q_dc k_LW_law_23 2 rfl) (Or.inl (List.mem_of_getElem? (i := 936) (by decide +kernel))) w_PM_thrown n_PM_thrown (ci := 6) rfl e_PM_thrown a_PM_thrown (q_wt (Nat.le_of_ble_eq_true rfl)) ⟨Nat.le_of_ble_eq_true rfl, Nat.le_of_ble_eq_true rfl⟩ s22 (fun v9 τ9 q9 => ?_) (fun n9 τ9 q9 => by cases q9.1)
      obtain ⟨q8, q7⟩ := q9
      cases q8
      rw [q7]
      show q_G l cx M_LW_law 9 576 (20 * k9 + 0) (300 * k9 + 0) 1533 [(6, .inl v20), (5, .inl v9), (0, .inr (.inr x0)), (1, .inr (.inr x1)), (2, .inr (.inr x2)), (3, .inr (.inr x3)), (4, .inl x4)] [.inl (f_PM_thrown σ21 x2)] σ21 R
      refine q_run k_LW_law_23 3 1 1535 rfl ?_
      show q_G l cx M_LW_law 9 576 (20 * k9 + 0) (300 * k9 + 0) 1535 [(6, .inl v20), (5, .inl v9), (0, .inr (.inr x0)), (1, .inr (.inr x1)), (2, .inr (.inr x2)), (3, .inr (.inr x3)), (4, .inl x4)] [.inl v9, .inl (f_PM_thrown σ21 x2)] σ21 R
      refine q_icmp (q_dc k_LW_law_23 4 rfl) rfl (fun h23 => ?_) (fun h23 => ?_)
      · have hV := hV.1 h23
        refine q_run k_LW_law_23 7 1 1542 rfl ?_
        show q_G l cx M_LW_law 9 576 (20 * k9 + 0) (300 * k9 + 0) 1542 [(6, .inl v20), (5, .inl v9), (0, .inr (.inr x0)), (1, .inr (.inr x1)), (2, .inr (.inr x2)), (3, .inr (.inr x3)), (4, .inl x4)] [.inl v9] σ21 R
        refine q_ifz (q_dc k_LW_law_23 8 rfl) rfl (fun h24 => ?_) (fun h24 => ?_)
        · have hV := hV.1 h24
          exact q_less (Nat.add_le_add_left (Nat.le_of_ble_eq_true rfl) _) (Nat.add_le_add_left (Nat.le_of_ble_eq_true rfl) _) (q_subk [2, 3, 4, 5, 6] rfl hV)
        · have hV := hV.2 h24
          refine q_run k_LW_law_23 9 6 1552 rfl ?_
          show q_K σ21 x3 = 1001 ∧ vp_in (0 : Int32) (q_Z σ21 x3) ∧ q_G l cx M_LW_law 9 576 (20 * k9 + 0) (300 * k9 + 0) 1552 [(6, .inl v20), (5, .inl v9), (0, .inr (.inr x0)), (1, .inr (.inr x1)), (2, .inr (.inr x2)), (3, .inr (.inr x3)), (4, .inl x4)] [.inl (lg_cmp (q_L σ21 x3 (0 : Int32).toNatClampNeg) v20.toInt64)] σ21 R
          obtain ⟨s25, s26, hV⟩ := hV
          refine ⟨s25, s26, ?_⟩
          refine q_ifz (q_dc k_LW_law_23 15 rfl) rfl (fun h27 => ?_) (fun h27 => ?_)
          · have hV := hV.1 h27
            exact q_less (Nat.add_le_add_left (Nat.le_of_ble_eq_true rfl) _) (Nat.add_le_add_left (Nat.le_of_ble_eq_true rfl) _) (q_subk [2, 3, 4, 5, 6] rfl hV)
          · have hV := hV.2 h27
            refine q_run k_LW_law_23 16 1 1556 rfl ?_
            show q_G l cx M_LW_law 9 576 (20 * k9 + 0) (300 * k9 + 0) 1556 [(6, .inl v20), (5, .inl v9), (0, .inr (.inr x0)), (1, .inr (.inr x1)), (2, .inr (.inr x2)), (3, .inr (.inr x3)), (4, .inl x4)] [.inl (0 : Int32)] σ21 R
            exact q_zreturn (q_dc k_LW_law_23 17 rfl) rfl (by decide) hV
      · have hV := hV.2 h23
        refine q_run k_LW_law_23 5 1 1539 rfl ?_
        show q_G l cx M_LW_law 9 576 (20 * k9 + 0) (300 * k9 + 0) 1539 [(6, .inl v20), (5, .inl v9), (0, .inr (.inr x0)), (1, .inr (.inr x1)), (2, .inr (.inr x2)), (3, .inr (.inr x3)), (4, .inl x4)] [.inl (0 : Int32)] σ21 R
        exact q_zreturn (q_dc k_LW_law_23 6 rfl) rfl (by decide) hV
set_option maxRecDepth 100000 in
theorem t_LW_law_1557 {l : Launch} {cx : q_C} {R : q_O → q_S → Prop} (hlf : l.flags = pinnedFlags ++ [noTraceFlag]) : V_LW_law_1557 R (fun (k9 : Nat) (x0 : Nat) (x1 : Nat) (x2 : Nat) (x3 : Nat) (x4 : Int32) (σ : q_S) => q_G l cx M_LW_law 9 576 (20 * k9 + 0) (300 * k9 + 0) 1557 [(0, .inr (.inr x0)), (1, .inr (.inr x1)), (2, .inr (.inr x2)), (3, .inr (.inr x3)), (4, .inl x4)] [] σ R) (fun (k9 : Nat) (x0 : Nat) (x1 : Nat) (x2 : Nat) (x3 : Nat) (x4 : Int32) (σ : q_S) => q_G l cx M_LW_law 9 576 (20 * k9 + 0) (300 * k9 + 0) 1969 [(0, .inr (.inr x0)), (1, .inr (.inr x1)), (2, .inr (.inr x2)), (3, .inr (.inr x3)), (4, .inl x4)] [] σ R) := by
      intro k9 x0 x1 x2 x3 x4 σ hV
      show q_G l cx M_LW_law 9 576 (20 * k9 + 0) (300 * k9 + 0) 1557 [(0, .inr (.inr x0)), (1, .inr (.inr x1)), (2, .inr (.inr x2)), (3, .inr (.inr x3)), (4, .inl x4)] [] σ R
      refine q_goto (q_dc k_LW_law_23 18 rfl) rfl ?_
      exact q_less (Nat.add_le_add_left (Nat.le_of_ble_eq_true rfl) _) (Nat.add_le_add_left (Nat.le_of_ble_eq_true rfl) _) (q_subk [0, 1, 2, 3, 4] rfl hV)
set_option maxRecDepth 100000 in
theorem t_LW_law_1560 {l : Launch} {cx : q_C} {R : q_O → q_S → Prop} (hlf : l.flags = pinnedFlags ++ [noTraceFlag]) : V_LW_law_1560 R (fun (k9 : Nat) (x0 : Nat) (x1 : Nat) (x2 : Nat) (x3 : Nat) (x4 : Int32) (σ : q_S) => q_G l cx M_LW_law 9 576 (20 * k9 + 2) (300 * k9 + 12) 1560 [(0, .inr (.inr x0)), (1, .inr (.inr x1)), (2, .inr (.inr x2)), (3, .inr (.inr x3)), (4, .inl x4)] [] σ R) (fun (k9 : Nat) (x0 : Nat) (x1 : Nat) (x2 : Nat) (x3 : Nat) (x4 : Int32) (y0 : Int64) (y1 : Int64) (σ : q_S) => q_G l cx M_LW_law 9 576 (20 * k9 + 0) (300 * k9 + 0) 1702 [(0, .inr (.inr x0)), (1, .inr (.inr x1)), (2, .inr (.inr x2)), (3, .inr (.inr x3)), (4, .inl x4)] [.inr (.inl y0), .inr (.inl y1)] σ R) (fun (k9 : Nat) (x0 : Nat) (x1 : Nat) (x2 : Nat) (x3 : Nat) (x4 : Int32) (σ : q_S) => q_G l cx M_LW_law 9 576 (20 * k9 + 0) (300 * k9 + 0) 1708 [(0, .inr (.inr x0)), (1, .inr (.inr x1)), (2, .inr (.inr x2)), (3, .inr (.inr x3)), (4, .inl x4)] [] σ R) := by
      intro k9 x0 x1 x2 x3 x4 σ hV
      show q_G l cx M_LW_law 9 576 (20 * k9 + 2) (300 * k9 + 12) 1560 [(0, .inr (.inr x0)), (1, .inr (.inr x1)), (2, .inr (.inr x2)), (3, .inr (.inr x3)), (4, .inl x4)] [] σ R
      refine q_run k_LW_law_24 0 41 1612 rfl ?_
      show (q_K σ x0 = 1000 ∨ q_K σ x0 = 2000) ∧ vp_in (x4 + (1 : Int32)) (q_Z σ x0) ∧ (q_K σ x0 = 1000 ∨ q_K σ x0 = 2000) ∧ vp_in (x4 + (2 : Int32)) (q_Z σ x0) ∧ (q_K σ x0 = 1000 ∨ q_K σ x0 = 2000) ∧ vp_in (x4 + (3 : Int32)) (q_Z σ x0) ∧ (q_K σ x0 = 1000 ∨ q_K σ x0 = 2000) ∧ vp_in (x4 + (4 : Int32)) (q_Z σ x0) ∧ (q_K σ x0 = 1000 ∨ q_K σ x0 = 2000) ∧ vp_in (x4 + (5 : Int32)) (q_Z σ x0) ∧ q_G l cx M_LW_law 9 576 (20 * k9 + 2) (300 * k9 + 12) 1612 [(0, .inr (.inr x0)), (1, .inr (.inr x1)), (2, .inr (.inr x2)), (3, .inr (.inr x3)), (4, .inl x4)] [.inr (.inr x3), .inr (.inl ((((q_I σ x0 (x4 + (4 : Int32)).toNatClampNeg).toInt64) <<< ((32 : Int32).toInt64 &&& 63)) ||| (((q_I σ x0 (x4 + (5 : Int32)).toNatClampNeg).toInt64) &&& (4294967295 : Int64)))), .inr (.inl ((((q_I σ x0 (x4 + (2 : Int32)).toNatClampNeg).toInt64) <<< ((32 : Int32).toInt64 &&& 63)) ||| (((q_I σ x0 (x4 + (3 : Int32)).toNatClampNeg).toInt64) &&& (4294967295 : Int64)))), .inl (q_I σ x0 (x4 + (1 : Int32)).toNatClampNeg), .inr (.inr x1)] σ R
      obtain ⟨s1, s2, s3, s4, s5, s6, s7, s8, s9, s10, hV⟩ := hV
      refine ⟨s1, s2, s3, s4, s5, s6, s7, s8, s9, s10, ?_⟩
      refine q_less (kc' := (20 * k9 + 0) + 2) (ks' := (300 * k9 + 0) + 12) (Nat.add_le_add_left (Nat.le_of_ble_eq_true rfl) _) (Nat.add_le_add_left (Nat.le_of_ble_eq_true rfl) _) ?_
      refine q_callS (st := []) (t_LW_hatch (l := l) (cx := cx) hlf hV) (q_dc k_LW_law_24 41 rfl) (Or.inl (List.mem_of_getElem? (i := 849) (by decide +kernel))) w_LW_hatch s_LW_hatch a_LW_hatch (q_wt (Nat.le_of_ble_eq_true rfl)) ⟨Nat.le_of_ble_eq_true rfl, Nat.le_of_ble_eq_true rfl⟩ (fun v9 τ9 q9 => ?_) (fun n9 τ9 q9 => q_T.leave rfl q9)
      obtain ⟨v13, rfl, hV⟩ := q_ci_elim q9
      clear q9
      have hV := hV
      revert hV
      generalize τ9 = σ14
      intro hV
      show q_G l cx M_LW_law 9 576 (20 * k9 + 0) (300 * k9 + 0) 1615 [(0, .inr (.inr x0)), (1, .inr (.inr x1)), (2, .inr (.inr x2)), (3, .inr (.inr x3)), (4, .inl x4)] [.inl v13] σ14 R
      refine q_run k_LW_law_24 42 8 1625 rfl ?_
      show (q_K σ14 x0 = 1000 ∨ q_K σ14 x0 = 2000) ∧ vp_in (x4 + (1 : Int32)) (q_Z σ14 x0) ∧ q_G l cx M_LW_law 9 576 (20 * k9 + 0) (300 * k9 + 0) 1625 [(5, .inl v13), (0, .inr (.inr x0)), (1, .inr (.inr x1)), (2, .inr (.inr x2)), (3, .inr (.inr x3)), (4, .inl x4)] [.inr (.inr x0), .inl (q_I σ14 x0 (x4 + (1 : Int32)).toNatClampNeg), .inr (.inr x2)] σ14 R
      obtain ⟨s15, s16, hV⟩ := hV
      refine ⟨s15, s16, ?_⟩
      refine q_run k_LW_law_25 0 33 1668 rfl ?_
      show (q_K σ14 x0 = 1000 ∨ q_K σ14 x0 = 2000) ∧ vp_in (x4 + (2 : Int32)) (q_Z σ14 x0) ∧ (q_K σ14 x0 = 1000 ∨ q_K σ14 x0 = 2000) ∧ vp_in (x4 + (3 : Int32)) (q_Z σ14 x0) ∧ (q_K σ14 x0 = 1000 ∨ q_K σ14 x0 = 2000) ∧ vp_in (x4 + (4 : Int32)) (q_Z σ14 x0) ∧ (q_K σ14 x0 = 1000 ∨ q_K σ14 x0 = 2000) ∧ vp_in (x4 + (5 : Int32)) (q_Z σ14 x0) ∧ q_G l cx M_LW_law 9 576 (20 * k9 + 0) (300 * k9 + 0) 1668 [(5, .inl v13), (0, .inr (.inr x0)), (1, .inr (.inr x1)), (2, .inr (.inr x2)), (3, .inr (.inr x3)), (4, .inl x4)] [.inr (.inl ((((q_I σ14 x0 (x4 + (4 : Int32)).toNatClampNeg).toInt64) <<< ((32 : Int32).toInt64 &&& 63)) ||| (((q_I σ14 x0 (x4 + (5 : Int32)).toNatClampNeg).toInt64) &&& (4294967295 : Int64)))), .inr (.inl ((((q_I σ14 x0 (x4 + (2 : Int32)).toNatClampNeg).toInt64) <<< ((32 : Int32).toInt64 &&& 63)) ||| (((q_I σ14 x0 (x4 + (3 : Int32)).toNatClampNeg).toInt64) &&& (4294967295 : Int64)))), .inl (q_I σ14 x0 (x4 + (1 : Int32)).toNatClampNeg), .inr (.inr x2)] σ14 R
      obtain ⟨s17, s18, s19, s20, s21, s22, s23, s24, hV⟩ := hV
      refine ⟨s17, s18, s19, s20, s21, s22, s23, s24, ?_⟩
      obtain ⟨s25, hV⟩ := hV
      refine q_callV (st := []) (as := [.inl (q_I σ14 x0 (x4 + (1 : Int32)).toNatClampNeg), .inr (.inl ((((q_I σ14 x0 (x4 + (2 : Int32)).toNatClampNeg).toInt64) <<< ((32 : Int32).toInt64 &&& 63)) ||| (((q_I σ14 x0 (x4 + (3 : Int32)).toNatClampNeg).toInt64) &&& (4294967295 : Int64)))), .inr (.inl ((((q_I σ14 x0 (x4 + (4 : Int32)).toNatClampNeg).toInt64) <<< ((32 : Int32).toInt64 &&& 63)) ||| (((q_I σ14 x0 (x4 + (5 : Int32)).toNatClampNeg).toInt64) &&& (4294967295 : Int64))))]) (t_PM_hatch (l := l) (cx := cx)  hV) (q_dc k_LW_law_25 33 rfl) (Or.inl (List.mem_of_getElem? (i := 982) (by decide +kernel))) w_PM_hatch n_PM_hatch (ci := 6) rfl e_PM_hatch a_PM_hatch (q_wt (Nat.le_of_ble_eq_true rfl)) ⟨Nat.le_of_ble_eq_true rfl, Nat.le_of_ble_eq_true rfl⟩ s25 (fun v9 τ9 q9 => ?_) (fun n9 τ9 q9 => q_T.leave rfl q9)
      obtain ⟨v28, rfl, hV⟩ := q_ci_elim q9
      clear q9
      have hV := hV
      revert hV
      generalize τ9 = σ29
      intro hV
      show q_G l cx M_LW_law 9 576 (20 * k9 + 0) (300 * k9 + 0) 1671 [(5, .inl v13), (0, .inr (.inr x0)), (1, .inr (.inr x1)), (2, .inr (.inr x2)), (3, .inr (.inr x3)), (4, .inl x4)] [.inl v28] σ29 R
      refine q_run k_LW_law_25 34 2 1674 rfl ?_
      show q_G l cx M_LW_law 9 576 (20 * k9 + 0) (300 * k9 + 0) 1674 [(6, .inl v28), (5, .inl v13), (0, .inr (.inr x0)), (1, .inr (.inr x1)), (2, .inr (.inr x2)), (3, .inr (.inr x3)), (4, .inl x4)] [.inr (.inr x2)] σ29 R
      obtain ⟨s30, hV⟩ := hV
      refine q_callV (st := []) (as := []) (t_PM_thrown (l := l) (cx := cx) (σ := σ29) x2 s30) (q_dc k_LW_law_25 36 rfl) (Or.inl (List.mem_of_getElem? (i := 936) (by decide +kernel))) w_PM_thrown n_PM_thrown (ci := 6) rfl e_PM_thrown a_PM_thrown (q_wt (Nat.le_of_ble_eq_true rfl)) ⟨Nat.le_of_ble_eq_true rfl, Nat.le_of_ble_eq_true rfl⟩ s30 (fun v9 τ9 q9 => ?_) (fun n9 τ9 q9 => by cases q9.1)
      obtain ⟨q8, q7⟩ := q9
      cases q8
      rw [q7]
      show q_G l cx M_LW_law 9 576 (20 * k9 + 0) (300 * k9 + 0) 1677 [(6, .inl v28), (5, .inl v13), (0, .inr (.inr x0)), (1, .inr (.inr x1)), (2, .inr (.inr x2)), (3, .inr (.inr x3)), (4, .inl x4)] [.inl (f_PM_thrown σ29 x2)] σ29 R
      refine q_run k_LW_law_25 37 1 1679 rfl ?_
      show q_G l cx M_LW_law 9 576 (20 * k9 + 0) (300 * k9 + 0) 1679 [(6, .inl v28), (5, .inl v13), (0, .inr (.inr x0)), (1, .inr (.inr x1)), (2, .inr (.inr x2)), (3, .inr (.inr x3)), (4, .inl x4)] [.inl v13, .inl (f_PM_thrown σ29 x2)] σ29 R
      refine q_icmp (q_dc k_LW_law_25 38 rfl) rfl (fun h31 => ?_) (fun h31 => ?_)
      · have hV := hV.1 h31
        refine q_run k_LW_law_25 41 1 1686 rfl ?_
        show q_G l cx M_LW_law 9 576 (20 * k9 + 0) (300 * k9 + 0) 1686 [(6, .inl v28), (5, .inl v13), (0, .inr (.inr x0)), (1, .inr (.inr x1)), (2, .inr (.inr x2)), (3, .inr (.inr x3)), (4, .inl x4)] [.inl v13] σ29 R
        refine q_ifz (q_dc k_LW_law_25 42 rfl) rfl (fun h32 => ?_) (fun h32 => ?_)
        · have hV := hV.1 h32
          exact q_less (Nat.add_le_add_left (Nat.le_of_ble_eq_true rfl) _) (Nat.add_le_add_left (Nat.le_of_ble_eq_true rfl) _) (q_subk [2, 3, 4, 5, 6] rfl hV)
        · have hV := hV.2 h32
          refine q_run k_LW_law_25 43 4 1694 rfl ?_
          show q_K σ29 x3 = 1001 ∧ vp_in (0 : Int32) (q_Z σ29 x3) ∧ q_G l cx M_LW_law 9 576 (20 * k9 + 0) (300 * k9 + 0) 1694 [(6, .inl v28), (5, .inl v13), (0, .inr (.inr x0)), (1, .inr (.inr x1)), (2, .inr (.inr x2)), (3, .inr (.inr x3)), (4, .inl x4)] [.inl v28, .inr (.inl (q_L σ29 x3 (0 : Int32).toNatClampNeg))] σ29 R
          obtain ⟨s33, s34, hV⟩ := hV
          refine ⟨s33, s34, ?_⟩
          refine q_ifz (q_dc k_LW_law_25 47 rfl) rfl (fun h35 => ?_) (fun h35 => ?_)
          · have hV := hV.1 h35
            refine q_run k_LW_law_25 50 1 1702 rfl ?_
            show q_G l cx M_LW_law 9 576 (20 * k9 + 0) (300 * k9 + 0) 1702 [(6, .inl v28), (5, .inl v13), (0, .inr (.inr x0)), (1, .inr (.inr x1)), (2, .inr (.inr x2)), (3, .inr (.inr x3)), (4, .inl x4)] [.inr (.inl (0 : Int64)), .inr (.inl (q_L σ29 x3 (0 : Int32).toNatClampNeg))] σ29 R
            exact q_less (Nat.add_le_add_left (Nat.le_of_ble_eq_true rfl) _) (Nat.add_le_add_left (Nat.le_of_ble_eq_true rfl) _) (q_subk [2, 3, 4, 5, 6] rfl hV)
          · have hV := hV.2 h35
            refine q_run k_LW_law_25 48 1 1698 rfl ?_
            show q_G l cx M_LW_law 9 576 (20 * k9 + 0) (300 * k9 + 0) 1698 [(6, .inl v28), (5, .inl v13), (0, .inr (.inr x0)), (1, .inr (.inr x1)), (2, .inr (.inr x2)), (3, .inr (.inr x3)), (4, .inl x4)] [.inr (.inl (1 : Int64)), .inr (.inl (q_L σ29 x3 (0 : Int32).toNatClampNeg))] σ29 R
            refine q_goto (q_dc k_LW_law_25 49 rfl) rfl ?_
            exact q_less (Nat.add_le_add_left (Nat.le_of_ble_eq_true rfl) _) (Nat.add_le_add_left (Nat.le_of_ble_eq_true rfl) _) (q_subk [2, 3, 4, 5, 6] rfl hV)
      · have hV := hV.2 h31
        refine q_run k_LW_law_25 39 1 1683 rfl ?_
        show q_G l cx M_LW_law 9 576 (20 * k9 + 0) (300 * k9 + 0) 1683 [(6, .inl v28), (5, .inl v13), (0, .inr (.inr x0)), (1, .inr (.inr x1)), (2, .inr (.inr x2)), (3, .inr (.inr x3)), (4, .inl x4)] [.inl (0 : Int32)] σ29 R
        exact q_zreturn (q_dc k_LW_law_25 40 rfl) rfl (by decide) hV
set_option maxRecDepth 100000 in
theorem t_LW_law_1702 {l : Launch} {cx : q_C} {R : q_O → q_S → Prop} (hlf : l.flags = pinnedFlags ++ [noTraceFlag]) : V_LW_law_1702 R (fun (k9 : Nat) (x0 : Nat) (x1 : Nat) (x2 : Nat) (x3 : Nat) (x4 : Int32) (y0 : Int64) (y1 : Int64) (σ : q_S) => q_G l cx M_LW_law 9 576 (20 * k9 + 0) (300 * k9 + 0) 1702 [(0, .inr (.inr x0)), (1, .inr (.inr x1)), (2, .inr (.inr x2)), (3, .inr (.inr x3)), (4, .inl x4)] [.inr (.inl y0), .inr (.inl y1)] σ R) (fun (k9 : Nat) (x0 : Nat) (x1 : Nat) (x2 : Nat) (x3 : Nat) (x4 : Int32) (σ : q_S) => q_G l cx M_LW_law 9 576 (20 * k9 + 0) (300 * k9 + 0) 1708 [(0, .inr (.inr x0)), (1, .inr (.inr x1)), (2, .inr (.inr x2)), (3, .inr (.inr x3)), (4, .inl x4)] [] σ R) := by
      intro k9 x0 x1 x2 x3 x4 y0 y1 σ hV
      show q_G l cx M_LW_law 9 576 (20 * k9 + 0) (300 * k9 + 0) 1702 [(0, .inr (.inr x0)), (1, .inr (.inr x1)), (2, .inr (.inr x2)), (3, .inr (.inr x3)), (4, .inl x4)] [.inr (.inl y0), .inr (.inl y1)] σ R
      refine q_run k_LW_law_25 51 1 1703 rfl ?_
      show q_G l cx M_LW_law 9 576 (20 * k9 + 0) (300 * k9 + 0) 1703 [(0, .inr (.inr x0)), (1, .inr (.inr x1)), (2, .inr (.inr x2)), (3, .inr (.inr x3)), (4, .inl x4)] [.inl (lg_cmp y1 y0)] σ R
      refine q_ifz (q_dc k_LW_law_25 52 rfl) rfl (fun h1 => ?_) (fun h1 => ?_)
      · have hV := hV.1 h1
        exact q_less (Nat.add_le_add_left (Nat.le_of_ble_eq_true rfl) _) (Nat.add_le_add_left (Nat.le_of_ble_eq_true rfl) _) (q_subk [0, 1, 2, 3, 4] rfl hV)
      · have hV := hV.2 h1
        refine q_run k_LW_law_25 53 1 1707 rfl ?_
        show q_G l cx M_LW_law 9 576 (20 * k9 + 0) (300 * k9 + 0) 1707 [(0, .inr (.inr x0)), (1, .inr (.inr x1)), (2, .inr (.inr x2)), (3, .inr (.inr x3)), (4, .inl x4)] [.inl (0 : Int32)] σ R
        exact q_zreturn (q_dc k_LW_law_25 54 rfl) rfl (by decide) hV
set_option maxRecDepth 100000 in
theorem t_LW_law_1708 {l : Launch} {cx : q_C} {R : q_O → q_S → Prop} (hlf : l.flags = pinnedFlags ++ [noTraceFlag]) : V_LW_law_1708 R (fun (k9 : Nat) (x0 : Nat) (x1 : Nat) (x2 : Nat) (x3 : Nat) (x4 : Int32) (σ : q_S) => q_G l cx M_LW_law 9 576 (20 * k9 + 0) (300 * k9 + 0) 1708 [(0, .inr (.inr x0)), (1, .inr (.inr x1)), (2, .inr (.inr x2)), (3, .inr (.inr x3)), (4, .inl x4)] [] σ R) (fun (k9 : Nat) (x0 : Nat) (x1 : Nat) (x2 : Nat) (x3 : Nat) (x4 : Int32) (σ : q_S) => q_G l cx M_LW_law 9 576 (20 * k9 + 0) (300 * k9 + 0) 1969 [(0, .inr (.inr x0)), (1, .inr (.inr x1)), (2, .inr (.inr x2)), (3, .inr (.inr x3)), (4, .inl x4)] [] σ R) := by
      intro k9 x0 x1 x2 x3 x4 σ hV
      show q_G l cx M_LW_law 9 576 (20 * k9 + 0) (300 * k9 + 0) 1708 [(0, .inr (.inr x0)), (1, .inr (.inr x1)), (2, .inr (.inr x2)), (3, .inr (.inr x3)), (4, .inl x4)] [] σ R
      refine q_goto (q_dc k_LW_law_25 55 rfl) rfl ?_
      exact q_less (Nat.add_le_add_left (Nat.le_of_ble_eq_true rfl) _) (Nat.add_le_add_left (Nat.le_of_ble_eq_true rfl) _) (q_subk [0, 1, 2, 3, 4] rfl hV)
set_option maxRecDepth 100000 in
theorem t_LW_law_1711 {l : Launch} {cx : q_C} {R : q_O → q_S → Prop} (hlf : l.flags = pinnedFlags ++ [noTraceFlag]) : V_LW_law_1711 R (fun (k9 : Nat) (x0 : Nat) (x1 : Nat) (x2 : Nat) (x3 : Nat) (x4 : Int32) (σ : q_S) => q_G l cx M_LW_law 9 576 (20 * k9 + 0) (300 * k9 + 0) 1711 [(0, .inr (.inr x0)), (1, .inr (.inr x1)), (2, .inr (.inr x2)), (3, .inr (.inr x3)), (4, .inl x4)] [] σ R) (fun (k9 : Nat) (x0 : Nat) (x1 : Nat) (x2 : Nat) (x3 : Nat) (x4 : Int32) (σ : q_S) => q_G l cx M_LW_law 9 576 (20 * k9 + 0) (300 * k9 + 0) 1969 [(0, .inr (.inr x0)), (1, .inr (.inr x1)), (2, .inr (.inr x2)), (3, .inr (.inr x3)), (4, .inl x4)] [] σ R) := by
      intro k9 x0 x1 x2 x3 x4 σ hV
      show q_G l cx M_LW_law 9 576 (20 * k9 + 0) (300 * k9 + 0) 1711 [(0, .inr (.inr x0)), (1, .inr (.inr x1)), (2, .inr (.inr x2)), (3, .inr (.inr x3)), (4, .inl x4)] [] σ R
      refine q_run k_LW_law_26 0 50 1777 rfl ?_
      show (q_K σ x0 = 1000 ∨ q_K σ x0 = 2000) ∧ vp_in (x4 + (1 : Int32)) (q_Z σ x0) ∧ (q_K σ x0 = 1000 ∨ q_K σ x0 = 2000) ∧ vp_in (x4 + (2 : Int32)) (q_Z σ x0) ∧ (q_K σ x0 = 1000 ∨ q_K σ x0 = 2000) ∧ vp_in (x4 + (3 : Int32)) (q_Z σ x0) ∧ (q_K σ x0 = 1000 ∨ q_K σ x0 = 2000) ∧ vp_in (x4 + (4 : Int32)) (q_Z σ x0) ∧ (q_K σ x0 = 1000 ∨ q_K σ x0 = 2000) ∧ vp_in (x4 + (5 : Int32)) (q_Z σ x0) ∧ (q_K σ x0 = 1000 ∨ q_K σ x0 = 2000) ∧ vp_in (x4 + (6 : Int32)) (q_Z σ x0) ∧ q_G l cx M_LW_law 9 576 (20 * k9 + 0) (300 * k9 + 0) 1777 [(0, .inr (.inr x0)), (1, .inr (.inr x1)), (2, .inr (.inr x2)), (3, .inr (.inr x3)), (4, .inl x4)] [.inr (.inl (4294967295 : Int64)), .inr (.inl ((q_I σ x0 (x4 + (6 : Int32)).toNatClampNeg).toInt64)), .inr (.inl (((q_I σ x0 (x4 + (5 : Int32)).toNatClampNeg).toInt64) <<< ((32 : Int32).toInt64 &&& 63))), .inr (.inl ((((q_I σ x0 (x4 + (3 : Int32)).toNatClampNeg).toInt64) <<< ((32 : Int32).toInt64 &&& 63)) ||| (((q_I σ x0 (x4 + (4 : Int32)).toNatClampNeg).toInt64) &&& (4294967295 : Int64)))), .inr (.inl ((((q_I σ x0 (x4 + (1 : Int32)).toNatClampNeg).toInt64) <<< ((32 : Int32).toInt64 &&& 63)) ||| (((q_I σ x0 (x4 + (2 : Int32)).toNatClampNeg).toInt64) &&& (4294967295 : Int64)))), .inr (.inr x1)] σ R
      obtain ⟨s1, s2, s3, s4, s5, s6, s7, s8, s9, s10, s11, s12, hV⟩ := hV
      refine ⟨s1, s2, s3, s4, s5, s6, s7, s8, s9, s10, s11, s12, ?_⟩
      refine q_run k_LW_law_27 0 19 1803 rfl ?_
      show (q_K σ x0 = 1000 ∨ q_K σ x0 = 2000) ∧ vp_in (x4 + (7 : Int32)) (q_Z σ x0) ∧ (q_K σ x0 = 1000 ∨ q_K σ x0 = 2000) ∧ vp_in (x4 + (8 : Int32)) (q_Z σ x0) ∧ q_G l cx M_LW_law 9 576 (20 * k9 + 0) (300 * k9 + 0) 1803 [(0, .inr (.inr x0)), (1, .inr (.inr x1)), (2, .inr (.inr x2)), (3, .inr (.inr x3)), (4, .inl x4)] [.inr (.inl ((((q_I σ x0 (x4 + (7 : Int32)).toNatClampNeg).toInt64) <<< ((32 : Int32).toInt64 &&& 63)) ||| (((q_I σ x0 (x4 + (8 : Int32)).toNatClampNeg).toInt64) &&& (4294967295 : Int64)))), .inr (.inl ((((q_I σ x0 (x4 + (5 : Int32)).toNatClampNeg).toInt64) <<< ((32 : Int32).toInt64 &&& 63)) ||| (((q_I σ x0 (x4 + (6 : Int32)).toNatClampNeg).toInt64) &&& (4294967295 : Int64)))), .inr (.inl ((((q_I σ x0 (x4 + (3 : Int32)).toNatClampNeg).toInt64) <<< ((32 : Int32).toInt64 &&& 63)) ||| (((q_I σ x0 (x4 + (4 : Int32)).toNatClampNeg).toInt64) &&& (4294967295 : Int64)))), .inr (.inl ((((q_I σ x0 (x4 + (1 : Int32)).toNatClampNeg).toInt64) <<< ((32 : Int32).toInt64 &&& 63)) ||| (((q_I σ x0 (x4 + (2 : Int32)).toNatClampNeg).toInt64) &&& (4294967295 : Int64)))), .inr (.inr x1)] σ R
      obtain ⟨s13, s14, s15, s16, hV⟩ := hV
      refine ⟨s13, s14, s15, s16, ?_⟩
      obtain ⟨s17, hV⟩ := hV
      refine q_callV (st := []) (as := [.inr (.inl ((((q_I σ x0 (x4 + (1 : Int32)).toNatClampNeg).toInt64) <<< ((32 : Int32).toInt64 &&& 63)) ||| (((q_I σ x0 (x4 + (2 : Int32)).toNatClampNeg).toInt64) &&& (4294967295 : Int64)))), .inr (.inl ((((q_I σ x0 (x4 + (3 : Int32)).toNatClampNeg).toInt64) <<< ((32 : Int32).toInt64 &&& 63)) ||| (((q_I σ x0 (x4 + (4 : Int32)).toNatClampNeg).toInt64) &&& (4294967295 : Int64)))), .inr (.inl ((((q_I σ x0 (x4 + (5 : Int32)).toNatClampNeg).toInt64) <<< ((32 : Int32).toInt64 &&& 63)) ||| (((q_I σ x0 (x4 + (6 : Int32)).toNatClampNeg).toInt64) &&& (4294967295 : Int64)))), .inr (.inl ((((q_I σ x0 (x4 + (7 : Int32)).toNatClampNeg).toInt64) <<< ((32 : Int32).toInt64 &&& 63)) ||| (((q_I σ x0 (x4 + (8 : Int32)).toNatClampNeg).toInt64) &&& (4294967295 : Int64))))]) (t_PF_changed (l := l) (cx := cx)  hV) (q_dc k_LW_law_27 19 rfl) (Or.inl (List.mem_of_getElem? (i := 282) (by decide +kernel))) w_PF_changed n_PF_changed (ci := 0) rfl e_PF_changed a_PF_changed (q_wt (Nat.le_of_ble_eq_true rfl)) ⟨Nat.le_of_ble_eq_true rfl, Nat.le_of_ble_eq_true rfl⟩ s17 (fun v9 τ9 q9 => ?_) (fun n9 τ9 q9 => q_T.leave rfl q9)
      obtain ⟨v20, rfl, hV⟩ := q_ci_elim q9
      clear q9
      have hV := hV
      revert hV
      generalize τ9 = σ21
      intro hV
      show q_G l cx M_LW_law 9 576 (20 * k9 + 0) (300 * k9 + 0) 1806 [(0, .inr (.inr x0)), (1, .inr (.inr x1)), (2, .inr (.inr x2)), (3, .inr (.inr x3)), (4, .inl x4)] [.inl v20] σ21 R
      refine q_run k_LW_law_27 20 30 1844 rfl ?_
      show (q_K σ21 x0 = 1000 ∨ q_K σ21 x0 = 2000) ∧ vp_in (x4 + (1 : Int32)) (q_Z σ21 x0) ∧ (q_K σ21 x0 = 1000 ∨ q_K σ21 x0 = 2000) ∧ vp_in (x4 + (2 : Int32)) (q_Z σ21 x0) ∧ (q_K σ21 x0 = 1000 ∨ q_K σ21 x0 = 2000) ∧ vp_in (x4 + (3 : Int32)) (q_Z σ21 x0) ∧ q_G l cx M_LW_law 9 576 (20 * k9 + 0) (300 * k9 + 0) 1844 [(0, .inr (.inr x0)), (1, .inr (.inr x1)), (2, .inr (.inr x2)), (3, .inr (.inr x3)), (4, .inl x4)] [.inl (x4 + (4 : Int32)), .inr (.inr x0), .inr (.inl (((q_I σ21 x0 (x4 + (3 : Int32)).toNatClampNeg).toInt64) <<< ((32 : Int32).toInt64 &&& 63))), .inr (.inl ((((q_I σ21 x0 (x4 + (1 : Int32)).toNatClampNeg).toInt64) <<< ((32 : Int32).toInt64 &&& 63)) ||| (((q_I σ21 x0 (x4 + (2 : Int32)).toNatClampNeg).toInt64) &&& (4294967295 : Int64)))), .inr (.inr x2), .inl v20] σ21 R
      obtain ⟨s22, s23, s24, s25, s26, s27, hV⟩ := hV
      refine ⟨s22, s23, s24, s25, s26, s27, ?_⟩
      refine q_run k_LW_law_28 0 39 1898 rfl ?_
      show (q_K σ21 x0 = 1000 ∨ q_K σ21 x0 = 2000) ∧ vp_in (x4 + (4 : Int32)) (q_Z σ21 x0) ∧ (q_K σ21 x0 = 1000 ∨ q_K σ21 x0 = 2000) ∧ vp_in (x4 + (5 : Int32)) (q_Z σ21 x0) ∧ (q_K σ21 x0 = 1000 ∨ q_K σ21 x0 = 2000) ∧ vp_in (x4 + (6 : Int32)) (q_Z σ21 x0) ∧ (q_K σ21 x0 = 1000 ∨ q_K σ21 x0 = 2000) ∧ vp_in (x4 + (7 : Int32)) (q_Z σ21 x0) ∧ (q_K σ21 x0 = 1000 ∨ q_K σ21 x0 = 2000) ∧ vp_in (x4 + (8 : Int32)) (q_Z σ21 x0) ∧ q_G l cx M_LW_law 9 576 (20 * k9 + 0) (300 * k9 + 0) 1898 [(0, .inr (.inr x0)), (1, .inr (.inr x1)), (2, .inr (.inr x2)), (3, .inr (.inr x3)), (4, .inl x4)] [.inr (.inl ((((q_I σ21 x0 (x4 + (7 : Int32)).toNatClampNeg).toInt64) <<< ((32 : Int32).toInt64 &&& 63)) ||| (((q_I σ21 x0 (x4 + (8 : Int32)).toNatClampNeg).toInt64) &&& (4294967295 : Int64)))), .inr (.inl ((((q_I σ21 x0 (x4 + (5 : Int32)).toNatClampNeg).toInt64) <<< ((32 : Int32).toInt64 &&& 63)) ||| (((q_I σ21 x0 (x4 + (6 : Int32)).toNatClampNeg).toInt64) &&& (4294967295 : Int64)))), .inr (.inl ((((q_I σ21 x0 (x4 + (3 : Int32)).toNatClampNeg).toInt64) <<< ((32 : Int32).toInt64 &&& 63)) ||| (((q_I σ21 x0 (x4 + (4 : Int32)).toNatClampNeg).toInt64) &&& (4294967295 : Int64)))), .inr (.inl ((((q_I σ21 x0 (x4 + (1 : Int32)).toNatClampNeg).toInt64) <<< ((32 : Int32).toInt64 &&& 63)) ||| (((q_I σ21 x0 (x4 + (2 : Int32)).toNatClampNeg).toInt64) &&& (4294967295 : Int64)))), .inr (.inr x2), .inl v20] σ21 R
      obtain ⟨s28, s29, s30, s31, s32, s33, s34, s35, s36, s37, hV⟩ := hV
      refine ⟨s28, s29, s30, s31, s32, s33, s34, s35, s36, s37, ?_⟩
      obtain ⟨s38, hV⟩ := hV
      refine q_callV (st := [.inl v20]) (as := [.inr (.inl ((((q_I σ21 x0 (x4 + (1 : Int32)).toNatClampNeg).toInt64) <<< ((32 : Int32).toInt64 &&& 63)) ||| (((q_I σ21 x0 (x4 + (2 : Int32)).toNatClampNeg).toInt64) &&& (4294967295 : Int64)))), .inr (.inl ((((q_I σ21 x0 (x4 + (3 : Int32)).toNatClampNeg).toInt64) <<< ((32 : Int32).toInt64 &&& 63)) ||| (((q_I σ21 x0 (x4 + (4 : Int32)).toNatClampNeg).toInt64) &&& (4294967295 : Int64)))), .inr (.inl ((((q_I σ21 x0 (x4 + (5 : Int32)).toNatClampNeg).toInt64) <<< ((32 : Int32).toInt64 &&& 63)) ||| (((q_I σ21 x0 (x4 + (6 : Int32)).toNatClampNeg).toInt64) &&& (4294967295 : Int64)))), .inr (.inl ((((q_I σ21 x0 (x4 + (7 : Int32)).toNatClampNeg).toInt64) <<< ((32 : Int32).toInt64 &&& 63)) ||| (((q_I σ21 x0 (x4 + (8 : Int32)).toNatClampNeg).toInt64) &&& (4294967295 : Int64))))]) (t_PM_changed (l := l) (cx := cx)  hV) (q_dc k_LW_law_28 39 rfl) (Or.inl (List.mem_of_getElem? (i := 1051) (by decide +kernel))) w_PM_changed n_PM_changed (ci := 6) rfl e_PM_changed a_PM_changed (q_wt (Nat.le_of_ble_eq_true rfl)) ⟨Nat.le_of_ble_eq_true rfl, Nat.le_of_ble_eq_true rfl⟩ s38 (fun v9 τ9 q9 => ?_) (fun n9 τ9 q9 => q_T.leave rfl q9)
      obtain ⟨v41, rfl, hV⟩ := q_ci_elim q9
      clear q9
      have hV := hV
      revert hV
      generalize τ9 = σ42
      intro hV
      show q_G l cx M_LW_law 9 576 (20 * k9 + 0) (300 * k9 + 0) 1901 [(0, .inr (.inr x0)), (1, .inr (.inr x1)), (2, .inr (.inr x2)), (3, .inr (.inr x3)), (4, .inl x4)] [.inl v41, .inl v20] σ42 R
      refine q_icmp (q_dc k_LW_law_28 40 rfl) rfl (fun h43 => ?_) (fun h43 => ?_)
      · have hV := hV.1 h43
        exact q_less (Nat.add_le_add_left (Nat.le_of_ble_eq_true rfl) _) (Nat.add_le_add_left (Nat.le_of_ble_eq_true rfl) _) (q_subk [0, 1, 2, 3, 4] rfl hV)
      · have hV := hV.2 h43
        refine q_run k_LW_law_28 41 1 1905 rfl ?_
        show q_G l cx M_LW_law 9 576 (20 * k9 + 0) (300 * k9 + 0) 1905 [(0, .inr (.inr x0)), (1, .inr (.inr x1)), (2, .inr (.inr x2)), (3, .inr (.inr x3)), (4, .inl x4)] [.inl (0 : Int32)] σ42 R
        exact q_zreturn (q_dc k_LW_law_28 42 rfl) rfl (by decide) hV
set_option maxRecDepth 100000 in
theorem t_LW_law_1906 {l : Launch} {cx : q_C} {R : q_O → q_S → Prop} (hlf : l.flags = pinnedFlags ++ [noTraceFlag]) : V_LW_law_1906 R (fun (k9 : Nat) (x0 : Nat) (x1 : Nat) (x2 : Nat) (x3 : Nat) (x4 : Int32) (σ : q_S) => q_G l cx M_LW_law 9 576 (20 * k9 + 1) (300 * k9 + 6) 1906 [(0, .inr (.inr x0)), (1, .inr (.inr x1)), (2, .inr (.inr x2)), (3, .inr (.inr x3)), (4, .inl x4)] [] σ R) (fun (k9 : Nat) (x0 : Nat) (x1 : Nat) (x2 : Nat) (x3 : Nat) (x4 : Int32) (y0 : Int64) (y1 : Int64) (σ : q_S) => q_G l cx M_LW_law 9 576 (20 * k9 + 0) (300 * k9 + 0) 1960 [(0, .inr (.inr x0)), (1, .inr (.inr x1)), (2, .inr (.inr x2)), (3, .inr (.inr x3)), (4, .inl x4)] [.inr (.inl y0), .inr (.inl y1)] σ R) (fun (k9 : Nat) (x0 : Nat) (x1 : Nat) (x2 : Nat) (x3 : Nat) (x4 : Int32) (σ : q_S) => q_G l cx M_LW_law 9 576 (20 * k9 + 0) (300 * k9 + 0) 1966 [(0, .inr (.inr x0)), (1, .inr (.inr x1)), (2, .inr (.inr x2)), (3, .inr (.inr x3)), (4, .inl x4)] [] σ R) := by
      intro k9 x0 x1 x2 x3 x4 σ hV
      show q_G l cx M_LW_law 9 576 (20 * k9 + 1) (300 * k9 + 6) 1906 [(0, .inr (.inr x0)), (1, .inr (.inr x1)), (2, .inr (.inr x2)), (3, .inr (.inr x3)), (4, .inl x4)] [] σ R
      refine q_run k_LW_law_29 0 7 1914 rfl ?_
      show (q_K σ x0 = 1000 ∨ q_K σ x0 = 2000) ∧ vp_in (x4 + (1 : Int32)) (q_Z σ x0) ∧ q_G l cx M_LW_law 9 576 (20 * k9 + 1) (300 * k9 + 6) 1914 [(0, .inr (.inr x0)), (1, .inr (.inr x1)), (2, .inr (.inr x2)), (3, .inr (.inr x3)), (4, .inl x4)] [.inr (.inr x3), .inl (q_I σ x0 (x4 + (1 : Int32)).toNatClampNeg), .inr (.inr x1)] σ R
      obtain ⟨s1, s2, hV⟩ := hV
      refine ⟨s1, s2, ?_⟩
      refine q_less (kc' := (20 * k9 + 0) + 1) (ks' := (300 * k9 + 0) + 6) (Nat.add_le_add_left (Nat.le_of_ble_eq_true rfl) _) (Nat.add_le_add_left (Nat.le_of_ble_eq_true rfl) _) ?_
      refine q_callS (st := []) (t_LW_narrow (l := l) (cx := cx) hlf hV) (q_dc k_LW_law_29 7 rfl) (Or.inl (List.mem_of_getElem? (i := 856) (by decide +kernel))) w_LW_narrow s_LW_narrow a_LW_narrow (q_wt (Nat.le_of_ble_eq_true rfl)) ⟨Nat.le_of_ble_eq_true rfl, Nat.le_of_ble_eq_true rfl⟩ (fun v9 τ9 q9 => ?_) (fun n9 τ9 q9 => q_T.leave rfl q9)
      obtain ⟨v5, rfl, hV⟩ := q_ci_elim q9
      clear q9
      have hV := hV
      revert hV
      generalize τ9 = σ6
      intro hV
      show q_G l cx M_LW_law 9 576 (20 * k9 + 0) (300 * k9 + 0) 1917 [(0, .inr (.inr x0)), (1, .inr (.inr x1)), (2, .inr (.inr x2)), (3, .inr (.inr x3)), (4, .inl x4)] [.inl v5] σ6 R
      refine q_run k_LW_law_29 8 7 1926 rfl ?_
      show (q_K σ6 x0 = 1000 ∨ q_K σ6 x0 = 2000) ∧ vp_in (x4 + (1 : Int32)) (q_Z σ6 x0) ∧ q_G l cx M_LW_law 9 576 (20 * k9 + 0) (300 * k9 + 0) 1926 [(5, .inl v5), (0, .inr (.inr x0)), (1, .inr (.inr x1)), (2, .inr (.inr x2)), (3, .inr (.inr x3)), (4, .inl x4)] [.inl (q_I σ6 x0 (x4 + (1 : Int32)).toNatClampNeg), .inr (.inr x2)] σ6 R
      obtain ⟨s7, s8, hV⟩ := hV
      refine ⟨s7, s8, ?_⟩
      obtain ⟨s9, hV⟩ := hV
      refine q_callV (st := []) (as := [.inl (q_I σ6 x0 (x4 + (1 : Int32)).toNatClampNeg)]) (t_PM_narrow (l := l) (cx := cx)  hV) (q_dc k_LW_law_29 15 rfl) (Or.inl (List.mem_of_getElem? (i := 1063) (by decide +kernel))) w_PM_narrow n_PM_narrow (ci := 6) rfl e_PM_narrow a_PM_narrow (q_wt (Nat.le_of_ble_eq_true rfl)) ⟨Nat.le_of_ble_eq_true rfl, Nat.le_of_ble_eq_true rfl⟩ s9 (fun v9 τ9 q9 => ?_) (fun n9 τ9 q9 => q_T.leave rfl q9)
      obtain ⟨v12, rfl, hV⟩ := q_ci_elim q9
      clear q9
      have hV := hV
      revert hV
      generalize τ9 = σ13
      intro hV
      show q_G l cx M_LW_law 9 576 (20 * k9 + 0) (300 * k9 + 0) 1929 [(5, .inl v5), (0, .inr (.inr x0)), (1, .inr (.inr x1)), (2, .inr (.inr x2)), (3, .inr (.inr x3)), (4, .inl x4)] [.inl v12] σ13 R
      refine q_run k_LW_law_29 16 2 1932 rfl ?_
      show q_G l cx M_LW_law 9 576 (20 * k9 + 0) (300 * k9 + 0) 1932 [(6, .inl v12), (5, .inl v5), (0, .inr (.inr x0)), (1, .inr (.inr x1)), (2, .inr (.inr x2)), (3, .inr (.inr x3)), (4, .inl x4)] [.inr (.inr x2)] σ13 R
      obtain ⟨s14, hV⟩ := hV
      refine q_callV (st := []) (as := []) (t_PM_thrown (l := l) (cx := cx) (σ := σ13) x2 s14) (q_dc k_LW_law_29 18 rfl) (Or.inl (List.mem_of_getElem? (i := 936) (by decide +kernel))) w_PM_thrown n_PM_thrown (ci := 6) rfl e_PM_thrown a_PM_thrown (q_wt (Nat.le_of_ble_eq_true rfl)) ⟨Nat.le_of_ble_eq_true rfl, Nat.le_of_ble_eq_true rfl⟩ s14 (fun v9 τ9 q9 => ?_) (fun n9 τ9 q9 => by cases q9.1)
      obtain ⟨q8, q7⟩ := q9
      cases q8
      rw [q7]
      show q_G l cx M_LW_law 9 576 (20 * k9 + 0) (300 * k9 + 0) 1935 [(6, .inl v12), (5, .inl v5), (0, .inr (.inr x0)), (1, .inr (.inr x1)), (2, .inr (.inr x2)), (3, .inr (.inr x3)), (4, .inl x4)] [.inl (f_PM_thrown σ13 x2)] σ13 R
      refine q_run k_LW_law_29 19 1 1937 rfl ?_
      show q_G l cx M_LW_law 9 576 (20 * k9 + 0) (300 * k9 + 0) 1937 [(6, .inl v12), (5, .inl v5), (0, .inr (.inr x0)), (1, .inr (.inr x1)), (2, .inr (.inr x2)), (3, .inr (.inr x3)), (4, .inl x4)] [.inl v5, .inl (f_PM_thrown σ13 x2)] σ13 R
      refine q_icmp (q_dc k_LW_law_29 20 rfl) rfl (fun h15 => ?_) (fun h15 => ?_)
      · have hV := hV.1 h15
        refine q_run k_LW_law_29 23 1 1944 rfl ?_
        show q_G l cx M_LW_law 9 576 (20 * k9 + 0) (300 * k9 + 0) 1944 [(6, .inl v12), (5, .inl v5), (0, .inr (.inr x0)), (1, .inr (.inr x1)), (2, .inr (.inr x2)), (3, .inr (.inr x3)), (4, .inl x4)] [.inl v5] σ13 R
        refine q_ifz (q_dc k_LW_law_29 24 rfl) rfl (fun h16 => ?_) (fun h16 => ?_)
        · have hV := hV.1 h16
          exact q_less (Nat.add_le_add_left (Nat.le_of_ble_eq_true rfl) _) (Nat.add_le_add_left (Nat.le_of_ble_eq_true rfl) _) (q_subk [2, 3, 4, 5, 6] rfl hV)
        · have hV := hV.2 h16
          refine q_run k_LW_law_29 25 4 1952 rfl ?_
          show q_K σ13 x3 = 1001 ∧ vp_in (0 : Int32) (q_Z σ13 x3) ∧ q_G l cx M_LW_law 9 576 (20 * k9 + 0) (300 * k9 + 0) 1952 [(6, .inl v12), (5, .inl v5), (0, .inr (.inr x0)), (1, .inr (.inr x1)), (2, .inr (.inr x2)), (3, .inr (.inr x3)), (4, .inl x4)] [.inl v12, .inr (.inl (q_L σ13 x3 (0 : Int32).toNatClampNeg))] σ13 R
          obtain ⟨s17, s18, hV⟩ := hV
          refine ⟨s17, s18, ?_⟩
          refine q_ifz (q_dc k_LW_law_29 29 rfl) rfl (fun h19 => ?_) (fun h19 => ?_)
          · have hV := hV.1 h19
            refine q_run k_LW_law_29 32 1 1960 rfl ?_
            show q_G l cx M_LW_law 9 576 (20 * k9 + 0) (300 * k9 + 0) 1960 [(6, .inl v12), (5, .inl v5), (0, .inr (.inr x0)), (1, .inr (.inr x1)), (2, .inr (.inr x2)), (3, .inr (.inr x3)), (4, .inl x4)] [.inr (.inl (0 : Int64)), .inr (.inl (q_L σ13 x3 (0 : Int32).toNatClampNeg))] σ13 R
            exact q_less (Nat.add_le_add_left (Nat.le_of_ble_eq_true rfl) _) (Nat.add_le_add_left (Nat.le_of_ble_eq_true rfl) _) (q_subk [2, 3, 4, 5, 6] rfl hV)
          · have hV := hV.2 h19
            refine q_run k_LW_law_29 30 1 1956 rfl ?_
            show q_G l cx M_LW_law 9 576 (20 * k9 + 0) (300 * k9 + 0) 1956 [(6, .inl v12), (5, .inl v5), (0, .inr (.inr x0)), (1, .inr (.inr x1)), (2, .inr (.inr x2)), (3, .inr (.inr x3)), (4, .inl x4)] [.inr (.inl (1 : Int64)), .inr (.inl (q_L σ13 x3 (0 : Int32).toNatClampNeg))] σ13 R
            refine q_goto (q_dc k_LW_law_29 31 rfl) rfl ?_
            exact q_less (Nat.add_le_add_left (Nat.le_of_ble_eq_true rfl) _) (Nat.add_le_add_left (Nat.le_of_ble_eq_true rfl) _) (q_subk [2, 3, 4, 5, 6] rfl hV)
      · have hV := hV.2 h15
        refine q_run k_LW_law_29 21 1 1941 rfl ?_
        show q_G l cx M_LW_law 9 576 (20 * k9 + 0) (300 * k9 + 0) 1941 [(6, .inl v12), (5, .inl v5), (0, .inr (.inr x0)), (1, .inr (.inr x1)), (2, .inr (.inr x2)), (3, .inr (.inr x3)), (4, .inl x4)] [.inl (0 : Int32)] σ13 R
        exact q_zreturn (q_dc k_LW_law_29 22 rfl) rfl (by decide) hV
set_option maxRecDepth 100000 in
theorem t_LW_law_1960 {l : Launch} {cx : q_C} {R : q_O → q_S → Prop} (hlf : l.flags = pinnedFlags ++ [noTraceFlag]) : V_LW_law_1960 R (fun (k9 : Nat) (x0 : Nat) (x1 : Nat) (x2 : Nat) (x3 : Nat) (x4 : Int32) (y0 : Int64) (y1 : Int64) (σ : q_S) => q_G l cx M_LW_law 9 576 (20 * k9 + 0) (300 * k9 + 0) 1960 [(0, .inr (.inr x0)), (1, .inr (.inr x1)), (2, .inr (.inr x2)), (3, .inr (.inr x3)), (4, .inl x4)] [.inr (.inl y0), .inr (.inl y1)] σ R) (fun (k9 : Nat) (x0 : Nat) (x1 : Nat) (x2 : Nat) (x3 : Nat) (x4 : Int32) (σ : q_S) => q_G l cx M_LW_law 9 576 (20 * k9 + 0) (300 * k9 + 0) 1966 [(0, .inr (.inr x0)), (1, .inr (.inr x1)), (2, .inr (.inr x2)), (3, .inr (.inr x3)), (4, .inl x4)] [] σ R) := by
      intro k9 x0 x1 x2 x3 x4 y0 y1 σ hV
      show q_G l cx M_LW_law 9 576 (20 * k9 + 0) (300 * k9 + 0) 1960 [(0, .inr (.inr x0)), (1, .inr (.inr x1)), (2, .inr (.inr x2)), (3, .inr (.inr x3)), (4, .inl x4)] [.inr (.inl y0), .inr (.inl y1)] σ R
      refine q_run k_LW_law_29 33 1 1961 rfl ?_
      show q_G l cx M_LW_law 9 576 (20 * k9 + 0) (300 * k9 + 0) 1961 [(0, .inr (.inr x0)), (1, .inr (.inr x1)), (2, .inr (.inr x2)), (3, .inr (.inr x3)), (4, .inl x4)] [.inl (lg_cmp y1 y0)] σ R
      refine q_ifz (q_dc k_LW_law_29 34 rfl) rfl (fun h1 => ?_) (fun h1 => ?_)
      · have hV := hV.1 h1
        exact q_less (Nat.add_le_add_left (Nat.le_of_ble_eq_true rfl) _) (Nat.add_le_add_left (Nat.le_of_ble_eq_true rfl) _) (q_subk [0, 1, 2, 3, 4] rfl hV)
      · have hV := hV.2 h1
        refine q_run k_LW_law_29 35 1 1965 rfl ?_
        show q_G l cx M_LW_law 9 576 (20 * k9 + 0) (300 * k9 + 0) 1965 [(0, .inr (.inr x0)), (1, .inr (.inr x1)), (2, .inr (.inr x2)), (3, .inr (.inr x3)), (4, .inl x4)] [.inl (0 : Int32)] σ R
        exact q_zreturn (q_dc k_LW_law_29 36 rfl) rfl (by decide) hV
set_option maxRecDepth 100000 in
theorem t_LW_law_1966 {l : Launch} {cx : q_C} {R : q_O → q_S → Prop} (hlf : l.flags = pinnedFlags ++ [noTraceFlag]) : V_LW_law_1966 R (fun (k9 : Nat) (x0 : Nat) (x1 : Nat) (x2 : Nat) (x3 : Nat) (x4 : Int32) (σ : q_S) => q_G l cx M_LW_law 9 576 (20 * k9 + 0) (300 * k9 + 0) 1966 [(0, .inr (.inr x0)), (1, .inr (.inr x1)), (2, .inr (.inr x2)), (3, .inr (.inr x3)), (4, .inl x4)] [] σ R) (fun (k9 : Nat) (x0 : Nat) (x1 : Nat) (x2 : Nat) (x3 : Nat) (x4 : Int32) (σ : q_S) => q_G l cx M_LW_law 9 576 (20 * k9 + 0) (300 * k9 + 0) 1969 [(0, .inr (.inr x0)), (1, .inr (.inr x1)), (2, .inr (.inr x2)), (3, .inr (.inr x3)), (4, .inl x4)] [] σ R) := by
      intro k9 x0 x1 x2 x3 x4 σ hV
      show q_G l cx M_LW_law 9 576 (20 * k9 + 0) (300 * k9 + 0) 1966 [(0, .inr (.inr x0)), (1, .inr (.inr x1)), (2, .inr (.inr x2)), (3, .inr (.inr x3)), (4, .inl x4)] [] σ R
      refine q_goto (q_dc k_LW_law_29 37 rfl) rfl ?_
      exact q_less (Nat.add_le_add_left (Nat.le_of_ble_eq_true rfl) _) (Nat.add_le_add_left (Nat.le_of_ble_eq_true rfl) _) (q_subk [0, 1, 2, 3, 4] rfl hV)
set_option maxRecDepth 100000 in
theorem t_LW_law_1969 {l : Launch} {cx : q_C} {R : q_O → q_S → Prop} (hlf : l.flags = pinnedFlags ++ [noTraceFlag]) : V_LW_law_1969 R (fun (k9 : Nat) (x0 : Nat) (x1 : Nat) (x2 : Nat) (x3 : Nat) (x4 : Int32) (σ : q_S) => q_G l cx M_LW_law 9 576 (20 * k9 + 0) (300 * k9 + 0) 33 [(0, .inr (.inr x0)), (1, .inr (.inr x1)), (2, .inr (.inr x2)), (3, .inr (.inr x3)), (4, .inl x4)] [] σ R) (fun (k9 : Nat) (x0 : Nat) (x1 : Nat) (x2 : Nat) (x3 : Nat) (x4 : Int32) (σ : q_S) => q_G l cx M_LW_law 9 576 (20 * k9 + 0) (300 * k9 + 0) 1969 [(0, .inr (.inr x0)), (1, .inr (.inr x1)), (2, .inr (.inr x2)), (3, .inr (.inr x3)), (4, .inl x4)] [] σ R) := by
      intro k9 x0 x1 x2 x3 x4 σ hV
      show q_G l cx M_LW_law 9 576 (20 * k9 + 0) (300 * k9 + 0) 1969 [(0, .inr (.inr x0)), (1, .inr (.inr x1)), (2, .inr (.inr x2)), (3, .inr (.inr x3)), (4, .inl x4)] [] σ R
      refine q_run k_LW_law_30 0 1 1972 rfl ?_
      show q_G l cx M_LW_law 9 576 (20 * k9 + 0) (300 * k9 + 0) 1972 [(4, .inl (x4 + (11 : Int32))), (0, .inr (.inr x0)), (1, .inr (.inr x1)), (2, .inr (.inr x2)), (3, .inr (.inr x3))] [] σ R
      refine q_let (fun v1 => q_G l cx M_LW_law 9 576 (20 * k9 + 0) (300 * k9 + 0) 1972 [(4, .inl v1), (0, .inr (.inr x0)), (1, .inr (.inr x1)), (2, .inr (.inr x2)), (3, .inr (.inr x3))] [] σ R) (x4 + (11 : Int32)) (fun v1 e_v1 => ?_)
      have hV := hV v1 e_v1
      refine q_goto (q_dc k_LW_law_30 1 rfl) rfl ?_
      exact q_less (Nat.add_le_add_left (Nat.le_of_ble_eq_true rfl) _) (Nat.add_le_add_left (Nat.le_of_ble_eq_true rfl) _) (q_subk [1, 2, 3, 4, 0] rfl hV)
set_option maxRecDepth 100000 in
theorem t_LW_law {l : Launch} {cx : q_C} {x0 : Nat} {σ : q_S} {R : q_O → q_S → Prop} (hlf : l.flags = pinnedFlags ++ [noTraceFlag]) (hV : V_LW_law x0 σ R) : q_G l cx M_LW_law 9 576 12042 181720 0 [(0, q_r x0)] [] σ R := by
  have hV := hV (fun (k9 : Nat) (x0 : Nat) (x1 : Nat) (x2 : Nat) (x3 : Nat) (x4 : Int32) (σ : q_S) => q_G l cx M_LW_law 9 576 (20 * k9 + 0) (300 * k9 + 0) 33 [(0, .inr (.inr x0)), (1, .inr (.inr x1)), (2, .inr (.inr x2)), (3, .inr (.inr x3)), (4, .inl x4)] [] σ R) (fun (k9 : Nat) (x0 : Nat) (x1 : Nat) (x2 : Nat) (x3 : Nat) (x4 : Int32) (σ : q_S) => q_G l cx M_LW_law 9 576 (20 * k9 + 13) (300 * k9 + 198) 128 [(0, .inr (.inr x0)), (1, .inr (.inr x1)), (2, .inr (.inr x2)), (3, .inr (.inr x3)), (4, .inl x4)] [] σ R) (fun (k9 : Nat) (x0 : Nat) (x1 : Nat) (x2 : Nat) (x3 : Nat) (x4 : Int32) (σ : q_S) => q_G l cx M_LW_law 9 576 (20 * k9 + 0) (300 * k9 + 0) 205 [(0, .inr (.inr x0)), (1, .inr (.inr x1)), (2, .inr (.inr x2)), (3, .inr (.inr x3)), (4, .inl x4)] [] σ R) (fun (k9 : Nat) (x0 : Nat) (x1 : Nat) (x2 : Nat) (x3 : Nat) (x4 : Int32) (σ : q_S) => q_G l cx M_LW_law 9 576 (20 * k9 + 2) (300 * k9 + 12) 208 [(0, .inr (.inr x0)), (1, .inr (.inr x1)), (2, .inr (.inr x2)), (3, .inr (.inr x3)), (4, .inl x4)] [] σ R) (fun (k9 : Nat) (x0 : Nat) (x1 : Nat) (x2 : Nat) (x3 : Nat) (x4 : Int32) (y0 : Int64) (y1 : Int64) (σ : q_S) => q_G l cx M_LW_law 9 576 (20 * k9 + 0) (300 * k9 + 0) 350 [(0, .inr (.inr x0)), (1, .inr (.inr x1)), (2, .inr (.inr x2)), (3, .inr (.inr x3)), (4, .inl x4)] [.inr (.inl y0), .inr (.inl y1)] σ R) (fun (k9 : Nat) (x0 : Nat) (x1 : Nat) (x2 : Nat) (x3 : Nat) (x4 : Int32) (σ : q_S) => q_G l cx M_LW_law 9 576 (20 * k9 + 0) (300 * k9 + 0) 356 [(0, .inr (.inr x0)), (1, .inr (.inr x1)), (2, .inr (.inr x2)), (3, .inr (.inr x3)), (4, .inl x4)] [] σ R) (fun (k9 : Nat) (x0 : Nat) (x1 : Nat) (x2 : Nat) (x3 : Nat) (x4 : Int32) (σ : q_S) => q_G l cx M_LW_law 9 576 (20 * k9 + 1) (300 * k9 + 6) 359 [(0, .inr (.inr x0)), (1, .inr (.inr x1)), (2, .inr (.inr x2)), (3, .inr (.inr x3)), (4, .inl x4)] [] σ R) (fun (k9 : Nat) (x0 : Nat) (x1 : Nat) (x2 : Nat) (x3 : Nat) (x4 : Int32) (y0 : Int64) (y1 : Int64) (σ : q_S) => q_G l cx M_LW_law 9 576 (20 * k9 + 0) (300 * k9 + 0) 413 [(0, .inr (.inr x0)), (1, .inr (.inr x1)), (2, .inr (.inr x2)), (3, .inr (.inr x3)), (4, .inl x4)] [.inr (.inl y0), .inr (.inl y1)] σ R) (fun (k9 : Nat) (x0 : Nat) (x1 : Nat) (x2 : Nat) (x3 : Nat) (x4 : Int32) (σ : q_S) => q_G l cx M_LW_law 9 576 (20 * k9 + 0) (300 * k9 + 0) 419 [(0, .inr (.inr x0)), (1, .inr (.inr x1)), (2, .inr (.inr x2)), (3, .inr (.inr x3)), (4, .inl x4)] [] σ R) (fun (k9 : Nat) (x0 : Nat) (x1 : Nat) (x2 : Nat) (x3 : Nat) (x4 : Int32) (σ : q_S) => q_G l cx M_LW_law 9 576 (20 * k9 + 5) (300 * k9 + 55) 422 [(0, .inr (.inr x0)), (1, .inr (.inr x1)), (2, .inr (.inr x2)), (3, .inr (.inr x3)), (4, .inl x4)] [] σ R) (fun (k9 : Nat) (x0 : Nat) (x1 : Nat) (x2 : Nat) (x3 : Nat) (x4 : Int32) (σ : q_S) => q_G l cx M_LW_law 9 576 (20 * k9 + 0) (300 * k9 + 0) 625 [(0, .inr (.inr x0)), (1, .inr (.inr x1)), (2, .inr (.inr x2)), (3, .inr (.inr x3)), (4, .inl x4)] [] σ R) (fun (k9 : Nat) (x0 : Nat) (x1 : Nat) (x2 : Nat) (x3 : Nat) (x4 : Int32) (σ : q_S) => q_G l cx M_LW_law 9 576 (20 * k9 + 1) (300 * k9 + 6) 628 [(0, .inr (.inr x0)), (1, .inr (.inr x1)), (2, .inr (.inr x2)), (3, .inr (.inr x3)), (4, .inl x4)] [] σ R) (fun (k9 : Nat) (x0 : Nat) (x1 : Nat) (x2 : Nat) (x3 : Nat) (x4 : Int32) (y0 : Int64) (y1 : Int64) (σ : q_S) => q_G l cx M_LW_law 9 576 (20 * k9 + 0) (300 * k9 + 0) 726 [(0, .inr (.inr x0)), (1, .inr (.inr x1)), (2, .inr (.inr x2)), (3, .inr (.inr x3)), (4, .inl x4)] [.inr (.inl y0), .inr (.inl y1)] σ R) (fun (k9 : Nat) (x0 : Nat) (x1 : Nat) (x2 : Nat) (x3 : Nat) (x4 : Int32) (σ : q_S) => q_G l cx M_LW_law 9 576 (20 * k9 + 0) (300 * k9 + 0) 732 [(0, .inr (.inr x0)), (1, .inr (.inr x1)), (2, .inr (.inr x2)), (3, .inr (.inr x3)), (4, .inl x4)] [] σ R) (fun (k9 : Nat) (x0 : Nat) (x1 : Nat) (x2 : Nat) (x3 : Nat) (x4 : Int32) (σ : q_S) => q_G l cx M_LW_law 9 576 (20 * k9 + 4) (300 * k9 + 50) 735 [(0, .inr (.inr x0)), (1, .inr (.inr x1)), (2, .inr (.inr x2)), (3, .inr (.inr x3)), (4, .inl x4)] [] σ R) (fun (k9 : Nat) (x0 : Nat) (x1 : Nat) (x2 : Nat) (x3 : Nat) (x4 : Int32) (σ : q_S) => q_G l cx M_LW_law 9 576 (20 * k9 + 0) (300 * k9 + 0) 986 [(0, .inr (.inr x0)), (1, .inr (.inr x1)), (2, .inr (.inr x2)), (3, .inr (.inr x3)), (4, .inl x4)] [] σ R) (fun (k9 : Nat) (x0 : Nat) (x1 : Nat) (x2 : Nat) (x3 : Nat) (x4 : Int32) (σ : q_S) => q_G l cx M_LW_law 9 576 (20 * k9 + 0) (300 * k9 + 0) 989 [(0, .inr (.inr x0)), (1, .inr (.inr x1)), (2, .inr (.inr x2)), (3, .inr (.inr x3)), (4, .inl x4)] [] σ R) (fun (k9 : Nat) (x0 : Nat) (x1 : Nat) (x2 : Nat) (x3 : Nat) (x4 : Int32) (σ : q_S) => q_G l cx M_LW_law 9 576 (20 * k9 + 2) (300 * k9 + 12) 1002 [(0, .inr (.inr x0)), (1, .inr (.inr x1)), (2, .inr (.inr x2)), (3, .inr (.inr x3)), (4, .inl x4)] [] σ R) (fun (k9 : Nat) (x0 : Nat) (x1 : Nat) (x2 : Nat) (x3 : Nat) (x4 : Int32) (σ : q_S) => q_G l cx M_LW_law 9 576 (20 * k9 + 0) (300 * k9 + 0) 1067 [(0, .inr (.inr x0)), (1, .inr (.inr x1)), (2, .inr (.inr x2)), (3, .inr (.inr x3)), (4, .inl x4)] [] σ R) (fun (k9 : Nat) (x0 : Nat) (x1 : Nat) (x2 : Nat) (x3 : Nat) (x4 : Int32) (σ : q_S) => q_G l cx M_LW_law 9 576 (20 * k9 + 2) (300 * k9 + 12) 1070 [(0, .inr (.inr x0)), (1, .inr (.inr x1)), (2, .inr (.inr x2)), (3, .inr (.inr x3)), (4, .inl x4)] [] σ R) (fun (k9 : Nat) (x0 : Nat) (x1 : Nat) (x2 : Nat) (x3 : Nat) (x4 : Int32) (σ : q_S) => q_G l cx M_LW_law 9 576 (20 * k9 + 0) (300 * k9 + 0) 1170 [(0, .inr (.inr x0)), (1, .inr (.inr x1)), (2, .inr (.inr x2)), (3, .inr (.inr x3)), (4, .inl x4)] [] σ R) (fun (k9 : Nat) (x0 : Nat) (x1 : Nat) (x2 : Nat) (x3 : Nat) (x4 : Int32) (σ : q_S) => q_G l cx M_LW_law 9 576 (20 * k9 + 1) (300 * k9 + 6) 1173 [(0, .inr (.inr x0)), (1, .inr (.inr x1)), (2, .inr (.inr x2)), (3, .inr (.inr x3)), (4, .inl x4)] [] σ R) (fun (k9 : Nat) (x0 : Nat) (x1 : Nat) (x2 : Nat) (x3 : Nat) (x4 : Int32) (y0 : Int64) (y1 : Int64) (σ : q_S) => q_G l cx M_LW_law 9 576 (20 * k9 + 0) (300 * k9 + 0) 1315 [(0, .inr (.inr x0)), (1, .inr (.inr x1)), (2, .inr (.inr x2)), (3, .inr (.inr x3)), (4, .inl x4)] [.inr (.inl y0), .inr (.inl y1)] σ R) (fun (k9 : Nat) (x0 : Nat) (x1 : Nat) (x2 : Nat) (x3 : Nat) (x4 : Int32) (σ : q_S) => q_G l cx M_LW_law 9 576 (20 * k9 + 0) (300 * k9 + 0) 1321 [(0, .inr (.inr x0)), (1, .inr (.inr x1)), (2, .inr (.inr x2)), (3, .inr (.inr x3)), (4, .inl x4)] [] σ R) (fun (k9 : Nat) (x0 : Nat) (x1 : Nat) (x2 : Nat) (x3 : Nat) (x4 : Int32) (σ : q_S) => q_G l cx M_LW_law 9 576 (20 * k9 + 1) (300 * k9 + 6) 1324 [(0, .inr (.inr x0)), (1, .inr (.inr x1)), (2, .inr (.inr x2)), (3, .inr (.inr x3)), (4, .inl x4)] [] σ R) (fun (k9 : Nat) (x0 : Nat) (x1 : Nat) (x2 : Nat) (x3 : Nat) (x4 : Int32) (σ : q_S) => q_G l cx M_LW_law 9 576 (20 * k9 + 0) (300 * k9 + 0) 1377 [(0, .inr (.inr x0)), (1, .inr (.inr x1)), (2, .inr (.inr x2)), (3, .inr (.inr x3)), (4, .inl x4)] [] σ R) (fun (k9 : Nat) (x0 : Nat) (x1 : Nat) (x2 : Nat) (x3 : Nat) (x4 : Int32) (σ : q_S) => q_G l cx M_LW_law 9 576 (20 * k9 + 1) (300 * k9 + 6) 1380 [(0, .inr (.inr x0)), (1, .inr (.inr x1)), (2, .inr (.inr x2)), (3, .inr (.inr x3)), (4, .inl x4)] [] σ R) (fun (k9 : Nat) (x0 : Nat) (x1 : Nat) (x2 : Nat) (x3 : Nat) (x4 : Int32) (σ : q_S) => q_G l cx M_LW_law 9 576 (20 * k9 + 0) (300 * k9 + 0) 1457 [(0, .inr (.inr x0)), (1, .inr (.inr x1)), (2, .inr (.inr x2)), (3, .inr (.inr x3)), (4, .inl x4)] [] σ R) (fun (k9 : Nat) (x0 : Nat) (x1 : Nat) (x2 : Nat) (x3 : Nat) (x4 : Int32) (σ : q_S) => q_G l cx M_LW_law 9 576 (20 * k9 + 2) (300 * k9 + 12) 1460 [(0, .inr (.inr x0)), (1, .inr (.inr x1)), (2, .inr (.inr x2)), (3, .inr (.inr x3)), (4, .inl x4)] [] σ R) (fun (k9 : Nat) (x0 : Nat) (x1 : Nat) (x2 : Nat) (x3 : Nat) (x4 : Int32) (σ : q_S) => q_G l cx M_LW_law 9 576 (20 * k9 + 0) (300 * k9 + 0) 1557 [(0, .inr (.inr x0)), (1, .inr (.inr x1)), (2, .inr (.inr x2)), (3, .inr (.inr x3)), (4, .inl x4)] [] σ R) (fun (k9 : Nat) (x0 : Nat) (x1 : Nat) (x2 : Nat) (x3 : Nat) (x4 : Int32) (σ : q_S) => q_G l cx M_LW_law 9 576 (20 * k9 + 2) (300 * k9 + 12) 1560 [(0, .inr (.inr x0)), (1, .inr (.inr x1)), (2, .inr (.inr x2)), (3, .inr (.inr x3)), (4, .inl x4)] [] σ R) (fun (k9 : Nat) (x0 : Nat) (x1 : Nat) (x2 : Nat) (x3 : Nat) (x4 : Int32) (y0 : Int64) (y1 : Int64) (σ : q_S) => q_G l cx M_LW_law 9 576 (20 * k9 + 0) (300 * k9 + 0) 1702 [(0, .inr (.inr x0)), (1, .inr (.inr x1)), (2, .inr (.inr x2)), (3, .inr (.inr x3)), (4, .inl x4)] [.inr (.inl y0), .inr (.inl y1)] σ R) (fun (k9 : Nat) (x0 : Nat) (x1 : Nat) (x2 : Nat) (x3 : Nat) (x4 : Int32) (σ : q_S) => q_G l cx M_LW_law 9 576 (20 * k9 + 0) (300 * k9 + 0) 1708 [(0, .inr (.inr x0)), (1, .inr (.inr x1)), (2, .inr (.inr x2)), (3, .inr (.inr x3)), (4, .inl x4)] [] σ R) (fun (k9 : Nat) (x0 : Nat) (x1 : Nat) (x2 : Nat) (x3 : Nat) (x4 : Int32) (σ : q_S) => q_G l cx M_LW_law 9 576 (20 * k9 + 0) (300 * k9 + 0) 1711 [(0, .inr (.inr x0)), (1, .inr (.inr x1)), (2, .inr (.inr x2)), (3, .inr (.inr x3)), (4, .inl x4)] [] σ R) (fun (k9 : Nat) (x0 : Nat) (x1 : Nat) (x2 : Nat) (x3 : Nat) (x4 : Int32) (σ : q_S) => q_G l cx M_LW_law 9 576 (20 * k9 + 1) (300 * k9 + 6) 1906 [(0, .inr (.inr x0)), (1, .inr (.inr x1)), (2, .inr (.inr x2)), (3, .inr (.inr x3)), (4, .inl x4)] [] σ R) (fun (k9 : Nat) (x0 : Nat) (x1 : Nat) (x2 : Nat) (x3 : Nat) (x4 : Int32) (y0 : Int64) (y1 : Int64) (σ : q_S) => q_G l cx M_LW_law 9 576 (20 * k9 + 0) (300 * k9 + 0) 1960 [(0, .inr (.inr x0)), (1, .inr (.inr x1)), (2, .inr (.inr x2)), (3, .inr (.inr x3)), (4, .inl x4)] [.inr (.inl y0), .inr (.inl y1)] σ R) (fun (k9 : Nat) (x0 : Nat) (x1 : Nat) (x2 : Nat) (x3 : Nat) (x4 : Int32) (σ : q_S) => q_G l cx M_LW_law 9 576 (20 * k9 + 0) (300 * k9 + 0) 1966 [(0, .inr (.inr x0)), (1, .inr (.inr x1)), (2, .inr (.inr x2)), (3, .inr (.inr x3)), (4, .inl x4)] [] σ R) (fun (k9 : Nat) (x0 : Nat) (x1 : Nat) (x2 : Nat) (x3 : Nat) (x4 : Int32) (σ : q_S) => q_G l cx M_LW_law 9 576 (20 * k9 + 0) (300 * k9 + 0) 1969 [(0, .inr (.inr x0)), (1, .inr (.inr x1)), (2, .inr (.inr x2)), (3, .inr (.inr x3)), (4, .inl x4)] [] σ R) (t_LW_law_33 hlf) (t_LW_law_128 hlf) (t_LW_law_205 hlf) (t_LW_law_208 hlf) (t_LW_law_350 hlf) (t_LW_law_356 hlf) (t_LW_law_359 hlf) (t_LW_law_413 hlf) (t_LW_law_419 hlf) (t_LW_law_422 hlf) (t_LW_law_625 hlf) (t_LW_law_628 hlf) (t_LW_law_726 hlf) (t_LW_law_732 hlf) (t_LW_law_735 hlf) (t_LW_law_986 hlf) (t_LW_law_989 hlf) (t_LW_law_1002 hlf) (t_LW_law_1067 hlf) (t_LW_law_1070 hlf) (t_LW_law_1170 hlf) (t_LW_law_1173 hlf) (t_LW_law_1315 hlf) (t_LW_law_1321 hlf) (t_LW_law_1324 hlf) (t_LW_law_1377 hlf) (t_LW_law_1380 hlf) (t_LW_law_1457 hlf) (t_LW_law_1460 hlf) (t_LW_law_1557 hlf) (t_LW_law_1560 hlf) (t_LW_law_1702 hlf) (t_LW_law_1708 hlf) (t_LW_law_1711 hlf) (t_LW_law_1906 hlf) (t_LW_law_1960 hlf) (t_LW_law_1966 hlf) (t_LW_law_1969 hlf)
  show q_G l cx M_LW_law 9 576 (20 * 600 + 42) (300 * 600 + 1720) 0 [(0, .inr (.inr x0))] [] σ R
  obtain ⟨s1, hV⟩ := hV
  refine q_less (kc' := (20 * 600 + 41) + 1) (ks' := (300 * 600 + 1711) + 9) (Nat.le_of_ble_eq_true rfl) (Nat.le_of_ble_eq_true rfl) ?_
  refine q_newo (ci := 0) (q_dc k_LW_law_0 0 rfl) rfl (List.mem_of_getElem? (i := 93) (by decide +kernel)) 9 (List.mem_of_getElem? (i := 94) (by decide +kernel)) (List.mem_of_getElem? (i := 66) (by decide +kernel)) s1 ?_
  refine q_let (fun v2 => q_G l cx M_LW_law 9 576 (20 * 600 + 41) (300 * 600 + 1711) 3 [(0, .inr (.inr x0))] [.inr (.inr v2)] (q_new σ 1 0) R) (q_n σ) (fun v2 e_v2 => ?_)
  have hV := hV v2 e_v2
  refine q_let (fun σ3 => q_G l cx M_LW_law 9 576 (20 * 600 + 41) (300 * 600 + 1711) 3 [(0, .inr (.inr x0))] [.inr (.inr v2)] σ3 R) (q_new σ 1 0) (fun σ3 e_σ3 => ?_)
  have hV := hV σ3 e_σ3
  refine q_run k_LW_law_0 1 3 6 rfl ?_
  show q_G l cx M_LW_law 9 576 (20 * 600 + 41) (300 * 600 + 1711) 6 [(0, .inr (.inr x0))] [.inl (0 : Int32), .inr (.inr x0), .inr (.inr v2), .inr (.inr v2)] σ3 R
  refine q_callS (st := [.inr (.inr v2), .inr (.inr v2)]) (t_LW_cell (l := l) (cx := cx)  hV) (q_dc k_LW_law_0 4 rfl) (Or.inl (List.mem_of_getElem? (i := 289) (by decide +kernel))) w_LW_cell s_LW_cell a_LW_cell (q_wt (Nat.le_of_ble_eq_true rfl)) ⟨Nat.le_of_ble_eq_true rfl, Nat.le_of_ble_eq_true rfl⟩ (fun v9 τ9 q9 => ?_) (fun n9 τ9 q9 => q_T.leave rfl q9)
  obtain ⟨v6, rfl, hV⟩ := q_ci_elim q9
  clear q9
  have hV := hV
  revert hV
  generalize τ9 = σ7
  intro hV
  show q_G l cx M_LW_law 9 576 (20 * 600 + 41) (300 * 600 + 1711) 9 [(0, .inr (.inr x0))] [.inl v6, .inr (.inr v2), .inr (.inr v2)] σ7 R
  obtain ⟨s8, hV⟩ := hV
  refine q_less (kc' := (20 * 600 + 29) + 12) (ks' := (300 * 600 + 1565) + 146) (Nat.le_of_ble_eq_true rfl) (Nat.le_of_ble_eq_true rfl) ?_
  refine q_callI (st := [.inr (.inr v2)]) (as := [.inl v6]) (t_PF_init (l := l) (cx := cx)  hV) (q_dc k_LW_law_0 5 rfl) (Or.inl (List.mem_of_getElem? (i := 95) (by decide +kernel))) w_PF_init c_PF_init n_PF_init rfl a_PF_init (q_wt (Nat.le_of_ble_eq_true rfl)) ⟨Nat.le_of_ble_eq_true rfl, Nat.le_of_ble_eq_true rfl⟩ s8 (fun v9 τ9 q9 => ?_) (fun n9 τ9 q9 => q_T.leave rfl q9)
  obtain ⟨rfl, hV⟩ := q_cv_elim q9
  clear q9
  have hV := hV
  revert hV
  generalize τ9 = σ12
  intro hV
  show q_G l cx M_LW_law 9 576 (20 * 600 + 29) (300 * 600 + 1565) 12 [(0, .inr (.inr x0))] [.inr (.inr v2)] σ12 R
  refine q_run k_LW_law_0 6 1 13 rfl ?_
  show q_G l cx M_LW_law 9 576 (20 * 600 + 29) (300 * 600 + 1565) 13 [(1, .inr (.inr v2)), (0, .inr (.inr x0))] [] σ12 R
  obtain ⟨s13, hV⟩ := hV
  refine q_less (kc' := (20 * 600 + 28) + 1) (ks' := (300 * 600 + 1533) + 32) (Nat.le_of_ble_eq_true rfl) (Nat.le_of_ble_eq_true rfl) ?_
  refine q_newo (ci := 6) (q_dc k_LW_law_0 7 rfl) rfl (List.mem_of_getElem? (i := 863) (by decide +kernel)) 32 (List.mem_of_getElem? (i := 864) (by decide +kernel)) (List.mem_of_getElem? (i := 72) (by decide +kernel)) s13 ?_
  refine q_let (fun v14 => q_G l cx M_LW_law 9 576 (20 * 600 + 28) (300 * 600 + 1533) 16 [(1, .inr (.inr v2)), (0, .inr (.inr x0))] [.inr (.inr v14)] (q_new σ12 7 0) R) (q_n σ12) (fun v14 e_v14 => ?_)
  have hV := hV v14 e_v14
  refine q_let (fun σ15 => q_G l cx M_LW_law 9 576 (20 * 600 + 28) (300 * 600 + 1533) 16 [(1, .inr (.inr v2)), (0, .inr (.inr x0))] [.inr (.inr v14)] σ15 R) (q_new σ12 7 0) (fun σ15 e_σ15 => ?_)
  have hV := hV σ15 e_σ15
  refine q_run k_LW_law_0 8 3 19 rfl ?_
  show q_G l cx M_LW_law 9 576 (20 * 600 + 28) (300 * 600 + 1533) 19 [(1, .inr (.inr v2)), (0, .inr (.inr x0))] [.inl (0 : Int32), .inr (.inr x0), .inr (.inr v14), .inr (.inr v14)] σ15 R
  refine q_callS (st := [.inr (.inr v14), .inr (.inr v14)]) (t_LW_cell (l := l) (cx := cx)  hV) (q_dc k_LW_law_0 11 rfl) (Or.inl (List.mem_of_getElem? (i := 289) (by decide +kernel))) w_LW_cell s_LW_cell a_LW_cell (q_wt (Nat.le_of_ble_eq_true rfl)) ⟨Nat.le_of_ble_eq_true rfl, Nat.le_of_ble_eq_true rfl⟩ (fun v9 τ9 q9 => ?_) (fun n9 τ9 q9 => q_T.leave rfl q9)
  obtain ⟨v18, rfl, hV⟩ := q_ci_elim q9
  clear q9
  have hV := hV
  revert hV
  generalize τ9 = σ19
  intro hV
  show q_G l cx M_LW_law 9 576 (20 * 600 + 28) (300 * 600 + 1533) 22 [(1, .inr (.inr v2)), (0, .inr (.inr x0))] [.inl v18, .inr (.inr v14), .inr (.inr v14)] σ19 R
  obtain ⟨s20, hV⟩ := hV
  refine q_less (kc' := (20 * 600 + 1) + 27) (ks' := (300 * 600 + 1) + 1532) (Nat.le_of_ble_eq_true rfl) (Nat.le_of_ble_eq_true rfl) ?_
  refine q_callI (st := [.inr (.inr v14)]) (as := [.inl v18]) (t_PM_init (l := l) (cx := cx)  hV) (q_dc k_LW_law_0 12 rfl) (Or.inl (List.mem_of_getElem? (i := 865) (by decide +kernel))) w_PM_init c_PM_init n_PM_init rfl a_PM_init (q_wt (Nat.le_of_ble_eq_true rfl)) ⟨Nat.le_of_ble_eq_true rfl, Nat.le_of_ble_eq_true rfl⟩ s20 (fun v9 τ9 q9 => ?_) (fun n9 τ9 q9 => q_T.leave rfl q9)
  obtain ⟨rfl, hV⟩ := q_cv_elim q9
  clear q9
  have hV := hV
  revert hV
  generalize τ9 = σ24
  intro hV
  show q_G l cx M_LW_law 9 576 (20 * 600 + 1) (300 * 600 + 1) 25 [(1, .inr (.inr v2)), (0, .inr (.inr x0))] [.inr (.inr v14)] σ24 R
  refine q_run k_LW_law_0 13 2 27 rfl ?_
  show q_G l cx M_LW_law 9 576 (20 * 600 + 1) (300 * 600 + 1) 27 [(2, .inr (.inr v14)), (1, .inr (.inr v2)), (0, .inr (.inr x0))] [.inl (1 : Int32)] σ24 R
  obtain ⟨s25, hV⟩ := hV
  refine q_less (kc' := (20 * 600 + 0) + 1) (ks' := (300 * 600 + 0) + 1) (Nat.le_of_ble_eq_true rfl) (Nat.le_of_ble_eq_true rfl) ?_
  refine q_newa (t := 1) (N := 1) (q_dc k_LW_law_0 15 rfl) rfl (by decide) (fun _ _ h => h) (List.mem_of_getElem? (i := 934) (by decide +kernel)) (fun j9 => q_fv_new rfl) (by decide) ⟨by decide, by decide⟩ s25 ?_
  refine q_let (fun v26 => q_G l cx M_LW_law 9 576 (20 * 600 + 0) (300 * 600 + 0) 29 [(2, .inr (.inr v14)), (1, .inr (.inr v2)), (0, .inr (.inr x0))] [.inr (.inr v26)] (q_new σ24 1001 1) R) (q_n σ24) (fun v26 e_v26 => ?_)
  have hV := hV v26 e_v26
  refine q_let (fun σ27 => q_G l cx M_LW_law 9 576 (20 * 600 + 0) (300 * 600 + 0) 29 [(2, .inr (.inr v14)), (1, .inr (.inr v2)), (0, .inr (.inr x0))] [.inr (.inr v26)] σ27 R) (q_new σ24 1001 1) (fun σ27 e_σ27 => ?_)
  have hV := hV σ27 e_σ27
  refine q_run k_LW_law_0 16 3 33 rfl ?_
  show q_G l cx M_LW_law 9 576 (20 * 600 + 0) (300 * 600 + 0) 33 [(4, .inl (1 : Int32)), (3, .inr (.inr v26)), (2, .inr (.inr v14)), (1, .inr (.inr v2)), (0, .inr (.inr x0))] [] σ27 R
  exact q_less (Nat.le_of_ble_eq_true rfl) (Nat.le_of_ble_eq_true rfl) (q_subk [4, 3, 2, 1, 0] rfl hV)
