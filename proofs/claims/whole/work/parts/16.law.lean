/-! the law: names, instructions (by program) -/
def M_LW_cell : q_M := (⟨"PlaneFillsLaw", "cell", "([II)I"⟩, method_2_code, 2, (Option.some FieldType.int), [])
def I_LW_cell : List q_J := [(0, .iload_n 1, 1, (0, 0, 0, 0), 0, 0),
  (1, .aload_n 0, 1, (0, 0, 0, 0), 0, 0),
  (2, .arraylength, 1, (0, 0, 0, 0), 0, 0),
  (3, .if_icmp .ge 9, 3, (0, 0, 0, 999999), 0, 0),
  (6, .aload_n 0, 1, (0, 0, 0, 0), 0, 0),
  (7, .iload_n 1, 1, (0, 0, 0, 0), 0, 0),
  (8, .iaload, 1, (0, 0, 0, 0), 0, 0),
  (9, .goto 4, 3, (0, 0, 0, 999999), 0, 0),
  (12, .iconst 0, 1, (0, 0, 0, 0), 0, 0),
  (13, .ireturn, 1, (0, 0, 0, 999999), 0, 0)]
set_option maxRecDepth 100000 in
theorem k_LW_cell : I_LW_cell.all (q_okb M_LW_cell) = true := by decide +kernel
theorem c_LW_cell : Cond.code M_LW_cell.1 M_LW_cell.2.1 M_LW_cell.2.2.1 M_LW_cell.2.2.2.1 ∈ q_ws := List.mem_of_getElem? (i := 291) (by decide +kernel)
theorem w_LW_cell : q_cw M_LW_cell := ⟨Or.inl c_LW_cell, List.mem_of_getElem? (i := 65) (by decide +kernel), by decide +kernel⟩
theorem s_LW_cell : Cond.static M_LW_cell.1 ∈ q_ws := List.mem_of_getElem? (i := 290) (by decide +kernel)
theorem p_LW_cell : plainFor M_LW_cell.1 = true := by decide +kernel
theorem a_LW_cell : (parseMethodDescriptor M_LW_cell.1.desc).map (fun d => d.parameters.length) = some 2 := by decide +kernel
def M_LW_plane : q_M := (⟨"PlaneFillsLaw", "plane", "(LPlaneFills;III[J)I"⟩, method_3_code, 6, (Option.some FieldType.int), [(0, 12, 15, 13), (0, 12, 19, 15)])
def I_LW_plane : List q_J := [(0, .aload 4, 2, (0, 0, 0, 0), 0, 0),
  (2, .iconst 0, 1, (0, 0, 0, 0), 0, 0),
  (3, .aload_n 0, 1, (0, 0, 0, 0), 0, 0),
  (4, .iload_n 1, 1, (0, 0, 0, 0), 0, 0),
  (5, .iload_n 2, 1, (0, 0, 0, 0), 0, 0),
  (6, .iload_n 3, 1, (0, 0, 0, 0), 0, 0),
  (7, .invokevirtual 7, 3, (0, 0, 0, 999999), 0, 0),
  (10, .i2l, 1, (0, 0, 0, 0), 0, 0),
  (11, .lastore, 1, (0, 0, 0, 0), 0, 0),
  (12, .goto 11, 3, (0, 0, 0, 999999), 0, 0),
  (15, .astore 5, 2, (0, 0, 0, 0), 0, 0),
  (17, .iconst 1, 1, (0, 0, 0, 0), 1, 0),
  (18, .ireturn, 1, (0, 0, 0, 999999), 0, 0),
  (19, .astore 5, 2, (0, 0, 0, 0), 0, 0),
  (21, .iconst 2, 1, (0, 0, 0, 0), 2, 0),
  (22, .ireturn, 1, (0, 0, 0, 999999), 0, 0),
  (23, .iconst 0, 1, (0, 0, 0, 0), 0, 0),
  (24, .ireturn, 1, (0, 0, 0, 999999), 0, 0)]
set_option maxRecDepth 100000 in
theorem k_LW_plane : I_LW_plane.all (q_okb M_LW_plane) = true := by decide +kernel
theorem c_LW_plane : Cond.codeWith M_LW_plane.1 M_LW_plane.2.1 M_LW_plane.2.2.1 M_LW_plane.2.2.2.1 M_LW_plane.2.2.2.2 ∈ q_ws := List.mem_of_getElem? (i := 294) (by decide +kernel)
theorem w_LW_plane : q_cw M_LW_plane := ⟨Or.inr c_LW_plane, List.mem_of_getElem? (i := 65) (by decide +kernel), by decide +kernel⟩
theorem s_LW_plane : Cond.static M_LW_plane.1 ∈ q_ws := List.mem_of_getElem? (i := 293) (by decide +kernel)
theorem p_LW_plane : plainFor M_LW_plane.1 = true := by decide +kernel
theorem a_LW_plane : (parseMethodDescriptor M_LW_plane.1.desc).map (fun d => d.parameters.length) = some 5 := by decide +kernel
def M_LW_corner : q_M := (⟨"PlaneFillsLaw", "corne\x72", "(LPlaneFills;IJJ[J)I"⟩, method_4_code, 8, (Option.some FieldType.int), [(0, 20, 23, 13), (0, 20, 27, 15)])
def I_LW_corner : List q_J := [(0, .aload 6, 2, (0, 0, 0, 0), 0, 0),
  (2, .iconst 0, 1, (0, 0, 0, 0), 0, 0),
  (3, .aload_n 0, 1, (0, 0, 0, 0), 0, 0),
  (4, .iload_n 1, 1, (0, 0, 0, 0), 0, 0),
  (5, .lload_n 2, 1, (0, 0, 0, 0), 0, 0),
  (6, .lload 4, 2, (0, 0, 0, 0), 0, 0),
  (8, .invokevirtual 17, 3, (0, 0, 0, 999999), 0, 0),
  (11, .ifCond .eq 7, 3, (0, 0, 0, 999999), 0, 0),
  (14, .lconst 1, 1, (0, 0, 0, 0), 0, 1),
  (15, .goto 4, 3, (0, 0, 0, 999999), 0, 0),
  (18, .lconst 0, 1, (0, 0, 0, 0), 0, 0),
  (19, .lastore, 1, (0, 0, 0, 0), 0, 0),
  (20, .goto 11, 3, (0, 0, 0, 999999), 0, 0),
  (23, .astore 7, 2, (0, 0, 0, 0), 0, 0),
  (25, .iconst 1, 1, (0, 0, 0, 0), 1, 0),
  (26, .ireturn, 1, (0, 0, 0, 999999), 0, 0),
  (27, .astore 7, 2, (0, 0, 0, 0), 0, 0),
  (29, .iconst 2, 1, (0, 0, 0, 0), 2, 0),
  (30, .ireturn, 1, (0, 0, 0, 999999), 0, 0),
  (31, .iconst 0, 1, (0, 0, 0, 0), 0, 0),
  (32, .ireturn, 1, (0, 0, 0, 999999), 0, 0)]
set_option maxRecDepth 100000 in
theorem k_LW_corner : I_LW_corner.all (q_okb M_LW_corner) = true := by decide +kernel
theorem c_LW_corner : Cond.codeWith M_LW_corner.1 M_LW_corner.2.1 M_LW_corner.2.2.1 M_LW_corner.2.2.2.1 M_LW_corner.2.2.2.2 ∈ q_ws := List.mem_of_getElem? (i := 681) (by decide +kernel)
theorem w_LW_corner : q_cw M_LW_corner := ⟨Or.inr c_LW_corner, List.mem_of_getElem? (i := 65) (by decide +kernel), by decide +kernel⟩
theorem s_LW_corner : Cond.static M_LW_corner.1 ∈ q_ws := List.mem_of_getElem? (i := 680) (by decide +kernel)
theorem p_LW_corner : plainFor M_LW_corner.1 = true := by decide +kernel
theorem a_LW_corner : (parseMethodDescriptor M_LW_corner.1.desc).map (fun d => d.parameters.length) = some 5 := by decide +kernel
def M_LW_ring : q_M := (⟨"PlaneFillsLaw", "ring", "(LPlaneFills;I[J)I"⟩, method_5_code, 4, (Option.some FieldType.int), [(0, 16, 19, 13)])
def I_LW_ring : List q_J := [(0, .aload_n 2, 1, (0, 0, 0, 0), 0, 0),
  (1, .iconst 0, 1, (0, 0, 0, 0), 0, 0),
  (2, .aload_n 0, 1, (0, 0, 0, 0), 0, 0),
  (3, .iload_n 1, 1, (0, 0, 0, 0), 0, 0),
  (4, .invokevirtual 21, 3, (0, 0, 0, 999999), 0, 0),
  (7, .ifCond .eq 7, 3, (0, 0, 0, 999999), 0, 0),
  (10, .lconst 1, 1, (0, 0, 0, 0), 0, 1),
  (11, .goto 4, 3, (0, 0, 0, 999999), 0, 0),
  (14, .lconst 0, 1, (0, 0, 0, 0), 0, 0),
  (15, .lastore, 1, (0, 0, 0, 0), 0, 0),
  (16, .goto 6, 3, (0, 0, 0, 999999), 0, 0),
  (19, .astore_n 3, 1, (0, 0, 0, 0), 0, 0),
  (20, .iconst 1, 1, (0, 0, 0, 0), 1, 0),
  (21, .ireturn, 1, (0, 0, 0, 999999), 0, 0),
  (22, .iconst 0, 1, (0, 0, 0, 0), 0, 0),
  (23, .ireturn, 1, (0, 0, 0, 999999), 0, 0)]
set_option maxRecDepth 100000 in
theorem k_LW_ring : I_LW_ring.all (q_okb M_LW_ring) = true := by decide +kernel
theorem c_LW_ring : Cond.codeWith M_LW_ring.1 M_LW_ring.2.1 M_LW_ring.2.2.1 M_LW_ring.2.2.2.1 M_LW_ring.2.2.2.2 ∈ q_ws := List.mem_of_getElem? (i := 697) (by decide +kernel)
theorem w_LW_ring : q_cw M_LW_ring := ⟨Or.inr c_LW_ring, List.mem_of_getElem? (i := 65) (by decide +kernel), by decide +kernel⟩
theorem s_LW_ring : Cond.static M_LW_ring.1 ∈ q_ws := List.mem_of_getElem? (i := 696) (by decide +kernel)
theorem p_LW_ring : plainFor M_LW_ring.1 = true := by decide +kernel
theorem a_LW_ring : (parseMethodDescriptor M_LW_ring.1.desc).map (fun d => d.parameters.length) = some 3 := by decide +kernel
def M_LW_obstacle : q_M := (⟨"PlaneFillsLaw", "obstacle", "(LPlaneFills;IIJJJ[J)I"⟩, method_6_code, 11, (Option.some FieldType.int), [(0, 16, 19, 13), (0, 16, 23, 15)])
def I_LW_obstacle : List q_J := [(0, .aload 9, 2, (0, 0, 0, 0), 0, 0),
  (2, .iconst 0, 1, (0, 0, 0, 0), 0, 0),
  (3, .aload_n 0, 1, (0, 0, 0, 0), 0, 0),
  (4, .iload_n 1, 1, (0, 0, 0, 0), 0, 0),
  (5, .iload_n 2, 1, (0, 0, 0, 0), 0, 0),
  (6, .lload_n 3, 1, (0, 0, 0, 0), 0, 0),
  (7, .lload 5, 2, (0, 0, 0, 0), 0, 0),
  (9, .lload 7, 2, (0, 0, 0, 0), 0, 0),
  (11, .invokevirtual 25, 3, (0, 0, 0, 999999), 0, 0),
  (14, .i2l, 1, (0, 0, 0, 0), 0, 0),
  (15, .lastore, 1, (0, 0, 0, 0), 0, 0),
  (16, .goto 11, 3, (0, 0, 0, 999999), 0, 0),
  (19, .astore 10, 2, (0, 0, 0, 0), 0, 0),
  (21, .iconst 1, 1, (0, 0, 0, 0), 1, 0),
  (22, .ireturn, 1, (0, 0, 0, 999999), 0, 0),
  (23, .astore 10, 2, (0, 0, 0, 0), 0, 0),
  (25, .iconst 2, 1, (0, 0, 0, 0), 2, 0),
  (26, .ireturn, 1, (0, 0, 0, 999999), 0, 0),
  (27, .iconst 0, 1, (0, 0, 0, 0), 0, 0),
  (28, .ireturn, 1, (0, 0, 0, 999999), 0, 0)]
set_option maxRecDepth 100000 in
theorem k_LW_obstacle : I_LW_obstacle.all (q_okb M_LW_obstacle) = true := by decide +kernel
theorem c_LW_obstacle : Cond.codeWith M_LW_obstacle.1 M_LW_obstacle.2.1 M_LW_obstacle.2.2.1 M_LW_obstacle.2.2.2.1 M_LW_obstacle.2.2.2.2 ∈ q_ws := List.mem_of_getElem? (i := 712) (by decide +kernel)
theorem w_LW_obstacle : q_cw M_LW_obstacle := ⟨Or.inr c_LW_obstacle, List.mem_of_getElem? (i := 65) (by decide +kernel), by decide +kernel⟩
theorem s_LW_obstacle : Cond.static M_LW_obstacle.1 ∈ q_ws := List.mem_of_getElem? (i := 711) (by decide +kernel)
theorem p_LW_obstacle : plainFor M_LW_obstacle.1 = true := by decide +kernel
theorem a_LW_obstacle : (parseMethodDescriptor M_LW_obstacle.1.desc).map (fun d => d.parameters.length) = some 7 := by decide +kernel
def M_LW_rule : q_M := (⟨"PlaneFillsLaw", "rule", "(LPlaneFills;IJ[J)I"⟩, method_7_code, 6, (Option.some FieldType.int), [(0, 18, 21, 13), (0, 18, 25, 15)])
def I_LW_rule : List q_J := [(0, .aload 4, 2, (0, 0, 0, 0), 0, 0),
  (2, .iconst 0, 1, (0, 0, 0, 0), 0, 0),
  (3, .aload_n 0, 1, (0, 0, 0, 0), 0, 0),
  (4, .iload_n 1, 1, (0, 0, 0, 0), 0, 0),
  (5, .lload_n 2, 1, (0, 0, 0, 0), 0, 0),
  (6, .invokevirtual 29, 3, (0, 0, 0, 999999), 0, 0),
  (9, .ifCond .eq 7, 3, (0, 0, 0, 999999), 0, 0),
  (12, .lconst 1, 1, (0, 0, 0, 0), 0, 1),
  (13, .goto 4, 3, (0, 0, 0, 999999), 0, 0),
  (16, .lconst 0, 1, (0, 0, 0, 0), 0, 0),
  (17, .lastore, 1, (0, 0, 0, 0), 0, 0),
  (18, .goto 11, 3, (0, 0, 0, 999999), 0, 0),
  (21, .astore 5, 2, (0, 0, 0, 0), 0, 0),
  (23, .iconst 1, 1, (0, 0, 0, 0), 1, 0),
  (24, .ireturn, 1, (0, 0, 0, 999999), 0, 0),
  (25, .astore 5, 2, (0, 0, 0, 0), 0, 0),
  (27, .iconst 2, 1, (0, 0, 0, 0), 2, 0),
  (28, .ireturn, 1, (0, 0, 0, 999999), 0, 0),
  (29, .iconst 0, 1, (0, 0, 0, 0), 0, 0),
  (30, .ireturn, 1, (0, 0, 0, 999999), 0, 0)]
set_option maxRecDepth 100000 in
theorem k_LW_rule : I_LW_rule.all (q_okb M_LW_rule) = true := by decide +kernel
theorem c_LW_rule : Cond.codeWith M_LW_rule.1 M_LW_rule.2.1 M_LW_rule.2.2.1 M_LW_rule.2.2.2.1 M_LW_rule.2.2.2.2 ∈ q_ws := List.mem_of_getElem? (i := 734) (by decide +kernel)
theorem w_LW_rule : q_cw M_LW_rule := ⟨Or.inr c_LW_rule, List.mem_of_getElem? (i := 65) (by decide +kernel), by decide +kernel⟩
theorem s_LW_rule : Cond.static M_LW_rule.1 ∈ q_ws := List.mem_of_getElem? (i := 733) (by decide +kernel)
theorem p_LW_rule : plainFor M_LW_rule.1 = true := by decide +kernel
theorem a_LW_rule : (parseMethodDescriptor M_LW_rule.1.desc).map (fun d => d.parameters.length) = some 4 := by decide +kernel
def M_LW_pad : q_M := (⟨"PlaneFillsLaw", "pad", "(LPlaneFills;IIJJJJ[J)I"⟩, method_8_code, 13, (Option.some FieldType.int), [(0, 18, 21, 13), (0, 18, 25, 15)])
def I_LW_pad : List q_J := [(0, .aload 11, 2, (0, 0, 0, 0), 0, 0),
  (2, .iconst 0, 1, (0, 0, 0, 0), 0, 0),
  (3, .aload_n 0, 1, (0, 0, 0, 0), 0, 0),
  (4, .iload_n 1, 1, (0, 0, 0, 0), 0, 0),
  (5, .iload_n 2, 1, (0, 0, 0, 0), 0, 0),
  (6, .lload_n 3, 1, (0, 0, 0, 0), 0, 0),
  (7, .lload 5, 2, (0, 0, 0, 0), 0, 0),
  (9, .lload 7, 2, (0, 0, 0, 0), 0, 0),
  (11, .lload 9, 2, (0, 0, 0, 0), 0, 0),
  (13, .invokevirtual 33, 3, (0, 0, 0, 999999), 0, 0),
  (16, .i2l, 1, (0, 0, 0, 0), 0, 0),
  (17, .lastore, 1, (0, 0, 0, 0), 0, 0),
  (18, .goto 11, 3, (0, 0, 0, 999999), 0, 0),
  (21, .astore 12, 2, (0, 0, 0, 0), 0, 0),
  (23, .iconst 1, 1, (0, 0, 0, 0), 1, 0),
  (24, .ireturn, 1, (0, 0, 0, 999999), 0, 0),
  (25, .astore 12, 2, (0, 0, 0, 0), 0, 0),
  (27, .iconst 2, 1, (0, 0, 0, 0), 2, 0),
  (28, .ireturn, 1, (0, 0, 0, 999999), 0, 0),
  (29, .iconst 0, 1, (0, 0, 0, 0), 0, 0),
  (30, .ireturn, 1, (0, 0, 0, 999999), 0, 0)]
set_option maxRecDepth 100000 in
theorem k_LW_pad : I_LW_pad.all (q_okb M_LW_pad) = true := by decide +kernel
theorem c_LW_pad : Cond.codeWith M_LW_pad.1 M_LW_pad.2.1 M_LW_pad.2.2.1 M_LW_pad.2.2.2.1 M_LW_pad.2.2.2.2 ∈ q_ws := List.mem_of_getElem? (i := 743) (by decide +kernel)
theorem w_LW_pad : q_cw M_LW_pad := ⟨Or.inr c_LW_pad, List.mem_of_getElem? (i := 65) (by decide +kernel), by decide +kernel⟩
theorem s_LW_pad : Cond.static M_LW_pad.1 ∈ q_ws := List.mem_of_getElem? (i := 742) (by decide +kernel)
theorem p_LW_pad : plainFor M_LW_pad.1 = true := by decide +kernel
theorem a_LW_pad : (parseMethodDescriptor M_LW_pad.1.desc).map (fun d => d.parameters.length) = some 8 := by decide +kernel
def M_LW_rings : q_M := (⟨"PlaneFillsLaw", "rings", "(LPlaneFills;II[J)I"⟩, method_9_code, 5, (Option.some FieldType.int), [(0, 10, 13, 13)])
def I_LW_rings : List q_J := [(0, .aload_n 3, 1, (0, 0, 0, 0), 0, 0),
  (1, .iconst 0, 1, (0, 0, 0, 0), 0, 0),
  (2, .aload_n 0, 1, (0, 0, 0, 0), 0, 0),
  (3, .iload_n 1, 1, (0, 0, 0, 0), 0, 0),
  (4, .iload_n 2, 1, (0, 0, 0, 0), 0, 0),
  (5, .invokevirtual 37, 3, (0, 0, 0, 999999), 0, 0),
  (8, .i2l, 1, (0, 0, 0, 0), 0, 0),
  (9, .lastore, 1, (0, 0, 0, 0), 0, 0),
  (10, .goto 7, 3, (0, 0, 0, 999999), 0, 0),
  (13, .astore 4, 2, (0, 0, 0, 0), 0, 0),
  (15, .iconst 1, 1, (0, 0, 0, 0), 1, 0),
  (16, .ireturn, 1, (0, 0, 0, 999999), 0, 0),
  (17, .iconst 0, 1, (0, 0, 0, 0), 0, 0),
  (18, .ireturn, 1, (0, 0, 0, 999999), 0, 0)]
set_option maxRecDepth 100000 in
theorem k_LW_rings : I_LW_rings.all (q_okb M_LW_rings) = true := by decide +kernel
theorem c_LW_rings : Cond.codeWith M_LW_rings.1 M_LW_rings.2.1 M_LW_rings.2.2.1 M_LW_rings.2.2.2.1 M_LW_rings.2.2.2.2 ∈ q_ws := List.mem_of_getElem? (i := 769) (by decide +kernel)
theorem w_LW_rings : q_cw M_LW_rings := ⟨Or.inr c_LW_rings, List.mem_of_getElem? (i := 65) (by decide +kernel), by decide +kernel⟩
theorem s_LW_rings : Cond.static M_LW_rings.1 ∈ q_ws := List.mem_of_getElem? (i := 768) (by decide +kernel)
theorem p_LW_rings : plainFor M_LW_rings.1 = true := by decide +kernel
theorem a_LW_rings : (parseMethodDescriptor M_LW_rings.1.desc).map (fun d => d.parameters.length) = some 4 := by decide +kernel
def M_LW_at : q_M := (⟨"PlaneFillsLaw", "at", "(LPlaneFills;IIIII[J)I"⟩, method_10_code, 8, (Option.some FieldType.int), [(0, 15, 18, 13)])
def I_LW_at : List q_J := [(0, .aload 6, 2, (0, 0, 0, 0), 0, 0),
  (2, .iconst 0, 1, (0, 0, 0, 0), 0, 0),
  (3, .aload_n 0, 1, (0, 0, 0, 0), 0, 0),
  (4, .iload_n 1, 1, (0, 0, 0, 0), 0, 0),
  (5, .iload_n 2, 1, (0, 0, 0, 0), 0, 0),
  (6, .iload_n 3, 1, (0, 0, 0, 0), 0, 0),
  (7, .iload 4, 2, (0, 0, 0, 0), 0, 0),
  (9, .iload 5, 2, (0, 0, 0, 0), 0, 0),
  (11, .invokevirtual 41, 3, (0, 0, 0, 999999), 0, 0),
  (14, .lastore, 1, (0, 0, 0, 0), 0, 0),
  (15, .goto 7, 3, (0, 0, 0, 999999), 0, 0),
  (18, .astore 7, 2, (0, 0, 0, 0), 0, 0),
  (20, .iconst 1, 1, (0, 0, 0, 0), 1, 0),
  (21, .ireturn, 1, (0, 0, 0, 999999), 0, 0),
  (22, .iconst 0, 1, (0, 0, 0, 0), 0, 0),
  (23, .ireturn, 1, (0, 0, 0, 999999), 0, 0)]
set_option maxRecDepth 100000 in
theorem k_LW_at : I_LW_at.all (q_okb M_LW_at) = true := by decide +kernel
theorem c_LW_at : Cond.codeWith M_LW_at.1 M_LW_at.2.1 M_LW_at.2.2.1 M_LW_at.2.2.2.1 M_LW_at.2.2.2.2 ∈ q_ws := List.mem_of_getElem? (i := 787) (by decide +kernel)
theorem w_LW_at : q_cw M_LW_at := ⟨Or.inr c_LW_at, List.mem_of_getElem? (i := 65) (by decide +kernel), by decide +kernel⟩
theorem s_LW_at : Cond.static M_LW_at.1 ∈ q_ws := List.mem_of_getElem? (i := 786) (by decide +kernel)
theorem p_LW_at : plainFor M_LW_at.1 = true := by decide +kernel
theorem a_LW_at : (parseMethodDescriptor M_LW_at.1.desc).map (fun d => d.parameters.length) = some 7 := by decide +kernel
def M_LW_in : q_M := (⟨"PlaneFillsLaw", "in", "(LPlaneFills;IJJ[J)I"⟩, method_11_code, 8, (Option.some FieldType.int), [(0, 20, 23, 13)])
def I_LW_in : List q_J := [(0, .aload 6, 2, (0, 0, 0, 0), 0, 0),
  (2, .iconst 0, 1, (0, 0, 0, 0), 0, 0),
  (3, .aload_n 0, 1, (0, 0, 0, 0), 0, 0),
  (4, .iload_n 1, 1, (0, 0, 0, 0), 0, 0),
  (5, .lload_n 2, 1, (0, 0, 0, 0), 0, 0),
  (6, .lload 4, 2, (0, 0, 0, 0), 0, 0),
  (8, .invokevirtual 45, 3, (0, 0, 0, 999999), 0, 0),
  (11, .ifCond .eq 7, 3, (0, 0, 0, 999999), 0, 0),
  (14, .lconst 1, 1, (0, 0, 0, 0), 0, 1),
  (15, .goto 4, 3, (0, 0, 0, 999999), 0, 0),
  (18, .lconst 0, 1, (0, 0, 0, 0), 0, 0),
  (19, .lastore, 1, (0, 0, 0, 0), 0, 0),
  (20, .goto 7, 3, (0, 0, 0, 999999), 0, 0),
  (23, .astore 7, 2, (0, 0, 0, 0), 0, 0),
  (25, .iconst 1, 1, (0, 0, 0, 0), 1, 0),
  (26, .ireturn, 1, (0, 0, 0, 999999), 0, 0),
  (27, .iconst 0, 1, (0, 0, 0, 0), 0, 0),
  (28, .ireturn, 1, (0, 0, 0, 999999), 0, 0)]
set_option maxRecDepth 100000 in
theorem k_LW_in : I_LW_in.all (q_okb M_LW_in) = true := by decide +kernel
theorem c_LW_in : Cond.codeWith M_LW_in.1 M_LW_in.2.1 M_LW_in.2.2.1 M_LW_in.2.2.2.1 M_LW_in.2.2.2.2 ∈ q_ws := List.mem_of_getElem? (i := 807) (by decide +kernel)
theorem w_LW_in : q_cw M_LW_in := ⟨Or.inr c_LW_in, List.mem_of_getElem? (i := 65) (by decide +kernel), by decide +kernel⟩
theorem s_LW_in : Cond.static M_LW_in.1 ∈ q_ws := List.mem_of_getElem? (i := 806) (by decide +kernel)
theorem p_LW_in : plainFor M_LW_in.1 = true := by decide +kernel
theorem a_LW_in : (parseMethodDescriptor M_LW_in.1.desc).map (fun d => d.parameters.length) = some 5 := by decide +kernel
def M_LW_islands : q_M := (⟨"PlaneFillsLaw", "islands", "(LPlaneFills;I[J)I"⟩, method_12_code, 4, (Option.some FieldType.int), [(0, 9, 12, 13)])
def I_LW_islands : List q_J := [(0, .aload_n 2, 1, (0, 0, 0, 0), 0, 0),
  (1, .iconst 0, 1, (0, 0, 0, 0), 0, 0),
  (2, .aload_n 0, 1, (0, 0, 0, 0), 0, 0),
  (3, .iload_n 1, 1, (0, 0, 0, 0), 0, 0),
  (4, .invokevirtual 48, 3, (0, 0, 0, 999999), 0, 0),
  (7, .i2l, 1, (0, 0, 0, 0), 0, 0),
  (8, .lastore, 1, (0, 0, 0, 0), 0, 0),
  (9, .goto 6, 3, (0, 0, 0, 999999), 0, 0),
  (12, .astore_n 3, 1, (0, 0, 0, 0), 0, 0),
  (13, .iconst 1, 1, (0, 0, 0, 0), 1, 0),
  (14, .ireturn, 1, (0, 0, 0, 999999), 0, 0),
  (15, .iconst 0, 1, (0, 0, 0, 0), 0, 0),
  (16, .ireturn, 1, (0, 0, 0, 999999), 0, 0)]
set_option maxRecDepth 100000 in
theorem k_LW_islands : I_LW_islands.all (q_okb M_LW_islands) = true := by decide +kernel
theorem c_LW_islands : Cond.codeWith M_LW_islands.1 M_LW_islands.2.1 M_LW_islands.2.2.1 M_LW_islands.2.2.2.1 M_LW_islands.2.2.2.2 ∈ q_ws := List.mem_of_getElem? (i := 814) (by decide +kernel)
theorem w_LW_islands : q_cw M_LW_islands := ⟨Or.inr c_LW_islands, List.mem_of_getElem? (i := 65) (by decide +kernel), by decide +kernel⟩
theorem s_LW_islands : Cond.static M_LW_islands.1 ∈ q_ws := List.mem_of_getElem? (i := 813) (by decide +kernel)
theorem p_LW_islands : plainFor M_LW_islands.1 = true := by decide +kernel
theorem a_LW_islands : (parseMethodDescriptor M_LW_islands.1.desc).map (fun d => d.parameters.length) = some 3 := by decide +kernel
def M_LW_spoke : q_M := (⟨"PlaneFillsLaw", "spoke", "(LPlaneFills;III[J)I"⟩, method_13_code, 6, (Option.some FieldType.int), [(0, 12, 15, 13)])
def I_LW_spoke : List q_J := [(0, .aload 4, 2, (0, 0, 0, 0), 0, 0),
  (2, .iconst 0, 1, (0, 0, 0, 0), 0, 0),
  (3, .aload_n 0, 1, (0, 0, 0, 0), 0, 0),
  (4, .iload_n 1, 1, (0, 0, 0, 0), 0, 0),
  (5, .iload_n 2, 1, (0, 0, 0, 0), 0, 0),
  (6, .iload_n 3, 1, (0, 0, 0, 0), 0, 0),
  (7, .invokevirtual 52, 3, (0, 0, 0, 999999), 0, 0),
  (10, .i2l, 1, (0, 0, 0, 0), 0, 0),
  (11, .lastore, 1, (0, 0, 0, 0), 0, 0),
  (12, .goto 7, 3, (0, 0, 0, 999999), 0, 0),
  (15, .astore 5, 2, (0, 0, 0, 0), 0, 0),
  (17, .iconst 1, 1, (0, 0, 0, 0), 1, 0),
  (18, .ireturn, 1, (0, 0, 0, 999999), 0, 0),
  (19, .iconst 0, 1, (0, 0, 0, 0), 0, 0),
  (20, .ireturn, 1, (0, 0, 0, 999999), 0, 0)]
set_option maxRecDepth 100000 in
theorem k_LW_spoke : I_LW_spoke.all (q_okb M_LW_spoke) = true := by decide +kernel
theorem c_LW_spoke : Cond.codeWith M_LW_spoke.1 M_LW_spoke.2.1 M_LW_spoke.2.2.1 M_LW_spoke.2.2.2.1 M_LW_spoke.2.2.2.2 ∈ q_ws := List.mem_of_getElem? (i := 821) (by decide +kernel)
theorem w_LW_spoke : q_cw M_LW_spoke := ⟨Or.inr c_LW_spoke, List.mem_of_getElem? (i := 65) (by decide +kernel), by decide +kernel⟩
theorem s_LW_spoke : Cond.static M_LW_spoke.1 ∈ q_ws := List.mem_of_getElem? (i := 820) (by decide +kernel)
theorem p_LW_spoke : plainFor M_LW_spoke.1 = true := by decide +kernel
theorem a_LW_spoke : (parseMethodDescriptor M_LW_spoke.1.desc).map (fun d => d.parameters.length) = some 5 := by decide +kernel
def M_LW_stitch : q_M := (⟨"PlaneFillsLaw", "stitch", "(LPlaneFills;IJ[J)I"⟩, method_14_code, 6, (Option.some FieldType.int), [(0, 11, 14, 15)])
def I_LW_stitch : List q_J := [(0, .aload 4, 2, (0, 0, 0, 0), 0, 0),
  (2, .iconst 0, 1, (0, 0, 0, 0), 0, 0),
  (3, .aload_n 0, 1, (0, 0, 0, 0), 0, 0),
  (4, .iload_n 1, 1, (0, 0, 0, 0), 0, 0),
  (5, .lload_n 2, 1, (0, 0, 0, 0), 0, 0),
  (6, .invokevirtual 55, 3, (0, 0, 0, 999999), 0, 0),
  (9, .i2l, 1, (0, 0, 0, 0), 0, 0),
  (10, .lastore, 1, (0, 0, 0, 0), 0, 0),
  (11, .goto 7, 3, (0, 0, 0, 999999), 0, 0),
  (14, .astore 5, 2, (0, 0, 0, 0), 0, 0),
  (16, .iconst 1, 1, (0, 0, 0, 0), 1, 0),
  (17, .ireturn, 1, (0, 0, 0, 999999), 0, 0),
  (18, .iconst 0, 1, (0, 0, 0, 0), 0, 0),
  (19, .ireturn, 1, (0, 0, 0, 999999), 0, 0)]
set_option maxRecDepth 100000 in
theorem k_LW_stitch : I_LW_stitch.all (q_okb M_LW_stitch) = true := by decide +kernel
theorem c_LW_stitch : Cond.codeWith M_LW_stitch.1 M_LW_stitch.2.1 M_LW_stitch.2.2.1 M_LW_stitch.2.2.2.1 M_LW_stitch.2.2.2.2 ∈ q_ws := List.mem_of_getElem? (i := 840) (by decide +kernel)
theorem w_LW_stitch : q_cw M_LW_stitch := ⟨Or.inr c_LW_stitch, List.mem_of_getElem? (i := 65) (by decide +kernel), by decide +kernel⟩
theorem s_LW_stitch : Cond.static M_LW_stitch.1 ∈ q_ws := List.mem_of_getElem? (i := 839) (by decide +kernel)
theorem p_LW_stitch : plainFor M_LW_stitch.1 = true := by decide +kernel
theorem a_LW_stitch : (parseMethodDescriptor M_LW_stitch.1.desc).map (fun d => d.parameters.length) = some 4 := by decide +kernel
def M_LW_hatch : q_M := (⟨"PlaneFillsLaw", "hatch", "(LPlaneFills;IJJ[J)I"⟩, method_15_code, 8, (Option.some FieldType.int), [(0, 20, 23, 13), (0, 20, 27, 15)])
def I_LW_hatch : List q_J := [(0, .aload 6, 2, (0, 0, 0, 0), 0, 0),
  (2, .iconst 0, 1, (0, 0, 0, 0), 0, 0),
  (3, .aload_n 0, 1, (0, 0, 0, 0), 0, 0),
  (4, .iload_n 1, 1, (0, 0, 0, 0), 0, 0),
  (5, .lload_n 2, 1, (0, 0, 0, 0), 0, 0),
  (6, .lload 4, 2, (0, 0, 0, 0), 0, 0),
  (8, .invokevirtual 59, 3, (0, 0, 0, 999999), 0, 0),
  (11, .ifCond .eq 7, 3, (0, 0, 0, 999999), 0, 0),
  (14, .lconst 1, 1, (0, 0, 0, 0), 0, 1),
  (15, .goto 4, 3, (0, 0, 0, 999999), 0, 0),
  (18, .lconst 0, 1, (0, 0, 0, 0), 0, 0),
  (19, .lastore, 1, (0, 0, 0, 0), 0, 0),
  (20, .goto 11, 3, (0, 0, 0, 999999), 0, 0),
  (23, .astore 7, 2, (0, 0, 0, 0), 0, 0),
  (25, .iconst 1, 1, (0, 0, 0, 0), 1, 0),
  (26, .ireturn, 1, (0, 0, 0, 999999), 0, 0),
  (27, .astore 7, 2, (0, 0, 0, 0), 0, 0),
  (29, .iconst 2, 1, (0, 0, 0, 0), 2, 0),
  (30, .ireturn, 1, (0, 0, 0, 999999), 0, 0),
  (31, .iconst 0, 1, (0, 0, 0, 0), 0, 0),
  (32, .ireturn, 1, (0, 0, 0, 999999), 0, 0)]
set_option maxRecDepth 100000 in
theorem k_LW_hatch : I_LW_hatch.all (q_okb M_LW_hatch) = true := by decide +kernel
theorem c_LW_hatch : Cond.codeWith M_LW_hatch.1 M_LW_hatch.2.1 M_LW_hatch.2.2.1 M_LW_hatch.2.2.2.1 M_LW_hatch.2.2.2.2 ∈ q_ws := List.mem_of_getElem? (i := 851) (by decide +kernel)
theorem w_LW_hatch : q_cw M_LW_hatch := ⟨Or.inr c_LW_hatch, List.mem_of_getElem? (i := 65) (by decide +kernel), by decide +kernel⟩
theorem s_LW_hatch : Cond.static M_LW_hatch.1 ∈ q_ws := List.mem_of_getElem? (i := 850) (by decide +kernel)
theorem p_LW_hatch : plainFor M_LW_hatch.1 = true := by decide +kernel
theorem a_LW_hatch : (parseMethodDescriptor M_LW_hatch.1.desc).map (fun d => d.parameters.length) = some 5 := by decide +kernel
def M_LW_narrow : q_M := (⟨"PlaneFillsLaw", "narrow", "(LPlaneFills;I[J)I"⟩, method_16_code, 4, (Option.some FieldType.int), [(0, 16, 19, 13)])
def I_LW_narrow : List q_J := [(0, .aload_n 2, 1, (0, 0, 0, 0), 0, 0),
  (1, .iconst 0, 1, (0, 0, 0, 0), 0, 0),
  (2, .aload_n 0, 1, (0, 0, 0, 0), 0, 0),
  (3, .iload_n 1, 1, (0, 0, 0, 0), 0, 0),
  (4, .invokevirtual 62, 3, (0, 0, 0, 999999), 0, 0),
  (7, .ifCond .eq 7, 3, (0, 0, 0, 999999), 0, 0),
  (10, .lconst 1, 1, (0, 0, 0, 0), 0, 1),
  (11, .goto 4, 3, (0, 0, 0, 999999), 0, 0),
  (14, .lconst 0, 1, (0, 0, 0, 0), 0, 0),
  (15, .lastore, 1, (0, 0, 0, 0), 0, 0),
  (16, .goto 6, 3, (0, 0, 0, 999999), 0, 0),
  (19, .astore_n 3, 1, (0, 0, 0, 0), 0, 0),
  (20, .iconst 1, 1, (0, 0, 0, 0), 1, 0),
  (21, .ireturn, 1, (0, 0, 0, 999999), 0, 0),
  (22, .iconst 0, 1, (0, 0, 0, 0), 0, 0),
  (23, .ireturn, 1, (0, 0, 0, 999999), 0, 0)]
set_option maxRecDepth 100000 in
theorem k_LW_narrow : I_LW_narrow.all (q_okb M_LW_narrow) = true := by decide +kernel
theorem c_LW_narrow : Cond.codeWith M_LW_narrow.1 M_LW_narrow.2.1 M_LW_narrow.2.2.1 M_LW_narrow.2.2.2.1 M_LW_narrow.2.2.2.2 ∈ q_ws := List.mem_of_getElem? (i := 858) (by decide +kernel)
theorem w_LW_narrow : q_cw M_LW_narrow := ⟨Or.inr c_LW_narrow, List.mem_of_getElem? (i := 65) (by decide +kernel), by decide +kernel⟩
theorem s_LW_narrow : Cond.static M_LW_narrow.1 ∈ q_ws := List.mem_of_getElem? (i := 857) (by decide +kernel)
theorem p_LW_narrow : plainFor M_LW_narrow.1 = true := by decide +kernel
theorem a_LW_narrow : (parseMethodDescriptor M_LW_narrow.1.desc).map (fun d => d.parameters.length) = some 3 := by decide +kernel
