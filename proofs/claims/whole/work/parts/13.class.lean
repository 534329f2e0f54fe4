/-! PlaneFills: names, instructions (by program) -/
def M_PF_init : q_M := (⟨"PlaneFills", "<init>", "(I)V"⟩, prog_1_method_1_code, 2, (Option.none : Option FieldType), [])
def I_PF_init : List q_J := [(0, .aload_n 0, 1, (0, 0, 0, 0), 0, 0),
  (1, .invokespecial 3, 3, (0, 0, 0, 999999), 0, 0),
  (4, .aload_n 0, 1, (0, 0, 0, 0), 0, 0),
  (5, .new 9, 3, (0, 0, 0, 999999), 0, 0),
  (8, .dup, 1, (0, 0, 0, 0), 0, 0),
  (9, .invokespecial 11, 3, (0, 0, 0, 999999), 0, 0),
  (12, .putfield 12, 3, (0, 1, 2, 147), 0, 0),
  (15, .aload_n 0, 1, (0, 0, 0, 0), 0, 0),
  (16, .new 9, 3, (0, 0, 0, 999999), 0, 0),
  (19, .dup, 1, (0, 0, 0, 0), 0, 0),
  (20, .invokespecial 11, 3, (0, 0, 0, 999999), 0, 0),
  (23, .putfield 16, 3, (0, 2, 2, 148), 0, 0),
  (26, .aload_n 0, 1, (0, 0, 0, 0), 0, 0),
  (27, .new 9, 3, (0, 0, 0, 999999), 0, 0),
  (30, .dup, 1, (0, 0, 0, 0), 0, 0),
  (31, .invokespecial 11, 3, (0, 0, 0, 999999), 0, 0),
  (34, .putfield 19, 3, (0, 3, 2, 149), 0, 0),
  (37, .aload_n 0, 1, (0, 0, 0, 0), 0, 0),
  (38, .new 9, 3, (0, 0, 0, 999999), 0, 0),
  (41, .dup, 1, (0, 0, 0, 0), 0, 0),
  (42, .invokespecial 11, 3, (0, 0, 0, 999999), 0, 0),
  (45, .putfield 22, 3, (0, 4, 2, 150), 0, 0),
  (48, .aload_n 0, 1, (0, 0, 0, 0), 0, 0),
  (49, .iconst 4, 1, (0, 0, 0, 0), 4, 0),
  (50, .newarray .int, 2, (0, 0, 0, 999999), 0, 0),
  (52, .dup, 1, (0, 0, 0, 0), 0, 0),
  (53, .iconst 0, 1, (0, 0, 0, 0), 0, 0),
  (54, .iconst 1, 1, (0, 0, 0, 0), 1, 0),
  (55, .iastore, 1, (0, 0, 0, 0), 0, 0),
  (56, .dup, 1, (0, 0, 0, 0), 0, 0),
  (57, .iconst 1, 1, (0, 0, 0, 0), 1, 0),
  (58, .iconst 1, 1, (0, 0, 0, 0), 1, 0),
  (59, .iastore, 1, (0, 0, 0, 0), 0, 0),
  (60, .dup, 1, (0, 0, 0, 0), 0, 0),
  (61, .iconst 2, 1, (0, 0, 0, 0), 2, 0),
  (62, .iconst 1, 1, (0, 0, 0, 0), 1, 0),
  (63, .iastore, 1, (0, 0, 0, 0), 0, 0),
  (64, .dup, 1, (0, 0, 0, 0), 0, 0),
  (65, .iconst 3, 1, (0, 0, 0, 0), 3, 0),
  (66, .iconst 0, 1, (0, 0, 0, 0), 0, 0),
  (67, .iastore, 1, (0, 0, 0, 0), 0, 0),
  (68, .putfield 25, 3, (0, 5, 2, 151), 0, 0),
  (71, .aload_n 0, 1, (0, 0, 0, 0), 0, 0),
  (72, .new 29, 3, (0, 0, 0, 999999), 0, 0),
  (75, .dup, 1, (0, 0, 0, 0), 0, 0),
  (76, .iconst 0, 1, (0, 0, 0, 0), 0, 0),
  (77, .invokespecial 31, 3, (0, 0, 0, 999999), 0, 0),
  (80, .putfield 34, 3, (0, 6, 2, 152), 0, 0),
  (83, .aload_n 0, 1, (0, 0, 0, 0), 0, 0),
  (84, .new 29, 3, (0, 0, 0, 999999), 0, 0),
  (87, .dup, 1, (0, 0, 0, 0), 0, 0),
  (88, .iconst 1, 1, (0, 0, 0, 0), 1, 0),
  (89, .invokespecial 31, 3, (0, 0, 0, 999999), 0, 0),
  (92, .putfield 38, 3, (0, 7, 2, 153), 0, 0),
  (95, .aload_n 0, 1, (0, 0, 0, 0), 0, 0),
  (96, .bipush 24, 2, (0, 0, 0, 0), 24, 0),
  (98, .newarray .int, 2, (0, 0, 0, 999999), 0, 0),
  (100, .putfield 41, 3, (0, 8, 2, 154), 0, 0),
  (103, .aload_n 0, 1, (0, 0, 0, 0), 0, 0),
  (104, .iconst 1, 1, (0, 0, 0, 0), 1, 0),
  (105, .iconst 4, 1, (0, 0, 0, 0), 4, 0),
  (106, .iload_n 1, 1, (0, 0, 0, 0), 0, 0),
  (107, .invokestatic 44, 3, (0, 0, 0, 999999), 0, 0),
  (110, .invokestatic 50, 3, (0, 0, 0, 999999), 0, 0),
  (113, .putfield 53, 3, (0, 0, 0, 146), 0, 0),
  (116, .return_, 1, (0, 0, 0, 999999), 0, 0)]
set_option maxRecDepth 100000 in
theorem k_PF_init : I_PF_init.all (q_okb M_PF_init) = true := by decide +kernel
theorem c_PF_init : Cond.code M_PF_init.1 M_PF_init.2.1 M_PF_init.2.2.1 M_PF_init.2.2.2.1 ∈ q_ws := List.mem_of_getElem? (i := 97) (by decide +kernel)
theorem w_PF_init : q_cw M_PF_init := ⟨Or.inl c_PF_init, List.mem_of_getElem? (i := 66) (by decide +kernel), by decide +kernel⟩
theorem n_PF_init : Cond.instanceMethod M_PF_init.1 ∈ q_ws := List.mem_of_getElem? (i := 96) (by decide +kernel)
theorem p_PF_init : plainFor M_PF_init.1 = true := by decide +kernel
theorem a_PF_init : (parseMethodDescriptor M_PF_init.1.desc).map (fun d => d.parameters.length) = some 1 := by decide +kernel
def M_PF_fill : q_M := (⟨"PlaneFills", "fill", "()I"⟩, prog_1_method_8_code, 4, (Option.some FieldType.int), [])
def I_PF_fill : List q_J := [(0, .aload_n 0, 1, (0, 0, 0, 0), 0, 0),
  (1, .invokevirtual 146, 3, (0, 0, 0, 999999), 0, 0),
  (4, .iconst 0, 1, (0, 0, 0, 0), 0, 0),
  (5, .istore_n 1, 1, (0, 0, 0, 0), 0, 0),
  (6, .iconst 0, 1, (0, 0, 0, 0), 0, 0),
  (7, .istore_n 2, 1, (0, 0, 0, 0), 0, 0),
  (8, .iload_n 2, 1, (0, 0, 0, 0), 0, 0),
  (9, .aload_n 0, 1, (0, 0, 0, 0), 0, 0),
  (10, .getfield 12, 3, (0, 1, 2, 147), 0, 0),
  (13, .invokeinterface 71 1, 5, (0, 0, 0, 999999), 0, 0),
  (18, .if_icmp .ge 37, 3, (0, 0, 0, 999999), 0, 0),
  (21, .aload_n 0, 1, (0, 0, 0, 0), 0, 0),
  (22, .getfield 12, 3, (0, 1, 2, 147), 0, 0),
  (25, .iload_n 2, 1, (0, 0, 0, 0), 0, 0),
  (26, .invokeinterface 149 2, 5, (0, 0, 0, 999999), 0, 0),
  (31, .checkcast 77, 3, (0, 0, 0, 999999), 0, 0),
  (34, .astore_n 3, 1, (0, 0, 0, 0), 0, 0),
  (35, .aload_n 3, 1, (0, 0, 0, 0), 0, 0),
  (36, .invokevirtual 153, 3, (0, 0, 0, 999999), 0, 0),
  (39, .iload_n 1, 1, (0, 0, 0, 0), 0, 0),
  (40, .aload_n 3, 1, (0, 0, 0, 0), 0, 0),
  (41, .getfield 156, 3, (5, 10, 2, 100011), 0, 0),
  (44, .getfield 160, 3, (1, 1, 0, 100002), 0, 0),
  (47, .iadd, 1, (0, 0, 0, 0), 0, 0),
  (48, .istore_n 1, 1, (0, 0, 0, 0), 0, 0),
  (49, .iinc 2 1, 3, (0, 0, 0, 0), 1, 0),
  (52, .goto (-44), 3, (0, 0, 0, 999999), 0, 0),
  (55, .iload_n 1, 1, (0, 0, 0, 0), 0, 0),
  (56, .ireturn, 1, (0, 0, 0, 999999), 0, 0)]
set_option maxRecDepth 100000 in
theorem k_PF_fill : I_PF_fill.all (q_okb M_PF_fill) = true := by decide +kernel
theorem c_PF_fill : Cond.code M_PF_fill.1 M_PF_fill.2.1 M_PF_fill.2.2.1 M_PF_fill.2.2.2.1 ∈ q_ws := List.mem_of_getElem? (i := 168) (by decide +kernel)
theorem w_PF_fill : q_cw M_PF_fill := ⟨Or.inl c_PF_fill, List.mem_of_getElem? (i := 66) (by decide +kernel), by decide +kernel⟩
theorem n_PF_fill : Cond.instanceMethod M_PF_fill.1 ∈ q_ws := List.mem_of_getElem? (i := 166) (by decide +kernel)
theorem e_PF_fill : Cond.selects "PlaneFills" M_PF_fill.1 M_PF_fill.1 ∈ q_ws := List.mem_of_getElem? (i := 167) (by decide +kernel)
theorem p_PF_fill : plainFor M_PF_fill.1 = true := by decide +kernel
theorem a_PF_fill : (parseMethodDescriptor M_PF_fill.1.desc).map (fun d => d.parameters.length) = some 0 := by decide +kernel
def M_PF_fillTrials : q_M := (⟨"PlaneFills", "fillTrials", "()V"⟩, prog_1_method_28_code, 5, (Option.none : Option FieldType), [])
def I_PF_fillTrials : List q_J := [(0, .iconst 0, 1, (0, 0, 0, 0), 0, 0),
  (1, .istore_n 1, 1, (0, 0, 0, 0), 0, 0),
  (2, .iload_n 1, 1, (0, 0, 0, 0), 0, 0),
  (3, .aload_n 0, 1, (0, 0, 0, 0), 0, 0),
  (4, .getfield 16, 3, (0, 2, 2, 148), 0, 0),
  (7, .invokeinterface 71 1, 5, (0, 0, 0, 999999), 0, 0),
  (12, .if_icmp .ge 112, 3, (0, 0, 0, 999999), 0, 0),
  (15, .aload_n 0, 1, (0, 0, 0, 0), 0, 0),
  (16, .getfield 16, 3, (0, 2, 2, 148), 0, 0),
  (19, .iload_n 1, 1, (0, 0, 0, 0), 0, 0),
  (20, .invokeinterface 149 2, 5, (0, 0, 0, 999999), 0, 0),
  (25, .checkcast 77, 3, (0, 0, 0, 999999), 0, 0),
  (28, .astore_n 2, 1, (0, 0, 0, 0), 0, 0),
  (29, .aload_n 2, 1, (0, 0, 0, 0), 0, 0),
  (30, .getfield 251, 3, (5, 11, 2, 100012), 0, 0),
  (33, .getfield 195, 3, (1, 0, 2, 100001), 0, 0),
  (36, .astore_n 3, 1, (0, 0, 0, 0), 0, 0),
  (37, .aload_n 2, 1, (0, 0, 0, 0), 0, 0),
  (38, .getfield 274, 3, (5, 3, 2, 100008), 0, 0),
  (41, .iconst 0, 1, (0, 0, 0, 0), 0, 0),
  (42, .aload_n 3, 1, (0, 0, 0, 0), 0, 0),
  (43, .iconst 0, 1, (0, 0, 0, 0), 0, 0),
  (44, .bipush 24, 2, (0, 0, 0, 0), 24, 0),
  (46, .invokestatic 277, 3, (0, 0, 0, 999999), 0, 0),
  (49, .aload_n 0, 1, (0, 0, 0, 0), 0, 0),
  (50, .aload_n 2, 1, (0, 0, 0, 0), 0, 0),
  (51, .aload_n 3, 1, (0, 0, 0, 0), 0, 0),
  (52, .invokevirtual 283, 3, (0, 0, 0, 999999), 0, 0),
  (55, .aload_n 0, 1, (0, 0, 0, 0), 0, 0),
  (56, .aload_n 2, 1, (0, 0, 0, 0), 0, 0),
  (57, .aload_n 3, 1, (0, 0, 0, 0), 0, 0),
  (58, .invokevirtual 287, 3, (0, 0, 0, 999999), 0, 0),
  (61, .iconst 0, 1, (0, 0, 0, 0), 0, 0),
  (62, .istore 4, 2, (0, 0, 0, 0), 0, 0),
  (64, .iload 4, 2, (0, 0, 0, 0), 0, 0),
  (66, .iload_n 1, 1, (0, 0, 0, 0), 0, 0),
  (67, .if_icmp .ge 29, 3, (0, 0, 0, 999999), 0, 0),
  (70, .aload_n 0, 1, (0, 0, 0, 0), 0, 0),
  (71, .aload_n 0, 1, (0, 0, 0, 0), 0, 0),
  (72, .getfield 16, 3, (0, 2, 2, 148), 0, 0),
  (75, .iload 4, 2, (0, 0, 0, 0), 0, 0),
  (77, .invokeinterface 149 2, 5, (0, 0, 0, 999999), 0, 0),
  (82, .checkcast 77, 3, (0, 0, 0, 999999), 0, 0),
  (85, .aload_n 2, 1, (0, 0, 0, 0), 0, 0),
  (86, .aload_n 3, 1, (0, 0, 0, 0), 0, 0),
  (87, .invokevirtual 290, 3, (0, 0, 0, 999999), 0, 0),
  (90, .iinc 4 1, 3, (0, 0, 0, 0), 1, 0),
  (93, .goto (-29), 3, (0, 0, 0, 999999), 0, 0),
  (96, .aload_n 2, 1, (0, 0, 0, 0), 0, 0),
  (97, .getfield 251, 3, (5, 11, 2, 100012), 0, 0),
  (100, .aload_n 0, 1, (0, 0, 0, 0), 0, 0),
  (101, .aload_n 3, 1, (0, 0, 0, 0), 0, 0),
  (102, .invokevirtual 294, 3, (0, 0, 0, 999999), 0, 0),
  (105, .putfield 254, 3, (1, 3, 3, 100004), 0, 0),
  (108, .aload_n 2, 1, (0, 0, 0, 0), 0, 0),
  (109, .aload_n 3, 1, (0, 0, 0, 0), 0, 0),
  (110, .invokestatic 298, 3, (0, 0, 0, 999999), 0, 0),
  (113, .aload_n 0, 1, (0, 0, 0, 0), 0, 0),
  (114, .aload_n 2, 1, (0, 0, 0, 0), 0, 0),
  (115, .invokevirtual 301, 3, (0, 0, 0, 999999), 0, 0),
  (118, .iinc 1 1, 3, (0, 0, 0, 0), 1, 0),
  (121, .goto (-119), 3, (0, 0, 0, 999999), 0, 0),
  (124, .return_, 1, (0, 0, 0, 999999), 0, 0)]
set_option maxRecDepth 100000 in
theorem k_PF_fillTrials : I_PF_fillTrials.all (q_okb M_PF_fillTrials) = true := by decide +kernel
theorem c_PF_fillTrials : Cond.code M_PF_fillTrials.1 M_PF_fillTrials.2.1 M_PF_fillTrials.2.2.1 M_PF_fillTrials.2.2.2.1 ∈ q_ws := List.mem_of_getElem? (i := 171) (by decide +kernel)
theorem w_PF_fillTrials : q_cw M_PF_fillTrials := ⟨Or.inl c_PF_fillTrials, List.mem_of_getElem? (i := 66) (by decide +kernel), by decide +kernel⟩
theorem n_PF_fillTrials : Cond.instanceMethod M_PF_fillTrials.1 ∈ q_ws := List.mem_of_getElem? (i := 170) (by decide +kernel)
theorem e_PF_fillTrials : Cond.selects "PlaneFills" M_PF_fillTrials.1 M_PF_fillTrials.1 ∈ q_ws := List.mem_of_getElem? (i := 0) (by decide +kernel)
theorem p_PF_fillTrials : plainFor M_PF_fillTrials.1 = true := by decide +kernel
theorem a_PF_fillTrials : (parseMethodDescriptor M_PF_fillTrials.1.desc).map (fun d => d.parameters.length) = some 0 := by decide +kernel
def M_PF_takeOffDiscs : q_M := (⟨"PlaneFills", "takeOffDiscs", "(LPlaneFills$Plane;[I)V"⟩, prog_1_method_29_code, 6, (Option.none : Option FieldType), [])
def I_PF_takeOffDiscs : List q_J := [(0, .iconst 0, 1, (0, 0, 0, 0), 0, 0),
  (1, .istore_n 3, 1, (0, 0, 0, 0), 0, 0),
  (2, .iload_n 3, 1, (0, 0, 0, 0), 0, 0),
  (3, .aload_n 0, 1, (0, 0, 0, 0), 0, 0),
  (4, .getfield 19, 3, (0, 3, 2, 149), 0, 0),
  (7, .invokeinterface 71 1, 5, (0, 0, 0, 999999), 0, 0),
  (12, .if_icmp .ge 86, 3, (0, 0, 0, 999999), 0, 0),
  (15, .aload_n 0, 1, (0, 0, 0, 0), 0, 0),
  (16, .getfield 19, 3, (0, 3, 2, 149), 0, 0),
  (19, .iload_n 3, 1, (0, 0, 0, 0), 0, 0),
  (20, .invokeinterface 149 2, 5, (0, 0, 0, 999999), 0, 0),
  (25, .checkcast 113, 3, (0, 0, 0, 999999), 0, 0),
  (28, .astore 4, 2, (0, 0, 0, 0), 0, 0),
  (30, .aload 4, 2, (0, 0, 0, 0), 0, 0),
  (32, .getfield 305, 3, (2, 1, 0, 100014), 0, 0),
  (35, .aload_n 1, 1, (0, 0, 0, 0), 0, 0),
  (36, .getfield 308, 3, (5, 1, 0, 100006), 0, 0),
  (39, .if_icmp .ne 53, 3, (0, 0, 0, 999999), 0, 0),
  (42, .aload 4, 2, (0, 0, 0, 0), 0, 0),
  (44, .getfield 309, 3, (2, 0, 0, 100013), 0, 0),
  (47, .aload_n 1, 1, (0, 0, 0, 0), 0, 0),
  (48, .getfield 312, 3, (5, 0, 0, 100005), 0, 0),
  (51, .if_icmp .eq 41, 3, (0, 0, 0, 999999), 0, 0),
  (54, .iconst 0, 1, (0, 0, 0, 0), 0, 0),
  (55, .istore 5, 2, (0, 0, 0, 0), 0, 0),
  (57, .iload 5, 2, (0, 0, 0, 0), 0, 0),
  (59, .bipush 24, 2, (0, 0, 0, 0), 24, 0),
  (61, .if_icmp .ge 31, 3, (0, 0, 0, 999999), 0, 0),
  (64, .aload_n 2, 1, (0, 0, 0, 0), 0, 0),
  (65, .iload 5, 2, (0, 0, 0, 0), 0, 0),
  (67, .dup2, 1, (0, 0, 0, 0), 0, 0),
  (68, .iaload, 1, (0, 0, 0, 0), 0, 0),
  (69, .aload 4, 2, (0, 0, 0, 0), 0, 0),
  (71, .iload 5, 2, (0, 0, 0, 0), 0, 0),
  (73, .aload_n 0, 1, (0, 0, 0, 0), 0, 0),
  (74, .getfield 25, 3, (0, 5, 2, 151), 0, 0),
  (77, .iconst 0, 1, (0, 0, 0, 0), 0, 0),
  (78, .iaload, 1, (0, 0, 0, 0), 0, 0),
  (79, .invokevirtual 313, 3, (0, 0, 0, 999999), 0, 0),
  (82, .iconst (-1), 1, (0, 0, 0, 0), -1, 0),
  (83, .ixor, 1, (0, 0, 0, 0), 0, 0),
  (84, .iand, 1, (0, 0, 0, 0), 0, 0),
  (85, .iastore, 1, (0, 0, 0, 0), 0, 0),
  (86, .iinc 5 1, 3, (0, 0, 0, 0), 1, 0),
  (89, .goto (-32), 3, (0, 0, 0, 999999), 0, 0),
  (92, .iinc 3 1, 3, (0, 0, 0, 0), 1, 0),
  (95, .goto (-93), 3, (0, 0, 0, 999999), 0, 0),
  (98, .return_, 1, (0, 0, 0, 999999), 0, 0)]
set_option maxRecDepth 100000 in
theorem k_PF_takeOffDiscs : I_PF_takeOffDiscs.all (q_okb M_PF_takeOffDiscs) = true := by decide +kernel
theorem c_PF_takeOffDiscs : Cond.code M_PF_takeOffDiscs.1 M_PF_takeOffDiscs.2.1 M_PF_takeOffDiscs.2.2.1 M_PF_takeOffDiscs.2.2.2.1 ∈ q_ws := List.mem_of_getElem? (i := 196) (by decide +kernel)
theorem w_PF_takeOffDiscs : q_cw M_PF_takeOffDiscs := ⟨Or.inl c_PF_takeOffDiscs, List.mem_of_getElem? (i := 66) (by decide +kernel), by decide +kernel⟩
theorem n_PF_takeOffDiscs : Cond.instanceMethod M_PF_takeOffDiscs.1 ∈ q_ws := List.mem_of_getElem? (i := 195) (by decide +kernel)
theorem e_PF_takeOffDiscs : Cond.selects "PlaneFills" M_PF_takeOffDiscs.1 M_PF_takeOffDiscs.1 ∈ q_ws := List.mem_of_getElem? (i := 1) (by decide +kernel)
theorem p_PF_takeOffDiscs : plainFor M_PF_takeOffDiscs.1 = true := by decide +kernel
theorem a_PF_takeOffDiscs : (parseMethodDescriptor M_PF_takeOffDiscs.1.desc).map (fun d => d.parameters.length) = some 2 := by decide +kernel
def M_PF_span : q_M := (⟨"PlaneFills", "span", "(JJ)I"⟩, prog_1_method_24_code, 8, (Option.some FieldType.int), [])
def I_PF_span : List q_J := [(0, .lconst 0, 1, (0, 0, 0, 0), 0, 0),
  (1, .lload_n 0, 1, (0, 0, 0, 0), 0, 0),
  (2, .invokestatic 245, 3, (0, 0, 0, 999999), 0, 0),
  (5, .lstore 4, 2, (0, 0, 0, 0), 0, 0),
  (7, .ldc2_w 269, 3, (0, 0, 0, 206), 0, 31),
  (10, .lload_n 2, 1, (0, 0, 0, 0), 0, 0),
  (11, .invokestatic 242, 3, (0, 0, 0, 999999), 0, 0),
  (14, .lstore 6, 2, (0, 0, 0, 0), 0, 0),
  (16, .lload 4, 2, (0, 0, 0, 0), 0, 0),
  (18, .lload 6, 2, (0, 0, 0, 0), 0, 0),
  (20, .lcmp, 1, (0, 0, 0, 0), 0, 0),
  (21, .ifCond .le 5, 3, (0, 0, 0, 999999), 0, 0),
  (24, .iconst 0, 1, (0, 0, 0, 0), 0, 0),
  (25, .ireturn, 1, (0, 0, 0, 999999), 0, 0),
  (26, .iconst (-1), 1, (0, 0, 0, 0), -1, 0),
  (27, .lload 4, 2, (0, 0, 0, 0), 0, 0),
  (29, .l2i, 1, (0, 0, 0, 0), 0, 0),
  (30, .ishl, 1, (0, 0, 0, 0), 0, 0),
  (31, .iconst (-1), 1, (0, 0, 0, 0), -1, 0),
  (32, .ldc2_w 269, 3, (0, 0, 0, 206), 0, 31),
  (35, .lload 6, 2, (0, 0, 0, 0), 0, 0),
  (37, .lsub, 1, (0, 0, 0, 0), 0, 0),
  (38, .l2i, 1, (0, 0, 0, 0), 0, 0),
  (39, .iushr, 1, (0, 0, 0, 0), 0, 0),
  (40, .iand, 1, (0, 0, 0, 0), 0, 0),
  (41, .ireturn, 1, (0, 0, 0, 999999), 0, 0)]
set_option maxRecDepth 100000 in
theorem k_PF_span : I_PF_span.all (q_okb M_PF_span) = true := by decide +kernel
theorem c_PF_span : Cond.code M_PF_span.1 M_PF_span.2.1 M_PF_span.2.2.1 M_PF_span.2.2.2.1 ∈ q_ws := List.mem_of_getElem? (i := 202) (by decide +kernel)
theorem w_PF_span : q_cw M_PF_span := ⟨Or.inl c_PF_span, List.mem_of_getElem? (i := 66) (by decide +kernel), by decide +kernel⟩
theorem s_PF_span : Cond.static M_PF_span.1 ∈ q_ws := List.mem_of_getElem? (i := 201) (by decide +kernel)
theorem p_PF_span : plainFor M_PF_span.1 = true := by decide +kernel
theorem a_PF_span : (parseMethodDescriptor M_PF_span.1.desc).map (fun d => d.parameters.length) = some 2 := by decide +kernel
def M_PF_takeOffPads : q_M := (⟨"PlaneFills", "takeOffPads", "(LPlaneFills$Plane;[I)V"⟩, prog_1_method_30_code, 6, (Option.none : Option FieldType), [])
def I_PF_takeOffPads : List q_J := [(0, .iconst 0, 1, (0, 0, 0, 0), 0, 0),
  (1, .istore_n 3, 1, (0, 0, 0, 0), 0, 0),
  (2, .iload_n 3, 1, (0, 0, 0, 0), 0, 0),
  (3, .aload_n 0, 1, (0, 0, 0, 0), 0, 0),
  (4, .getfield 22, 3, (0, 4, 2, 150), 0, 0),
  (7, .invokeinterface 71 1, 5, (0, 0, 0, 999999), 0, 0),
  (12, .if_icmp .ge 102, 3, (0, 0, 0, 999999), 0, 0),
  (15, .aload_n 0, 1, (0, 0, 0, 0), 0, 0),
  (16, .getfield 22, 3, (0, 4, 2, 150), 0, 0),
  (19, .iload_n 3, 1, (0, 0, 0, 0), 0, 0),
  (20, .invokeinterface 149 2, 5, (0, 0, 0, 999999), 0, 0),
  (25, .checkcast 141, 3, (0, 0, 0, 999999), 0, 0),
  (28, .astore 4, 2, (0, 0, 0, 0), 0, 0),
  (30, .aload 4, 2, (0, 0, 0, 0), 0, 0),
  (32, .getfield 316, 3, (4, 1, 0, 100016), 0, 0),
  (35, .aload_n 1, 1, (0, 0, 0, 0), 0, 0),
  (36, .getfield 308, 3, (5, 1, 0, 100006), 0, 0),
  (39, .if_icmp .ne 69, 3, (0, 0, 0, 999999), 0, 0),
  (42, .iconst 0, 1, (0, 0, 0, 0), 0, 0),
  (43, .istore 5, 2, (0, 0, 0, 0), 0, 0),
  (45, .iload 5, 2, (0, 0, 0, 0), 0, 0),
  (47, .bipush 24, 2, (0, 0, 0, 0), 24, 0),
  (49, .if_icmp .ge 59, 3, (0, 0, 0, 999999), 0, 0),
  (52, .aload_n 2, 1, (0, 0, 0, 0), 0, 0),
  (53, .iload 5, 2, (0, 0, 0, 0), 0, 0),
  (55, .dup2, 1, (0, 0, 0, 0), 0, 0),
  (56, .iaload, 1, (0, 0, 0, 0), 0, 0),
  (57, .aload 4, 2, (0, 0, 0, 0), 0, 0),
  (59, .getfield 317, 3, (4, 0, 0, 100015), 0, 0),
  (62, .aload_n 1, 1, (0, 0, 0, 0), 0, 0),
  (63, .getfield 312, 3, (5, 0, 0, 100005), 0, 0),
  (66, .if_icmp .ne 19, 3, (0, 0, 0, 999999), 0, 0),
  (69, .aload 4, 2, (0, 0, 0, 0), 0, 0),
  (71, .iload 5, 2, (0, 0, 0, 0), 0, 0),
  (73, .aload_n 0, 1, (0, 0, 0, 0), 0, 0),
  (74, .getfield 25, 3, (0, 5, 2, 151), 0, 0),
  (77, .iconst 1, 1, (0, 0, 0, 0), 1, 0),
  (78, .iaload, 1, (0, 0, 0, 0), 0, 0),
  (79, .invokevirtual 318, 3, (0, 0, 0, 999999), 0, 0),
  (82, .goto 16, 3, (0, 0, 0, 999999), 0, 0),
  (85, .aload 4, 2, (0, 0, 0, 0), 0, 0),
  (87, .iload 5, 2, (0, 0, 0, 0), 0, 0),
  (89, .aload_n 0, 1, (0, 0, 0, 0), 0, 0),
  (90, .getfield 25, 3, (0, 5, 2, 151), 0, 0),
  (93, .iconst 0, 1, (0, 0, 0, 0), 0, 0),
  (94, .iaload, 1, (0, 0, 0, 0), 0, 0),
  (95, .invokevirtual 321, 3, (0, 0, 0, 999999), 0, 0),
  (98, .iconst (-1), 1, (0, 0, 0, 0), -1, 0),
  (99, .ixor, 1, (0, 0, 0, 0), 0, 0),
  (100, .iand, 1, (0, 0, 0, 0), 0, 0),
  (101, .iastore, 1, (0, 0, 0, 0), 0, 0),
  (102, .iinc 5 1, 3, (0, 0, 0, 0), 1, 0),
  (105, .goto (-60), 3, (0, 0, 0, 999999), 0, 0),
  (108, .iinc 3 1, 3, (0, 0, 0, 0), 1, 0),
  (111, .goto (-109), 3, (0, 0, 0, 999999), 0, 0),
  (114, .return_, 1, (0, 0, 0, 999999), 0, 0)]
set_option maxRecDepth 100000 in
theorem k_PF_takeOffPads : I_PF_takeOffPads.all (q_okb M_PF_takeOffPads) = true := by decide +kernel
theorem c_PF_takeOffPads : Cond.code M_PF_takeOffPads.1 M_PF_takeOffPads.2.1 M_PF_takeOffPads.2.2.1 M_PF_takeOffPads.2.2.2.1 ∈ q_ws := List.mem_of_getElem? (i := 212) (by decide +kernel)
theorem w_PF_takeOffPads : q_cw M_PF_takeOffPads := ⟨Or.inl c_PF_takeOffPads, List.mem_of_getElem? (i := 66) (by decide +kernel), by decide +kernel⟩
theorem n_PF_takeOffPads : Cond.instanceMethod M_PF_takeOffPads.1 ∈ q_ws := List.mem_of_getElem? (i := 211) (by decide +kernel)
theorem e_PF_takeOffPads : Cond.selects "PlaneFills" M_PF_takeOffPads.1 M_PF_takeOffPads.1 ∈ q_ws := List.mem_of_getElem? (i := 3) (by decide +kernel)
theorem p_PF_takeOffPads : plainFor M_PF_takeOffPads.1 = true := by decide +kernel
theorem a_PF_takeOffPads : (parseMethodDescriptor M_PF_takeOffPads.1.desc).map (fun d => d.parameters.length) = some 2 := by decide +kernel
def M_PF_takeOffAhead : q_M := (⟨"PlaneFills", "takeOffAhead", "(LPlaneFills$Plane;LPlaneFills$Plane;[I)V"⟩, prog_1_method_31_code, 9, (Option.none : Option FieldType), [])
def I_PF_takeOffAhead : List q_J := [(0, .aload_n 1, 1, (0, 0, 0, 0), 0, 0),
  (1, .getfield 308, 3, (5, 1, 0, 100006), 0, 0),
  (4, .aload_n 2, 1, (0, 0, 0, 0), 0, 0),
  (5, .getfield 308, 3, (5, 1, 0, 100006), 0, 0),
  (8, .if_icmp .ne 14, 3, (0, 0, 0, 999999), 0, 0),
  (11, .aload_n 1, 1, (0, 0, 0, 0), 0, 0),
  (12, .getfield 312, 3, (5, 0, 0, 100005), 0, 0),
  (15, .aload_n 2, 1, (0, 0, 0, 0), 0, 0),
  (16, .getfield 312, 3, (5, 0, 0, 100005), 0, 0),
  (19, .if_icmp .ne 4, 3, (0, 0, 0, 999999), 0, 0),
  (22, .return_, 1, (0, 0, 0, 999999), 0, 0),
  (23, .aload_n 0, 1, (0, 0, 0, 0), 0, 0),
  (24, .getfield 25, 3, (0, 5, 2, 151), 0, 0),
  (27, .iconst 0, 1, (0, 0, 0, 0), 0, 0),
  (28, .iaload, 1, (0, 0, 0, 0), 0, 0),
  (29, .istore 4, 2, (0, 0, 0, 0), 0, 0),
  (31, .iconst 0, 1, (0, 0, 0, 0), 0, 0),
  (32, .istore 5, 2, (0, 0, 0, 0), 0, 0),
  (34, .iload 5, 2, (0, 0, 0, 0), 0, 0),
  (36, .bipush 24, 2, (0, 0, 0, 0), 24, 0),
  (38, .if_icmp .ge 98, 3, (0, 0, 0, 999999), 0, 0),
  (41, .aload_n 1, 1, (0, 0, 0, 0), 0, 0),
  (42, .getfield 251, 3, (5, 11, 2, 100012), 0, 0),
  (45, .getfield 195, 3, (1, 0, 2, 100001), 0, 0),
  (48, .iload 5, 2, (0, 0, 0, 0), 0, 0),
  (50, .iaload, 1, (0, 0, 0, 0), 0, 0),
  (51, .istore 6, 2, (0, 0, 0, 0), 0, 0),
  (53, .iconst 0, 1, (0, 0, 0, 0), 0, 0),
  (54, .istore 7, 2, (0, 0, 0, 0), 0, 0),
  (56, .iload 7, 2, (0, 0, 0, 0), 0, 0),
  (58, .iload 4, 2, (0, 0, 0, 0), 0, 0),
  (60, .if_icmp .ge 23, 3, (0, 0, 0, 999999), 0, 0),
  (63, .iload 6, 2, (0, 0, 0, 0), 0, 0),
  (65, .iload 6, 2, (0, 0, 0, 0), 0, 0),
  (67, .iconst 1, 1, (0, 0, 0, 0), 1, 0),
  (68, .ishl, 1, (0, 0, 0, 0), 0, 0),
  (69, .iload 6, 2, (0, 0, 0, 0), 0, 0),
  (71, .iconst 1, 1, (0, 0, 0, 0), 1, 0),
  (72, .iushr, 1, (0, 0, 0, 0), 0, 0),
  (73, .ior, 1, (0, 0, 0, 0), 0, 0),
  (74, .ior, 1, (0, 0, 0, 0), 0, 0),
  (75, .istore 6, 2, (0, 0, 0, 0), 0, 0),
  (77, .iinc 7 1, 3, (0, 0, 0, 0), 1, 0),
  (80, .goto (-24), 3, (0, 0, 0, 999999), 0, 0),
  (83, .bipush 23, 2, (0, 0, 0, 0), 23, 0),
  (85, .iload 5, 2, (0, 0, 0, 0), 0, 0),
  (87, .iload 4, 2, (0, 0, 0, 0), 0, 0),
  (89, .iadd, 1, (0, 0, 0, 0), 0, 0),
  (90, .invokestatic 44, 3, (0, 0, 0, 999999), 0, 0),
  (93, .istore 7, 2, (0, 0, 0, 0), 0, 0),
  (95, .iconst 0, 1, (0, 0, 0, 0), 0, 0),
  (96, .iload 5, 2, (0, 0, 0, 0), 0, 0),
  (98, .iload 4, 2, (0, 0, 0, 0), 0, 0),
  (100, .isub, 1, (0, 0, 0, 0), 0, 0),
  (101, .invokestatic 50, 3, (0, 0, 0, 999999), 0, 0),
  (104, .istore 8, 2, (0, 0, 0, 0), 0, 0),
  (106, .iload 8, 2, (0, 0, 0, 0), 0, 0),
  (108, .iload 7, 2, (0, 0, 0, 0), 0, 0),
  (110, .if_icmp .gt 20, 3, (0, 0, 0, 999999), 0, 0),
  (113, .aload_n 3, 1, (0, 0, 0, 0), 0, 0),
  (114, .iload 8, 2, (0, 0, 0, 0), 0, 0),
  (116, .dup2, 1, (0, 0, 0, 0), 0, 0),
  (117, .iaload, 1, (0, 0, 0, 0), 0, 0),
  (118, .iload 6, 2, (0, 0, 0, 0), 0, 0),
  (120, .iconst (-1), 1, (0, 0, 0, 0), -1, 0),
  (121, .ixor, 1, (0, 0, 0, 0), 0, 0),
  (122, .iand, 1, (0, 0, 0, 0), 0, 0),
  (123, .iastore, 1, (0, 0, 0, 0), 0, 0),
  (124, .iinc 8 1, 3, (0, 0, 0, 0), 1, 0),
  (127, .goto (-21), 3, (0, 0, 0, 999999), 0, 0),
  (130, .iinc 5 1, 3, (0, 0, 0, 0), 1, 0),
  (133, .goto (-99), 3, (0, 0, 0, 999999), 0, 0),
  (136, .return_, 1, (0, 0, 0, 999999), 0, 0)]
set_option maxRecDepth 100000 in
theorem k_PF_takeOffAhead : I_PF_takeOffAhead.all (q_okb M_PF_takeOffAhead) = true := by decide +kernel
theorem c_PF_takeOffAhead : Cond.code M_PF_takeOffAhead.1 M_PF_takeOffAhead.2.1 M_PF_takeOffAhead.2.2.1 M_PF_takeOffAhead.2.2.2.1 ∈ q_ws := List.mem_of_getElem? (i := 228) (by decide +kernel)
theorem w_PF_takeOffAhead : q_cw M_PF_takeOffAhead := ⟨Or.inl c_PF_takeOffAhead, List.mem_of_getElem? (i := 66) (by decide +kernel), by decide +kernel⟩
theorem n_PF_takeOffAhead : Cond.instanceMethod M_PF_takeOffAhead.1 ∈ q_ws := List.mem_of_getElem? (i := 227) (by decide +kernel)
theorem e_PF_takeOffAhead : Cond.selects "PlaneFills" M_PF_takeOffAhead.1 M_PF_takeOffAhead.1 ∈ q_ws := List.mem_of_getElem? (i := 8) (by decide +kernel)
theorem p_PF_takeOffAhead : plainFor M_PF_takeOffAhead.1 = true := by decide +kernel
theorem a_PF_takeOffAhead : (parseMethodDescriptor M_PF_takeOffAhead.1.desc).map (fun d => d.parameters.length) = some 3 := by decide +kernel
def M_PF_takeOffNecks : q_M := (⟨"PlaneFills", "takeOffNecks", "([I)Z"⟩, prog_1_method_32_code, 6, (Option.some FieldType.boolean), [])
def I_PF_takeOffNecks : List q_J := [(0, .aload_n 0, 1, (0, 0, 0, 0), 0, 0),
  (1, .getfield 25, 3, (0, 5, 2, 151), 0, 0),
  (4, .iconst 2, 1, (0, 0, 0, 0), 2, 0),
  (5, .iaload, 1, (0, 0, 0, 0), 0, 0),
  (6, .istore_n 2, 1, (0, 0, 0, 0), 0, 0),
  (7, .aload_n 0, 1, (0, 0, 0, 0), 0, 0),
  (8, .getfield 41, 3, (0, 8, 2, 154), 0, 0),
  (11, .iconst 0, 1, (0, 0, 0, 0), 0, 0),
  (12, .invokestatic 322, 3, (0, 0, 0, 999999), 0, 0),
  (15, .iconst 0, 1, (0, 0, 0, 0), 0, 0),
  (16, .istore_n 3, 1, (0, 0, 0, 0), 0, 0),
  (17, .iload_n 3, 1, (0, 0, 0, 0), 0, 0),
  (18, .iload_n 2, 1, (0, 0, 0, 0), 0, 0),
  (19, .iadd, 1, (0, 0, 0, 0), 0, 0),
  (20, .bipush 24, 2, (0, 0, 0, 0), 24, 0),
  (22, .if_icmp .gt 46, 3, (0, 0, 0, 999999), 0, 0),
  (25, .aload_n 1, 1, (0, 0, 0, 0), 0, 0),
  (26, .iload_n 3, 1, (0, 0, 0, 0), 0, 0),
  (27, .iload_n 2, 1, (0, 0, 0, 0), 0, 0),
  (28, .invokestatic 328, 3, (0, 0, 0, 999999), 0, 0),
  (31, .istore 4, 2, (0, 0, 0, 0), 0, 0),
  (33, .iconst 0, 1, (0, 0, 0, 0), 0, 0),
  (34, .istore 5, 2, (0, 0, 0, 0), 0, 0),
  (36, .iload 5, 2, (0, 0, 0, 0), 0, 0),
  (38, .iload_n 2, 1, (0, 0, 0, 0), 0, 0),
  (39, .if_icmp .ge 23, 3, (0, 0, 0, 999999), 0, 0),
  (42, .aload_n 0, 1, (0, 0, 0, 0), 0, 0),
  (43, .getfield 41, 3, (0, 8, 2, 154), 0, 0),
  (46, .iload_n 3, 1, (0, 0, 0, 0), 0, 0),
  (47, .iload 5, 2, (0, 0, 0, 0), 0, 0),
  (49, .iadd, 1, (0, 0, 0, 0), 0, 0),
  (50, .dup2, 1, (0, 0, 0, 0), 0, 0),
  (51, .iaload, 1, (0, 0, 0, 0), 0, 0),
  (52, .iload 4, 2, (0, 0, 0, 0), 0, 0),
  (54, .ior, 1, (0, 0, 0, 0), 0, 0),
  (55, .iastore, 1, (0, 0, 0, 0), 0, 0),
  (56, .iinc 5 1, 3, (0, 0, 0, 0), 1, 0),
  (59, .goto (-23), 3, (0, 0, 0, 999999), 0, 0),
  (62, .iinc 3 1, 3, (0, 0, 0, 0), 1, 0),
  (65, .goto (-48), 3, (0, 0, 0, 999999), 0, 0),
  (68, .iconst 0, 1, (0, 0, 0, 0), 0, 0),
  (69, .istore_n 3, 1, (0, 0, 0, 0), 0, 0),
  (70, .iconst 0, 1, (0, 0, 0, 0), 0, 0),
  (71, .istore 4, 2, (0, 0, 0, 0), 0, 0),
  (73, .iload 4, 2, (0, 0, 0, 0), 0, 0),
  (75, .bipush 24, 2, (0, 0, 0, 0), 24, 0),
  (77, .if_icmp .ge 42, 3, (0, 0, 0, 999999), 0, 0),
  (80, .iload_n 3, 1, (0, 0, 0, 0), 0, 0),
  (81, .aload_n 1, 1, (0, 0, 0, 0), 0, 0),
  (82, .iload 4, 2, (0, 0, 0, 0), 0, 0),
  (84, .iaload, 1, (0, 0, 0, 0), 0, 0),
  (85, .aload_n 0, 1, (0, 0, 0, 0), 0, 0),
  (86, .getfield 41, 3, (0, 8, 2, 154), 0, 0),
  (89, .iload 4, 2, (0, 0, 0, 0), 0, 0),
  (91, .iaload, 1, (0, 0, 0, 0), 0, 0),
  (92, .if_icmp .eq 7, 3, (0, 0, 0, 999999), 0, 0),
  (95, .iconst 1, 1, (0, 0, 0, 0), 1, 0),
  (96, .goto 4, 3, (0, 0, 0, 999999), 0, 0),
  (99, .iconst 0, 1, (0, 0, 0, 0), 0, 0),
  (100, .ior, 1, (0, 0, 0, 0), 0, 0),
  (101, .istore_n 3, 1, (0, 0, 0, 0), 0, 0),
  (102, .aload_n 1, 1, (0, 0, 0, 0), 0, 0),
  (103, .iload 4, 2, (0, 0, 0, 0), 0, 0),
  (105, .aload_n 0, 1, (0, 0, 0, 0), 0, 0),
  (106, .getfield 41, 3, (0, 8, 2, 154), 0, 0),
  (109, .iload 4, 2, (0, 0, 0, 0), 0, 0),
  (111, .iaload, 1, (0, 0, 0, 0), 0, 0),
  (112, .iastore, 1, (0, 0, 0, 0), 0, 0),
  (113, .iinc 4 1, 3, (0, 0, 0, 0), 1, 0),
  (116, .goto (-43), 3, (0, 0, 0, 999999), 0, 0),
  (119, .iload_n 3, 1, (0, 0, 0, 0), 0, 0),
  (120, .ireturn, 1, (0, 0, 0, 999999), 0, 0)]
set_option maxRecDepth 100000 in
theorem k_PF_takeOffNecks : I_PF_takeOffNecks.all (q_okb M_PF_takeOffNecks) = true := by decide +kernel
theorem c_PF_takeOffNecks : Cond.code M_PF_takeOffNecks.1 M_PF_takeOffNecks.2.1 M_PF_takeOffNecks.2.2.1 M_PF_takeOffNecks.2.2.2.1 ∈ q_ws := List.mem_of_getElem? (i := 231) (by decide +kernel)
theorem w_PF_takeOffNecks : q_cw M_PF_takeOffNecks := ⟨Or.inl c_PF_takeOffNecks, List.mem_of_getElem? (i := 66) (by decide +kernel), by decide +kernel⟩
theorem n_PF_takeOffNecks : Cond.instanceMethod M_PF_takeOffNecks.1 ∈ q_ws := List.mem_of_getElem? (i := 230) (by decide +kernel)
theorem e_PF_takeOffNecks : Cond.selects "PlaneFills" M_PF_takeOffNecks.1 M_PF_takeOffNecks.1 ∈ q_ws := List.mem_of_getElem? (i := 9) (by decide +kernel)
theorem p_PF_takeOffNecks : plainFor M_PF_takeOffNecks.1 = true := by decide +kernel
theorem a_PF_takeOffNecks : (parseMethodDescriptor M_PF_takeOffNecks.1.desc).map (fun d => d.parameters.length) = some 1 := by decide +kernel
def M_PF_cellsOfSquares : q_M := (⟨"PlaneFills", "cellsOfSquares", "([III)I"⟩, prog_1_method_33_code, 7, (Option.some FieldType.int), [])
def I_PF_cellsOfSquares : List q_J := [(0, .iconst (-1), 1, (0, 0, 0, 0), -1, 0),
  (1, .istore_n 3, 1, (0, 0, 0, 0), 0, 0),
  (2, .iconst 0, 1, (0, 0, 0, 0), 0, 0),
  (3, .istore 4, 2, (0, 0, 0, 0), 0, 0),
  (5, .iload 4, 2, (0, 0, 0, 0), 0, 0),
  (7, .iload_n 2, 1, (0, 0, 0, 0), 0, 0),
  (8, .if_icmp .ge 27, 3, (0, 0, 0, 999999), 0, 0),
  (11, .iload_n 1, 1, (0, 0, 0, 0), 0, 0),
  (12, .iload 4, 2, (0, 0, 0, 0), 0, 0),
  (14, .iadd, 1, (0, 0, 0, 0), 0, 0),
  (15, .bipush 24, 2, (0, 0, 0, 0), 24, 0),
  (17, .if_icmp .ge 18, 3, (0, 0, 0, 999999), 0, 0),
  (20, .iload_n 3, 1, (0, 0, 0, 0), 0, 0),
  (21, .aload_n 0, 1, (0, 0, 0, 0), 0, 0),
  (22, .iload_n 1, 1, (0, 0, 0, 0), 0, 0),
  (23, .iload 4, 2, (0, 0, 0, 0), 0, 0),
  (25, .iadd, 1, (0, 0, 0, 0), 0, 0),
  (26, .iaload, 1, (0, 0, 0, 0), 0, 0),
  (27, .iand, 1, (0, 0, 0, 0), 0, 0),
  (28, .istore_n 3, 1, (0, 0, 0, 0), 0, 0),
  (29, .iinc 4 1, 3, (0, 0, 0, 0), 1, 0),
  (32, .goto (-27), 3, (0, 0, 0, 999999), 0, 0),
  (35, .iload_n 3, 1, (0, 0, 0, 0), 0, 0),
  (36, .istore 4, 2, (0, 0, 0, 0), 0, 0),
  (38, .iconst 1, 1, (0, 0, 0, 0), 1, 0),
  (39, .istore 5, 2, (0, 0, 0, 0), 0, 0),
  (41, .iload 5, 2, (0, 0, 0, 0), 0, 0),
  (43, .iload_n 2, 1, (0, 0, 0, 0), 0, 0),
  (44, .if_icmp .ge 18, 3, (0, 0, 0, 999999), 0, 0),
  (47, .iload 4, 2, (0, 0, 0, 0), 0, 0),
  (49, .iload_n 3, 1, (0, 0, 0, 0), 0, 0),
  (50, .iload 5, 2, (0, 0, 0, 0), 0, 0),
  (52, .iushr, 1, (0, 0, 0, 0), 0, 0),
  (53, .iand, 1, (0, 0, 0, 0), 0, 0),
  (54, .istore 4, 2, (0, 0, 0, 0), 0, 0),
  (56, .iinc 5 1, 3, (0, 0, 0, 0), 1, 0),
  (59, .goto (-18), 3, (0, 0, 0, 999999), 0, 0),
  (62, .iload 4, 2, (0, 0, 0, 0), 0, 0),
  (64, .istore 5, 2, (0, 0, 0, 0), 0, 0),
  (66, .iconst 1, 1, (0, 0, 0, 0), 1, 0),
  (67, .istore 6, 2, (0, 0, 0, 0), 0, 0),
  (69, .iload 6, 2, (0, 0, 0, 0), 0, 0),
  (71, .iload_n 2, 1, (0, 0, 0, 0), 0, 0),
  (72, .if_icmp .ge 19, 3, (0, 0, 0, 999999), 0, 0),
  (75, .iload 5, 2, (0, 0, 0, 0), 0, 0),
  (77, .iload 4, 2, (0, 0, 0, 0), 0, 0),
  (79, .iload 6, 2, (0, 0, 0, 0), 0, 0),
  (81, .ishl, 1, (0, 0, 0, 0), 0, 0),
  (82, .ior, 1, (0, 0, 0, 0), 0, 0),
  (83, .istore 5, 2, (0, 0, 0, 0), 0, 0),
  (85, .iinc 6 1, 3, (0, 0, 0, 0), 1, 0),
  (88, .goto (-19), 3, (0, 0, 0, 999999), 0, 0),
  (91, .iload 5, 2, (0, 0, 0, 0), 0, 0),
  (93, .ireturn, 1, (0, 0, 0, 999999), 0, 0)]
set_option maxRecDepth 100000 in
theorem k_PF_cellsOfSquares : I_PF_cellsOfSquares.all (q_okb M_PF_cellsOfSquares) = true := by decide +kernel
theorem c_PF_cellsOfSquares : Cond.code M_PF_cellsOfSquares.1 M_PF_cellsOfSquares.2.1 M_PF_cellsOfSquares.2.2.1 M_PF_cellsOfSquares.2.2.2.1 ∈ q_ws := List.mem_of_getElem? (i := 237) (by decide +kernel)
theorem w_PF_cellsOfSquares : q_cw M_PF_cellsOfSquares := ⟨Or.inl c_PF_cellsOfSquares, List.mem_of_getElem? (i := 66) (by decide +kernel), by decide +kernel⟩
theorem s_PF_cellsOfSquares : Cond.static M_PF_cellsOfSquares.1 ∈ q_ws := List.mem_of_getElem? (i := 236) (by decide +kernel)
theorem p_PF_cellsOfSquares : plainFor M_PF_cellsOfSquares.1 = true := by decide +kernel
theorem a_PF_cellsOfSquares : (parseMethodDescriptor M_PF_cellsOfSquares.1.desc).map (fun d => d.parameters.length) = some 3 := by decide +kernel
def M_PF_takeOffHatching : q_M := (⟨"PlaneFills", "takeOffHatching", "(LPlaneFills$Plane;[I)V"⟩, prog_1_method_34_code, 5, (Option.none : Option FieldType), [])
def I_PF_takeOffHatching : List q_J := [(0, .aload_n 0, 1, (0, 0, 0, 0), 0, 0),
  (1, .getfield 236, 3, (5, 8, 0, 100009), 0, 0),
  (4, .istore_n 2, 1, (0, 0, 0, 0), 0, 0),
  (5, .iload_n 2, 1, (0, 0, 0, 0), 0, 0),
  (6, .ifCond .gt 4, 3, (0, 0, 0, 999999), 0, 0),
  (9, .return_, 1, (0, 0, 0, 999999), 0, 0),
  (10, .iload_n 2, 1, (0, 0, 0, 0), 0, 0),
  (11, .aload_n 0, 1, (0, 0, 0, 0), 0, 0),
  (12, .getfield 239, 3, (5, 9, 0, 100010), 0, 0),
  (15, .invokestatic 223, 3, (0, 0, 0, 999999), 0, 0),
  (18, .istore_n 3, 1, (0, 0, 0, 0), 0, 0),
  (19, .iconst 0, 1, (0, 0, 0, 0), 0, 0),
  (20, .istore 4, 2, (0, 0, 0, 0), 0, 0),
  (22, .iload 4, 2, (0, 0, 0, 0), 0, 0),
  (24, .bipush 24, 2, (0, 0, 0, 0), 24, 0),
  (26, .if_icmp .ge 28, 3, (0, 0, 0, 999999), 0, 0),
  (29, .iload 4, 2, (0, 0, 0, 0), 0, 0),
  (31, .iload_n 2, 1, (0, 0, 0, 0), 0, 0),
  (32, .irem, 1, (0, 0, 0, 0), 0, 0),
  (33, .aload_n 0, 1, (0, 0, 0, 0), 0, 0),
  (34, .getfield 239, 3, (5, 9, 0, 100010), 0, 0),
  (37, .if_icmp .lt 11, 3, (0, 0, 0, 999999), 0, 0),
  (40, .aload_n 1, 1, (0, 0, 0, 0), 0, 0),
  (41, .iload 4, 2, (0, 0, 0, 0), 0, 0),
  (43, .dup2, 1, (0, 0, 0, 0), 0, 0),
  (44, .iaload, 1, (0, 0, 0, 0), 0, 0),
  (45, .iload_n 3, 1, (0, 0, 0, 0), 0, 0),
  (46, .iand, 1, (0, 0, 0, 0), 0, 0),
  (47, .iastore, 1, (0, 0, 0, 0), 0, 0),
  (48, .iinc 4 1, 3, (0, 0, 0, 0), 1, 0),
  (51, .goto (-29), 3, (0, 0, 0, 999999), 0, 0),
  (54, .return_, 1, (0, 0, 0, 999999), 0, 0)]
set_option maxRecDepth 100000 in
theorem k_PF_takeOffHatching : I_PF_takeOffHatching.all (q_okb M_PF_takeOffHatching) = true := by decide +kernel
theorem c_PF_takeOffHatching : Cond.code M_PF_takeOffHatching.1 M_PF_takeOffHatching.2.1 M_PF_takeOffHatching.2.2.1 M_PF_takeOffHatching.2.2.2.1 ∈ q_ws := List.mem_of_getElem? (i := 240) (by decide +kernel)
theorem w_PF_takeOffHatching : q_cw M_PF_takeOffHatching := ⟨Or.inl c_PF_takeOffHatching, List.mem_of_getElem? (i := 66) (by decide +kernel), by decide +kernel⟩
theorem s_PF_takeOffHatching : Cond.static M_PF_takeOffHatching.1 ∈ q_ws := List.mem_of_getElem? (i := 239) (by decide +kernel)
theorem p_PF_takeOffHatching : plainFor M_PF_takeOffHatching.1 = true := by decide +kernel
theorem a_PF_takeOffHatching : (parseMethodDescriptor M_PF_takeOffHatching.1.desc).map (fun d => d.parameters.length) = some 2 := by decide +kernel
def M_PF_columnsBelow : q_M := (⟨"PlaneFills", "columnsBelow", "(II)I"⟩, prog_1_method_25_code, 4, (Option.some FieldType.int), [])
def I_PF_columnsBelow : List q_J := [(0, .iconst 0, 1, (0, 0, 0, 0), 0, 0),
  (1, .istore_n 2, 1, (0, 0, 0, 0), 0, 0),
  (2, .iload_n 0, 1, (0, 0, 0, 0), 0, 0),
  (3, .ifCond .le 32, 3, (0, 0, 0, 999999), 0, 0),
  (6, .iconst 0, 1, (0, 0, 0, 0), 0, 0),
  (7, .istore_n 3, 1, (0, 0, 0, 0), 0, 0),
  (8, .iload_n 3, 1, (0, 0, 0, 0), 0, 0),
  (9, .bipush 32, 2, (0, 0, 0, 0), 32, 0),
  (11, .if_icmp .ge 24, 3, (0, 0, 0, 999999), 0, 0),
  (14, .iload_n 2, 1, (0, 0, 0, 0), 0, 0),
  (15, .iload_n 3, 1, (0, 0, 0, 0), 0, 0),
  (16, .i2l, 1, (0, 0, 0, 0), 0, 0),
  (17, .iload_n 3, 1, (0, 0, 0, 0), 0, 0),
  (18, .iload_n 1, 1, (0, 0, 0, 0), 0, 0),
  (19, .iadd, 1, (0, 0, 0, 0), 0, 0),
  (20, .iconst 1, 1, (0, 0, 0, 0), 1, 0),
  (21, .isub, 1, (0, 0, 0, 0), 0, 0),
  (22, .i2l, 1, (0, 0, 0, 0), 0, 0),
  (23, .invokestatic 198, 3, (0, 0, 0, 999999), 0, 0),
  (26, .ior, 1, (0, 0, 0, 0), 0, 0),
  (27, .istore_n 2, 1, (0, 0, 0, 0), 0, 0),
  (28, .iload_n 3, 1, (0, 0, 0, 0), 0, 0),
  (29, .iload_n 0, 1, (0, 0, 0, 0), 0, 0),
  (30, .iadd, 1, (0, 0, 0, 0), 0, 0),
  (31, .istore_n 3, 1, (0, 0, 0, 0), 0, 0),
  (32, .goto (-24), 3, (0, 0, 0, 999999), 0, 0),
  (35, .iload_n 2, 1, (0, 0, 0, 0), 0, 0),
  (36, .ireturn, 1, (0, 0, 0, 999999), 0, 0)]
set_option maxRecDepth 100000 in
theorem k_PF_columnsBelow : I_PF_columnsBelow.all (q_okb M_PF_columnsBelow) = true := by decide +kernel
theorem c_PF_columnsBelow : Cond.code M_PF_columnsBelow.1 M_PF_columnsBelow.2.1 M_PF_columnsBelow.2.2.1 M_PF_columnsBelow.2.2.2.1 ∈ q_ws := List.mem_of_getElem? (i := 243) (by decide +kernel)
theorem w_PF_columnsBelow : q_cw M_PF_columnsBelow := ⟨Or.inl c_PF_columnsBelow, List.mem_of_getElem? (i := 66) (by decide +kernel), by decide +kernel⟩
theorem s_PF_columnsBelow : Cond.static M_PF_columnsBelow.1 ∈ q_ws := List.mem_of_getElem? (i := 242) (by decide +kernel)
theorem p_PF_columnsBelow : plainFor M_PF_columnsBelow.1 = true := by decide +kernel
theorem a_PF_columnsBelow : (parseMethodDescriptor M_PF_columnsBelow.1.desc).map (fun d => d.parameters.length) = some 2 := by decide +kernel
def M_PF_takeOffIslands : q_M := (⟨"PlaneFills", "takeOffIslands", "(LPlaneFills$Plane;)V"⟩, prog_1_method_35_code, 4, (Option.none : Option FieldType), [])
def I_PF_takeOffIslands : List q_J := [(0, .aload_n 1, 1, (0, 0, 0, 0), 0, 0),
  (1, .getfield 251, 3, (5, 11, 2, 100012), 0, 0),
  (4, .astore_n 2, 1, (0, 0, 0, 0), 0, 0),
  (5, .aload_n 2, 1, (0, 0, 0, 0), 0, 0),
  (6, .iconst 0, 1, (0, 0, 0, 0), 0, 0),
  (7, .putfield 160, 3, (1, 1, 0, 100002), 0, 0),
  (10, .aload_n 2, 1, (0, 0, 0, 0), 0, 0),
  (11, .iconst 0, 1, (0, 0, 0, 0), 0, 0),
  (12, .putfield 202, 3, (1, 2, 0, 100003), 0, 0),
  (15, .aload_n 0, 1, (0, 0, 0, 0), 0, 0),
  (16, .getfield 34, 3, (0, 6, 2, 152), 0, 0),
  (19, .aload_n 2, 1, (0, 0, 0, 0), 0, 0),
  (20, .getfield 195, 3, (1, 0, 2, 100001), 0, 0),
  (23, .invokevirtual 332, 3, (0, 0, 0, 999999), 0, 0),
  (26, .iconst 0, 1, (0, 0, 0, 0), 0, 0),
  (27, .istore_n 3, 1, (0, 0, 0, 0), 0, 0),
  (28, .iload_n 3, 1, (0, 0, 0, 0), 0, 0),
  (29, .sipush 768, 3, (0, 0, 0, 0), 768, 0),
  (32, .if_icmp .ge 77, 3, (0, 0, 0, 999999), 0, 0),
  (35, .aload_n 0, 1, (0, 0, 0, 0), 0, 0),
  (36, .getfield 34, 3, (0, 6, 2, 152), 0, 0),
  (39, .invokevirtual 335, 3, (0, 0, 0, 999999), 0, 0),
  (42, .ifCond .eq 67, 3, (0, 0, 0, 999999), 0, 0),
  (45, .aload_n 0, 1, (0, 0, 0, 0), 0, 0),
  (46, .getfield 34, 3, (0, 6, 2, 152), 0, 0),
  (49, .invokevirtual 338, 3, (0, 0, 0, 999999), 0, 0),
  (52, .aload_n 0, 1, (0, 0, 0, 0), 0, 0),
  (53, .getfield 25, 3, (0, 5, 2, 151), 0, 0),
  (56, .iconst 3, 1, (0, 0, 0, 0), 3, 0),
  (57, .iaload, 1, (0, 0, 0, 0), 0, 0),
  (58, .if_icmp .ge 35, 3, (0, 0, 0, 999999), 0, 0),
  (61, .aload_n 0, 1, (0, 0, 0, 0), 0, 0),
  (62, .aload_n 1, 1, (0, 0, 0, 0), 0, 0),
  (63, .invokevirtual 339, 3, (0, 0, 0, 999999), 0, 0),
  (66, .ifCond .ne 27, 3, (0, 0, 0, 999999), 0, 0),
  (69, .aload_n 2, 1, (0, 0, 0, 0), 0, 0),
  (70, .dup, 1, (0, 0, 0, 0), 0, 0),
  (71, .getfield 202, 3, (1, 2, 0, 100003), 0, 0),
  (74, .iconst 1, 1, (0, 0, 0, 0), 1, 0),
  (75, .iadd, 1, (0, 0, 0, 0), 0, 0),
  (76, .putfield 202, 3, (1, 2, 0, 100003), 0, 0),
  (79, .aload_n 0, 1, (0, 0, 0, 0), 0, 0),
  (80, .getfield 34, 3, (0, 6, 2, 152), 0, 0),
  (83, .aload_n 2, 1, (0, 0, 0, 0), 0, 0),
  (84, .getfield 195, 3, (1, 0, 2, 100001), 0, 0),
  (87, .invokevirtual 343, 3, (0, 0, 0, 999999), 0, 0),
  (90, .goto 13, 3, (0, 0, 0, 999999), 0, 0),
  (93, .aload_n 2, 1, (0, 0, 0, 0), 0, 0),
  (94, .dup, 1, (0, 0, 0, 0), 0, 0),
  (95, .getfield 160, 3, (1, 1, 0, 100002), 0, 0),
  (98, .iconst 1, 1, (0, 0, 0, 0), 1, 0),
  (99, .iadd, 1, (0, 0, 0, 0), 0, 0),
  (100, .putfield 160, 3, (1, 1, 0, 100002), 0, 0),
  (103, .iinc 3 1, 3, (0, 0, 0, 0), 1, 0),
  (106, .goto (-78), 3, (0, 0, 0, 999999), 0, 0),
  (109, .return_, 1, (0, 0, 0, 999999), 0, 0)]
set_option maxRecDepth 100000 in
theorem k_PF_takeOffIslands : I_PF_takeOffIslands.all (q_okb M_PF_takeOffIslands) = true := by decide +kernel
theorem c_PF_takeOffIslands : Cond.code M_PF_takeOffIslands.1 M_PF_takeOffIslands.2.1 M_PF_takeOffIslands.2.2.1 M_PF_takeOffIslands.2.2.2.1 ∈ q_ws := List.mem_of_getElem? (i := 247) (by decide +kernel)
theorem w_PF_takeOffIslands : q_cw M_PF_takeOffIslands := ⟨Or.inl c_PF_takeOffIslands, List.mem_of_getElem? (i := 66) (by decide +kernel), by decide +kernel⟩
theorem n_PF_takeOffIslands : Cond.instanceMethod M_PF_takeOffIslands.1 ∈ q_ws := List.mem_of_getElem? (i := 246) (by decide +kernel)
theorem e_PF_takeOffIslands : Cond.selects "PlaneFills" M_PF_takeOffIslands.1 M_PF_takeOffIslands.1 ∈ q_ws := List.mem_of_getElem? (i := 10) (by decide +kernel)
theorem p_PF_takeOffIslands : plainFor M_PF_takeOffIslands.1 = true := by decide +kernel
theorem a_PF_takeOffIslands : (parseMethodDescriptor M_PF_takeOffIslands.1.desc).map (fun d => d.parameters.length) = some 1 := by decide +kernel
def M_PF_pieceHasPad : q_M := (⟨"PlaneFills", "pieceHasPad", "(LPlaneFills$Plane;)Z"⟩, prog_1_method_36_code, 4, (Option.some FieldType.boolean), [])
def I_PF_pieceHasPad : List q_J := [(0, .iconst 0, 1, (0, 0, 0, 0), 0, 0),
  (1, .istore_n 2, 1, (0, 0, 0, 0), 0, 0),
  (2, .iload_n 2, 1, (0, 0, 0, 0), 0, 0),
  (3, .aload_n 0, 1, (0, 0, 0, 0), 0, 0),
  (4, .getfield 22, 3, (0, 4, 2, 150), 0, 0),
  (7, .invokeinterface 71 1, 5, (0, 0, 0, 999999), 0, 0),
  (12, .if_icmp .ge 58, 3, (0, 0, 0, 999999), 0, 0),
  (15, .aload_n 0, 1, (0, 0, 0, 0), 0, 0),
  (16, .getfield 22, 3, (0, 4, 2, 150), 0, 0),
  (19, .iload_n 2, 1, (0, 0, 0, 0), 0, 0),
  (20, .invokeinterface 149 2, 5, (0, 0, 0, 999999), 0, 0),
  (25, .checkcast 141, 3, (0, 0, 0, 999999), 0, 0),
  (28, .astore_n 3, 1, (0, 0, 0, 0), 0, 0),
  (29, .aload_n 3, 1, (0, 0, 0, 0), 0, 0),
  (30, .getfield 316, 3, (4, 1, 0, 100016), 0, 0),
  (33, .aload_n 1, 1, (0, 0, 0, 0), 0, 0),
  (34, .getfield 308, 3, (5, 1, 0, 100006), 0, 0),
  (37, .if_icmp .ne 27, 3, (0, 0, 0, 999999), 0, 0),
  (40, .aload_n 3, 1, (0, 0, 0, 0), 0, 0),
  (41, .getfield 317, 3, (4, 0, 0, 100015), 0, 0),
  (44, .aload_n 1, 1, (0, 0, 0, 0), 0, 0),
  (45, .getfield 312, 3, (5, 0, 0, 100005), 0, 0),
  (48, .if_icmp .ne 16, 3, (0, 0, 0, 999999), 0, 0),
  (51, .aload_n 0, 1, (0, 0, 0, 0), 0, 0),
  (52, .getfield 34, 3, (0, 6, 2, 152), 0, 0),
  (55, .aload_n 3, 1, (0, 0, 0, 0), 0, 0),
  (56, .invokevirtual 346, 3, (0, 0, 0, 999999), 0, 0),
  (59, .ifCond .eq 5, 3, (0, 0, 0, 999999), 0, 0),
  (62, .iconst 1, 1, (0, 0, 0, 0), 1, 0),
  (63, .ireturn, 1, (0, 0, 0, 999999), 0, 0),
  (64, .iinc 2 1, 3, (0, 0, 0, 0), 1, 0),
  (67, .goto (-65), 3, (0, 0, 0, 999999), 0, 0),
  (70, .iconst 0, 1, (0, 0, 0, 0), 0, 0),
  (71, .ireturn, 1, (0, 0, 0, 999999), 0, 0)]
set_option maxRecDepth 100000 in
theorem k_PF_pieceHasPad : I_PF_pieceHasPad.all (q_okb M_PF_pieceHasPad) = true := by decide +kernel
theorem c_PF_pieceHasPad : Cond.code M_PF_pieceHasPad.1 M_PF_pieceHasPad.2.1 M_PF_pieceHasPad.2.2.1 M_PF_pieceHasPad.2.2.2.1 ∈ q_ws := List.mem_of_getElem? (i := 276) (by decide +kernel)
theorem w_PF_pieceHasPad : q_cw M_PF_pieceHasPad := ⟨Or.inl c_PF_pieceHasPad, List.mem_of_getElem? (i := 66) (by decide +kernel), by decide +kernel⟩
theorem n_PF_pieceHasPad : Cond.instanceMethod M_PF_pieceHasPad.1 ∈ q_ws := List.mem_of_getElem? (i := 275) (by decide +kernel)
theorem e_PF_pieceHasPad : Cond.selects "PlaneFills" M_PF_pieceHasPad.1 M_PF_pieceHasPad.1 ∈ q_ws := List.mem_of_getElem? (i := 18) (by decide +kernel)
theorem p_PF_pieceHasPad : plainFor M_PF_pieceHasPad.1 = true := by decide +kernel
theorem a_PF_pieceHasPad : (parseMethodDescriptor M_PF_pieceHasPad.1.desc).map (fun d => d.parameters.length) = some 1 := by decide +kernel
def M_PF_changed : q_M := (⟨"PlaneFills", "changed", "(JJJJ)Z"⟩, prog_1_method_16_code, 15, (Option.some FieldType.boolean), [])
def I_PF_changed : List q_J := [(0, .lload_n 1, 1, (0, 0, 0, 0), 0, 0),
  (1, .lload 5, 2, (0, 0, 0, 0), 0, 0),
  (3, .invokestatic 198, 3, (0, 0, 0, 999999), 0, 0),
  (6, .istore 9, 2, (0, 0, 0, 0), 0, 0),
  (8, .lconst 0, 1, (0, 0, 0, 0), 0, 0),
  (9, .ldc2_w 137, 3, (0, 0, 0, 286), 0, 24),
  (12, .lload_n 3, 1, (0, 0, 0, 0), 0, 0),
  (13, .invokestatic 242, 3, (0, 0, 0, 999999), 0, 0),
  (16, .invokestatic 245, 3, (0, 0, 0, 999999), 0, 0),
  (19, .l2i, 1, (0, 0, 0, 0), 0, 0),
  (20, .istore 10, 2, (0, 0, 0, 0), 0, 0),
  (22, .ldc2_w 247, 3, (0, 0, 0, 287), 0, -1),
  (25, .ldc2_w 249, 3, (0, 0, 0, 288), 0, 23),
  (28, .lload 7, 2, (0, 0, 0, 0), 0, 0),
  (30, .invokestatic 242, 3, (0, 0, 0, 999999), 0, 0),
  (33, .invokestatic 245, 3, (0, 0, 0, 999999), 0, 0),
  (36, .l2i, 1, (0, 0, 0, 0), 0, 0),
  (37, .istore 11, 2, (0, 0, 0, 0), 0, 0),
  (39, .aload_n 0, 1, (0, 0, 0, 0), 0, 0),
  (40, .invokevirtual 146, 3, (0, 0, 0, 999999), 0, 0),
  (43, .iconst 0, 1, (0, 0, 0, 0), 0, 0),
  (44, .istore 12, 2, (0, 0, 0, 0), 0, 0),
  (46, .iload 12, 2, (0, 0, 0, 0), 0, 0),
  (48, .aload_n 0, 1, (0, 0, 0, 0), 0, 0),
  (49, .getfield 12, 3, (0, 1, 2, 147), 0, 0),
  (52, .invokeinterface 71 1, 5, (0, 0, 0, 999999), 0, 0),
  (57, .if_icmp .ge 73, 3, (0, 0, 0, 999999), 0, 0),
  (60, .aload_n 0, 1, (0, 0, 0, 0), 0, 0),
  (61, .getfield 12, 3, (0, 1, 2, 147), 0, 0),
  (64, .iload 12, 2, (0, 0, 0, 0), 0, 0),
  (66, .invokeinterface 149 2, 5, (0, 0, 0, 999999), 0, 0),
  (71, .checkcast 77, 3, (0, 0, 0, 999999), 0, 0),
  (74, .astore 13, 2, (0, 0, 0, 0), 0, 0),
  (76, .iload 10, 2, (0, 0, 0, 0), 0, 0),
  (78, .istore 14, 2, (0, 0, 0, 0), 0, 0),
  (80, .iload 14, 2, (0, 0, 0, 0), 0, 0),
  (82, .iload 11, 2, (0, 0, 0, 0), 0, 0),
  (84, .if_icmp .gt 40, 3, (0, 0, 0, 999999), 0, 0),
  (87, .aload 13, 2, (0, 0, 0, 0), 0, 0),
  (89, .getfield 156, 3, (5, 10, 2, 100011), 0, 0),
  (92, .getfield 195, 3, (1, 0, 2, 100001), 0, 0),
  (95, .iload 14, 2, (0, 0, 0, 0), 0, 0),
  (97, .iaload, 1, (0, 0, 0, 0), 0, 0),
  (98, .aload 13, 2, (0, 0, 0, 0), 0, 0),
  (100, .getfield 251, 3, (5, 11, 2, 100012), 0, 0),
  (103, .getfield 195, 3, (1, 0, 2, 100001), 0, 0),
  (106, .iload 14, 2, (0, 0, 0, 0), 0, 0),
  (108, .iaload, 1, (0, 0, 0, 0), 0, 0),
  (109, .ixor, 1, (0, 0, 0, 0), 0, 0),
  (110, .iload 9, 2, (0, 0, 0, 0), 0, 0),
  (112, .iand, 1, (0, 0, 0, 0), 0, 0),
  (113, .ifCond .eq 5, 3, (0, 0, 0, 999999), 0, 0),
  (116, .iconst 0, 1, (0, 0, 0, 0), 0, 0),
  (117, .ireturn, 1, (0, 0, 0, 999999), 0, 0),
  (118, .iinc 14 1, 3, (0, 0, 0, 0), 1, 0),
  (121, .goto (-41), 3, (0, 0, 0, 999999), 0, 0),
  (124, .iinc 12 1, 3, (0, 0, 0, 0), 1, 0),
  (127, .goto (-81), 3, (0, 0, 0, 999999), 0, 0),
  (130, .iconst 1, 1, (0, 0, 0, 0), 1, 0),
  (131, .ireturn, 1, (0, 0, 0, 999999), 0, 0)]
set_option maxRecDepth 100000 in
theorem k_PF_changed : I_PF_changed.all (q_okb M_PF_changed) = true := by decide +kernel
theorem c_PF_changed : Cond.code M_PF_changed.1 M_PF_changed.2.1 M_PF_changed.2.2.1 M_PF_changed.2.2.2.1 ∈ q_ws := List.mem_of_getElem? (i := 285) (by decide +kernel)
theorem w_PF_changed : q_cw M_PF_changed := ⟨Or.inl c_PF_changed, List.mem_of_getElem? (i := 66) (by decide +kernel), by decide +kernel⟩
theorem n_PF_changed : Cond.instanceMethod M_PF_changed.1 ∈ q_ws := List.mem_of_getElem? (i := 283) (by decide +kernel)
theorem e_PF_changed : Cond.selects "PlaneFills" M_PF_changed.1 M_PF_changed.1 ∈ q_ws := List.mem_of_getElem? (i := 284) (by decide +kernel)
theorem p_PF_changed : plainFor M_PF_changed.1 = true := by decide +kernel
theorem a_PF_changed : (parseMethodDescriptor M_PF_changed.1.desc).map (fun d => d.parameters.length) = some 4 := by decide +kernel
def M_PF_plane : q_M := (⟨"PlaneFills", "plane", "(III)I"⟩, prog_1_method_2_code, 5, (Option.some FieldType.int), [])
def I_PF_plane : List q_J := [(0, .aload_n 0, 1, (0, 0, 0, 0), 0, 0),
  (1, .iload_n 2, 1, (0, 0, 0, 0), 0, 0),
  (2, .invokevirtual 57, 3, (0, 0, 0, 999999), 0, 0),
  (5, .iload_n 1, 1, (0, 0, 0, 0), 0, 0),
  (6, .invokestatic 61, 3, (0, 0, 0, 999999), 0, 0),
  (9, .iload_n 3, 1, (0, 0, 0, 0), 0, 0),
  (10, .bipush (-100), 2, (0, 0, 0, 0), -100, 0),
  (12, .if_icmp .lt 9, 3, (0, 0, 0, 999999), 0, 0),
  (15, .iload_n 3, 1, (0, 0, 0, 0), 0, 0),
  (16, .bipush 100, 2, (0, 0, 0, 0), 100, 0),
  (18, .if_icmp .le 13, 3, (0, 0, 0, 999999), 0, 0),
  (21, .new 64, 3, (0, 0, 0, 999999), 0, 0),
  (24, .dup, 1, (0, 0, 0, 0), 0, 0),
  (25, .ldc 66, 2, (0, 0, 0, 999999), 0, 0),
  (27, .invokespecial 68, 3, (0, 0, 0, 999999), 0, 0),
  (30, .athrow, 1, (0, 0, 0, 999999), 0, 0),
  (31, .aload_n 0, 1, (0, 0, 0, 0), 0, 0),
  (32, .getfield 12, 3, (0, 1, 2, 147), 0, 0),
  (35, .invokeinterface 71 1, 5, (0, 0, 0, 999999), 0, 0),
  (40, .bipush 8, 2, (0, 0, 0, 0), 8, 0),
  (42, .if_icmp .lt 5, 3, (0, 0, 0, 999999), 0, 0),
  (45, .iconst (-1), 1, (0, 0, 0, 0), -1, 0),
  (46, .ireturn, 1, (0, 0, 0, 999999), 0, 0),
  (47, .new 77, 3, (0, 0, 0, 999999), 0, 0),
  (50, .dup, 1, (0, 0, 0, 0), 0, 0),
  (51, .iload_n 1, 1, (0, 0, 0, 0), 0, 0),
  (52, .iload_n 2, 1, (0, 0, 0, 0), 0, 0),
  (53, .iload_n 3, 1, (0, 0, 0, 0), 0, 0),
  (54, .invokespecial 79, 3, (0, 0, 0, 999999), 0, 0),
  (57, .astore 4, 2, (0, 0, 0, 0), 0, 0),
  (59, .aload_n 0, 1, (0, 0, 0, 0), 0, 0),
  (60, .getfield 16, 3, (0, 2, 2, 148), 0, 0),
  (63, .aload_n 0, 1, (0, 0, 0, 0), 0, 0),
  (64, .iload_n 3, 1, (0, 0, 0, 0), 0, 0),
  (65, .invokevirtual 82, 3, (0, 0, 0, 999999), 0, 0),
  (68, .aload 4, 2, (0, 0, 0, 0), 0, 0),
  (70, .invokeinterface 86 3, 5, (0, 0, 0, 999999), 0, 0),
  (75, .aload_n 0, 1, (0, 0, 0, 0), 0, 0),
  (76, .getfield 12, 3, (0, 1, 2, 147), 0, 0),
  (79, .aload 4, 2, (0, 0, 0, 0), 0, 0),
  (81, .invokeinterface 90 2, 5, (0, 0, 0, 999999), 0, 0),
  (86, .pop, 1, (0, 0, 0, 0), 0, 0),
  (87, .aload_n 0, 1, (0, 0, 0, 0), 0, 0),
  (88, .getfield 12, 3, (0, 1, 2, 147), 0, 0),
  (91, .invokeinterface 71 1, 5, (0, 0, 0, 999999), 0, 0),
  (96, .iconst 1, 1, (0, 0, 0, 0), 1, 0),
  (97, .isub, 1, (0, 0, 0, 0), 0, 0),
  (98, .ireturn, 1, (0, 0, 0, 999999), 0, 0)]
set_option maxRecDepth 100000 in
theorem k_PF_plane : I_PF_plane.all (q_okb M_PF_plane) = true := by decide +kernel
theorem c_PF_plane : Cond.code M_PF_plane.1 M_PF_plane.2.1 M_PF_plane.2.2.1 M_PF_plane.2.2.2.1 ∈ q_ws := List.mem_of_getElem? (i := 300) (by decide +kernel)
theorem w_PF_plane : q_cw M_PF_plane := ⟨Or.inl c_PF_plane, List.mem_of_getElem? (i := 66) (by decide +kernel), by decide +kernel⟩
theorem n_PF_plane : Cond.instanceMethod M_PF_plane.1 ∈ q_ws := List.mem_of_getElem? (i := 298) (by decide +kernel)
theorem e_PF_plane : Cond.selects "PlaneFills" M_PF_plane.1 M_PF_plane.1 ∈ q_ws := List.mem_of_getElem? (i := 299) (by decide +kernel)
theorem p_PF_plane : plainFor M_PF_plane.1 = true := by decide +kernel
theorem a_PF_plane : (parseMethodDescriptor M_PF_plane.1.desc).map (fun d => d.parameters.length) = some 3 := by decide +kernel
def M_PF_requireLayer : q_M := (⟨"PlaneFills", "requireLaye\x72", "(I)V"⟩, prog_1_method_18_code, 2, (Option.none : Option FieldType), [])
def I_PF_requireLayer : List q_J := [(0, .iload_n 1, 1, (0, 0, 0, 0), 0, 0),
  (1, .ifCond .lt 11, 3, (0, 0, 0, 999999), 0, 0),
  (4, .iload_n 1, 1, (0, 0, 0, 0), 0, 0),
  (5, .aload_n 0, 1, (0, 0, 0, 0), 0, 0),
  (6, .getfield 53, 3, (0, 0, 0, 146), 0, 0),
  (9, .if_icmp .lt 14, 3, (0, 0, 0, 999999), 0, 0),
  (12, .new 118, 3, (0, 0, 0, 999999), 0, 0),
  (15, .dup, 1, (0, 0, 0, 0), 0, 0),
  (16, .ldc_w 258, 3, (0, 0, 0, 999999), 0, 0),
  (19, .invokespecial 122, 3, (0, 0, 0, 999999), 0, 0),
  (22, .athrow, 1, (0, 0, 0, 999999), 0, 0),
  (23, .return_, 1, (0, 0, 0, 999999), 0, 0)]
set_option maxRecDepth 100000 in
theorem k_PF_requireLayer : I_PF_requireLayer.all (q_okb M_PF_requireLayer) = true := by decide +kernel
theorem c_PF_requireLayer : Cond.code M_PF_requireLayer.1 M_PF_requireLayer.2.1 M_PF_requireLayer.2.2.1 M_PF_requireLayer.2.2.2.1 ∈ q_ws := List.mem_of_getElem? (i := 303) (by decide +kernel)
theorem w_PF_requireLayer : q_cw M_PF_requireLayer := ⟨Or.inl c_PF_requireLayer, List.mem_of_getElem? (i := 66) (by decide +kernel), by decide +kernel⟩
theorem n_PF_requireLayer : Cond.instanceMethod M_PF_requireLayer.1 ∈ q_ws := List.mem_of_getElem? (i := 302) (by decide +kernel)
theorem e_PF_requireLayer : Cond.selects "PlaneFills" M_PF_requireLayer.1 M_PF_requireLayer.1 ∈ q_ws := List.mem_of_getElem? (i := 21) (by decide +kernel)
theorem p_PF_requireLayer : plainFor M_PF_requireLayer.1 = true := by decide +kernel
theorem a_PF_requireLayer : (parseMethodDescriptor M_PF_requireLayer.1.desc).map (fun d => d.parameters.length) = some 1 := by decide +kernel
def M_PF_requireNet : q_M := (⟨"PlaneFills", "requireNet", "(I)V"⟩, prog_1_method_19_code, 1, (Option.none : Option FieldType), [])
def I_PF_requireNet : List q_J := [(0, .iload_n 0, 1, (0, 0, 0, 0), 0, 0),
  (1, .ifCond .lt 9, 3, (0, 0, 0, 999999), 0, 0),
  (4, .iload_n 0, 1, (0, 0, 0, 0), 0, 0),
  (5, .bipush 99, 2, (0, 0, 0, 0), 99, 0),
  (7, .if_icmp .le 14, 3, (0, 0, 0, 999999), 0, 0),
  (10, .new 64, 3, (0, 0, 0, 999999), 0, 0),
  (13, .dup, 1, (0, 0, 0, 0), 0, 0),
  (14, .ldc_w 260, 3, (0, 0, 0, 999999), 0, 0),
  (17, .invokespecial 68, 3, (0, 0, 0, 999999), 0, 0),
  (20, .athrow, 1, (0, 0, 0, 999999), 0, 0),
  (21, .return_, 1, (0, 0, 0, 999999), 0, 0)]
set_option maxRecDepth 100000 in
theorem k_PF_requireNet : I_PF_requireNet.all (q_okb M_PF_requireNet) = true := by decide +kernel
theorem c_PF_requireNet : Cond.code M_PF_requireNet.1 M_PF_requireNet.2.1 M_PF_requireNet.2.2.1 M_PF_requireNet.2.2.2.1 ∈ q_ws := List.mem_of_getElem? (i := 356) (by decide +kernel)
theorem w_PF_requireNet : q_cw M_PF_requireNet := ⟨Or.inl c_PF_requireNet, List.mem_of_getElem? (i := 66) (by decide +kernel), by decide +kernel⟩
theorem s_PF_requireNet : Cond.static M_PF_requireNet.1 ∈ q_ws := List.mem_of_getElem? (i := 355) (by decide +kernel)
theorem p_PF_requireNet : plainFor M_PF_requireNet.1 = true := by decide +kernel
theorem a_PF_requireNet : (parseMethodDescriptor M_PF_requireNet.1.desc).map (fun d => d.parameters.length) = some 1 := by decide +kernel
def M_PF_placeOfRank : q_M := (⟨"PlaneFills", "placeOfRank", "(I)I"⟩, prog_1_method_23_code, 3, (Option.some FieldType.int), [])
def I_PF_placeOfRank : List q_J := [(0, .iconst 0, 1, (0, 0, 0, 0), 0, 0),
  (1, .istore_n 2, 1, (0, 0, 0, 0), 0, 0),
  (2, .iload_n 2, 1, (0, 0, 0, 0), 0, 0),
  (3, .aload_n 0, 1, (0, 0, 0, 0), 0, 0),
  (4, .getfield 16, 3, (0, 2, 2, 148), 0, 0),
  (7, .invokeinterface 71 1, 5, (0, 0, 0, 999999), 0, 0),
  (12, .if_icmp .ge 29, 3, (0, 0, 0, 999999), 0, 0),
  (15, .aload_n 0, 1, (0, 0, 0, 0), 0, 0),
  (16, .getfield 16, 3, (0, 2, 2, 148), 0, 0),
  (19, .iload_n 2, 1, (0, 0, 0, 0), 0, 0),
  (20, .invokeinterface 149 2, 5, (0, 0, 0, 999999), 0, 0),
  (25, .checkcast 77, 3, (0, 0, 0, 999999), 0, 0),
  (28, .getfield 266, 3, (5, 2, 0, 100007), 0, 0),
  (31, .iload_n 1, 1, (0, 0, 0, 0), 0, 0),
  (32, .if_icmp .lt 9, 3, (0, 0, 0, 999999), 0, 0),
  (35, .iinc 2 1, 3, (0, 0, 0, 0), 1, 0),
  (38, .goto (-36), 3, (0, 0, 0, 999999), 0, 0),
  (41, .iload_n 2, 1, (0, 0, 0, 0), 0, 0),
  (42, .ireturn, 1, (0, 0, 0, 999999), 0, 0)]
set_option maxRecDepth 100000 in
theorem k_PF_placeOfRank : I_PF_placeOfRank.all (q_okb M_PF_placeOfRank) = true := by decide +kernel
theorem c_PF_placeOfRank : Cond.code M_PF_placeOfRank.1 M_PF_placeOfRank.2.1 M_PF_placeOfRank.2.2.1 M_PF_placeOfRank.2.2.2.1 ∈ q_ws := List.mem_of_getElem? (i := 410) (by decide +kernel)
theorem w_PF_placeOfRank : q_cw M_PF_placeOfRank := ⟨Or.inl c_PF_placeOfRank, List.mem_of_getElem? (i := 66) (by decide +kernel), by decide +kernel⟩
theorem n_PF_placeOfRank : Cond.instanceMethod M_PF_placeOfRank.1 ∈ q_ws := List.mem_of_getElem? (i := 409) (by decide +kernel)
theorem e_PF_placeOfRank : Cond.selects "PlaneFills" M_PF_placeOfRank.1 M_PF_placeOfRank.1 ∈ q_ws := List.mem_of_getElem? (i := 23) (by decide +kernel)
theorem p_PF_placeOfRank : plainFor M_PF_placeOfRank.1 = true := by decide +kernel
theorem a_PF_placeOfRank : (parseMethodDescriptor M_PF_placeOfRank.1.desc).map (fun d => d.parameters.length) = some 1 := by decide +kernel
def M_PF_corner : q_M := (⟨"PlaneFills", "corne\x72", "(IJJ)Z"⟩, prog_1_method_3_code, 7, (Option.some FieldType.boolean), [])
def I_PF_corner : List q_J := [(0, .aload_n 0, 1, (0, 0, 0, 0), 0, 0),
  (1, .iload_n 1, 1, (0, 0, 0, 0), 0, 0),
  (2, .invokevirtual 93, 3, (0, 0, 0, 999999), 0, 0),
  (5, .astore 6, 2, (0, 0, 0, 0), 0, 0),
  (7, .lload_n 2, 1, (0, 0, 0, 0), 0, 0),
  (8, .lload 4, 2, (0, 0, 0, 0), 0, 0),
  (10, .invokestatic 97, 3, (0, 0, 0, 999999), 0, 0),
  (13, .aload 6, 2, (0, 0, 0, 0), 0, 0),
  (15, .lload_n 2, 1, (0, 0, 0, 0), 0, 0),
  (16, .l2i, 1, (0, 0, 0, 0), 0, 0),
  (17, .lload 4, 2, (0, 0, 0, 0), 0, 0),
  (19, .l2i, 1, (0, 0, 0, 0), 0, 0),
  (20, .invokevirtual 101, 3, (0, 0, 0, 999999), 0, 0),
  (23, .ireturn, 1, (0, 0, 0, 999999), 0, 0)]
set_option maxRecDepth 100000 in
theorem k_PF_corner : I_PF_corner.all (q_okb M_PF_corner) = true := by decide +kernel
theorem c_PF_corner : Cond.code M_PF_corner.1 M_PF_corner.2.1 M_PF_corner.2.2.1 M_PF_corner.2.2.2.1 ∈ q_ws := List.mem_of_getElem? (i := 685) (by decide +kernel)
theorem w_PF_corner : q_cw M_PF_corner := ⟨Or.inl c_PF_corner, List.mem_of_getElem? (i := 66) (by decide +kernel), by decide +kernel⟩
theorem n_PF_corner : Cond.instanceMethod M_PF_corner.1 ∈ q_ws := List.mem_of_getElem? (i := 683) (by decide +kernel)
theorem e_PF_corner : Cond.selects "PlaneFills" M_PF_corner.1 M_PF_corner.1 ∈ q_ws := List.mem_of_getElem? (i := 684) (by decide +kernel)
theorem p_PF_corner : plainFor M_PF_corner.1 = true := by decide +kernel
theorem a_PF_corner : (parseMethodDescriptor M_PF_corner.1.desc).map (fun d => d.parameters.length) = some 3 := by decide +kernel
def M_PF_knownPlane : q_M := (⟨"PlaneFills", "knownPlane", "(I)LPlaneFills$Plane;"⟩, prog_1_method_21_code, 2, (Option.some (FieldType.object "PlaneFills$Plane")), [])
def I_PF_knownPlane : List q_J := [(0, .iload_n 1, 1, (0, 0, 0, 0), 0, 0),
  (1, .ifCond .lt 16, 3, (0, 0, 0, 999999), 0, 0),
  (4, .iload_n 1, 1, (0, 0, 0, 0), 0, 0),
  (5, .aload_n 0, 1, (0, 0, 0, 0), 0, 0),
  (6, .getfield 12, 3, (0, 1, 2, 147), 0, 0),
  (9, .invokeinterface 71 1, 5, (0, 0, 0, 999999), 0, 0),
  (14, .if_icmp .lt 14, 3, (0, 0, 0, 999999), 0, 0),
  (17, .new 118, 3, (0, 0, 0, 999999), 0, 0),
  (20, .dup, 1, (0, 0, 0, 0), 0, 0),
  (21, .ldc_w 264, 3, (0, 0, 0, 999999), 0, 0),
  (24, .invokespecial 122, 3, (0, 0, 0, 999999), 0, 0),
  (27, .athrow, 1, (0, 0, 0, 999999), 0, 0),
  (28, .aload_n 0, 1, (0, 0, 0, 0), 0, 0),
  (29, .getfield 12, 3, (0, 1, 2, 147), 0, 0),
  (32, .iload_n 1, 1, (0, 0, 0, 0), 0, 0),
  (33, .invokeinterface 149 2, 5, (0, 0, 0, 999999), 0, 0),
  (38, .checkcast 77, 3, (0, 0, 0, 999999), 0, 0),
  (41, .areturn, 1, (0, 0, 0, 999999), 0, 0)]
set_option maxRecDepth 100000 in
theorem k_PF_knownPlane : I_PF_knownPlane.all (q_okb M_PF_knownPlane) = true := by decide +kernel
theorem c_PF_knownPlane : Cond.code M_PF_knownPlane.1 M_PF_knownPlane.2.1 M_PF_knownPlane.2.2.1 M_PF_knownPlane.2.2.2.1 ∈ q_ws := List.mem_of_getElem? (i := 688) (by decide +kernel)
theorem w_PF_knownPlane : q_cw M_PF_knownPlane := ⟨Or.inl c_PF_knownPlane, List.mem_of_getElem? (i := 66) (by decide +kernel), by decide +kernel⟩
theorem n_PF_knownPlane : Cond.instanceMethod M_PF_knownPlane.1 ∈ q_ws := List.mem_of_getElem? (i := 687) (by decide +kernel)
theorem e_PF_knownPlane : Cond.selects "PlaneFills" M_PF_knownPlane.1 M_PF_knownPlane.1 ∈ q_ws := List.mem_of_getElem? (i := 29) (by decide +kernel)
theorem p_PF_knownPlane : plainFor M_PF_knownPlane.1 = true := by decide +kernel
theorem a_PF_knownPlane : (parseMethodDescriptor M_PF_knownPlane.1.desc).map (fun d => d.parameters.length) = some 1 := by decide +kernel
def M_PF_requireCorner : q_M := (⟨"PlaneFills", "requireCorne\x72", "(JJ)V"⟩, prog_1_method_20_code, 4, (Option.none : Option FieldType), [])
def I_PF_requireCorner : List q_J := [(0, .lload_n 0, 1, (0, 0, 0, 0), 0, 0),
  (1, .lconst 0, 1, (0, 0, 0, 0), 0, 0),
  (2, .lcmp, 1, (0, 0, 0, 0), 0, 0),
  (3, .ifCond .lt 25, 3, (0, 0, 0, 999999), 0, 0),
  (6, .lload_n 0, 1, (0, 0, 0, 0), 0, 0),
  (7, .ldc2_w 135, 3, (0, 0, 0, 692), 0, 32),
  (10, .lcmp, 1, (0, 0, 0, 0), 0, 0),
  (11, .ifCond .gt 17, 3, (0, 0, 0, 999999), 0, 0),
  (14, .lload_n 2, 1, (0, 0, 0, 0), 0, 0),
  (15, .lconst 0, 1, (0, 0, 0, 0), 0, 0),
  (16, .lcmp, 1, (0, 0, 0, 0), 0, 0),
  (17, .ifCond .lt 11, 3, (0, 0, 0, 999999), 0, 0),
  (20, .lload_n 2, 1, (0, 0, 0, 0), 0, 0),
  (21, .ldc2_w 137, 3, (0, 0, 0, 286), 0, 24),
  (24, .lcmp, 1, (0, 0, 0, 0), 0, 0),
  (25, .ifCond .le 14, 3, (0, 0, 0, 999999), 0, 0),
  (28, .new 64, 3, (0, 0, 0, 999999), 0, 0),
  (31, .dup, 1, (0, 0, 0, 0), 0, 0),
  (32, .ldc_w 262, 3, (0, 0, 0, 999999), 0, 0),
  (35, .invokespecial 68, 3, (0, 0, 0, 999999), 0, 0),
  (38, .athrow, 1, (0, 0, 0, 999999), 0, 0),
  (39, .return_, 1, (0, 0, 0, 999999), 0, 0)]
set_option maxRecDepth 100000 in
theorem k_PF_requireCorner : I_PF_requireCorner.all (q_okb M_PF_requireCorner) = true := by decide +kernel
theorem c_PF_requireCorner : Cond.code M_PF_requireCorner.1 M_PF_requireCorner.2.1 M_PF_requireCorner.2.2.1 M_PF_requireCorner.2.2.2.1 ∈ q_ws := List.mem_of_getElem? (i := 691) (by decide +kernel)
theorem w_PF_requireCorner : q_cw M_PF_requireCorner := ⟨Or.inl c_PF_requireCorner, List.mem_of_getElem? (i := 66) (by decide +kernel), by decide +kernel⟩
theorem s_PF_requireCorner : Cond.static M_PF_requireCorner.1 ∈ q_ws := List.mem_of_getElem? (i := 690) (by decide +kernel)
theorem p_PF_requireCorner : plainFor M_PF_requireCorner.1 = true := by decide +kernel
theorem a_PF_requireCorner : (parseMethodDescriptor M_PF_requireCorner.1.desc).map (fun d => d.parameters.length) = some 2 := by decide +kernel
def M_PF_ring : q_M := (⟨"PlaneFills", "ring", "(I)Z"⟩, prog_1_method_4_code, 2, (Option.some FieldType.boolean), [])
def I_PF_ring : List q_J := [(0, .aload_n 0, 1, (0, 0, 0, 0), 0, 0),
  (1, .iload_n 1, 1, (0, 0, 0, 0), 0, 0),
  (2, .invokevirtual 93, 3, (0, 0, 0, 999999), 0, 0),
  (5, .invokevirtual 105, 3, (0, 0, 0, 999999), 0, 0),
  (8, .ireturn, 1, (0, 0, 0, 999999), 0, 0)]
set_option maxRecDepth 100000 in
theorem k_PF_ring : I_PF_ring.all (q_okb M_PF_ring) = true := by decide +kernel
theorem c_PF_ring : Cond.code M_PF_ring.1 M_PF_ring.2.1 M_PF_ring.2.2.1 M_PF_ring.2.2.2.1 ∈ q_ws := List.mem_of_getElem? (i := 701) (by decide +kernel)
theorem w_PF_ring : q_cw M_PF_ring := ⟨Or.inl c_PF_ring, List.mem_of_getElem? (i := 66) (by decide +kernel), by decide +kernel⟩
theorem n_PF_ring : Cond.instanceMethod M_PF_ring.1 ∈ q_ws := List.mem_of_getElem? (i := 699) (by decide +kernel)
theorem e_PF_ring : Cond.selects "PlaneFills" M_PF_ring.1 M_PF_ring.1 ∈ q_ws := List.mem_of_getElem? (i := 700) (by decide +kernel)
theorem p_PF_ring : plainFor M_PF_ring.1 = true := by decide +kernel
theorem a_PF_ring : (parseMethodDescriptor M_PF_ring.1.desc).map (fun d => d.parameters.length) = some 1 := by decide +kernel
def M_PF_obstacle : q_M := (⟨"PlaneFills", "obstacle", "(IIJJJ)I"⟩, prog_1_method_5_code, 9, (Option.some FieldType.int), [])
def I_PF_obstacle : List q_J := [(0, .aload_n 0, 1, (0, 0, 0, 0), 0, 0),
  (1, .iload_n 2, 1, (0, 0, 0, 0), 0, 0),
  (2, .invokevirtual 57, 3, (0, 0, 0, 999999), 0, 0),
  (5, .iload_n 1, 1, (0, 0, 0, 0), 0, 0),
  (6, .invokestatic 61, 3, (0, 0, 0, 999999), 0, 0),
  (9, .lload_n 3, 1, (0, 0, 0, 0), 0, 0),
  (10, .lload 5, 2, (0, 0, 0, 0), 0, 0),
  (12, .invokestatic 97, 3, (0, 0, 0, 999999), 0, 0),
  (15, .lload 7, 2, (0, 0, 0, 0), 0, 0),
  (17, .lconst 0, 1, (0, 0, 0, 0), 0, 0),
  (18, .lcmp, 1, (0, 0, 0, 0), 0, 0),
  (19, .ifCond .lt 12, 3, (0, 0, 0, 999999), 0, 0),
  (22, .lload 7, 2, (0, 0, 0, 0), 0, 0),
  (24, .ldc2_w 109, 3, (0, 0, 0, 717), 0, 20),
  (27, .lcmp, 1, (0, 0, 0, 0), 0, 0),
  (28, .ifCond .le 13, 3, (0, 0, 0, 999999), 0, 0),
  (31, .new 64, 3, (0, 0, 0, 999999), 0, 0),
  (34, .dup, 1, (0, 0, 0, 0), 0, 0),
  (35, .ldc 111, 2, (0, 0, 0, 999999), 0, 0),
  (37, .invokespecial 68, 3, (0, 0, 0, 999999), 0, 0),
  (40, .athrow, 1, (0, 0, 0, 999999), 0, 0),
  (41, .aload_n 0, 1, (0, 0, 0, 0), 0, 0),
  (42, .getfield 19, 3, (0, 3, 2, 149), 0, 0),
  (45, .invokeinterface 71 1, 5, (0, 0, 0, 999999), 0, 0),
  (50, .bipush 20, 2, (0, 0, 0, 0), 20, 0),
  (52, .if_icmp .lt 5, 3, (0, 0, 0, 999999), 0, 0),
  (55, .iconst (-1), 1, (0, 0, 0, 0), -1, 0),
  (56, .ireturn, 1, (0, 0, 0, 999999), 0, 0),
  (57, .aload_n 0, 1, (0, 0, 0, 0), 0, 0),
  (58, .getfield 19, 3, (0, 3, 2, 149), 0, 0),
  (61, .new 113, 3, (0, 0, 0, 999999), 0, 0),
  (64, .dup, 1, (0, 0, 0, 0), 0, 0),
  (65, .iload_n 1, 1, (0, 0, 0, 0), 0, 0),
  (66, .iload_n 2, 1, (0, 0, 0, 0), 0, 0),
  (67, .lload_n 3, 1, (0, 0, 0, 0), 0, 0),
  (68, .l2i, 1, (0, 0, 0, 0), 0, 0),
  (69, .lload 5, 2, (0, 0, 0, 0), 0, 0),
  (71, .l2i, 1, (0, 0, 0, 0), 0, 0),
  (72, .lload 7, 2, (0, 0, 0, 0), 0, 0),
  (74, .l2i, 1, (0, 0, 0, 0), 0, 0),
  (75, .invokespecial 115, 3, (0, 0, 0, 999999), 0, 0),
  (78, .invokeinterface 90 2, 5, (0, 0, 0, 999999), 0, 0),
  (83, .pop, 1, (0, 0, 0, 0), 0, 0),
  (84, .aload_n 0, 1, (0, 0, 0, 0), 0, 0),
  (85, .getfield 19, 3, (0, 3, 2, 149), 0, 0),
  (88, .invokeinterface 71 1, 5, (0, 0, 0, 999999), 0, 0),
  (93, .iconst 1, 1, (0, 0, 0, 0), 1, 0),
  (94, .isub, 1, (0, 0, 0, 0), 0, 0),
  (95, .ireturn, 1, (0, 0, 0, 999999), 0, 0)]
set_option maxRecDepth 100000 in
theorem k_PF_obstacle : I_PF_obstacle.all (q_okb M_PF_obstacle) = true := by decide +kernel
theorem c_PF_obstacle : Cond.code M_PF_obstacle.1 M_PF_obstacle.2.1 M_PF_obstacle.2.2.1 M_PF_obstacle.2.2.2.1 ∈ q_ws := List.mem_of_getElem? (i := 716) (by decide +kernel)
theorem w_PF_obstacle : q_cw M_PF_obstacle := ⟨Or.inl c_PF_obstacle, List.mem_of_getElem? (i := 66) (by decide +kernel), by decide +kernel⟩
theorem n_PF_obstacle : Cond.instanceMethod M_PF_obstacle.1 ∈ q_ws := List.mem_of_getElem? (i := 714) (by decide +kernel)
theorem e_PF_obstacle : Cond.selects "PlaneFills" M_PF_obstacle.1 M_PF_obstacle.1 ∈ q_ws := List.mem_of_getElem? (i := 715) (by decide +kernel)
theorem p_PF_obstacle : plainFor M_PF_obstacle.1 = true := by decide +kernel
theorem a_PF_obstacle : (parseMethodDescriptor M_PF_obstacle.1.desc).map (fun d => d.parameters.length) = some 5 := by decide +kernel
def M_PF_rule : q_M := (⟨"PlaneFills", "rule", "(IJ)Z"⟩, prog_1_method_6_code, 5, (Option.some FieldType.boolean), [])
def I_PF_rule : List q_J := [(0, .iload_n 1, 1, (0, 0, 0, 0), 0, 0),
  (1, .ifCond .lt 8, 3, (0, 0, 0, 999999), 0, 0),
  (4, .iload_n 1, 1, (0, 0, 0, 0), 0, 0),
  (5, .iconst 4, 1, (0, 0, 0, 0), 4, 0),
  (6, .if_icmp .lt 13, 3, (0, 0, 0, 999999), 0, 0),
  (9, .new 118, 3, (0, 0, 0, 999999), 0, 0),
  (12, .dup, 1, (0, 0, 0, 0), 0, 0),
  (13, .ldc 120, 2, (0, 0, 0, 999999), 0, 0),
  (15, .invokespecial 122, 3, (0, 0, 0, 999999), 0, 0),
  (18, .athrow, 1, (0, 0, 0, 999999), 0, 0),
  (19, .lload_n 2, 1, (0, 0, 0, 0), 0, 0),
  (20, .getstatic 123, 3, (0, 0, 0, 999999), 0, 0),
  (23, .iload_n 1, 1, (0, 0, 0, 0), 0, 0),
  (24, .iaload, 1, (0, 0, 0, 0), 0, 0),
  (25, .i2l, 1, (0, 0, 0, 0), 0, 0),
  (26, .lcmp, 1, (0, 0, 0, 0), 0, 0),
  (27, .ifCond .lt 14, 3, (0, 0, 0, 999999), 0, 0),
  (30, .lload_n 2, 1, (0, 0, 0, 0), 0, 0),
  (31, .getstatic 126, 3, (0, 0, 0, 999999), 0, 0),
  (34, .iload_n 1, 1, (0, 0, 0, 0), 0, 0),
  (35, .iaload, 1, (0, 0, 0, 0), 0, 0),
  (36, .i2l, 1, (0, 0, 0, 0), 0, 0),
  (37, .lcmp, 1, (0, 0, 0, 0), 0, 0),
  (38, .ifCond .le 13, 3, (0, 0, 0, 999999), 0, 0),
  (41, .new 64, 3, (0, 0, 0, 999999), 0, 0),
  (44, .dup, 1, (0, 0, 0, 0), 0, 0),
  (45, .ldc 129, 2, (0, 0, 0, 999999), 0, 0),
  (47, .invokespecial 68, 3, (0, 0, 0, 999999), 0, 0),
  (50, .athrow, 1, (0, 0, 0, 999999), 0, 0),
  (51, .aload_n 0, 1, (0, 0, 0, 0), 0, 0),
  (52, .getfield 25, 3, (0, 5, 2, 151), 0, 0),
  (55, .iload_n 1, 1, (0, 0, 0, 0), 0, 0),
  (56, .iaload, 1, (0, 0, 0, 0), 0, 0),
  (57, .i2l, 1, (0, 0, 0, 0), 0, 0),
  (58, .lload_n 2, 1, (0, 0, 0, 0), 0, 0),
  (59, .lcmp, 1, (0, 0, 0, 0), 0, 0),
  (60, .ifCond .eq 7, 3, (0, 0, 0, 999999), 0, 0),
  (63, .iconst 1, 1, (0, 0, 0, 0), 1, 0),
  (64, .goto 4, 3, (0, 0, 0, 999999), 0, 0),
  (67, .iconst 0, 1, (0, 0, 0, 0), 0, 0),
  (68, .istore 4, 2, (0, 0, 0, 0), 0, 0),
  (70, .aload_n 0, 1, (0, 0, 0, 0), 0, 0),
  (71, .getfield 25, 3, (0, 5, 2, 151), 0, 0),
  (74, .iload_n 1, 1, (0, 0, 0, 0), 0, 0),
  (75, .lload_n 2, 1, (0, 0, 0, 0), 0, 0),
  (76, .l2i, 1, (0, 0, 0, 0), 0, 0),
  (77, .iastore, 1, (0, 0, 0, 0), 0, 0),
  (78, .iload 4, 2, (0, 0, 0, 0), 0, 0),
  (80, .ireturn, 1, (0, 0, 0, 999999), 0, 0)]
set_option maxRecDepth 100000 in
theorem k_PF_rule : I_PF_rule.all (q_okb M_PF_rule) = true := by decide +kernel
theorem c_PF_rule : Cond.code M_PF_rule.1 M_PF_rule.2.1 M_PF_rule.2.2.1 M_PF_rule.2.2.2.1 ∈ q_ws := List.mem_of_getElem? (i := 738) (by decide +kernel)
theorem w_PF_rule : q_cw M_PF_rule := ⟨Or.inl c_PF_rule, List.mem_of_getElem? (i := 66) (by decide +kernel), by decide +kernel⟩
theorem n_PF_rule : Cond.instanceMethod M_PF_rule.1 ∈ q_ws := List.mem_of_getElem? (i := 736) (by decide +kernel)
theorem e_PF_rule : Cond.selects "PlaneFills" M_PF_rule.1 M_PF_rule.1 ∈ q_ws := List.mem_of_getElem? (i := 737) (by decide +kernel)
theorem p_PF_rule : plainFor M_PF_rule.1 = true := by decide +kernel
theorem a_PF_rule : (parseMethodDescriptor M_PF_rule.1.desc).map (fun d => d.parameters.length) = some 2 := by decide +kernel
def M_PF_pad : q_M := (⟨"PlaneFills", "pad", "(IIJJJJ)I"⟩, prog_1_method_7_code, 11, (Option.some FieldType.int), [])
def I_PF_pad : List q_J := [(0, .aload_n 0, 1, (0, 0, 0, 0), 0, 0),
  (1, .iload_n 2, 1, (0, 0, 0, 0), 0, 0),
  (2, .invokevirtual 57, 3, (0, 0, 0, 999999), 0, 0),
  (5, .iload_n 1, 1, (0, 0, 0, 0), 0, 0),
  (6, .invokestatic 61, 3, (0, 0, 0, 999999), 0, 0),
  (9, .lload_n 3, 1, (0, 0, 0, 0), 0, 0),
  (10, .lload 5, 2, (0, 0, 0, 0), 0, 0),
  (12, .invokestatic 131, 3, (0, 0, 0, 999999), 0, 0),
  (15, .ifCond .eq 40, 3, (0, 0, 0, 999999), 0, 0),
  (18, .lload 7, 2, (0, 0, 0, 0), 0, 0),
  (20, .lconst 1, 1, (0, 0, 0, 0), 0, 1),
  (21, .lcmp, 1, (0, 0, 0, 0), 0, 0),
  (22, .ifCond .lt 33, 3, (0, 0, 0, 999999), 0, 0),
  (25, .lload 9, 2, (0, 0, 0, 0), 0, 0),
  (27, .lconst 1, 1, (0, 0, 0, 0), 0, 1),
  (28, .lcmp, 1, (0, 0, 0, 0), 0, 0),
  (29, .ifCond .lt 26, 3, (0, 0, 0, 999999), 0, 0),
  (32, .lload 7, 2, (0, 0, 0, 0), 0, 0),
  (34, .ldc2_w 135, 3, (0, 0, 0, 692), 0, 32),
  (37, .lload_n 3, 1, (0, 0, 0, 0), 0, 0),
  (38, .lsub, 1, (0, 0, 0, 0), 0, 0),
  (39, .lcmp, 1, (0, 0, 0, 0), 0, 0),
  (40, .ifCond .gt 15, 3, (0, 0, 0, 999999), 0, 0),
  (43, .lload 9, 2, (0, 0, 0, 0), 0, 0),
  (45, .ldc2_w 137, 3, (0, 0, 0, 286), 0, 24),
  (48, .lload 5, 2, (0, 0, 0, 0), 0, 0),
  (50, .lsub, 1, (0, 0, 0, 0), 0, 0),
  (51, .lcmp, 1, (0, 0, 0, 0), 0, 0),
  (52, .ifCond .le 13, 3, (0, 0, 0, 999999), 0, 0),
  (55, .new 64, 3, (0, 0, 0, 999999), 0, 0),
  (58, .dup, 1, (0, 0, 0, 0), 0, 0),
  (59, .ldc 139, 2, (0, 0, 0, 999999), 0, 0),
  (61, .invokespecial 68, 3, (0, 0, 0, 999999), 0, 0),
  (64, .athrow, 1, (0, 0, 0, 999999), 0, 0),
  (65, .aload_n 0, 1, (0, 0, 0, 0), 0, 0),
  (66, .getfield 22, 3, (0, 4, 2, 150), 0, 0),
  (69, .invokeinterface 71 1, 5, (0, 0, 0, 999999), 0, 0),
  (74, .bipush 10, 2, (0, 0, 0, 0), 10, 0),
  (76, .if_icmp .lt 5, 3, (0, 0, 0, 999999), 0, 0),
  (79, .iconst (-1), 1, (0, 0, 0, 0), -1, 0),
  (80, .ireturn, 1, (0, 0, 0, 999999), 0, 0),
  (81, .aload_n 0, 1, (0, 0, 0, 0), 0, 0),
  (82, .getfield 22, 3, (0, 4, 2, 150), 0, 0),
  (85, .new 141, 3, (0, 0, 0, 999999), 0, 0),
  (88, .dup, 1, (0, 0, 0, 0), 0, 0),
  (89, .iload_n 1, 1, (0, 0, 0, 0), 0, 0),
  (90, .iload_n 2, 1, (0, 0, 0, 0), 0, 0),
  (91, .lload_n 3, 1, (0, 0, 0, 0), 0, 0),
  (92, .l2i, 1, (0, 0, 0, 0), 0, 0),
  (93, .lload 5, 2, (0, 0, 0, 0), 0, 0),
  (95, .l2i, 1, (0, 0, 0, 0), 0, 0),
  (96, .lload 7, 2, (0, 0, 0, 0), 0, 0),
  (98, .l2i, 1, (0, 0, 0, 0), 0, 0),
  (99, .lload 9, 2, (0, 0, 0, 0), 0, 0),
  (101, .l2i, 1, (0, 0, 0, 0), 0, 0),
  (102, .invokespecial 143, 3, (0, 0, 0, 999999), 0, 0),
  (105, .invokeinterface 90 2, 5, (0, 0, 0, 999999), 0, 0),
  (110, .pop, 1, (0, 0, 0, 0), 0, 0),
  (111, .aload_n 0, 1, (0, 0, 0, 0), 0, 0),
  (112, .getfield 22, 3, (0, 4, 2, 150), 0, 0),
  (115, .invokeinterface 71 1, 5, (0, 0, 0, 999999), 0, 0),
  (120, .iconst 1, 1, (0, 0, 0, 0), 1, 0),
  (121, .isub, 1, (0, 0, 0, 0), 0, 0),
  (122, .ireturn, 1, (0, 0, 0, 999999), 0, 0)]
set_option maxRecDepth 100000 in
theorem k_PF_pad : I_PF_pad.all (q_okb M_PF_pad) = true := by decide +kernel
theorem c_PF_pad : Cond.code M_PF_pad.1 M_PF_pad.2.1 M_PF_pad.2.2.1 M_PF_pad.2.2.2.1 ∈ q_ws := List.mem_of_getElem? (i := 747) (by decide +kernel)
theorem w_PF_pad : q_cw M_PF_pad := ⟨Or.inl c_PF_pad, List.mem_of_getElem? (i := 66) (by decide +kernel), by decide +kernel⟩
theorem n_PF_pad : Cond.instanceMethod M_PF_pad.1 ∈ q_ws := List.mem_of_getElem? (i := 745) (by decide +kernel)
theorem e_PF_pad : Cond.selects "PlaneFills" M_PF_pad.1 M_PF_pad.1 ∈ q_ws := List.mem_of_getElem? (i := 746) (by decide +kernel)
theorem p_PF_pad : plainFor M_PF_pad.1 = true := by decide +kernel
theorem a_PF_pad : (parseMethodDescriptor M_PF_pad.1.desc).map (fun d => d.parameters.length) = some 6 := by decide +kernel
def M_PF_onBoard : q_M := (⟨"PlaneFills", "onBoard", "(JJ)Z"⟩, prog_1_method_22_code, 4, (Option.some FieldType.boolean), [])
def I_PF_onBoard : List q_J := [(0, .lload_n 0, 1, (0, 0, 0, 0), 0, 0),
  (1, .lconst 0, 1, (0, 0, 0, 0), 0, 0),
  (2, .lcmp, 1, (0, 0, 0, 0), 0, 0),
  (3, .ifCond .lt 29, 3, (0, 0, 0, 999999), 0, 0),
  (6, .lload_n 0, 1, (0, 0, 0, 0), 0, 0),
  (7, .ldc2_w 135, 3, (0, 0, 0, 692), 0, 32),
  (10, .lcmp, 1, (0, 0, 0, 0), 0, 0),
  (11, .ifCond .ge 21, 3, (0, 0, 0, 999999), 0, 0),
  (14, .lload_n 2, 1, (0, 0, 0, 0), 0, 0),
  (15, .lconst 0, 1, (0, 0, 0, 0), 0, 0),
  (16, .lcmp, 1, (0, 0, 0, 0), 0, 0),
  (17, .ifCond .lt 15, 3, (0, 0, 0, 999999), 0, 0),
  (20, .lload_n 2, 1, (0, 0, 0, 0), 0, 0),
  (21, .ldc2_w 137, 3, (0, 0, 0, 286), 0, 24),
  (24, .lcmp, 1, (0, 0, 0, 0), 0, 0),
  (25, .ifCond .ge 7, 3, (0, 0, 0, 999999), 0, 0),
  (28, .iconst 1, 1, (0, 0, 0, 0), 1, 0),
  (29, .goto 4, 3, (0, 0, 0, 999999), 0, 0),
  (32, .iconst 0, 1, (0, 0, 0, 0), 0, 0),
  (33, .ireturn, 1, (0, 0, 0, 999999), 0, 0)]
set_option maxRecDepth 100000 in
theorem k_PF_onBoard : I_PF_onBoard.all (q_okb M_PF_onBoard) = true := by decide +kernel
theorem c_PF_onBoard : Cond.code M_PF_onBoard.1 M_PF_onBoard.2.1 M_PF_onBoard.2.2.1 M_PF_onBoard.2.2.2.1 ∈ q_ws := List.mem_of_getElem? (i := 750) (by decide +kernel)
theorem w_PF_onBoard : q_cw M_PF_onBoard := ⟨Or.inl c_PF_onBoard, List.mem_of_getElem? (i := 66) (by decide +kernel), by decide +kernel⟩
theorem s_PF_onBoard : Cond.static M_PF_onBoard.1 ∈ q_ws := List.mem_of_getElem? (i := 749) (by decide +kernel)
theorem p_PF_onBoard : plainFor M_PF_onBoard.1 = true := by decide +kernel
theorem a_PF_onBoard : (parseMethodDescriptor M_PF_onBoard.1.desc).map (fun d => d.parameters.length) = some 2 := by decide +kernel
def M_PF_rings : q_M := (⟨"PlaneFills", "rings", "(II)I"⟩, prog_1_method_9_code, 5, (Option.some FieldType.int), [])
def I_PF_rings : List q_J := [(0, .aload_n 0, 1, (0, 0, 0, 0), 0, 0),
  (1, .aload_n 0, 1, (0, 0, 0, 0), 0, 0),
  (2, .iload_n 1, 1, (0, 0, 0, 0), 0, 0),
  (3, .invokevirtual 93, 3, (0, 0, 0, 999999), 0, 0),
  (6, .iload_n 2, 1, (0, 0, 0, 0), 0, 0),
  (7, .invokevirtual 165, 3, (0, 0, 0, 999999), 0, 0),
  (10, .ifCond .ne 13, 3, (0, 0, 0, 999999), 0, 0),
  (13, .new 118, 3, (0, 0, 0, 999999), 0, 0),
  (16, .dup, 1, (0, 0, 0, 0), 0, 0),
  (17, .ldc 169, 2, (0, 0, 0, 999999), 0, 0),
  (19, .invokespecial 122, 3, (0, 0, 0, 999999), 0, 0),
  (22, .athrow, 1, (0, 0, 0, 999999), 0, 0),
  (23, .aload_n 0, 1, (0, 0, 0, 0), 0, 0),
  (24, .getfield 38, 3, (0, 7, 2, 153), 0, 0),
  (27, .aload_n 0, 1, (0, 0, 0, 0), 0, 0),
  (28, .getfield 34, 3, (0, 6, 2, 152), 0, 0),
  (31, .getfield 171, 3, (3, 2, 2, 100000), 0, 0),
  (34, .invokevirtual 174, 3, (0, 0, 0, 999999), 0, 0),
  (37, .iconst 1, 1, (0, 0, 0, 0), 1, 0),
  (38, .istore_n 3, 1, (0, 0, 0, 0), 0, 0),
  (39, .iconst 0, 1, (0, 0, 0, 0), 0, 0),
  (40, .istore 4, 2, (0, 0, 0, 0), 0, 0),
  (42, .iload 4, 2, (0, 0, 0, 0), 0, 0),
  (44, .sipush 768, 3, (0, 0, 0, 0), 768, 0),
  (47, .if_icmp .ge 19, 3, (0, 0, 0, 999999), 0, 0),
  (50, .aload_n 0, 1, (0, 0, 0, 0), 0, 0),
  (51, .invokevirtual 178, 3, (0, 0, 0, 999999), 0, 0),
  (54, .ifCond .eq 12, 3, (0, 0, 0, 999999), 0, 0),
  (57, .iinc 3 1, 3, (0, 0, 0, 0), 1, 0),
  (60, .iinc 4 1, 3, (0, 0, 0, 0), 1, 0),
  (63, .goto (-21), 3, (0, 0, 0, 999999), 0, 0),
  (66, .iload_n 3, 1, (0, 0, 0, 0), 0, 0),
  (67, .ireturn, 1, (0, 0, 0, 999999), 0, 0)]
set_option maxRecDepth 100000 in
theorem k_PF_rings : I_PF_rings.all (q_okb M_PF_rings) = true := by decide +kernel
theorem c_PF_rings : Cond.code M_PF_rings.1 M_PF_rings.2.1 M_PF_rings.2.2.1 M_PF_rings.2.2.2.1 ∈ q_ws := List.mem_of_getElem? (i := 773) (by decide +kernel)
theorem w_PF_rings : q_cw M_PF_rings := ⟨Or.inl c_PF_rings, List.mem_of_getElem? (i := 66) (by decide +kernel), by decide +kernel⟩
theorem n_PF_rings : Cond.instanceMethod M_PF_rings.1 ∈ q_ws := List.mem_of_getElem? (i := 771) (by decide +kernel)
theorem e_PF_rings : Cond.selects "PlaneFills" M_PF_rings.1 M_PF_rings.1 ∈ q_ws := List.mem_of_getElem? (i := 772) (by decide +kernel)
theorem p_PF_rings : plainFor M_PF_rings.1 = true := by decide +kernel
theorem a_PF_rings : (parseMethodDescriptor M_PF_rings.1.desc).map (fun d => d.parameters.length) = some 2 := by decide +kernel
def M_PF_takePiece : q_M := (⟨"PlaneFills", "takePiece", "(LPlaneFills$Plane;I)Z"⟩, prog_1_method_37_code, 5, (Option.some FieldType.boolean), [])
def I_PF_takePiece : List q_J := [(0, .iload_n 2, 1, (0, 0, 0, 0), 0, 0),
  (1, .ifCond .lt 14, 3, (0, 0, 0, 999999), 0, 0),
  (4, .iload_n 2, 1, (0, 0, 0, 0), 0, 0),
  (5, .aload_n 1, 1, (0, 0, 0, 0), 0, 0),
  (6, .getfield 156, 3, (5, 10, 2, 100011), 0, 0),
  (9, .getfield 160, 3, (1, 1, 0, 100002), 0, 0),
  (12, .if_icmp .lt 5, 3, (0, 0, 0, 999999), 0, 0),
  (15, .iconst 0, 1, (0, 0, 0, 0), 0, 0),
  (16, .ireturn, 1, (0, 0, 0, 999999), 0, 0),
  (17, .aload_n 0, 1, (0, 0, 0, 0), 0, 0),
  (18, .getfield 34, 3, (0, 6, 2, 152), 0, 0),
  (21, .aload_n 1, 1, (0, 0, 0, 0), 0, 0),
  (22, .getfield 156, 3, (5, 10, 2, 100011), 0, 0),
  (25, .getfield 195, 3, (1, 0, 2, 100001), 0, 0),
  (28, .invokevirtual 332, 3, (0, 0, 0, 999999), 0, 0),
  (31, .iconst 1, 1, (0, 0, 0, 0), 1, 0),
  (32, .istore_n 3, 1, (0, 0, 0, 0), 0, 0),
  (33, .iconst 0, 1, (0, 0, 0, 0), 0, 0),
  (34, .istore 4, 2, (0, 0, 0, 0), 0, 0),
  (36, .iload 4, 2, (0, 0, 0, 0), 0, 0),
  (38, .iload_n 2, 1, (0, 0, 0, 0), 0, 0),
  (39, .if_icmp .gt 21, 3, (0, 0, 0, 999999), 0, 0),
  (42, .iload_n 3, 1, (0, 0, 0, 0), 0, 0),
  (43, .ifCond .eq 17, 3, (0, 0, 0, 999999), 0, 0),
  (46, .aload_n 0, 1, (0, 0, 0, 0), 0, 0),
  (47, .getfield 34, 3, (0, 6, 2, 152), 0, 0),
  (50, .invokevirtual 335, 3, (0, 0, 0, 999999), 0, 0),
  (53, .istore_n 3, 1, (0, 0, 0, 0), 0, 0),
  (54, .iinc 4 1, 3, (0, 0, 0, 0), 1, 0),
  (57, .goto (-21), 3, (0, 0, 0, 999999), 0, 0),
  (60, .iload_n 3, 1, (0, 0, 0, 0), 0, 0),
  (61, .ireturn, 1, (0, 0, 0, 999999), 0, 0)]
set_option maxRecDepth 100000 in
theorem k_PF_takePiece : I_PF_takePiece.all (q_okb M_PF_takePiece) = true := by decide +kernel
theorem c_PF_takePiece : Cond.code M_PF_takePiece.1 M_PF_takePiece.2.1 M_PF_takePiece.2.2.1 M_PF_takePiece.2.2.2.1 ∈ q_ws := List.mem_of_getElem? (i := 776) (by decide +kernel)
theorem w_PF_takePiece : q_cw M_PF_takePiece := ⟨Or.inl c_PF_takePiece, List.mem_of_getElem? (i := 66) (by decide +kernel), by decide +kernel⟩
theorem n_PF_takePiece : Cond.instanceMethod M_PF_takePiece.1 ∈ q_ws := List.mem_of_getElem? (i := 775) (by decide +kernel)
theorem e_PF_takePiece : Cond.selects "PlaneFills" M_PF_takePiece.1 M_PF_takePiece.1 ∈ q_ws := List.mem_of_getElem? (i := 33) (by decide +kernel)
theorem p_PF_takePiece : plainFor M_PF_takePiece.1 = true := by decide +kernel
theorem a_PF_takePiece : (parseMethodDescriptor M_PF_takePiece.1.desc).map (fun d => d.parameters.length) = some 2 := by decide +kernel
def M_PF_takeNextHole : q_M := (⟨"PlaneFills", "takeNextHole", "()Z"⟩, prog_1_method_40_code, 2, (Option.some FieldType.boolean), [])
def I_PF_takeNextHole : List q_J := [(0, .iconst 0, 1, (0, 0, 0, 0), 0, 0),
  (1, .istore_n 1, 1, (0, 0, 0, 0), 0, 0),
  (2, .iload_n 1, 1, (0, 0, 0, 0), 0, 0),
  (3, .sipush 768, 3, (0, 0, 0, 0), 768, 0),
  (6, .if_icmp .ge 31, 3, (0, 0, 0, 999999), 0, 0),
  (9, .aload_n 0, 1, (0, 0, 0, 0), 0, 0),
  (10, .getfield 38, 3, (0, 7, 2, 153), 0, 0),
  (13, .invokevirtual 335, 3, (0, 0, 0, 999999), 0, 0),
  (16, .ifCond .eq 21, 3, (0, 0, 0, 999999), 0, 0),
  (19, .aload_n 0, 1, (0, 0, 0, 0), 0, 0),
  (20, .getfield 38, 3, (0, 7, 2, 153), 0, 0),
  (23, .invokevirtual 353, 3, (0, 0, 0, 999999), 0, 0),
  (26, .ifCond .ne 5, 3, (0, 0, 0, 999999), 0, 0),
  (29, .iconst 1, 1, (0, 0, 0, 0), 1, 0),
  (30, .ireturn, 1, (0, 0, 0, 999999), 0, 0),
  (31, .iinc 1 1, 3, (0, 0, 0, 0), 1, 0),
  (34, .goto (-32), 3, (0, 0, 0, 999999), 0, 0),
  (37, .iconst 0, 1, (0, 0, 0, 0), 0, 0),
  (38, .ireturn, 1, (0, 0, 0, 999999), 0, 0)]
set_option maxRecDepth 100000 in
theorem k_PF_takeNextHole : I_PF_takeNextHole.all (q_okb M_PF_takeNextHole) = true := by decide +kernel
theorem c_PF_takeNextHole : Cond.code M_PF_takeNextHole.1 M_PF_takeNextHole.2.1 M_PF_takeNextHole.2.2.1 M_PF_takeNextHole.2.2.2.1 ∈ q_ws := List.mem_of_getElem? (i := 781) (by decide +kernel)
theorem w_PF_takeNextHole : q_cw M_PF_takeNextHole := ⟨Or.inl c_PF_takeNextHole, List.mem_of_getElem? (i := 66) (by decide +kernel), by decide +kernel⟩
theorem n_PF_takeNextHole : Cond.instanceMethod M_PF_takeNextHole.1 ∈ q_ws := List.mem_of_getElem? (i := 780) (by decide +kernel)
theorem e_PF_takeNextHole : Cond.selects "PlaneFills" M_PF_takeNextHole.1 M_PF_takeNextHole.1 ∈ q_ws := List.mem_of_getElem? (i := 35) (by decide +kernel)
theorem p_PF_takeNextHole : plainFor M_PF_takeNextHole.1 = true := by decide +kernel
theorem a_PF_takeNextHole : (parseMethodDescriptor M_PF_takeNextHole.1.desc).map (fun d => d.parameters.length) = some 0 := by decide +kernel
def M_PF_at : q_M := (⟨"PlaneFills", "at", "(IIIII)J"⟩, prog_1_method_10_code, 8, (Option.some FieldType.long), [])
def I_PF_at : List q_J := [(0, .aload_n 0, 1, (0, 0, 0, 0), 0, 0),
  (1, .iload_n 1, 1, (0, 0, 0, 0), 0, 0),
  (2, .invokevirtual 93, 3, (0, 0, 0, 999999), 0, 0),
  (5, .astore 6, 2, (0, 0, 0, 0), 0, 0),
  (7, .iload 5, 2, (0, 0, 0, 0), 0, 0),
  (9, .ifCond .lt 9, 3, (0, 0, 0, 999999), 0, 0),
  (12, .iload 5, 2, (0, 0, 0, 0), 0, 0),
  (14, .iconst 1, 1, (0, 0, 0, 0), 1, 0),
  (15, .if_icmp .le 13, 3, (0, 0, 0, 999999), 0, 0),
  (18, .new 118, 3, (0, 0, 0, 999999), 0, 0),
  (21, .dup, 1, (0, 0, 0, 0), 0, 0),
  (22, .ldc 181, 2, (0, 0, 0, 999999), 0, 0),
  (24, .invokespecial 122, 3, (0, 0, 0, 999999), 0, 0),
  (27, .athrow, 1, (0, 0, 0, 999999), 0, 0),
  (28, .aload_n 0, 1, (0, 0, 0, 0), 0, 0),
  (29, .aload 6, 2, (0, 0, 0, 0), 0, 0),
  (31, .iload_n 2, 1, (0, 0, 0, 0), 0, 0),
  (32, .invokevirtual 165, 3, (0, 0, 0, 999999), 0, 0),
  (35, .ifCond .eq 11, 3, (0, 0, 0, 999999), 0, 0),
  (38, .aload_n 0, 1, (0, 0, 0, 0), 0, 0),
  (39, .iload_n 3, 1, (0, 0, 0, 0), 0, 0),
  (40, .invokevirtual 183, 3, (0, 0, 0, 999999), 0, 0),
  (43, .ifCond .ne 13, 3, (0, 0, 0, 999999), 0, 0),
  (46, .new 118, 3, (0, 0, 0, 999999), 0, 0),
  (49, .dup, 1, (0, 0, 0, 0), 0, 0),
  (50, .ldc 187, 2, (0, 0, 0, 999999), 0, 0),
  (52, .invokespecial 122, 3, (0, 0, 0, 999999), 0, 0),
  (55, .athrow, 1, (0, 0, 0, 999999), 0, 0),
  (56, .aload_n 0, 1, (0, 0, 0, 0), 0, 0),
  (57, .getfield 41, 3, (0, 8, 2, 154), 0, 0),
  (60, .iload 4, 2, (0, 0, 0, 0), 0, 0),
  (62, .invokestatic 189, 3, (0, 0, 0, 999999), 0, 0),
  (65, .istore 7, 2, (0, 0, 0, 0), 0, 0),
  (67, .iload 7, 2, (0, 0, 0, 0), 0, 0),
  (69, .iconst (-1), 1, (0, 0, 0, 0), -1, 0),
  (70, .if_icmp .ne 13, 3, (0, 0, 0, 999999), 0, 0),
  (73, .new 118, 3, (0, 0, 0, 999999), 0, 0),
  (76, .dup, 1, (0, 0, 0, 0), 0, 0),
  (77, .ldc 193, 2, (0, 0, 0, 999999), 0, 0),
  (79, .invokespecial 122, 3, (0, 0, 0, 999999), 0, 0),
  (82, .athrow, 1, (0, 0, 0, 999999), 0, 0),
  (83, .iload 5, 2, (0, 0, 0, 0), 0, 0),
  (85, .ifCond .ne 12, 3, (0, 0, 0, 999999), 0, 0),
  (88, .iload 7, 2, (0, 0, 0, 0), 0, 0),
  (90, .bipush 32, 2, (0, 0, 0, 0), 32, 0),
  (92, .irem, 1, (0, 0, 0, 0), 0, 0),
  (93, .i2l, 1, (0, 0, 0, 0), 0, 0),
  (94, .goto 9, 3, (0, 0, 0, 999999), 0, 0),
  (97, .iload 7, 2, (0, 0, 0, 0), 0, 0),
  (99, .bipush 32, 2, (0, 0, 0, 0), 32, 0),
  (101, .idiv, 1, (0, 0, 0, 0), 0, 0),
  (102, .i2l, 1, (0, 0, 0, 0), 0, 0),
  (103, .lreturn, 1, (0, 0, 0, 999999), 0, 0)]
set_option maxRecDepth 100000 in
theorem k_PF_at : I_PF_at.all (q_okb M_PF_at) = true := by decide +kernel
theorem c_PF_at : Cond.code M_PF_at.1 M_PF_at.2.1 M_PF_at.2.2.1 M_PF_at.2.2.2.1 ∈ q_ws := List.mem_of_getElem? (i := 791) (by decide +kernel)
theorem w_PF_at : q_cw M_PF_at := ⟨Or.inl c_PF_at, List.mem_of_getElem? (i := 66) (by decide +kernel), by decide +kernel⟩
theorem n_PF_at : Cond.instanceMethod M_PF_at.1 ∈ q_ws := List.mem_of_getElem? (i := 789) (by decide +kernel)
theorem e_PF_at : Cond.selects "PlaneFills" M_PF_at.1 M_PF_at.1 ∈ q_ws := List.mem_of_getElem? (i := 790) (by decide +kernel)
theorem p_PF_at : plainFor M_PF_at.1 = true := by decide +kernel
theorem a_PF_at : (parseMethodDescriptor M_PF_at.1.desc).map (fun d => d.parameters.length) = some 5 := by decide +kernel
def M_PF_takeRing : q_M := (⟨"PlaneFills", "takeRing", "(I)Z"⟩, prog_1_method_38_code, 4, (Option.some FieldType.boolean), [])
def I_PF_takeRing : List q_J := [(0, .iload_n 1, 1, (0, 0, 0, 0), 0, 0),
  (1, .ifCond .ge 5, 3, (0, 0, 0, 999999), 0, 0),
  (4, .iconst 0, 1, (0, 0, 0, 0), 0, 0),
  (5, .ireturn, 1, (0, 0, 0, 999999), 0, 0),
  (6, .iload_n 1, 1, (0, 0, 0, 0), 0, 0),
  (7, .ifCond .ne 9, 3, (0, 0, 0, 999999), 0, 0),
  (10, .aload_n 0, 1, (0, 0, 0, 0), 0, 0),
  (11, .invokevirtual 350, 3, (0, 0, 0, 999999), 0, 0),
  (14, .iconst 1, 1, (0, 0, 0, 0), 1, 0),
  (15, .ireturn, 1, (0, 0, 0, 999999), 0, 0),
  (16, .aload_n 0, 1, (0, 0, 0, 0), 0, 0),
  (17, .getfield 38, 3, (0, 7, 2, 153), 0, 0),
  (20, .aload_n 0, 1, (0, 0, 0, 0), 0, 0),
  (21, .getfield 34, 3, (0, 6, 2, 152), 0, 0),
  (24, .getfield 171, 3, (3, 2, 2, 100000), 0, 0),
  (27, .invokevirtual 174, 3, (0, 0, 0, 999999), 0, 0),
  (30, .iconst 1, 1, (0, 0, 0, 0), 1, 0),
  (31, .istore_n 2, 1, (0, 0, 0, 0), 0, 0),
  (32, .iconst 0, 1, (0, 0, 0, 0), 0, 0),
  (33, .istore_n 3, 1, (0, 0, 0, 0), 0, 0),
  (34, .iload_n 3, 1, (0, 0, 0, 0), 0, 0),
  (35, .iload_n 1, 1, (0, 0, 0, 0), 0, 0),
  (36, .if_icmp .ge 18, 3, (0, 0, 0, 999999), 0, 0),
  (39, .iload_n 2, 1, (0, 0, 0, 0), 0, 0),
  (40, .ifCond .eq 14, 3, (0, 0, 0, 999999), 0, 0),
  (43, .aload_n 0, 1, (0, 0, 0, 0), 0, 0),
  (44, .invokevirtual 178, 3, (0, 0, 0, 999999), 0, 0),
  (47, .istore_n 2, 1, (0, 0, 0, 0), 0, 0),
  (48, .iinc 3 1, 3, (0, 0, 0, 0), 1, 0),
  (51, .goto (-17), 3, (0, 0, 0, 999999), 0, 0),
  (54, .aload_n 0, 1, (0, 0, 0, 0), 0, 0),
  (55, .getfield 38, 3, (0, 7, 2, 153), 0, 0),
  (58, .getfield 171, 3, (3, 2, 2, 100000), 0, 0),
  (61, .iconst 0, 1, (0, 0, 0, 0), 0, 0),
  (62, .aload_n 0, 1, (0, 0, 0, 0), 0, 0),
  (63, .getfield 41, 3, (0, 8, 2, 154), 0, 0),
  (66, .iconst 0, 1, (0, 0, 0, 0), 0, 0),
  (67, .bipush 24, 2, (0, 0, 0, 0), 24, 0),
  (69, .invokestatic 277, 3, (0, 0, 0, 999999), 0, 0),
  (72, .iload_n 2, 1, (0, 0, 0, 0), 0, 0),
  (73, .ireturn, 1, (0, 0, 0, 999999), 0, 0)]
set_option maxRecDepth 100000 in
theorem k_PF_takeRing : I_PF_takeRing.all (q_okb M_PF_takeRing) = true := by decide +kernel
theorem c_PF_takeRing : Cond.code M_PF_takeRing.1 M_PF_takeRing.2.1 M_PF_takeRing.2.2.1 M_PF_takeRing.2.2.2.1 ∈ q_ws := List.mem_of_getElem? (i := 794) (by decide +kernel)
theorem w_PF_takeRing : q_cw M_PF_takeRing := ⟨Or.inl c_PF_takeRing, List.mem_of_getElem? (i := 66) (by decide +kernel), by decide +kernel⟩
theorem n_PF_takeRing : Cond.instanceMethod M_PF_takeRing.1 ∈ q_ws := List.mem_of_getElem? (i := 793) (by decide +kernel)
theorem e_PF_takeRing : Cond.selects "PlaneFills" M_PF_takeRing.1 M_PF_takeRing.1 ∈ q_ws := List.mem_of_getElem? (i := 37) (by decide +kernel)
theorem p_PF_takeRing : plainFor M_PF_takeRing.1 = true := by decide +kernel
theorem a_PF_takeRing : (parseMethodDescriptor M_PF_takeRing.1.desc).map (fun d => d.parameters.length) = some 1 := by decide +kernel
def M_PF_takeEdge : q_M := (⟨"PlaneFills", "takeEdge", "()V"⟩, prog_1_method_39_code, 6, (Option.none : Option FieldType), [])
def I_PF_takeEdge : List q_J := [(0, .aload_n 0, 1, (0, 0, 0, 0), 0, 0),
  (1, .getfield 34, 3, (0, 6, 2, 152), 0, 0),
  (4, .getfield 171, 3, (3, 2, 2, 100000), 0, 0),
  (7, .astore_n 1, 1, (0, 0, 0, 0), 0, 0),
  (8, .iconst 0, 1, (0, 0, 0, 0), 0, 0),
  (9, .istore_n 2, 1, (0, 0, 0, 0), 0, 0),
  (10, .iload_n 2, 1, (0, 0, 0, 0), 0, 0),
  (11, .bipush 24, 2, (0, 0, 0, 0), 24, 0),
  (13, .if_icmp .ge 68, 3, (0, 0, 0, 999999), 0, 0),
  (16, .aload_n 1, 1, (0, 0, 0, 0), 0, 0),
  (17, .iload_n 2, 1, (0, 0, 0, 0), 0, 0),
  (18, .iaload, 1, (0, 0, 0, 0), 0, 0),
  (19, .istore_n 3, 1, (0, 0, 0, 0), 0, 0),
  (20, .iload_n 2, 1, (0, 0, 0, 0), 0, 0),
  (21, .bipush 23, 2, (0, 0, 0, 0), 23, 0),
  (23, .if_icmp .ge 11, 3, (0, 0, 0, 999999), 0, 0),
  (26, .aload_n 1, 1, (0, 0, 0, 0), 0, 0),
  (27, .iload_n 2, 1, (0, 0, 0, 0), 0, 0),
  (28, .iconst 1, 1, (0, 0, 0, 0), 1, 0),
  (29, .iadd, 1, (0, 0, 0, 0), 0, 0),
  (30, .iaload, 1, (0, 0, 0, 0), 0, 0),
  (31, .goto 4, 3, (0, 0, 0, 999999), 0, 0),
  (34, .iconst 0, 1, (0, 0, 0, 0), 0, 0),
  (35, .istore 4, 2, (0, 0, 0, 0), 0, 0),
  (37, .iload_n 2, 1, (0, 0, 0, 0), 0, 0),
  (38, .ifCond .le 11, 3, (0, 0, 0, 999999), 0, 0),
  (41, .aload_n 1, 1, (0, 0, 0, 0), 0, 0),
  (42, .iload_n 2, 1, (0, 0, 0, 0), 0, 0),
  (43, .iconst 1, 1, (0, 0, 0, 0), 1, 0),
  (44, .isub, 1, (0, 0, 0, 0), 0, 0),
  (45, .iaload, 1, (0, 0, 0, 0), 0, 0),
  (46, .goto 4, 3, (0, 0, 0, 999999), 0, 0),
  (49, .iconst 0, 1, (0, 0, 0, 0), 0, 0),
  (50, .istore 5, 2, (0, 0, 0, 0), 0, 0),
  (52, .aload_n 0, 1, (0, 0, 0, 0), 0, 0),
  (53, .getfield 41, 3, (0, 8, 2, 154), 0, 0),
  (56, .iload_n 2, 1, (0, 0, 0, 0), 0, 0),
  (57, .iload_n 3, 1, (0, 0, 0, 0), 0, 0),
  (58, .iload_n 3, 1, (0, 0, 0, 0), 0, 0),
  (59, .iconst 1, 1, (0, 0, 0, 0), 1, 0),
  (60, .ishl, 1, (0, 0, 0, 0), 0, 0),
  (61, .iload_n 3, 1, (0, 0, 0, 0), 0, 0),
  (62, .iconst 1, 1, (0, 0, 0, 0), 1, 0),
  (63, .iushr, 1, (0, 0, 0, 0), 0, 0),
  (64, .iand, 1, (0, 0, 0, 0), 0, 0),
  (65, .iload 4, 2, (0, 0, 0, 0), 0, 0),
  (67, .iand, 1, (0, 0, 0, 0), 0, 0),
  (68, .iload 5, 2, (0, 0, 0, 0), 0, 0),
  (70, .iand, 1, (0, 0, 0, 0), 0, 0),
  (71, .iconst (-1), 1, (0, 0, 0, 0), -1, 0),
  (72, .ixor, 1, (0, 0, 0, 0), 0, 0),
  (73, .iand, 1, (0, 0, 0, 0), 0, 0),
  (74, .iastore, 1, (0, 0, 0, 0), 0, 0),
  (75, .iinc 2 1, 3, (0, 0, 0, 0), 1, 0),
  (78, .goto (-68), 3, (0, 0, 0, 999999), 0, 0),
  (81, .return_, 1, (0, 0, 0, 999999), 0, 0)]
set_option maxRecDepth 100000 in
theorem k_PF_takeEdge : I_PF_takeEdge.all (q_okb M_PF_takeEdge) = true := by decide +kernel
theorem c_PF_takeEdge : Cond.code M_PF_takeEdge.1 M_PF_takeEdge.2.1 M_PF_takeEdge.2.2.1 M_PF_takeEdge.2.2.2.1 ∈ q_ws := List.mem_of_getElem? (i := 797) (by decide +kernel)
theorem w_PF_takeEdge : q_cw M_PF_takeEdge := ⟨Or.inl c_PF_takeEdge, List.mem_of_getElem? (i := 66) (by decide +kernel), by decide +kernel⟩
theorem n_PF_takeEdge : Cond.instanceMethod M_PF_takeEdge.1 ∈ q_ws := List.mem_of_getElem? (i := 796) (by decide +kernel)
theorem e_PF_takeEdge : Cond.selects "PlaneFills" M_PF_takeEdge.1 M_PF_takeEdge.1 ∈ q_ws := List.mem_of_getElem? (i := 38) (by decide +kernel)
theorem p_PF_takeEdge : plainFor M_PF_takeEdge.1 = true := by decide +kernel
theorem a_PF_takeEdge : (parseMethodDescriptor M_PF_takeEdge.1.desc).map (fun d => d.parameters.length) = some 0 := by decide +kernel
def M_PF_numberedCell : q_M := (⟨"PlaneFills", "numberedCell", "([II)I"⟩, prog_1_method_26_code, 5, (Option.some FieldType.int), [])
def I_PF_numberedCell : List q_J := [(0, .iload_n 1, 1, (0, 0, 0, 0), 0, 0),
  (1, .istore_n 2, 1, (0, 0, 0, 0), 0, 0),
  (2, .iconst 0, 1, (0, 0, 0, 0), 0, 0),
  (3, .istore_n 3, 1, (0, 0, 0, 0), 0, 0),
  (4, .iload_n 3, 1, (0, 0, 0, 0), 0, 0),
  (5, .bipush 24, 2, (0, 0, 0, 0), 24, 0),
  (7, .if_icmp .ge 45, 3, (0, 0, 0, 999999), 0, 0),
  (10, .iload_n 2, 1, (0, 0, 0, 0), 0, 0),
  (11, .ifCond .lt 41, 3, (0, 0, 0, 999999), 0, 0),
  (14, .aload_n 0, 1, (0, 0, 0, 0), 0, 0),
  (15, .iload_n 3, 1, (0, 0, 0, 0), 0, 0),
  (16, .iaload, 1, (0, 0, 0, 0), 0, 0),
  (17, .invokestatic 229, 3, (0, 0, 0, 999999), 0, 0),
  (20, .istore 4, 2, (0, 0, 0, 0), 0, 0),
  (22, .iload_n 2, 1, (0, 0, 0, 0), 0, 0),
  (23, .iload 4, 2, (0, 0, 0, 0), 0, 0),
  (25, .if_icmp .ge 16, 3, (0, 0, 0, 999999), 0, 0),
  (28, .iload_n 3, 1, (0, 0, 0, 0), 0, 0),
  (29, .bipush 32, 2, (0, 0, 0, 0), 32, 0),
  (31, .imul, 1, (0, 0, 0, 0), 0, 0),
  (32, .aload_n 0, 1, (0, 0, 0, 0), 0, 0),
  (33, .iload_n 3, 1, (0, 0, 0, 0), 0, 0),
  (34, .iaload, 1, (0, 0, 0, 0), 0, 0),
  (35, .iload_n 2, 1, (0, 0, 0, 0), 0, 0),
  (36, .invokestatic 271, 3, (0, 0, 0, 999999), 0, 0),
  (39, .iadd, 1, (0, 0, 0, 0), 0, 0),
  (40, .ireturn, 1, (0, 0, 0, 999999), 0, 0),
  (41, .iload_n 2, 1, (0, 0, 0, 0), 0, 0),
  (42, .iload 4, 2, (0, 0, 0, 0), 0, 0),
  (44, .isub, 1, (0, 0, 0, 0), 0, 0),
  (45, .istore_n 2, 1, (0, 0, 0, 0), 0, 0),
  (46, .iinc 3 1, 3, (0, 0, 0, 0), 1, 0),
  (49, .goto (-45), 3, (0, 0, 0, 999999), 0, 0),
  (52, .iconst (-1), 1, (0, 0, 0, 0), -1, 0),
  (53, .ireturn, 1, (0, 0, 0, 999999), 0, 0)]
set_option maxRecDepth 100000 in
theorem k_PF_numberedCell : I_PF_numberedCell.all (q_okb M_PF_numberedCell) = true := by decide +kernel
theorem c_PF_numberedCell : Cond.code M_PF_numberedCell.1 M_PF_numberedCell.2.1 M_PF_numberedCell.2.2.1 M_PF_numberedCell.2.2.2.1 ∈ q_ws := List.mem_of_getElem? (i := 800) (by decide +kernel)
theorem w_PF_numberedCell : q_cw M_PF_numberedCell := ⟨Or.inl c_PF_numberedCell, List.mem_of_getElem? (i := 66) (by decide +kernel), by decide +kernel⟩
theorem s_PF_numberedCell : Cond.static M_PF_numberedCell.1 ∈ q_ws := List.mem_of_getElem? (i := 799) (by decide +kernel)
theorem p_PF_numberedCell : plainFor M_PF_numberedCell.1 = true := by decide +kernel
theorem a_PF_numberedCell : (parseMethodDescriptor M_PF_numberedCell.1.desc).map (fun d => d.parameters.length) = some 2 := by decide +kernel
def M_PF_numberedColumn : q_M := (⟨"PlaneFills", "numberedColumn", "(II)I"⟩, prog_1_method_27_code, 4, (Option.some FieldType.int), [])
def I_PF_numberedColumn : List q_J := [(0, .iload_n 0, 1, (0, 0, 0, 0), 0, 0),
  (1, .istore_n 2, 1, (0, 0, 0, 0), 0, 0),
  (2, .iconst 0, 1, (0, 0, 0, 0), 0, 0),
  (3, .istore_n 3, 1, (0, 0, 0, 0), 0, 0),
  (4, .iload_n 3, 1, (0, 0, 0, 0), 0, 0),
  (5, .iload_n 1, 1, (0, 0, 0, 0), 0, 0),
  (6, .if_icmp .ge 15, 3, (0, 0, 0, 999999), 0, 0),
  (9, .iload_n 2, 1, (0, 0, 0, 0), 0, 0),
  (10, .iload_n 2, 1, (0, 0, 0, 0), 0, 0),
  (11, .iconst 1, 1, (0, 0, 0, 0), 1, 0),
  (12, .isub, 1, (0, 0, 0, 0), 0, 0),
  (13, .iand, 1, (0, 0, 0, 0), 0, 0),
  (14, .istore_n 2, 1, (0, 0, 0, 0), 0, 0),
  (15, .iinc 3 1, 3, (0, 0, 0, 0), 1, 0),
  (18, .goto (-14), 3, (0, 0, 0, 999999), 0, 0),
  (21, .iload_n 2, 1, (0, 0, 0, 0), 0, 0),
  (22, .iload_n 2, 1, (0, 0, 0, 0), 0, 0),
  (23, .ineg, 1, (0, 0, 0, 0), 0, 0),
  (24, .iand, 1, (0, 0, 0, 0), 0, 0),
  (25, .istore_n 3, 1, (0, 0, 0, 0), 0, 0),
  (26, .iload_n 3, 1, (0, 0, 0, 0), 0, 0),
  (27, .iconst 1, 1, (0, 0, 0, 0), 1, 0),
  (28, .isub, 1, (0, 0, 0, 0), 0, 0),
  (29, .invokestatic 229, 3, (0, 0, 0, 999999), 0, 0),
  (32, .ireturn, 1, (0, 0, 0, 999999), 0, 0)]
set_option maxRecDepth 100000 in
theorem k_PF_numberedColumn : I_PF_numberedColumn.all (q_okb M_PF_numberedColumn) = true := by decide +kernel
theorem c_PF_numberedColumn : Cond.code M_PF_numberedColumn.1 M_PF_numberedColumn.2.1 M_PF_numberedColumn.2.2.1 M_PF_numberedColumn.2.2.2.1 ∈ q_ws := List.mem_of_getElem? (i := 804) (by decide +kernel)
theorem w_PF_numberedColumn : q_cw M_PF_numberedColumn := ⟨Or.inl c_PF_numberedColumn, List.mem_of_getElem? (i := 66) (by decide +kernel), by decide +kernel⟩
theorem s_PF_numberedColumn : Cond.static M_PF_numberedColumn.1 ∈ q_ws := List.mem_of_getElem? (i := 803) (by decide +kernel)
theorem p_PF_numberedColumn : plainFor M_PF_numberedColumn.1 = true := by decide +kernel
theorem a_PF_numberedColumn : (parseMethodDescriptor M_PF_numberedColumn.1.desc).map (fun d => d.parameters.length) = some 2 := by decide +kernel
def M_PF_in : q_M := (⟨"PlaneFills", "in", "(IJJ)Z"⟩, prog_1_method_11_code, 7, (Option.some FieldType.boolean), [])
def I_PF_in : List q_J := [(0, .aload_n 0, 1, (0, 0, 0, 0), 0, 0),
  (1, .iload_n 1, 1, (0, 0, 0, 0), 0, 0),
  (2, .invokevirtual 93, 3, (0, 0, 0, 999999), 0, 0),
  (5, .astore 6, 2, (0, 0, 0, 0), 0, 0),
  (7, .lload_n 2, 1, (0, 0, 0, 0), 0, 0),
  (8, .lload 4, 2, (0, 0, 0, 0), 0, 0),
  (10, .invokestatic 131, 3, (0, 0, 0, 999999), 0, 0),
  (13, .ifCond .eq 28, 3, (0, 0, 0, 999999), 0, 0),
  (16, .aload 6, 2, (0, 0, 0, 0), 0, 0),
  (18, .getfield 156, 3, (5, 10, 2, 100011), 0, 0),
  (21, .getfield 195, 3, (1, 0, 2, 100001), 0, 0),
  (24, .lload 4, 2, (0, 0, 0, 0), 0, 0),
  (26, .l2i, 1, (0, 0, 0, 0), 0, 0),
  (27, .iaload, 1, (0, 0, 0, 0), 0, 0),
  (28, .lload_n 2, 1, (0, 0, 0, 0), 0, 0),
  (29, .lload_n 2, 1, (0, 0, 0, 0), 0, 0),
  (30, .invokestatic 198, 3, (0, 0, 0, 999999), 0, 0),
  (33, .iand, 1, (0, 0, 0, 0), 0, 0),
  (34, .ifCond .eq 7, 3, (0, 0, 0, 999999), 0, 0),
  (37, .iconst 1, 1, (0, 0, 0, 0), 1, 0),
  (38, .goto 4, 3, (0, 0, 0, 999999), 0, 0),
  (41, .iconst 0, 1, (0, 0, 0, 0), 0, 0),
  (42, .ireturn, 1, (0, 0, 0, 999999), 0, 0)]
set_option maxRecDepth 100000 in
theorem k_PF_in : I_PF_in.all (q_okb M_PF_in) = true := by decide +kernel
theorem c_PF_in : Cond.code M_PF_in.1 M_PF_in.2.1 M_PF_in.2.2.1 M_PF_in.2.2.2.1 ∈ q_ws := List.mem_of_getElem? (i := 811) (by decide +kernel)
theorem w_PF_in : q_cw M_PF_in := ⟨Or.inl c_PF_in, List.mem_of_getElem? (i := 66) (by decide +kernel), by decide +kernel⟩
theorem n_PF_in : Cond.instanceMethod M_PF_in.1 ∈ q_ws := List.mem_of_getElem? (i := 809) (by decide +kernel)
theorem e_PF_in : Cond.selects "PlaneFills" M_PF_in.1 M_PF_in.1 ∈ q_ws := List.mem_of_getElem? (i := 810) (by decide +kernel)
theorem p_PF_in : plainFor M_PF_in.1 = true := by decide +kernel
theorem a_PF_in : (parseMethodDescriptor M_PF_in.1.desc).map (fun d => d.parameters.length) = some 3 := by decide +kernel
def M_PF_islands : q_M := (⟨"PlaneFills", "islands", "(I)I"⟩, prog_1_method_12_code, 2, (Option.some FieldType.int), [])
def I_PF_islands : List q_J := [(0, .aload_n 0, 1, (0, 0, 0, 0), 0, 0),
  (1, .iload_n 1, 1, (0, 0, 0, 0), 0, 0),
  (2, .invokevirtual 93, 3, (0, 0, 0, 999999), 0, 0),
  (5, .getfield 156, 3, (5, 10, 2, 100011), 0, 0),
  (8, .getfield 202, 3, (1, 2, 0, 100003), 0, 0),
  (11, .ireturn, 1, (0, 0, 0, 999999), 0, 0)]
set_option maxRecDepth 100000 in
theorem k_PF_islands : I_PF_islands.all (q_okb M_PF_islands) = true := by decide +kernel
theorem c_PF_islands : Cond.code M_PF_islands.1 M_PF_islands.2.1 M_PF_islands.2.2.1 M_PF_islands.2.2.2.1 ∈ q_ws := List.mem_of_getElem? (i := 818) (by decide +kernel)
theorem w_PF_islands : q_cw M_PF_islands := ⟨Or.inl c_PF_islands, List.mem_of_getElem? (i := 66) (by decide +kernel), by decide +kernel⟩
theorem n_PF_islands : Cond.instanceMethod M_PF_islands.1 ∈ q_ws := List.mem_of_getElem? (i := 816) (by decide +kernel)
theorem e_PF_islands : Cond.selects "PlaneFills" M_PF_islands.1 M_PF_islands.1 ∈ q_ws := List.mem_of_getElem? (i := 817) (by decide +kernel)
theorem p_PF_islands : plainFor M_PF_islands.1 = true := by decide +kernel
theorem a_PF_islands : (parseMethodDescriptor M_PF_islands.1.desc).map (fun d => d.parameters.length) = some 1 := by decide +kernel
def M_PF_spoke : q_M := (⟨"PlaneFills", "spoke", "(III)I"⟩, prog_1_method_13_code, 5, (Option.some FieldType.int), [])
def I_PF_spoke : List q_J := [(0, .iload_n 1, 1, (0, 0, 0, 0), 0, 0),
  (1, .ifCond .lt 16, 3, (0, 0, 0, 999999), 0, 0),
  (4, .iload_n 1, 1, (0, 0, 0, 0), 0, 0),
  (5, .aload_n 0, 1, (0, 0, 0, 0), 0, 0),
  (6, .getfield 22, 3, (0, 4, 2, 150), 0, 0),
  (9, .invokeinterface 71 1, 5, (0, 0, 0, 999999), 0, 0),
  (14, .if_icmp .lt 13, 3, (0, 0, 0, 999999), 0, 0),
  (17, .new 118, 3, (0, 0, 0, 999999), 0, 0),
  (20, .dup, 1, (0, 0, 0, 0), 0, 0),
  (21, .ldc 205, 2, (0, 0, 0, 999999), 0, 0),
  (23, .invokespecial 122, 3, (0, 0, 0, 999999), 0, 0),
  (26, .athrow, 1, (0, 0, 0, 999999), 0, 0),
  (27, .iload_n 2, 1, (0, 0, 0, 0), 0, 0),
  (28, .ifCond .lt 17, 3, (0, 0, 0, 999999), 0, 0),
  (31, .iload_n 2, 1, (0, 0, 0, 0), 0, 0),
  (32, .iconst 4, 1, (0, 0, 0, 0), 4, 0),
  (33, .if_icmp .ge 12, 3, (0, 0, 0, 999999), 0, 0),
  (36, .iload_n 3, 1, (0, 0, 0, 0), 0, 0),
  (37, .ifCond .lt 8, 3, (0, 0, 0, 999999), 0, 0),
  (40, .iload_n 3, 1, (0, 0, 0, 0), 0, 0),
  (41, .iconst 2, 1, (0, 0, 0, 0), 2, 0),
  (42, .if_icmp .le 13, 3, (0, 0, 0, 999999), 0, 0),
  (45, .new 118, 3, (0, 0, 0, 999999), 0, 0),
  (48, .dup, 1, (0, 0, 0, 0), 0, 0),
  (49, .ldc 207, 2, (0, 0, 0, 999999), 0, 0),
  (51, .invokespecial 122, 3, (0, 0, 0, 999999), 0, 0),
  (54, .athrow, 1, (0, 0, 0, 999999), 0, 0),
  (55, .aload_n 0, 1, (0, 0, 0, 0), 0, 0),
  (56, .getfield 22, 3, (0, 4, 2, 150), 0, 0),
  (59, .iload_n 1, 1, (0, 0, 0, 0), 0, 0),
  (60, .invokeinterface 149 2, 5, (0, 0, 0, 999999), 0, 0),
  (65, .checkcast 141, 3, (0, 0, 0, 999999), 0, 0),
  (68, .astore 4, 2, (0, 0, 0, 0), 0, 0),
  (70, .iload_n 3, 1, (0, 0, 0, 0), 0, 0),
  (71, .ifCond .ne 19, 3, (0, 0, 0, 999999), 0, 0),
  (74, .aload_n 0, 1, (0, 0, 0, 0), 0, 0),
  (75, .aload 4, 2, (0, 0, 0, 0), 0, 0),
  (77, .iload_n 2, 1, (0, 0, 0, 0), 0, 0),
  (78, .invokevirtual 209, 3, (0, 0, 0, 999999), 0, 0),
  (81, .ifCond .eq 7, 3, (0, 0, 0, 999999), 0, 0),
  (84, .iconst 1, 1, (0, 0, 0, 0), 1, 0),
  (85, .goto 4, 3, (0, 0, 0, 999999), 0, 0),
  (88, .iconst 0, 1, (0, 0, 0, 0), 0, 0),
  (89, .ireturn, 1, (0, 0, 0, 999999), 0, 0),
  (90, .iload_n 3, 1, (0, 0, 0, 0), 0, 0),
  (91, .iconst 1, 1, (0, 0, 0, 0), 1, 0),
  (92, .if_icmp .ne 12, 3, (0, 0, 0, 999999), 0, 0),
  (95, .aload 4, 2, (0, 0, 0, 0), 0, 0),
  (97, .iload_n 2, 1, (0, 0, 0, 0), 0, 0),
  (98, .invokevirtual 213, 3, (0, 0, 0, 999999), 0, 0),
  (101, .goto 9, 3, (0, 0, 0, 999999), 0, 0),
  (104, .aload 4, 2, (0, 0, 0, 0), 0, 0),
  (106, .iload_n 2, 1, (0, 0, 0, 0), 0, 0),
  (107, .invokevirtual 216, 3, (0, 0, 0, 999999), 0, 0),
  (110, .ireturn, 1, (0, 0, 0, 999999), 0, 0)]
set_option maxRecDepth 100000 in
theorem k_PF_spoke : I_PF_spoke.all (q_okb M_PF_spoke) = true := by decide +kernel
theorem c_PF_spoke : Cond.code M_PF_spoke.1 M_PF_spoke.2.1 M_PF_spoke.2.2.1 M_PF_spoke.2.2.2.1 ∈ q_ws := List.mem_of_getElem? (i := 825) (by decide +kernel)
theorem w_PF_spoke : q_cw M_PF_spoke := ⟨Or.inl c_PF_spoke, List.mem_of_getElem? (i := 66) (by decide +kernel), by decide +kernel⟩
theorem n_PF_spoke : Cond.instanceMethod M_PF_spoke.1 ∈ q_ws := List.mem_of_getElem? (i := 823) (by decide +kernel)
theorem e_PF_spoke : Cond.selects "PlaneFills" M_PF_spoke.1 M_PF_spoke.1 ∈ q_ws := List.mem_of_getElem? (i := 824) (by decide +kernel)
theorem p_PF_spoke : plainFor M_PF_spoke.1 = true := by decide +kernel
theorem a_PF_spoke : (parseMethodDescriptor M_PF_spoke.1.desc).map (fun d => d.parameters.length) = some 3 := by decide +kernel
def M_PF_spokeIsFilled : q_M := (⟨"PlaneFills", "spokeIsFilled", "(LPlaneFills$Pad;I)Z"⟩, prog_1_method_41_code, 7, (Option.some FieldType.boolean), [])
def I_PF_spokeIsFilled : List q_J := [(0, .aload_n 1, 1, (0, 0, 0, 0), 0, 0),
  (1, .iload_n 2, 1, (0, 0, 0, 0), 0, 0),
  (2, .invokevirtual 213, 3, (0, 0, 0, 999999), 0, 0),
  (5, .istore_n 3, 1, (0, 0, 0, 0), 0, 0),
  (6, .aload_n 1, 1, (0, 0, 0, 0), 0, 0),
  (7, .iload_n 2, 1, (0, 0, 0, 0), 0, 0),
  (8, .invokevirtual 216, 3, (0, 0, 0, 999999), 0, 0),
  (11, .istore 4, 2, (0, 0, 0, 0), 0, 0),
  (13, .iconst 0, 1, (0, 0, 0, 0), 0, 0),
  (14, .istore 5, 2, (0, 0, 0, 0), 0, 0),
  (16, .iconst 0, 1, (0, 0, 0, 0), 0, 0),
  (17, .istore 6, 2, (0, 0, 0, 0), 0, 0),
  (19, .iload 6, 2, (0, 0, 0, 0), 0, 0),
  (21, .aload_n 0, 1, (0, 0, 0, 0), 0, 0),
  (22, .getfield 25, 3, (0, 5, 2, 151), 0, 0),
  (25, .iconst 1, 1, (0, 0, 0, 0), 1, 0),
  (26, .iaload, 1, (0, 0, 0, 0), 0, 0),
  (27, .if_icmp .ge 68, 3, (0, 0, 0, 999999), 0, 0),
  (30, .iload_n 3, 1, (0, 0, 0, 0), 0, 0),
  (31, .i2l, 1, (0, 0, 0, 0), 0, 0),
  (32, .iload 4, 2, (0, 0, 0, 0), 0, 0),
  (34, .i2l, 1, (0, 0, 0, 0), 0, 0),
  (35, .invokestatic 131, 3, (0, 0, 0, 999999), 0, 0),
  (38, .ifCond .eq 57, 3, (0, 0, 0, 999999), 0, 0),
  (41, .aload_n 0, 1, (0, 0, 0, 0), 0, 0),
  (42, .aload_n 1, 1, (0, 0, 0, 0), 0, 0),
  (43, .getfield 317, 3, (4, 0, 0, 100015), 0, 0),
  (46, .aload_n 1, 1, (0, 0, 0, 0), 0, 0),
  (47, .getfield 316, 3, (4, 1, 0, 100016), 0, 0),
  (50, .iload 4, 2, (0, 0, 0, 0), 0, 0),
  (52, .invokevirtual 356, 3, (0, 0, 0, 999999), 0, 0),
  (55, .iload_n 3, 1, (0, 0, 0, 0), 0, 0),
  (56, .i2l, 1, (0, 0, 0, 0), 0, 0),
  (57, .iload_n 3, 1, (0, 0, 0, 0), 0, 0),
  (58, .i2l, 1, (0, 0, 0, 0), 0, 0),
  (59, .invokestatic 198, 3, (0, 0, 0, 999999), 0, 0),
  (62, .iand, 1, (0, 0, 0, 0), 0, 0),
  (63, .ifCond .ne 5, 3, (0, 0, 0, 999999), 0, 0),
  (66, .iconst 0, 1, (0, 0, 0, 0), 0, 0),
  (67, .ireturn, 1, (0, 0, 0, 999999), 0, 0),
  (68, .iconst 1, 1, (0, 0, 0, 0), 1, 0),
  (69, .istore 5, 2, (0, 0, 0, 0), 0, 0),
  (71, .iload_n 3, 1, (0, 0, 0, 0), 0, 0),
  (72, .getstatic 360, 3, (0, 0, 0, 999999), 0, 0),
  (75, .iload_n 2, 1, (0, 0, 0, 0), 0, 0),
  (76, .iaload, 1, (0, 0, 0, 0), 0, 0),
  (77, .iadd, 1, (0, 0, 0, 0), 0, 0),
  (78, .istore_n 3, 1, (0, 0, 0, 0), 0, 0),
  (79, .iload 4, 2, (0, 0, 0, 0), 0, 0),
  (81, .getstatic 363, 3, (0, 0, 0, 999999), 0, 0),
  (84, .iload_n 2, 1, (0, 0, 0, 0), 0, 0),
  (85, .iaload, 1, (0, 0, 0, 0), 0, 0),
  (86, .iadd, 1, (0, 0, 0, 0), 0, 0),
  (87, .istore 4, 2, (0, 0, 0, 0), 0, 0),
  (89, .iinc 6 1, 3, (0, 0, 0, 0), 1, 0),
  (92, .goto (-73), 3, (0, 0, 0, 999999), 0, 0),
  (95, .iload 5, 2, (0, 0, 0, 0), 0, 0),
  (97, .ireturn, 1, (0, 0, 0, 999999), 0, 0)]
set_option maxRecDepth 100000 in
theorem k_PF_spokeIsFilled : I_PF_spokeIsFilled.all (q_okb M_PF_spokeIsFilled) = true := by decide +kernel
theorem c_PF_spokeIsFilled : Cond.code M_PF_spokeIsFilled.1 M_PF_spokeIsFilled.2.1 M_PF_spokeIsFilled.2.2.1 M_PF_spokeIsFilled.2.2.2.1 ∈ q_ws := List.mem_of_getElem? (i := 828) (by decide +kernel)
theorem w_PF_spokeIsFilled : q_cw M_PF_spokeIsFilled := ⟨Or.inl c_PF_spokeIsFilled, List.mem_of_getElem? (i := 66) (by decide +kernel), by decide +kernel⟩
theorem n_PF_spokeIsFilled : Cond.instanceMethod M_PF_spokeIsFilled.1 ∈ q_ws := List.mem_of_getElem? (i := 827) (by decide +kernel)
theorem e_PF_spokeIsFilled : Cond.selects "PlaneFills" M_PF_spokeIsFilled.1 M_PF_spokeIsFilled.1 ∈ q_ws := List.mem_of_getElem? (i := 39) (by decide +kernel)
theorem p_PF_spokeIsFilled : plainFor M_PF_spokeIsFilled.1 = true := by decide +kernel
theorem a_PF_spokeIsFilled : (parseMethodDescriptor M_PF_spokeIsFilled.1.desc).map (fun d => d.parameters.length) = some 2 := by decide +kernel
def M_PF_filledRow : q_M := (⟨"PlaneFills", "filledRow", "(III)I"⟩, prog_1_method_42_code, 7, (Option.some FieldType.int), [])
def I_PF_filledRow : List q_J := [(0, .iconst 0, 1, (0, 0, 0, 0), 0, 0),
  (1, .istore 4, 2, (0, 0, 0, 0), 0, 0),
  (3, .iconst 0, 1, (0, 0, 0, 0), 0, 0),
  (4, .istore 5, 2, (0, 0, 0, 0), 0, 0),
  (6, .iload 5, 2, (0, 0, 0, 0), 0, 0),
  (8, .aload_n 0, 1, (0, 0, 0, 0), 0, 0),
  (9, .getfield 12, 3, (0, 1, 2, 147), 0, 0),
  (12, .invokeinterface 71 1, 5, (0, 0, 0, 999999), 0, 0),
  (17, .if_icmp .ge 58, 3, (0, 0, 0, 999999), 0, 0),
  (20, .aload_n 0, 1, (0, 0, 0, 0), 0, 0),
  (21, .getfield 12, 3, (0, 1, 2, 147), 0, 0),
  (24, .iload 5, 2, (0, 0, 0, 0), 0, 0),
  (26, .invokeinterface 149 2, 5, (0, 0, 0, 999999), 0, 0),
  (31, .checkcast 77, 3, (0, 0, 0, 999999), 0, 0),
  (34, .astore 6, 2, (0, 0, 0, 0), 0, 0),
  (36, .aload 6, 2, (0, 0, 0, 0), 0, 0),
  (38, .getfield 312, 3, (5, 0, 0, 100005), 0, 0),
  (41, .iload_n 1, 1, (0, 0, 0, 0), 0, 0),
  (42, .if_icmp .ne 27, 3, (0, 0, 0, 999999), 0, 0),
  (45, .aload 6, 2, (0, 0, 0, 0), 0, 0),
  (47, .getfield 308, 3, (5, 1, 0, 100006), 0, 0),
  (50, .iload_n 2, 1, (0, 0, 0, 0), 0, 0),
  (51, .if_icmp .ne 18, 3, (0, 0, 0, 999999), 0, 0),
  (54, .iload 4, 2, (0, 0, 0, 0), 0, 0),
  (56, .aload 6, 2, (0, 0, 0, 0), 0, 0),
  (58, .getfield 156, 3, (5, 10, 2, 100011), 0, 0),
  (61, .getfield 195, 3, (1, 0, 2, 100001), 0, 0),
  (64, .iload_n 3, 1, (0, 0, 0, 0), 0, 0),
  (65, .iaload, 1, (0, 0, 0, 0), 0, 0),
  (66, .ior, 1, (0, 0, 0, 0), 0, 0),
  (67, .istore 4, 2, (0, 0, 0, 0), 0, 0),
  (69, .iinc 5 1, 3, (0, 0, 0, 0), 1, 0),
  (72, .goto (-66), 3, (0, 0, 0, 999999), 0, 0),
  (75, .iload 4, 2, (0, 0, 0, 0), 0, 0),
  (77, .ireturn, 1, (0, 0, 0, 999999), 0, 0)]
set_option maxRecDepth 100000 in
theorem k_PF_filledRow : I_PF_filledRow.all (q_okb M_PF_filledRow) = true := by decide +kernel
theorem c_PF_filledRow : Cond.code M_PF_filledRow.1 M_PF_filledRow.2.1 M_PF_filledRow.2.2.1 M_PF_filledRow.2.2.2.1 ∈ q_ws := List.mem_of_getElem? (i := 835) (by decide +kernel)
theorem w_PF_filledRow : q_cw M_PF_filledRow := ⟨Or.inl c_PF_filledRow, List.mem_of_getElem? (i := 66) (by decide +kernel), by decide +kernel⟩
theorem n_PF_filledRow : Cond.instanceMethod M_PF_filledRow.1 ∈ q_ws := List.mem_of_getElem? (i := 834) (by decide +kernel)
theorem e_PF_filledRow : Cond.selects "PlaneFills" M_PF_filledRow.1 M_PF_filledRow.1 ∈ q_ws := List.mem_of_getElem? (i := 42) (by decide +kernel)
theorem p_PF_filledRow : plainFor M_PF_filledRow.1 = true := by decide +kernel
theorem a_PF_filledRow : (parseMethodDescriptor M_PF_filledRow.1.desc).map (fun d => d.parameters.length) = some 3 := by decide +kernel
def M_PF_stitch : q_M := (⟨"PlaneFills", "stitch", "(IJ)I"⟩, prog_1_method_14_code, 8, (Option.some FieldType.int), [])
def I_PF_stitch : List q_J := [(0, .iload_n 1, 1, (0, 0, 0, 0), 0, 0),
  (1, .invokestatic 61, 3, (0, 0, 0, 999999), 0, 0),
  (4, .lload_n 2, 1, (0, 0, 0, 0), 0, 0),
  (5, .lconst 1, 1, (0, 0, 0, 0), 0, 1),
  (6, .lcmp, 1, (0, 0, 0, 0), 0, 0),
  (7, .ifCond .lt 11, 3, (0, 0, 0, 999999), 0, 0),
  (10, .lload_n 2, 1, (0, 0, 0, 0), 0, 0),
  (11, .ldc2_w 219, 3, (0, 0, 0, 845), 0, 16),
  (14, .lcmp, 1, (0, 0, 0, 0), 0, 0),
  (15, .ifCond .le 13, 3, (0, 0, 0, 999999), 0, 0),
  (18, .new 64, 3, (0, 0, 0, 999999), 0, 0),
  (21, .dup, 1, (0, 0, 0, 0), 0, 0),
  (22, .ldc 221, 2, (0, 0, 0, 999999), 0, 0),
  (24, .invokespecial 68, 3, (0, 0, 0, 999999), 0, 0),
  (27, .athrow, 1, (0, 0, 0, 999999), 0, 0),
  (28, .lload_n 2, 1, (0, 0, 0, 0), 0, 0),
  (29, .l2i, 1, (0, 0, 0, 0), 0, 0),
  (30, .istore 4, 2, (0, 0, 0, 0), 0, 0),
  (32, .iload 4, 2, (0, 0, 0, 0), 0, 0),
  (34, .iconst 1, 1, (0, 0, 0, 0), 1, 0),
  (35, .invokestatic 223, 3, (0, 0, 0, 999999), 0, 0),
  (38, .istore 5, 2, (0, 0, 0, 0), 0, 0),
  (40, .iconst 0, 1, (0, 0, 0, 0), 0, 0),
  (41, .istore 6, 2, (0, 0, 0, 0), 0, 0),
  (43, .iconst 0, 1, (0, 0, 0, 0), 0, 0),
  (44, .istore 7, 2, (0, 0, 0, 0), 0, 0),
  (46, .iload 7, 2, (0, 0, 0, 0), 0, 0),
  (48, .bipush 24, 2, (0, 0, 0, 0), 24, 0),
  (50, .if_icmp .ge 31, 3, (0, 0, 0, 999999), 0, 0),
  (53, .iload 6, 2, (0, 0, 0, 0), 0, 0),
  (55, .iload 5, 2, (0, 0, 0, 0), 0, 0),
  (57, .aload_n 0, 1, (0, 0, 0, 0), 0, 0),
  (58, .iload_n 1, 1, (0, 0, 0, 0), 0, 0),
  (59, .iload 7, 2, (0, 0, 0, 0), 0, 0),
  (61, .invokevirtual 226, 3, (0, 0, 0, 999999), 0, 0),
  (64, .iand, 1, (0, 0, 0, 0), 0, 0),
  (65, .invokestatic 229, 3, (0, 0, 0, 999999), 0, 0),
  (68, .iadd, 1, (0, 0, 0, 0), 0, 0),
  (69, .istore 6, 2, (0, 0, 0, 0), 0, 0),
  (71, .iload 7, 2, (0, 0, 0, 0), 0, 0),
  (73, .iload 4, 2, (0, 0, 0, 0), 0, 0),
  (75, .iadd, 1, (0, 0, 0, 0), 0, 0),
  (76, .istore 7, 2, (0, 0, 0, 0), 0, 0),
  (78, .goto (-32), 3, (0, 0, 0, 999999), 0, 0),
  (81, .iload 6, 2, (0, 0, 0, 0), 0, 0),
  (83, .ireturn, 1, (0, 0, 0, 999999), 0, 0)]
set_option maxRecDepth 100000 in
theorem k_PF_stitch : I_PF_stitch.all (q_okb M_PF_stitch) = true := by decide +kernel
theorem c_PF_stitch : Cond.code M_PF_stitch.1 M_PF_stitch.2.1 M_PF_stitch.2.2.1 M_PF_stitch.2.2.2.1 ∈ q_ws := List.mem_of_getElem? (i := 844) (by decide +kernel)
theorem w_PF_stitch : q_cw M_PF_stitch := ⟨Or.inl c_PF_stitch, List.mem_of_getElem? (i := 66) (by decide +kernel), by decide +kernel⟩
theorem n_PF_stitch : Cond.instanceMethod M_PF_stitch.1 ∈ q_ws := List.mem_of_getElem? (i := 842) (by decide +kernel)
theorem e_PF_stitch : Cond.selects "PlaneFills" M_PF_stitch.1 M_PF_stitch.1 ∈ q_ws := List.mem_of_getElem? (i := 843) (by decide +kernel)
theorem p_PF_stitch : plainFor M_PF_stitch.1 = true := by decide +kernel
theorem a_PF_stitch : (parseMethodDescriptor M_PF_stitch.1.desc).map (fun d => d.parameters.length) = some 2 := by decide +kernel
def M_PF_onTwoLayers : q_M := (⟨"PlaneFills", "onTwoLayers", "(II)I"⟩, prog_1_method_43_code, 7, (Option.some FieldType.int), [])
def I_PF_onTwoLayers : List q_J := [(0, .iconst 0, 1, (0, 0, 0, 0), 0, 0),
  (1, .istore_n 3, 1, (0, 0, 0, 0), 0, 0),
  (2, .iconst 0, 1, (0, 0, 0, 0), 0, 0),
  (3, .istore 4, 2, (0, 0, 0, 0), 0, 0),
  (5, .iconst 0, 1, (0, 0, 0, 0), 0, 0),
  (6, .istore 5, 2, (0, 0, 0, 0), 0, 0),
  (8, .iload 5, 2, (0, 0, 0, 0), 0, 0),
  (10, .aload_n 0, 1, (0, 0, 0, 0), 0, 0),
  (11, .getfield 53, 3, (0, 0, 0, 146), 0, 0),
  (14, .if_icmp .ge 33, 3, (0, 0, 0, 999999), 0, 0),
  (17, .aload_n 0, 1, (0, 0, 0, 0), 0, 0),
  (18, .iload_n 1, 1, (0, 0, 0, 0), 0, 0),
  (19, .iload 5, 2, (0, 0, 0, 0), 0, 0),
  (21, .iload_n 2, 1, (0, 0, 0, 0), 0, 0),
  (22, .invokevirtual 356, 3, (0, 0, 0, 999999), 0, 0),
  (25, .istore 6, 2, (0, 0, 0, 0), 0, 0),
  (27, .iload 4, 2, (0, 0, 0, 0), 0, 0),
  (29, .iload_n 3, 1, (0, 0, 0, 0), 0, 0),
  (30, .iload 6, 2, (0, 0, 0, 0), 0, 0),
  (32, .iand, 1, (0, 0, 0, 0), 0, 0),
  (33, .ior, 1, (0, 0, 0, 0), 0, 0),
  (34, .istore 4, 2, (0, 0, 0, 0), 0, 0),
  (36, .iload_n 3, 1, (0, 0, 0, 0), 0, 0),
  (37, .iload 6, 2, (0, 0, 0, 0), 0, 0),
  (39, .ior, 1, (0, 0, 0, 0), 0, 0),
  (40, .istore_n 3, 1, (0, 0, 0, 0), 0, 0),
  (41, .iinc 5 1, 3, (0, 0, 0, 0), 1, 0),
  (44, .goto (-36), 3, (0, 0, 0, 999999), 0, 0),
  (47, .iload 4, 2, (0, 0, 0, 0), 0, 0),
  (49, .ireturn, 1, (0, 0, 0, 999999), 0, 0)]
set_option maxRecDepth 100000 in
theorem k_PF_onTwoLayers : I_PF_onTwoLayers.all (q_okb M_PF_onTwoLayers) = true := by decide +kernel
theorem c_PF_onTwoLayers : Cond.code M_PF_onTwoLayers.1 M_PF_onTwoLayers.2.1 M_PF_onTwoLayers.2.2.1 M_PF_onTwoLayers.2.2.2.1 ∈ q_ws := List.mem_of_getElem? (i := 848) (by decide +kernel)
theorem w_PF_onTwoLayers : q_cw M_PF_onTwoLayers := ⟨Or.inl c_PF_onTwoLayers, List.mem_of_getElem? (i := 66) (by decide +kernel), by decide +kernel⟩
theorem n_PF_onTwoLayers : Cond.instanceMethod M_PF_onTwoLayers.1 ∈ q_ws := List.mem_of_getElem? (i := 847) (by decide +kernel)
theorem e_PF_onTwoLayers : Cond.selects "PlaneFills" M_PF_onTwoLayers.1 M_PF_onTwoLayers.1 ∈ q_ws := List.mem_of_getElem? (i := 43) (by decide +kernel)
theorem p_PF_onTwoLayers : plainFor M_PF_onTwoLayers.1 = true := by decide +kernel
theorem a_PF_onTwoLayers : (parseMethodDescriptor M_PF_onTwoLayers.1.desc).map (fun d => d.parameters.length) = some 2 := by decide +kernel
def M_PF_hatch : q_M := (⟨"PlaneFills", "hatch", "(IJJ)Z"⟩, prog_1_method_15_code, 8, (Option.some FieldType.boolean), [])
def I_PF_hatch : List q_J := [(0, .aload_n 0, 1, (0, 0, 0, 0), 0, 0),
  (1, .iload_n 1, 1, (0, 0, 0, 0), 0, 0),
  (2, .invokevirtual 93, 3, (0, 0, 0, 999999), 0, 0),
  (5, .astore 6, 2, (0, 0, 0, 0), 0, 0),
  (7, .lload_n 2, 1, (0, 0, 0, 0), 0, 0),
  (8, .lconst 0, 1, (0, 0, 0, 0), 0, 0),
  (9, .lcmp, 1, (0, 0, 0, 0), 0, 0),
  (10, .ifCond .lt 25, 3, (0, 0, 0, 999999), 0, 0),
  (13, .lload_n 2, 1, (0, 0, 0, 0), 0, 0),
  (14, .ldc2_w 219, 3, (0, 0, 0, 845), 0, 16),
  (17, .lcmp, 1, (0, 0, 0, 0), 0, 0),
  (18, .ifCond .gt 17, 3, (0, 0, 0, 999999), 0, 0),
  (21, .lload 4, 2, (0, 0, 0, 0), 0, 0),
  (23, .lconst 0, 1, (0, 0, 0, 0), 0, 0),
  (24, .lcmp, 1, (0, 0, 0, 0), 0, 0),
  (25, .ifCond .lt 10, 3, (0, 0, 0, 999999), 0, 0),
  (28, .lload 4, 2, (0, 0, 0, 0), 0, 0),
  (30, .lload_n 2, 1, (0, 0, 0, 0), 0, 0),
  (31, .lcmp, 1, (0, 0, 0, 0), 0, 0),
  (32, .ifCond .le 13, 3, (0, 0, 0, 999999), 0, 0),
  (35, .new 64, 3, (0, 0, 0, 999999), 0, 0),
  (38, .dup, 1, (0, 0, 0, 0), 0, 0),
  (39, .ldc 234, 2, (0, 0, 0, 999999), 0, 0),
  (41, .invokespecial 68, 3, (0, 0, 0, 999999), 0, 0),
  (44, .athrow, 1, (0, 0, 0, 999999), 0, 0),
  (45, .aload 6, 2, (0, 0, 0, 0), 0, 0),
  (47, .getfield 236, 3, (5, 8, 0, 100009), 0, 0),
  (50, .i2l, 1, (0, 0, 0, 0), 0, 0),
  (51, .lload_n 2, 1, (0, 0, 0, 0), 0, 0),
  (52, .lcmp, 1, (0, 0, 0, 0), 0, 0),
  (53, .ifCond .ne 15, 3, (0, 0, 0, 999999), 0, 0),
  (56, .aload 6, 2, (0, 0, 0, 0), 0, 0),
  (58, .getfield 239, 3, (5, 9, 0, 100010), 0, 0),
  (61, .i2l, 1, (0, 0, 0, 0), 0, 0),
  (62, .lload 4, 2, (0, 0, 0, 0), 0, 0),
  (64, .lcmp, 1, (0, 0, 0, 0), 0, 0),
  (65, .ifCond .eq 7, 3, (0, 0, 0, 999999), 0, 0),
  (68, .iconst 1, 1, (0, 0, 0, 0), 1, 0),
  (69, .goto 4, 3, (0, 0, 0, 999999), 0, 0),
  (72, .iconst 0, 1, (0, 0, 0, 0), 0, 0),
  (73, .istore 7, 2, (0, 0, 0, 0), 0, 0),
  (75, .aload 6, 2, (0, 0, 0, 0), 0, 0),
  (77, .lload_n 2, 1, (0, 0, 0, 0), 0, 0),
  (78, .l2i, 1, (0, 0, 0, 0), 0, 0),
  (79, .putfield 236, 3, (5, 8, 0, 100009), 0, 0),
  (82, .aload 6, 2, (0, 0, 0, 0), 0, 0),
  (84, .lload 4, 2, (0, 0, 0, 0), 0, 0),
  (86, .l2i, 1, (0, 0, 0, 0), 0, 0),
  (87, .putfield 239, 3, (5, 9, 0, 100010), 0, 0),
  (90, .iload 7, 2, (0, 0, 0, 0), 0, 0),
  (92, .ireturn, 1, (0, 0, 0, 999999), 0, 0)]
set_option maxRecDepth 100000 in
theorem k_PF_hatch : I_PF_hatch.all (q_okb M_PF_hatch) = true := by decide +kernel
theorem c_PF_hatch : Cond.code M_PF_hatch.1 M_PF_hatch.2.1 M_PF_hatch.2.2.1 M_PF_hatch.2.2.2.1 ∈ q_ws := List.mem_of_getElem? (i := 855) (by decide +kernel)
theorem w_PF_hatch : q_cw M_PF_hatch := ⟨Or.inl c_PF_hatch, List.mem_of_getElem? (i := 66) (by decide +kernel), by decide +kernel⟩
theorem n_PF_hatch : Cond.instanceMethod M_PF_hatch.1 ∈ q_ws := List.mem_of_getElem? (i := 853) (by decide +kernel)
theorem e_PF_hatch : Cond.selects "PlaneFills" M_PF_hatch.1 M_PF_hatch.1 ∈ q_ws := List.mem_of_getElem? (i := 854) (by decide +kernel)
theorem p_PF_hatch : plainFor M_PF_hatch.1 = true := by decide +kernel
theorem a_PF_hatch : (parseMethodDescriptor M_PF_hatch.1.desc).map (fun d => d.parameters.length) = some 3 := by decide +kernel
def M_PF_narrow : q_M := (⟨"PlaneFills", "narrow", "(I)Z"⟩, prog_1_method_17_code, 2, (Option.some FieldType.boolean), [])
def I_PF_narrow : List q_J := [(0, .aload_n 0, 1, (0, 0, 0, 0), 0, 0),
  (1, .iload_n 1, 1, (0, 0, 0, 0), 0, 0),
  (2, .invokevirtual 93, 3, (0, 0, 0, 999999), 0, 0),
  (5, .getfield 156, 3, (5, 10, 2, 100011), 0, 0),
  (8, .getfield 254, 3, (1, 3, 3, 100004), 0, 0),
  (11, .ireturn, 1, (0, 0, 0, 999999), 0, 0)]
set_option maxRecDepth 100000 in
theorem k_PF_narrow : I_PF_narrow.all (q_okb M_PF_narrow) = true := by decide +kernel
theorem c_PF_narrow : Cond.code M_PF_narrow.1 M_PF_narrow.2.1 M_PF_narrow.2.2.1 M_PF_narrow.2.2.2.1 ∈ q_ws := List.mem_of_getElem? (i := 862) (by decide +kernel)
theorem w_PF_narrow : q_cw M_PF_narrow := ⟨Or.inl c_PF_narrow, List.mem_of_getElem? (i := 66) (by decide +kernel), by decide +kernel⟩
theorem n_PF_narrow : Cond.instanceMethod M_PF_narrow.1 ∈ q_ws := List.mem_of_getElem? (i := 860) (by decide +kernel)
theorem e_PF_narrow : Cond.selects "PlaneFills" M_PF_narrow.1 M_PF_narrow.1 ∈ q_ws := List.mem_of_getElem? (i := 861) (by decide +kernel)
theorem p_PF_narrow : plainFor M_PF_narrow.1 = true := by decide +kernel
theorem a_PF_narrow : (parseMethodDescriptor M_PF_narrow.1.desc).map (fun d => d.parameters.length) = some 1 := by decide +kernel
