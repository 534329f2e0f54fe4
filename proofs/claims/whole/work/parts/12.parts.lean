/-! the nested classes: names, instructions (by program) -/
def M_PC_init : q_M := (⟨"PlaneFills$Coppe\x72", "<init>", "()V"⟩, prog_2_method_1_code, 1, (Option.none : Option FieldType), [])
def I_PC_init : List q_J := [(0, .aload_n 0, 1, (0, 0, 0, 0), 0, 0),
  (1, .invokespecial 3, 3, (0, 0, 0, 999999), 0, 0),
  (4, .aload_n 0, 1, (0, 0, 0, 0), 0, 0),
  (5, .bipush 24, 2, (0, 0, 0, 0), 24, 0),
  (7, .newarray .int, 2, (0, 0, 0, 999999), 0, 0),
  (9, .putfield 9, 3, (1, 0, 2, 379), 0, 0),
  (12, .return_, 1, (0, 0, 0, 999999), 0, 0)]
set_option maxRecDepth 100000 in
theorem k_PC_init : I_PC_init.all (q_okb M_PC_init) = true := by decide +kernel
theorem c_PC_init : Cond.code M_PC_init.1 M_PC_init.2.1 M_PC_init.2.2.1 M_PC_init.2.2.2.1 ∈ q_ws := List.mem_of_getElem? (i := 377) (by decide +kernel)
theorem w_PC_init : q_cw M_PC_init := ⟨Or.inl c_PC_init, List.mem_of_getElem? (i := 79) (by decide +kernel), by decide +kernel⟩
theorem n_PC_init : Cond.instanceMethod M_PC_init.1 ∈ q_ws := List.mem_of_getElem? (i := 376) (by decide +kernel)
theorem p_PC_init : plainFor M_PC_init.1 = true := by decide +kernel
theorem a_PC_init : (parseMethodDescriptor M_PC_init.1.desc).map (fun d => d.parameters.length) = some 0 := by decide +kernel
def M_PD_near : q_M := (⟨"PlaneFills$Disc", "nea\x72", "(II)I"⟩, prog_3_method_2_code, 7, (Option.some FieldType.int), [])
def I_PD_near : List q_J := [(0, .iconst 2, 1, (0, 0, 0, 0), 2, 0),
  (1, .aload_n 0, 1, (0, 0, 0, 0), 0, 0),
  (2, .getfield 24, 3, (2, 4, 0, 725), 0, 0),
  (5, .iload_n 2, 1, (0, 0, 0, 0), 0, 0),
  (6, .iadd, 1, (0, 0, 0, 0), 0, 0),
  (7, .imul, 1, (0, 0, 0, 0), 0, 0),
  (8, .istore_n 3, 1, (0, 0, 0, 0), 0, 0),
  (9, .iconst 2, 1, (0, 0, 0, 0), 2, 0),
  (10, .iload_n 1, 1, (0, 0, 0, 0), 0, 0),
  (11, .aload_n 0, 1, (0, 0, 0, 0), 0, 0),
  (12, .getfield 21, 3, (2, 3, 0, 724), 0, 0),
  (15, .isub, 1, (0, 0, 0, 0), 0, 0),
  (16, .imul, 1, (0, 0, 0, 0), 0, 0),
  (17, .iconst 1, 1, (0, 0, 0, 0), 1, 0),
  (18, .iadd, 1, (0, 0, 0, 0), 0, 0),
  (19, .istore 4, 2, (0, 0, 0, 0), 0, 0),
  (21, .iload_n 3, 1, (0, 0, 0, 0), 0, 0),
  (22, .iload_n 3, 1, (0, 0, 0, 0), 0, 0),
  (23, .imul, 1, (0, 0, 0, 0), 0, 0),
  (24, .iload 4, 2, (0, 0, 0, 0), 0, 0),
  (26, .iload 4, 2, (0, 0, 0, 0), 0, 0),
  (28, .imul, 1, (0, 0, 0, 0), 0, 0),
  (29, .isub, 1, (0, 0, 0, 0), 0, 0),
  (30, .istore 5, 2, (0, 0, 0, 0), 0, 0),
  (32, .iconst 0, 1, (0, 0, 0, 0), 0, 0),
  (33, .istore 6, 2, (0, 0, 0, 0), 0, 0),
  (35, .iload 6, 2, (0, 0, 0, 0), 0, 0),
  (37, .bipush 32, 2, (0, 0, 0, 0), 32, 0),
  (39, .if_icmp .ge 27, 3, (0, 0, 0, 999999), 0, 0),
  (42, .iconst 2, 1, (0, 0, 0, 0), 2, 0),
  (43, .iload 6, 2, (0, 0, 0, 0), 0, 0),
  (45, .imul, 1, (0, 0, 0, 0), 0, 0),
  (46, .iconst 1, 1, (0, 0, 0, 0), 1, 0),
  (47, .iadd, 1, (0, 0, 0, 0), 0, 0),
  (48, .iconst 2, 1, (0, 0, 0, 0), 2, 0),
  (49, .iload 6, 2, (0, 0, 0, 0), 0, 0),
  (51, .imul, 1, (0, 0, 0, 0), 0, 0),
  (52, .iconst 1, 1, (0, 0, 0, 0), 1, 0),
  (53, .iadd, 1, (0, 0, 0, 0), 0, 0),
  (54, .imul, 1, (0, 0, 0, 0), 0, 0),
  (55, .iload 5, 2, (0, 0, 0, 0), 0, 0),
  (57, .if_icmp .gt 9, 3, (0, 0, 0, 999999), 0, 0),
  (60, .iinc 6 1, 3, (0, 0, 0, 0), 1, 0),
  (63, .goto (-28), 3, (0, 0, 0, 999999), 0, 0),
  (66, .aload_n 0, 1, (0, 0, 0, 0), 0, 0),
  (67, .getfield 18, 3, (2, 2, 0, 723), 0, 0),
  (70, .iload 6, 2, (0, 0, 0, 0), 0, 0),
  (72, .isub, 1, (0, 0, 0, 0), 0, 0),
  (73, .i2l, 1, (0, 0, 0, 0), 0, 0),
  (74, .aload_n 0, 1, (0, 0, 0, 0), 0, 0),
  (75, .getfield 18, 3, (2, 2, 0, 723), 0, 0),
  (78, .iload 6, 2, (0, 0, 0, 0), 0, 0),
  (80, .iadd, 1, (0, 0, 0, 0), 0, 0),
  (81, .iconst 1, 1, (0, 0, 0, 0), 1, 0),
  (82, .isub, 1, (0, 0, 0, 0), 0, 0),
  (83, .i2l, 1, (0, 0, 0, 0), 0, 0),
  (84, .invokestatic 27, 3, (0, 0, 0, 999999), 0, 0),
  (87, .ireturn, 1, (0, 0, 0, 999999), 0, 0)]
set_option maxRecDepth 100000 in
theorem k_PD_near : I_PD_near.all (q_okb M_PD_near) = true := by decide +kernel
theorem c_PD_near : Cond.code M_PD_near.1 M_PD_near.2.1 M_PD_near.2.2.1 M_PD_near.2.2.2.1 ∈ q_ws := List.mem_of_getElem? (i := 200) (by decide +kernel)
theorem w_PD_near : q_cw M_PD_near := ⟨Or.inl c_PD_near, List.mem_of_getElem? (i := 91) (by decide +kernel), by decide +kernel⟩
theorem n_PD_near : Cond.instanceMethod M_PD_near.1 ∈ q_ws := List.mem_of_getElem? (i := 198) (by decide +kernel)
theorem e_PD_near : Cond.selects "PlaneFills$Disc" M_PD_near.1 M_PD_near.1 ∈ q_ws := List.mem_of_getElem? (i := 2) (by decide +kernel)
theorem p_PD_near : plainFor M_PD_near.1 = true := by decide +kernel
theorem a_PD_near : (parseMethodDescriptor M_PD_near.1.desc).map (fun d => d.parameters.length) = some 2 := by decide +kernel
def M_PD_init : q_M := (⟨"PlaneFills$Disc", "<init>", "(IIIII)V"⟩, prog_3_method_1_code, 6, (Option.none : Option FieldType), [])
def I_PD_init : List q_J := [(0, .aload_n 0, 1, (0, 0, 0, 0), 0, 0),
  (1, .invokespecial 3, 3, (0, 0, 0, 999999), 0, 0),
  (4, .aload_n 0, 1, (0, 0, 0, 0), 0, 0),
  (5, .iload_n 1, 1, (0, 0, 0, 0), 0, 0),
  (6, .putfield 9, 3, (2, 0, 0, 721), 0, 0),
  (9, .aload_n 0, 1, (0, 0, 0, 0), 0, 0),
  (10, .iload_n 2, 1, (0, 0, 0, 0), 0, 0),
  (11, .putfield 15, 3, (2, 1, 0, 722), 0, 0),
  (14, .aload_n 0, 1, (0, 0, 0, 0), 0, 0),
  (15, .iload_n 3, 1, (0, 0, 0, 0), 0, 0),
  (16, .putfield 18, 3, (2, 2, 0, 723), 0, 0),
  (19, .aload_n 0, 1, (0, 0, 0, 0), 0, 0),
  (20, .iload 4, 2, (0, 0, 0, 0), 0, 0),
  (22, .putfield 21, 3, (2, 3, 0, 724), 0, 0),
  (25, .aload_n 0, 1, (0, 0, 0, 0), 0, 0),
  (26, .iload 5, 2, (0, 0, 0, 0), 0, 0),
  (28, .putfield 24, 3, (2, 4, 0, 725), 0, 0),
  (31, .return_, 1, (0, 0, 0, 999999), 0, 0)]
set_option maxRecDepth 100000 in
theorem k_PD_init : I_PD_init.all (q_okb M_PD_init) = true := by decide +kernel
theorem c_PD_init : Cond.code M_PD_init.1 M_PD_init.2.1 M_PD_init.2.2.1 M_PD_init.2.2.2.1 ∈ q_ws := List.mem_of_getElem? (i := 719) (by decide +kernel)
theorem w_PD_init : q_cw M_PD_init := ⟨Or.inl c_PD_init, List.mem_of_getElem? (i := 91) (by decide +kernel), by decide +kernel⟩
theorem n_PD_init : Cond.instanceMethod M_PD_init.1 ∈ q_ws := List.mem_of_getElem? (i := 718) (by decide +kernel)
theorem p_PD_init : plainFor M_PD_init.1 = true := by decide +kernel
theorem a_PD_init : (parseMethodDescriptor M_PD_init.1.desc).map (fun d => d.parameters.length) = some 5 := by decide +kernel
def M_PG_init : q_M := (⟨"PlaneFills$Groups", "<init>", "(Z)V"⟩, prog_4_method_1_code, 2, (Option.none : Option FieldType), [])
def I_PG_init : List q_J := [(0, .aload_n 0, 1, (0, 0, 0, 0), 0, 0),
  (1, .invokespecial 3, 3, (0, 0, 0, 999999), 0, 0),
  (4, .aload_n 0, 1, (0, 0, 0, 0), 0, 0),
  (5, .bipush 24, 2, (0, 0, 0, 0), 24, 0),
  (7, .newarray .int, 2, (0, 0, 0, 999999), 0, 0),
  (9, .putfield 9, 3, (3, 1, 2, 129), 0, 0),
  (12, .aload_n 0, 1, (0, 0, 0, 0), 0, 0),
  (13, .bipush 24, 2, (0, 0, 0, 0), 24, 0),
  (15, .newarray .int, 2, (0, 0, 0, 999999), 0, 0),
  (17, .putfield 15, 3, (3, 2, 2, 130), 0, 0),
  (20, .aload_n 0, 1, (0, 0, 0, 0), 0, 0),
  (21, .iload_n 1, 1, (0, 0, 0, 0), 0, 0),
  (22, .putfield 18, 3, (3, 0, 3, 128), 0, 0),
  (25, .return_, 1, (0, 0, 0, 999999), 0, 0)]
set_option maxRecDepth 100000 in
theorem k_PG_init : I_PG_init.all (q_okb M_PG_init) = true := by decide +kernel
theorem c_PG_init : Cond.code M_PG_init.1 M_PG_init.2.1 M_PG_init.2.2.1 M_PG_init.2.2.2.1 ∈ q_ws := List.mem_of_getElem? (i := 126) (by decide +kernel)
theorem w_PG_init : q_cw M_PG_init := ⟨Or.inl c_PG_init, List.mem_of_getElem? (i := 70) (by decide +kernel), by decide +kernel⟩
theorem n_PG_init : Cond.instanceMethod M_PG_init.1 ∈ q_ws := List.mem_of_getElem? (i := 125) (by decide +kernel)
theorem p_PG_init : plainFor M_PG_init.1 = true := by decide +kernel
theorem a_PG_init : (parseMethodDescriptor M_PG_init.1.desc).map (fun d => d.parameters.length) = some 1 := by decide +kernel
def M_PG_start : q_M := (⟨"PlaneFills$Groups", "start", "([I)V"⟩, prog_4_method_2_code, 2, (Option.none : Option FieldType), [])
def I_PG_start : List q_J := [(0, .aload_n 1, 1, (0, 0, 0, 0), 0, 0),
  (1, .iconst 0, 1, (0, 0, 0, 0), 0, 0),
  (2, .aload_n 0, 1, (0, 0, 0, 0), 0, 0),
  (3, .getfield 9, 3, (3, 1, 2, 129), 0, 0),
  (6, .iconst 0, 1, (0, 0, 0, 0), 0, 0),
  (7, .bipush 24, 2, (0, 0, 0, 0), 24, 0),
  (9, .invokestatic 22, 3, (0, 0, 0, 999999), 0, 0),
  (12, .aload_n 0, 1, (0, 0, 0, 0), 0, 0),
  (13, .iconst 0, 1, (0, 0, 0, 0), 0, 0),
  (14, .putfield 28, 3, (3, 3, 0, 131), 0, 0),
  (17, .aload_n 0, 1, (0, 0, 0, 0), 0, 0),
  (18, .bipush 23, 2, (0, 0, 0, 0), 23, 0),
  (20, .putfield 32, 3, (3, 4, 0, 132), 0, 0),
  (23, .return_, 1, (0, 0, 0, 999999), 0, 0)]
set_option maxRecDepth 100000 in
theorem k_PG_start : I_PG_start.all (q_okb M_PG_start) = true := by decide +kernel
theorem c_PG_start : Cond.code M_PG_start.1 M_PG_start.2.1 M_PG_start.2.2.1 M_PG_start.2.2.2.1 ∈ q_ws := List.mem_of_getElem? (i := 249) (by decide +kernel)
theorem w_PG_start : q_cw M_PG_start := ⟨Or.inl c_PG_start, List.mem_of_getElem? (i := 70) (by decide +kernel), by decide +kernel⟩
theorem n_PG_start : Cond.instanceMethod M_PG_start.1 ∈ q_ws := List.mem_of_getElem? (i := 248) (by decide +kernel)
theorem e_PG_start : Cond.selects "PlaneFills$Groups" M_PG_start.1 M_PG_start.1 ∈ q_ws := List.mem_of_getElem? (i := 11) (by decide +kernel)
theorem p_PG_start : plainFor M_PG_start.1 = true := by decide +kernel
theorem a_PG_start : (parseMethodDescriptor M_PG_start.1.desc).map (fun d => d.parameters.length) = some 1 := by decide +kernel
def M_PG_next : q_M := (⟨"PlaneFills$Groups", "next", "()Z"⟩, prog_4_method_4_code, 2, (Option.some FieldType.boolean), [])
def I_PG_next : List q_J := [(0, .aload_n 0, 1, (0, 0, 0, 0), 0, 0),
  (1, .getfield 28, 3, (3, 3, 0, 131), 0, 0),
  (4, .istore_n 1, 1, (0, 0, 0, 0), 0, 0),
  (5, .iload_n 1, 1, (0, 0, 0, 0), 0, 0),
  (6, .aload_n 0, 1, (0, 0, 0, 0), 0, 0),
  (7, .getfield 32, 3, (3, 4, 0, 132), 0, 0),
  (10, .if_icmp .gt 16, 3, (0, 0, 0, 999999), 0, 0),
  (13, .aload_n 0, 1, (0, 0, 0, 0), 0, 0),
  (14, .getfield 15, 3, (3, 2, 2, 130), 0, 0),
  (17, .iload_n 1, 1, (0, 0, 0, 0), 0, 0),
  (18, .iconst 0, 1, (0, 0, 0, 0), 0, 0),
  (19, .iastore, 1, (0, 0, 0, 0), 0, 0),
  (20, .iinc 1 1, 3, (0, 0, 0, 0), 1, 0),
  (23, .goto (-18), 3, (0, 0, 0, 999999), 0, 0),
  (26, .aload_n 0, 1, (0, 0, 0, 0), 0, 0),
  (27, .getfield 28, 3, (3, 3, 0, 131), 0, 0),
  (30, .istore_n 1, 1, (0, 0, 0, 0), 0, 0),
  (31, .iload_n 1, 1, (0, 0, 0, 0), 0, 0),
  (32, .bipush 24, 2, (0, 0, 0, 0), 24, 0),
  (34, .if_icmp .ge 25, 3, (0, 0, 0, 999999), 0, 0),
  (37, .aload_n 0, 1, (0, 0, 0, 0), 0, 0),
  (38, .getfield 9, 3, (3, 1, 2, 129), 0, 0),
  (41, .iload_n 1, 1, (0, 0, 0, 0), 0, 0),
  (42, .iaload, 1, (0, 0, 0, 0), 0, 0),
  (43, .ifCond .eq 10, 3, (0, 0, 0, 999999), 0, 0),
  (46, .aload_n 0, 1, (0, 0, 0, 0), 0, 0),
  (47, .iload_n 1, 1, (0, 0, 0, 0), 0, 0),
  (48, .invokevirtual 35, 3, (0, 0, 0, 999999), 0, 0),
  (51, .iconst 1, 1, (0, 0, 0, 0), 1, 0),
  (52, .ireturn, 1, (0, 0, 0, 999999), 0, 0),
  (53, .iinc 1 1, 3, (0, 0, 0, 0), 1, 0),
  (56, .goto (-25), 3, (0, 0, 0, 999999), 0, 0),
  (59, .iconst 0, 1, (0, 0, 0, 0), 0, 0),
  (60, .ireturn, 1, (0, 0, 0, 999999), 0, 0)]
set_option maxRecDepth 100000 in
theorem k_PG_next : I_PG_next.all (q_okb M_PG_next) = true := by decide +kernel
theorem c_PG_next : Cond.code M_PG_next.1 M_PG_next.2.1 M_PG_next.2.2.1 M_PG_next.2.2.2.1 ∈ q_ws := List.mem_of_getElem? (i := 252) (by decide +kernel)
theorem w_PG_next : q_cw M_PG_next := ⟨Or.inl c_PG_next, List.mem_of_getElem? (i := 70) (by decide +kernel), by decide +kernel⟩
theorem n_PG_next : Cond.instanceMethod M_PG_next.1 ∈ q_ws := List.mem_of_getElem? (i := 251) (by decide +kernel)
theorem e_PG_next : Cond.selects "PlaneFills$Groups" M_PG_next.1 M_PG_next.1 ∈ q_ws := List.mem_of_getElem? (i := 12) (by decide +kernel)
theorem p_PG_next : plainFor M_PG_next.1 = true := by decide +kernel
theorem a_PG_next : (parseMethodDescriptor M_PG_next.1.desc).map (fun d => d.parameters.length) = some 0 := by decide +kernel
def M_PG_growFrom : q_M := (⟨"PlaneFills$Groups", "growFrom", "(I)V"⟩, prog_4_method_5_code, 4, (Option.none : Option FieldType), [])
def I_PG_growFrom : List q_J := [(0, .aload_n 0, 1, (0, 0, 0, 0), 0, 0),
  (1, .iload_n 1, 1, (0, 0, 0, 0), 0, 0),
  (2, .putfield 28, 3, (3, 3, 0, 131), 0, 0),
  (5, .aload_n 0, 1, (0, 0, 0, 0), 0, 0),
  (6, .iload_n 1, 1, (0, 0, 0, 0), 0, 0),
  (7, .putfield 32, 3, (3, 4, 0, 132), 0, 0),
  (10, .aload_n 0, 1, (0, 0, 0, 0), 0, 0),
  (11, .getfield 15, 3, (3, 2, 2, 130), 0, 0),
  (14, .iload_n 1, 1, (0, 0, 0, 0), 0, 0),
  (15, .aload_n 0, 1, (0, 0, 0, 0), 0, 0),
  (16, .getfield 9, 3, (3, 1, 2, 129), 0, 0),
  (19, .iload_n 1, 1, (0, 0, 0, 0), 0, 0),
  (20, .iaload, 1, (0, 0, 0, 0), 0, 0),
  (21, .aload_n 0, 1, (0, 0, 0, 0), 0, 0),
  (22, .getfield 9, 3, (3, 1, 2, 129), 0, 0),
  (25, .iload_n 1, 1, (0, 0, 0, 0), 0, 0),
  (26, .iaload, 1, (0, 0, 0, 0), 0, 0),
  (27, .ineg, 1, (0, 0, 0, 0), 0, 0),
  (28, .iand, 1, (0, 0, 0, 0), 0, 0),
  (29, .iastore, 1, (0, 0, 0, 0), 0, 0),
  (30, .iconst 1, 1, (0, 0, 0, 0), 1, 0),
  (31, .istore_n 2, 1, (0, 0, 0, 0), 0, 0),
  (32, .iconst 0, 1, (0, 0, 0, 0), 0, 0),
  (33, .istore_n 3, 1, (0, 0, 0, 0), 0, 0),
  (34, .iload_n 3, 1, (0, 0, 0, 0), 0, 0),
  (35, .sipush 768, 3, (0, 0, 0, 0), 768, 0),
  (38, .if_icmp .ge 18, 3, (0, 0, 0, 999999), 0, 0),
  (41, .iload_n 2, 1, (0, 0, 0, 0), 0, 0),
  (42, .ifCond .eq 14, 3, (0, 0, 0, 999999), 0, 0),
  (45, .aload_n 0, 1, (0, 0, 0, 0), 0, 0),
  (46, .invokevirtual 39, 3, (0, 0, 0, 999999), 0, 0),
  (49, .istore_n 2, 1, (0, 0, 0, 0), 0, 0),
  (50, .iinc 3 1, 3, (0, 0, 0, 0), 1, 0),
  (53, .goto (-19), 3, (0, 0, 0, 999999), 0, 0),
  (56, .aload_n 0, 1, (0, 0, 0, 0), 0, 0),
  (57, .aload_n 0, 1, (0, 0, 0, 0), 0, 0),
  (58, .getfield 9, 3, (3, 1, 2, 129), 0, 0),
  (61, .invokevirtual 43, 3, (0, 0, 0, 999999), 0, 0),
  (64, .return_, 1, (0, 0, 0, 999999), 0, 0)]
set_option maxRecDepth 100000 in
theorem k_PG_growFrom : I_PG_growFrom.all (q_okb M_PG_growFrom) = true := by decide +kernel
theorem c_PG_growFrom : Cond.code M_PG_growFrom.1 M_PG_growFrom.2.1 M_PG_growFrom.2.2.1 M_PG_growFrom.2.2.2.1 ∈ q_ws := List.mem_of_getElem? (i := 255) (by decide +kernel)
theorem w_PG_growFrom : q_cw M_PG_growFrom := ⟨Or.inl c_PG_growFrom, List.mem_of_getElem? (i := 70) (by decide +kernel), by decide +kernel⟩
theorem n_PG_growFrom : Cond.instanceMethod M_PG_growFrom.1 ∈ q_ws := List.mem_of_getElem? (i := 254) (by decide +kernel)
theorem e_PG_growFrom : Cond.selects "PlaneFills$Groups" M_PG_growFrom.1 M_PG_growFrom.1 ∈ q_ws := List.mem_of_getElem? (i := 13) (by decide +kernel)
theorem p_PG_growFrom : plainFor M_PG_growFrom.1 = true := by decide +kernel
theorem a_PG_growFrom : (parseMethodDescriptor M_PG_growFrom.1.desc).map (fun d => d.parameters.length) = some 1 := by decide +kernel
def M_PG_spreadOverRows : q_M := (⟨"PlaneFills$Groups", "spreadOverRows", "()Z"⟩, prog_4_method_6_code, 3, (Option.some FieldType.boolean), [])
def I_PG_spreadOverRows : List q_J := [(0, .iconst 0, 1, (0, 0, 0, 0), 0, 0),
  (1, .istore_n 1, 1, (0, 0, 0, 0), 0, 0),
  (2, .aload_n 0, 1, (0, 0, 0, 0), 0, 0),
  (3, .getfield 28, 3, (3, 3, 0, 131), 0, 0),
  (6, .istore_n 2, 1, (0, 0, 0, 0), 0, 0),
  (7, .iload_n 2, 1, (0, 0, 0, 0), 0, 0),
  (8, .bipush 24, 2, (0, 0, 0, 0), 24, 0),
  (10, .if_icmp .ge 48, 3, (0, 0, 0, 999999), 0, 0),
  (13, .iload_n 2, 1, (0, 0, 0, 0), 0, 0),
  (14, .aload_n 0, 1, (0, 0, 0, 0), 0, 0),
  (15, .getfield 32, 3, (3, 4, 0, 132), 0, 0),
  (18, .iconst 1, 1, (0, 0, 0, 0), 1, 0),
  (19, .iadd, 1, (0, 0, 0, 0), 0, 0),
  (20, .if_icmp .gt 38, 3, (0, 0, 0, 999999), 0, 0),
  (23, .iload_n 1, 1, (0, 0, 0, 0), 0, 0),
  (24, .aload_n 0, 1, (0, 0, 0, 0), 0, 0),
  (25, .iload_n 2, 1, (0, 0, 0, 0), 0, 0),
  (26, .invokevirtual 47, 3, (0, 0, 0, 999999), 0, 0),
  (29, .ior, 1, (0, 0, 0, 0), 0, 0),
  (30, .istore_n 1, 1, (0, 0, 0, 0), 0, 0),
  (31, .aload_n 0, 1, (0, 0, 0, 0), 0, 0),
  (32, .getfield 15, 3, (3, 2, 2, 130), 0, 0),
  (35, .iload_n 2, 1, (0, 0, 0, 0), 0, 0),
  (36, .iaload, 1, (0, 0, 0, 0), 0, 0),
  (37, .ifCond .eq 15, 3, (0, 0, 0, 999999), 0, 0),
  (40, .aload_n 0, 1, (0, 0, 0, 0), 0, 0),
  (41, .aload_n 0, 1, (0, 0, 0, 0), 0, 0),
  (42, .getfield 32, 3, (3, 4, 0, 132), 0, 0),
  (45, .iload_n 2, 1, (0, 0, 0, 0), 0, 0),
  (46, .invokestatic 51, 3, (0, 0, 0, 999999), 0, 0),
  (49, .putfield 32, 3, (3, 4, 0, 132), 0, 0),
  (52, .iinc 2 1, 3, (0, 0, 0, 0), 1, 0),
  (55, .goto (-48), 3, (0, 0, 0, 999999), 0, 0),
  (58, .aload_n 0, 1, (0, 0, 0, 0), 0, 0),
  (59, .getfield 32, 3, (3, 4, 0, 132), 0, 0),
  (62, .istore_n 2, 1, (0, 0, 0, 0), 0, 0),
  (63, .iload_n 2, 1, (0, 0, 0, 0), 0, 0),
  (64, .aload_n 0, 1, (0, 0, 0, 0), 0, 0),
  (65, .getfield 28, 3, (3, 3, 0, 131), 0, 0),
  (68, .if_icmp .lt 17, 3, (0, 0, 0, 999999), 0, 0),
  (71, .iload_n 1, 1, (0, 0, 0, 0), 0, 0),
  (72, .aload_n 0, 1, (0, 0, 0, 0), 0, 0),
  (73, .iload_n 2, 1, (0, 0, 0, 0), 0, 0),
  (74, .invokevirtual 47, 3, (0, 0, 0, 999999), 0, 0),
  (77, .ior, 1, (0, 0, 0, 0), 0, 0),
  (78, .istore_n 1, 1, (0, 0, 0, 0), 0, 0),
  (79, .iinc 2 (-1), 3, (0, 0, 0, 0), -1, 0),
  (82, .goto (-19), 3, (0, 0, 0, 999999), 0, 0),
  (85, .iload_n 1, 1, (0, 0, 0, 0), 0, 0),
  (86, .ireturn, 1, (0, 0, 0, 999999), 0, 0)]
set_option maxRecDepth 100000 in
theorem k_PG_spreadOverRows : I_PG_spreadOverRows.all (q_okb M_PG_spreadOverRows) = true := by decide +kernel
theorem c_PG_spreadOverRows : Cond.code M_PG_spreadOverRows.1 M_PG_spreadOverRows.2.1 M_PG_spreadOverRows.2.2.1 M_PG_spreadOverRows.2.2.2.1 ∈ q_ws := List.mem_of_getElem? (i := 258) (by decide +kernel)
theorem w_PG_spreadOverRows : q_cw M_PG_spreadOverRows := ⟨Or.inl c_PG_spreadOverRows, List.mem_of_getElem? (i := 70) (by decide +kernel), by decide +kernel⟩
theorem n_PG_spreadOverRows : Cond.instanceMethod M_PG_spreadOverRows.1 ∈ q_ws := List.mem_of_getElem? (i := 257) (by decide +kernel)
theorem e_PG_spreadOverRows : Cond.selects "PlaneFills$Groups" M_PG_spreadOverRows.1 M_PG_spreadOverRows.1 ∈ q_ws := List.mem_of_getElem? (i := 14) (by decide +kernel)
theorem p_PG_spreadOverRows : plainFor M_PG_spreadOverRows.1 = true := by decide +kernel
theorem a_PG_spreadOverRows : (parseMethodDescriptor M_PG_spreadOverRows.1.desc).map (fun d => d.parameters.length) = some 0 := by decide +kernel
def M_PG_spreadInRow : q_M := (⟨"PlaneFills$Groups", "spreadInRow", "(I)Z"⟩, prog_4_method_7_code, 8, (Option.some FieldType.boolean), [])
def I_PG_spreadInRow : List q_J := [(0, .iload_n 1, 1, (0, 0, 0, 0), 0, 0),
  (1, .ifCond .le 14, 3, (0, 0, 0, 999999), 0, 0),
  (4, .aload_n 0, 1, (0, 0, 0, 0), 0, 0),
  (5, .getfield 15, 3, (3, 2, 2, 130), 0, 0),
  (8, .iload_n 1, 1, (0, 0, 0, 0), 0, 0),
  (9, .iconst 1, 1, (0, 0, 0, 0), 1, 0),
  (10, .isub, 1, (0, 0, 0, 0), 0, 0),
  (11, .iaload, 1, (0, 0, 0, 0), 0, 0),
  (12, .goto 4, 3, (0, 0, 0, 999999), 0, 0),
  (15, .iconst 0, 1, (0, 0, 0, 0), 0, 0),
  (16, .iload_n 1, 1, (0, 0, 0, 0), 0, 0),
  (17, .bipush 23, 2, (0, 0, 0, 0), 23, 0),
  (19, .if_icmp .ge 14, 3, (0, 0, 0, 999999), 0, 0),
  (22, .aload_n 0, 1, (0, 0, 0, 0), 0, 0),
  (23, .getfield 15, 3, (3, 2, 2, 130), 0, 0),
  (26, .iload_n 1, 1, (0, 0, 0, 0), 0, 0),
  (27, .iconst 1, 1, (0, 0, 0, 0), 1, 0),
  (28, .iadd, 1, (0, 0, 0, 0), 0, 0),
  (29, .iaload, 1, (0, 0, 0, 0), 0, 0),
  (30, .goto 4, 3, (0, 0, 0, 999999), 0, 0),
  (33, .iconst 0, 1, (0, 0, 0, 0), 0, 0),
  (34, .ior, 1, (0, 0, 0, 0), 0, 0),
  (35, .istore_n 2, 1, (0, 0, 0, 0), 0, 0),
  (36, .aload_n 0, 1, (0, 0, 0, 0), 0, 0),
  (37, .getfield 18, 3, (3, 0, 3, 128), 0, 0),
  (40, .ifCond .eq 13, 3, (0, 0, 0, 999999), 0, 0),
  (43, .iload_n 2, 1, (0, 0, 0, 0), 0, 0),
  (44, .iload_n 2, 1, (0, 0, 0, 0), 0, 0),
  (45, .iconst 1, 1, (0, 0, 0, 0), 1, 0),
  (46, .ishl, 1, (0, 0, 0, 0), 0, 0),
  (47, .iload_n 2, 1, (0, 0, 0, 0), 0, 0),
  (48, .iconst 1, 1, (0, 0, 0, 0), 1, 0),
  (49, .iushr, 1, (0, 0, 0, 0), 0, 0),
  (50, .ior, 1, (0, 0, 0, 0), 0, 0),
  (51, .ior, 1, (0, 0, 0, 0), 0, 0),
  (52, .istore_n 2, 1, (0, 0, 0, 0), 0, 0),
  (53, .aload_n 0, 1, (0, 0, 0, 0), 0, 0),
  (54, .getfield 15, 3, (3, 2, 2, 130), 0, 0),
  (57, .iload_n 1, 1, (0, 0, 0, 0), 0, 0),
  (58, .iaload, 1, (0, 0, 0, 0), 0, 0),
  (59, .istore_n 3, 1, (0, 0, 0, 0), 0, 0),
  (60, .iload_n 3, 1, (0, 0, 0, 0), 0, 0),
  (61, .iload_n 2, 1, (0, 0, 0, 0), 0, 0),
  (62, .aload_n 0, 1, (0, 0, 0, 0), 0, 0),
  (63, .getfield 9, 3, (3, 1, 2, 129), 0, 0),
  (66, .iload_n 1, 1, (0, 0, 0, 0), 0, 0),
  (67, .iaload, 1, (0, 0, 0, 0), 0, 0),
  (68, .iand, 1, (0, 0, 0, 0), 0, 0),
  (69, .ior, 1, (0, 0, 0, 0), 0, 0),
  (70, .istore 4, 2, (0, 0, 0, 0), 0, 0),
  (72, .iconst 1, 1, (0, 0, 0, 0), 1, 0),
  (73, .istore 5, 2, (0, 0, 0, 0), 0, 0),
  (75, .iconst 0, 1, (0, 0, 0, 0), 0, 0),
  (76, .istore 6, 2, (0, 0, 0, 0), 0, 0),
  (78, .iload 6, 2, (0, 0, 0, 0), 0, 0),
  (80, .bipush 32, 2, (0, 0, 0, 0), 32, 0),
  (82, .if_icmp .ge 53, 3, (0, 0, 0, 999999), 0, 0),
  (85, .iload 5, 2, (0, 0, 0, 0), 0, 0),
  (87, .ifCond .eq 48, 3, (0, 0, 0, 999999), 0, 0),
  (90, .iload 4, 2, (0, 0, 0, 0), 0, 0),
  (92, .iload 4, 2, (0, 0, 0, 0), 0, 0),
  (94, .iconst 1, 1, (0, 0, 0, 0), 1, 0),
  (95, .ishl, 1, (0, 0, 0, 0), 0, 0),
  (96, .iload 4, 2, (0, 0, 0, 0), 0, 0),
  (98, .iconst 1, 1, (0, 0, 0, 0), 1, 0),
  (99, .iushr, 1, (0, 0, 0, 0), 0, 0),
  (100, .ior, 1, (0, 0, 0, 0), 0, 0),
  (101, .aload_n 0, 1, (0, 0, 0, 0), 0, 0),
  (102, .getfield 9, 3, (3, 1, 2, 129), 0, 0),
  (105, .iload_n 1, 1, (0, 0, 0, 0), 0, 0),
  (106, .iaload, 1, (0, 0, 0, 0), 0, 0),
  (107, .iand, 1, (0, 0, 0, 0), 0, 0),
  (108, .ior, 1, (0, 0, 0, 0), 0, 0),
  (109, .istore 7, 2, (0, 0, 0, 0), 0, 0),
  (111, .iload 7, 2, (0, 0, 0, 0), 0, 0),
  (113, .iload 4, 2, (0, 0, 0, 0), 0, 0),
  (115, .if_icmp .eq 7, 3, (0, 0, 0, 999999), 0, 0),
  (118, .iconst 1, 1, (0, 0, 0, 0), 1, 0),
  (119, .goto 4, 3, (0, 0, 0, 999999), 0, 0),
  (122, .iconst 0, 1, (0, 0, 0, 0), 0, 0),
  (123, .istore 5, 2, (0, 0, 0, 0), 0, 0),
  (125, .iload 7, 2, (0, 0, 0, 0), 0, 0),
  (127, .istore 4, 2, (0, 0, 0, 0), 0, 0),
  (129, .iinc 6 1, 3, (0, 0, 0, 0), 1, 0),
  (132, .goto (-54), 3, (0, 0, 0, 999999), 0, 0),
  (135, .aload_n 0, 1, (0, 0, 0, 0), 0, 0),
  (136, .getfield 15, 3, (3, 2, 2, 130), 0, 0),
  (139, .iload_n 1, 1, (0, 0, 0, 0), 0, 0),
  (140, .iload 4, 2, (0, 0, 0, 0), 0, 0),
  (142, .iastore, 1, (0, 0, 0, 0), 0, 0),
  (143, .iload 4, 2, (0, 0, 0, 0), 0, 0),
  (145, .iload_n 3, 1, (0, 0, 0, 0), 0, 0),
  (146, .if_icmp .eq 7, 3, (0, 0, 0, 999999), 0, 0),
  (149, .iconst 1, 1, (0, 0, 0, 0), 1, 0),
  (150, .goto 4, 3, (0, 0, 0, 999999), 0, 0),
  (153, .iconst 0, 1, (0, 0, 0, 0), 0, 0),
  (154, .ireturn, 1, (0, 0, 0, 999999), 0, 0)]
set_option maxRecDepth 100000 in
theorem k_PG_spreadInRow : I_PG_spreadInRow.all (q_okb M_PG_spreadInRow) = true := by decide +kernel
theorem c_PG_spreadInRow : Cond.code M_PG_spreadInRow.1 M_PG_spreadInRow.2.1 M_PG_spreadInRow.2.2.1 M_PG_spreadInRow.2.2.2.1 ∈ q_ws := List.mem_of_getElem? (i := 261) (by decide +kernel)
theorem w_PG_spreadInRow : q_cw M_PG_spreadInRow := ⟨Or.inl c_PG_spreadInRow, List.mem_of_getElem? (i := 70) (by decide +kernel), by decide +kernel⟩
theorem n_PG_spreadInRow : Cond.instanceMethod M_PG_spreadInRow.1 ∈ q_ws := List.mem_of_getElem? (i := 260) (by decide +kernel)
theorem e_PG_spreadInRow : Cond.selects "PlaneFills$Groups" M_PG_spreadInRow.1 M_PG_spreadInRow.1 ∈ q_ws := List.mem_of_getElem? (i := 15) (by decide +kernel)
theorem p_PG_spreadInRow : plainFor M_PG_spreadInRow.1 = true := by decide +kernel
theorem a_PG_spreadInRow : (parseMethodDescriptor M_PG_spreadInRow.1.desc).map (fun d => d.parameters.length) = some 1 := by decide +kernel
def M_PG_takeOff : q_M := (⟨"PlaneFills$Groups", "takeOff", "([I)V"⟩, prog_4_method_11_code, 3, (Option.none : Option FieldType), [])
def I_PG_takeOff : List q_J := [(0, .aload_n 0, 1, (0, 0, 0, 0), 0, 0),
  (1, .getfield 28, 3, (3, 3, 0, 131), 0, 0),
  (4, .istore_n 2, 1, (0, 0, 0, 0), 0, 0),
  (5, .iload_n 2, 1, (0, 0, 0, 0), 0, 0),
  (6, .aload_n 0, 1, (0, 0, 0, 0), 0, 0),
  (7, .getfield 32, 3, (3, 4, 0, 132), 0, 0),
  (10, .if_icmp .gt 23, 3, (0, 0, 0, 999999), 0, 0),
  (13, .aload_n 1, 1, (0, 0, 0, 0), 0, 0),
  (14, .iload_n 2, 1, (0, 0, 0, 0), 0, 0),
  (15, .dup2, 1, (0, 0, 0, 0), 0, 0),
  (16, .iaload, 1, (0, 0, 0, 0), 0, 0),
  (17, .aload_n 0, 1, (0, 0, 0, 0), 0, 0),
  (18, .getfield 15, 3, (3, 2, 2, 130), 0, 0),
  (21, .iload_n 2, 1, (0, 0, 0, 0), 0, 0),
  (22, .iaload, 1, (0, 0, 0, 0), 0, 0),
  (23, .iconst (-1), 1, (0, 0, 0, 0), -1, 0),
  (24, .ixor, 1, (0, 0, 0, 0), 0, 0),
  (25, .iand, 1, (0, 0, 0, 0), 0, 0),
  (26, .iastore, 1, (0, 0, 0, 0), 0, 0),
  (27, .iinc 2 1, 3, (0, 0, 0, 0), 1, 0),
  (30, .goto (-25), 3, (0, 0, 0, 999999), 0, 0),
  (33, .return_, 1, (0, 0, 0, 999999), 0, 0)]
set_option maxRecDepth 100000 in
theorem k_PG_takeOff : I_PG_takeOff.all (q_okb M_PG_takeOff) = true := by decide +kernel
theorem c_PG_takeOff : Cond.code M_PG_takeOff.1 M_PG_takeOff.2.1 M_PG_takeOff.2.2.1 M_PG_takeOff.2.2.2.1 ∈ q_ws := List.mem_of_getElem? (i := 265) (by decide +kernel)
theorem w_PG_takeOff : q_cw M_PG_takeOff := ⟨Or.inl c_PG_takeOff, List.mem_of_getElem? (i := 70) (by decide +kernel), by decide +kernel⟩
theorem n_PG_takeOff : Cond.instanceMethod M_PG_takeOff.1 ∈ q_ws := List.mem_of_getElem? (i := 264) (by decide +kernel)
theorem e_PG_takeOff : Cond.selects "PlaneFills$Groups" M_PG_takeOff.1 M_PG_takeOff.1 ∈ q_ws := List.mem_of_getElem? (i := 16) (by decide +kernel)
theorem p_PG_takeOff : plainFor M_PG_takeOff.1 = true := by decide +kernel
theorem a_PG_takeOff : (parseMethodDescriptor M_PG_takeOff.1.desc).map (fun d => d.parameters.length) = some 1 := by decide +kernel
def M_PG_size : q_M := (⟨"PlaneFills$Groups", "size", "()I"⟩, prog_4_method_8_code, 3, (Option.some FieldType.int), [])
def I_PG_size : List q_J := [(0, .iconst 0, 1, (0, 0, 0, 0), 0, 0),
  (1, .istore_n 1, 1, (0, 0, 0, 0), 0, 0),
  (2, .aload_n 0, 1, (0, 0, 0, 0), 0, 0),
  (3, .getfield 28, 3, (3, 3, 0, 131), 0, 0),
  (6, .istore_n 2, 1, (0, 0, 0, 0), 0, 0),
  (7, .iload_n 2, 1, (0, 0, 0, 0), 0, 0),
  (8, .aload_n 0, 1, (0, 0, 0, 0), 0, 0),
  (9, .getfield 32, 3, (3, 4, 0, 132), 0, 0),
  (12, .if_icmp .gt 21, 3, (0, 0, 0, 999999), 0, 0),
  (15, .iload_n 1, 1, (0, 0, 0, 0), 0, 0),
  (16, .aload_n 0, 1, (0, 0, 0, 0), 0, 0),
  (17, .getfield 15, 3, (3, 2, 2, 130), 0, 0),
  (20, .iload_n 2, 1, (0, 0, 0, 0), 0, 0),
  (21, .iaload, 1, (0, 0, 0, 0), 0, 0),
  (22, .invokestatic 57, 3, (0, 0, 0, 999999), 0, 0),
  (25, .iadd, 1, (0, 0, 0, 0), 0, 0),
  (26, .istore_n 1, 1, (0, 0, 0, 0), 0, 0),
  (27, .iinc 2 1, 3, (0, 0, 0, 0), 1, 0),
  (30, .goto (-23), 3, (0, 0, 0, 999999), 0, 0),
  (33, .iload_n 1, 1, (0, 0, 0, 0), 0, 0),
  (34, .ireturn, 1, (0, 0, 0, 999999), 0, 0)]
set_option maxRecDepth 100000 in
theorem k_PG_size : I_PG_size.all (q_okb M_PG_size) = true := by decide +kernel
theorem c_PG_size : Cond.code M_PG_size.1 M_PG_size.2.1 M_PG_size.2.2.1 M_PG_size.2.2.2.1 ∈ q_ws := List.mem_of_getElem? (i := 267) (by decide +kernel)
theorem w_PG_size : q_cw M_PG_size := ⟨Or.inl c_PG_size, List.mem_of_getElem? (i := 70) (by decide +kernel), by decide +kernel⟩
theorem n_PG_size : Cond.instanceMethod M_PG_size.1 ∈ q_ws := List.mem_of_getElem? (i := 266) (by decide +kernel)
theorem e_PG_size : Cond.selects "PlaneFills$Groups" M_PG_size.1 M_PG_size.1 ∈ q_ws := List.mem_of_getElem? (i := 17) (by decide +kernel)
theorem p_PG_size : plainFor M_PG_size.1 = true := by decide +kernel
theorem a_PG_size : (parseMethodDescriptor M_PG_size.1.desc).map (fun d => d.parameters.length) = some 0 := by decide +kernel
def M_PG_meets : q_M := (⟨"PlaneFills$Groups", "meets", "(LPlaneFills$Pad;)Z"⟩, prog_4_method_9_code, 3, (Option.some FieldType.boolean), [])
def I_PG_meets : List q_J := [(0, .aload_n 0, 1, (0, 0, 0, 0), 0, 0),
  (1, .getfield 28, 3, (3, 3, 0, 131), 0, 0),
  (4, .istore_n 2, 1, (0, 0, 0, 0), 0, 0),
  (5, .iload_n 2, 1, (0, 0, 0, 0), 0, 0),
  (6, .aload_n 0, 1, (0, 0, 0, 0), 0, 0),
  (7, .getfield 32, 3, (3, 4, 0, 132), 0, 0),
  (10, .if_icmp .gt 27, 3, (0, 0, 0, 999999), 0, 0),
  (13, .aload_n 0, 1, (0, 0, 0, 0), 0, 0),
  (14, .getfield 15, 3, (3, 2, 2, 130), 0, 0),
  (17, .iload_n 2, 1, (0, 0, 0, 0), 0, 0),
  (18, .iaload, 1, (0, 0, 0, 0), 0, 0),
  (19, .aload_n 1, 1, (0, 0, 0, 0), 0, 0),
  (20, .iload_n 2, 1, (0, 0, 0, 0), 0, 0),
  (21, .iconst 0, 1, (0, 0, 0, 0), 0, 0),
  (22, .invokevirtual 63, 3, (0, 0, 0, 999999), 0, 0),
  (25, .iand, 1, (0, 0, 0, 0), 0, 0),
  (26, .ifCond .eq 5, 3, (0, 0, 0, 999999), 0, 0),
  (29, .iconst 1, 1, (0, 0, 0, 0), 1, 0),
  (30, .ireturn, 1, (0, 0, 0, 999999), 0, 0),
  (31, .iinc 2 1, 3, (0, 0, 0, 0), 1, 0),
  (34, .goto (-29), 3, (0, 0, 0, 999999), 0, 0),
  (37, .iconst 0, 1, (0, 0, 0, 0), 0, 0),
  (38, .ireturn, 1, (0, 0, 0, 999999), 0, 0)]
set_option maxRecDepth 100000 in
theorem k_PG_meets : I_PG_meets.all (q_okb M_PG_meets) = true := by decide +kernel
theorem c_PG_meets : Cond.code M_PG_meets.1 M_PG_meets.2.1 M_PG_meets.2.2.1 M_PG_meets.2.2.2.1 ∈ q_ws := List.mem_of_getElem? (i := 278) (by decide +kernel)
theorem w_PG_meets : q_cw M_PG_meets := ⟨Or.inl c_PG_meets, List.mem_of_getElem? (i := 70) (by decide +kernel), by decide +kernel⟩
theorem n_PG_meets : Cond.instanceMethod M_PG_meets.1 ∈ q_ws := List.mem_of_getElem? (i := 277) (by decide +kernel)
theorem e_PG_meets : Cond.selects "PlaneFills$Groups" M_PG_meets.1 M_PG_meets.1 ∈ q_ws := List.mem_of_getElem? (i := 19) (by decide +kernel)
theorem p_PG_meets : plainFor M_PG_meets.1 = true := by decide +kernel
theorem a_PG_meets : (parseMethodDescriptor M_PG_meets.1.desc).map (fun d => d.parameters.length) = some 1 := by decide +kernel
def M_PG_startAround : q_M := (⟨"PlaneFills$Groups", "startAround", "([I)V"⟩, prog_4_method_3_code, 3, (Option.none : Option FieldType), [])
def I_PG_startAround : List q_J := [(0, .iconst 0, 1, (0, 0, 0, 0), 0, 0),
  (1, .istore_n 2, 1, (0, 0, 0, 0), 0, 0),
  (2, .iload_n 2, 1, (0, 0, 0, 0), 0, 0),
  (3, .bipush 24, 2, (0, 0, 0, 0), 24, 0),
  (5, .if_icmp .ge 20, 3, (0, 0, 0, 999999), 0, 0),
  (8, .aload_n 0, 1, (0, 0, 0, 0), 0, 0),
  (9, .getfield 9, 3, (3, 1, 2, 129), 0, 0),
  (12, .iload_n 2, 1, (0, 0, 0, 0), 0, 0),
  (13, .aload_n 1, 1, (0, 0, 0, 0), 0, 0),
  (14, .iload_n 2, 1, (0, 0, 0, 0), 0, 0),
  (15, .iaload, 1, (0, 0, 0, 0), 0, 0),
  (16, .iconst (-1), 1, (0, 0, 0, 0), -1, 0),
  (17, .ixor, 1, (0, 0, 0, 0), 0, 0),
  (18, .iastore, 1, (0, 0, 0, 0), 0, 0),
  (19, .iinc 2 1, 3, (0, 0, 0, 0), 1, 0),
  (22, .goto (-20), 3, (0, 0, 0, 999999), 0, 0),
  (25, .aload_n 0, 1, (0, 0, 0, 0), 0, 0),
  (26, .iconst 0, 1, (0, 0, 0, 0), 0, 0),
  (27, .putfield 28, 3, (3, 3, 0, 131), 0, 0),
  (30, .aload_n 0, 1, (0, 0, 0, 0), 0, 0),
  (31, .bipush 23, 2, (0, 0, 0, 0), 23, 0),
  (33, .putfield 32, 3, (3, 4, 0, 132), 0, 0),
  (36, .return_, 1, (0, 0, 0, 999999), 0, 0)]
set_option maxRecDepth 100000 in
theorem k_PG_startAround : I_PG_startAround.all (q_okb M_PG_startAround) = true := by decide +kernel
theorem c_PG_startAround : Cond.code M_PG_startAround.1 M_PG_startAround.2.1 M_PG_startAround.2.2.1 M_PG_startAround.2.2.2.1 ∈ q_ws := List.mem_of_getElem? (i := 778) (by decide +kernel)
theorem w_PG_startAround : q_cw M_PG_startAround := ⟨Or.inl c_PG_startAround, List.mem_of_getElem? (i := 70) (by decide +kernel), by decide +kernel⟩
theorem n_PG_startAround : Cond.instanceMethod M_PG_startAround.1 ∈ q_ws := List.mem_of_getElem? (i := 777) (by decide +kernel)
theorem e_PG_startAround : Cond.selects "PlaneFills$Groups" M_PG_startAround.1 M_PG_startAround.1 ∈ q_ws := List.mem_of_getElem? (i := 34) (by decide +kernel)
theorem p_PG_startAround : plainFor M_PG_startAround.1 = true := by decide +kernel
theorem a_PG_startAround : (parseMethodDescriptor M_PG_startAround.1.desc).map (fun d => d.parameters.length) = some 1 := by decide +kernel
def M_PG_comesToBorder : q_M := (⟨"PlaneFills$Groups", "comesToBorde\x72", "()Z"⟩, prog_4_method_10_code, 3, (Option.some FieldType.boolean), [])
def I_PG_comesToBorder : List q_J := [(0, .aload_n 0, 1, (0, 0, 0, 0), 0, 0),
  (1, .getfield 28, 3, (3, 3, 0, 131), 0, 0),
  (4, .ifCond .eq 12, 3, (0, 0, 0, 999999), 0, 0),
  (7, .aload_n 0, 1, (0, 0, 0, 0), 0, 0),
  (8, .getfield 32, 3, (3, 4, 0, 132), 0, 0),
  (11, .bipush 23, 2, (0, 0, 0, 0), 23, 0),
  (13, .if_icmp .ne 7, 3, (0, 0, 0, 999999), 0, 0),
  (16, .iconst 1, 1, (0, 0, 0, 0), 1, 0),
  (17, .goto 4, 3, (0, 0, 0, 999999), 0, 0),
  (20, .iconst 0, 1, (0, 0, 0, 0), 0, 0),
  (21, .istore_n 1, 1, (0, 0, 0, 0), 0, 0),
  (22, .aload_n 0, 1, (0, 0, 0, 0), 0, 0),
  (23, .getfield 28, 3, (3, 3, 0, 131), 0, 0),
  (26, .istore_n 2, 1, (0, 0, 0, 0), 0, 0),
  (27, .iload_n 2, 1, (0, 0, 0, 0), 0, 0),
  (28, .aload_n 0, 1, (0, 0, 0, 0), 0, 0),
  (29, .getfield 32, 3, (3, 4, 0, 132), 0, 0),
  (32, .if_icmp .gt 29, 3, (0, 0, 0, 999999), 0, 0),
  (35, .iload_n 1, 1, (0, 0, 0, 0), 0, 0),
  (36, .aload_n 0, 1, (0, 0, 0, 0), 0, 0),
  (37, .getfield 15, 3, (3, 2, 2, 130), 0, 0),
  (40, .iload_n 2, 1, (0, 0, 0, 0), 0, 0),
  (41, .iaload, 1, (0, 0, 0, 0), 0, 0),
  (42, .ldc 68, 2, (0, 0, 0, 784), -2147483647, 0),
  (44, .iand, 1, (0, 0, 0, 0), 0, 0),
  (45, .ifCond .eq 7, 3, (0, 0, 0, 999999), 0, 0),
  (48, .iconst 1, 1, (0, 0, 0, 0), 1, 0),
  (49, .goto 4, 3, (0, 0, 0, 999999), 0, 0),
  (52, .iconst 0, 1, (0, 0, 0, 0), 0, 0),
  (53, .ior, 1, (0, 0, 0, 0), 0, 0),
  (54, .istore_n 1, 1, (0, 0, 0, 0), 0, 0),
  (55, .iinc 2 1, 3, (0, 0, 0, 0), 1, 0),
  (58, .goto (-31), 3, (0, 0, 0, 999999), 0, 0),
  (61, .iload_n 1, 1, (0, 0, 0, 0), 0, 0),
  (62, .ireturn, 1, (0, 0, 0, 999999), 0, 0)]
set_option maxRecDepth 100000 in
theorem k_PG_comesToBorder : I_PG_comesToBorder.all (q_okb M_PG_comesToBorder) = true := by decide +kernel
theorem c_PG_comesToBorder : Cond.code M_PG_comesToBorder.1 M_PG_comesToBorder.2.1 M_PG_comesToBorder.2.2.1 M_PG_comesToBorder.2.2.2.1 ∈ q_ws := List.mem_of_getElem? (i := 783) (by decide +kernel)
theorem w_PG_comesToBorder : q_cw M_PG_comesToBorder := ⟨Or.inl c_PG_comesToBorder, List.mem_of_getElem? (i := 70) (by decide +kernel), by decide +kernel⟩
theorem n_PG_comesToBorder : Cond.instanceMethod M_PG_comesToBorder.1 ∈ q_ws := List.mem_of_getElem? (i := 782) (by decide +kernel)
theorem e_PG_comesToBorder : Cond.selects "PlaneFills$Groups" M_PG_comesToBorder.1 M_PG_comesToBorder.1 ∈ q_ws := List.mem_of_getElem? (i := 36) (by decide +kernel)
theorem p_PG_comesToBorder : plainFor M_PG_comesToBorder.1 = true := by decide +kernel
theorem a_PG_comesToBorder : (parseMethodDescriptor M_PG_comesToBorder.1.desc).map (fun d => d.parameters.length) = some 0 := by decide +kernel
def M_PP_moat : q_M := (⟨"PlaneFills$Pad", "moat", "(II)I"⟩, prog_5_method_3_code, 5, (Option.some FieldType.int), [])
def I_PP_moat : List q_J := [(0, .iload_n 1, 1, (0, 0, 0, 0), 0, 0),
  (1, .aload_n 0, 1, (0, 0, 0, 0), 0, 0),
  (2, .invokevirtual 34, 3, (0, 0, 0, 999999), 0, 0),
  (5, .if_icmp .ne 5, 3, (0, 0, 0, 999999), 0, 0),
  (8, .iconst 0, 1, (0, 0, 0, 0), 0, 0),
  (9, .ireturn, 1, (0, 0, 0, 999999), 0, 0),
  (10, .aload_n 0, 1, (0, 0, 0, 0), 0, 0),
  (11, .iload_n 1, 1, (0, 0, 0, 0), 0, 0),
  (12, .iconst 0, 1, (0, 0, 0, 0), 0, 0),
  (13, .invokevirtual 38, 3, (0, 0, 0, 999999), 0, 0),
  (16, .istore_n 3, 1, (0, 0, 0, 0), 0, 0),
  (17, .iload_n 3, 1, (0, 0, 0, 0), 0, 0),
  (18, .ifCond .eq 7, 3, (0, 0, 0, 999999), 0, 0),
  (21, .iload_n 3, 1, (0, 0, 0, 0), 0, 0),
  (22, .goto 16, 3, (0, 0, 0, 999999), 0, 0),
  (25, .aload_n 0, 1, (0, 0, 0, 0), 0, 0),
  (26, .invokevirtual 42, 3, (0, 0, 0, 999999), 0, 0),
  (29, .i2l, 1, (0, 0, 0, 0), 0, 0),
  (30, .aload_n 0, 1, (0, 0, 0, 0), 0, 0),
  (31, .invokevirtual 42, 3, (0, 0, 0, 999999), 0, 0),
  (34, .i2l, 1, (0, 0, 0, 0), 0, 0),
  (35, .invokestatic 28, 3, (0, 0, 0, 999999), 0, 0),
  (38, .istore 4, 2, (0, 0, 0, 0), 0, 0),
  (40, .aload_n 0, 1, (0, 0, 0, 0), 0, 0),
  (41, .iload_n 1, 1, (0, 0, 0, 0), 0, 0),
  (42, .iload_n 2, 1, (0, 0, 0, 0), 0, 0),
  (43, .invokevirtual 38, 3, (0, 0, 0, 999999), 0, 0),
  (46, .iload 4, 2, (0, 0, 0, 0), 0, 0),
  (48, .iconst (-1), 1, (0, 0, 0, 0), -1, 0),
  (49, .ixor, 1, (0, 0, 0, 0), 0, 0),
  (50, .iand, 1, (0, 0, 0, 0), 0, 0),
  (51, .ireturn, 1, (0, 0, 0, 999999), 0, 0)]
set_option maxRecDepth 100000 in
theorem k_PP_moat : I_PP_moat.all (q_okb M_PP_moat) = true := by decide +kernel
theorem c_PP_moat : Cond.code M_PP_moat.1 M_PP_moat.2.1 M_PP_moat.2.2.1 M_PP_moat.2.2.2.1 ∈ q_ws := List.mem_of_getElem? (i := 216) (by decide +kernel)
theorem w_PP_moat : q_cw M_PP_moat := ⟨Or.inl c_PP_moat, List.mem_of_getElem? (i := 92) (by decide +kernel), by decide +kernel⟩
theorem n_PP_moat : Cond.instanceMethod M_PP_moat.1 ∈ q_ws := List.mem_of_getElem? (i := 214) (by decide +kernel)
theorem e_PP_moat : Cond.selects "PlaneFills$Pad" M_PP_moat.1 M_PP_moat.1 ∈ q_ws := List.mem_of_getElem? (i := 4) (by decide +kernel)
theorem p_PP_moat : plainFor M_PP_moat.1 = true := by decide +kernel
theorem a_PP_moat : (parseMethodDescriptor M_PP_moat.1.desc).map (fun d => d.parameters.length) = some 2 := by decide +kernel
def M_PP_middleY : q_M := (⟨"PlaneFills$Pad", "middleY", "()I"⟩, prog_5_method_5_code, 1, (Option.some FieldType.int), [])
def I_PP_middleY : List q_J := [(0, .aload_n 0, 1, (0, 0, 0, 0), 0, 0),
  (1, .getfield 19, 3, (4, 3, 0, 757), 0, 0),
  (4, .aload_n 0, 1, (0, 0, 0, 0), 0, 0),
  (5, .getfield 25, 3, (4, 5, 0, 759), 0, 0),
  (8, .iconst 1, 1, (0, 0, 0, 0), 1, 0),
  (9, .isub, 1, (0, 0, 0, 0), 0, 0),
  (10, .iconst 2, 1, (0, 0, 0, 0), 2, 0),
  (11, .idiv, 1, (0, 0, 0, 0), 0, 0),
  (12, .iadd, 1, (0, 0, 0, 0), 0, 0),
  (13, .ireturn, 1, (0, 0, 0, 999999), 0, 0)]
set_option maxRecDepth 100000 in
theorem k_PP_middleY : I_PP_middleY.all (q_okb M_PP_middleY) = true := by decide +kernel
theorem c_PP_middleY : Cond.code M_PP_middleY.1 M_PP_middleY.2.1 M_PP_middleY.2.2.1 M_PP_middleY.2.2.2.1 ∈ q_ws := List.mem_of_getElem? (i := 219) (by decide +kernel)
theorem w_PP_middleY : q_cw M_PP_middleY := ⟨Or.inl c_PP_middleY, List.mem_of_getElem? (i := 92) (by decide +kernel), by decide +kernel⟩
theorem n_PP_middleY : Cond.instanceMethod M_PP_middleY.1 ∈ q_ws := List.mem_of_getElem? (i := 218) (by decide +kernel)
theorem e_PP_middleY : Cond.selects "PlaneFills$Pad" M_PP_middleY.1 M_PP_middleY.1 ∈ q_ws := List.mem_of_getElem? (i := 5) (by decide +kernel)
theorem p_PP_middleY : plainFor M_PP_middleY.1 = true := by decide +kernel
theorem a_PP_middleY : (parseMethodDescriptor M_PP_middleY.1.desc).map (fun d => d.parameters.length) = some 0 := by decide +kernel
def M_PP_near : q_M := (⟨"PlaneFills$Pad", "nea\x72", "(II)I"⟩, prog_5_method_2_code, 3, (Option.some FieldType.int), [])
def I_PP_near : List q_J := [(0, .iload_n 1, 1, (0, 0, 0, 0), 0, 0),
  (1, .aload_n 0, 1, (0, 0, 0, 0), 0, 0),
  (2, .getfield 19, 3, (4, 3, 0, 757), 0, 0),
  (5, .iload_n 2, 1, (0, 0, 0, 0), 0, 0),
  (6, .isub, 1, (0, 0, 0, 0), 0, 0),
  (7, .if_icmp .lt 20, 3, (0, 0, 0, 999999), 0, 0),
  (10, .iload_n 1, 1, (0, 0, 0, 0), 0, 0),
  (11, .aload_n 0, 1, (0, 0, 0, 0), 0, 0),
  (12, .getfield 19, 3, (4, 3, 0, 757), 0, 0),
  (15, .aload_n 0, 1, (0, 0, 0, 0), 0, 0),
  (16, .getfield 25, 3, (4, 5, 0, 759), 0, 0),
  (19, .iadd, 1, (0, 0, 0, 0), 0, 0),
  (20, .iconst 1, 1, (0, 0, 0, 0), 1, 0),
  (21, .isub, 1, (0, 0, 0, 0), 0, 0),
  (22, .iload_n 2, 1, (0, 0, 0, 0), 0, 0),
  (23, .iadd, 1, (0, 0, 0, 0), 0, 0),
  (24, .if_icmp .le 5, 3, (0, 0, 0, 999999), 0, 0),
  (27, .iconst 0, 1, (0, 0, 0, 0), 0, 0),
  (28, .ireturn, 1, (0, 0, 0, 999999), 0, 0),
  (29, .aload_n 0, 1, (0, 0, 0, 0), 0, 0),
  (30, .getfield 16, 3, (4, 2, 0, 756), 0, 0),
  (33, .iload_n 2, 1, (0, 0, 0, 0), 0, 0),
  (34, .isub, 1, (0, 0, 0, 0), 0, 0),
  (35, .i2l, 1, (0, 0, 0, 0), 0, 0),
  (36, .aload_n 0, 1, (0, 0, 0, 0), 0, 0),
  (37, .getfield 16, 3, (4, 2, 0, 756), 0, 0),
  (40, .aload_n 0, 1, (0, 0, 0, 0), 0, 0),
  (41, .getfield 22, 3, (4, 4, 0, 758), 0, 0),
  (44, .iadd, 1, (0, 0, 0, 0), 0, 0),
  (45, .iconst 1, 1, (0, 0, 0, 0), 1, 0),
  (46, .isub, 1, (0, 0, 0, 0), 0, 0),
  (47, .iload_n 2, 1, (0, 0, 0, 0), 0, 0),
  (48, .iadd, 1, (0, 0, 0, 0), 0, 0),
  (49, .i2l, 1, (0, 0, 0, 0), 0, 0),
  (50, .invokestatic 28, 3, (0, 0, 0, 999999), 0, 0),
  (53, .ireturn, 1, (0, 0, 0, 999999), 0, 0)]
set_option maxRecDepth 100000 in
theorem k_PP_near : I_PP_near.all (q_okb M_PP_near) = true := by decide +kernel
theorem c_PP_near : Cond.code M_PP_near.1 M_PP_near.2.1 M_PP_near.2.2.1 M_PP_near.2.2.2.1 ∈ q_ws := List.mem_of_getElem? (i := 222) (by decide +kernel)
theorem w_PP_near : q_cw M_PP_near := ⟨Or.inl c_PP_near, List.mem_of_getElem? (i := 92) (by decide +kernel), by decide +kernel⟩
theorem n_PP_near : Cond.instanceMethod M_PP_near.1 ∈ q_ws := List.mem_of_getElem? (i := 221) (by decide +kernel)
theorem e_PP_near : Cond.selects "PlaneFills$Pad" M_PP_near.1 M_PP_near.1 ∈ q_ws := List.mem_of_getElem? (i := 6) (by decide +kernel)
theorem p_PP_near : plainFor M_PP_near.1 = true := by decide +kernel
theorem a_PP_near : (parseMethodDescriptor M_PP_near.1.desc).map (fun d => d.parameters.length) = some 2 := by decide +kernel
def M_PP_middleX : q_M := (⟨"PlaneFills$Pad", "middleX", "()I"⟩, prog_5_method_4_code, 1, (Option.some FieldType.int), [])
def I_PP_middleX : List q_J := [(0, .aload_n 0, 1, (0, 0, 0, 0), 0, 0),
  (1, .getfield 16, 3, (4, 2, 0, 756), 0, 0),
  (4, .aload_n 0, 1, (0, 0, 0, 0), 0, 0),
  (5, .getfield 22, 3, (4, 4, 0, 758), 0, 0),
  (8, .iconst 1, 1, (0, 0, 0, 0), 1, 0),
  (9, .isub, 1, (0, 0, 0, 0), 0, 0),
  (10, .iconst 2, 1, (0, 0, 0, 0), 2, 0),
  (11, .idiv, 1, (0, 0, 0, 0), 0, 0),
  (12, .iadd, 1, (0, 0, 0, 0), 0, 0),
  (13, .ireturn, 1, (0, 0, 0, 999999), 0, 0)]
set_option maxRecDepth 100000 in
theorem k_PP_middleX : I_PP_middleX.all (q_okb M_PP_middleX) = true := by decide +kernel
theorem c_PP_middleX : Cond.code M_PP_middleX.1 M_PP_middleX.2.1 M_PP_middleX.2.2.1 M_PP_middleX.2.2.2.1 ∈ q_ws := List.mem_of_getElem? (i := 225) (by decide +kernel)
theorem w_PP_middleX : q_cw M_PP_middleX := ⟨Or.inl c_PP_middleX, List.mem_of_getElem? (i := 92) (by decide +kernel), by decide +kernel⟩
theorem n_PP_middleX : Cond.instanceMethod M_PP_middleX.1 ∈ q_ws := List.mem_of_getElem? (i := 224) (by decide +kernel)
theorem e_PP_middleX : Cond.selects "PlaneFills$Pad" M_PP_middleX.1 M_PP_middleX.1 ∈ q_ws := List.mem_of_getElem? (i := 7) (by decide +kernel)
theorem p_PP_middleX : plainFor M_PP_middleX.1 = true := by decide +kernel
theorem a_PP_middleX : (parseMethodDescriptor M_PP_middleX.1.desc).map (fun d => d.parameters.length) = some 0 := by decide +kernel
def M_PP_init : q_M := (⟨"PlaneFills$Pad", "<init>", "(IIIIII)V"⟩, prog_5_method_1_code, 7, (Option.none : Option FieldType), [])
def I_PP_init : List q_J := [(0, .aload_n 0, 1, (0, 0, 0, 0), 0, 0),
  (1, .invokespecial 1, 3, (0, 0, 0, 999999), 0, 0),
  (4, .aload_n 0, 1, (0, 0, 0, 0), 0, 0),
  (5, .iload_n 1, 1, (0, 0, 0, 0), 0, 0),
  (6, .putfield 7, 3, (4, 0, 0, 754), 0, 0),
  (9, .aload_n 0, 1, (0, 0, 0, 0), 0, 0),
  (10, .iload_n 2, 1, (0, 0, 0, 0), 0, 0),
  (11, .putfield 13, 3, (4, 1, 0, 755), 0, 0),
  (14, .aload_n 0, 1, (0, 0, 0, 0), 0, 0),
  (15, .iload_n 3, 1, (0, 0, 0, 0), 0, 0),
  (16, .putfield 16, 3, (4, 2, 0, 756), 0, 0),
  (19, .aload_n 0, 1, (0, 0, 0, 0), 0, 0),
  (20, .iload 4, 2, (0, 0, 0, 0), 0, 0),
  (22, .putfield 19, 3, (4, 3, 0, 757), 0, 0),
  (25, .aload_n 0, 1, (0, 0, 0, 0), 0, 0),
  (26, .iload 5, 2, (0, 0, 0, 0), 0, 0),
  (28, .putfield 22, 3, (4, 4, 0, 758), 0, 0),
  (31, .aload_n 0, 1, (0, 0, 0, 0), 0, 0),
  (32, .iload 6, 2, (0, 0, 0, 0), 0, 0),
  (34, .putfield 25, 3, (4, 5, 0, 759), 0, 0),
  (37, .return_, 1, (0, 0, 0, 999999), 0, 0)]
set_option maxRecDepth 100000 in
theorem k_PP_init : I_PP_init.all (q_okb M_PP_init) = true := by decide +kernel
theorem c_PP_init : Cond.code M_PP_init.1 M_PP_init.2.1 M_PP_init.2.2.1 M_PP_init.2.2.2.1 ∈ q_ws := List.mem_of_getElem? (i := 752) (by decide +kernel)
theorem w_PP_init : q_cw M_PP_init := ⟨Or.inl c_PP_init, List.mem_of_getElem? (i := 92) (by decide +kernel), by decide +kernel⟩
theorem n_PP_init : Cond.instanceMethod M_PP_init.1 ∈ q_ws := List.mem_of_getElem? (i := 751) (by decide +kernel)
theorem p_PP_init : plainFor M_PP_init.1 = true := by decide +kernel
theorem a_PP_init : (parseMethodDescriptor M_PP_init.1.desc).map (fun d => d.parameters.length) = some 6 := by decide +kernel
def M_PP_besideX : q_M := (⟨"PlaneFills$Pad", "besideX", "(I)I"⟩, prog_5_method_6_code, 2, (Option.some FieldType.int), [])
def I_PP_besideX : List q_J := [(0, .iload_n 1, 1, (0, 0, 0, 0), 0, 0),
  (1, .ifCond .ne 15, 3, (0, 0, 0, 999999), 0, 0),
  (4, .aload_n 0, 1, (0, 0, 0, 0), 0, 0),
  (5, .getfield 16, 3, (4, 2, 0, 756), 0, 0),
  (8, .aload_n 0, 1, (0, 0, 0, 0), 0, 0),
  (9, .getfield 22, 3, (4, 4, 0, 758), 0, 0),
  (12, .iadd, 1, (0, 0, 0, 0), 0, 0),
  (13, .goto 21, 3, (0, 0, 0, 999999), 0, 0),
  (16, .iload_n 1, 1, (0, 0, 0, 0), 0, 0),
  (17, .iconst 2, 1, (0, 0, 0, 0), 2, 0),
  (18, .if_icmp .ne 12, 3, (0, 0, 0, 999999), 0, 0),
  (21, .aload_n 0, 1, (0, 0, 0, 0), 0, 0),
  (22, .getfield 16, 3, (4, 2, 0, 756), 0, 0),
  (25, .iconst 1, 1, (0, 0, 0, 0), 1, 0),
  (26, .isub, 1, (0, 0, 0, 0), 0, 0),
  (27, .goto 7, 3, (0, 0, 0, 999999), 0, 0),
  (30, .aload_n 0, 1, (0, 0, 0, 0), 0, 0),
  (31, .invokevirtual 42, 3, (0, 0, 0, 999999), 0, 0),
  (34, .ireturn, 1, (0, 0, 0, 999999), 0, 0)]
set_option maxRecDepth 100000 in
theorem k_PP_besideX : I_PP_besideX.all (q_okb M_PP_besideX) = true := by decide +kernel
theorem c_PP_besideX : Cond.code M_PP_besideX.1 M_PP_besideX.2.1 M_PP_besideX.2.2.1 M_PP_besideX.2.2.2.1 ∈ q_ws := List.mem_of_getElem? (i := 830) (by decide +kernel)
theorem w_PP_besideX : q_cw M_PP_besideX := ⟨Or.inl c_PP_besideX, List.mem_of_getElem? (i := 92) (by decide +kernel), by decide +kernel⟩
theorem n_PP_besideX : Cond.instanceMethod M_PP_besideX.1 ∈ q_ws := List.mem_of_getElem? (i := 829) (by decide +kernel)
theorem e_PP_besideX : Cond.selects "PlaneFills$Pad" M_PP_besideX.1 M_PP_besideX.1 ∈ q_ws := List.mem_of_getElem? (i := 40) (by decide +kernel)
theorem p_PP_besideX : plainFor M_PP_besideX.1 = true := by decide +kernel
theorem a_PP_besideX : (parseMethodDescriptor M_PP_besideX.1.desc).map (fun d => d.parameters.length) = some 1 := by decide +kernel
def M_PP_besideY : q_M := (⟨"PlaneFills$Pad", "besideY", "(I)I"⟩, prog_5_method_7_code, 2, (Option.some FieldType.int), [])
def I_PP_besideY : List q_J := [(0, .iload_n 1, 1, (0, 0, 0, 0), 0, 0),
  (1, .iconst 1, 1, (0, 0, 0, 0), 1, 0),
  (2, .if_icmp .ne 15, 3, (0, 0, 0, 999999), 0, 0),
  (5, .aload_n 0, 1, (0, 0, 0, 0), 0, 0),
  (6, .getfield 19, 3, (4, 3, 0, 757), 0, 0),
  (9, .aload_n 0, 1, (0, 0, 0, 0), 0, 0),
  (10, .getfield 25, 3, (4, 5, 0, 759), 0, 0),
  (13, .iadd, 1, (0, 0, 0, 0), 0, 0),
  (14, .goto 21, 3, (0, 0, 0, 999999), 0, 0),
  (17, .iload_n 1, 1, (0, 0, 0, 0), 0, 0),
  (18, .iconst 3, 1, (0, 0, 0, 0), 3, 0),
  (19, .if_icmp .ne 12, 3, (0, 0, 0, 999999), 0, 0),
  (22, .aload_n 0, 1, (0, 0, 0, 0), 0, 0),
  (23, .getfield 19, 3, (4, 3, 0, 757), 0, 0),
  (26, .iconst 1, 1, (0, 0, 0, 0), 1, 0),
  (27, .isub, 1, (0, 0, 0, 0), 0, 0),
  (28, .goto 7, 3, (0, 0, 0, 999999), 0, 0),
  (31, .aload_n 0, 1, (0, 0, 0, 0), 0, 0),
  (32, .invokevirtual 34, 3, (0, 0, 0, 999999), 0, 0),
  (35, .ireturn, 1, (0, 0, 0, 999999), 0, 0)]
set_option maxRecDepth 100000 in
theorem k_PP_besideY : I_PP_besideY.all (q_okb M_PP_besideY) = true := by decide +kernel
theorem c_PP_besideY : Cond.code M_PP_besideY.1 M_PP_besideY.2.1 M_PP_besideY.2.2.1 M_PP_besideY.2.2.2.1 ∈ q_ws := List.mem_of_getElem? (i := 832) (by decide +kernel)
theorem w_PP_besideY : q_cw M_PP_besideY := ⟨Or.inl c_PP_besideY, List.mem_of_getElem? (i := 92) (by decide +kernel), by decide +kernel⟩
theorem n_PP_besideY : Cond.instanceMethod M_PP_besideY.1 ∈ q_ws := List.mem_of_getElem? (i := 831) (by decide +kernel)
theorem e_PP_besideY : Cond.selects "PlaneFills$Pad" M_PP_besideY.1 M_PP_besideY.1 ∈ q_ws := List.mem_of_getElem? (i := 41) (by decide +kernel)
theorem p_PP_besideY : plainFor M_PP_besideY.1 = true := by decide +kernel
theorem a_PP_besideY : (parseMethodDescriptor M_PP_besideY.1.desc).map (fun d => d.parameters.length) = some 1 := by decide +kernel
def M_PL_takeTrial : q_M := (⟨"PlaneFills$Plane", "takeTrial", "()V"⟩, prog_6_method_2_code, 2, (Option.none : Option FieldType), [])
def I_PL_takeTrial : List q_J := [(0, .aload_n 0, 1, (0, 0, 0, 0), 0, 0),
  (1, .getfield 24, 3, (5, 10, 2, 393), 0, 0),
  (4, .astore_n 1, 1, (0, 0, 0, 0), 0, 0),
  (5, .aload_n 0, 1, (0, 0, 0, 0), 0, 0),
  (6, .aload_n 0, 1, (0, 0, 0, 0), 0, 0),
  (7, .getfield 28, 3, (5, 11, 2, 394), 0, 0),
  (10, .putfield 24, 3, (5, 10, 2, 393), 0, 0),
  (13, .aload_n 0, 1, (0, 0, 0, 0), 0, 0),
  (14, .aload_n 1, 1, (0, 0, 0, 0), 0, 0),
  (15, .putfield 28, 3, (5, 11, 2, 394), 0, 0),
  (18, .return_, 1, (0, 0, 0, 999999), 0, 0)]
set_option maxRecDepth 100000 in
theorem k_PL_takeTrial : I_PL_takeTrial.all (q_okb M_PL_takeTrial) = true := by decide +kernel
theorem c_PL_takeTrial : Cond.code M_PL_takeTrial.1 M_PL_takeTrial.2.1 M_PL_takeTrial.2.2.1 M_PL_takeTrial.2.2.2.1 ∈ q_ws := List.mem_of_getElem? (i := 281) (by decide +kernel)
theorem w_PL_takeTrial : q_cw M_PL_takeTrial := ⟨Or.inl c_PL_takeTrial, List.mem_of_getElem? (i := 78) (by decide +kernel), by decide +kernel⟩
theorem n_PL_takeTrial : Cond.instanceMethod M_PL_takeTrial.1 ∈ q_ws := List.mem_of_getElem? (i := 279) (by decide +kernel)
theorem e_PL_takeTrial : Cond.selects "PlaneFills$Plane" M_PL_takeTrial.1 M_PL_takeTrial.1 ∈ q_ws := List.mem_of_getElem? (i := 20) (by decide +kernel)
theorem p_PL_takeTrial : plainFor M_PL_takeTrial.1 = true := by decide +kernel
theorem a_PL_takeTrial : (parseMethodDescriptor M_PL_takeTrial.1.desc).map (fun d => d.parameters.length) = some 0 := by decide +kernel
def M_PL_init : q_M := (⟨"PlaneFills$Plane", "<init>", "(III)V"⟩, prog_6_method_1_code, 4, (Option.none : Option FieldType), [])
def I_PL_init : List q_J := [(0, .aload_n 0, 1, (0, 0, 0, 0), 0, 0),
  (1, .invokespecial 3, 3, (0, 0, 0, 999999), 0, 0),
  (4, .aload_n 0, 1, (0, 0, 0, 0), 0, 0),
  (5, .bipush 24, 2, (0, 0, 0, 0), 24, 0),
  (7, .newarray .int, 2, (0, 0, 0, 999999), 0, 0),
  (9, .putfield 9, 3, (5, 3, 2, 388), 0, 0),
  (12, .aload_n 0, 1, (0, 0, 0, 0), 0, 0),
  (13, .bipush 12, 2, (0, 0, 0, 0), 12, 0),
  (15, .newarray .int, 2, (0, 0, 0, 999999), 0, 0),
  (17, .putfield 15, 3, (5, 4, 2, 389), 0, 0),
  (20, .aload_n 0, 1, (0, 0, 0, 0), 0, 0),
  (21, .bipush 12, 2, (0, 0, 0, 0), 12, 0),
  (23, .newarray .int, 2, (0, 0, 0, 999999), 0, 0),
  (25, .putfield 18, 3, (5, 5, 2, 390), 0, 0),
  (28, .aload_n 0, 1, (0, 0, 0, 0), 0, 0),
  (29, .new 21, 3, (0, 0, 0, 999999), 0, 0),
  (32, .dup, 1, (0, 0, 0, 0), 0, 0),
  (33, .invokespecial 23, 3, (0, 0, 0, 999999), 0, 0),
  (36, .putfield 24, 3, (5, 10, 2, 393), 0, 0),
  (39, .aload_n 0, 1, (0, 0, 0, 0), 0, 0),
  (40, .new 21, 3, (0, 0, 0, 999999), 0, 0),
  (43, .dup, 1, (0, 0, 0, 0), 0, 0),
  (44, .invokespecial 23, 3, (0, 0, 0, 999999), 0, 0),
  (47, .putfield 28, 3, (5, 11, 2, 394), 0, 0),
  (50, .aload_n 0, 1, (0, 0, 0, 0), 0, 0),
  (51, .iload_n 1, 1, (0, 0, 0, 0), 0, 0),
  (52, .putfield 31, 3, (5, 0, 0, 385), 0, 0),
  (55, .aload_n 0, 1, (0, 0, 0, 0), 0, 0),
  (56, .iload_n 2, 1, (0, 0, 0, 0), 0, 0),
  (57, .putfield 35, 3, (5, 1, 0, 386), 0, 0),
  (60, .aload_n 0, 1, (0, 0, 0, 0), 0, 0),
  (61, .iload_n 3, 1, (0, 0, 0, 0), 0, 0),
  (62, .putfield 38, 3, (5, 2, 0, 387), 0, 0),
  (65, .return_, 1, (0, 0, 0, 999999), 0, 0)]
set_option maxRecDepth 100000 in
theorem k_PL_init : I_PL_init.all (q_okb M_PL_init) = true := by decide +kernel
theorem c_PL_init : Cond.code M_PL_init.1 M_PL_init.2.1 M_PL_init.2.2.1 M_PL_init.2.2.2.1 ∈ q_ws := List.mem_of_getElem? (i := 372) (by decide +kernel)
theorem w_PL_init : q_cw M_PL_init := ⟨Or.inl c_PL_init, List.mem_of_getElem? (i := 78) (by decide +kernel), by decide +kernel⟩
theorem n_PL_init : Cond.instanceMethod M_PL_init.1 ∈ q_ws := List.mem_of_getElem? (i := 371) (by decide +kernel)
theorem p_PL_init : plainFor M_PL_init.1 = true := by decide +kernel
theorem a_PL_init : (parseMethodDescriptor M_PL_init.1.desc).map (fun d => d.parameters.length) = some 3 := by decide +kernel
def M_PL_addCorner : q_M := (⟨"PlaneFills$Plane", "addCorne\x72", "(II)Z"⟩, prog_6_method_3_code, 3, (Option.some FieldType.boolean), [])
def I_PL_addCorner : List q_J := [(0, .aload_n 0, 1, (0, 0, 0, 0), 0, 0),
  (1, .getfield 41, 3, (5, 6, 0, 391), 0, 0),
  (4, .bipush 12, 2, (0, 0, 0, 0), 12, 0),
  (6, .if_icmp .ge 11, 3, (0, 0, 0, 999999), 0, 0),
  (9, .aload_n 0, 1, (0, 0, 0, 0), 0, 0),
  (10, .getfield 44, 3, (5, 7, 0, 392), 0, 0),
  (13, .iconst 4, 1, (0, 0, 0, 0), 4, 0),
  (14, .if_icmp .lt 5, 3, (0, 0, 0, 999999), 0, 0),
  (17, .iconst 0, 1, (0, 0, 0, 0), 0, 0),
  (18, .ireturn, 1, (0, 0, 0, 999999), 0, 0),
  (19, .aload_n 0, 1, (0, 0, 0, 0), 0, 0),
  (20, .getfield 15, 3, (5, 4, 2, 389), 0, 0),
  (23, .aload_n 0, 1, (0, 0, 0, 0), 0, 0),
  (24, .getfield 41, 3, (5, 6, 0, 391), 0, 0),
  (27, .iload_n 1, 1, (0, 0, 0, 0), 0, 0),
  (28, .iastore, 1, (0, 0, 0, 0), 0, 0),
  (29, .aload_n 0, 1, (0, 0, 0, 0), 0, 0),
  (30, .getfield 18, 3, (5, 5, 2, 390), 0, 0),
  (33, .aload_n 0, 1, (0, 0, 0, 0), 0, 0),
  (34, .getfield 41, 3, (5, 6, 0, 391), 0, 0),
  (37, .iload_n 2, 1, (0, 0, 0, 0), 0, 0),
  (38, .iastore, 1, (0, 0, 0, 0), 0, 0),
  (39, .aload_n 0, 1, (0, 0, 0, 0), 0, 0),
  (40, .dup, 1, (0, 0, 0, 0), 0, 0),
  (41, .getfield 41, 3, (5, 6, 0, 391), 0, 0),
  (44, .iconst 1, 1, (0, 0, 0, 0), 1, 0),
  (45, .iadd, 1, (0, 0, 0, 0), 0, 0),
  (46, .putfield 41, 3, (5, 6, 0, 391), 0, 0),
  (49, .iconst 1, 1, (0, 0, 0, 0), 1, 0),
  (50, .ireturn, 1, (0, 0, 0, 999999), 0, 0)]
set_option maxRecDepth 100000 in
theorem k_PL_addCorner : I_PL_addCorner.all (q_okb M_PL_addCorner) = true := by decide +kernel
theorem c_PL_addCorner : Cond.code M_PL_addCorner.1 M_PL_addCorner.2.1 M_PL_addCorner.2.2.1 M_PL_addCorner.2.2.2.1 ∈ q_ws := List.mem_of_getElem? (i := 694) (by decide +kernel)
theorem w_PL_addCorner : q_cw M_PL_addCorner := ⟨Or.inl c_PL_addCorner, List.mem_of_getElem? (i := 78) (by decide +kernel), by decide +kernel⟩
theorem n_PL_addCorner : Cond.instanceMethod M_PL_addCorner.1 ∈ q_ws := List.mem_of_getElem? (i := 693) (by decide +kernel)
theorem e_PL_addCorner : Cond.selects "PlaneFills$Plane" M_PL_addCorner.1 M_PL_addCorner.1 ∈ q_ws := List.mem_of_getElem? (i := 30) (by decide +kernel)
theorem p_PL_addCorner : plainFor M_PL_addCorner.1 = true := by decide +kernel
theorem a_PL_addCorner : (parseMethodDescriptor M_PL_addCorner.1.desc).map (fun d => d.parameters.length) = some 2 := by decide +kernel
def M_PL_closeRing : q_M := (⟨"PlaneFills$Plane", "closeRing", "()Z"⟩, prog_6_method_4_code, 3, (Option.some FieldType.boolean), [])
def I_PL_closeRing : List q_J := [(0, .aload_n 0, 1, (0, 0, 0, 0), 0, 0),
  (1, .getfield 41, 3, (5, 6, 0, 391), 0, 0),
  (4, .iconst 3, 1, (0, 0, 0, 0), 3, 0),
  (5, .if_icmp .ge 5, 3, (0, 0, 0, 999999), 0, 0),
  (8, .iconst 0, 1, (0, 0, 0, 0), 0, 0),
  (9, .ireturn, 1, (0, 0, 0, 999999), 0, 0),
  (10, .aload_n 0, 1, (0, 0, 0, 0), 0, 0),
  (11, .getfield 41, 3, (5, 6, 0, 391), 0, 0),
  (14, .iconst 1, 1, (0, 0, 0, 0), 1, 0),
  (15, .isub, 1, (0, 0, 0, 0), 0, 0),
  (16, .istore_n 1, 1, (0, 0, 0, 0), 0, 0),
  (17, .iconst 0, 1, (0, 0, 0, 0), 0, 0),
  (18, .istore_n 2, 1, (0, 0, 0, 0), 0, 0),
  (19, .iload_n 2, 1, (0, 0, 0, 0), 0, 0),
  (20, .aload_n 0, 1, (0, 0, 0, 0), 0, 0),
  (21, .getfield 41, 3, (5, 6, 0, 391), 0, 0),
  (24, .if_icmp .ge 85, 3, (0, 0, 0, 999999), 0, 0),
  (27, .aload_n 0, 1, (0, 0, 0, 0), 0, 0),
  (28, .getfield 18, 3, (5, 5, 2, 390), 0, 0),
  (31, .iload_n 1, 1, (0, 0, 0, 0), 0, 0),
  (32, .iaload, 1, (0, 0, 0, 0), 0, 0),
  (33, .aload_n 0, 1, (0, 0, 0, 0), 0, 0),
  (34, .getfield 18, 3, (5, 5, 2, 390), 0, 0),
  (37, .iload_n 2, 1, (0, 0, 0, 0), 0, 0),
  (38, .iaload, 1, (0, 0, 0, 0), 0, 0),
  (39, .if_icmp .ge 34, 3, (0, 0, 0, 999999), 0, 0),
  (42, .aload_n 0, 1, (0, 0, 0, 0), 0, 0),
  (43, .aload_n 0, 1, (0, 0, 0, 0), 0, 0),
  (44, .getfield 15, 3, (5, 4, 2, 389), 0, 0),
  (47, .iload_n 1, 1, (0, 0, 0, 0), 0, 0),
  (48, .iaload, 1, (0, 0, 0, 0), 0, 0),
  (49, .aload_n 0, 1, (0, 0, 0, 0), 0, 0),
  (50, .getfield 18, 3, (5, 5, 2, 390), 0, 0),
  (53, .iload_n 1, 1, (0, 0, 0, 0), 0, 0),
  (54, .iaload, 1, (0, 0, 0, 0), 0, 0),
  (55, .aload_n 0, 1, (0, 0, 0, 0), 0, 0),
  (56, .getfield 15, 3, (5, 4, 2, 389), 0, 0),
  (59, .iload_n 2, 1, (0, 0, 0, 0), 0, 0),
  (60, .iaload, 1, (0, 0, 0, 0), 0, 0),
  (61, .aload_n 0, 1, (0, 0, 0, 0), 0, 0),
  (62, .getfield 18, 3, (5, 5, 2, 390), 0, 0),
  (65, .iload_n 2, 1, (0, 0, 0, 0), 0, 0),
  (66, .iaload, 1, (0, 0, 0, 0), 0, 0),
  (67, .invokevirtual 47, 3, (0, 0, 0, 999999), 0, 0),
  (70, .goto 31, 3, (0, 0, 0, 999999), 0, 0),
  (73, .aload_n 0, 1, (0, 0, 0, 0), 0, 0),
  (74, .aload_n 0, 1, (0, 0, 0, 0), 0, 0),
  (75, .getfield 15, 3, (5, 4, 2, 389), 0, 0),
  (78, .iload_n 2, 1, (0, 0, 0, 0), 0, 0),
  (79, .iaload, 1, (0, 0, 0, 0), 0, 0),
  (80, .aload_n 0, 1, (0, 0, 0, 0), 0, 0),
  (81, .getfield 18, 3, (5, 5, 2, 390), 0, 0),
  (84, .iload_n 2, 1, (0, 0, 0, 0), 0, 0),
  (85, .iaload, 1, (0, 0, 0, 0), 0, 0),
  (86, .aload_n 0, 1, (0, 0, 0, 0), 0, 0),
  (87, .getfield 15, 3, (5, 4, 2, 389), 0, 0),
  (90, .iload_n 1, 1, (0, 0, 0, 0), 0, 0),
  (91, .iaload, 1, (0, 0, 0, 0), 0, 0),
  (92, .aload_n 0, 1, (0, 0, 0, 0), 0, 0),
  (93, .getfield 18, 3, (5, 5, 2, 390), 0, 0),
  (96, .iload_n 1, 1, (0, 0, 0, 0), 0, 0),
  (97, .iaload, 1, (0, 0, 0, 0), 0, 0),
  (98, .invokevirtual 47, 3, (0, 0, 0, 999999), 0, 0),
  (101, .iload_n 2, 1, (0, 0, 0, 0), 0, 0),
  (102, .istore_n 1, 1, (0, 0, 0, 0), 0, 0),
  (103, .iinc 2 1, 3, (0, 0, 0, 0), 1, 0),
  (106, .goto (-87), 3, (0, 0, 0, 999999), 0, 0),
  (109, .aload_n 0, 1, (0, 0, 0, 0), 0, 0),
  (110, .iconst 0, 1, (0, 0, 0, 0), 0, 0),
  (111, .putfield 41, 3, (5, 6, 0, 391), 0, 0),
  (114, .aload_n 0, 1, (0, 0, 0, 0), 0, 0),
  (115, .dup, 1, (0, 0, 0, 0), 0, 0),
  (116, .getfield 44, 3, (5, 7, 0, 392), 0, 0),
  (119, .iconst 1, 1, (0, 0, 0, 0), 1, 0),
  (120, .iadd, 1, (0, 0, 0, 0), 0, 0),
  (121, .putfield 44, 3, (5, 7, 0, 392), 0, 0),
  (124, .iconst 1, 1, (0, 0, 0, 0), 1, 0),
  (125, .ireturn, 1, (0, 0, 0, 999999), 0, 0)]
set_option maxRecDepth 100000 in
theorem k_PL_closeRing : I_PL_closeRing.all (q_okb M_PL_closeRing) = true := by decide +kernel
theorem c_PL_closeRing : Cond.code M_PL_closeRing.1 M_PL_closeRing.2.1 M_PL_closeRing.2.2.1 M_PL_closeRing.2.2.2.1 ∈ q_ws := List.mem_of_getElem? (i := 703) (by decide +kernel)
theorem w_PL_closeRing : q_cw M_PL_closeRing := ⟨Or.inl c_PL_closeRing, List.mem_of_getElem? (i := 78) (by decide +kernel), by decide +kernel⟩
theorem n_PL_closeRing : Cond.instanceMethod M_PL_closeRing.1 ∈ q_ws := List.mem_of_getElem? (i := 702) (by decide +kernel)
theorem e_PL_closeRing : Cond.selects "PlaneFills$Plane" M_PL_closeRing.1 M_PL_closeRing.1 ∈ q_ws := List.mem_of_getElem? (i := 31) (by decide +kernel)
theorem p_PL_closeRing : plainFor M_PL_closeRing.1 = true := by decide +kernel
theorem a_PL_closeRing : (parseMethodDescriptor M_PL_closeRing.1.desc).map (fun d => d.parameters.length) = some 0 := by decide +kernel
def M_PL_turnLeftOf : q_M := (⟨"PlaneFills$Plane", "turnLeftOf", "(IIII)V"⟩, prog_6_method_5_code, 9, (Option.none : Option FieldType), [])
def I_PL_turnLeftOf : List q_J := [(0, .iload 4, 2, (0, 0, 0, 0), 0, 0),
  (2, .iload_n 2, 1, (0, 0, 0, 0), 0, 0),
  (3, .isub, 1, (0, 0, 0, 0), 0, 0),
  (4, .istore 5, 2, (0, 0, 0, 0), 0, 0),
  (6, .iload 5, 2, (0, 0, 0, 0), 0, 0),
  (8, .ifCond .gt 4, 3, (0, 0, 0, 999999), 0, 0),
  (11, .return_, 1, (0, 0, 0, 999999), 0, 0),
  (12, .iload_n 2, 1, (0, 0, 0, 0), 0, 0),
  (13, .istore 6, 2, (0, 0, 0, 0), 0, 0),
  (15, .iload 6, 2, (0, 0, 0, 0), 0, 0),
  (17, .iload 4, 2, (0, 0, 0, 0), 0, 0),
  (19, .if_icmp .ge 71, 3, (0, 0, 0, 999999), 0, 0),
  (22, .iload 6, 2, (0, 0, 0, 0), 0, 0),
  (24, .bipush 24, 2, (0, 0, 0, 0), 24, 0),
  (26, .if_icmp .ge 64, 3, (0, 0, 0, 999999), 0, 0),
  (29, .iconst 2, 1, (0, 0, 0, 0), 2, 0),
  (30, .iload_n 1, 1, (0, 0, 0, 0), 0, 0),
  (31, .imul, 1, (0, 0, 0, 0), 0, 0),
  (32, .iload 5, 2, (0, 0, 0, 0), 0, 0),
  (34, .imul, 1, (0, 0, 0, 0), 0, 0),
  (35, .iconst 2, 1, (0, 0, 0, 0), 2, 0),
  (36, .iload 6, 2, (0, 0, 0, 0), 0, 0),
  (38, .iload_n 2, 1, (0, 0, 0, 0), 0, 0),
  (39, .isub, 1, (0, 0, 0, 0), 0, 0),
  (40, .imul, 1, (0, 0, 0, 0), 0, 0),
  (41, .iconst 1, 1, (0, 0, 0, 0), 1, 0),
  (42, .iadd, 1, (0, 0, 0, 0), 0, 0),
  (43, .iload_n 3, 1, (0, 0, 0, 0), 0, 0),
  (44, .iload_n 1, 1, (0, 0, 0, 0), 0, 0),
  (45, .isub, 1, (0, 0, 0, 0), 0, 0),
  (46, .imul, 1, (0, 0, 0, 0), 0, 0),
  (47, .iadd, 1, (0, 0, 0, 0), 0, 0),
  (48, .istore 7, 2, (0, 0, 0, 0), 0, 0),
  (50, .iload 7, 2, (0, 0, 0, 0), 0, 0),
  (52, .iconst 1, 1, (0, 0, 0, 0), 1, 0),
  (53, .isub, 1, (0, 0, 0, 0), 0, 0),
  (54, .iload 5, 2, (0, 0, 0, 0), 0, 0),
  (56, .invokestatic 51, 3, (0, 0, 0, 999999), 0, 0),
  (59, .istore 8, 2, (0, 0, 0, 0), 0, 0),
  (61, .aload_n 0, 1, (0, 0, 0, 0), 0, 0),
  (62, .getfield 9, 3, (5, 3, 2, 388), 0, 0),
  (65, .iload 6, 2, (0, 0, 0, 0), 0, 0),
  (67, .dup2, 1, (0, 0, 0, 0), 0, 0),
  (68, .iaload, 1, (0, 0, 0, 0), 0, 0),
  (69, .lconst 0, 1, (0, 0, 0, 0), 0, 0),
  (70, .iload 8, 2, (0, 0, 0, 0), 0, 0),
  (72, .iconst 1, 1, (0, 0, 0, 0), 1, 0),
  (73, .isub, 1, (0, 0, 0, 0), 0, 0),
  (74, .iconst 2, 1, (0, 0, 0, 0), 2, 0),
  (75, .invokestatic 51, 3, (0, 0, 0, 999999), 0, 0),
  (78, .i2l, 1, (0, 0, 0, 0), 0, 0),
  (79, .invokestatic 57, 3, (0, 0, 0, 999999), 0, 0),
  (82, .ixor, 1, (0, 0, 0, 0), 0, 0),
  (83, .iastore, 1, (0, 0, 0, 0), 0, 0),
  (84, .iinc 6 1, 3, (0, 0, 0, 0), 1, 0),
  (87, .goto (-72), 3, (0, 0, 0, 999999), 0, 0),
  (90, .return_, 1, (0, 0, 0, 999999), 0, 0)]
set_option maxRecDepth 100000 in
theorem k_PL_turnLeftOf : I_PL_turnLeftOf.all (q_okb M_PL_turnLeftOf) = true := by decide +kernel
theorem c_PL_turnLeftOf : Cond.code M_PL_turnLeftOf.1 M_PL_turnLeftOf.2.1 M_PL_turnLeftOf.2.2.1 M_PL_turnLeftOf.2.2.2.1 ∈ q_ws := List.mem_of_getElem? (i := 706) (by decide +kernel)
theorem w_PL_turnLeftOf : q_cw M_PL_turnLeftOf := ⟨Or.inl c_PL_turnLeftOf, List.mem_of_getElem? (i := 78) (by decide +kernel), by decide +kernel⟩
theorem n_PL_turnLeftOf : Cond.instanceMethod M_PL_turnLeftOf.1 ∈ q_ws := List.mem_of_getElem? (i := 705) (by decide +kernel)
theorem e_PL_turnLeftOf : Cond.selects "PlaneFills$Plane" M_PL_turnLeftOf.1 M_PL_turnLeftOf.1 ∈ q_ws := List.mem_of_getElem? (i := 32) (by decide +kernel)
theorem p_PL_turnLeftOf : plainFor M_PL_turnLeftOf.1 = true := by decide +kernel
theorem a_PL_turnLeftOf : (parseMethodDescriptor M_PL_turnLeftOf.1.desc).map (fun d => d.parameters.length) = some 4 := by decide +kernel
