/-! the JDK: names, instructions (by program) -/
def M_AL_init : q_M := (⟨"java/util/ArrayList", "<init>", "()V"⟩, prog_27_method_2_code, 1, (Option.none : Option FieldType), [])
def I_AL_init : List q_J := [(0, .aload_n 0, 1, (0, 0, 0, 0), 0, 0),
  (1, .invokespecial 1, 3, (0, 0, 0, 999999), 0, 0),
  (4, .aload_n 0, 1, (0, 0, 0, 0), 0, 0),
  (5, .getstatic 39, 3, (0, 0, 0, 999999), 0, 0),
  (8, .putfield 9, 3, (7, 0, 2, 114), 0, 0),
  (11, .return_, 1, (0, 0, 0, 999999), 0, 0)]
set_option maxRecDepth 100000 in
theorem k_AL_init : I_AL_init.all (q_okb M_AL_init) = true := by decide +kernel
theorem c_AL_init : Cond.code M_AL_init.1 M_AL_init.2.1 M_AL_init.2.2.1 M_AL_init.2.2.2.1 ∈ q_ws := List.mem_of_getElem? (i := 105) (by decide +kernel)
theorem w_AL_init : q_cw M_AL_init := ⟨Or.inl c_AL_init, List.mem_of_getElem? (i := 69) (by decide +kernel), by decide +kernel⟩
theorem n_AL_init : Cond.instanceMethod M_AL_init.1 ∈ q_ws := List.mem_of_getElem? (i := 104) (by decide +kernel)
theorem p_AL_init : plainFor M_AL_init.1 = true := by decide +kernel
theorem a_AL_init : (parseMethodDescriptor M_AL_init.1.desc).map (fun d => d.parameters.length) = some 0 := by decide +kernel
def M_AB_init : q_M := (⟨"java/util/AbstractList", "<init>", "()V"⟩, prog_26_method_1_code, 1, (Option.none : Option FieldType), [])
def I_AB_init : List q_J := [(0, .aload_n 0, 1, (0, 0, 0, 0), 0, 0),
  (1, .invokespecial 1, 3, (0, 0, 0, 999999), 0, 0),
  (4, .aload_n 0, 1, (0, 0, 0, 0), 0, 0),
  (5, .iconst 0, 1, (0, 0, 0, 0), 0, 0),
  (6, .putfield 7, 3, (7, 2, 0, 116), 0, 0),
  (9, .return_, 1, (0, 0, 0, 999999), 0, 0)]
set_option maxRecDepth 100000 in
theorem k_AB_init : I_AB_init.all (q_okb M_AB_init) = true := by decide +kernel
theorem c_AB_init : Cond.code M_AB_init.1 M_AB_init.2.1 M_AB_init.2.2.1 M_AB_init.2.2.2.1 ∈ q_ws := List.mem_of_getElem? (i := 108) (by decide +kernel)
theorem w_AB_init : q_cw M_AB_init := ⟨Or.inl c_AB_init, List.mem_of_getElem? (i := 68) (by decide +kernel), by decide +kernel⟩
theorem n_AB_init : Cond.instanceMethod M_AB_init.1 ∈ q_ws := List.mem_of_getElem? (i := 107) (by decide +kernel)
theorem p_AB_init : plainFor M_AB_init.1 = true := by decide +kernel
theorem a_AB_init : (parseMethodDescriptor M_AB_init.1.desc).map (fun d => d.parameters.length) = some 0 := by decide +kernel
def M_AC_init : q_M := (⟨"java/util/AbstractCollection", "<init>", "()V"⟩, prog_25_method_1_code, 1, (Option.none : Option FieldType), [])
def I_AC_init : List q_J := [(0, .aload_n 0, 1, (0, 0, 0, 0), 0, 0),
  (1, .invokespecial 1, 3, (0, 0, 0, 999999), 0, 0),
  (4, .return_, 1, (0, 0, 0, 999999), 0, 0)]
set_option maxRecDepth 100000 in
theorem k_AC_init : I_AC_init.all (q_okb M_AC_init) = true := by decide +kernel
theorem c_AC_init : Cond.code M_AC_init.1 M_AC_init.2.1 M_AC_init.2.2.1 M_AC_init.2.2.2.1 ∈ q_ws := List.mem_of_getElem? (i := 111) (by decide +kernel)
theorem w_AC_init : q_cw M_AC_init := ⟨Or.inl c_AC_init, List.mem_of_getElem? (i := 67) (by decide +kernel), by decide +kernel⟩
theorem n_AC_init : Cond.instanceMethod M_AC_init.1 ∈ q_ws := List.mem_of_getElem? (i := 110) (by decide +kernel)
theorem p_AC_init : plainFor M_AC_init.1 = true := by decide +kernel
theorem a_AC_init : (parseMethodDescriptor M_AC_init.1.desc).map (fun d => d.parameters.length) = some 0 := by decide +kernel
def M_MT_min : q_M := (⟨"java/lang/Math", "min", "(II)I"⟩, prog_17_method_69_code, 2, (Option.some FieldType.int), [])
def I_MT_min : List q_J := [(0, .iload_n 0, 1, (0, 0, 0, 0), 0, 0),
  (1, .iload_n 1, 1, (0, 0, 0, 0), 0, 0),
  (2, .if_icmp .gt 7, 3, (0, 0, 0, 999999), 0, 0),
  (5, .iload_n 0, 1, (0, 0, 0, 0), 0, 0),
  (6, .goto 4, 3, (0, 0, 0, 999999), 0, 0),
  (9, .iload_n 1, 1, (0, 0, 0, 0), 0, 0),
  (10, .ireturn, 1, (0, 0, 0, 999999), 0, 0)]
set_option maxRecDepth 100000 in
theorem k_MT_min : I_MT_min.all (q_okb M_MT_min) = true := by decide +kernel
theorem c_MT_min : Cond.code M_MT_min.1 M_MT_min.2.1 M_MT_min.2.2.1 M_MT_min.2.2.2.1 ∈ q_ws := List.mem_of_getElem? (i := 142) (by decide +kernel)
theorem w_MT_min : q_cw M_MT_min := ⟨Or.inl c_MT_min, List.mem_of_getElem? (i := 71) (by decide +kernel), by decide +kernel⟩
theorem s_MT_min : Cond.static M_MT_min.1 ∈ q_ws := List.mem_of_getElem? (i := 141) (by decide +kernel)
theorem p_MT_min : plainFor M_MT_min.1 = true := by decide +kernel
theorem a_MT_min : (parseMethodDescriptor M_MT_min.1.desc).map (fun d => d.parameters.length) = some 2 := by decide +kernel
def M_MT_max : q_M := (⟨"java/lang/Math", "max", "(II)I"⟩, prog_17_method_65_code, 2, (Option.some FieldType.int), [])
def I_MT_max : List q_J := [(0, .iload_n 0, 1, (0, 0, 0, 0), 0, 0),
  (1, .iload_n 1, 1, (0, 0, 0, 0), 0, 0),
  (2, .if_icmp .lt 7, 3, (0, 0, 0, 999999), 0, 0),
  (5, .iload_n 0, 1, (0, 0, 0, 0), 0, 0),
  (6, .goto 4, 3, (0, 0, 0, 999999), 0, 0),
  (9, .iload_n 1, 1, (0, 0, 0, 0), 0, 0),
  (10, .ireturn, 1, (0, 0, 0, 999999), 0, 0)]
set_option maxRecDepth 100000 in
theorem k_MT_max : I_MT_max.all (q_okb M_MT_max) = true := by decide +kernel
theorem c_MT_max : Cond.code M_MT_max.1 M_MT_max.2.1 M_MT_max.2.2.1 M_MT_max.2.2.2.1 ∈ q_ws := List.mem_of_getElem? (i := 145) (by decide +kernel)
theorem w_MT_max : q_cw M_MT_max := ⟨Or.inl c_MT_max, List.mem_of_getElem? (i := 71) (by decide +kernel), by decide +kernel⟩
theorem s_MT_max : Cond.static M_MT_max.1 ∈ q_ws := List.mem_of_getElem? (i := 144) (by decide +kernel)
theorem p_MT_max : plainFor M_MT_max.1 = true := by decide +kernel
theorem a_MT_max : (parseMethodDescriptor M_MT_max.1.desc).map (fun d => d.parameters.length) = some 2 := by decide +kernel
def M_AL_size : q_M := (⟨"java/util/ArrayList", "size", "()I"⟩, prog_27_method_8_code, 1, (Option.some FieldType.int), [])
def I_AL_size : List q_J := [(0, .aload_n 0, 1, (0, 0, 0, 0), 0, 0),
  (1, .getfield 48, 3, (7, 1, 0, 115), 0, 0),
  (4, .ireturn, 1, (0, 0, 0, 999999), 0, 0)]
set_option maxRecDepth 100000 in
theorem k_AL_size : I_AL_size.all (q_okb M_AL_size) = true := by decide +kernel
theorem c_AL_size : Cond.code M_AL_size.1 M_AL_size.2.1 M_AL_size.2.2.1 M_AL_size.2.2.2.1 ∈ q_ws := List.mem_of_getElem? (i := 175) (by decide +kernel)
theorem w_AL_size : q_cw M_AL_size := ⟨Or.inl c_AL_size, List.mem_of_getElem? (i := 69) (by decide +kernel), by decide +kernel⟩
theorem n_AL_size : Cond.instanceMethod M_AL_size.1 ∈ q_ws := List.mem_of_getElem? (i := 174) (by decide +kernel)
theorem p_AL_size : plainFor M_AL_size.1 = true := by decide +kernel
theorem a_AL_size : (parseMethodDescriptor M_AL_size.1.desc).map (fun d => d.parameters.length) = some 0 := by decide +kernel
def M_AL_get : q_M := (⟨"java/util/ArrayList", "get", "(I)Ljava/lang/Object;"⟩, prog_27_method_20_code, 2, (Option.some (FieldType.object "java/lang/Object")), [])
def I_AL_get : List q_J := [(0, .iload_n 1, 1, (0, 0, 0, 0), 0, 0),
  (1, .aload_n 0, 1, (0, 0, 0, 0), 0, 0),
  (2, .getfield 48, 3, (7, 1, 0, 115), 0, 0),
  (5, .invokestatic 118, 3, (0, 0, 0, 999999), 0, 0),
  (8, .pop, 1, (0, 0, 0, 0), 0, 0),
  (9, .aload_n 0, 1, (0, 0, 0, 0), 0, 0),
  (10, .iload_n 1, 1, (0, 0, 0, 0), 0, 0),
  (11, .invokevirtual 123, 3, (0, 0, 0, 999999), 0, 0),
  (14, .areturn, 1, (0, 0, 0, 999999), 0, 0)]
set_option maxRecDepth 100000 in
theorem k_AL_get : I_AL_get.all (q_okb M_AL_get) = true := by decide +kernel
theorem c_AL_get : Cond.code M_AL_get.1 M_AL_get.2.1 M_AL_get.2.2.1 M_AL_get.2.2.2.1 ∈ q_ws := List.mem_of_getElem? (i := 179) (by decide +kernel)
theorem w_AL_get : q_cw M_AL_get := ⟨Or.inl c_AL_get, List.mem_of_getElem? (i := 69) (by decide +kernel), by decide +kernel⟩
theorem n_AL_get : Cond.instanceMethod M_AL_get.1 ∈ q_ws := List.mem_of_getElem? (i := 178) (by decide +kernel)
theorem p_AL_get : plainFor M_AL_get.1 = true := by decide +kernel
theorem a_AL_get : (parseMethodDescriptor M_AL_get.1.desc).map (fun d => d.parameters.length) = some 1 := by decide +kernel
def M_OB_checkIndex : q_M := (⟨"java/util/Objects", "checkIndex", "(II)I"⟩, prog_31_method_17_code, 2, (Option.some FieldType.int), [])
def I_OB_checkIndex : List q_J := [(0, .iload_n 0, 1, (0, 0, 0, 0), 0, 0),
  (1, .iload_n 1, 1, (0, 0, 0, 0), 0, 0),
  (2, .aconst_null, 1, (0, 0, 0, 0), 0, 0),
  (3, .invokestatic 105, 3, (0, 0, 0, 999999), 0, 0),
  (6, .ireturn, 1, (0, 0, 0, 999999), 0, 0)]
set_option maxRecDepth 100000 in
theorem k_OB_checkIndex : I_OB_checkIndex.all (q_okb M_OB_checkIndex) = true := by decide +kernel
theorem c_OB_checkIndex : Cond.code M_OB_checkIndex.1 M_OB_checkIndex.2.1 M_OB_checkIndex.2.2.1 M_OB_checkIndex.2.2.2.1 ∈ q_ws := List.mem_of_getElem? (i := 182) (by decide +kernel)
theorem w_OB_checkIndex : q_cw M_OB_checkIndex := ⟨Or.inl c_OB_checkIndex, List.mem_of_getElem? (i := 80) (by decide +kernel), by decide +kernel⟩
theorem s_OB_checkIndex : Cond.static M_OB_checkIndex.1 ∈ q_ws := List.mem_of_getElem? (i := 181) (by decide +kernel)
theorem p_OB_checkIndex : plainFor M_OB_checkIndex.1 = true := by decide +kernel
theorem a_OB_checkIndex : (parseMethodDescriptor M_OB_checkIndex.1.desc).map (fun d => d.parameters.length) = some 2 := by decide +kernel
def M_PR_checkIndex : q_M := (⟨"jdk/internal/util/Preconditions", "checkIndex", "(IILjava/util/function/BiFunction;)I"⟩, prog_35_method_11_code, 3, (Option.some FieldType.int), [])
def I_PR_checkIndex : List q_J := [(0, .iload_n 0, 1, (0, 0, 0, 0), 0, 0),
  (1, .ifCond .lt 8, 3, (0, 0, 0, 999999), 0, 0),
  (4, .iload_n 0, 1, (0, 0, 0, 0), 0, 0),
  (5, .iload_n 1, 1, (0, 0, 0, 0), 0, 0),
  (6, .if_icmp .lt 10, 3, (0, 0, 0, 999999), 0, 0),
  (9, .aload_n 2, 1, (0, 0, 0, 0), 0, 0),
  (10, .iload_n 0, 1, (0, 0, 0, 0), 0, 0),
  (11, .iload_n 1, 1, (0, 0, 0, 0), 0, 0),
  (12, .invokestatic 95, 3, (0, 0, 0, 999999), 0, 0),
  (15, .athrow, 1, (0, 0, 0, 999999), 0, 0),
  (16, .iload_n 0, 1, (0, 0, 0, 0), 0, 0),
  (17, .ireturn, 1, (0, 0, 0, 999999), 0, 0)]
set_option maxRecDepth 100000 in
theorem k_PR_checkIndex : I_PR_checkIndex.all (q_okb M_PR_checkIndex) = true := by decide +kernel
theorem c_PR_checkIndex : Cond.code M_PR_checkIndex.1 M_PR_checkIndex.2.1 M_PR_checkIndex.2.2.1 M_PR_checkIndex.2.2.2.1 ∈ q_ws := List.mem_of_getElem? (i := 185) (by decide +kernel)
theorem w_PR_checkIndex : q_cw M_PR_checkIndex := ⟨Or.inl c_PR_checkIndex, List.mem_of_getElem? (i := 81) (by decide +kernel), by decide +kernel⟩
theorem s_PR_checkIndex : Cond.static M_PR_checkIndex.1 ∈ q_ws := List.mem_of_getElem? (i := 184) (by decide +kernel)
theorem p_PR_checkIndex : plainFor M_PR_checkIndex.1 = true := by decide +kernel
theorem a_PR_checkIndex : (parseMethodDescriptor M_PR_checkIndex.1.desc).map (fun d => d.parameters.length) = some 3 := by decide +kernel
def M_AL_elementData : q_M := (⟨"java/util/ArrayList", "elementData", "(I)Ljava/lang/Object;"⟩, prog_27_method_18_code, 2, (Option.some (FieldType.object "java/lang/Object")), [])
def I_AL_elementData : List q_J := [(0, .aload_n 0, 1, (0, 0, 0, 0), 0, 0),
  (1, .getfield 9, 3, (7, 0, 2, 114), 0, 0),
  (4, .iload_n 1, 1, (0, 0, 0, 0), 0, 0),
  (5, .aaload, 1, (0, 0, 0, 0), 0, 0),
  (6, .areturn, 1, (0, 0, 0, 999999), 0, 0)]
set_option maxRecDepth 100000 in
theorem k_AL_elementData : I_AL_elementData.all (q_okb M_AL_elementData) = true := by decide +kernel
theorem c_AL_elementData : Cond.code M_AL_elementData.1 M_AL_elementData.2.1 M_AL_elementData.2.2.1 M_AL_elementData.2.2.2.1 ∈ q_ws := List.mem_of_getElem? (i := 189) (by decide +kernel)
theorem w_AL_elementData : q_cw M_AL_elementData := ⟨Or.inl c_AL_elementData, List.mem_of_getElem? (i := 69) (by decide +kernel), by decide +kernel⟩
theorem n_AL_elementData : Cond.instanceMethod M_AL_elementData.1 ∈ q_ws := List.mem_of_getElem? (i := 187) (by decide +kernel)
theorem e_AL_elementData : Cond.selects "java/util/ArrayList" M_AL_elementData.1 M_AL_elementData.1 ∈ q_ws := List.mem_of_getElem? (i := 188) (by decide +kernel)
theorem p_AL_elementData : plainFor M_AL_elementData.1 = true := by decide +kernel
theorem a_AL_elementData : (parseMethodDescriptor M_AL_elementData.1.desc).map (fun d => d.parameters.length) = some 1 := by decide +kernel
def M_MT_max2 : q_M := (⟨"java/lang/Math", "max", "(JJ)J"⟩, prog_17_method_66_code, 4, (Option.some FieldType.long), [])
def I_MT_max2 : List q_J := [(0, .lload_n 0, 1, (0, 0, 0, 0), 0, 0),
  (1, .lload_n 2, 1, (0, 0, 0, 0), 0, 0),
  (2, .lcmp, 1, (0, 0, 0, 0), 0, 0),
  (3, .ifCond .lt 7, 3, (0, 0, 0, 999999), 0, 0),
  (6, .lload_n 0, 1, (0, 0, 0, 0), 0, 0),
  (7, .goto 4, 3, (0, 0, 0, 999999), 0, 0),
  (10, .lload_n 2, 1, (0, 0, 0, 0), 0, 0),
  (11, .lreturn, 1, (0, 0, 0, 999999), 0, 0)]
set_option maxRecDepth 100000 in
theorem k_MT_max2 : I_MT_max2.all (q_okb M_MT_max2) = true := by decide +kernel
theorem c_MT_max2 : Cond.code M_MT_max2.1 M_MT_max2.2.1 M_MT_max2.2.2.1 M_MT_max2.2.2.2.1 ∈ q_ws := List.mem_of_getElem? (i := 205) (by decide +kernel)
theorem w_MT_max2 : q_cw M_MT_max2 := ⟨Or.inl c_MT_max2, List.mem_of_getElem? (i := 71) (by decide +kernel), by decide +kernel⟩
theorem s_MT_max2 : Cond.static M_MT_max2.1 ∈ q_ws := List.mem_of_getElem? (i := 204) (by decide +kernel)
theorem p_MT_max2 : plainFor M_MT_max2.1 = true := by decide +kernel
theorem a_MT_max2 : (parseMethodDescriptor M_MT_max2.1.desc).map (fun d => d.parameters.length) = some 2 := by decide +kernel
def M_MT_min2 : q_M := (⟨"java/lang/Math", "min", "(JJ)J"⟩, prog_17_method_70_code, 4, (Option.some FieldType.long), [])
def I_MT_min2 : List q_J := [(0, .lload_n 0, 1, (0, 0, 0, 0), 0, 0),
  (1, .lload_n 2, 1, (0, 0, 0, 0), 0, 0),
  (2, .lcmp, 1, (0, 0, 0, 0), 0, 0),
  (3, .ifCond .gt 7, 3, (0, 0, 0, 999999), 0, 0),
  (6, .lload_n 0, 1, (0, 0, 0, 0), 0, 0),
  (7, .goto 4, 3, (0, 0, 0, 999999), 0, 0),
  (10, .lload_n 2, 1, (0, 0, 0, 0), 0, 0),
  (11, .lreturn, 1, (0, 0, 0, 999999), 0, 0)]
set_option maxRecDepth 100000 in
theorem k_MT_min2 : I_MT_min2.all (q_okb M_MT_min2) = true := by decide +kernel
theorem c_MT_min2 : Cond.code M_MT_min2.1 M_MT_min2.2.1 M_MT_min2.2.2.1 M_MT_min2.2.2.2.1 ∈ q_ws := List.mem_of_getElem? (i := 209) (by decide +kernel)
theorem w_MT_min2 : q_cw M_MT_min2 := ⟨Or.inl c_MT_min2, List.mem_of_getElem? (i := 71) (by decide +kernel), by decide +kernel⟩
theorem s_MT_min2 : Cond.static M_MT_min2.1 ∈ q_ws := List.mem_of_getElem? (i := 208) (by decide +kernel)
theorem p_MT_min2 : plainFor M_MT_min2.1 = true := by decide +kernel
theorem a_MT_min2 : (parseMethodDescriptor M_MT_min2.1.desc).map (fun d => d.parameters.length) = some 2 := by decide +kernel
def M_AR_fill : q_M := (⟨"java/util/Arrays", "fill", "([II)V"⟩, prog_28_method_103_code, 4, (Option.none : Option FieldType), [])
def I_AR_fill : List q_J := [(0, .iconst 0, 1, (0, 0, 0, 0), 0, 0),
  (1, .istore_n 2, 1, (0, 0, 0, 0), 0, 0),
  (2, .aload_n 0, 1, (0, 0, 0, 0), 0, 0),
  (3, .arraylength, 1, (0, 0, 0, 0), 0, 0),
  (4, .istore_n 3, 1, (0, 0, 0, 0), 0, 0),
  (5, .iload_n 2, 1, (0, 0, 0, 0), 0, 0),
  (6, .iload_n 3, 1, (0, 0, 0, 0), 0, 0),
  (7, .if_icmp .ge 13, 3, (0, 0, 0, 999999), 0, 0),
  (10, .aload_n 0, 1, (0, 0, 0, 0), 0, 0),
  (11, .iload_n 2, 1, (0, 0, 0, 0), 0, 0),
  (12, .iload_n 1, 1, (0, 0, 0, 0), 0, 0),
  (13, .iastore, 1, (0, 0, 0, 0), 0, 0),
  (14, .iinc 2 1, 3, (0, 0, 0, 0), 1, 0),
  (17, .goto (-12), 3, (0, 0, 0, 999999), 0, 0),
  (20, .return_, 1, (0, 0, 0, 999999), 0, 0)]
set_option maxRecDepth 100000 in
theorem k_AR_fill : I_AR_fill.all (q_okb M_AR_fill) = true := by decide +kernel
theorem c_AR_fill : Cond.code M_AR_fill.1 M_AR_fill.2.1 M_AR_fill.2.2.1 M_AR_fill.2.2.2.1 ∈ q_ws := List.mem_of_getElem? (i := 234) (by decide +kernel)
theorem w_AR_fill : q_cw M_AR_fill := ⟨Or.inl c_AR_fill, List.mem_of_getElem? (i := 87) (by decide +kernel), by decide +kernel⟩
theorem s_AR_fill : Cond.static M_AR_fill.1 ∈ q_ws := List.mem_of_getElem? (i := 233) (by decide +kernel)
theorem p_AR_fill : plainFor M_AR_fill.1 = true := by decide +kernel
theorem a_AR_fill : (parseMethodDescriptor M_AR_fill.1.desc).map (fun d => d.parameters.length) = some 2 := by decide +kernel
def M_IN_bitCount : q_M := (⟨"java/lang/Intege\x72", "bitCount", "(I)I"⟩, prog_15_method_49_code, 1, (Option.some FieldType.int), [])
def I_IN_bitCount : List q_J := [(0, .iload_n 0, 1, (0, 0, 0, 0), 0, 0),
  (1, .iload_n 0, 1, (0, 0, 0, 0), 0, 0),
  (2, .iconst 1, 1, (0, 0, 0, 0), 1, 0),
  (3, .iushr, 1, (0, 0, 0, 0), 0, 0),
  (4, .ldc_w 265, 3, (0, 0, 0, 271), 1431655765, 0),
  (7, .iand, 1, (0, 0, 0, 0), 0, 0),
  (8, .isub, 1, (0, 0, 0, 0), 0, 0),
  (9, .istore_n 0, 1, (0, 0, 0, 0), 0, 0),
  (10, .iload_n 0, 1, (0, 0, 0, 0), 0, 0),
  (11, .ldc_w 266, 3, (0, 0, 0, 272), 858993459, 0),
  (14, .iand, 1, (0, 0, 0, 0), 0, 0),
  (15, .iload_n 0, 1, (0, 0, 0, 0), 0, 0),
  (16, .iconst 2, 1, (0, 0, 0, 0), 2, 0),
  (17, .iushr, 1, (0, 0, 0, 0), 0, 0),
  (18, .ldc_w 266, 3, (0, 0, 0, 272), 858993459, 0),
  (21, .iand, 1, (0, 0, 0, 0), 0, 0),
  (22, .iadd, 1, (0, 0, 0, 0), 0, 0),
  (23, .istore_n 0, 1, (0, 0, 0, 0), 0, 0),
  (24, .iload_n 0, 1, (0, 0, 0, 0), 0, 0),
  (25, .iload_n 0, 1, (0, 0, 0, 0), 0, 0),
  (26, .iconst 4, 1, (0, 0, 0, 0), 4, 0),
  (27, .iushr, 1, (0, 0, 0, 0), 0, 0),
  (28, .iadd, 1, (0, 0, 0, 0), 0, 0),
  (29, .ldc_w 267, 3, (0, 0, 0, 273), 252645135, 0),
  (32, .iand, 1, (0, 0, 0, 0), 0, 0),
  (33, .istore_n 0, 1, (0, 0, 0, 0), 0, 0),
  (34, .iload_n 0, 1, (0, 0, 0, 0), 0, 0),
  (35, .iload_n 0, 1, (0, 0, 0, 0), 0, 0),
  (36, .bipush 8, 2, (0, 0, 0, 0), 8, 0),
  (38, .iushr, 1, (0, 0, 0, 0), 0, 0),
  (39, .iadd, 1, (0, 0, 0, 0), 0, 0),
  (40, .istore_n 0, 1, (0, 0, 0, 0), 0, 0),
  (41, .iload_n 0, 1, (0, 0, 0, 0), 0, 0),
  (42, .iload_n 0, 1, (0, 0, 0, 0), 0, 0),
  (43, .bipush 16, 2, (0, 0, 0, 0), 16, 0),
  (45, .iushr, 1, (0, 0, 0, 0), 0, 0),
  (46, .iadd, 1, (0, 0, 0, 0), 0, 0),
  (47, .istore_n 0, 1, (0, 0, 0, 0), 0, 0),
  (48, .iload_n 0, 1, (0, 0, 0, 0), 0, 0),
  (49, .bipush 63, 2, (0, 0, 0, 0), 63, 0),
  (51, .iand, 1, (0, 0, 0, 0), 0, 0),
  (52, .ireturn, 1, (0, 0, 0, 999999), 0, 0)]
set_option maxRecDepth 100000 in
theorem k_IN_bitCount : I_IN_bitCount.all (q_okb M_IN_bitCount) = true := by decide +kernel
theorem c_IN_bitCount : Cond.code M_IN_bitCount.1 M_IN_bitCount.2.1 M_IN_bitCount.2.2.1 M_IN_bitCount.2.2.2.1 ∈ q_ws := List.mem_of_getElem? (i := 270) (by decide +kernel)
theorem w_IN_bitCount : q_cw M_IN_bitCount := ⟨Or.inl c_IN_bitCount, List.mem_of_getElem? (i := 90) (by decide +kernel), by decide +kernel⟩
theorem s_IN_bitCount : Cond.static M_IN_bitCount.1 ∈ q_ws := List.mem_of_getElem? (i := 269) (by decide +kernel)
theorem p_IN_bitCount : plainFor M_IN_bitCount.1 = true := by decide +kernel
theorem a_IN_bitCount : (parseMethodDescriptor M_IN_bitCount.1.desc).map (fun d => d.parameters.length) = some 1 := by decide +kernel
def M_AL_add : q_M := (⟨"java/util/ArrayList", "add", "(ILjava/lang/Object;)V"⟩, prog_27_method_26_code, 5, (Option.none : Option FieldType), [])
def I_AL_add : List q_J := [(0, .aload_n 0, 1, (0, 0, 0, 0), 0, 0),
  (1, .iload_n 1, 1, (0, 0, 0, 0), 0, 0),
  (2, .invokevirtual 135, 3, (0, 0, 0, 999999), 0, 0),
  (5, .aload_n 0, 1, (0, 0, 0, 0), 0, 0),
  (6, .dup, 1, (0, 0, 0, 0), 0, 0),
  (7, .getfield 63, 3, (7, 2, 0, 200117), 0, 0),
  (10, .iconst 1, 1, (0, 0, 0, 0), 1, 0),
  (11, .iadd, 1, (0, 0, 0, 0), 0, 0),
  (12, .putfield 63, 3, (7, 2, 0, 200117), 0, 0),
  (15, .aload_n 0, 1, (0, 0, 0, 0), 0, 0),
  (16, .getfield 48, 3, (7, 1, 0, 115), 0, 0),
  (19, .dup, 1, (0, 0, 0, 0), 0, 0),
  (20, .istore_n 3, 1, (0, 0, 0, 0), 0, 0),
  (21, .aload_n 0, 1, (0, 0, 0, 0), 0, 0),
  (22, .getfield 9, 3, (7, 0, 2, 114), 0, 0),
  (25, .dup, 1, (0, 0, 0, 0), 0, 0),
  (26, .astore 4, 2, (0, 0, 0, 0), 0, 0),
  (28, .arraylength, 1, (0, 0, 0, 0), 0, 0),
  (29, .if_icmp .ne 9, 3, (0, 0, 0, 999999), 0, 0),
  (32, .aload_n 0, 1, (0, 0, 0, 0), 0, 0),
  (33, .invokevirtual 129, 3, (0, 0, 0, 999999), 0, 0),
  (36, .astore 4, 2, (0, 0, 0, 0), 0, 0),
  (38, .aload 4, 2, (0, 0, 0, 0), 0, 0),
  (40, .iload_n 1, 1, (0, 0, 0, 0), 0, 0),
  (41, .aload 4, 2, (0, 0, 0, 0), 0, 0),
  (43, .iload_n 1, 1, (0, 0, 0, 0), 0, 0),
  (44, .iconst 1, 1, (0, 0, 0, 0), 1, 0),
  (45, .iadd, 1, (0, 0, 0, 0), 0, 0),
  (46, .iload_n 3, 1, (0, 0, 0, 0), 0, 0),
  (47, .iload_n 1, 1, (0, 0, 0, 0), 0, 0),
  (48, .isub, 1, (0, 0, 0, 0), 0, 0),
  (49, .invokestatic 112, 3, (0, 0, 0, 999999), 0, 0),
  (52, .aload 4, 2, (0, 0, 0, 0), 0, 0),
  (54, .iload_n 1, 1, (0, 0, 0, 0), 0, 0),
  (55, .aload_n 2, 1, (0, 0, 0, 0), 0, 0),
  (56, .aastore, 1, (0, 0, 0, 999999), 0, 0),
  (57, .aload_n 0, 1, (0, 0, 0, 0), 0, 0),
  (58, .iload_n 3, 1, (0, 0, 0, 0), 0, 0),
  (59, .iconst 1, 1, (0, 0, 0, 0), 1, 0),
  (60, .iadd, 1, (0, 0, 0, 0), 0, 0),
  (61, .putfield 48, 3, (7, 1, 0, 115), 0, 0),
  (64, .return_, 1, (0, 0, 0, 999999), 0, 0)]
set_option maxRecDepth 100000 in
theorem k_AL_add : I_AL_add.all (q_okb M_AL_add) = true := by decide +kernel
theorem c_AL_add : Cond.code M_AL_add.1 M_AL_add.2.1 M_AL_add.2.2.1 M_AL_add.2.2.2.1 ∈ q_ws := List.mem_of_getElem? (i := 414) (by decide +kernel)
theorem w_AL_add : q_cw M_AL_add := ⟨Or.inl c_AL_add, List.mem_of_getElem? (i := 69) (by decide +kernel), by decide +kernel⟩
theorem n_AL_add : Cond.instanceMethod M_AL_add.1 ∈ q_ws := List.mem_of_getElem? (i := 413) (by decide +kernel)
theorem p_AL_add : plainFor M_AL_add.1 = true := by decide +kernel
theorem a_AL_add : (parseMethodDescriptor M_AL_add.1.desc).map (fun d => d.parameters.length) = some 2 := by decide +kernel
def M_AL_rangeCheckForAdd : q_M := (⟨"java/util/ArrayList", "rangeCheckForAdd", "(I)V"⟩, prog_27_method_45_code, 2, (Option.none : Option FieldType), [])
def I_AL_rangeCheckForAdd : List q_J := [(0, .iload_n 1, 1, (0, 0, 0, 0), 0, 0),
  (1, .aload_n 0, 1, (0, 0, 0, 0), 0, 0),
  (2, .getfield 48, 3, (7, 1, 0, 115), 0, 0),
  (5, .if_icmp .gt 7, 3, (0, 0, 0, 999999), 0, 0),
  (8, .iload_n 1, 1, (0, 0, 0, 0), 0, 0),
  (9, .ifCond .ge 16, 3, (0, 0, 0, 999999), 0, 0),
  (12, .new 187, 3, (0, 0, 0, 999999), 0, 0),
  (15, .dup, 1, (0, 0, 0, 0), 0, 0),
  (16, .aload_n 0, 1, (0, 0, 0, 0), 0, 0),
  (17, .iload_n 1, 1, (0, 0, 0, 0), 0, 0),
  (18, .invokevirtual 198, 3, (0, 0, 0, 999999), 0, 0),
  (21, .invokespecial 193, 3, (0, 0, 0, 999999), 0, 0),
  (24, .athrow, 1, (0, 0, 0, 999999), 0, 0),
  (25, .return_, 1, (0, 0, 0, 999999), 0, 0)]
set_option maxRecDepth 100000 in
theorem k_AL_rangeCheckForAdd : I_AL_rangeCheckForAdd.all (q_okb M_AL_rangeCheckForAdd) = true := by decide +kernel
theorem c_AL_rangeCheckForAdd : Cond.code M_AL_rangeCheckForAdd.1 M_AL_rangeCheckForAdd.2.1 M_AL_rangeCheckForAdd.2.2.1 M_AL_rangeCheckForAdd.2.2.2.1 ∈ q_ws := List.mem_of_getElem? (i := 417) (by decide +kernel)
theorem w_AL_rangeCheckForAdd : q_cw M_AL_rangeCheckForAdd := ⟨Or.inl c_AL_rangeCheckForAdd, List.mem_of_getElem? (i := 69) (by decide +kernel), by decide +kernel⟩
theorem n_AL_rangeCheckForAdd : Cond.instanceMethod M_AL_rangeCheckForAdd.1 ∈ q_ws := List.mem_of_getElem? (i := 416) (by decide +kernel)
theorem e_AL_rangeCheckForAdd : Cond.selects "java/util/ArrayList" M_AL_rangeCheckForAdd.1 M_AL_rangeCheckForAdd.1 ∈ q_ws := List.mem_of_getElem? (i := 24) (by decide +kernel)
theorem p_AL_rangeCheckForAdd : plainFor M_AL_rangeCheckForAdd.1 = true := by decide +kernel
theorem a_AL_rangeCheckForAdd : (parseMethodDescriptor M_AL_rangeCheckForAdd.1.desc).map (fun d => d.parameters.length) = some 1 := by decide +kernel
def M_AS_newLength : q_M := (⟨"jdk/internal/util/ArraysSupport", "newLength", "(III)I"⟩, prog_34_method_27_code, 4, (Option.some FieldType.int), [])
def I_AS_newLength : List q_J := [(0, .iload_n 0, 1, (0, 0, 0, 0), 0, 0),
  (1, .iload_n 1, 1, (0, 0, 0, 0), 0, 0),
  (2, .iload_n 2, 1, (0, 0, 0, 0), 0, 0),
  (3, .invokestatic 194, 3, (0, 0, 0, 999999), 0, 0),
  (6, .iadd, 1, (0, 0, 0, 0), 0, 0),
  (7, .istore_n 3, 1, (0, 0, 0, 0), 0, 0),
  (8, .iconst 0, 1, (0, 0, 0, 0), 0, 0),
  (9, .iload_n 3, 1, (0, 0, 0, 0), 0, 0),
  (10, .if_icmp .ge 11, 3, (0, 0, 0, 999999), 0, 0),
  (13, .iload_n 3, 1, (0, 0, 0, 0), 0, 0),
  (14, .ldc 200, 2, (0, 0, 0, 468), 2147483639, 0),
  (16, .if_icmp .gt 5, 3, (0, 0, 0, 999999), 0, 0),
  (19, .iload_n 3, 1, (0, 0, 0, 0), 0, 0),
  (20, .ireturn, 1, (0, 0, 0, 999999), 0, 0),
  (21, .iload_n 0, 1, (0, 0, 0, 0), 0, 0),
  (22, .iload_n 1, 1, (0, 0, 0, 0), 0, 0),
  (23, .invokestatic 201, 3, (0, 0, 0, 999999), 0, 0),
  (26, .ireturn, 1, (0, 0, 0, 999999), 0, 0)]
set_option maxRecDepth 100000 in
theorem k_AS_newLength : I_AS_newLength.all (q_okb M_AS_newLength) = true := by decide +kernel
theorem c_AS_newLength : Cond.code M_AS_newLength.1 M_AS_newLength.2.1 M_AS_newLength.2.2.1 M_AS_newLength.2.2.2.1 ∈ q_ws := List.mem_of_getElem? (i := 466) (by decide +kernel)
theorem w_AS_newLength : q_cw M_AS_newLength := ⟨Or.inl c_AS_newLength, List.mem_of_getElem? (i := 86) (by decide +kernel), by decide +kernel⟩
theorem s_AS_newLength : Cond.static M_AS_newLength.1 ∈ q_ws := List.mem_of_getElem? (i := 465) (by decide +kernel)
theorem p_AS_newLength : plainFor M_AS_newLength.1 = true := by decide +kernel
theorem a_AS_newLength : (parseMethodDescriptor M_AS_newLength.1.desc).map (fun d => d.parameters.length) = some 3 := by decide +kernel
def M_AL_grow : q_M := (⟨"java/util/ArrayList", "grow", "()[Ljava/lang/Object;"⟩, prog_27_method_7_code, 1, (Option.some (FieldType.array (FieldType.object "java/lang/Object"))), [])
def I_AL_grow : List q_J := [(0, .aload_n 0, 1, (0, 0, 0, 0), 0, 0),
  (1, .aload_n 0, 1, (0, 0, 0, 0), 0, 0),
  (2, .getfield 48, 3, (7, 1, 0, 115), 0, 0),
  (5, .iconst 1, 1, (0, 0, 0, 0), 1, 0),
  (6, .iadd, 1, (0, 0, 0, 0), 0, 0),
  (7, .invokevirtual 69, 3, (0, 0, 0, 999999), 0, 0),
  (10, .areturn, 1, (0, 0, 0, 999999), 0, 0)]
set_option maxRecDepth 100000 in
theorem k_AL_grow : I_AL_grow.all (q_okb M_AL_grow) = true := by decide +kernel
theorem c_AL_grow : Cond.code M_AL_grow.1 M_AL_grow.2.1 M_AL_grow.2.2.1 M_AL_grow.2.2.2.1 ∈ q_ws := List.mem_of_getElem? (i := 640) (by decide +kernel)
theorem w_AL_grow : q_cw M_AL_grow := ⟨Or.inl c_AL_grow, List.mem_of_getElem? (i := 69) (by decide +kernel), by decide +kernel⟩
theorem n_AL_grow : Cond.instanceMethod M_AL_grow.1 ∈ q_ws := List.mem_of_getElem? (i := 639) (by decide +kernel)
theorem e_AL_grow : Cond.selects "java/util/ArrayList" M_AL_grow.1 M_AL_grow.1 ∈ q_ws := List.mem_of_getElem? (i := 26) (by decide +kernel)
theorem p_AL_grow : plainFor M_AL_grow.1 = true := by decide +kernel
theorem a_AL_grow : (parseMethodDescriptor M_AL_grow.1.desc).map (fun d => d.parameters.length) = some 0 := by decide +kernel
def M_AL_grow2 : q_M := (⟨"java/util/ArrayList", "grow", "(I)[Ljava/lang/Object;"⟩, prog_27_method_6_code, 4, (Option.some (FieldType.array (FieldType.object "java/lang/Object"))), [])
def I_AL_grow2 : List q_J := [(0, .aload_n 0, 1, (0, 0, 0, 0), 0, 0),
  (1, .getfield 9, 3, (7, 0, 2, 114), 0, 0),
  (4, .arraylength, 1, (0, 0, 0, 0), 0, 0),
  (5, .istore_n 2, 1, (0, 0, 0, 0), 0, 0),
  (6, .iload_n 2, 1, (0, 0, 0, 0), 0, 0),
  (7, .ifCond .gt 13, 3, (0, 0, 0, 999999), 0, 0),
  (10, .aload_n 0, 1, (0, 0, 0, 0), 0, 0),
  (11, .getfield 9, 3, (7, 0, 2, 114), 0, 0),
  (14, .getstatic 39, 3, (0, 0, 0, 999999), 0, 0),
  (17, .if_acmp .eq 28, 3, (0, 0, 0, 999999), 0, 0),
  (20, .iload_n 2, 1, (0, 0, 0, 0), 0, 0),
  (21, .iload_n 1, 1, (0, 0, 0, 0), 0, 0),
  (22, .iload_n 2, 1, (0, 0, 0, 0), 0, 0),
  (23, .isub, 1, (0, 0, 0, 0), 0, 0),
  (24, .iload_n 2, 1, (0, 0, 0, 0), 0, 0),
  (25, .iconst 1, 1, (0, 0, 0, 0), 1, 0),
  (26, .ishr, 1, (0, 0, 0, 0), 0, 0),
  (27, .invokestatic 73, 3, (0, 0, 0, 999999), 0, 0),
  (30, .istore_n 3, 1, (0, 0, 0, 0), 0, 0),
  (31, .aload_n 0, 1, (0, 0, 0, 0), 0, 0),
  (32, .aload_n 0, 1, (0, 0, 0, 0), 0, 0),
  (33, .getfield 9, 3, (7, 0, 2, 114), 0, 0),
  (36, .iload_n 3, 1, (0, 0, 0, 0), 0, 0),
  (37, .invokestatic 66, 3, (0, 0, 0, 999999), 0, 0),
  (40, .dup_x1, 1, (0, 0, 0, 0), 0, 0),
  (41, .putfield 9, 3, (7, 0, 2, 114), 0, 0),
  (44, .areturn, 1, (0, 0, 0, 999999), 0, 0),
  (45, .aload_n 0, 1, (0, 0, 0, 0), 0, 0),
  (46, .bipush 10, 2, (0, 0, 0, 0), 10, 0),
  (48, .iload_n 1, 1, (0, 0, 0, 0), 0, 0),
  (49, .invokestatic 79, 3, (0, 0, 0, 999999), 0, 0),
  (52, .anewarray 7, 3, (0, 0, 0, 999999), 0, 0),
  (55, .dup_x1, 1, (0, 0, 0, 0), 0, 0),
  (56, .putfield 9, 3, (7, 0, 2, 114), 0, 0),
  (59, .areturn, 1, (0, 0, 0, 999999), 0, 0)]
set_option maxRecDepth 100000 in
theorem k_AL_grow2 : I_AL_grow2.all (q_okb M_AL_grow2) = true := by decide +kernel
theorem c_AL_grow2 : Cond.code M_AL_grow2.1 M_AL_grow2.2.1 M_AL_grow2.2.2.1 M_AL_grow2.2.2.2.1 ∈ q_ws := List.mem_of_getElem? (i := 643) (by decide +kernel)
theorem w_AL_grow2 : q_cw M_AL_grow2 := ⟨Or.inl c_AL_grow2, List.mem_of_getElem? (i := 69) (by decide +kernel), by decide +kernel⟩
theorem n_AL_grow2 : Cond.instanceMethod M_AL_grow2.1 ∈ q_ws := List.mem_of_getElem? (i := 642) (by decide +kernel)
theorem e_AL_grow2 : Cond.selects "java/util/ArrayList" M_AL_grow2.1 M_AL_grow2.1 ∈ q_ws := List.mem_of_getElem? (i := 27) (by decide +kernel)
theorem p_AL_grow2 : plainFor M_AL_grow2.1 = true := by decide +kernel
theorem a_AL_grow2 : (parseMethodDescriptor M_AL_grow2.1.desc).map (fun d => d.parameters.length) = some 1 := by decide +kernel
def M_AR_copyOf2 : q_M := (⟨"java/util/Arrays", "copyOf", "([Ljava/lang/Object;I)[Ljava/lang/Object;"⟩, prog_28_method_119_code, 2, (Option.some (FieldType.array (FieldType.object "java/lang/Object"))), [])
def I_AR_copyOf2 : List q_J := [(0, .aload_n 0, 1, (0, 0, 0, 0), 0, 0),
  (1, .iload_n 1, 1, (0, 0, 0, 0), 0, 0),
  (2, .aload_n 0, 1, (0, 0, 0, 0), 0, 0),
  (3, .invokevirtual 86, 3, (0, 0, 0, 999999), 0, 0),
  (6, .invokestatic 300, 3, (0, 0, 0, 999999), 0, 0),
  (9, .areturn, 1, (0, 0, 0, 999999), 0, 0)]
set_option maxRecDepth 100000 in
theorem k_AR_copyOf2 : I_AR_copyOf2.all (q_okb M_AR_copyOf2) = true := by decide +kernel
theorem c_AR_copyOf2 : Cond.code M_AR_copyOf2.1 M_AR_copyOf2.2.1 M_AR_copyOf2.2.2.1 M_AR_copyOf2.2.2.2.1 ∈ q_ws := List.mem_of_getElem? (i := 647) (by decide +kernel)
theorem w_AR_copyOf2 : q_cw M_AR_copyOf2 := ⟨Or.inl c_AR_copyOf2, List.mem_of_getElem? (i := 87) (by decide +kernel), by decide +kernel⟩
theorem s_AR_copyOf2 : Cond.static M_AR_copyOf2.1 ∈ q_ws := List.mem_of_getElem? (i := 646) (by decide +kernel)
theorem p_AR_copyOf2 : plainFor M_AR_copyOf2.1 = true := by decide +kernel
theorem a_AR_copyOf2 : (parseMethodDescriptor M_AR_copyOf2.1.desc).map (fun d => d.parameters.length) = some 2 := by decide +kernel
def M_AR_copyOf3 : q_M := (⟨"java/util/Arrays", "copyOf", "([Ljava/lang/Object;ILjava/lang/Class;)[Ljava/lang/Object;"⟩, prog_28_method_120_code, 4, (Option.some (FieldType.array (FieldType.object "java/lang/Object"))), [])
def I_AR_copyOf3 : List q_J := [(0, .aload_n 2, 1, (0, 0, 0, 0), 0, 0),
  (1, .ldc 110, 2, (0, 0, 0, 999999), 0, 0),
  (3, .if_acmp .ne 10, 3, (0, 0, 0, 999999), 0, 0),
  (6, .iload_n 1, 1, (0, 0, 0, 0), 0, 0),
  (7, .anewarray 2, 3, (0, 0, 0, 999999), 0, 0),
  (10, .goto 14, 3, (0, 0, 0, 999999), 0, 0),
  (13, .aload_n 2, 1, (0, 0, 0, 0), 0, 0),
  (14, .invokevirtual 90, 3, (0, 0, 0, 999999), 0, 0),
  (17, .iload_n 1, 1, (0, 0, 0, 0), 0, 0),
  (18, .invokestatic 95, 3, (0, 0, 0, 999999), 0, 0),
  (21, .checkcast 110, 3, (0, 0, 0, 999999), 0, 0),
  (24, .astore_n 3, 1, (0, 0, 0, 0), 0, 0),
  (25, .aload_n 0, 1, (0, 0, 0, 0), 0, 0),
  (26, .iconst 0, 1, (0, 0, 0, 0), 0, 0),
  (27, .aload_n 3, 1, (0, 0, 0, 0), 0, 0),
  (28, .iconst 0, 1, (0, 0, 0, 0), 0, 0),
  (29, .aload_n 0, 1, (0, 0, 0, 0), 0, 0),
  (30, .arraylength, 1, (0, 0, 0, 0), 0, 0),
  (31, .iload_n 1, 1, (0, 0, 0, 0), 0, 0),
  (32, .invokestatic 304, 3, (0, 0, 0, 999999), 0, 0),
  (35, .invokestatic 150, 3, (0, 0, 0, 999999), 0, 0),
  (38, .aload_n 3, 1, (0, 0, 0, 0), 0, 0),
  (39, .areturn, 1, (0, 0, 0, 999999), 0, 0)]
set_option maxRecDepth 100000 in
theorem k_AR_copyOf3 : I_AR_copyOf3.all (q_okb M_AR_copyOf3) = true := by decide +kernel
theorem c_AR_copyOf3 : Cond.code M_AR_copyOf3.1 M_AR_copyOf3.2.1 M_AR_copyOf3.2.2.1 M_AR_copyOf3.2.2.2.1 ∈ q_ws := List.mem_of_getElem? (i := 666) (by decide +kernel)
theorem w_AR_copyOf3 : q_cw M_AR_copyOf3 := ⟨Or.inl c_AR_copyOf3, List.mem_of_getElem? (i := 87) (by decide +kernel), by decide +kernel⟩
theorem s_AR_copyOf3 : Cond.static M_AR_copyOf3.1 ∈ q_ws := List.mem_of_getElem? (i := 665) (by decide +kernel)
theorem p_AR_copyOf3 : plainFor M_AR_copyOf3.1 = true := by decide +kernel
theorem a_AR_copyOf3 : (parseMethodDescriptor M_AR_copyOf3.1.desc).map (fun d => d.parameters.length) = some 3 := by decide +kernel
def M_AL_add2 : q_M := (⟨"java/util/ArrayList", "add", "(Ljava/lang/Object;)Z"⟩, prog_27_method_25_code, 2, (Option.some FieldType.boolean), [])
def I_AL_add2 : List q_J := [(0, .aload_n 0, 1, (0, 0, 0, 0), 0, 0),
  (1, .dup, 1, (0, 0, 0, 0), 0, 0),
  (2, .getfield 63, 3, (7, 2, 0, 200117), 0, 0),
  (5, .iconst 1, 1, (0, 0, 0, 0), 1, 0),
  (6, .iadd, 1, (0, 0, 0, 0), 0, 0),
  (7, .putfield 63, 3, (7, 2, 0, 200117), 0, 0),
  (10, .aload_n 0, 1, (0, 0, 0, 0), 0, 0),
  (11, .aload_n 1, 1, (0, 0, 0, 0), 0, 0),
  (12, .aload_n 0, 1, (0, 0, 0, 0), 0, 0),
  (13, .getfield 9, 3, (7, 0, 2, 114), 0, 0),
  (16, .aload_n 0, 1, (0, 0, 0, 0), 0, 0),
  (17, .getfield 48, 3, (7, 1, 0, 115), 0, 0),
  (20, .invokevirtual 131, 3, (0, 0, 0, 999999), 0, 0),
  (23, .iconst 1, 1, (0, 0, 0, 0), 1, 0),
  (24, .ireturn, 1, (0, 0, 0, 999999), 0, 0)]
set_option maxRecDepth 100000 in
theorem k_AL_add2 : I_AL_add2.all (q_okb M_AL_add2) = true := by decide +kernel
theorem c_AL_add2 : Cond.code M_AL_add2.1 M_AL_add2.2.1 M_AL_add2.2.2.1 M_AL_add2.2.2.2.1 ∈ q_ws := List.mem_of_getElem? (i := 675) (by decide +kernel)
theorem w_AL_add2 : q_cw M_AL_add2 := ⟨Or.inl c_AL_add2, List.mem_of_getElem? (i := 69) (by decide +kernel), by decide +kernel⟩
theorem n_AL_add2 : Cond.instanceMethod M_AL_add2.1 ∈ q_ws := List.mem_of_getElem? (i := 674) (by decide +kernel)
theorem p_AL_add2 : plainFor M_AL_add2.1 = true := by decide +kernel
theorem a_AL_add2 : (parseMethodDescriptor M_AL_add2.1.desc).map (fun d => d.parameters.length) = some 1 := by decide +kernel
def M_AL_add3 : q_M := (⟨"java/util/ArrayList", "add", "(Ljava/lang/Object;[Ljava/lang/Object;I)V"⟩, prog_27_method_24_code, 4, (Option.none : Option FieldType), [])
def I_AL_add3 : List q_J := [(0, .iload_n 3, 1, (0, 0, 0, 0), 0, 0),
  (1, .aload_n 2, 1, (0, 0, 0, 0), 0, 0),
  (2, .arraylength, 1, (0, 0, 0, 0), 0, 0),
  (3, .if_icmp .ne 8, 3, (0, 0, 0, 999999), 0, 0),
  (6, .aload_n 0, 1, (0, 0, 0, 0), 0, 0),
  (7, .invokevirtual 129, 3, (0, 0, 0, 999999), 0, 0),
  (10, .astore_n 2, 1, (0, 0, 0, 0), 0, 0),
  (11, .aload_n 2, 1, (0, 0, 0, 0), 0, 0),
  (12, .iload_n 3, 1, (0, 0, 0, 0), 0, 0),
  (13, .aload_n 1, 1, (0, 0, 0, 0), 0, 0),
  (14, .aastore, 1, (0, 0, 0, 999999), 0, 0),
  (15, .aload_n 0, 1, (0, 0, 0, 0), 0, 0),
  (16, .iload_n 3, 1, (0, 0, 0, 0), 0, 0),
  (17, .iconst 1, 1, (0, 0, 0, 0), 1, 0),
  (18, .iadd, 1, (0, 0, 0, 0), 0, 0),
  (19, .putfield 48, 3, (7, 1, 0, 115), 0, 0),
  (22, .return_, 1, (0, 0, 0, 999999), 0, 0)]
set_option maxRecDepth 100000 in
theorem k_AL_add3 : I_AL_add3.all (q_okb M_AL_add3) = true := by decide +kernel
theorem c_AL_add3 : Cond.code M_AL_add3.1 M_AL_add3.2.1 M_AL_add3.2.2.1 M_AL_add3.2.2.2.1 ∈ q_ws := List.mem_of_getElem? (i := 678) (by decide +kernel)
theorem w_AL_add3 : q_cw M_AL_add3 := ⟨Or.inl c_AL_add3, List.mem_of_getElem? (i := 69) (by decide +kernel), by decide +kernel⟩
theorem n_AL_add3 : Cond.instanceMethod M_AL_add3.1 ∈ q_ws := List.mem_of_getElem? (i := 677) (by decide +kernel)
theorem e_AL_add3 : Cond.selects "java/util/ArrayList" M_AL_add3.1 M_AL_add3.1 ∈ q_ws := List.mem_of_getElem? (i := 28) (by decide +kernel)
theorem p_AL_add3 : plainFor M_AL_add3.1 = true := by decide +kernel
theorem a_AL_add3 : (parseMethodDescriptor M_AL_add3.1.desc).map (fun d => d.parameters.length) = some 3 := by decide +kernel
def M_MT_floorDiv : q_M := (⟨"java/lang/Math", "floorDiv", "(II)I"⟩, prog_17_method_47_code, 3, (Option.some FieldType.int), [])
def I_MT_floorDiv : List q_J := [(0, .iload_n 0, 1, (0, 0, 0, 0), 0, 0),
  (1, .iload_n 1, 1, (0, 0, 0, 0), 0, 0),
  (2, .idiv, 1, (0, 0, 0, 0), 0, 0),
  (3, .istore_n 2, 1, (0, 0, 0, 0), 0, 0),
  (4, .iload_n 0, 1, (0, 0, 0, 0), 0, 0),
  (5, .iload_n 1, 1, (0, 0, 0, 0), 0, 0),
  (6, .ixor, 1, (0, 0, 0, 0), 0, 0),
  (7, .ifCond .ge 14, 3, (0, 0, 0, 999999), 0, 0),
  (10, .iload_n 2, 1, (0, 0, 0, 0), 0, 0),
  (11, .iload_n 1, 1, (0, 0, 0, 0), 0, 0),
  (12, .imul, 1, (0, 0, 0, 0), 0, 0),
  (13, .iload_n 0, 1, (0, 0, 0, 0), 0, 0),
  (14, .if_icmp .eq 7, 3, (0, 0, 0, 999999), 0, 0),
  (17, .iload_n 2, 1, (0, 0, 0, 0), 0, 0),
  (18, .iconst 1, 1, (0, 0, 0, 0), 1, 0),
  (19, .isub, 1, (0, 0, 0, 0), 0, 0),
  (20, .ireturn, 1, (0, 0, 0, 999999), 0, 0),
  (21, .iload_n 2, 1, (0, 0, 0, 0), 0, 0),
  (22, .ireturn, 1, (0, 0, 0, 999999), 0, 0)]
set_option maxRecDepth 100000 in
theorem k_MT_floorDiv : I_MT_floorDiv.all (q_okb M_MT_floorDiv) = true := by decide +kernel
theorem c_MT_floorDiv : Cond.code M_MT_floorDiv.1 M_MT_floorDiv.2.1 M_MT_floorDiv.2.2.1 M_MT_floorDiv.2.2.2.1 ∈ q_ws := List.mem_of_getElem? (i := 709) (by decide +kernel)
theorem w_MT_floorDiv : q_cw M_MT_floorDiv := ⟨Or.inl c_MT_floorDiv, List.mem_of_getElem? (i := 71) (by decide +kernel), by decide +kernel⟩
theorem s_MT_floorDiv : Cond.static M_MT_floorDiv.1 ∈ q_ws := List.mem_of_getElem? (i := 708) (by decide +kernel)
theorem p_MT_floorDiv : plainFor M_MT_floorDiv.1 = true := by decide +kernel
theorem a_MT_floorDiv : (parseMethodDescriptor M_MT_floorDiv.1.desc).map (fun d => d.parameters.length) = some 2 := by decide +kernel
