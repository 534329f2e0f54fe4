/-! THE WORDS AND TABLES, by program (wip/whole/tools/emit01.py) -/
def q_good : Cond → Bool
  | .arrayClass .. => true
  | .classLink .. => true
  | .code .. => true
  | .codeSync .. => true
  | .codeWith .. => true
  | .constant .. => true
  | .constantLong .. => true
  | .fieldLink .. => true
  | .initialized .. => true
  | .instanceMethod .. => true
  | .instantiable .. => true
  | .lays .. => true
  | .laysFinal .. => true
  | .methodLink .. => true
  | .native .. => true
  | .sameField .. => true
  | .sameMethod .. => true
  | .selects .. => true
  | .static .. => true
  | .superclass .. => true
  | _ => false
def q_ws : List Cond := lw_tbl.filter q_good
theorem q_ws_all : q_ws.all goodWord = true := by decide +kernel
theorem q_ws_good : ∀ w ∈ q_ws, goodWord w = true := List.all_eq_true.mp q_ws_all
def q_C0 : u_T := fun k => match k with
  | 0 => ("PlaneFills", "layers", "I", true)
  | 1 => ("PlaneFills", "planes", "Ljava/util/List;", true)
  | 2 => ("PlaneFills", "ranked", "Ljava/util/List;", true)
  | 3 => ("PlaneFills", "discs", "Ljava/util/List;", true)
  | 4 => ("PlaneFills", "pads", "Ljava/util/List;", true)
  | 5 => ("PlaneFills", "rules", "[I", true)
  | 6 => ("PlaneFills", "pieces", "LPlaneFills$Groups;", true)
  | 7 => ("PlaneFills", "gaps", "LPlaneFills$Groups;", true)
  | _ => ("PlaneFills", "spare", "[I", true)
def q_t0 : Nat → FieldType := fun k => match k with
  | 0 => .int
  | 1 => .object "java/util/List"
  | 2 => .object "java/util/List"
  | 3 => .object "java/util/List"
  | 4 => .object "java/util/List"
  | 5 => .array (.int)
  | 6 => .object "PlaneFills$Groups"
  | 7 => .object "PlaneFills$Groups"
  | _ => .array (.int)
def q_C1 : u_T := fun k => match k with
  | 0 => ("PlaneFills$Coppe\x72", "rows", "[I", true)
  | 1 => ("PlaneFills$Coppe\x72", "pieceCount", "I", false)
  | 2 => ("PlaneFills$Coppe\x72", "islandCount", "I", false)
  | _ => ("PlaneFills$Coppe\x72", "lostNecks", "Z", false)
def q_t1 : Nat → FieldType := fun k => match k with
  | 0 => .array (.int)
  | 1 => .int
  | 2 => .int
  | _ => .boolean
def q_C2 : u_T := fun k => match k with
  | 0 => ("PlaneFills$Disc", "net", "I", true)
  | 1 => ("PlaneFills$Disc", "laye\x72", "I", true)
  | 2 => ("PlaneFills$Disc", "x", "I", true)
  | 3 => ("PlaneFills$Disc", "y", "I", true)
  | _ => ("PlaneFills$Disc", "\x72", "I", true)
def q_t2 : Nat → FieldType := fun k => match k with
  | 0 => .int
  | 1 => .int
  | 2 => .int
  | 3 => .int
  | _ => .int
def q_C3 : u_T := fun k => match k with
  | 0 => ("PlaneFills$Groups", "askew", "Z", true)
  | 1 => ("PlaneFills$Groups", "rest", "[I", true)
  | 2 => ("PlaneFills$Groups", "group", "[I", true)
  | 3 => ("PlaneFills$Groups", "first", "I", false)
  | _ => ("PlaneFills$Groups", "last", "I", false)
def q_t3 : Nat → FieldType := fun k => match k with
  | 0 => .boolean
  | 1 => .array (.int)
  | 2 => .array (.int)
  | 3 => .int
  | _ => .int
def q_C4 : u_T := fun k => match k with
  | 0 => ("PlaneFills$Pad", "net", "I", true)
  | 1 => ("PlaneFills$Pad", "laye\x72", "I", true)
  | 2 => ("PlaneFills$Pad", "x", "I", true)
  | 3 => ("PlaneFills$Pad", "y", "I", true)
  | 4 => ("PlaneFills$Pad", "w", "I", true)
  | _ => ("PlaneFills$Pad", "h", "I", true)
def q_t4 : Nat → FieldType := fun k => match k with
  | 0 => .int
  | 1 => .int
  | 2 => .int
  | 3 => .int
  | 4 => .int
  | _ => .int
def q_C5 : u_T := fun k => match k with
  | 0 => ("PlaneFills$Plane", "net", "I", true)
  | 1 => ("PlaneFills$Plane", "laye\x72", "I", true)
  | 2 => ("PlaneFills$Plane", "rank", "I", true)
  | 3 => ("PlaneFills$Plane", "outline", "[I", true)
  | 4 => ("PlaneFills$Plane", "cornerX", "[I", true)
  | 5 => ("PlaneFills$Plane", "cornerY", "[I", true)
  | 6 => ("PlaneFills$Plane", "corners", "I", false)
  | 7 => ("PlaneFills$Plane", "closedRings", "I", false)
  | 8 => ("PlaneFills$Plane", "hatchStep", "I", false)
  | 9 => ("PlaneFills$Plane", "hatchWidth", "I", false)
  | 10 => ("PlaneFills$Plane", "latest", "LPlaneFills$Copper;", false)
  | _ => ("PlaneFills$Plane", "trial", "LPlaneFills$Copper;", false)
def q_t5 : Nat → FieldType := fun k => match k with
  | 0 => .int
  | 1 => .int
  | 2 => .int
  | 3 => .array (.int)
  | 4 => .array (.int)
  | 5 => .array (.int)
  | 6 => .int
  | 7 => .int
  | 8 => .int
  | 9 => .int
  | 10 => .object "PlaneFills$Coppe\x72"
  | _ => .object "PlaneFills$Coppe\x72"
def q_C6 : u_T := fun k => match k with
  | 0 => ("PlaneFillsModel", "thrown", "I", false)
  | 1 => ("PlaneFillsModel", "layers", "I", true)
  | 2 => ("PlaneFillsModel", "planes", "I", false)
  | 3 => ("PlaneFillsModel", "nets", "[I", true)
  | 4 => ("PlaneFillsModel", "layerOf", "[I", true)
  | 5 => ("PlaneFillsModel", "ranks", "[I", true)
  | 6 => ("PlaneFillsModel", "ringCount", "[I", true)
  | 7 => ("PlaneFillsModel", "cornerCount", "[I", true)
  | 8 => ("PlaneFillsModel", "cornerX", "[J", true)
  | 9 => ("PlaneFillsModel", "cornerY", "[J", true)
  | 10 => ("PlaneFillsModel", "steps", "[I", true)
  | 11 => ("PlaneFillsModel", "widths", "[I", true)
  | 12 => ("PlaneFillsModel", "obstacles", "I", false)
  | 13 => ("PlaneFillsModel", "obstacleNet", "[I", true)
  | 14 => ("PlaneFillsModel", "obstacleLaye\x72", "[I", true)
  | 15 => ("PlaneFillsModel", "obstacleAt", "[J", true)
  | 16 => ("PlaneFillsModel", "pads", "I", false)
  | 17 => ("PlaneFillsModel", "padNet", "[I", true)
  | 18 => ("PlaneFillsModel", "padLaye\x72", "[I", true)
  | 19 => ("PlaneFillsModel", "padAt", "[I", true)
  | 20 => ("PlaneFillsModel", "rules", "[I", true)
  | 21 => ("PlaneFillsModel", "filled", "[J", true)
  | 22 => ("PlaneFillsModel", "now", "[J", true)
  | 23 => ("PlaneFillsModel", "islands", "[I", true)
  | 24 => ("PlaneFillsModel", "isNarrow", "[Z", true)
  | 25 => ("PlaneFillsModel", "islandsNow", "[I", true)
  | 26 => ("PlaneFillsModel", "narrowNow", "[Z", true)
  | 27 => ("PlaneFillsModel", "isDone", "[Z", true)
  | 28 => ("PlaneFillsModel", "free", "[J", true)
  | 29 => ("PlaneFillsModel", "piece", "[J", true)
  | 30 => ("PlaneFillsModel", "othe\x72", "[J", true)
  | _ => ("PlaneFillsModel", "rest", "[J", true)
def q_t6 : Nat → FieldType := fun k => match k with
  | 0 => .int
  | 1 => .int
  | 2 => .int
  | 3 => .array (.int)
  | 4 => .array (.int)
  | 5 => .array (.int)
  | 6 => .array (.int)
  | 7 => .array (.int)
  | 8 => .array (.long)
  | 9 => .array (.long)
  | 10 => .array (.int)
  | 11 => .array (.int)
  | 12 => .int
  | 13 => .array (.int)
  | 14 => .array (.int)
  | 15 => .array (.long)
  | 16 => .int
  | 17 => .array (.int)
  | 18 => .array (.int)
  | 19 => .array (.int)
  | 20 => .array (.int)
  | 21 => .array (.long)
  | 22 => .array (.long)
  | 23 => .array (.int)
  | 24 => .array (.boolean)
  | 25 => .array (.int)
  | 26 => .array (.boolean)
  | 27 => .array (.boolean)
  | 28 => .array (.long)
  | 29 => .array (.long)
  | 30 => .array (.long)
  | _ => .array (.long)
def q_C7 : u_T := fun k => match k with
  | 0 => ("java/util/ArrayList", "elementData", "[Ljava/lang/Object;", false)
  | 1 => ("java/util/ArrayList", "size", "I", false)
  | _ => ("java/util/AbstractList", "modCount", "I", false)
def q_t7 : Nat → FieldType := fun k => match k with
  | 0 => .array (.object "java/lang/Object")
  | 1 => .int
  | _ => .int
def q_C8 : u_T := fun k => match k with
  | _ => ("", "", "", false)
def q_t8 : Nat → FieldType := fun k => match k with
  | _ => .int
def q_C9 : u_T := fun k => match k with
  | _ => ("", "", "", false)
def q_t9 : Nat → FieldType := fun k => match k with
  | _ => .int
def q_cl : List vw_C := [("PlaneFills", q_C0, 9), ("PlaneFills$Coppe\x72", q_C1, 4), ("PlaneFills$Disc", q_C2, 5), ("PlaneFills$Groups", q_C3, 5), ("PlaneFills$Pad", q_C4, 6), ("PlaneFills$Plane", q_C5, 12), ("PlaneFillsModel", q_C6, 32), ("java/util/ArrayList", q_C7, 3), ("java/lang/IndexOutOfBoundsException", q_C8, 0), ("java/lang/IllegalArgumentException", q_C9, 0)]
def q_tf : Nat → Nat → FieldType := fun c => match c with
  | 0 => q_t0
  | 1 => q_t1
  | 2 => q_t2
  | 3 => q_t3
  | 4 => q_t4
  | 5 => q_t5
  | 6 => q_t6
  | 7 => q_t7
  | 8 => q_t8
  | 9 => q_t9
  | _ => fun _ => .int
def q_nta : Nat := 4
def q_ta : Nat → FieldType := fun t => match t with
  | 0 => .int
  | 1 => .long
  | 2 => .object "java/lang/Object"
  | _ => .boolean
/-- what is only read: the script; four static arrays of ints; ArrayList's empty array -/
def q_nro : Nat := 6
def q_rty : Nat → FieldType := fun a => match a with
  | 10000005 => .object "java/lang/Object"
  | _ => .int
def q_stat : List (String × String × String × Nat) := [("PlaneFills", "LEAST_OF_RULE", "[I", 10000001), ("PlaneFills", "GREATEST_OF_RULE", "[I", 10000002), ("PlaneFills", "SPOKE_X", "[I", 10000003), ("PlaneFills", "SPOKE_Y", "[I", 10000004), ("java/util/ArrayList", "DEFAULTCAPACITY_EMPTY_ELEMENTDATA", "[Ljava/lang/Object;", 10000005)]
/-- the texts: their class, place, name -/
def q_str : List (String × Nat × String × Nat) := [("PlaneFills", 66, "no such rank", 10000100), ("PlaneFills", 111, "no such radius", 10000101), ("PlaneFills", 120, "no such rule", 10000102), ("PlaneFills", 129, "not a value of this rule", 10000103), ("PlaneFills", 139, "not on the board", 10000104), ("PlaneFills", 169, "no such piece", 10000105), ("PlaneFills", 181, "neither x nor y", 10000106), ("PlaneFills", 187, "no such ring", 10000107), ("PlaneFills", 193, "no such cell", 10000108), ("PlaneFills", 205, "no such pad", 10000109), ("PlaneFills", 207, "no such spoke, or nothing to tell of it", 10000110), ("PlaneFills", 221, "no such step", 10000111), ("PlaneFills", 234, "no such hatching", 10000112), ("PlaneFills", 258, "no such laye\x72", 10000113), ("PlaneFills", 260, "no such net", 10000114), ("PlaneFills", 262, "no such corne\x72", 10000115), ("PlaneFills", 264, "no such plane", 10000116)]
def q_nf : List (String × Nat × String × String × String × String) := [("PlaneFills", 171, "PlaneFills$Groups", "group", "[I", "PlaneFills"), ("PlaneFills", 195, "PlaneFills$Coppe\x72", "rows", "[I", "PlaneFills"), ("PlaneFills", 160, "PlaneFills$Coppe\x72", "pieceCount", "I", "PlaneFills"), ("PlaneFills", 202, "PlaneFills$Coppe\x72", "islandCount", "I", "PlaneFills"), ("PlaneFills", 254, "PlaneFills$Coppe\x72", "lostNecks", "Z", "PlaneFills"), ("PlaneFills", 312, "PlaneFills$Plane", "net", "I", "PlaneFills"), ("PlaneFills", 308, "PlaneFills$Plane", "laye\x72", "I", "PlaneFills"), ("PlaneFills", 266, "PlaneFills$Plane", "rank", "I", "PlaneFills"), ("PlaneFills", 274, "PlaneFills$Plane", "outline", "[I", "PlaneFills"), ("PlaneFills", 236, "PlaneFills$Plane", "hatchStep", "I", "PlaneFills"), ("PlaneFills", 239, "PlaneFills$Plane", "hatchWidth", "I", "PlaneFills"), ("PlaneFills", 156, "PlaneFills$Plane", "latest", "LPlaneFills$Copper;", "PlaneFills"), ("PlaneFills", 251, "PlaneFills$Plane", "trial", "LPlaneFills$Copper;", "PlaneFills"), ("PlaneFills", 309, "PlaneFills$Disc", "net", "I", "PlaneFills"), ("PlaneFills", 305, "PlaneFills$Disc", "laye\x72", "I", "PlaneFills"), ("PlaneFills", 317, "PlaneFills$Pad", "net", "I", "PlaneFills"), ("PlaneFills", 316, "PlaneFills$Pad", "laye\x72", "I", "PlaneFills")]
def q_nm : List (String × Nat × MethodName × String) := [("PlaneFills", 31, ⟨"PlaneFills$Groups", "<init>", "(Z)V"⟩, "PlaneFills"), ("PlaneFills", 313, ⟨"PlaneFills$Disc", "nea\x72", "(II)I"⟩, "PlaneFills"), ("PlaneFills$Disc", 27, ⟨"PlaneFills", "span", "(JJ)I"⟩, "PlaneFills"), ("PlaneFills", 318, ⟨"PlaneFills$Pad", "moat", "(II)I"⟩, "PlaneFills"), ("PlaneFills$Pad", 28, ⟨"PlaneFills", "span", "(JJ)I"⟩, "PlaneFills"), ("PlaneFills", 321, ⟨"PlaneFills$Pad", "nea\x72", "(II)I"⟩, "PlaneFills"), ("PlaneFills", 332, ⟨"PlaneFills$Groups", "start", "([I)V"⟩, "PlaneFills"), ("PlaneFills", 335, ⟨"PlaneFills$Groups", "next", "()Z"⟩, "PlaneFills"), ("PlaneFills", 338, ⟨"PlaneFills$Groups", "size", "()I"⟩, "PlaneFills"), ("PlaneFills", 346, ⟨"PlaneFills$Groups", "meets", "(LPlaneFills$Pad;)Z"⟩, "PlaneFills"), ("PlaneFills$Groups", 63, ⟨"PlaneFills$Pad", "nea\x72", "(II)I"⟩, "PlaneFills"), ("PlaneFills", 343, ⟨"PlaneFills$Groups", "takeOff", "([I)V"⟩, "PlaneFills"), ("PlaneFills", 153, ⟨"PlaneFills$Plane", "takeTrial", "()V"⟩, "PlaneFills"), ("PlaneFills", 79, ⟨"PlaneFills$Plane", "<init>", "(III)V"⟩, "PlaneFills"), ("PlaneFills$Plane", 23, ⟨"PlaneFills$Coppe\x72", "<init>", "()V"⟩, "PlaneFills"), ("PlaneFills", 101, ⟨"PlaneFills$Plane", "addCorne\x72", "(II)Z"⟩, "PlaneFills"), ("PlaneFills", 105, ⟨"PlaneFills$Plane", "closeRing", "()Z"⟩, "PlaneFills"), ("PlaneFills$Plane", 57, ⟨"PlaneFills", "span", "(JJ)I"⟩, "PlaneFills"), ("PlaneFills", 115, ⟨"PlaneFills$Disc", "<init>", "(IIIII)V"⟩, "PlaneFills"), ("PlaneFills", 143, ⟨"PlaneFills$Pad", "<init>", "(IIIIII)V"⟩, "PlaneFills"), ("PlaneFills", 174, ⟨"PlaneFills$Groups", "startAround", "([I)V"⟩, "PlaneFills"), ("PlaneFills", 353, ⟨"PlaneFills$Groups", "comesToBorde\x72", "()Z"⟩, "PlaneFills"), ("PlaneFills", 213, ⟨"PlaneFills$Pad", "besideX", "(I)I"⟩, "PlaneFills"), ("PlaneFills", 216, ⟨"PlaneFills$Pad", "besideY", "(I)I"⟩, "PlaneFills")]
def q_if : List (String × MethodName × MethodName) := [("java/util/ArrayList", ⟨"java/util/List", "size", "()I"⟩, ⟨"java/util/ArrayList", "size", "()I"⟩), ("java/util/ArrayList", ⟨"java/util/List", "get", "(I)Ljava/lang/Object;"⟩, ⟨"java/util/ArrayList", "get", "(I)Ljava/lang/Object;"⟩), ("java/util/ArrayList", ⟨"java/util/List", "add", "(ILjava/lang/Object;)V"⟩, ⟨"java/util/ArrayList", "add", "(ILjava/lang/Object;)V"⟩), ("java/util/ArrayList", ⟨"java/util/List", "add", "(Ljava/lang/Object;)Z"⟩, ⟨"java/util/ArrayList", "add", "(Ljava/lang/Object;)Z"⟩)]
/-- checkcasts that hold -/
def q_cast : List (String × String) := [("java/util/ArrayList", "java/util/List"), ("java/lang/IndexOutOfBoundsException", "java/lang/IndexOutOfBoundsException"), ("java/lang/IllegalArgumentException", "java/lang/IllegalArgumentException"), ("PlaneFills$Plane", "PlaneFills$Plane"), ("PlaneFills$Disc", "PlaneFills$Disc"), ("PlaneFills$Pad", "PlaneFills$Pad"), ("PlaneFills", "java/lang/Object"), ("PlaneFills$Groups", "java/lang/Object"), ("PlaneFillsModel", "java/lang/Object"), ("PlaneFills$Plane", "java/lang/Object"), ("PlaneFills$Coppe\x72", "java/lang/Object"), ("PlaneFills$Disc", "java/lang/Object"), ("PlaneFills$Pad", "java/lang/Object")]
set_option maxRecDepth 20000 in
theorem q_cl_ok : ∀ ci r, q_cl[ci]? = some r → ci < 999 ∧ (∀ w ∈ u_ws r.1 r.2.1 r.2.2, w ∈ q_ws) ∧ (∀ k, k < r.2.2 → parseFieldDescriptor (r.2.1 k).2.2.1 = some (q_tf ci k)) ∧ (∀ a, a < r.2.2 → ∀ b, b < r.2.2 → a ≠ b → (r.2.1 a).2.1 ≠ (r.2.1 b).2.1) := by
  intro ci r h
  match ci, h with
  | 0, h => cases h; exact ⟨by decide, by decide +kernel, by decide +kernel, by decide +kernel⟩
  | 1, h => cases h; exact ⟨by decide, by decide +kernel, by decide +kernel, by decide +kernel⟩
  | 2, h => cases h; exact ⟨by decide, by decide +kernel, by decide +kernel, by decide +kernel⟩
  | 3, h => cases h; exact ⟨by decide, by decide +kernel, by decide +kernel, by decide +kernel⟩
  | 4, h => cases h; exact ⟨by decide, by decide +kernel, by decide +kernel, by decide +kernel⟩
  | 5, h => cases h; exact ⟨by decide, by decide +kernel, by decide +kernel, by decide +kernel⟩
  | 6, h => cases h; exact ⟨by decide, by decide +kernel, by decide +kernel, by decide +kernel⟩
  | 7, h => cases h; exact ⟨by decide, by decide +kernel, by decide +kernel, by decide +kernel⟩
  | 8, h => cases h; exact ⟨by decide, by decide +kernel, by decide +kernel, by decide +kernel⟩
  | 9, h => cases h; exact ⟨by decide, by decide +kernel, by decide +kernel, by decide +kernel⟩
  | n + 10, h => cases h
theorem q_tf_ok : ∀ ci r, q_cl[ci]? = some r → ∀ k, k < r.2.2 → (match q_tf ci k with | .int => true | .long => true | .object _ => true | .array _ => true | .boolean => true | _ => false) = true := by
  intro ci r h
  match ci, h with
  | 0, h => cases h; decide +kernel
  | 1, h => cases h; decide +kernel
  | 2, h => cases h; decide +kernel
  | 3, h => cases h; decide +kernel
  | 4, h => cases h; decide +kernel
  | 5, h => cases h; decide +kernel
  | 6, h => cases h; decide +kernel
  | 7, h => cases h; decide +kernel
  | 8, h => cases h; decide +kernel
  | 9, h => cases h; decide +kernel
  | n + 10, h => cases h
def q_dec : List MethodName := [⟨"java/util/List", "size", "()I"⟩, ⟨"java/util/List", "get", "(I)Ljava/lang/Object;"⟩, ⟨"java/lang/RuntimeException", "<init>", "()V"⟩, ⟨"java/lang/RuntimeException", "<init>", "(Ljava/lang/String;)V"⟩, ⟨"java/lang/Exception", "<init>", "()V"⟩, ⟨"java/lang/Exception", "<init>", "(Ljava/lang/String;)V"⟩, ⟨"java/lang/Throwable", "<init>", "()V"⟩, ⟨"java/lang/Throwable", "<init>", "(Ljava/lang/String;)V"⟩, ⟨"java/util/List", "add", "(ILjava/lang/Object;)V"⟩, ⟨"java/util/List", "add", "(Ljava/lang/Object;)Z"⟩, ⟨"java/lang/Object", "getClass", "()Ljava/lang/Class;"⟩]
def q_statq : List (String × String × String) := [("java/lang/Throwable", "UNASSIGNED_STACK", "[Ljava/lang/StackTraceElement;"), ("java/lang/Throwable", "SUPPRESSED_SENTINEL", "Ljava/util/List;"), ("jdk/internal/util/Preconditions", "SIOOBE_FORMATTER", "Ljava/util/function/BiFunction;")]
def q_lst : List (String × String × String) := [("java/lang/Throwable", "UNASSIGNED_STACK", "[Ljava/lang/StackTraceElement;"), ("java/lang/Throwable", "SUPPRESSED_SENTINEL", "Ljava/util/List;")]
/-- casts that do not hold -/
def q_nca : List (String × String) := [("java/lang/IllegalArgumentException", "java/lang/IndexOutOfBoundsException")]
