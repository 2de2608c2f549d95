/-! names, words, fields, the rows that decode each instruction: by program out of the claim's own files (wip/whole/mk02.py) -/
def kG : List Cond := lw_tbl.filter goodWord
theorem k_inT {w : Cond} {i : Nat} (h : tables_1[i]? = some w) (g : goodWord w = true) : w ∈ kG := List.mem_filter.mpr ⟨List.mem_append_right _ (List.mem_of_getElem? h), g⟩
theorem k_in1 {w : Cond} {i : Nat} (h : tables_1_1[i]? = some w) (g : goodWord w = true) : w ∈ kG := List.mem_filter.mpr ⟨List.mem_append_right _ (show w ∈ tables_1_1 ++ (tables_1_2 ++ (tables_1_3 ++ (tables_1_4 ++ tables_1_5))) from (List.mem_append_left _ (List.mem_of_getElem? h))), g⟩
theorem k_in2 {w : Cond} {i : Nat} (h : tables_1_2[i]? = some w) (g : goodWord w = true) : w ∈ kG := List.mem_filter.mpr ⟨List.mem_append_right _ (show w ∈ tables_1_1 ++ (tables_1_2 ++ (tables_1_3 ++ (tables_1_4 ++ tables_1_5))) from (List.mem_append_right _ (List.mem_append_left _ (List.mem_of_getElem? h)))), g⟩
theorem k_in3 {w : Cond} {i : Nat} (h : tables_1_3[i]? = some w) (g : goodWord w = true) : w ∈ kG := List.mem_filter.mpr ⟨List.mem_append_right _ (show w ∈ tables_1_1 ++ (tables_1_2 ++ (tables_1_3 ++ (tables_1_4 ++ tables_1_5))) from (List.mem_append_right _ (List.mem_append_right _ (List.mem_append_left _ (List.mem_of_getElem? h))))), g⟩
theorem k_in4 {w : Cond} {i : Nat} (h : tables_1_4[i]? = some w) (g : goodWord w = true) : w ∈ kG := List.mem_filter.mpr ⟨List.mem_append_right _ (show w ∈ tables_1_1 ++ (tables_1_2 ++ (tables_1_3 ++ (tables_1_4 ++ tables_1_5))) from (List.mem_append_right _ (List.mem_append_right _ (List.mem_append_right _ (List.mem_append_left _ (List.mem_of_getElem? h)))))), g⟩
theorem k_in5 {w : Cond} {i : Nat} (h : tables_1_5[i]? = some w) (g : goodWord w = true) : w ∈ kG := List.mem_filter.mpr ⟨List.mem_append_right _ (show w ∈ tables_1_1 ++ (tables_1_2 ++ (tables_1_3 ++ (tables_1_4 ++ tables_1_5))) from (List.mem_append_right _ (List.mem_append_right _ (List.mem_append_right _ (List.mem_append_right _ (List.mem_of_getElem? h)))))), g⟩
theorem k_inS {w : Cond} {i : Nat} (h : (k2_sels lw_privs)[i]? = some w) (g : goodWord w = true) : w ∈ kG := List.mem_filter.mpr ⟨List.mem_append_left _ (List.mem_of_getElem? h), g⟩
theorem k_inL {ws : List Cond} (ps : List Nat) (hp : ws = ps.filterMap (fun i => tables_1[i]?)) (hg : ws.all goodWord = true) : ∀ w ∈ ws, w ∈ kG := by
  intro w hw
  have h1 := List.all_eq_true.mp hg w hw
  rw [hp] at hw
  obtain ⟨i, -, hi⟩ := List.mem_filterMap.mp hw
  exact k_inT hi h1
theorem k_kG : ∀ w ∈ kG, goodWord w = true := fun w h => (List.mem_filter.mp h).2
def R_F : String := "SequenceMatch$Forest"
def R_Mt : String := "SequenceMatch$Matches"
def R_Nm : String := "SequenceMatch$Names"
def R_Pc : String := "SequenceMatch$Places"
def R_Pl : String := "SequenceMatch$Plan"
def R_Se : String := "SequenceMatch$Search"
def R_SM : String := "SequenceMatch"
def R_Md : String := "SequenceMatchModel"
def R_La : String := "SequenceMatchLaw"
def R_In : String := "java/lang/Integer"
def R_Ar : String := "java/util/Arrays"
def T_SM : u_T := fun k => match k with
  | 0 => ("SequenceMatch", "forest", "LSequenceMatch$Forest;", true)
  | 1 => ("SequenceMatch", "search", "LSequenceMatch$Search;", true)
  | 2 => ("SequenceMatch", "rulePatterns", "[I", true)
  | 3 => ("SequenceMatch", "ruleCount", "I", false)
  | 4 => ("SequenceMatch", "toldRules", "[I", true)
  | _ => ("SequenceMatch", "toldCount", "I", false)
def t_SM : Nat → FieldType := fun k => match k with
  | 0 => .object "SequenceMatch$Forest"
  | 1 => .object "SequenceMatch$Search"
  | 2 => .array .int
  | 3 => .int
  | 4 => .array .int
  | _ => .int
set_option maxRecDepth 20000 in
theorem n_SM : ∀ a, a < 6 → ∀ b, b < 6 → a ≠ b → (T_SM a).2.1 ≠ (T_SM b).2.1 := by decide +kernel
set_option maxRecDepth 20000 in
theorem t_SM_ok : ∀ k, k < 6 → parseFieldDescriptor (T_SM k).2.2.1 = some (t_SM k) := by decide +kernel
set_option maxRecDepth 20000 in
theorem in_SM : ∀ w ∈ u_ws R_SM T_SM 6, w ∈ kG := k_inL [180, 182, 184, 186, 188, 190] (by decide +kernel) (by decide +kernel)
def T_Md : u_T := fun k => match k with
  | 0 => ("SequenceMatchModel", "thrownCode", "I", false)
  | 1 => ("SequenceMatchModel", "trees", "I", false)
  | 2 => ("SequenceMatchModel", "sort", "[I", true)
  | 3 => ("SequenceMatchModel", "name", "[I", true)
  | 4 => ("SequenceMatchModel", "kind", "[I", true)
  | 5 => ("SequenceMatchModel", "count", "[I", true)
  | 6 => ("SequenceMatchModel", "parts", "[I", true)
  | 7 => ("SequenceMatchModel", "plain", "[Z", true)
  | 8 => ("SequenceMatchModel", "fixed", "[Z", true)
  | 9 => ("SequenceMatchModel", "depth", "[I", true)
  | 10 => ("SequenceMatchModel", "size", "[I", true)
  | 11 => ("SequenceMatchModel", "tests", "[I", true)
  | 12 => ("SequenceMatchModel", "testKind", "[I", true)
  | 13 => ("SequenceMatchModel", "testValue", "[I", true)
  | 14 => ("SequenceMatchModel", "rules", "I", false)
  | 15 => ("SequenceMatchModel", "rule", "[I", true)
  | 16 => ("SequenceMatchModel", "netCount", "I", false)
  | 17 => ("SequenceMatchModel", "net", "[I", true)
  | 18 => ("SequenceMatchModel", "kept", "I", false)
  | 19 => ("SequenceMatchModel", "keptMany", "[I", true)
  | 20 => ("SequenceMatchModel", "keptTree", "[I", true)
  | 21 => ("SequenceMatchModel", "many", "[I", true)
  | 22 => ("SequenceMatchModel", "row", "[I", true)
  | 23 => ("SequenceMatchModel", "bound", "I", false)
  | 24 => ("SequenceMatchModel", "boundName", "[I", true)
  | 25 => ("SequenceMatchModel", "tried", "I", false)
  | 26 => ("SequenceMatchModel", "most", "I", false)
  | 27 => ("SequenceMatchModel", "found", "I", false)
  | 28 => ("SequenceMatchModel", "spent", "Z", false)
  | 29 => ("SequenceMatchModel", "goals", "I", false)
  | 30 => ("SequenceMatchModel", "goalNode", "[I", true)
  | 31 => ("SequenceMatchModel", "goalTree", "[I", true)
  | 32 => ("SequenceMatchModel", "goalPart", "[I", true)
  | 33 => ("SequenceMatchModel", "goalUsed", "[I", true)
  | 34 => ("SequenceMatchModel", "goalNext", "[I", true)
  | 35 => ("SequenceMatchModel", "choices", "I", false)
  | 36 => ("SequenceMatchModel", "choiceGoal", "[I", true)
  | 37 => ("SequenceMatchModel", "choiceTaken", "[I", true)
  | 38 => ("SequenceMatchModel", "choiceBound", "[I", true)
  | 39 => ("SequenceMatchModel", "choiceGoals", "[I", true)
  | 40 => ("SequenceMatchModel", "left", "[I", true)
  | 41 => ("SequenceMatchModel", "right", "[I", true)
  | 42 => ("SequenceMatchModel", "place", "[I", true)
  | _ => ("SequenceMatchModel", "now", "[I", true)
def t_Md : Nat → FieldType := fun k => match k with
  | 0 => .int
  | 1 => .int
  | 2 => .array .int
  | 3 => .array .int
  | 4 => .array .int
  | 5 => .array .int
  | 6 => .array .int
  | 7 => .array .boolean
  | 8 => .array .boolean
  | 9 => .array .int
  | 10 => .array .int
  | 11 => .array .int
  | 12 => .array .int
  | 13 => .array .int
  | 14 => .int
  | 15 => .array .int
  | 16 => .int
  | 17 => .array .int
  | 18 => .int
  | 19 => .array .int
  | 20 => .array .int
  | 21 => .array .int
  | 22 => .array .int
  | 23 => .int
  | 24 => .array .int
  | 25 => .int
  | 26 => .int
  | 27 => .int
  | 28 => .boolean
  | 29 => .int
  | 30 => .array .int
  | 31 => .array .int
  | 32 => .array .int
  | 33 => .array .int
  | 34 => .array .int
  | 35 => .int
  | 36 => .array .int
  | 37 => .array .int
  | 38 => .array .int
  | 39 => .array .int
  | 40 => .array .int
  | 41 => .array .int
  | 42 => .array .int
  | _ => .array .int
set_option maxRecDepth 20000 in
theorem n_Md : ∀ a, a < 44 → ∀ b, b < 44 → a ≠ b → (T_Md a).2.1 ≠ (T_Md b).2.1 := by decide +kernel
set_option maxRecDepth 20000 in
theorem t_Md_ok : ∀ k, k < 44 → parseFieldDescriptor (T_Md k).2.2.1 = some (t_Md k) := by decide +kernel
set_option maxRecDepth 20000 in
theorem in_Md : ∀ w ∈ u_ws R_Md T_Md 44, w ∈ kG := k_inL [757, 759, 761, 763, 765, 767, 769, 771, 773, 775, 777, 779, 781, 783, 785, 787, 789, 791, 793, 795, 797, 799, 801, 803, 805, 807, 809, 811, 813, 815, 817, 819, 821, 823, 825, 827, 829, 831, 833, 835, 837, 839, 841, 843] (by decide +kernel) (by decide +kernel)
def T_F : u_T := fun k => match k with
  | 0 => ("SequenceMatch$Forest", "treeCount", "I", false)
  | 1 => ("SequenceMatch$Forest", "sorts", "[I", true)
  | 2 => ("SequenceMatch$Forest", "names", "[I", true)
  | 3 => ("SequenceMatch$Forest", "kinds", "[I", true)
  | 4 => ("SequenceMatch$Forest", "plain", "[Z", true)
  | 5 => ("SequenceMatch$Forest", "closed", "[Z", true)
  | 6 => ("SequenceMatch$Forest", "depths", "[I", true)
  | 7 => ("SequenceMatch$Forest", "sizes", "[I", true)
  | 8 => ("SequenceMatch$Forest", "partCounts", "[I", true)
  | 9 => ("SequenceMatch$Forest", "partRows", "[I", true)
  | 10 => ("SequenceMatch$Forest", "testCounts", "[I", true)
  | 11 => ("SequenceMatch$Forest", "testKinds", "[I", true)
  | _ => ("SequenceMatch$Forest", "testValues", "[I", true)
def t_F : Nat → FieldType := fun k => match k with
  | 0 => .int
  | 1 => .array .int
  | 2 => .array .int
  | 3 => .array .int
  | 4 => .array .boolean
  | 5 => .array .boolean
  | 6 => .array .int
  | 7 => .array .int
  | 8 => .array .int
  | 9 => .array .int
  | 10 => .array .int
  | 11 => .array .int
  | _ => .array .int
set_option maxRecDepth 20000 in
theorem n_F : ∀ a, a < 13 → ∀ b, b < 13 → a ≠ b → (T_F a).2.1 ≠ (T_F b).2.1 := by decide +kernel
set_option maxRecDepth 20000 in
theorem t_F_ok : ∀ k, k < 13 → parseFieldDescriptor (T_F k).2.2.1 = some (t_F k) := by decide +kernel
set_option maxRecDepth 20000 in
theorem in_F : ∀ w ∈ u_ws R_F T_F 13, w ∈ kG := k_inL [46, 48, 50, 52, 54, 56, 58, 60, 62, 64, 66, 68, 70] (by decide +kernel) (by decide +kernel)
def T_Mt : u_T := fun k => match k with
  | 0 => ("SequenceMatch$Matches", "keptCount", "I", false)
  | 1 => ("SequenceMatch$Matches", "lengths", "[I", true)
  | _ => ("SequenceMatch$Matches", "trees", "[I", true)
def t_Mt : Nat → FieldType := fun k => match k with
  | 0 => .int
  | 1 => .array .int
  | _ => .array .int
set_option maxRecDepth 20000 in
theorem n_Mt : ∀ a, a < 3 → ∀ b, b < 3 → a ≠ b → (T_Mt a).2.1 ≠ (T_Mt b).2.1 := by decide +kernel
set_option maxRecDepth 20000 in
theorem t_Mt_ok : ∀ k, k < 3 → parseFieldDescriptor (T_Mt k).2.2.1 = some (t_Mt k) := by decide +kernel
set_option maxRecDepth 20000 in
theorem in_Mt : ∀ w ∈ u_ws R_Mt T_Mt 3, w ∈ kG := k_inL [127, 129, 131] (by decide +kernel) (by decide +kernel)
def T_Nm : u_T := fun k => match k with
  | 0 => ("SequenceMatch$Names", "lengths", "[I", true)
  | 1 => ("SequenceMatch$Names", "trees", "[I", true)
  | _ => ("SequenceMatch$Names", "givers", "[I", true)
def t_Nm : Nat → FieldType := fun k => match k with
  | 0 => .array .int
  | 1 => .array .int
  | _ => .array .int
set_option maxRecDepth 20000 in
theorem n_Nm : ∀ a, a < 3 → ∀ b, b < 3 → a ≠ b → (T_Nm a).2.1 ≠ (T_Nm b).2.1 := by decide +kernel
set_option maxRecDepth 20000 in
theorem t_Nm_ok : ∀ k, k < 3 → parseFieldDescriptor (T_Nm k).2.2.1 = some (t_Nm k) := by decide +kernel
set_option maxRecDepth 20000 in
theorem in_Nm : ∀ w ∈ u_ws R_Nm T_Nm 3, w ∈ kG := k_inL [111, 113, 115] (by decide +kernel) (by decide +kernel)
def T_Pl : u_T := fun k => match k with
  | 0 => ("SequenceMatch$Plan", "slotCount", "I", false)
  | 1 => ("SequenceMatch$Plan", "trees", "[I", true)
  | 2 => ("SequenceMatch$Plan", "parents", "[I", true)
  | _ => ("SequenceMatch$Plan", "lasts", "[Z", true)
def t_Pl : Nat → FieldType := fun k => match k with
  | 0 => .int
  | 1 => .array .int
  | 2 => .array .int
  | _ => .array .boolean
set_option maxRecDepth 20000 in
theorem n_Pl : ∀ a, a < 4 → ∀ b, b < 4 → a ≠ b → (T_Pl a).2.1 ≠ (T_Pl b).2.1 := by decide +kernel
set_option maxRecDepth 20000 in
theorem t_Pl_ok : ∀ k, k < 4 → parseFieldDescriptor (T_Pl k).2.2.1 = some (t_Pl k) := by decide +kernel
set_option maxRecDepth 20000 in
theorem in_Pl : ∀ w ∈ u_ws R_Pl T_Pl 4, w ∈ kG := k_inL [91, 93, 95, 97] (by decide +kernel) (by decide +kernel)
def T_Se : u_T := fun k => match k with
  | 0 => ("SequenceMatch$Search", "forest", "LSequenceMatch$Forest;", true)
  | 1 => ("SequenceMatch$Search", "plan", "LSequenceMatch$Plan;", true)
  | 2 => ("SequenceMatch$Search", "names", "LSequenceMatch$Names;", true)
  | 3 => ("SequenceMatch$Search", "matches", "LSequenceMatch$Matches;", true)
  | 4 => ("SequenceMatch$Search", "taken", "[I", true)
  | 5 => ("SequenceMatch$Search", "beside", "[I", true)
  | 6 => ("SequenceMatch$Search", "left", "[I", true)
  | 7 => ("SequenceMatch$Search", "row", "[I", true)
  | 8 => ("SequenceMatch$Search", "rowLength", "I", false)
  | 9 => ("SequenceMatch$Search", "wholeTree", "I", false)
  | 10 => ("SequenceMatch$Search", "tries", "I", false)
  | 11 => ("SequenceMatch$Search", "found", "I", false)
  | _ => ("SequenceMatch$Search", "spent", "Z", false)
def t_Se : Nat → FieldType := fun k => match k with
  | 0 => .object "SequenceMatch$Forest"
  | 1 => .object "SequenceMatch$Plan"
  | 2 => .object "SequenceMatch$Names"
  | 3 => .object "SequenceMatch$Matches"
  | 4 => .array .int
  | 5 => .array .int
  | 6 => .array .int
  | 7 => .array .int
  | 8 => .int
  | 9 => .int
  | 10 => .int
  | 11 => .int
  | _ => .boolean
set_option maxRecDepth 20000 in
theorem n_Se : ∀ a, a < 13 → ∀ b, b < 13 → a ≠ b → (T_Se a).2.1 ≠ (T_Se b).2.1 := by decide +kernel
set_option maxRecDepth 20000 in
theorem t_Se_ok : ∀ k, k < 13 → parseFieldDescriptor (T_Se k).2.2.1 = some (t_Se k) := by decide +kernel
set_option maxRecDepth 20000 in
theorem in_Se : ∀ w ∈ u_ws R_Se T_Se 13, w ∈ kG := k_inL [147, 149, 151, 153, 155, 157, 159, 161, 163, 165, 167, 169, 171] (by decide +kernel) (by decide +kernel)
abbrev kcl : List vw_C := [(R_SM, T_SM, 6), (R_Md, T_Md, 44), (R_F, T_F, 13), (R_Mt, T_Mt, 3), (R_Nm, T_Nm, 3), (R_Pl, T_Pl, 4), (R_Se, T_Se, 13)]
abbrev c_SM_init : ByteArray := prog_1_method_1_code
def y_SM_init : MethodName := ⟨R_SM, "<init>", "()V"⟩
abbrev c_SM_leaf : ByteArray := prog_1_method_2_code
def y_SM_leaf : MethodName := ⟨R_SM, "leaf", "(I)I"⟩
abbrev c_SM_node : ByteArray := prog_1_method_3_code
def y_SM_node : MethodName := ⟨R_SM, "node", "(I)I"⟩
abbrev c_SM_more : ByteArray := prog_1_method_4_code
def y_SM_more : MethodName := ⟨R_SM, "more", "(II)Z"⟩
abbrev c_SM_hole : ByteArray := prog_1_method_5_code
def y_SM_hole : MethodName := ⟨R_SM, "hole", "(II)I"⟩
abbrev c_SM_test : ByteArray := prog_1_method_6_code
def y_SM_test : MethodName := ⟨R_SM, "test", "(III)Z"⟩
abbrev c_SM_match : ByteArray := prog_1_method_7_code
def y_SM_match : MethodName := ⟨R_SM, "match", "(III)I"⟩
abbrev c_SM_tried : ByteArray := prog_1_method_8_code
def y_SM_tried : MethodName := ⟨R_SM, "tried", "()I"⟩
abbrev c_SM_bound : ByteArray := prog_1_method_9_code
def y_SM_bound : MethodName := ⟨R_SM, "bound", "(III)I"⟩
abbrev c_SM_many : ByteArray := prog_1_method_10_code
def y_SM_many : MethodName := ⟨R_SM, "many", "(II)I"⟩
abbrev c_SM_rule : ByteArray := prog_1_method_11_code
def y_SM_rule : MethodName := ⟨R_SM, "rule", "(I)I"⟩
abbrev c_SM_net : ByteArray := prog_1_method_12_code
def y_SM_net : MethodName := ⟨R_SM, "net", "(I)I"⟩
abbrev c_SM_rules : ByteArray := prog_1_method_13_code
def y_SM_rules : MethodName := ⟨R_SM, "rules", "(I)I"⟩
abbrev c_SM_first : ByteArray := prog_1_method_14_code
def y_SM_first : MethodName := ⟨R_SM, "first", "(I)I"⟩
abbrev c_SM_order : ByteArray := prog_1_method_15_code
def y_SM_order : MethodName := ⟨R_SM, "order", "(II)I"⟩
abbrev c_SM_parts : ByteArray := prog_1_method_16_code
def y_SM_parts : MethodName := ⟨R_SM, "parts", "(I)I"⟩
abbrev c_SM_part : ByteArray := prog_1_method_17_code
def y_SM_part : MethodName := ⟨R_SM, "part", "(II)I"⟩
abbrev c_SM_count : ByteArray := prog_1_method_18_code
def y_SM_count : MethodName := ⟨R_SM, "count", "(I)I"⟩
abbrev c_SM_newTree : ByteArray := prog_1_method_19_code
def y_SM_newTree : MethodName := ⟨R_SM, "newTree", "(III)I"⟩
abbrev c_SM_requireTree : ByteArray := prog_1_method_20_code
def y_SM_requireTree : MethodName := ⟨R_SM, "requireTree", "(I)V"⟩
abbrev c_SM_requirePlain : ByteArray := prog_1_method_21_code
def y_SM_requirePlain : MethodName := ⟨R_SM, "requirePlain", "(I)V"⟩
abbrev c_SM_requireMatch : ByteArray := prog_1_method_22_code
def y_SM_requireMatch : MethodName := ⟨R_SM, "requireMatch", "(I)V"⟩
abbrev c_SM_requireBelow : ByteArray := prog_1_method_23_code
def y_SM_requireBelow : MethodName := ⟨R_SM, "requireBelow", "(II)V"⟩
abbrev c_Md_init : ByteArray := prog_9_method_1_code
def y_Md_init : MethodName := ⟨R_Md, "<init>", "()V"⟩
abbrev c_Md_compare : ByteArray := prog_9_method_2_code
def y_Md_compare : MethodName := ⟨R_Md, "compare", "(II)I"⟩
abbrev c_Md_anyOrder : ByteArray := prog_9_method_3_code
def y_Md_anyOrder : MethodName := ⟨R_Md, "anyOrder", "(I)Z"⟩
abbrev c_Md_severals : ByteArray := prog_9_method_4_code
def y_Md_severals : MethodName := ⟨R_Md, "severals", "(I)Z"⟩
abbrev c_Md_bits : ByteArray := prog_9_method_5_code
def y_Md_bits : MethodName := ⟨R_Md, "bits", "(I)I"⟩
abbrev c_Md_testHolds : ByteArray := prog_9_method_6_code
def y_Md_testHolds : MethodName := ⟨R_Md, "testHolds", "(III)Z"⟩
abbrev c_Md_binds : ByteArray := prog_9_method_7_code
def y_Md_binds : MethodName := ⟨R_Md, "binds", "(II)Z"⟩
abbrev c_Md_goal : ByteArray := prog_9_method_8_code
def y_Md_goal : MethodName := ⟨R_Md, "goal", "(IIIII)I"⟩
abbrev c_Md_puts : ByteArray := prog_9_method_9_code
def y_Md_puts : MethodName := ⟨R_Md, "puts", "(III)I"⟩
abbrev c_Md_bit : ByteArray := prog_9_method_10_code
def y_Md_bit : MethodName := ⟨R_Md, "bit", "(I)I"⟩
abbrev c_Md_leftOf : ByteArray := prog_9_method_11_code
def y_Md_leftOf : MethodName := ⟨R_Md, "leftOf", "(I)I"⟩
abbrev c_Md_takenNext : ByteArray := prog_9_method_12_code
def y_Md_takenNext : MethodName := ⟨R_Md, "takenNext", "(II)I"⟩
abbrev c_Md_firstOf : ByteArray := prog_9_method_13_code
def y_Md_firstOf : MethodName := ⟨R_Md, "firstOf", "(II)I"⟩
abbrev c_Md_keepMatch : ByteArray := prog_9_method_14_code
def y_Md_keepMatch : MethodName := ⟨R_Md, "keepMatch", "()V"⟩
abbrev c_Md_tries : ByteArray := prog_9_method_15_code
def y_Md_tries : MethodName := ⟨R_Md, "tries", "()Z"⟩
abbrev c_Md_backTo : ByteArray := prog_9_method_16_code
def y_Md_backTo : MethodName := ⟨R_Md, "backTo", "(II)V"⟩
abbrev c_Md_otherwise : ByteArray := prog_9_method_17_code
def y_Md_otherwise : MethodName := ⟨R_Md, "otherwise", "()I"⟩
abbrev c_Md_search : ByteArray := prog_9_method_18_code
def y_Md_search : MethodName := ⟨R_Md, "search", "(III)V"⟩
abbrev c_Md_may : ByteArray := prog_9_method_19_code
def y_Md_may : MethodName := ⟨R_Md, "may", "(II)Z"⟩
abbrev c_Md_thrown : ByteArray := prog_9_method_20_code
def y_Md_thrown : MethodName := ⟨R_Md, "thrown", "()I"⟩
abbrev c_Md_noTree : ByteArray := prog_9_method_21_code
def y_Md_noTree : MethodName := ⟨R_Md, "noTree", "(I)Z"⟩
abbrev c_Md_tree : ByteArray := prog_9_method_22_code
def y_Md_tree : MethodName := ⟨R_Md, "tree", "(IIZ)I"⟩
abbrev c_Md_leaf : ByteArray := prog_9_method_23_code
def y_Md_leaf : MethodName := ⟨R_Md, "leaf", "(I)I"⟩
abbrev c_Md_node : ByteArray := prog_9_method_24_code
def y_Md_node : MethodName := ⟨R_Md, "node", "(I)I"⟩
abbrev c_Md_hole : ByteArray := prog_9_method_25_code
def y_Md_hole : MethodName := ⟨R_Md, "hole", "(II)I"⟩
abbrev c_Md_more : ByteArray := prog_9_method_26_code
def y_Md_more : MethodName := ⟨R_Md, "more", "(II)Z"⟩
abbrev c_Md_test : ByteArray := prog_9_method_27_code
def y_Md_test : MethodName := ⟨R_Md, "test", "(III)Z"⟩
abbrev c_Md_match : ByteArray := prog_9_method_28_code
def y_Md_match : MethodName := ⟨R_Md, "match", "(III)I"⟩
abbrev c_Md_tried : ByteArray := prog_9_method_29_code
def y_Md_tried : MethodName := ⟨R_Md, "tried", "()I"⟩
abbrev c_Md_bound : ByteArray := prog_9_method_30_code
def y_Md_bound : MethodName := ⟨R_Md, "bound", "(III)I"⟩
abbrev c_Md_many : ByteArray := prog_9_method_31_code
def y_Md_many : MethodName := ⟨R_Md, "many", "(II)I"⟩
abbrev c_Md_rule : ByteArray := prog_9_method_32_code
def y_Md_rule : MethodName := ⟨R_Md, "rule", "(I)I"⟩
abbrev c_Md_net : ByteArray := prog_9_method_33_code
def y_Md_net : MethodName := ⟨R_Md, "net", "(I)I"⟩
abbrev c_Md_rules : ByteArray := prog_9_method_34_code
def y_Md_rules : MethodName := ⟨R_Md, "rules", "(I)I"⟩
abbrev c_Md_first : ByteArray := prog_9_method_35_code
def y_Md_first : MethodName := ⟨R_Md, "first", "(I)I"⟩
abbrev c_Md_order : ByteArray := prog_9_method_36_code
def y_Md_order : MethodName := ⟨R_Md, "order", "(II)I"⟩
abbrev c_Md_parts : ByteArray := prog_9_method_37_code
def y_Md_parts : MethodName := ⟨R_Md, "parts", "(I)I"⟩
abbrev c_Md_part : ByteArray := prog_9_method_38_code
def y_Md_part : MethodName := ⟨R_Md, "part", "(II)I"⟩
abbrev c_Md_count : ByteArray := prog_9_method_39_code
def y_Md_count : MethodName := ⟨R_Md, "count", "(I)I"⟩
abbrev c_F_init : ByteArray := prog_2_method_1_code
def y_F_init : MethodName := ⟨R_F, "<init>", "()V"⟩
abbrev c_F_treeCount : ByteArray := prog_2_method_2_code
def y_F_treeCount : MethodName := ⟨R_F, "treeCount", "()I"⟩
abbrev c_F_isFull : ByteArray := prog_2_method_3_code
def y_F_isFull : MethodName := ⟨R_F, "isFull", "()Z"⟩
abbrev c_F_hasTree : ByteArray := prog_2_method_4_code
def y_F_hasTree : MethodName := ⟨R_F, "hasTree", "(I)Z"⟩
abbrev c_F_add : ByteArray := prog_2_method_5_code
def y_F_add : MethodName := ⟨R_F, "add", "(III)I"⟩
abbrev c_F_close : ByteArray := prog_2_method_6_code
def y_F_close : MethodName := ⟨R_F, "close", "(I)V"⟩
abbrev c_F_isPlain : ByteArray := prog_2_method_7_code
def y_F_isPlain : MethodName := ⟨R_F, "isPlain", "(I)Z"⟩
abbrev c_F_isLeaf : ByteArray := prog_2_method_8_code
def y_F_isLeaf : MethodName := ⟨R_F, "isLeaf", "(I)Z"⟩
abbrev c_F_isNode : ByteArray := prog_2_method_9_code
def y_F_isNode : MethodName := ⟨R_F, "isNode", "(I)Z"⟩
abbrev c_F_isHole : ByteArray := prog_2_method_10_code
def y_F_isHole : MethodName := ⟨R_F, "isHole", "(I)Z"⟩
abbrev c_F_isHoleOfKind : ByteArray := prog_2_method_11_code
def y_F_isHoleOfKind : MethodName := ⟨R_F, "isHoleOfKind", "(II)Z"⟩
abbrev c_F_takesSeveral : ByteArray := prog_2_method_12_code
def y_F_takesSeveral : MethodName := ⟨R_F, "takesSeveral", "(I)Z"⟩
abbrev c_F_isAnyOrder : ByteArray := prog_2_method_13_code
def y_F_isAnyOrder : MethodName := ⟨R_F, "isAnyOrder", "(I)Z"⟩
abbrev c_F_nameOf : ByteArray := prog_2_method_14_code
def y_F_nameOf : MethodName := ⟨R_F, "nameOf", "(I)I"⟩
abbrev c_F_partCount : ByteArray := prog_2_method_15_code
def y_F_partCount : MethodName := ⟨R_F, "partCount", "(I)I"⟩
abbrev c_F_partAt : ByteArray := prog_2_method_16_code
def y_F_partAt : MethodName := ⟨R_F, "partAt", "(II)I"⟩
abbrev c_F_looksLike : ByteArray := prog_2_method_17_code
def y_F_looksLike : MethodName := ⟨R_F, "looksLike", "(II)Z"⟩
abbrev c_F_mayTake : ByteArray := prog_2_method_18_code
def y_F_mayTake : MethodName := ⟨R_F, "mayTake", "(II)Z"⟩
abbrev c_F_addPart : ByteArray := prog_2_method_19_code
def y_F_addPart : MethodName := ⟨R_F, "addPart", "(II)Z"⟩
abbrev c_F_placeFor : ByteArray := prog_2_method_20_code
def y_F_placeFor : MethodName := ⟨R_F, "placeFor", "(II)I"⟩
abbrev c_F_compare : ByteArray := prog_2_method_21_code
def y_F_compare : MethodName := ⟨R_F, "compare", "(II)I"⟩
abbrev c_F_compareFrom : ByteArray := prog_2_method_22_code
def y_F_compareFrom : MethodName := ⟨R_F, "compareFrom", "(LSequenceMatch$Forest;III)I"⟩
abbrev c_F_addTest : ByteArray := prog_2_method_23_code
def y_F_addTest : MethodName := ⟨R_F, "addTest", "(III)Z"⟩
abbrev c_F_passesTests : ByteArray := prog_2_method_24_code
def y_F_passesTests : MethodName := ⟨R_F, "passesTests", "(I[II)Z"⟩
abbrev c_F_passes : ByteArray := prog_2_method_25_code
def y_F_passes : MethodName := ⟨R_F, "passes", "(II[II)Z"⟩
abbrev c_F_mayMatch : ByteArray := prog_2_method_26_code
def y_F_mayMatch : MethodName := ⟨R_F, "mayMatch", "(II)Z"⟩
abbrev c_F_hasFittingCount : ByteArray := prog_2_method_27_code
def y_F_hasFittingCount : MethodName := ⟨R_F, "hasFittingCount", "(II)Z"⟩
abbrev c_F_hasFittingStart : ByteArray := prog_2_method_28_code
def y_F_hasFittingStart : MethodName := ⟨R_F, "hasFittingStart", "(II)Z"⟩
abbrev c_Mt_init : ByteArray := prog_3_method_1_code
def y_Mt_init : MethodName := ⟨R_Mt, "<init>", "()V"⟩
abbrev c_Mt_clear : ByteArray := prog_3_method_2_code
def y_Mt_clear : MethodName := ⟨R_Mt, "clear", "()V"⟩
abbrev c_Mt_keep : ByteArray := prog_3_method_3_code
def y_Mt_keep : MethodName := ⟨R_Mt, "keep", "(LSequenceMatch$Names;)V"⟩
abbrev c_Mt_keptCount : ByteArray := prog_3_method_4_code
def y_Mt_keptCount : MethodName := ⟨R_Mt, "keptCount", "()I"⟩
abbrev c_Mt_lengthOf : ByteArray := prog_3_method_5_code
def y_Mt_lengthOf : MethodName := ⟨R_Mt, "lengthOf", "(II)I"⟩
abbrev c_Mt_treeOf : ByteArray := prog_3_method_6_code
def y_Mt_treeOf : MethodName := ⟨R_Mt, "treeOf", "(III)I"⟩
abbrev c_Nm_init : ByteArray := prog_4_method_1_code
def y_Nm_init : MethodName := ⟨R_Nm, "<init>", "()V"⟩
abbrev c_Nm_clear : ByteArray := prog_4_method_2_code
def y_Nm_clear : MethodName := ⟨R_Nm, "clear", "()V"⟩
abbrev c_Nm_hasNothing : ByteArray := prog_4_method_3_code
def y_Nm_hasNothing : MethodName := ⟨R_Nm, "hasNothing", "(I)Z"⟩
abbrev c_Nm_give : ByteArray := prog_4_method_4_code
def y_Nm_give : MethodName := ⟨R_Nm, "give", "(I[III)V"⟩
abbrev c_Nm_takeBack : ByteArray := prog_4_method_5_code
def y_Nm_takeBack : MethodName := ⟨R_Nm, "takeBack", "(II)V"⟩
abbrev c_Nm_hasSame : ByteArray := prog_4_method_6_code
def y_Nm_hasSame : MethodName := ⟨R_Nm, "hasSame", "(LSequenceMatch$Forest;I[II)Z"⟩
abbrev c_Pc_all : ByteArray := prog_5_method_2_code
def y_Pc_all : MethodName := ⟨R_Pc, "all", "(I)I"⟩
abbrev c_Pc_lowest : ByteArray := prog_5_method_3_code
def y_Pc_lowest : MethodName := ⟨R_Pc, "lowest", "(II)I"⟩
abbrev c_Pc_behind : ByteArray := prog_5_method_4_code
def y_Pc_behind : MethodName := ⟨R_Pc, "behind", "(II)I"⟩
abbrev c_Pc_nextChoice : ByteArray := prog_5_method_5_code
def y_Pc_nextChoice : MethodName := ⟨R_Pc, "nextChoice", "(II)I"⟩
abbrev c_Pl_init : ByteArray := prog_6_method_1_code
def y_Pl_init : MethodName := ⟨R_Pl, "<init>", "()V"⟩
abbrev c_Pl_lay : ByteArray := prog_6_method_2_code
def y_Pl_lay : MethodName := ⟨R_Pl, "lay", "(LSequenceMatch$Forest;I)V"⟩
abbrev c_Pl_layParts : ByteArray := prog_6_method_3_code
def y_Pl_layParts : MethodName := ⟨R_Pl, "layParts", "(LSequenceMatch$Plan;LSequenceMatch$Forest;II)V"⟩
abbrev c_Pl_slotCount : ByteArray := prog_6_method_4_code
def y_Pl_slotCount : MethodName := ⟨R_Pl, "slotCount", "()I"⟩
abbrev c_Pl_treeAt : ByteArray := prog_6_method_5_code
def y_Pl_treeAt : MethodName := ⟨R_Pl, "treeAt", "(I)I"⟩
abbrev c_Pl_parentOf : ByteArray := prog_6_method_6_code
def y_Pl_parentOf : MethodName := ⟨R_Pl, "parentOf", "(I)I"⟩
abbrev c_Pl_isLastInRow : ByteArray := prog_6_method_7_code
def y_Pl_isLastInRow : MethodName := ⟨R_Pl, "isLastInRow", "(I)Z"⟩
abbrev c_Se_init : ByteArray := prog_7_method_1_code
def y_Se_init : MethodName := ⟨R_Se, "<init>", "(LSequenceMatch$Forest;)V"⟩
abbrev c_Se_matches : ByteArray := prog_7_method_2_code
def y_Se_matches : MethodName := ⟨R_Se, "matches", "()LSequenceMatch$Matches;"⟩
abbrev c_Se_triesMade : ByteArray := prog_7_method_3_code
def y_Se_triesMade : MethodName := ⟨R_Se, "triesMade", "()I"⟩
abbrev c_Se_found : ByteArray := prog_7_method_4_code
def y_Se_found : MethodName := ⟨R_Se, "found", "()I"⟩
abbrev c_Se_isSpent : ByteArray := prog_7_method_5_code
def y_Se_isSpent : MethodName := ⟨R_Se, "isSpent", "()Z"⟩
abbrev c_Se_clear : ByteArray := prog_7_method_6_code
def y_Se_clear : MethodName := ⟨R_Se, "clear", "()V"⟩
abbrev c_Se_run : ByteArray := prog_7_method_7_code
def y_Se_run : MethodName := ⟨R_Se, "run", "(III)V"⟩
abbrev c_Se_makeTry : ByteArray := prog_7_method_8_code
def y_Se_makeTry : MethodName := ⟨R_Se, "makeTry", "(I)I"⟩
abbrev c_Se_release : ByteArray := prog_7_method_9_code
def y_Se_release : MethodName := ⟨R_Se, "release", "(I)V"⟩
abbrev c_Se_choose : ByteArray := prog_7_method_10_code
def y_Se_choose : MethodName := ⟨R_Se, "choose", "(I)Z"⟩
abbrev c_Se_firstChoice : ByteArray := prog_7_method_11_code
def y_Se_firstChoice : MethodName := ⟨R_Se, "firstChoice", "(I)I"⟩
abbrev c_Se_laterChoice : ByteArray := prog_7_method_12_code
def y_Se_laterChoice : MethodName := ⟨R_Se, "laterChoice", "(I)I"⟩
abbrev c_Se_gatherRow : ByteArray := prog_7_method_13_code
def y_Se_gatherRow : MethodName := ⟨R_Se, "gatherRow", "(I)V"⟩
abbrev c_Se_fitsLeafOrNode : ByteArray := prog_7_method_14_code
def y_Se_fitsLeafOrNode : MethodName := ⟨R_Se, "fitsLeafOrNode", "(II)Z"⟩
abbrev c_Se_fitsHole : ByteArray := prog_7_method_15_code
def y_Se_fitsHole : MethodName := ⟨R_Se, "fitsHole", "(II)Z"⟩
abbrev c_Se_rowsEndHere : ByteArray := prog_7_method_16_code
def y_Se_rowsEndHere : MethodName := ⟨R_Se, "rowsEndHere", "(I)Z"⟩
abbrev c_La_leaf : ByteArray := method_3_code
def y_La_leaf : MethodName := ⟨R_La, "leaf", "(LSequenceMatch;I[J)I"⟩
abbrev c_La_node : ByteArray := method_4_code
def y_La_node : MethodName := ⟨R_La, "node", "(LSequenceMatch;I[J)I"⟩
abbrev c_La_more : ByteArray := method_5_code
def y_La_more : MethodName := ⟨R_La, "more", "(LSequenceMatch;II[J)I"⟩
abbrev c_La_hole : ByteArray := method_6_code
def y_La_hole : MethodName := ⟨R_La, "hole", "(LSequenceMatch;II[J)I"⟩
abbrev c_La_test : ByteArray := method_7_code
def y_La_test : MethodName := ⟨R_La, "test", "(LSequenceMatch;III[J)I"⟩
abbrev c_La_match : ByteArray := method_8_code
def y_La_match : MethodName := ⟨R_La, "match", "(LSequenceMatch;III[J)I"⟩
abbrev c_La_bound : ByteArray := method_9_code
def y_La_bound : MethodName := ⟨R_La, "bound", "(LSequenceMatch;III[J)I"⟩
abbrev c_La_many : ByteArray := method_10_code
def y_La_many : MethodName := ⟨R_La, "many", "(LSequenceMatch;II[J)I"⟩
abbrev c_La_rule : ByteArray := method_11_code
def y_La_rule : MethodName := ⟨R_La, "rule", "(LSequenceMatch;I[J)I"⟩
abbrev c_La_net : ByteArray := method_12_code
def y_La_net : MethodName := ⟨R_La, "net", "(LSequenceMatch;I[J)I"⟩
abbrev c_La_first : ByteArray := method_13_code
def y_La_first : MethodName := ⟨R_La, "first", "(LSequenceMatch;I[J)I"⟩
abbrev c_La_order : ByteArray := method_14_code
def y_La_order : MethodName := ⟨R_La, "order", "(LSequenceMatch;II[J)I"⟩
abbrev c_La_parts : ByteArray := method_15_code
def y_La_parts : MethodName := ⟨R_La, "parts", "(LSequenceMatch;I[J)I"⟩
abbrev c_La_part : ByteArray := method_16_code
def y_La_part : MethodName := ⟨R_La, "part", "(LSequenceMatch;II[J)I"⟩
abbrev c_In_bitCount : ByteArray := prog_14_method_49_code
def y_In_bitCount : MethodName := ⟨R_In, "bitCount", "(I)I"⟩
abbrev c_Ar_fill : ByteArray := prog_20_method_103_code
def y_Ar_fill : MethodName := ⟨R_Ar, "fill", "([II)V"⟩
theorem q_0 : Cond.initialized R_La ∈ kG := k_in1 (i := 0) rfl rfl
theorem q_1 : Cond.initialized R_SM ∈ kG := k_in1 (i := 1) rfl rfl
theorem q_2 : Cond.initialized R_F ∈ kG := k_in1 (i := 2) rfl rfl
theorem q_3 : Cond.initialized R_Se ∈ kG := k_in1 (i := 3) rfl rfl
theorem q_4 : Cond.initialized R_Pl ∈ kG := k_in1 (i := 4) rfl rfl
theorem q_5 : Cond.initialized R_Nm ∈ kG := k_in1 (i := 5) rfl rfl
theorem q_6 : Cond.initialized R_Mt ∈ kG := k_in1 (i := 6) rfl rfl
theorem q_7 : Cond.initialized R_Md ∈ kG := k_in1 (i := 7) rfl rfl
theorem q_8 : Cond.initialized "java/lang/Throwable" ∈ kG := k_in1 (i := 8) rfl rfl
theorem q_9 : Cond.initialized "java/lang/Exception" ∈ kG := k_in1 (i := 9) rfl rfl
theorem q_10 : Cond.initialized "java/lang/RuntimeException" ∈ kG := k_in1 (i := 10) rfl rfl
theorem q_11 : Cond.initialized "java/lang/IllegalArgumentException" ∈ kG := k_in1 (i := 11) rfl rfl
theorem q_12 : Cond.initialized "java/lang/IllegalStateException" ∈ kG := k_in1 (i := 12) rfl rfl
theorem q_13 : Cond.initialized "java/lang/IndexOutOfBoundsException" ∈ kG := k_in1 (i := 13) rfl rfl
theorem q_14 : Cond.initialized "java/lang/Math" ∈ kG := k_in1 (i := 14) rfl rfl
theorem q_15 : Cond.initialized R_Ar ∈ kG := k_in1 (i := 15) rfl rfl
theorem q_16 : Cond.initialized R_Pc ∈ kG := k_in1 (i := 16) rfl rfl
theorem q_17 : Cond.initialized R_In ∈ kG := k_in1 (i := 17) rfl rfl
theorem q_18 : Cond.initialized "java/lang/System" ∈ kG := k_in1 (i := 18) rfl rfl
theorem q_19 : Cond.classLink R_La 8 R_SM ∈ kG := k_in1 (i := 19) rfl rfl
theorem q_20 : Cond.instantiable R_SM 6 ∈ kG := k_in1 (i := 20) rfl rfl
theorem q_21 : Cond.methodLink R_La 62 y_SM_init ∈ kG := k_in1 (i := 21) rfl rfl
theorem q_22 : Cond.instanceMethod y_SM_init ∈ kG := k_in1 (i := 22) rfl rfl
theorem q_23 : Cond.code y_SM_init c_SM_init 1 none ∈ kG := k_in1 (i := 23) rfl rfl
theorem q_24 : Cond.methodLink R_SM 1 ⟨"java/lang/Object", "<init>", "()V"⟩ ∈ kG := k_in1 (i := 24) rfl rfl
theorem q_25 : Cond.instanceMethod ⟨"java/lang/Object", "<init>", "()V"⟩ ∈ kG := k_in1 (i := 25) rfl rfl
theorem q_26 : Cond.code ⟨"java/lang/Object", "<init>", "()V"⟩ object_method_1_code 1 none ∈ kG := k_in1 (i := 26) rfl rfl
theorem q_27 : Cond.classLink R_SM 7 R_F ∈ kG := k_in1 (i := 27) rfl rfl
theorem q_28 : Cond.instantiable R_F 13 ∈ kG := k_in1 (i := 28) rfl rfl
theorem q_29 : Cond.methodLink R_SM 9 y_F_init ∈ kG := k_in1 (i := 29) rfl rfl
theorem q_30 : Cond.instanceMethod y_F_init ∈ kG := k_in1 (i := 30) rfl rfl
theorem q_31 : Cond.code y_F_init c_F_init 1 none ∈ kG := k_in1 (i := 31) rfl rfl
theorem q_32 : Cond.methodLink R_F 3 ⟨"java/lang/Object", "<init>", "()V"⟩ ∈ kG := k_in1 (i := 32) rfl rfl
theorem q_33 : Cond.fieldLink R_F 9 "SequenceMatch$Forest" "treeCount" "I" ∈ kG := k_in1 (i := 33) rfl rfl
theorem q_34 : Cond.fieldLink R_F 15 "SequenceMatch$Forest" "sorts" "[I" ∈ kG := k_in1 (i := 34) rfl rfl
theorem q_35 : Cond.fieldLink R_F 19 "SequenceMatch$Forest" "names" "[I" ∈ kG := k_in1 (i := 35) rfl rfl
theorem q_36 : Cond.fieldLink R_F 22 "SequenceMatch$Forest" "kinds" "[I" ∈ kG := k_in1 (i := 36) rfl rfl
theorem q_37 : Cond.fieldLink R_F 25 "SequenceMatch$Forest" "plain" "[Z" ∈ kG := k_in1 (i := 37) rfl rfl
theorem q_38 : Cond.fieldLink R_F 29 "SequenceMatch$Forest" "closed" "[Z" ∈ kG := k_in1 (i := 38) rfl rfl
theorem q_39 : Cond.fieldLink R_F 32 "SequenceMatch$Forest" "depths" "[I" ∈ kG := k_in1 (i := 39) rfl rfl
theorem q_40 : Cond.fieldLink R_F 35 "SequenceMatch$Forest" "sizes" "[I" ∈ kG := k_in1 (i := 40) rfl rfl
theorem q_41 : Cond.fieldLink R_F 38 "SequenceMatch$Forest" "partCounts" "[I" ∈ kG := k_in1 (i := 41) rfl rfl
theorem q_42 : Cond.fieldLink R_F 41 "SequenceMatch$Forest" "partRows" "[I" ∈ kG := k_in1 (i := 42) rfl rfl
theorem q_43 : Cond.fieldLink R_F 44 "SequenceMatch$Forest" "testCounts" "[I" ∈ kG := k_in1 (i := 43) rfl rfl
theorem q_44 : Cond.fieldLink R_F 47 "SequenceMatch$Forest" "testKinds" "[I" ∈ kG := k_in1 (i := 44) rfl rfl
theorem q_45 : Cond.fieldLink R_F 50 "SequenceMatch$Forest" "testValues" "[I" ∈ kG := k_in1 (i := 45) rfl rfl
theorem q_73 : Cond.arrayClass .int ∈ kG := k_in1 (i := 73) rfl rfl
theorem q_74 : Cond.arrayClass .boolean ∈ kG := k_in1 (i := 74) rfl rfl
theorem q_75 : Cond.classLink R_SM 16 R_Se ∈ kG := k_in1 (i := 75) rfl rfl
theorem q_76 : Cond.instantiable R_Se 13 ∈ kG := k_in1 (i := 76) rfl rfl
theorem q_77 : Cond.methodLink R_SM 18 y_Se_init ∈ kG := k_in1 (i := 77) rfl rfl
theorem q_78 : Cond.instanceMethod y_Se_init ∈ kG := k_in1 (i := 78) rfl rfl
theorem q_79 : Cond.code y_Se_init c_Se_init 2 none ∈ kG := k_in1 (i := 79) rfl rfl
theorem q_80 : Cond.methodLink R_Se 3 ⟨"java/lang/Object", "<init>", "()V"⟩ ∈ kG := k_in1 (i := 80) rfl rfl
theorem q_81 : Cond.classLink R_Se 15 R_Pl ∈ kG := k_in1 (i := 81) rfl rfl
theorem q_82 : Cond.instantiable R_Pl 4 ∈ kG := k_in1 (i := 82) rfl rfl
theorem q_83 : Cond.methodLink R_Se 17 y_Pl_init ∈ kG := k_in1 (i := 83) rfl rfl
theorem q_84 : Cond.instanceMethod y_Pl_init ∈ kG := k_in1 (i := 84) rfl rfl
theorem q_85 : Cond.code y_Pl_init c_Pl_init 1 none ∈ kG := k_in1 (i := 85) rfl rfl
theorem q_86 : Cond.methodLink R_Pl 3 ⟨"java/lang/Object", "<init>", "()V"⟩ ∈ kG := k_in1 (i := 86) rfl rfl
theorem q_87 : Cond.fieldLink R_Pl 9 "SequenceMatch$Plan" "slotCount" "I" ∈ kG := k_in1 (i := 87) rfl rfl
theorem q_88 : Cond.fieldLink R_Pl 15 "SequenceMatch$Plan" "trees" "[I" ∈ kG := k_in1 (i := 88) rfl rfl
theorem q_89 : Cond.fieldLink R_Pl 19 "SequenceMatch$Plan" "parents" "[I" ∈ kG := k_in1 (i := 89) rfl rfl
theorem q_90 : Cond.fieldLink R_Pl 22 "SequenceMatch$Plan" "lasts" "[Z" ∈ kG := k_in1 (i := 90) rfl rfl
theorem q_100 : Cond.classLink R_Se 22 R_Nm ∈ kG := k_in1 (i := 100) rfl rfl
theorem q_101 : Cond.instantiable R_Nm 3 ∈ kG := k_in1 (i := 101) rfl rfl
theorem q_102 : Cond.methodLink R_Se 24 y_Nm_init ∈ kG := k_in1 (i := 102) rfl rfl
theorem q_103 : Cond.instanceMethod y_Nm_init ∈ kG := k_in1 (i := 103) rfl rfl
theorem q_104 : Cond.code y_Nm_init c_Nm_init 1 none ∈ kG := k_in1 (i := 104) rfl rfl
theorem q_105 : Cond.methodLink R_Nm 3 ⟨"java/lang/Object", "<init>", "()V"⟩ ∈ kG := k_in1 (i := 105) rfl rfl
theorem q_106 : Cond.fieldLink R_Nm 9 "SequenceMatch$Names" "lengths" "[I" ∈ kG := k_in1 (i := 106) rfl rfl
theorem q_108 : Cond.fieldLink R_Nm 15 "SequenceMatch$Names" "trees" "[I" ∈ kG := k_in1 (i := 108) rfl rfl
theorem q_110 : Cond.fieldLink R_Nm 18 "SequenceMatch$Names" "givers" "[I" ∈ kG := k_in1 (i := 110) rfl rfl
theorem q_118 : Cond.classLink R_Se 29 R_Mt ∈ kG := k_in1 (i := 118) rfl rfl
theorem q_119 : Cond.instantiable R_Mt 3 ∈ kG := k_in1 (i := 119) rfl rfl
theorem q_120 : Cond.methodLink R_Se 31 y_Mt_init ∈ kG := k_in1 (i := 120) rfl rfl
theorem q_121 : Cond.instanceMethod y_Mt_init ∈ kG := k_in1 (i := 121) rfl rfl
theorem q_122 : Cond.code y_Mt_init c_Mt_init 1 none ∈ kG := k_in1 (i := 122) rfl rfl
theorem q_123 : Cond.methodLink R_Mt 3 ⟨"java/lang/Object", "<init>", "()V"⟩ ∈ kG := k_in1 (i := 123) rfl rfl
theorem q_124 : Cond.fieldLink R_Mt 9 "SequenceMatch$Matches" "keptCount" "I" ∈ kG := k_in1 (i := 124) rfl rfl
theorem q_125 : Cond.fieldLink R_Mt 15 "SequenceMatch$Matches" "lengths" "[I" ∈ kG := k_in1 (i := 125) rfl rfl
theorem q_126 : Cond.fieldLink R_Mt 19 "SequenceMatch$Matches" "trees" "[I" ∈ kG := k_in1 (i := 126) rfl rfl
theorem q_134 : Cond.fieldLink R_Se 9 "SequenceMatch$Search" "forest" "LSequenceMatch$Forest;" ∈ kG := k_in1 (i := 134) rfl rfl
theorem q_135 : Cond.fieldLink R_Se 18 "SequenceMatch$Search" "plan" "LSequenceMatch$Plan;" ∈ kG := k_in1 (i := 135) rfl rfl
theorem q_136 : Cond.fieldLink R_Se 25 "SequenceMatch$Search" "names" "LSequenceMatch$Names;" ∈ kG := k_in1 (i := 136) rfl rfl
theorem q_137 : Cond.fieldLink R_Se 32 "SequenceMatch$Search" "matches" "LSequenceMatch$Matches;" ∈ kG := k_in1 (i := 137) rfl rfl
theorem q_138 : Cond.fieldLink R_Se 36 "SequenceMatch$Search" "taken" "[I" ∈ kG := k_in1 (i := 138) rfl rfl
theorem q_139 : Cond.fieldLink R_Se 40 "SequenceMatch$Search" "beside" "[I" ∈ kG := k_in1 (i := 139) rfl rfl
theorem q_140 : Cond.fieldLink R_Se 43 "SequenceMatch$Search" "left" "[I" ∈ kG := k_in1 (i := 140) rfl rfl
theorem q_141 : Cond.fieldLink R_Se 46 "SequenceMatch$Search" "row" "[I" ∈ kG := k_in1 (i := 141) rfl rfl
theorem q_142 : Cond.fieldLink R_Se 49 "SequenceMatch$Search" "rowLength" "I" ∈ kG := k_in1 (i := 142) rfl rfl
theorem q_143 : Cond.fieldLink R_Se 53 "SequenceMatch$Search" "wholeTree" "I" ∈ kG := k_in1 (i := 143) rfl rfl
theorem q_144 : Cond.fieldLink R_Se 56 "SequenceMatch$Search" "tries" "I" ∈ kG := k_in1 (i := 144) rfl rfl
theorem q_145 : Cond.fieldLink R_Se 59 "SequenceMatch$Search" "found" "I" ∈ kG := k_in1 (i := 145) rfl rfl
theorem q_146 : Cond.fieldLink R_Se 62 "SequenceMatch$Search" "spent" "Z" ∈ kG := k_in1 (i := 146) rfl rfl
theorem q_174 : Cond.fieldLink R_SM 10 "SequenceMatch" "forest" "LSequenceMatch$Forest;" ∈ kG := k_in1 (i := 174) rfl rfl
theorem q_175 : Cond.fieldLink R_SM 21 "SequenceMatch" "search" "LSequenceMatch$Search;" ∈ kG := k_in1 (i := 175) rfl rfl
theorem q_176 : Cond.fieldLink R_SM 25 "SequenceMatch" "rulePatterns" "[I" ∈ kG := k_in1 (i := 176) rfl rfl
theorem q_177 : Cond.fieldLink R_SM 29 "SequenceMatch" "ruleCount" "I" ∈ kG := k_in1 (i := 177) rfl rfl
theorem q_178 : Cond.fieldLink R_SM 33 "SequenceMatch" "toldRules" "[I" ∈ kG := k_in1 (i := 178) rfl rfl
theorem q_179 : Cond.fieldLink R_SM 36 "SequenceMatch" "toldCount" "I" ∈ kG := k_in1 (i := 179) rfl rfl
theorem q_193 : Cond.methodLink R_La 93 y_SM_tried ∈ kG := k_in1 (i := 193) rfl rfl
theorem q_194 : Cond.instanceMethod y_SM_tried ∈ kG := k_in1 (i := 194) rfl rfl
theorem q_195 : Cond.selects R_SM y_SM_tried y_SM_tried ∈ kG := k_in1 (i := 195) rfl rfl
theorem q_196 : Cond.code y_SM_tried c_SM_tried 1 (some .int) ∈ kG := k_in1 (i := 196) rfl rfl
theorem q_197 : Cond.methodLink R_SM 90 y_Se_triesMade ∈ kG := k_in1 (i := 197) rfl rfl
theorem q_198 : Cond.instanceMethod y_Se_triesMade ∈ kG := k_in1 (i := 198) rfl rfl
theorem q_199 : Cond.selects R_Se y_Se_triesMade y_Se_triesMade ∈ kG := k_in1 (i := 199) rfl rfl
theorem q_200 : Cond.code y_Se_triesMade c_Se_triesMade 1 (some .int) ∈ kG := k_in1 (i := 200) rfl rfl
theorem q_201 : Cond.methodLink R_La 109 y_SM_rules ∈ kG := k_in1 (i := 201) rfl rfl
theorem q_202 : Cond.instanceMethod y_SM_rules ∈ kG := k_in1 (i := 202) rfl rfl
theorem q_203 : Cond.selects R_SM y_SM_rules y_SM_rules ∈ kG := k_in1 (i := 203) rfl rfl
theorem q_204 : Cond.code y_SM_rules c_SM_rules 2 (some .int) ∈ kG := k_in1 (i := 204) rfl rfl
theorem q_205 : Cond.methodLink R_La 125 y_SM_count ∈ kG := k_in1 (i := 205) rfl rfl
theorem q_206 : Cond.instanceMethod y_SM_count ∈ kG := k_in1 (i := 206) rfl rfl
theorem q_207 : Cond.selects R_SM y_SM_count y_SM_count ∈ kG := k_in1 (i := 207) rfl rfl
theorem q_208 : Cond.code y_SM_count c_SM_count 2 (some .int) ∈ kG := k_in1 (i := 208) rfl rfl
theorem q_209 : Cond.methodLink R_SM 133 y_F_treeCount ∈ kG := k_in1 (i := 209) rfl rfl
theorem q_210 : Cond.instanceMethod y_F_treeCount ∈ kG := k_in1 (i := 210) rfl rfl
theorem q_211 : Cond.selects R_F y_F_treeCount y_F_treeCount ∈ kG := k_in1 (i := 211) rfl rfl
theorem q_212 : Cond.code y_F_treeCount c_F_treeCount 1 (some .int) ∈ kG := k_in1 (i := 212) rfl rfl
theorem q_213 : Cond.methodLink R_SM 96 y_Se_matches ∈ kG := k_in1 (i := 213) rfl rfl
theorem q_214 : Cond.instanceMethod y_Se_matches ∈ kG := k_in1 (i := 214) rfl rfl
theorem q_215 : Cond.selects R_Se y_Se_matches y_Se_matches ∈ kG := k_in1 (i := 215) rfl rfl
theorem q_216 : Cond.code y_Se_matches c_Se_matches 1 (some (.object "SequenceMatch$Matches")) ∈ kG := k_in1 (i := 216) rfl rfl
theorem q_217 : Cond.methodLink R_SM 136 y_Mt_keptCount ∈ kG := k_in1 (i := 217) rfl rfl
theorem q_218 : Cond.instanceMethod y_Mt_keptCount ∈ kG := k_in1 (i := 218) rfl rfl
theorem q_219 : Cond.selects R_Mt y_Mt_keptCount y_Mt_keptCount ∈ kG := k_in1 (i := 219) rfl rfl
theorem q_220 : Cond.code y_Mt_keptCount c_Mt_keptCount 1 (some .int) ∈ kG := k_in1 (i := 220) rfl rfl
theorem q_221 : Cond.methodLink R_La 66 y_La_leaf ∈ kG := k_in1 (i := 221) rfl rfl
theorem q_222 : Cond.static y_La_leaf ∈ kG := k_in1 (i := 222) rfl rfl
theorem q_224 : Cond.classLink R_La 13 "java/lang/IllegalArgumentException" ∈ kG := k_in1 (i := 224) rfl rfl
theorem q_225 : Cond.classLink R_La 15 "java/lang/IllegalStateException" ∈ kG := k_in1 (i := 225) rfl rfl
theorem q_226 : Cond.methodLink R_La 7 y_SM_leaf ∈ kG := k_in1 (i := 226) rfl rfl
theorem q_227 : Cond.instanceMethod y_SM_leaf ∈ kG := k_in1 (i := 227) rfl rfl
theorem q_228 : Cond.selects R_SM y_SM_leaf y_SM_leaf ∈ kG := k_in1 (i := 228) rfl rfl
theorem q_229 : Cond.code y_SM_leaf c_SM_leaf 2 (some .int) ∈ kG := k_in1 (i := 229) rfl rfl
theorem q_230 : Cond.methodLink R_SM 39 y_SM_requireBelow ∈ kG := k_in1 (i := 230) rfl rfl
theorem q_231 : Cond.static y_SM_requireBelow ∈ kG := k_in1 (i := 231) rfl rfl
theorem q_232 : Cond.code y_SM_requireBelow c_SM_requireBelow 2 none ∈ kG := k_in1 (i := 232) rfl rfl
theorem q_233 : Cond.classLink R_SM 55 "java/lang/IllegalArgumentException" ∈ kG := k_in1 (i := 233) rfl rfl
theorem q_234 : Cond.instantiable "java/lang/IllegalArgumentException" 6 ∈ kG := k_in1 (i := 234) rfl rfl
theorem q_242 : Cond.selects "java/lang/IllegalArgumentException" ⟨"java/lang/Throwable", "fillInStackTrace", "(I)Ljava/lang/Throwable;"⟩ ⟨"java/lang/Throwable", "fillInStackTrace", "(I)Ljava/lang/Throwable;"⟩ ∈ kG := k_in2 (i := 2) rfl rfl
theorem q_243 : Cond.selects "java/lang/IllegalArgumentException" ⟨"java/lang/Throwable", "fillInStackTrace", "()Ljava/lang/Throwable;"⟩ ⟨"java/lang/Throwable", "fillInStackTrace", "()Ljava/lang/Throwable;"⟩ ∈ kG := k_in2 (i := 3) rfl rfl
theorem q_254 : Cond.fieldLink "java/lang/Throwable" 198 "java/lang/Throwable" "backtrace" "Ljava/lang/Object;" ∈ kG := k_in2 (i := 14) rfl rfl
theorem q_256 : Cond.instanceMethod ⟨"java/lang/Throwable", "<init>", "()V"⟩ ∈ kG := k_in2 (i := 16) rfl rfl
theorem q_257 : Cond.code ⟨"java/lang/Throwable", "<init>", "()V"⟩ prog_19_method_1_code 1 none ∈ kG := k_in2 (i := 17) rfl rfl
theorem q_258 : Cond.methodLink "java/lang/Throwable" 1 ⟨"java/lang/Object", "<init>", "()V"⟩ ∈ kG := k_in2 (i := 18) rfl rfl
theorem q_259 : Cond.fieldLink "java/lang/Throwable" 13 "java/lang/Throwable" "UNASSIGNED_STACK" "[Ljava/lang/StackTraceElement;" ∈ kG := k_in2 (i := 19) rfl rfl
theorem q_261 : Cond.fieldLink "java/lang/Throwable" 20 "java/lang/Throwable" "SUPPRESSED_SENTINEL" "Ljava/util/List;" ∈ kG := k_in2 (i := 21) rfl rfl
theorem q_263 : Cond.methodLink "java/lang/Throwable" 27 ⟨"java/lang/Throwable", "fillInStackTrace", "()Ljava/lang/Throwable;"⟩ ∈ kG := k_in2 (i := 23) rfl rfl
theorem q_264 : Cond.instanceMethod ⟨"java/lang/Throwable", "fillInStackTrace", "()Ljava/lang/Throwable;"⟩ ∈ kG := k_in2 (i := 24) rfl rfl
theorem q_266 : Cond.selects "java/lang/IllegalStateException" ⟨"java/lang/Throwable", "fillInStackTrace", "()Ljava/lang/Throwable;"⟩ ⟨"java/lang/Throwable", "fillInStackTrace", "()Ljava/lang/Throwable;"⟩ ∈ kG := k_in2 (i := 26) rfl rfl
theorem q_267 : Cond.selects "java/lang/IndexOutOfBoundsException" ⟨"java/lang/Throwable", "fillInStackTrace", "()Ljava/lang/Throwable;"⟩ ⟨"java/lang/Throwable", "fillInStackTrace", "()Ljava/lang/Throwable;"⟩ ∈ kG := k_in2 (i := 27) rfl rfl
theorem q_269 : Cond.methodLink "java/lang/Throwable" 202 ⟨"java/lang/Throwable", "fillInStackTrace", "(I)Ljava/lang/Throwable;"⟩ ∈ kG := k_in2 (i := 29) rfl rfl
theorem q_271 : Cond.instanceMethod ⟨"java/lang/Throwable", "fillInStackTrace", "(I)Ljava/lang/Throwable;"⟩ ∈ kG := k_in2 (i := 31) rfl rfl
theorem q_272 : Cond.instantiable "java/lang/Throwable" 6 ∈ kG := k_in2 (i := 32) rfl rfl
theorem q_273 : Cond.native ⟨"java/lang/Throwable", "fillInStackTrace", "(I)Ljava/lang/Throwable;"⟩ ∈ kG := k_in2 (i := 33) rfl rfl
theorem q_275 : Cond.methodLink R_SM 59 ⟨"java/lang/IllegalArgumentException", "<init>", "(Ljava/lang/String;)V"⟩ ∈ kG := k_in2 (i := 35) rfl rfl
theorem q_276 : Cond.instanceMethod ⟨"java/lang/IllegalArgumentException", "<init>", "(Ljava/lang/String;)V"⟩ ∈ kG := k_in2 (i := 36) rfl rfl
theorem q_277 : Cond.code ⟨"java/lang/IllegalArgumentException", "<init>", "(Ljava/lang/String;)V"⟩ prog_11_method_2_code 2 none ∈ kG := k_in2 (i := 37) rfl rfl
theorem q_278 : Cond.methodLink "java/lang/IllegalArgumentException" 7 ⟨"java/lang/RuntimeException", "<init>", "(Ljava/lang/String;)V"⟩ ∈ kG := k_in2 (i := 38) rfl rfl
theorem q_279 : Cond.instanceMethod ⟨"java/lang/RuntimeException", "<init>", "(Ljava/lang/String;)V"⟩ ∈ kG := k_in2 (i := 39) rfl rfl
theorem q_280 : Cond.code ⟨"java/lang/RuntimeException", "<init>", "(Ljava/lang/String;)V"⟩ prog_16_method_2_code 2 none ∈ kG := k_in2 (i := 40) rfl rfl
theorem q_281 : Cond.methodLink "java/lang/RuntimeException" 7 ⟨"java/lang/Exception", "<init>", "(Ljava/lang/String;)V"⟩ ∈ kG := k_in2 (i := 41) rfl rfl
theorem q_282 : Cond.instanceMethod ⟨"java/lang/Exception", "<init>", "(Ljava/lang/String;)V"⟩ ∈ kG := k_in2 (i := 42) rfl rfl
theorem q_283 : Cond.code ⟨"java/lang/Exception", "<init>", "(Ljava/lang/String;)V"⟩ prog_10_method_2_code 2 none ∈ kG := k_in2 (i := 43) rfl rfl
theorem q_284 : Cond.methodLink "java/lang/Exception" 7 ⟨"java/lang/Throwable", "<init>", "(Ljava/lang/String;)V"⟩ ∈ kG := k_in2 (i := 44) rfl rfl
theorem q_285 : Cond.instanceMethod ⟨"java/lang/Throwable", "<init>", "(Ljava/lang/String;)V"⟩ ∈ kG := k_in2 (i := 45) rfl rfl
theorem q_286 : Cond.code ⟨"java/lang/Throwable", "<init>", "(Ljava/lang/String;)V"⟩ prog_19_method_2_code 2 none ∈ kG := k_in2 (i := 46) rfl rfl
theorem q_288 : Cond.fieldLink "java/lang/Throwable" 31 "java/lang/Throwable" "detailMessage" "Ljava/lang/String;" ∈ kG := k_in2 (i := 48) rfl rfl
theorem q_289 : Cond.fieldLink "java/lang/Throwable" 7 "java/lang/Throwable" "cause" "Ljava/lang/Throwable;" ∈ kG := k_in2 (i := 49) rfl rfl
theorem q_290 : Cond.fieldLink "java/lang/Throwable" 17 "java/lang/Throwable" "stackTrace" "[Ljava/lang/StackTraceElement;" ∈ kG := k_in2 (i := 50) rfl rfl
theorem q_291 : Cond.fieldLink "java/lang/Throwable" 24 "java/lang/Throwable" "suppressedExceptions" "Ljava/util/List;" ∈ kG := k_in2 (i := 51) rfl rfl
theorem q_300 : Cond.arrayClass .byte ∈ kG := k_in2 (i := 60) rfl rfl
theorem q_301 : Cond.methodLink R_SM 43 y_SM_newTree ∈ kG := k_in2 (i := 61) rfl rfl
theorem q_303 : Cond.instanceMethod y_SM_newTree ∈ kG := k_in2 (i := 63) rfl rfl
theorem q_304 : Cond.code y_SM_newTree c_SM_newTree 4 (some .int) ∈ kG := k_in2 (i := 64) rfl rfl
theorem q_305 : Cond.methodLink R_SM 139 y_F_isFull ∈ kG := k_in2 (i := 65) rfl rfl
theorem q_306 : Cond.instanceMethod y_F_isFull ∈ kG := k_in2 (i := 66) rfl rfl
theorem q_307 : Cond.selects R_F y_F_isFull y_F_isFull ∈ kG := k_in2 (i := 67) rfl rfl
theorem q_308 : Cond.code y_F_isFull c_F_isFull 1 (some .boolean) ∈ kG := k_in2 (i := 68) rfl rfl
theorem q_309 : Cond.classLink R_SM 109 "java/lang/IllegalStateException" ∈ kG := k_in2 (i := 69) rfl rfl
theorem q_310 : Cond.instantiable "java/lang/IllegalStateException" 6 ∈ kG := k_in2 (i := 70) rfl rfl
theorem q_312 : Cond.selects "java/lang/IllegalStateException" ⟨"java/lang/Throwable", "fillInStackTrace", "(I)Ljava/lang/Throwable;"⟩ ⟨"java/lang/Throwable", "fillInStackTrace", "(I)Ljava/lang/Throwable;"⟩ ∈ kG := k_in2 (i := 72) rfl rfl
theorem q_319 : Cond.methodLink R_SM 113 ⟨"java/lang/IllegalStateException", "<init>", "(Ljava/lang/String;)V"⟩ ∈ kG := k_in2 (i := 79) rfl rfl
theorem q_320 : Cond.instanceMethod ⟨"java/lang/IllegalStateException", "<init>", "(Ljava/lang/String;)V"⟩ ∈ kG := k_in2 (i := 80) rfl rfl
theorem q_321 : Cond.code ⟨"java/lang/IllegalStateException", "<init>", "(Ljava/lang/String;)V"⟩ prog_12_method_2_code 2 none ∈ kG := k_in2 (i := 81) rfl rfl
theorem q_322 : Cond.methodLink "java/lang/IllegalStateException" 7 ⟨"java/lang/RuntimeException", "<init>", "(Ljava/lang/String;)V"⟩ ∈ kG := k_in2 (i := 82) rfl rfl
theorem q_325 : Cond.methodLink R_SM 144 y_F_add ∈ kG := k_in2 (i := 85) rfl rfl
theorem q_326 : Cond.instanceMethod y_F_add ∈ kG := k_in2 (i := 86) rfl rfl
theorem q_327 : Cond.selects R_F y_F_add y_F_add ∈ kG := k_in2 (i := 87) rfl rfl
theorem q_328 : Cond.code y_F_add c_F_add 5 (some .int) ∈ kG := k_in2 (i := 88) rfl rfl
theorem q_329 : Cond.methodLink R_La 76 y_La_node ∈ kG := k_in2 (i := 89) rfl rfl
theorem q_330 : Cond.static y_La_node ∈ kG := k_in2 (i := 90) rfl rfl
theorem q_332 : Cond.methodLink R_La 17 y_SM_node ∈ kG := k_in2 (i := 92) rfl rfl
theorem q_333 : Cond.instanceMethod y_SM_node ∈ kG := k_in2 (i := 93) rfl rfl
theorem q_334 : Cond.selects R_SM y_SM_node y_SM_node ∈ kG := k_in2 (i := 94) rfl rfl
theorem q_335 : Cond.code y_SM_node c_SM_node 2 (some .int) ∈ kG := k_in2 (i := 95) rfl rfl
theorem q_336 : Cond.methodLink R_La 79 y_La_more ∈ kG := k_in2 (i := 96) rfl rfl
theorem q_337 : Cond.static y_La_more ∈ kG := k_in2 (i := 97) rfl rfl
theorem q_339 : Cond.classLink R_La 24 "java/lang/IndexOutOfBoundsException" ∈ kG := k_in2 (i := 99) rfl rfl
theorem q_340 : Cond.methodLink R_La 20 y_SM_more ∈ kG := k_in2 (i := 100) rfl rfl
theorem q_341 : Cond.instanceMethod y_SM_more ∈ kG := k_in2 (i := 101) rfl rfl
theorem q_342 : Cond.selects R_SM y_SM_more y_SM_more ∈ kG := k_in2 (i := 102) rfl rfl
theorem q_343 : Cond.code y_SM_more c_SM_more 3 (some .boolean) ∈ kG := k_in2 (i := 103) rfl rfl
theorem q_344 : Cond.methodLink R_SM 47 y_SM_requireTree ∈ kG := k_in2 (i := 104) rfl rfl
theorem q_346 : Cond.instanceMethod y_SM_requireTree ∈ kG := k_in2 (i := 106) rfl rfl
theorem q_347 : Cond.code y_SM_requireTree c_SM_requireTree 2 none ∈ kG := k_in2 (i := 107) rfl rfl
theorem q_348 : Cond.methodLink R_SM 147 y_F_hasTree ∈ kG := k_in2 (i := 108) rfl rfl
theorem q_349 : Cond.instanceMethod y_F_hasTree ∈ kG := k_in2 (i := 109) rfl rfl
theorem q_350 : Cond.selects R_F y_F_hasTree y_F_hasTree ∈ kG := k_in2 (i := 110) rfl rfl
theorem q_351 : Cond.code y_F_hasTree c_F_hasTree 2 (some .boolean) ∈ kG := k_in2 (i := 111) rfl rfl
theorem q_352 : Cond.classLink R_SM 150 "java/lang/IndexOutOfBoundsException" ∈ kG := k_in2 (i := 112) rfl rfl
theorem q_353 : Cond.instantiable "java/lang/IndexOutOfBoundsException" 6 ∈ kG := k_in2 (i := 113) rfl rfl
theorem q_355 : Cond.selects "java/lang/IndexOutOfBoundsException" ⟨"java/lang/Throwable", "fillInStackTrace", "(I)Ljava/lang/Throwable;"⟩ ⟨"java/lang/Throwable", "fillInStackTrace", "(I)Ljava/lang/Throwable;"⟩ ∈ kG := k_in2 (i := 115) rfl rfl
theorem q_362 : Cond.methodLink R_SM 154 ⟨"java/lang/IndexOutOfBoundsException", "<init>", "(Ljava/lang/String;)V"⟩ ∈ kG := k_in2 (i := 122) rfl rfl
theorem q_363 : Cond.instanceMethod ⟨"java/lang/IndexOutOfBoundsException", "<init>", "(Ljava/lang/String;)V"⟩ ∈ kG := k_in2 (i := 123) rfl rfl
theorem q_364 : Cond.code ⟨"java/lang/IndexOutOfBoundsException", "<init>", "(Ljava/lang/String;)V"⟩ prog_13_method_2_code 2 none ∈ kG := k_in2 (i := 124) rfl rfl
theorem q_365 : Cond.methodLink "java/lang/IndexOutOfBoundsException" 7 ⟨"java/lang/RuntimeException", "<init>", "(Ljava/lang/String;)V"⟩ ∈ kG := k_in2 (i := 125) rfl rfl
theorem q_368 : Cond.methodLink R_SM 51 y_F_mayTake ∈ kG := k_in2 (i := 128) rfl rfl
theorem q_369 : Cond.instanceMethod y_F_mayTake ∈ kG := k_in2 (i := 129) rfl rfl
theorem q_370 : Cond.selects R_F y_F_mayTake y_F_mayTake ∈ kG := k_in2 (i := 130) rfl rfl
theorem q_371 : Cond.code y_F_mayTake c_F_mayTake 3 (some .boolean) ∈ kG := k_in2 (i := 131) rfl rfl
theorem q_373 : Cond.methodLink R_SM 62 y_F_addPart ∈ kG := k_in2 (i := 133) rfl rfl
theorem q_374 : Cond.instanceMethod y_F_addPart ∈ kG := k_in2 (i := 134) rfl rfl
theorem q_375 : Cond.selects R_F y_F_addPart y_F_addPart ∈ kG := k_in2 (i := 135) rfl rfl
theorem q_376 : Cond.code y_F_addPart c_F_addPart 7 (some .boolean) ∈ kG := k_in2 (i := 136) rfl rfl
theorem q_377 : Cond.methodLink R_F 57 y_F_placeFor ∈ kG := k_in2 (i := 137) rfl rfl
theorem q_379 : Cond.instanceMethod y_F_placeFor ∈ kG := k_in2 (i := 139) rfl rfl
theorem q_380 : Cond.code y_F_placeFor c_F_placeFor 4 (some .int) ∈ kG := k_in2 (i := 140) rfl rfl
theorem q_381 : Cond.methodLink R_F 66 y_F_isAnyOrder ∈ kG := k_in2 (i := 141) rfl rfl
theorem q_382 : Cond.instanceMethod y_F_isAnyOrder ∈ kG := k_in2 (i := 142) rfl rfl
theorem q_383 : Cond.selects R_F y_F_isAnyOrder y_F_isAnyOrder ∈ kG := k_in2 (i := 143) rfl rfl
theorem q_384 : Cond.code y_F_isAnyOrder c_F_isAnyOrder 2 (some .boolean) ∈ kG := k_in2 (i := 144) rfl rfl
theorem q_385 : Cond.methodLink R_F 70 y_F_partAt ∈ kG := k_in2 (i := 145) rfl rfl
theorem q_386 : Cond.instanceMethod y_F_partAt ∈ kG := k_in2 (i := 146) rfl rfl
theorem q_387 : Cond.selects R_F y_F_partAt y_F_partAt ∈ kG := k_in2 (i := 147) rfl rfl
theorem q_388 : Cond.code y_F_partAt c_F_partAt 3 (some .int) ∈ kG := k_in2 (i := 148) rfl rfl
theorem q_389 : Cond.methodLink R_F 73 y_F_compare ∈ kG := k_in2 (i := 149) rfl rfl
theorem q_390 : Cond.instanceMethod y_F_compare ∈ kG := k_in2 (i := 150) rfl rfl
theorem q_391 : Cond.selects R_F y_F_compare y_F_compare ∈ kG := k_in2 (i := 151) rfl rfl
theorem q_392 : Cond.code y_F_compare c_F_compare 3 (some .int) ∈ kG := k_in2 (i := 152) rfl rfl
theorem q_393 : Cond.methodLink R_F 76 y_F_compareFrom ∈ kG := k_in2 (i := 153) rfl rfl
theorem q_394 : Cond.static y_F_compareFrom ∈ kG := k_in2 (i := 154) rfl rfl
theorem q_395 : Cond.code y_F_compareFrom c_F_compareFrom 9 (some .int) ∈ kG := k_in2 (i := 155) rfl rfl
theorem q_396 : Cond.methodLink R_F 61 ⟨"java/lang/Math", "max", "(II)I"⟩ ∈ kG := k_in2 (i := 156) rfl rfl
theorem q_397 : Cond.static ⟨"java/lang/Math", "max", "(II)I"⟩ ∈ kG := k_in2 (i := 157) rfl rfl
theorem q_398 : Cond.code ⟨"java/lang/Math", "max", "(II)I"⟩ prog_15_method_65_code 2 (some .int) ∈ kG := k_in2 (i := 158) rfl rfl
theorem q_399 : Cond.methodLink R_La 83 y_La_hole ∈ kG := k_in2 (i := 159) rfl rfl
theorem q_400 : Cond.static y_La_hole ∈ kG := k_in2 (i := 160) rfl rfl
theorem q_402 : Cond.methodLink R_La 26 y_SM_hole ∈ kG := k_in2 (i := 162) rfl rfl
theorem q_403 : Cond.instanceMethod y_SM_hole ∈ kG := k_in2 (i := 163) rfl rfl
theorem q_404 : Cond.selects R_SM y_SM_hole y_SM_hole ∈ kG := k_in2 (i := 164) rfl rfl
theorem q_405 : Cond.code y_SM_hole c_SM_hole 3 (some .int) ∈ kG := k_in2 (i := 165) rfl rfl
theorem q_406 : Cond.methodLink R_La 86 y_La_test ∈ kG := k_in2 (i := 166) rfl rfl
theorem q_407 : Cond.static y_La_test ∈ kG := k_in2 (i := 167) rfl rfl
theorem q_409 : Cond.methodLink R_La 30 y_SM_test ∈ kG := k_in2 (i := 169) rfl rfl
theorem q_410 : Cond.instanceMethod y_SM_test ∈ kG := k_in2 (i := 170) rfl rfl
theorem q_411 : Cond.selects R_SM y_SM_test y_SM_test ∈ kG := k_in2 (i := 171) rfl rfl
theorem q_412 : Cond.code y_SM_test c_SM_test 4 (some .boolean) ∈ kG := k_in2 (i := 172) rfl rfl
theorem q_413 : Cond.methodLink R_SM 65 y_F_isHole ∈ kG := k_in2 (i := 173) rfl rfl
theorem q_414 : Cond.instanceMethod y_F_isHole ∈ kG := k_in2 (i := 174) rfl rfl
theorem q_415 : Cond.selects R_F y_F_isHole y_F_isHole ∈ kG := k_in2 (i := 175) rfl rfl
theorem q_416 : Cond.code y_F_isHole c_F_isHole 2 (some .boolean) ∈ kG := k_in2 (i := 176) rfl rfl
theorem q_418 : Cond.methodLink R_SM 71 y_F_addTest ∈ kG := k_in2 (i := 178) rfl rfl
theorem q_419 : Cond.instanceMethod y_F_addTest ∈ kG := k_in2 (i := 179) rfl rfl
theorem q_420 : Cond.selects R_F y_F_addTest y_F_addTest ∈ kG := k_in2 (i := 180) rfl rfl
theorem q_421 : Cond.code y_F_addTest c_F_addTest 5 (some .boolean) ∈ kG := k_in2 (i := 181) rfl rfl
theorem q_422 : Cond.methodLink R_La 90 y_La_match ∈ kG := k_in2 (i := 182) rfl rfl
theorem q_423 : Cond.static y_La_match ∈ kG := k_in2 (i := 183) rfl rfl
theorem q_425 : Cond.methodLink R_La 34 y_SM_match ∈ kG := k_in2 (i := 185) rfl rfl
theorem q_426 : Cond.instanceMethod y_SM_match ∈ kG := k_in2 (i := 186) rfl rfl
theorem q_427 : Cond.selects R_SM y_SM_match y_SM_match ∈ kG := k_in2 (i := 187) rfl rfl
theorem q_428 : Cond.code y_SM_match c_SM_match 4 (some .int) ∈ kG := k_in2 (i := 188) rfl rfl
theorem q_429 : Cond.methodLink R_SM 75 y_SM_requirePlain ∈ kG := k_in2 (i := 189) rfl rfl
theorem q_431 : Cond.instanceMethod y_SM_requirePlain ∈ kG := k_in2 (i := 191) rfl rfl
theorem q_432 : Cond.code y_SM_requirePlain c_SM_requirePlain 2 none ∈ kG := k_in2 (i := 192) rfl rfl
theorem q_433 : Cond.methodLink R_SM 155 y_F_isPlain ∈ kG := k_in2 (i := 193) rfl rfl
theorem q_434 : Cond.instanceMethod y_F_isPlain ∈ kG := k_in2 (i := 194) rfl rfl
theorem q_435 : Cond.selects R_F y_F_isPlain y_F_isPlain ∈ kG := k_in2 (i := 195) rfl rfl
theorem q_436 : Cond.code y_F_isPlain c_F_isPlain 2 (some .boolean) ∈ kG := k_in2 (i := 196) rfl rfl
theorem q_438 : Cond.methodLink R_SM 78 y_Se_run ∈ kG := k_in2 (i := 198) rfl rfl
theorem q_439 : Cond.instanceMethod y_Se_run ∈ kG := k_in2 (i := 199) rfl rfl
theorem q_440 : Cond.selects R_Se y_Se_run y_Se_run ∈ kG := k_in2 (i := 200) rfl rfl
theorem q_441 : Cond.code y_Se_run c_Se_run 6 none ∈ kG := k_in2 (i := 201) rfl rfl
theorem q_442 : Cond.methodLink R_Se 70 y_Se_clear ∈ kG := k_in2 (i := 202) rfl rfl
theorem q_443 : Cond.instanceMethod y_Se_clear ∈ kG := k_in2 (i := 203) rfl rfl
theorem q_444 : Cond.selects R_Se y_Se_clear y_Se_clear ∈ kG := k_in2 (i := 204) rfl rfl
theorem q_445 : Cond.code y_Se_clear c_Se_clear 1 none ∈ kG := k_in2 (i := 205) rfl rfl
theorem q_446 : Cond.methodLink R_Se 66 y_Mt_clear ∈ kG := k_in2 (i := 206) rfl rfl
theorem q_447 : Cond.instanceMethod y_Mt_clear ∈ kG := k_in2 (i := 207) rfl rfl
theorem q_448 : Cond.selects R_Mt y_Mt_clear y_Mt_clear ∈ kG := k_in2 (i := 208) rfl rfl
theorem q_449 : Cond.code y_Mt_clear c_Mt_clear 1 none ∈ kG := k_in2 (i := 209) rfl rfl
theorem q_450 : Cond.methodLink R_Se 69 y_Nm_clear ∈ kG := k_in2 (i := 210) rfl rfl
theorem q_451 : Cond.instanceMethod y_Nm_clear ∈ kG := k_in2 (i := 211) rfl rfl
theorem q_452 : Cond.selects R_Nm y_Nm_clear y_Nm_clear ∈ kG := k_in2 (i := 212) rfl rfl
theorem q_453 : Cond.code y_Nm_clear c_Nm_clear 1 none ∈ kG := k_in2 (i := 213) rfl rfl
theorem q_454 : Cond.methodLink R_Nm 21 y_Ar_fill ∈ kG := k_in2 (i := 214) rfl rfl
theorem q_455 : Cond.static y_Ar_fill ∈ kG := k_in2 (i := 215) rfl rfl
theorem q_456 : Cond.code y_Ar_fill c_Ar_fill 4 none ∈ kG := k_in2 (i := 216) rfl rfl
theorem q_457 : Cond.methodLink R_Se 71 y_Pl_lay ∈ kG := k_in2 (i := 217) rfl rfl
theorem q_458 : Cond.instanceMethod y_Pl_lay ∈ kG := k_in2 (i := 218) rfl rfl
theorem q_459 : Cond.selects R_Pl y_Pl_lay y_Pl_lay ∈ kG := k_in2 (i := 219) rfl rfl
theorem q_460 : Cond.code y_Pl_lay c_Pl_lay 3 none ∈ kG := k_in2 (i := 220) rfl rfl
theorem q_461 : Cond.methodLink R_Pl 26 y_Pl_layParts ∈ kG := k_in2 (i := 221) rfl rfl
theorem q_462 : Cond.static y_Pl_layParts ∈ kG := k_in2 (i := 222) rfl rfl
theorem q_463 : Cond.code y_Pl_layParts c_Pl_layParts 8 none ∈ kG := k_in2 (i := 223) rfl rfl
theorem q_464 : Cond.methodLink R_Pl 30 y_F_partCount ∈ kG := k_in2 (i := 224) rfl rfl
theorem q_465 : Cond.instanceMethod y_F_partCount ∈ kG := k_in2 (i := 225) rfl rfl
theorem q_466 : Cond.selects R_F y_F_partCount y_F_partCount ∈ kG := k_in2 (i := 226) rfl rfl
theorem q_467 : Cond.code y_F_partCount c_F_partCount 2 (some .int) ∈ kG := k_in2 (i := 227) rfl rfl
theorem q_468 : Cond.methodLink R_Pl 36 y_F_partAt ∈ kG := k_in2 (i := 228) rfl rfl
theorem q_469 : Cond.methodLink R_Se 75 y_Se_release ∈ kG := k_in2 (i := 229) rfl rfl
theorem q_471 : Cond.instanceMethod y_Se_release ∈ kG := k_in2 (i := 231) rfl rfl
theorem q_472 : Cond.code y_Se_release c_Se_release 3 none ∈ kG := k_in2 (i := 232) rfl rfl
theorem q_473 : Cond.methodLink R_Se 116 y_Pl_parentOf ∈ kG := k_in2 (i := 233) rfl rfl
theorem q_474 : Cond.instanceMethod y_Pl_parentOf ∈ kG := k_in2 (i := 234) rfl rfl
theorem q_475 : Cond.selects R_Pl y_Pl_parentOf y_Pl_parentOf ∈ kG := k_in2 (i := 235) rfl rfl
theorem q_476 : Cond.code y_Pl_parentOf c_Pl_parentOf 2 (some .int) ∈ kG := k_in2 (i := 236) rfl rfl
theorem q_477 : Cond.methodLink R_Se 90 y_Pl_treeAt ∈ kG := k_in2 (i := 237) rfl rfl
theorem q_478 : Cond.instanceMethod y_Pl_treeAt ∈ kG := k_in2 (i := 238) rfl rfl
theorem q_479 : Cond.selects R_Pl y_Pl_treeAt y_Pl_treeAt ∈ kG := k_in2 (i := 239) rfl rfl
theorem q_480 : Cond.code y_Pl_treeAt c_Pl_treeAt 2 (some .int) ∈ kG := k_in3 (i := 0) rfl rfl
theorem q_481 : Cond.methodLink R_Se 93 y_F_isHole ∈ kG := k_in3 (i := 1) rfl rfl
theorem q_482 : Cond.methodLink R_Se 119 y_F_nameOf ∈ kG := k_in3 (i := 2) rfl rfl
theorem q_483 : Cond.instanceMethod y_F_nameOf ∈ kG := k_in3 (i := 3) rfl rfl
theorem q_484 : Cond.selects R_F y_F_nameOf y_F_nameOf ∈ kG := k_in3 (i := 4) rfl rfl
theorem q_485 : Cond.code y_F_nameOf c_F_nameOf 2 (some .int) ∈ kG := k_in3 (i := 5) rfl rfl
theorem q_486 : Cond.methodLink R_Se 122 y_Nm_takeBack ∈ kG := k_in3 (i := 6) rfl rfl
theorem q_487 : Cond.instanceMethod y_Nm_takeBack ∈ kG := k_in3 (i := 7) rfl rfl
theorem q_488 : Cond.selects R_Nm y_Nm_takeBack y_Nm_takeBack ∈ kG := k_in3 (i := 8) rfl rfl
theorem q_489 : Cond.code y_Nm_takeBack c_Nm_takeBack 3 none ∈ kG := k_in3 (i := 9) rfl rfl
theorem q_490 : Cond.methodLink R_Se 79 y_Se_choose ∈ kG := k_in3 (i := 10) rfl rfl
theorem q_492 : Cond.instanceMethod y_Se_choose ∈ kG := k_in3 (i := 12) rfl rfl
theorem q_493 : Cond.code y_Se_choose c_Se_choose 3 (some .boolean) ∈ kG := k_in3 (i := 13) rfl rfl
theorem q_494 : Cond.methodLink R_Se 126 y_Se_firstChoice ∈ kG := k_in3 (i := 14) rfl rfl
theorem q_496 : Cond.instanceMethod y_Se_firstChoice ∈ kG := k_in3 (i := 16) rfl rfl
theorem q_497 : Cond.code y_Se_firstChoice c_Se_firstChoice 3 (some .int) ∈ kG := k_in3 (i := 17) rfl rfl
theorem q_498 : Cond.methodLink R_Se 132 y_F_isHoleOfKind ∈ kG := k_in3 (i := 18) rfl rfl
theorem q_499 : Cond.instanceMethod y_F_isHoleOfKind ∈ kG := k_in3 (i := 19) rfl rfl
theorem q_500 : Cond.selects R_F y_F_isHoleOfKind y_F_isHoleOfKind ∈ kG := k_in3 (i := 20) rfl rfl
theorem q_501 : Cond.code y_F_isHoleOfKind c_F_isHoleOfKind 3 (some .boolean) ∈ kG := k_in3 (i := 21) rfl rfl
theorem q_502 : Cond.methodLink R_Se 135 y_Pc_lowest ∈ kG := k_in3 (i := 22) rfl rfl
theorem q_503 : Cond.static y_Pc_lowest ∈ kG := k_in3 (i := 23) rfl rfl
theorem q_504 : Cond.code y_Pc_lowest c_Pc_lowest 6 (some .int) ∈ kG := k_in3 (i := 24) rfl rfl
theorem q_505 : Cond.methodLink R_Se 129 y_Se_laterChoice ∈ kG := k_in3 (i := 25) rfl rfl
theorem q_507 : Cond.instanceMethod y_Se_laterChoice ∈ kG := k_in3 (i := 27) rfl rfl
theorem q_508 : Cond.code y_Se_laterChoice c_Se_laterChoice 4 (some .int) ∈ kG := k_in3 (i := 28) rfl rfl
theorem q_509 : Cond.methodLink R_Se 141 y_F_isAnyOrder ∈ kG := k_in3 (i := 29) rfl rfl
theorem q_510 : Cond.methodLink R_Se 144 y_F_takesSeveral ∈ kG := k_in3 (i := 30) rfl rfl
theorem q_511 : Cond.instanceMethod y_F_takesSeveral ∈ kG := k_in3 (i := 31) rfl rfl
theorem q_512 : Cond.selects R_F y_F_takesSeveral y_F_takesSeveral ∈ kG := k_in3 (i := 32) rfl rfl
theorem q_513 : Cond.code y_F_takesSeveral c_F_takesSeveral 2 (some .boolean) ∈ kG := k_in3 (i := 33) rfl rfl
theorem q_514 : Cond.methodLink R_F 53 y_F_isHoleOfKind ∈ kG := k_in3 (i := 34) rfl rfl
theorem q_515 : Cond.methodLink R_Se 147 y_Pc_nextChoice ∈ kG := k_in3 (i := 35) rfl rfl
theorem q_516 : Cond.static y_Pc_nextChoice ∈ kG := k_in3 (i := 36) rfl rfl
theorem q_517 : Cond.code y_Pc_nextChoice c_Pc_nextChoice 6 (some .int) ∈ kG := k_in3 (i := 37) rfl rfl
theorem q_518 : Cond.methodLink R_Pc 9 y_Pc_behind ∈ kG := k_in3 (i := 38) rfl rfl
theorem q_519 : Cond.static y_Pc_behind ∈ kG := k_in3 (i := 39) rfl rfl
theorem q_520 : Cond.code y_Pc_behind c_Pc_behind 2 (some .int) ∈ kG := k_in3 (i := 40) rfl rfl
theorem q_521 : Cond.methodLink R_Pc 15 y_Pc_lowest ∈ kG := k_in3 (i := 41) rfl rfl
theorem q_522 : Cond.methodLink R_Se 150 y_In_bitCount ∈ kG := k_in3 (i := 42) rfl rfl
theorem q_523 : Cond.static y_In_bitCount ∈ kG := k_in3 (i := 43) rfl rfl
theorem q_524 : Cond.code y_In_bitCount c_In_bitCount 1 (some .int) ∈ kG := k_in3 (i := 44) rfl rfl
theorem q_525 : Cond.constant R_In 265 1431655765 ∈ kG := k_in3 (i := 45) rfl rfl
theorem q_526 : Cond.constant R_In 266 858993459 ∈ kG := k_in3 (i := 46) rfl rfl
theorem q_527 : Cond.constant R_In 267 252645135 ∈ kG := k_in3 (i := 47) rfl rfl
theorem q_528 : Cond.methodLink R_Se 155 y_Pc_behind ∈ kG := k_in3 (i := 48) rfl rfl
theorem q_529 : Cond.methodLink R_Se 83 y_Se_makeTry ∈ kG := k_in3 (i := 49) rfl rfl
theorem q_531 : Cond.instanceMethod y_Se_makeTry ∈ kG := k_in3 (i := 51) rfl rfl
theorem q_532 : Cond.code y_Se_makeTry c_Se_makeTry 4 (some .int) ∈ kG := k_in3 (i := 52) rfl rfl
theorem q_533 : Cond.methodLink R_Se 87 y_Se_gatherRow ∈ kG := k_in3 (i := 53) rfl rfl
theorem q_535 : Cond.instanceMethod y_Se_gatherRow ∈ kG := k_in3 (i := 55) rfl rfl
theorem q_536 : Cond.code y_Se_gatherRow c_Se_gatherRow 4 none ∈ kG := k_in3 (i := 56) rfl rfl
theorem q_537 : Cond.methodLink R_Se 158 y_F_partCount ∈ kG := k_in3 (i := 57) rfl rfl
theorem q_538 : Cond.methodLink R_Se 161 y_F_partAt ∈ kG := k_in3 (i := 58) rfl rfl
theorem q_539 : Cond.methodLink R_Se 98 y_Se_fitsHole ∈ kG := k_in3 (i := 59) rfl rfl
theorem q_541 : Cond.instanceMethod y_Se_fitsHole ∈ kG := k_in3 (i := 61) rfl rfl
theorem q_542 : Cond.code y_Se_fitsHole c_Se_fitsHole 4 (some .boolean) ∈ kG := k_in3 (i := 62) rfl rfl
theorem q_543 : Cond.methodLink R_Se 170 y_F_isLeaf ∈ kG := k_in3 (i := 63) rfl rfl
theorem q_544 : Cond.instanceMethod y_F_isLeaf ∈ kG := k_in3 (i := 64) rfl rfl
theorem q_545 : Cond.selects R_F y_F_isLeaf y_F_isLeaf ∈ kG := k_in3 (i := 65) rfl rfl
theorem q_546 : Cond.code y_F_isLeaf c_F_isLeaf 2 (some .boolean) ∈ kG := k_in3 (i := 66) rfl rfl
theorem q_547 : Cond.methodLink R_Se 173 y_F_passesTests ∈ kG := k_in3 (i := 67) rfl rfl
theorem q_548 : Cond.instanceMethod y_F_passesTests ∈ kG := k_in3 (i := 68) rfl rfl
theorem q_549 : Cond.selects R_F y_F_passesTests y_F_passesTests ∈ kG := k_in3 (i := 69) rfl rfl
theorem q_550 : Cond.code y_F_passesTests c_F_passesTests 6 (some .boolean) ∈ kG := k_in3 (i := 70) rfl rfl
theorem q_551 : Cond.methodLink R_F 80 y_F_passes ∈ kG := k_in3 (i := 71) rfl rfl
theorem q_553 : Cond.instanceMethod y_F_passes ∈ kG := k_in3 (i := 73) rfl rfl
theorem q_554 : Cond.code y_F_passes c_F_passes 6 (some .boolean) ∈ kG := k_in3 (i := 74) rfl rfl
theorem q_555 : Cond.methodLink R_F 84 y_F_isLeaf ∈ kG := k_in3 (i := 75) rfl rfl
theorem q_556 : Cond.methodLink R_F 87 y_F_isNode ∈ kG := k_in3 (i := 76) rfl rfl
theorem q_557 : Cond.instanceMethod y_F_isNode ∈ kG := k_in3 (i := 77) rfl rfl
theorem q_558 : Cond.selects R_F y_F_isNode y_F_isNode ∈ kG := k_in3 (i := 78) rfl rfl
theorem q_559 : Cond.code y_F_isNode c_F_isNode 2 (some .boolean) ∈ kG := k_in3 (i := 79) rfl rfl
theorem q_560 : Cond.methodLink R_Se 177 y_Nm_hasNothing ∈ kG := k_in3 (i := 80) rfl rfl
theorem q_561 : Cond.instanceMethod y_Nm_hasNothing ∈ kG := k_in3 (i := 81) rfl rfl
theorem q_562 : Cond.selects R_Nm y_Nm_hasNothing y_Nm_hasNothing ∈ kG := k_in3 (i := 82) rfl rfl
theorem q_563 : Cond.code y_Nm_hasNothing c_Nm_hasNothing 2 (some .boolean) ∈ kG := k_in3 (i := 83) rfl rfl
theorem q_564 : Cond.methodLink R_Se 180 y_Nm_give ∈ kG := k_in3 (i := 84) rfl rfl
theorem q_565 : Cond.instanceMethod y_Nm_give ∈ kG := k_in3 (i := 85) rfl rfl
theorem q_566 : Cond.selects R_Nm y_Nm_give y_Nm_give ∈ kG := k_in3 (i := 86) rfl rfl
theorem q_567 : Cond.code y_Nm_give c_Nm_give 5 none ∈ kG := k_in3 (i := 87) rfl rfl
theorem q_568 : Cond.methodLink R_Nm 27 ⟨"java/lang/System", "arraycopy", "(Ljava/lang/Object;ILjava/lang/Object;II)V"⟩ ∈ kG := k_in3 (i := 88) rfl rfl
theorem q_569 : Cond.static ⟨"java/lang/System", "arraycopy", "(Ljava/lang/Object;ILjava/lang/Object;II)V"⟩ ∈ kG := k_in3 (i := 89) rfl rfl
theorem q_570 : Cond.native ⟨"java/lang/System", "arraycopy", "(Ljava/lang/Object;ILjava/lang/Object;II)V"⟩ ∈ kG := k_in3 (i := 90) rfl rfl
theorem q_571 : Cond.methodLink R_Se 184 y_Nm_hasSame ∈ kG := k_in3 (i := 91) rfl rfl
theorem q_572 : Cond.instanceMethod y_Nm_hasSame ∈ kG := k_in3 (i := 92) rfl rfl
theorem q_573 : Cond.selects R_Nm y_Nm_hasSame y_Nm_hasSame ∈ kG := k_in3 (i := 93) rfl rfl
theorem q_574 : Cond.code y_Nm_hasSame c_Nm_hasSame 6 (some .boolean) ∈ kG := k_in3 (i := 94) rfl rfl
theorem q_575 : Cond.methodLink R_Nm 33 y_F_compare ∈ kG := k_in3 (i := 95) rfl rfl
theorem q_576 : Cond.methodLink R_Se 102 y_Se_fitsLeafOrNode ∈ kG := k_in3 (i := 96) rfl rfl
theorem q_578 : Cond.instanceMethod y_Se_fitsLeafOrNode ∈ kG := k_in3 (i := 98) rfl rfl
theorem q_579 : Cond.code y_Se_fitsLeafOrNode c_Se_fitsLeafOrNode 3 (some .boolean) ∈ kG := k_in3 (i := 99) rfl rfl
theorem q_580 : Cond.methodLink R_Se 164 y_F_looksLike ∈ kG := k_in3 (i := 100) rfl rfl
theorem q_581 : Cond.instanceMethod y_F_looksLike ∈ kG := k_in3 (i := 101) rfl rfl
theorem q_582 : Cond.selects R_F y_F_looksLike y_F_looksLike ∈ kG := k_in3 (i := 102) rfl rfl
theorem q_583 : Cond.code y_F_looksLike c_F_looksLike 3 (some .boolean) ∈ kG := k_in3 (i := 103) rfl rfl
theorem q_584 : Cond.methodLink R_Se 167 y_Pc_all ∈ kG := k_in3 (i := 104) rfl rfl
theorem q_585 : Cond.static y_Pc_all ∈ kG := k_in3 (i := 105) rfl rfl
theorem q_586 : Cond.code y_Pc_all c_Pc_all 1 (some .int) ∈ kG := k_in3 (i := 106) rfl rfl
theorem q_587 : Cond.methodLink R_Se 105 y_Se_rowsEndHere ∈ kG := k_in3 (i := 107) rfl rfl
theorem q_589 : Cond.instanceMethod y_Se_rowsEndHere ∈ kG := k_in3 (i := 109) rfl rfl
theorem q_590 : Cond.code y_Se_rowsEndHere c_Se_rowsEndHere 5 (some .boolean) ∈ kG := k_in3 (i := 110) rfl rfl
theorem q_591 : Cond.methodLink R_Se 188 y_F_isNode ∈ kG := k_in3 (i := 111) rfl rfl
theorem q_592 : Cond.methodLink R_Se 191 y_Pl_isLastInRow ∈ kG := k_in3 (i := 112) rfl rfl
theorem q_593 : Cond.instanceMethod y_Pl_isLastInRow ∈ kG := k_in3 (i := 113) rfl rfl
theorem q_594 : Cond.selects R_Pl y_Pl_isLastInRow y_Pl_isLastInRow ∈ kG := k_in3 (i := 114) rfl rfl
theorem q_595 : Cond.code y_Pl_isLastInRow c_Pl_isLastInRow 2 (some .boolean) ∈ kG := k_in3 (i := 115) rfl rfl
theorem q_596 : Cond.methodLink R_Se 108 y_Pl_slotCount ∈ kG := k_in3 (i := 116) rfl rfl
theorem q_597 : Cond.instanceMethod y_Pl_slotCount ∈ kG := k_in3 (i := 117) rfl rfl
theorem q_598 : Cond.selects R_Pl y_Pl_slotCount y_Pl_slotCount ∈ kG := k_in3 (i := 118) rfl rfl
theorem q_599 : Cond.code y_Pl_slotCount c_Pl_slotCount 1 (some .int) ∈ kG := k_in3 (i := 119) rfl rfl
theorem q_600 : Cond.methodLink R_Se 112 y_Mt_keep ∈ kG := k_in3 (i := 120) rfl rfl
theorem q_601 : Cond.instanceMethod y_Mt_keep ∈ kG := k_in3 (i := 121) rfl rfl
theorem q_602 : Cond.selects R_Mt y_Mt_keep y_Mt_keep ∈ kG := k_in3 (i := 122) rfl rfl
theorem q_603 : Cond.code y_Mt_keep c_Mt_keep 2 none ∈ kG := k_in3 (i := 123) rfl rfl
theorem q_604 : Cond.methodLink R_Mt 25 ⟨"java/lang/System", "arraycopy", "(Ljava/lang/Object;ILjava/lang/Object;II)V"⟩ ∈ kG := k_in3 (i := 124) rfl rfl
theorem q_605 : Cond.methodLink R_SM 82 y_Se_isSpent ∈ kG := k_in3 (i := 125) rfl rfl
theorem q_606 : Cond.instanceMethod y_Se_isSpent ∈ kG := k_in3 (i := 126) rfl rfl
theorem q_607 : Cond.selects R_Se y_Se_isSpent y_Se_isSpent ∈ kG := k_in3 (i := 127) rfl rfl
theorem q_608 : Cond.code y_Se_isSpent c_Se_isSpent 1 (some .boolean) ∈ kG := k_in3 (i := 128) rfl rfl
theorem q_609 : Cond.methodLink R_SM 86 y_Se_found ∈ kG := k_in3 (i := 129) rfl rfl
theorem q_610 : Cond.instanceMethod y_Se_found ∈ kG := k_in3 (i := 130) rfl rfl
theorem q_611 : Cond.selects R_Se y_Se_found y_Se_found ∈ kG := k_in3 (i := 131) rfl rfl
theorem q_612 : Cond.code y_Se_found c_Se_found 1 (some .int) ∈ kG := k_in3 (i := 132) rfl rfl
theorem q_613 : Cond.methodLink R_La 97 y_La_bound ∈ kG := k_in3 (i := 133) rfl rfl
theorem q_614 : Cond.static y_La_bound ∈ kG := k_in3 (i := 134) rfl rfl
theorem q_616 : Cond.methodLink R_La 38 y_SM_bound ∈ kG := k_in3 (i := 136) rfl rfl
theorem q_617 : Cond.instanceMethod y_SM_bound ∈ kG := k_in3 (i := 137) rfl rfl
theorem q_618 : Cond.selects R_SM y_SM_bound y_SM_bound ∈ kG := k_in3 (i := 138) rfl rfl
theorem q_619 : Cond.code y_SM_bound c_SM_bound 4 (some .int) ∈ kG := k_in3 (i := 139) rfl rfl
theorem q_620 : Cond.methodLink R_SM 93 y_SM_requireMatch ∈ kG := k_in3 (i := 140) rfl rfl
theorem q_622 : Cond.instanceMethod y_SM_requireMatch ∈ kG := k_in3 (i := 142) rfl rfl
theorem q_623 : Cond.code y_SM_requireMatch c_SM_requireMatch 2 none ∈ kG := k_in3 (i := 143) rfl rfl
theorem q_625 : Cond.methodLink R_SM 100 y_Mt_treeOf ∈ kG := k_in3 (i := 145) rfl rfl
theorem q_626 : Cond.instanceMethod y_Mt_treeOf ∈ kG := k_in3 (i := 146) rfl rfl
theorem q_627 : Cond.selects R_Mt y_Mt_treeOf y_Mt_treeOf ∈ kG := k_in3 (i := 147) rfl rfl
theorem q_628 : Cond.code y_Mt_treeOf c_Mt_treeOf 4 (some .int) ∈ kG := k_in3 (i := 148) rfl rfl
theorem q_629 : Cond.methodLink R_Mt 32 y_Mt_lengthOf ∈ kG := k_in3 (i := 149) rfl rfl
theorem q_630 : Cond.instanceMethod y_Mt_lengthOf ∈ kG := k_in3 (i := 150) rfl rfl
theorem q_631 : Cond.selects R_Mt y_Mt_lengthOf y_Mt_lengthOf ∈ kG := k_in3 (i := 151) rfl rfl
theorem q_632 : Cond.code y_Mt_lengthOf c_Mt_lengthOf 3 (some .int) ∈ kG := k_in3 (i := 152) rfl rfl
theorem q_633 : Cond.methodLink R_La 100 y_La_many ∈ kG := k_in3 (i := 153) rfl rfl
theorem q_634 : Cond.static y_La_many ∈ kG := k_in3 (i := 154) rfl rfl
theorem q_636 : Cond.methodLink R_La 41 y_SM_many ∈ kG := k_in3 (i := 156) rfl rfl
theorem q_637 : Cond.instanceMethod y_SM_many ∈ kG := k_in3 (i := 157) rfl rfl
theorem q_638 : Cond.selects R_SM y_SM_many y_SM_many ∈ kG := k_in3 (i := 158) rfl rfl
theorem q_639 : Cond.code y_SM_many c_SM_many 3 (some .int) ∈ kG := k_in3 (i := 159) rfl rfl
theorem q_640 : Cond.methodLink R_SM 105 y_Mt_lengthOf ∈ kG := k_in3 (i := 160) rfl rfl
theorem q_641 : Cond.methodLink R_La 103 y_La_rule ∈ kG := k_in3 (i := 161) rfl rfl
theorem q_642 : Cond.static y_La_rule ∈ kG := k_in3 (i := 162) rfl rfl
theorem q_644 : Cond.methodLink R_La 44 y_SM_rule ∈ kG := k_in3 (i := 164) rfl rfl
theorem q_645 : Cond.instanceMethod y_SM_rule ∈ kG := k_in3 (i := 165) rfl rfl
theorem q_646 : Cond.selects R_SM y_SM_rule y_SM_rule ∈ kG := k_in3 (i := 166) rfl rfl
theorem q_647 : Cond.code y_SM_rule c_SM_rule 2 (some .int) ∈ kG := k_in3 (i := 167) rfl rfl
theorem q_649 : Cond.methodLink R_SM 114 y_F_close ∈ kG := k_in3 (i := 169) rfl rfl
theorem q_650 : Cond.instanceMethod y_F_close ∈ kG := k_in3 (i := 170) rfl rfl
theorem q_651 : Cond.selects R_F y_F_close y_F_close ∈ kG := k_in3 (i := 171) rfl rfl
theorem q_652 : Cond.code y_F_close c_F_close 2 none ∈ kG := k_in3 (i := 172) rfl rfl
theorem q_653 : Cond.methodLink R_La 106 y_La_net ∈ kG := k_in3 (i := 173) rfl rfl
theorem q_654 : Cond.static y_La_net ∈ kG := k_in3 (i := 174) rfl rfl
theorem q_656 : Cond.methodLink R_La 47 y_SM_net ∈ kG := k_in3 (i := 176) rfl rfl
theorem q_657 : Cond.instanceMethod y_SM_net ∈ kG := k_in3 (i := 177) rfl rfl
theorem q_658 : Cond.selects R_SM y_SM_net y_SM_net ∈ kG := k_in3 (i := 178) rfl rfl
theorem q_659 : Cond.code y_SM_net c_SM_net 3 (some .int) ∈ kG := k_in3 (i := 179) rfl rfl
theorem q_660 : Cond.methodLink R_SM 117 y_F_mayMatch ∈ kG := k_in3 (i := 180) rfl rfl
theorem q_661 : Cond.instanceMethod y_F_mayMatch ∈ kG := k_in3 (i := 181) rfl rfl
theorem q_662 : Cond.selects R_F y_F_mayMatch y_F_mayMatch ∈ kG := k_in3 (i := 182) rfl rfl
theorem q_663 : Cond.code y_F_mayMatch c_F_mayMatch 3 (some .boolean) ∈ kG := k_in3 (i := 183) rfl rfl
theorem q_664 : Cond.methodLink R_F 90 y_F_isHole ∈ kG := k_in3 (i := 184) rfl rfl
theorem q_665 : Cond.methodLink R_F 93 y_F_looksLike ∈ kG := k_in3 (i := 185) rfl rfl
theorem q_666 : Cond.methodLink R_F 96 y_F_hasFittingCount ∈ kG := k_in3 (i := 186) rfl rfl
theorem q_668 : Cond.instanceMethod y_F_hasFittingCount ∈ kG := k_in3 (i := 188) rfl rfl
theorem q_669 : Cond.code y_F_hasFittingCount c_F_hasFittingCount 7 (some .boolean) ∈ kG := k_in3 (i := 189) rfl rfl
theorem q_670 : Cond.methodLink R_F 102 y_F_takesSeveral ∈ kG := k_in3 (i := 190) rfl rfl
theorem q_671 : Cond.methodLink R_F 99 y_F_hasFittingStart ∈ kG := k_in3 (i := 191) rfl rfl
theorem q_673 : Cond.instanceMethod y_F_hasFittingStart ∈ kG := k_in3 (i := 193) rfl rfl
theorem q_674 : Cond.code y_F_hasFittingStart c_F_hasFittingStart 3 (some .boolean) ∈ kG := k_in3 (i := 194) rfl rfl
theorem q_675 : Cond.methodLink R_La 113 y_La_first ∈ kG := k_in3 (i := 195) rfl rfl
theorem q_676 : Cond.static y_La_first ∈ kG := k_in3 (i := 196) rfl rfl
theorem q_678 : Cond.methodLink R_La 50 y_SM_first ∈ kG := k_in3 (i := 198) rfl rfl
theorem q_679 : Cond.instanceMethod y_SM_first ∈ kG := k_in3 (i := 199) rfl rfl
theorem q_680 : Cond.selects R_SM y_SM_first y_SM_first ∈ kG := k_in3 (i := 200) rfl rfl
theorem q_681 : Cond.code y_SM_first c_SM_first 4 (some .int) ∈ kG := k_in3 (i := 201) rfl rfl
theorem q_682 : Cond.methodLink R_SM 120 y_Se_clear ∈ kG := k_in3 (i := 202) rfl rfl
theorem q_683 : Cond.methodLink R_La 116 y_La_order ∈ kG := k_in3 (i := 203) rfl rfl
theorem q_684 : Cond.static y_La_order ∈ kG := k_in3 (i := 204) rfl rfl
theorem q_686 : Cond.methodLink R_La 53 y_SM_order ∈ kG := k_in3 (i := 206) rfl rfl
theorem q_687 : Cond.instanceMethod y_SM_order ∈ kG := k_in3 (i := 207) rfl rfl
theorem q_688 : Cond.selects R_SM y_SM_order y_SM_order ∈ kG := k_in3 (i := 208) rfl rfl
theorem q_689 : Cond.code y_SM_order c_SM_order 3 (some .int) ∈ kG := k_in3 (i := 209) rfl rfl
theorem q_690 : Cond.methodLink R_SM 123 y_F_compare ∈ kG := k_in3 (i := 210) rfl rfl
theorem q_691 : Cond.methodLink R_La 119 y_La_parts ∈ kG := k_in3 (i := 211) rfl rfl
theorem q_692 : Cond.static y_La_parts ∈ kG := k_in3 (i := 212) rfl rfl
theorem q_694 : Cond.methodLink R_La 56 y_SM_parts ∈ kG := k_in3 (i := 214) rfl rfl
theorem q_695 : Cond.instanceMethod y_SM_parts ∈ kG := k_in3 (i := 215) rfl rfl
theorem q_696 : Cond.selects R_SM y_SM_parts y_SM_parts ∈ kG := k_in3 (i := 216) rfl rfl
theorem q_697 : Cond.code y_SM_parts c_SM_parts 2 (some .int) ∈ kG := k_in3 (i := 217) rfl rfl
theorem q_698 : Cond.methodLink R_SM 126 y_F_partCount ∈ kG := k_in3 (i := 218) rfl rfl
theorem q_699 : Cond.methodLink R_La 122 y_La_part ∈ kG := k_in3 (i := 219) rfl rfl
theorem q_700 : Cond.static y_La_part ∈ kG := k_in3 (i := 220) rfl rfl
theorem q_702 : Cond.methodLink R_La 59 y_SM_part ∈ kG := k_in3 (i := 222) rfl rfl
theorem q_703 : Cond.instanceMethod y_SM_part ∈ kG := k_in3 (i := 223) rfl rfl
theorem q_704 : Cond.selects R_SM y_SM_part y_SM_part ∈ kG := k_in3 (i := 224) rfl rfl
theorem q_705 : Cond.code y_SM_part c_SM_part 3 (some .int) ∈ kG := k_in3 (i := 225) rfl rfl
theorem q_706 : Cond.methodLink R_SM 130 y_F_partAt ∈ kG := k_in3 (i := 226) rfl rfl
theorem q_707 : Cond.classLink R_La 63 R_Md ∈ kG := k_in3 (i := 227) rfl rfl
theorem q_708 : Cond.instantiable R_Md 44 ∈ kG := k_in3 (i := 228) rfl rfl
theorem q_709 : Cond.methodLink R_La 65 y_Md_init ∈ kG := k_in3 (i := 229) rfl rfl
theorem q_710 : Cond.instanceMethod y_Md_init ∈ kG := k_in3 (i := 230) rfl rfl
theorem q_711 : Cond.code y_Md_init c_Md_init 1 none ∈ kG := k_in3 (i := 231) rfl rfl
theorem q_712 : Cond.methodLink R_Md 1 ⟨"java/lang/Object", "<init>", "()V"⟩ ∈ kG := k_in3 (i := 232) rfl rfl
theorem q_713 : Cond.fieldLink R_Md 7 "SequenceMatchModel" "thrownCode" "I" ∈ kG := k_in3 (i := 233) rfl rfl
theorem q_714 : Cond.fieldLink R_Md 13 "SequenceMatchModel" "trees" "I" ∈ kG := k_in3 (i := 234) rfl rfl
theorem q_715 : Cond.fieldLink R_Md 16 "SequenceMatchModel" "sort" "[I" ∈ kG := k_in3 (i := 235) rfl rfl
theorem q_716 : Cond.fieldLink R_Md 20 "SequenceMatchModel" "name" "[I" ∈ kG := k_in3 (i := 236) rfl rfl
theorem q_717 : Cond.fieldLink R_Md 23 "SequenceMatchModel" "kind" "[I" ∈ kG := k_in3 (i := 237) rfl rfl
theorem q_718 : Cond.fieldLink R_Md 26 "SequenceMatchModel" "count" "[I" ∈ kG := k_in3 (i := 238) rfl rfl
theorem q_719 : Cond.fieldLink R_Md 29 "SequenceMatchModel" "parts" "[I" ∈ kG := k_in3 (i := 239) rfl rfl
theorem q_720 : Cond.fieldLink R_Md 32 "SequenceMatchModel" "plain" "[Z" ∈ kG := k_in4 (i := 0) rfl rfl
theorem q_721 : Cond.fieldLink R_Md 36 "SequenceMatchModel" "fixed" "[Z" ∈ kG := k_in4 (i := 1) rfl rfl
theorem q_722 : Cond.fieldLink R_Md 39 "SequenceMatchModel" "depth" "[I" ∈ kG := k_in4 (i := 2) rfl rfl
theorem q_723 : Cond.fieldLink R_Md 42 "SequenceMatchModel" "size" "[I" ∈ kG := k_in4 (i := 3) rfl rfl
theorem q_724 : Cond.fieldLink R_Md 45 "SequenceMatchModel" "tests" "[I" ∈ kG := k_in4 (i := 4) rfl rfl
theorem q_725 : Cond.fieldLink R_Md 48 "SequenceMatchModel" "testKind" "[I" ∈ kG := k_in4 (i := 5) rfl rfl
theorem q_726 : Cond.fieldLink R_Md 51 "SequenceMatchModel" "testValue" "[I" ∈ kG := k_in4 (i := 6) rfl rfl
theorem q_727 : Cond.fieldLink R_Md 54 "SequenceMatchModel" "rules" "I" ∈ kG := k_in4 (i := 7) rfl rfl
theorem q_728 : Cond.fieldLink R_Md 57 "SequenceMatchModel" "rule" "[I" ∈ kG := k_in4 (i := 8) rfl rfl
theorem q_729 : Cond.fieldLink R_Md 60 "SequenceMatchModel" "netCount" "I" ∈ kG := k_in4 (i := 9) rfl rfl
theorem q_730 : Cond.fieldLink R_Md 63 "SequenceMatchModel" "net" "[I" ∈ kG := k_in4 (i := 10) rfl rfl
theorem q_731 : Cond.fieldLink R_Md 66 "SequenceMatchModel" "kept" "I" ∈ kG := k_in4 (i := 11) rfl rfl
theorem q_732 : Cond.fieldLink R_Md 69 "SequenceMatchModel" "keptMany" "[I" ∈ kG := k_in4 (i := 12) rfl rfl
theorem q_733 : Cond.fieldLink R_Md 72 "SequenceMatchModel" "keptTree" "[I" ∈ kG := k_in4 (i := 13) rfl rfl
theorem q_734 : Cond.fieldLink R_Md 75 "SequenceMatchModel" "many" "[I" ∈ kG := k_in4 (i := 14) rfl rfl
theorem q_735 : Cond.fieldLink R_Md 78 "SequenceMatchModel" "row" "[I" ∈ kG := k_in4 (i := 15) rfl rfl
theorem q_736 : Cond.fieldLink R_Md 81 "SequenceMatchModel" "bound" "I" ∈ kG := k_in4 (i := 16) rfl rfl
theorem q_737 : Cond.fieldLink R_Md 84 "SequenceMatchModel" "boundName" "[I" ∈ kG := k_in4 (i := 17) rfl rfl
theorem q_738 : Cond.fieldLink R_Md 87 "SequenceMatchModel" "tried" "I" ∈ kG := k_in4 (i := 18) rfl rfl
theorem q_739 : Cond.fieldLink R_Md 90 "SequenceMatchModel" "most" "I" ∈ kG := k_in4 (i := 19) rfl rfl
theorem q_740 : Cond.fieldLink R_Md 93 "SequenceMatchModel" "found" "I" ∈ kG := k_in4 (i := 20) rfl rfl
theorem q_741 : Cond.fieldLink R_Md 96 "SequenceMatchModel" "spent" "Z" ∈ kG := k_in4 (i := 21) rfl rfl
theorem q_742 : Cond.fieldLink R_Md 100 "SequenceMatchModel" "goals" "I" ∈ kG := k_in4 (i := 22) rfl rfl
theorem q_743 : Cond.fieldLink R_Md 103 "SequenceMatchModel" "goalNode" "[I" ∈ kG := k_in4 (i := 23) rfl rfl
theorem q_744 : Cond.fieldLink R_Md 106 "SequenceMatchModel" "goalTree" "[I" ∈ kG := k_in4 (i := 24) rfl rfl
theorem q_745 : Cond.fieldLink R_Md 109 "SequenceMatchModel" "goalPart" "[I" ∈ kG := k_in4 (i := 25) rfl rfl
theorem q_746 : Cond.fieldLink R_Md 112 "SequenceMatchModel" "goalUsed" "[I" ∈ kG := k_in4 (i := 26) rfl rfl
theorem q_747 : Cond.fieldLink R_Md 115 "SequenceMatchModel" "goalNext" "[I" ∈ kG := k_in4 (i := 27) rfl rfl
theorem q_748 : Cond.fieldLink R_Md 118 "SequenceMatchModel" "choices" "I" ∈ kG := k_in4 (i := 28) rfl rfl
theorem q_749 : Cond.fieldLink R_Md 121 "SequenceMatchModel" "choiceGoal" "[I" ∈ kG := k_in4 (i := 29) rfl rfl
theorem q_750 : Cond.fieldLink R_Md 124 "SequenceMatchModel" "choiceTaken" "[I" ∈ kG := k_in4 (i := 30) rfl rfl
theorem q_751 : Cond.fieldLink R_Md 127 "SequenceMatchModel" "choiceBound" "[I" ∈ kG := k_in4 (i := 31) rfl rfl
theorem q_752 : Cond.fieldLink R_Md 130 "SequenceMatchModel" "choiceGoals" "[I" ∈ kG := k_in4 (i := 32) rfl rfl
theorem q_753 : Cond.fieldLink R_Md 133 "SequenceMatchModel" "left" "[I" ∈ kG := k_in4 (i := 33) rfl rfl
theorem q_754 : Cond.fieldLink R_Md 136 "SequenceMatchModel" "right" "[I" ∈ kG := k_in4 (i := 34) rfl rfl
theorem q_755 : Cond.fieldLink R_Md 139 "SequenceMatchModel" "place" "[I" ∈ kG := k_in4 (i := 35) rfl rfl
theorem q_756 : Cond.fieldLink R_Md 142 "SequenceMatchModel" "now" "[I" ∈ kG := k_in4 (i := 36) rfl rfl
theorem q_846 : Cond.methodLink R_La 72 y_Md_thrown ∈ kG := k_in4 (i := 126) rfl rfl
theorem q_847 : Cond.instanceMethod y_Md_thrown ∈ kG := k_in4 (i := 127) rfl rfl
theorem q_848 : Cond.selects R_Md y_Md_thrown y_Md_thrown ∈ kG := k_in4 (i := 128) rfl rfl
theorem q_849 : Cond.code y_Md_thrown c_Md_thrown 1 (some .int) ∈ kG := k_in4 (i := 129) rfl rfl
theorem q_850 : Cond.methodLink R_La 71 y_Md_leaf ∈ kG := k_in4 (i := 130) rfl rfl
theorem q_851 : Cond.instanceMethod y_Md_leaf ∈ kG := k_in4 (i := 131) rfl rfl
theorem q_852 : Cond.selects R_Md y_Md_leaf y_Md_leaf ∈ kG := k_in4 (i := 132) rfl rfl
theorem q_853 : Cond.code y_Md_leaf c_Md_leaf 2 (some .int) ∈ kG := k_in4 (i := 133) rfl rfl
theorem q_854 : Cond.methodLink R_Md 203 y_Md_tree ∈ kG := k_in4 (i := 134) rfl rfl
theorem q_856 : Cond.instanceMethod y_Md_tree ∈ kG := k_in4 (i := 136) rfl rfl
theorem q_857 : Cond.code y_Md_tree c_Md_tree 4 (some .int) ∈ kG := k_in4 (i := 137) rfl rfl
theorem q_858 : Cond.methodLink R_La 78 y_Md_node ∈ kG := k_in4 (i := 138) rfl rfl
theorem q_859 : Cond.instanceMethod y_Md_node ∈ kG := k_in4 (i := 139) rfl rfl
theorem q_860 : Cond.selects R_Md y_Md_node y_Md_node ∈ kG := k_in4 (i := 140) rfl rfl
theorem q_861 : Cond.code y_Md_node c_Md_node 2 (some .int) ∈ kG := k_in4 (i := 141) rfl rfl
theorem q_862 : Cond.methodLink R_La 85 y_Md_hole ∈ kG := k_in4 (i := 142) rfl rfl
theorem q_863 : Cond.instanceMethod y_Md_hole ∈ kG := k_in4 (i := 143) rfl rfl
theorem q_864 : Cond.selects R_Md y_Md_hole y_Md_hole ∈ kG := k_in4 (i := 144) rfl rfl
theorem q_865 : Cond.code y_Md_hole c_Md_hole 4 (some .int) ∈ kG := k_in4 (i := 145) rfl rfl
theorem q_866 : Cond.methodLink R_La 82 y_Md_more ∈ kG := k_in4 (i := 146) rfl rfl
theorem q_867 : Cond.instanceMethod y_Md_more ∈ kG := k_in4 (i := 147) rfl rfl
theorem q_868 : Cond.selects R_Md y_Md_more y_Md_more ∈ kG := k_in4 (i := 148) rfl rfl
theorem q_869 : Cond.code y_Md_more c_Md_more 5 (some .boolean) ∈ kG := k_in4 (i := 149) rfl rfl
theorem q_870 : Cond.methodLink R_Md 207 y_Md_noTree ∈ kG := k_in4 (i := 150) rfl rfl
theorem q_872 : Cond.instanceMethod y_Md_noTree ∈ kG := k_in4 (i := 152) rfl rfl
theorem q_873 : Cond.code y_Md_noTree c_Md_noTree 2 (some .boolean) ∈ kG := k_in4 (i := 153) rfl rfl
theorem q_874 : Cond.methodLink R_Md 168 y_Md_anyOrder ∈ kG := k_in4 (i := 154) rfl rfl
theorem q_875 : Cond.static y_Md_anyOrder ∈ kG := k_in4 (i := 155) rfl rfl
theorem q_876 : Cond.code y_Md_anyOrder c_Md_anyOrder 1 (some .boolean) ∈ kG := k_in4 (i := 156) rfl rfl
theorem q_877 : Cond.methodLink R_Md 149 y_Md_compare ∈ kG := k_in4 (i := 157) rfl rfl
theorem q_879 : Cond.instanceMethod y_Md_compare ∈ kG := k_in4 (i := 159) rfl rfl
theorem q_880 : Cond.code y_Md_compare c_Md_compare 7 (some .int) ∈ kG := k_in4 (i := 160) rfl rfl
theorem q_881 : Cond.methodLink R_La 89 y_Md_test ∈ kG := k_in4 (i := 161) rfl rfl
theorem q_882 : Cond.instanceMethod y_Md_test ∈ kG := k_in4 (i := 162) rfl rfl
theorem q_883 : Cond.selects R_Md y_Md_test y_Md_test ∈ kG := k_in4 (i := 163) rfl rfl
theorem q_884 : Cond.code y_Md_test c_Md_test 4 (some .boolean) ∈ kG := k_in4 (i := 164) rfl rfl
theorem q_885 : Cond.methodLink R_La 92 y_Md_match ∈ kG := k_in4 (i := 165) rfl rfl
theorem q_886 : Cond.instanceMethod y_Md_match ∈ kG := k_in4 (i := 166) rfl rfl
theorem q_887 : Cond.selects R_Md y_Md_match y_Md_match ∈ kG := k_in4 (i := 167) rfl rfl
theorem q_888 : Cond.code y_Md_match c_Md_match 4 (some .int) ∈ kG := k_in4 (i := 168) rfl rfl
theorem q_889 : Cond.methodLink R_Md 210 y_Md_search ∈ kG := k_in4 (i := 169) rfl rfl
theorem q_891 : Cond.instanceMethod y_Md_search ∈ kG := k_in4 (i := 171) rfl rfl
theorem q_892 : Cond.code y_Md_search c_Md_search 5 none ∈ kG := k_in4 (i := 172) rfl rfl
theorem q_893 : Cond.methodLink R_Md 188 y_Md_tries ∈ kG := k_in4 (i := 173) rfl rfl
theorem q_895 : Cond.instanceMethod y_Md_tries ∈ kG := k_in4 (i := 175) rfl rfl
theorem q_896 : Cond.code y_Md_tries c_Md_tries 1 (some .boolean) ∈ kG := k_in4 (i := 176) rfl rfl
theorem q_897 : Cond.methodLink R_Md 192 y_Md_puts ∈ kG := k_in4 (i := 177) rfl rfl
theorem q_899 : Cond.instanceMethod y_Md_puts ∈ kG := k_in4 (i := 179) rfl rfl
theorem q_900 : Cond.code y_Md_puts c_Md_puts 5 (some .int) ∈ kG := k_in4 (i := 180) rfl rfl
theorem q_901 : Cond.methodLink R_Md 153 y_Md_binds ∈ kG := k_in4 (i := 181) rfl rfl
theorem q_903 : Cond.instanceMethod y_Md_binds ∈ kG := k_in4 (i := 183) rfl rfl
theorem q_904 : Cond.code y_Md_binds c_Md_binds 5 (some .boolean) ∈ kG := k_in4 (i := 184) rfl rfl
theorem q_905 : Cond.methodLink R_Md 145 y_Md_testHolds ∈ kG := k_in4 (i := 185) rfl rfl
theorem q_907 : Cond.instanceMethod y_Md_testHolds ∈ kG := k_in4 (i := 187) rfl rfl
theorem q_908 : Cond.code y_Md_testHolds c_Md_testHolds 6 (some .boolean) ∈ kG := k_in4 (i := 188) rfl rfl
theorem q_909 : Cond.methodLink R_Md 157 y_Md_goal ∈ kG := k_in4 (i := 189) rfl rfl
theorem q_911 : Cond.instanceMethod y_Md_goal ∈ kG := k_in4 (i := 191) rfl rfl
theorem q_912 : Cond.code y_Md_goal c_Md_goal 6 (some .int) ∈ kG := k_in4 (i := 192) rfl rfl
theorem q_913 : Cond.methodLink R_Md 196 y_Md_keepMatch ∈ kG := k_in4 (i := 193) rfl rfl
theorem q_915 : Cond.instanceMethod y_Md_keepMatch ∈ kG := k_in4 (i := 195) rfl rfl
theorem q_916 : Cond.code y_Md_keepMatch c_Md_keepMatch 3 none ∈ kG := k_in4 (i := 196) rfl rfl
theorem q_917 : Cond.methodLink R_Md 199 y_Md_otherwise ∈ kG := k_in4 (i := 197) rfl rfl
theorem q_919 : Cond.instanceMethod y_Md_otherwise ∈ kG := k_in4 (i := 199) rfl rfl
theorem q_920 : Cond.code y_Md_otherwise c_Md_otherwise 7 (some .int) ∈ kG := k_in4 (i := 200) rfl rfl
theorem q_921 : Cond.methodLink R_Md 181 y_Md_backTo ∈ kG := k_in4 (i := 201) rfl rfl
theorem q_923 : Cond.instanceMethod y_Md_backTo ∈ kG := k_in4 (i := 203) rfl rfl
theorem q_924 : Cond.code y_Md_backTo c_Md_backTo 3 none ∈ kG := k_in4 (i := 204) rfl rfl
theorem q_925 : Cond.methodLink R_Md 185 y_Md_takenNext ∈ kG := k_in4 (i := 205) rfl rfl
theorem q_927 : Cond.instanceMethod y_Md_takenNext ∈ kG := k_in4 (i := 207) rfl rfl
theorem q_928 : Cond.code y_Md_takenNext c_Md_takenNext 8 (some .int) ∈ kG := k_in4 (i := 208) rfl rfl
theorem q_929 : Cond.methodLink R_Md 165 y_Md_leftOf ∈ kG := k_in4 (i := 209) rfl rfl
theorem q_931 : Cond.instanceMethod y_Md_leftOf ∈ kG := k_in4 (i := 211) rfl rfl
theorem q_932 : Cond.code y_Md_leftOf c_Md_leftOf 4 (some .int) ∈ kG := k_in4 (i := 212) rfl rfl
theorem q_933 : Cond.methodLink R_Md 161 y_Md_bit ∈ kG := k_in4 (i := 213) rfl rfl
theorem q_934 : Cond.static y_Md_bit ∈ kG := k_in4 (i := 214) rfl rfl
theorem q_935 : Cond.code y_Md_bit c_Md_bit 1 (some .int) ∈ kG := k_in4 (i := 215) rfl rfl
theorem q_936 : Cond.methodLink R_Md 172 y_Md_severals ∈ kG := k_in4 (i := 216) rfl rfl
theorem q_938 : Cond.instanceMethod y_Md_severals ∈ kG := k_in4 (i := 218) rfl rfl
theorem q_939 : Cond.code y_Md_severals c_Md_severals 2 (some .boolean) ∈ kG := k_in4 (i := 219) rfl rfl
theorem q_940 : Cond.methodLink R_Md 175 y_Md_bits ∈ kG := k_in4 (i := 220) rfl rfl
theorem q_941 : Cond.static y_Md_bits ∈ kG := k_in4 (i := 221) rfl rfl
theorem q_942 : Cond.code y_Md_bits c_Md_bits 3 (some .int) ∈ kG := k_in4 (i := 222) rfl rfl
theorem q_943 : Cond.methodLink R_Md 178 y_Md_firstOf ∈ kG := k_in4 (i := 223) rfl rfl
theorem q_944 : Cond.static y_Md_firstOf ∈ kG := k_in4 (i := 224) rfl rfl
theorem q_945 : Cond.code y_Md_firstOf c_Md_firstOf 5 (some .int) ∈ kG := k_in4 (i := 225) rfl rfl
theorem q_946 : Cond.methodLink R_La 96 y_Md_tried ∈ kG := k_in4 (i := 226) rfl rfl
theorem q_947 : Cond.instanceMethod y_Md_tried ∈ kG := k_in4 (i := 227) rfl rfl
theorem q_948 : Cond.selects R_Md y_Md_tried y_Md_tried ∈ kG := k_in4 (i := 228) rfl rfl
theorem q_949 : Cond.code y_Md_tried c_Md_tried 1 (some .int) ∈ kG := k_in4 (i := 229) rfl rfl
theorem q_950 : Cond.methodLink R_La 99 y_Md_bound ∈ kG := k_in4 (i := 230) rfl rfl
theorem q_951 : Cond.instanceMethod y_Md_bound ∈ kG := k_in4 (i := 231) rfl rfl
theorem q_952 : Cond.selects R_Md y_Md_bound y_Md_bound ∈ kG := k_in4 (i := 232) rfl rfl
theorem q_953 : Cond.code y_Md_bound c_Md_bound 4 (some .int) ∈ kG := k_in4 (i := 233) rfl rfl
theorem q_954 : Cond.methodLink R_La 102 y_Md_many ∈ kG := k_in4 (i := 234) rfl rfl
theorem q_955 : Cond.instanceMethod y_Md_many ∈ kG := k_in4 (i := 235) rfl rfl
theorem q_956 : Cond.selects R_Md y_Md_many y_Md_many ∈ kG := k_in4 (i := 236) rfl rfl
theorem q_957 : Cond.code y_Md_many c_Md_many 3 (some .int) ∈ kG := k_in4 (i := 237) rfl rfl
theorem q_958 : Cond.methodLink R_La 105 y_Md_rule ∈ kG := k_in4 (i := 238) rfl rfl
theorem q_959 : Cond.instanceMethod y_Md_rule ∈ kG := k_in4 (i := 239) rfl rfl
theorem q_960 : Cond.selects R_Md y_Md_rule y_Md_rule ∈ kG := k_in5 (i := 0) rfl rfl
theorem q_961 : Cond.code y_Md_rule c_Md_rule 2 (some .int) ∈ kG := k_in5 (i := 1) rfl rfl
theorem q_962 : Cond.methodLink R_La 108 y_Md_net ∈ kG := k_in5 (i := 2) rfl rfl
theorem q_963 : Cond.instanceMethod y_Md_net ∈ kG := k_in5 (i := 3) rfl rfl
theorem q_964 : Cond.selects R_Md y_Md_net y_Md_net ∈ kG := k_in5 (i := 4) rfl rfl
theorem q_965 : Cond.code y_Md_net c_Md_net 3 (some .int) ∈ kG := k_in5 (i := 5) rfl rfl
theorem q_966 : Cond.methodLink R_Md 214 y_Md_may ∈ kG := k_in5 (i := 6) rfl rfl
theorem q_968 : Cond.instanceMethod y_Md_may ∈ kG := k_in5 (i := 8) rfl rfl
theorem q_969 : Cond.code y_Md_may c_Md_may 8 (some .boolean) ∈ kG := k_in5 (i := 9) rfl rfl
theorem q_970 : Cond.methodLink R_La 112 y_Md_rules ∈ kG := k_in5 (i := 10) rfl rfl
theorem q_971 : Cond.instanceMethod y_Md_rules ∈ kG := k_in5 (i := 11) rfl rfl
theorem q_972 : Cond.selects R_Md y_Md_rules y_Md_rules ∈ kG := k_in5 (i := 12) rfl rfl
theorem q_973 : Cond.code y_Md_rules c_Md_rules 2 (some .int) ∈ kG := k_in5 (i := 13) rfl rfl
theorem q_974 : Cond.methodLink R_La 115 y_Md_first ∈ kG := k_in5 (i := 14) rfl rfl
theorem q_975 : Cond.instanceMethod y_Md_first ∈ kG := k_in5 (i := 15) rfl rfl
theorem q_976 : Cond.selects R_Md y_Md_first y_Md_first ∈ kG := k_in5 (i := 16) rfl rfl
theorem q_977 : Cond.code y_Md_first c_Md_first 4 (some .int) ∈ kG := k_in5 (i := 17) rfl rfl
theorem q_978 : Cond.methodLink R_La 118 y_Md_order ∈ kG := k_in5 (i := 18) rfl rfl
theorem q_979 : Cond.instanceMethod y_Md_order ∈ kG := k_in5 (i := 19) rfl rfl
theorem q_980 : Cond.selects R_Md y_Md_order y_Md_order ∈ kG := k_in5 (i := 20) rfl rfl
theorem q_981 : Cond.code y_Md_order c_Md_order 3 (some .int) ∈ kG := k_in5 (i := 21) rfl rfl
theorem q_982 : Cond.methodLink R_La 121 y_Md_parts ∈ kG := k_in5 (i := 22) rfl rfl
theorem q_983 : Cond.instanceMethod y_Md_parts ∈ kG := k_in5 (i := 23) rfl rfl
theorem q_984 : Cond.selects R_Md y_Md_parts y_Md_parts ∈ kG := k_in5 (i := 24) rfl rfl
theorem q_985 : Cond.code y_Md_parts c_Md_parts 2 (some .int) ∈ kG := k_in5 (i := 25) rfl rfl
theorem q_986 : Cond.methodLink R_La 124 y_Md_part ∈ kG := k_in5 (i := 26) rfl rfl
theorem q_987 : Cond.instanceMethod y_Md_part ∈ kG := k_in5 (i := 27) rfl rfl
theorem q_988 : Cond.selects R_Md y_Md_part y_Md_part ∈ kG := k_in5 (i := 28) rfl rfl
theorem q_989 : Cond.code y_Md_part c_Md_part 3 (some .int) ∈ kG := k_in5 (i := 29) rfl rfl
theorem q_990 : Cond.methodLink R_La 128 y_Md_count ∈ kG := k_in5 (i := 30) rfl rfl
theorem q_991 : Cond.instanceMethod y_Md_count ∈ kG := k_in5 (i := 31) rfl rfl
theorem q_992 : Cond.selects R_Md y_Md_count y_Md_count ∈ kG := k_in5 (i := 32) rfl rfl
theorem q_993 : Cond.code y_Md_count c_Md_count 2 (some .int) ∈ kG := k_in5 (i := 33) rfl rfl
theorem q_994 : Cond.arrayClass .long ∈ kG := k_in5 (i := 34) rfl rfl
theorem s_0 : Cond.selects "java/lang/Throwable" ⟨"java/lang/Throwable", "fillInStackTrace", "(I)Ljava/lang/Throwable;"⟩ ⟨"java/lang/Throwable", "fillInStackTrace", "(I)Ljava/lang/Throwable;"⟩ ∈ kG := k_inS (i := 0) (by decide +kernel) rfl
theorem s_1 : Cond.selects R_SM y_SM_newTree y_SM_newTree ∈ kG := k_inS (i := 1) (by decide +kernel) rfl
theorem s_2 : Cond.selects R_SM y_SM_requireTree y_SM_requireTree ∈ kG := k_inS (i := 2) (by decide +kernel) rfl
theorem s_3 : Cond.selects R_F y_F_placeFor y_F_placeFor ∈ kG := k_inS (i := 3) (by decide +kernel) rfl
theorem s_4 : Cond.selects R_SM y_SM_requirePlain y_SM_requirePlain ∈ kG := k_inS (i := 4) (by decide +kernel) rfl
theorem s_5 : Cond.selects R_Se y_Se_release y_Se_release ∈ kG := k_inS (i := 5) (by decide +kernel) rfl
theorem s_6 : Cond.selects R_Se y_Se_choose y_Se_choose ∈ kG := k_inS (i := 6) (by decide +kernel) rfl
theorem s_7 : Cond.selects R_Se y_Se_firstChoice y_Se_firstChoice ∈ kG := k_inS (i := 7) (by decide +kernel) rfl
theorem s_8 : Cond.selects R_Se y_Se_laterChoice y_Se_laterChoice ∈ kG := k_inS (i := 8) (by decide +kernel) rfl
theorem s_9 : Cond.selects R_Se y_Se_makeTry y_Se_makeTry ∈ kG := k_inS (i := 9) (by decide +kernel) rfl
theorem s_10 : Cond.selects R_Se y_Se_gatherRow y_Se_gatherRow ∈ kG := k_inS (i := 10) (by decide +kernel) rfl
theorem s_11 : Cond.selects R_Se y_Se_fitsHole y_Se_fitsHole ∈ kG := k_inS (i := 11) (by decide +kernel) rfl
theorem s_12 : Cond.selects R_F y_F_passes y_F_passes ∈ kG := k_inS (i := 12) (by decide +kernel) rfl
theorem s_13 : Cond.selects R_Se y_Se_fitsLeafOrNode y_Se_fitsLeafOrNode ∈ kG := k_inS (i := 13) (by decide +kernel) rfl
theorem s_14 : Cond.selects R_Se y_Se_rowsEndHere y_Se_rowsEndHere ∈ kG := k_inS (i := 14) (by decide +kernel) rfl
theorem s_15 : Cond.selects R_SM y_SM_requireMatch y_SM_requireMatch ∈ kG := k_inS (i := 15) (by decide +kernel) rfl
theorem s_16 : Cond.selects R_F y_F_hasFittingCount y_F_hasFittingCount ∈ kG := k_inS (i := 16) (by decide +kernel) rfl
theorem s_17 : Cond.selects R_F y_F_hasFittingStart y_F_hasFittingStart ∈ kG := k_inS (i := 17) (by decide +kernel) rfl
theorem s_18 : Cond.selects R_Md y_Md_tree y_Md_tree ∈ kG := k_inS (i := 18) (by decide +kernel) rfl
theorem s_19 : Cond.selects R_Md y_Md_noTree y_Md_noTree ∈ kG := k_inS (i := 19) (by decide +kernel) rfl
theorem s_20 : Cond.selects R_Md y_Md_compare y_Md_compare ∈ kG := k_inS (i := 20) (by decide +kernel) rfl
theorem s_21 : Cond.selects R_Md y_Md_search y_Md_search ∈ kG := k_inS (i := 21) (by decide +kernel) rfl
theorem s_22 : Cond.selects R_Md y_Md_tries y_Md_tries ∈ kG := k_inS (i := 22) (by decide +kernel) rfl
theorem s_23 : Cond.selects R_Md y_Md_puts y_Md_puts ∈ kG := k_inS (i := 23) (by decide +kernel) rfl
theorem s_24 : Cond.selects R_Md y_Md_binds y_Md_binds ∈ kG := k_inS (i := 24) (by decide +kernel) rfl
theorem s_25 : Cond.selects R_Md y_Md_testHolds y_Md_testHolds ∈ kG := k_inS (i := 25) (by decide +kernel) rfl
theorem s_26 : Cond.selects R_Md y_Md_goal y_Md_goal ∈ kG := k_inS (i := 26) (by decide +kernel) rfl
theorem s_27 : Cond.selects R_Md y_Md_keepMatch y_Md_keepMatch ∈ kG := k_inS (i := 27) (by decide +kernel) rfl
theorem s_28 : Cond.selects R_Md y_Md_otherwise y_Md_otherwise ∈ kG := k_inS (i := 28) (by decide +kernel) rfl
theorem s_29 : Cond.selects R_Md y_Md_backTo y_Md_backTo ∈ kG := k_inS (i := 29) (by decide +kernel) rfl
theorem s_30 : Cond.selects R_Md y_Md_takenNext y_Md_takenNext ∈ kG := k_inS (i := 30) (by decide +kernel) rfl
theorem s_31 : Cond.selects R_Md y_Md_leftOf y_Md_leftOf ∈ kG := k_inS (i := 31) (by decide +kernel) rfl
theorem s_32 : Cond.selects R_Md y_Md_severals y_Md_severals ∈ kG := k_inS (i := 32) (by decide +kernel) rfl
theorem s_33 : Cond.selects R_Md y_Md_may y_Md_may ∈ kG := k_inS (i := 33) (by decide +kernel) rfl
def ws_SM_init : List Cond := Cond.code y_SM_init c_SM_init 1 none :: kG
theorem h_SM_init : y_SM_init.cls = R_SM ∧ y_SM_init.cls ≠ "java/lang/invoke/MethodHandle" ∧ y_SM_init.cls ≠ "java/lang/invoke/VarHandle" ∧ (parseMethodDescriptor y_SM_init.desc).map (fun d => d.parameters.length) = some 0 := by decide +kernel
def ws_SM_leaf : List Cond := Cond.code y_SM_leaf c_SM_leaf 2 (some .int) :: kG
theorem h_SM_leaf : y_SM_leaf.cls = R_SM ∧ y_SM_leaf.cls ≠ "java/lang/invoke/MethodHandle" ∧ y_SM_leaf.cls ≠ "java/lang/invoke/VarHandle" ∧ (parseMethodDescriptor y_SM_leaf.desc).map (fun d => d.parameters.length) = some 1 := by decide +kernel
def ws_SM_node : List Cond := Cond.code y_SM_node c_SM_node 2 (some .int) :: kG
theorem h_SM_node : y_SM_node.cls = R_SM ∧ y_SM_node.cls ≠ "java/lang/invoke/MethodHandle" ∧ y_SM_node.cls ≠ "java/lang/invoke/VarHandle" ∧ (parseMethodDescriptor y_SM_node.desc).map (fun d => d.parameters.length) = some 1 := by decide +kernel
def ws_SM_more : List Cond := Cond.code y_SM_more c_SM_more 3 (some .boolean) :: kG
theorem h_SM_more : y_SM_more.cls = R_SM ∧ y_SM_more.cls ≠ "java/lang/invoke/MethodHandle" ∧ y_SM_more.cls ≠ "java/lang/invoke/VarHandle" ∧ (parseMethodDescriptor y_SM_more.desc).map (fun d => d.parameters.length) = some 2 := by decide +kernel
def ws_SM_hole : List Cond := Cond.code y_SM_hole c_SM_hole 3 (some .int) :: kG
theorem h_SM_hole : y_SM_hole.cls = R_SM ∧ y_SM_hole.cls ≠ "java/lang/invoke/MethodHandle" ∧ y_SM_hole.cls ≠ "java/lang/invoke/VarHandle" ∧ (parseMethodDescriptor y_SM_hole.desc).map (fun d => d.parameters.length) = some 2 := by decide +kernel
def ws_SM_test : List Cond := Cond.code y_SM_test c_SM_test 4 (some .boolean) :: kG
theorem h_SM_test : y_SM_test.cls = R_SM ∧ y_SM_test.cls ≠ "java/lang/invoke/MethodHandle" ∧ y_SM_test.cls ≠ "java/lang/invoke/VarHandle" ∧ (parseMethodDescriptor y_SM_test.desc).map (fun d => d.parameters.length) = some 3 := by decide +kernel
def ws_SM_match : List Cond := Cond.code y_SM_match c_SM_match 4 (some .int) :: kG
theorem h_SM_match : y_SM_match.cls = R_SM ∧ y_SM_match.cls ≠ "java/lang/invoke/MethodHandle" ∧ y_SM_match.cls ≠ "java/lang/invoke/VarHandle" ∧ (parseMethodDescriptor y_SM_match.desc).map (fun d => d.parameters.length) = some 3 := by decide +kernel
def ws_SM_tried : List Cond := Cond.code y_SM_tried c_SM_tried 1 (some .int) :: kG
theorem h_SM_tried : y_SM_tried.cls = R_SM ∧ y_SM_tried.cls ≠ "java/lang/invoke/MethodHandle" ∧ y_SM_tried.cls ≠ "java/lang/invoke/VarHandle" ∧ (parseMethodDescriptor y_SM_tried.desc).map (fun d => d.parameters.length) = some 0 := by decide +kernel
def ws_SM_bound : List Cond := Cond.code y_SM_bound c_SM_bound 4 (some .int) :: kG
theorem h_SM_bound : y_SM_bound.cls = R_SM ∧ y_SM_bound.cls ≠ "java/lang/invoke/MethodHandle" ∧ y_SM_bound.cls ≠ "java/lang/invoke/VarHandle" ∧ (parseMethodDescriptor y_SM_bound.desc).map (fun d => d.parameters.length) = some 3 := by decide +kernel
def ws_SM_many : List Cond := Cond.code y_SM_many c_SM_many 3 (some .int) :: kG
theorem h_SM_many : y_SM_many.cls = R_SM ∧ y_SM_many.cls ≠ "java/lang/invoke/MethodHandle" ∧ y_SM_many.cls ≠ "java/lang/invoke/VarHandle" ∧ (parseMethodDescriptor y_SM_many.desc).map (fun d => d.parameters.length) = some 2 := by decide +kernel
def ws_SM_rule : List Cond := Cond.code y_SM_rule c_SM_rule 2 (some .int) :: kG
theorem h_SM_rule : y_SM_rule.cls = R_SM ∧ y_SM_rule.cls ≠ "java/lang/invoke/MethodHandle" ∧ y_SM_rule.cls ≠ "java/lang/invoke/VarHandle" ∧ (parseMethodDescriptor y_SM_rule.desc).map (fun d => d.parameters.length) = some 1 := by decide +kernel
def ws_SM_net : List Cond := Cond.code y_SM_net c_SM_net 3 (some .int) :: kG
theorem h_SM_net : y_SM_net.cls = R_SM ∧ y_SM_net.cls ≠ "java/lang/invoke/MethodHandle" ∧ y_SM_net.cls ≠ "java/lang/invoke/VarHandle" ∧ (parseMethodDescriptor y_SM_net.desc).map (fun d => d.parameters.length) = some 1 := by decide +kernel
def ws_SM_rules : List Cond := Cond.code y_SM_rules c_SM_rules 2 (some .int) :: kG
theorem h_SM_rules : y_SM_rules.cls = R_SM ∧ y_SM_rules.cls ≠ "java/lang/invoke/MethodHandle" ∧ y_SM_rules.cls ≠ "java/lang/invoke/VarHandle" ∧ (parseMethodDescriptor y_SM_rules.desc).map (fun d => d.parameters.length) = some 1 := by decide +kernel
def ws_SM_first : List Cond := Cond.code y_SM_first c_SM_first 4 (some .int) :: kG
theorem h_SM_first : y_SM_first.cls = R_SM ∧ y_SM_first.cls ≠ "java/lang/invoke/MethodHandle" ∧ y_SM_first.cls ≠ "java/lang/invoke/VarHandle" ∧ (parseMethodDescriptor y_SM_first.desc).map (fun d => d.parameters.length) = some 1 := by decide +kernel
def ws_SM_order : List Cond := Cond.code y_SM_order c_SM_order 3 (some .int) :: kG
theorem h_SM_order : y_SM_order.cls = R_SM ∧ y_SM_order.cls ≠ "java/lang/invoke/MethodHandle" ∧ y_SM_order.cls ≠ "java/lang/invoke/VarHandle" ∧ (parseMethodDescriptor y_SM_order.desc).map (fun d => d.parameters.length) = some 2 := by decide +kernel
def ws_SM_parts : List Cond := Cond.code y_SM_parts c_SM_parts 2 (some .int) :: kG
theorem h_SM_parts : y_SM_parts.cls = R_SM ∧ y_SM_parts.cls ≠ "java/lang/invoke/MethodHandle" ∧ y_SM_parts.cls ≠ "java/lang/invoke/VarHandle" ∧ (parseMethodDescriptor y_SM_parts.desc).map (fun d => d.parameters.length) = some 1 := by decide +kernel
def ws_SM_part : List Cond := Cond.code y_SM_part c_SM_part 3 (some .int) :: kG
theorem h_SM_part : y_SM_part.cls = R_SM ∧ y_SM_part.cls ≠ "java/lang/invoke/MethodHandle" ∧ y_SM_part.cls ≠ "java/lang/invoke/VarHandle" ∧ (parseMethodDescriptor y_SM_part.desc).map (fun d => d.parameters.length) = some 2 := by decide +kernel
def ws_SM_count : List Cond := Cond.code y_SM_count c_SM_count 2 (some .int) :: kG
theorem h_SM_count : y_SM_count.cls = R_SM ∧ y_SM_count.cls ≠ "java/lang/invoke/MethodHandle" ∧ y_SM_count.cls ≠ "java/lang/invoke/VarHandle" ∧ (parseMethodDescriptor y_SM_count.desc).map (fun d => d.parameters.length) = some 1 := by decide +kernel
def ws_SM_newTree : List Cond := Cond.code y_SM_newTree c_SM_newTree 4 (some .int) :: kG
theorem h_SM_newTree : y_SM_newTree.cls = R_SM ∧ y_SM_newTree.cls ≠ "java/lang/invoke/MethodHandle" ∧ y_SM_newTree.cls ≠ "java/lang/invoke/VarHandle" ∧ (parseMethodDescriptor y_SM_newTree.desc).map (fun d => d.parameters.length) = some 3 := by decide +kernel
def ws_SM_requireTree : List Cond := Cond.code y_SM_requireTree c_SM_requireTree 2 none :: kG
theorem h_SM_requireTree : y_SM_requireTree.cls = R_SM ∧ y_SM_requireTree.cls ≠ "java/lang/invoke/MethodHandle" ∧ y_SM_requireTree.cls ≠ "java/lang/invoke/VarHandle" ∧ (parseMethodDescriptor y_SM_requireTree.desc).map (fun d => d.parameters.length) = some 1 := by decide +kernel
def ws_SM_requirePlain : List Cond := Cond.code y_SM_requirePlain c_SM_requirePlain 2 none :: kG
theorem h_SM_requirePlain : y_SM_requirePlain.cls = R_SM ∧ y_SM_requirePlain.cls ≠ "java/lang/invoke/MethodHandle" ∧ y_SM_requirePlain.cls ≠ "java/lang/invoke/VarHandle" ∧ (parseMethodDescriptor y_SM_requirePlain.desc).map (fun d => d.parameters.length) = some 1 := by decide +kernel
def ws_SM_requireMatch : List Cond := Cond.code y_SM_requireMatch c_SM_requireMatch 2 none :: kG
theorem h_SM_requireMatch : y_SM_requireMatch.cls = R_SM ∧ y_SM_requireMatch.cls ≠ "java/lang/invoke/MethodHandle" ∧ y_SM_requireMatch.cls ≠ "java/lang/invoke/VarHandle" ∧ (parseMethodDescriptor y_SM_requireMatch.desc).map (fun d => d.parameters.length) = some 1 := by decide +kernel
def ws_SM_requireBelow : List Cond := Cond.code y_SM_requireBelow c_SM_requireBelow 2 none :: kG
theorem h_SM_requireBelow : y_SM_requireBelow.cls = R_SM ∧ y_SM_requireBelow.cls ≠ "java/lang/invoke/MethodHandle" ∧ y_SM_requireBelow.cls ≠ "java/lang/invoke/VarHandle" ∧ (parseMethodDescriptor y_SM_requireBelow.desc).map (fun d => d.parameters.length) = some 2 := by decide +kernel
def ws_Md_init : List Cond := Cond.code y_Md_init c_Md_init 1 none :: kG
theorem h_Md_init : y_Md_init.cls = R_Md ∧ y_Md_init.cls ≠ "java/lang/invoke/MethodHandle" ∧ y_Md_init.cls ≠ "java/lang/invoke/VarHandle" ∧ (parseMethodDescriptor y_Md_init.desc).map (fun d => d.parameters.length) = some 0 := by decide +kernel
def ws_Md_compare : List Cond := Cond.code y_Md_compare c_Md_compare 7 (some .int) :: kG
theorem h_Md_compare : y_Md_compare.cls = R_Md ∧ y_Md_compare.cls ≠ "java/lang/invoke/MethodHandle" ∧ y_Md_compare.cls ≠ "java/lang/invoke/VarHandle" ∧ (parseMethodDescriptor y_Md_compare.desc).map (fun d => d.parameters.length) = some 2 := by decide +kernel
def ws_Md_anyOrder : List Cond := Cond.code y_Md_anyOrder c_Md_anyOrder 1 (some .boolean) :: kG
theorem h_Md_anyOrder : y_Md_anyOrder.cls = R_Md ∧ y_Md_anyOrder.cls ≠ "java/lang/invoke/MethodHandle" ∧ y_Md_anyOrder.cls ≠ "java/lang/invoke/VarHandle" ∧ (parseMethodDescriptor y_Md_anyOrder.desc).map (fun d => d.parameters.length) = some 1 := by decide +kernel
def ws_Md_severals : List Cond := Cond.code y_Md_severals c_Md_severals 2 (some .boolean) :: kG
theorem h_Md_severals : y_Md_severals.cls = R_Md ∧ y_Md_severals.cls ≠ "java/lang/invoke/MethodHandle" ∧ y_Md_severals.cls ≠ "java/lang/invoke/VarHandle" ∧ (parseMethodDescriptor y_Md_severals.desc).map (fun d => d.parameters.length) = some 1 := by decide +kernel
def ws_Md_bits : List Cond := Cond.code y_Md_bits c_Md_bits 3 (some .int) :: kG
theorem h_Md_bits : y_Md_bits.cls = R_Md ∧ y_Md_bits.cls ≠ "java/lang/invoke/MethodHandle" ∧ y_Md_bits.cls ≠ "java/lang/invoke/VarHandle" ∧ (parseMethodDescriptor y_Md_bits.desc).map (fun d => d.parameters.length) = some 1 := by decide +kernel
def ws_Md_testHolds : List Cond := Cond.code y_Md_testHolds c_Md_testHolds 6 (some .boolean) :: kG
theorem h_Md_testHolds : y_Md_testHolds.cls = R_Md ∧ y_Md_testHolds.cls ≠ "java/lang/invoke/MethodHandle" ∧ y_Md_testHolds.cls ≠ "java/lang/invoke/VarHandle" ∧ (parseMethodDescriptor y_Md_testHolds.desc).map (fun d => d.parameters.length) = some 3 := by decide +kernel
def ws_Md_binds : List Cond := Cond.code y_Md_binds c_Md_binds 5 (some .boolean) :: kG
theorem h_Md_binds : y_Md_binds.cls = R_Md ∧ y_Md_binds.cls ≠ "java/lang/invoke/MethodHandle" ∧ y_Md_binds.cls ≠ "java/lang/invoke/VarHandle" ∧ (parseMethodDescriptor y_Md_binds.desc).map (fun d => d.parameters.length) = some 2 := by decide +kernel
def ws_Md_goal : List Cond := Cond.code y_Md_goal c_Md_goal 6 (some .int) :: kG
theorem h_Md_goal : y_Md_goal.cls = R_Md ∧ y_Md_goal.cls ≠ "java/lang/invoke/MethodHandle" ∧ y_Md_goal.cls ≠ "java/lang/invoke/VarHandle" ∧ (parseMethodDescriptor y_Md_goal.desc).map (fun d => d.parameters.length) = some 5 := by decide +kernel
def ws_Md_puts : List Cond := Cond.code y_Md_puts c_Md_puts 5 (some .int) :: kG
theorem h_Md_puts : y_Md_puts.cls = R_Md ∧ y_Md_puts.cls ≠ "java/lang/invoke/MethodHandle" ∧ y_Md_puts.cls ≠ "java/lang/invoke/VarHandle" ∧ (parseMethodDescriptor y_Md_puts.desc).map (fun d => d.parameters.length) = some 3 := by decide +kernel
def ws_Md_bit : List Cond := Cond.code y_Md_bit c_Md_bit 1 (some .int) :: kG
theorem h_Md_bit : y_Md_bit.cls = R_Md ∧ y_Md_bit.cls ≠ "java/lang/invoke/MethodHandle" ∧ y_Md_bit.cls ≠ "java/lang/invoke/VarHandle" ∧ (parseMethodDescriptor y_Md_bit.desc).map (fun d => d.parameters.length) = some 1 := by decide +kernel
def ws_Md_leftOf : List Cond := Cond.code y_Md_leftOf c_Md_leftOf 4 (some .int) :: kG
theorem h_Md_leftOf : y_Md_leftOf.cls = R_Md ∧ y_Md_leftOf.cls ≠ "java/lang/invoke/MethodHandle" ∧ y_Md_leftOf.cls ≠ "java/lang/invoke/VarHandle" ∧ (parseMethodDescriptor y_Md_leftOf.desc).map (fun d => d.parameters.length) = some 1 := by decide +kernel
def ws_Md_takenNext : List Cond := Cond.code y_Md_takenNext c_Md_takenNext 8 (some .int) :: kG
theorem h_Md_takenNext : y_Md_takenNext.cls = R_Md ∧ y_Md_takenNext.cls ≠ "java/lang/invoke/MethodHandle" ∧ y_Md_takenNext.cls ≠ "java/lang/invoke/VarHandle" ∧ (parseMethodDescriptor y_Md_takenNext.desc).map (fun d => d.parameters.length) = some 2 := by decide +kernel
def ws_Md_firstOf : List Cond := Cond.code y_Md_firstOf c_Md_firstOf 5 (some .int) :: kG
theorem h_Md_firstOf : y_Md_firstOf.cls = R_Md ∧ y_Md_firstOf.cls ≠ "java/lang/invoke/MethodHandle" ∧ y_Md_firstOf.cls ≠ "java/lang/invoke/VarHandle" ∧ (parseMethodDescriptor y_Md_firstOf.desc).map (fun d => d.parameters.length) = some 2 := by decide +kernel
def ws_Md_keepMatch : List Cond := Cond.code y_Md_keepMatch c_Md_keepMatch 3 none :: kG
theorem h_Md_keepMatch : y_Md_keepMatch.cls = R_Md ∧ y_Md_keepMatch.cls ≠ "java/lang/invoke/MethodHandle" ∧ y_Md_keepMatch.cls ≠ "java/lang/invoke/VarHandle" ∧ (parseMethodDescriptor y_Md_keepMatch.desc).map (fun d => d.parameters.length) = some 0 := by decide +kernel
def ws_Md_tries : List Cond := Cond.code y_Md_tries c_Md_tries 1 (some .boolean) :: kG
theorem h_Md_tries : y_Md_tries.cls = R_Md ∧ y_Md_tries.cls ≠ "java/lang/invoke/MethodHandle" ∧ y_Md_tries.cls ≠ "java/lang/invoke/VarHandle" ∧ (parseMethodDescriptor y_Md_tries.desc).map (fun d => d.parameters.length) = some 0 := by decide +kernel
def ws_Md_backTo : List Cond := Cond.code y_Md_backTo c_Md_backTo 3 none :: kG
theorem h_Md_backTo : y_Md_backTo.cls = R_Md ∧ y_Md_backTo.cls ≠ "java/lang/invoke/MethodHandle" ∧ y_Md_backTo.cls ≠ "java/lang/invoke/VarHandle" ∧ (parseMethodDescriptor y_Md_backTo.desc).map (fun d => d.parameters.length) = some 2 := by decide +kernel
def ws_Md_otherwise : List Cond := Cond.code y_Md_otherwise c_Md_otherwise 7 (some .int) :: kG
theorem h_Md_otherwise : y_Md_otherwise.cls = R_Md ∧ y_Md_otherwise.cls ≠ "java/lang/invoke/MethodHandle" ∧ y_Md_otherwise.cls ≠ "java/lang/invoke/VarHandle" ∧ (parseMethodDescriptor y_Md_otherwise.desc).map (fun d => d.parameters.length) = some 0 := by decide +kernel
def ws_Md_search : List Cond := Cond.code y_Md_search c_Md_search 5 none :: kG
theorem h_Md_search : y_Md_search.cls = R_Md ∧ y_Md_search.cls ≠ "java/lang/invoke/MethodHandle" ∧ y_Md_search.cls ≠ "java/lang/invoke/VarHandle" ∧ (parseMethodDescriptor y_Md_search.desc).map (fun d => d.parameters.length) = some 3 := by decide +kernel
def ws_Md_may : List Cond := Cond.code y_Md_may c_Md_may 8 (some .boolean) :: kG
theorem h_Md_may : y_Md_may.cls = R_Md ∧ y_Md_may.cls ≠ "java/lang/invoke/MethodHandle" ∧ y_Md_may.cls ≠ "java/lang/invoke/VarHandle" ∧ (parseMethodDescriptor y_Md_may.desc).map (fun d => d.parameters.length) = some 2 := by decide +kernel
def ws_Md_thrown : List Cond := Cond.code y_Md_thrown c_Md_thrown 1 (some .int) :: kG
theorem h_Md_thrown : y_Md_thrown.cls = R_Md ∧ y_Md_thrown.cls ≠ "java/lang/invoke/MethodHandle" ∧ y_Md_thrown.cls ≠ "java/lang/invoke/VarHandle" ∧ (parseMethodDescriptor y_Md_thrown.desc).map (fun d => d.parameters.length) = some 0 := by decide +kernel
def ws_Md_noTree : List Cond := Cond.code y_Md_noTree c_Md_noTree 2 (some .boolean) :: kG
theorem h_Md_noTree : y_Md_noTree.cls = R_Md ∧ y_Md_noTree.cls ≠ "java/lang/invoke/MethodHandle" ∧ y_Md_noTree.cls ≠ "java/lang/invoke/VarHandle" ∧ (parseMethodDescriptor y_Md_noTree.desc).map (fun d => d.parameters.length) = some 1 := by decide +kernel
def ws_Md_tree : List Cond := Cond.code y_Md_tree c_Md_tree 4 (some .int) :: kG
theorem h_Md_tree : y_Md_tree.cls = R_Md ∧ y_Md_tree.cls ≠ "java/lang/invoke/MethodHandle" ∧ y_Md_tree.cls ≠ "java/lang/invoke/VarHandle" ∧ (parseMethodDescriptor y_Md_tree.desc).map (fun d => d.parameters.length) = some 3 := by decide +kernel
def ws_Md_leaf : List Cond := Cond.code y_Md_leaf c_Md_leaf 2 (some .int) :: kG
theorem h_Md_leaf : y_Md_leaf.cls = R_Md ∧ y_Md_leaf.cls ≠ "java/lang/invoke/MethodHandle" ∧ y_Md_leaf.cls ≠ "java/lang/invoke/VarHandle" ∧ (parseMethodDescriptor y_Md_leaf.desc).map (fun d => d.parameters.length) = some 1 := by decide +kernel
def ws_Md_node : List Cond := Cond.code y_Md_node c_Md_node 2 (some .int) :: kG
theorem h_Md_node : y_Md_node.cls = R_Md ∧ y_Md_node.cls ≠ "java/lang/invoke/MethodHandle" ∧ y_Md_node.cls ≠ "java/lang/invoke/VarHandle" ∧ (parseMethodDescriptor y_Md_node.desc).map (fun d => d.parameters.length) = some 1 := by decide +kernel
def ws_Md_hole : List Cond := Cond.code y_Md_hole c_Md_hole 4 (some .int) :: kG
theorem h_Md_hole : y_Md_hole.cls = R_Md ∧ y_Md_hole.cls ≠ "java/lang/invoke/MethodHandle" ∧ y_Md_hole.cls ≠ "java/lang/invoke/VarHandle" ∧ (parseMethodDescriptor y_Md_hole.desc).map (fun d => d.parameters.length) = some 2 := by decide +kernel
def ws_Md_more : List Cond := Cond.code y_Md_more c_Md_more 5 (some .boolean) :: kG
theorem h_Md_more : y_Md_more.cls = R_Md ∧ y_Md_more.cls ≠ "java/lang/invoke/MethodHandle" ∧ y_Md_more.cls ≠ "java/lang/invoke/VarHandle" ∧ (parseMethodDescriptor y_Md_more.desc).map (fun d => d.parameters.length) = some 2 := by decide +kernel
def ws_Md_test : List Cond := Cond.code y_Md_test c_Md_test 4 (some .boolean) :: kG
theorem h_Md_test : y_Md_test.cls = R_Md ∧ y_Md_test.cls ≠ "java/lang/invoke/MethodHandle" ∧ y_Md_test.cls ≠ "java/lang/invoke/VarHandle" ∧ (parseMethodDescriptor y_Md_test.desc).map (fun d => d.parameters.length) = some 3 := by decide +kernel
def ws_Md_match : List Cond := Cond.code y_Md_match c_Md_match 4 (some .int) :: kG
theorem h_Md_match : y_Md_match.cls = R_Md ∧ y_Md_match.cls ≠ "java/lang/invoke/MethodHandle" ∧ y_Md_match.cls ≠ "java/lang/invoke/VarHandle" ∧ (parseMethodDescriptor y_Md_match.desc).map (fun d => d.parameters.length) = some 3 := by decide +kernel
def ws_Md_tried : List Cond := Cond.code y_Md_tried c_Md_tried 1 (some .int) :: kG
theorem h_Md_tried : y_Md_tried.cls = R_Md ∧ y_Md_tried.cls ≠ "java/lang/invoke/MethodHandle" ∧ y_Md_tried.cls ≠ "java/lang/invoke/VarHandle" ∧ (parseMethodDescriptor y_Md_tried.desc).map (fun d => d.parameters.length) = some 0 := by decide +kernel
def ws_Md_bound : List Cond := Cond.code y_Md_bound c_Md_bound 4 (some .int) :: kG
theorem h_Md_bound : y_Md_bound.cls = R_Md ∧ y_Md_bound.cls ≠ "java/lang/invoke/MethodHandle" ∧ y_Md_bound.cls ≠ "java/lang/invoke/VarHandle" ∧ (parseMethodDescriptor y_Md_bound.desc).map (fun d => d.parameters.length) = some 3 := by decide +kernel
def ws_Md_many : List Cond := Cond.code y_Md_many c_Md_many 3 (some .int) :: kG
theorem h_Md_many : y_Md_many.cls = R_Md ∧ y_Md_many.cls ≠ "java/lang/invoke/MethodHandle" ∧ y_Md_many.cls ≠ "java/lang/invoke/VarHandle" ∧ (parseMethodDescriptor y_Md_many.desc).map (fun d => d.parameters.length) = some 2 := by decide +kernel
def ws_Md_rule : List Cond := Cond.code y_Md_rule c_Md_rule 2 (some .int) :: kG
theorem h_Md_rule : y_Md_rule.cls = R_Md ∧ y_Md_rule.cls ≠ "java/lang/invoke/MethodHandle" ∧ y_Md_rule.cls ≠ "java/lang/invoke/VarHandle" ∧ (parseMethodDescriptor y_Md_rule.desc).map (fun d => d.parameters.length) = some 1 := by decide +kernel
def ws_Md_net : List Cond := Cond.code y_Md_net c_Md_net 3 (some .int) :: kG
theorem h_Md_net : y_Md_net.cls = R_Md ∧ y_Md_net.cls ≠ "java/lang/invoke/MethodHandle" ∧ y_Md_net.cls ≠ "java/lang/invoke/VarHandle" ∧ (parseMethodDescriptor y_Md_net.desc).map (fun d => d.parameters.length) = some 1 := by decide +kernel
def ws_Md_rules : List Cond := Cond.code y_Md_rules c_Md_rules 2 (some .int) :: kG
theorem h_Md_rules : y_Md_rules.cls = R_Md ∧ y_Md_rules.cls ≠ "java/lang/invoke/MethodHandle" ∧ y_Md_rules.cls ≠ "java/lang/invoke/VarHandle" ∧ (parseMethodDescriptor y_Md_rules.desc).map (fun d => d.parameters.length) = some 1 := by decide +kernel
def ws_Md_first : List Cond := Cond.code y_Md_first c_Md_first 4 (some .int) :: kG
theorem h_Md_first : y_Md_first.cls = R_Md ∧ y_Md_first.cls ≠ "java/lang/invoke/MethodHandle" ∧ y_Md_first.cls ≠ "java/lang/invoke/VarHandle" ∧ (parseMethodDescriptor y_Md_first.desc).map (fun d => d.parameters.length) = some 1 := by decide +kernel
def ws_Md_order : List Cond := Cond.code y_Md_order c_Md_order 3 (some .int) :: kG
theorem h_Md_order : y_Md_order.cls = R_Md ∧ y_Md_order.cls ≠ "java/lang/invoke/MethodHandle" ∧ y_Md_order.cls ≠ "java/lang/invoke/VarHandle" ∧ (parseMethodDescriptor y_Md_order.desc).map (fun d => d.parameters.length) = some 2 := by decide +kernel
def ws_Md_parts : List Cond := Cond.code y_Md_parts c_Md_parts 2 (some .int) :: kG
theorem h_Md_parts : y_Md_parts.cls = R_Md ∧ y_Md_parts.cls ≠ "java/lang/invoke/MethodHandle" ∧ y_Md_parts.cls ≠ "java/lang/invoke/VarHandle" ∧ (parseMethodDescriptor y_Md_parts.desc).map (fun d => d.parameters.length) = some 1 := by decide +kernel
def ws_Md_part : List Cond := Cond.code y_Md_part c_Md_part 3 (some .int) :: kG
theorem h_Md_part : y_Md_part.cls = R_Md ∧ y_Md_part.cls ≠ "java/lang/invoke/MethodHandle" ∧ y_Md_part.cls ≠ "java/lang/invoke/VarHandle" ∧ (parseMethodDescriptor y_Md_part.desc).map (fun d => d.parameters.length) = some 2 := by decide +kernel
def ws_Md_count : List Cond := Cond.code y_Md_count c_Md_count 2 (some .int) :: kG
theorem h_Md_count : y_Md_count.cls = R_Md ∧ y_Md_count.cls ≠ "java/lang/invoke/MethodHandle" ∧ y_Md_count.cls ≠ "java/lang/invoke/VarHandle" ∧ (parseMethodDescriptor y_Md_count.desc).map (fun d => d.parameters.length) = some 1 := by decide +kernel
def ws_F_init : List Cond := Cond.code y_F_init c_F_init 1 none :: kG
theorem h_F_init : y_F_init.cls = R_F ∧ y_F_init.cls ≠ "java/lang/invoke/MethodHandle" ∧ y_F_init.cls ≠ "java/lang/invoke/VarHandle" ∧ (parseMethodDescriptor y_F_init.desc).map (fun d => d.parameters.length) = some 0 := by decide +kernel
def ws_F_treeCount : List Cond := Cond.code y_F_treeCount c_F_treeCount 1 (some .int) :: kG
theorem h_F_treeCount : y_F_treeCount.cls = R_F ∧ y_F_treeCount.cls ≠ "java/lang/invoke/MethodHandle" ∧ y_F_treeCount.cls ≠ "java/lang/invoke/VarHandle" ∧ (parseMethodDescriptor y_F_treeCount.desc).map (fun d => d.parameters.length) = some 0 := by decide +kernel
def ws_F_isFull : List Cond := Cond.code y_F_isFull c_F_isFull 1 (some .boolean) :: kG
theorem h_F_isFull : y_F_isFull.cls = R_F ∧ y_F_isFull.cls ≠ "java/lang/invoke/MethodHandle" ∧ y_F_isFull.cls ≠ "java/lang/invoke/VarHandle" ∧ (parseMethodDescriptor y_F_isFull.desc).map (fun d => d.parameters.length) = some 0 := by decide +kernel
def ws_F_hasTree : List Cond := Cond.code y_F_hasTree c_F_hasTree 2 (some .boolean) :: kG
theorem h_F_hasTree : y_F_hasTree.cls = R_F ∧ y_F_hasTree.cls ≠ "java/lang/invoke/MethodHandle" ∧ y_F_hasTree.cls ≠ "java/lang/invoke/VarHandle" ∧ (parseMethodDescriptor y_F_hasTree.desc).map (fun d => d.parameters.length) = some 1 := by decide +kernel
def ws_F_add : List Cond := Cond.code y_F_add c_F_add 5 (some .int) :: kG
theorem h_F_add : y_F_add.cls = R_F ∧ y_F_add.cls ≠ "java/lang/invoke/MethodHandle" ∧ y_F_add.cls ≠ "java/lang/invoke/VarHandle" ∧ (parseMethodDescriptor y_F_add.desc).map (fun d => d.parameters.length) = some 3 := by decide +kernel
def ws_F_close : List Cond := Cond.code y_F_close c_F_close 2 none :: kG
theorem h_F_close : y_F_close.cls = R_F ∧ y_F_close.cls ≠ "java/lang/invoke/MethodHandle" ∧ y_F_close.cls ≠ "java/lang/invoke/VarHandle" ∧ (parseMethodDescriptor y_F_close.desc).map (fun d => d.parameters.length) = some 1 := by decide +kernel
def ws_F_isPlain : List Cond := Cond.code y_F_isPlain c_F_isPlain 2 (some .boolean) :: kG
theorem h_F_isPlain : y_F_isPlain.cls = R_F ∧ y_F_isPlain.cls ≠ "java/lang/invoke/MethodHandle" ∧ y_F_isPlain.cls ≠ "java/lang/invoke/VarHandle" ∧ (parseMethodDescriptor y_F_isPlain.desc).map (fun d => d.parameters.length) = some 1 := by decide +kernel
def ws_F_isLeaf : List Cond := Cond.code y_F_isLeaf c_F_isLeaf 2 (some .boolean) :: kG
theorem h_F_isLeaf : y_F_isLeaf.cls = R_F ∧ y_F_isLeaf.cls ≠ "java/lang/invoke/MethodHandle" ∧ y_F_isLeaf.cls ≠ "java/lang/invoke/VarHandle" ∧ (parseMethodDescriptor y_F_isLeaf.desc).map (fun d => d.parameters.length) = some 1 := by decide +kernel
def ws_F_isNode : List Cond := Cond.code y_F_isNode c_F_isNode 2 (some .boolean) :: kG
theorem h_F_isNode : y_F_isNode.cls = R_F ∧ y_F_isNode.cls ≠ "java/lang/invoke/MethodHandle" ∧ y_F_isNode.cls ≠ "java/lang/invoke/VarHandle" ∧ (parseMethodDescriptor y_F_isNode.desc).map (fun d => d.parameters.length) = some 1 := by decide +kernel
def ws_F_isHole : List Cond := Cond.code y_F_isHole c_F_isHole 2 (some .boolean) :: kG
theorem h_F_isHole : y_F_isHole.cls = R_F ∧ y_F_isHole.cls ≠ "java/lang/invoke/MethodHandle" ∧ y_F_isHole.cls ≠ "java/lang/invoke/VarHandle" ∧ (parseMethodDescriptor y_F_isHole.desc).map (fun d => d.parameters.length) = some 1 := by decide +kernel
def ws_F_isHoleOfKind : List Cond := Cond.code y_F_isHoleOfKind c_F_isHoleOfKind 3 (some .boolean) :: kG
theorem h_F_isHoleOfKind : y_F_isHoleOfKind.cls = R_F ∧ y_F_isHoleOfKind.cls ≠ "java/lang/invoke/MethodHandle" ∧ y_F_isHoleOfKind.cls ≠ "java/lang/invoke/VarHandle" ∧ (parseMethodDescriptor y_F_isHoleOfKind.desc).map (fun d => d.parameters.length) = some 2 := by decide +kernel
def ws_F_takesSeveral : List Cond := Cond.code y_F_takesSeveral c_F_takesSeveral 2 (some .boolean) :: kG
theorem h_F_takesSeveral : y_F_takesSeveral.cls = R_F ∧ y_F_takesSeveral.cls ≠ "java/lang/invoke/MethodHandle" ∧ y_F_takesSeveral.cls ≠ "java/lang/invoke/VarHandle" ∧ (parseMethodDescriptor y_F_takesSeveral.desc).map (fun d => d.parameters.length) = some 1 := by decide +kernel
def ws_F_isAnyOrder : List Cond := Cond.code y_F_isAnyOrder c_F_isAnyOrder 2 (some .boolean) :: kG
theorem h_F_isAnyOrder : y_F_isAnyOrder.cls = R_F ∧ y_F_isAnyOrder.cls ≠ "java/lang/invoke/MethodHandle" ∧ y_F_isAnyOrder.cls ≠ "java/lang/invoke/VarHandle" ∧ (parseMethodDescriptor y_F_isAnyOrder.desc).map (fun d => d.parameters.length) = some 1 := by decide +kernel
def ws_F_nameOf : List Cond := Cond.code y_F_nameOf c_F_nameOf 2 (some .int) :: kG
theorem h_F_nameOf : y_F_nameOf.cls = R_F ∧ y_F_nameOf.cls ≠ "java/lang/invoke/MethodHandle" ∧ y_F_nameOf.cls ≠ "java/lang/invoke/VarHandle" ∧ (parseMethodDescriptor y_F_nameOf.desc).map (fun d => d.parameters.length) = some 1 := by decide +kernel
def ws_F_partCount : List Cond := Cond.code y_F_partCount c_F_partCount 2 (some .int) :: kG
theorem h_F_partCount : y_F_partCount.cls = R_F ∧ y_F_partCount.cls ≠ "java/lang/invoke/MethodHandle" ∧ y_F_partCount.cls ≠ "java/lang/invoke/VarHandle" ∧ (parseMethodDescriptor y_F_partCount.desc).map (fun d => d.parameters.length) = some 1 := by decide +kernel
def ws_F_partAt : List Cond := Cond.code y_F_partAt c_F_partAt 3 (some .int) :: kG
theorem h_F_partAt : y_F_partAt.cls = R_F ∧ y_F_partAt.cls ≠ "java/lang/invoke/MethodHandle" ∧ y_F_partAt.cls ≠ "java/lang/invoke/VarHandle" ∧ (parseMethodDescriptor y_F_partAt.desc).map (fun d => d.parameters.length) = some 2 := by decide +kernel
def ws_F_looksLike : List Cond := Cond.code y_F_looksLike c_F_looksLike 3 (some .boolean) :: kG
theorem h_F_looksLike : y_F_looksLike.cls = R_F ∧ y_F_looksLike.cls ≠ "java/lang/invoke/MethodHandle" ∧ y_F_looksLike.cls ≠ "java/lang/invoke/VarHandle" ∧ (parseMethodDescriptor y_F_looksLike.desc).map (fun d => d.parameters.length) = some 2 := by decide +kernel
def ws_F_mayTake : List Cond := Cond.code y_F_mayTake c_F_mayTake 3 (some .boolean) :: kG
theorem h_F_mayTake : y_F_mayTake.cls = R_F ∧ y_F_mayTake.cls ≠ "java/lang/invoke/MethodHandle" ∧ y_F_mayTake.cls ≠ "java/lang/invoke/VarHandle" ∧ (parseMethodDescriptor y_F_mayTake.desc).map (fun d => d.parameters.length) = some 2 := by decide +kernel
def ws_F_addPart : List Cond := Cond.code y_F_addPart c_F_addPart 7 (some .boolean) :: kG
theorem h_F_addPart : y_F_addPart.cls = R_F ∧ y_F_addPart.cls ≠ "java/lang/invoke/MethodHandle" ∧ y_F_addPart.cls ≠ "java/lang/invoke/VarHandle" ∧ (parseMethodDescriptor y_F_addPart.desc).map (fun d => d.parameters.length) = some 2 := by decide +kernel
def ws_F_placeFor : List Cond := Cond.code y_F_placeFor c_F_placeFor 4 (some .int) :: kG
theorem h_F_placeFor : y_F_placeFor.cls = R_F ∧ y_F_placeFor.cls ≠ "java/lang/invoke/MethodHandle" ∧ y_F_placeFor.cls ≠ "java/lang/invoke/VarHandle" ∧ (parseMethodDescriptor y_F_placeFor.desc).map (fun d => d.parameters.length) = some 2 := by decide +kernel
def ws_F_compare : List Cond := Cond.code y_F_compare c_F_compare 3 (some .int) :: kG
theorem h_F_compare : y_F_compare.cls = R_F ∧ y_F_compare.cls ≠ "java/lang/invoke/MethodHandle" ∧ y_F_compare.cls ≠ "java/lang/invoke/VarHandle" ∧ (parseMethodDescriptor y_F_compare.desc).map (fun d => d.parameters.length) = some 2 := by decide +kernel
def ws_F_compareFrom : List Cond := Cond.code y_F_compareFrom c_F_compareFrom 9 (some .int) :: kG
theorem h_F_compareFrom : y_F_compareFrom.cls = R_F ∧ y_F_compareFrom.cls ≠ "java/lang/invoke/MethodHandle" ∧ y_F_compareFrom.cls ≠ "java/lang/invoke/VarHandle" ∧ (parseMethodDescriptor y_F_compareFrom.desc).map (fun d => d.parameters.length) = some 4 := by decide +kernel
def ws_F_addTest : List Cond := Cond.code y_F_addTest c_F_addTest 5 (some .boolean) :: kG
theorem h_F_addTest : y_F_addTest.cls = R_F ∧ y_F_addTest.cls ≠ "java/lang/invoke/MethodHandle" ∧ y_F_addTest.cls ≠ "java/lang/invoke/VarHandle" ∧ (parseMethodDescriptor y_F_addTest.desc).map (fun d => d.parameters.length) = some 3 := by decide +kernel
def ws_F_passesTests : List Cond := Cond.code y_F_passesTests c_F_passesTests 6 (some .boolean) :: kG
theorem h_F_passesTests : y_F_passesTests.cls = R_F ∧ y_F_passesTests.cls ≠ "java/lang/invoke/MethodHandle" ∧ y_F_passesTests.cls ≠ "java/lang/invoke/VarHandle" ∧ (parseMethodDescriptor y_F_passesTests.desc).map (fun d => d.parameters.length) = some 3 := by decide +kernel
def ws_F_passes : List Cond := Cond.code y_F_passes c_F_passes 6 (some .boolean) :: kG
theorem h_F_passes : y_F_passes.cls = R_F ∧ y_F_passes.cls ≠ "java/lang/invoke/MethodHandle" ∧ y_F_passes.cls ≠ "java/lang/invoke/VarHandle" ∧ (parseMethodDescriptor y_F_passes.desc).map (fun d => d.parameters.length) = some 4 := by decide +kernel
def ws_F_mayMatch : List Cond := Cond.code y_F_mayMatch c_F_mayMatch 3 (some .boolean) :: kG
theorem h_F_mayMatch : y_F_mayMatch.cls = R_F ∧ y_F_mayMatch.cls ≠ "java/lang/invoke/MethodHandle" ∧ y_F_mayMatch.cls ≠ "java/lang/invoke/VarHandle" ∧ (parseMethodDescriptor y_F_mayMatch.desc).map (fun d => d.parameters.length) = some 2 := by decide +kernel
def ws_F_hasFittingCount : List Cond := Cond.code y_F_hasFittingCount c_F_hasFittingCount 7 (some .boolean) :: kG
theorem h_F_hasFittingCount : y_F_hasFittingCount.cls = R_F ∧ y_F_hasFittingCount.cls ≠ "java/lang/invoke/MethodHandle" ∧ y_F_hasFittingCount.cls ≠ "java/lang/invoke/VarHandle" ∧ (parseMethodDescriptor y_F_hasFittingCount.desc).map (fun d => d.parameters.length) = some 2 := by decide +kernel
def ws_F_hasFittingStart : List Cond := Cond.code y_F_hasFittingStart c_F_hasFittingStart 3 (some .boolean) :: kG
theorem h_F_hasFittingStart : y_F_hasFittingStart.cls = R_F ∧ y_F_hasFittingStart.cls ≠ "java/lang/invoke/MethodHandle" ∧ y_F_hasFittingStart.cls ≠ "java/lang/invoke/VarHandle" ∧ (parseMethodDescriptor y_F_hasFittingStart.desc).map (fun d => d.parameters.length) = some 2 := by decide +kernel
def ws_Mt_init : List Cond := Cond.code y_Mt_init c_Mt_init 1 none :: kG
theorem h_Mt_init : y_Mt_init.cls = R_Mt ∧ y_Mt_init.cls ≠ "java/lang/invoke/MethodHandle" ∧ y_Mt_init.cls ≠ "java/lang/invoke/VarHandle" ∧ (parseMethodDescriptor y_Mt_init.desc).map (fun d => d.parameters.length) = some 0 := by decide +kernel
def ws_Mt_clear : List Cond := Cond.code y_Mt_clear c_Mt_clear 1 none :: kG
theorem h_Mt_clear : y_Mt_clear.cls = R_Mt ∧ y_Mt_clear.cls ≠ "java/lang/invoke/MethodHandle" ∧ y_Mt_clear.cls ≠ "java/lang/invoke/VarHandle" ∧ (parseMethodDescriptor y_Mt_clear.desc).map (fun d => d.parameters.length) = some 0 := by decide +kernel
def ws_Mt_keep : List Cond := Cond.code y_Mt_keep c_Mt_keep 2 none :: kG
theorem h_Mt_keep : y_Mt_keep.cls = R_Mt ∧ y_Mt_keep.cls ≠ "java/lang/invoke/MethodHandle" ∧ y_Mt_keep.cls ≠ "java/lang/invoke/VarHandle" ∧ (parseMethodDescriptor y_Mt_keep.desc).map (fun d => d.parameters.length) = some 1 := by decide +kernel
def ws_Mt_keptCount : List Cond := Cond.code y_Mt_keptCount c_Mt_keptCount 1 (some .int) :: kG
theorem h_Mt_keptCount : y_Mt_keptCount.cls = R_Mt ∧ y_Mt_keptCount.cls ≠ "java/lang/invoke/MethodHandle" ∧ y_Mt_keptCount.cls ≠ "java/lang/invoke/VarHandle" ∧ (parseMethodDescriptor y_Mt_keptCount.desc).map (fun d => d.parameters.length) = some 0 := by decide +kernel
def ws_Mt_lengthOf : List Cond := Cond.code y_Mt_lengthOf c_Mt_lengthOf 3 (some .int) :: kG
theorem h_Mt_lengthOf : y_Mt_lengthOf.cls = R_Mt ∧ y_Mt_lengthOf.cls ≠ "java/lang/invoke/MethodHandle" ∧ y_Mt_lengthOf.cls ≠ "java/lang/invoke/VarHandle" ∧ (parseMethodDescriptor y_Mt_lengthOf.desc).map (fun d => d.parameters.length) = some 2 := by decide +kernel
def ws_Mt_treeOf : List Cond := Cond.code y_Mt_treeOf c_Mt_treeOf 4 (some .int) :: kG
theorem h_Mt_treeOf : y_Mt_treeOf.cls = R_Mt ∧ y_Mt_treeOf.cls ≠ "java/lang/invoke/MethodHandle" ∧ y_Mt_treeOf.cls ≠ "java/lang/invoke/VarHandle" ∧ (parseMethodDescriptor y_Mt_treeOf.desc).map (fun d => d.parameters.length) = some 3 := by decide +kernel
def ws_Nm_init : List Cond := Cond.code y_Nm_init c_Nm_init 1 none :: kG
theorem h_Nm_init : y_Nm_init.cls = R_Nm ∧ y_Nm_init.cls ≠ "java/lang/invoke/MethodHandle" ∧ y_Nm_init.cls ≠ "java/lang/invoke/VarHandle" ∧ (parseMethodDescriptor y_Nm_init.desc).map (fun d => d.parameters.length) = some 0 := by decide +kernel
def ws_Nm_clear : List Cond := Cond.code y_Nm_clear c_Nm_clear 1 none :: kG
theorem h_Nm_clear : y_Nm_clear.cls = R_Nm ∧ y_Nm_clear.cls ≠ "java/lang/invoke/MethodHandle" ∧ y_Nm_clear.cls ≠ "java/lang/invoke/VarHandle" ∧ (parseMethodDescriptor y_Nm_clear.desc).map (fun d => d.parameters.length) = some 0 := by decide +kernel
def ws_Nm_hasNothing : List Cond := Cond.code y_Nm_hasNothing c_Nm_hasNothing 2 (some .boolean) :: kG
theorem h_Nm_hasNothing : y_Nm_hasNothing.cls = R_Nm ∧ y_Nm_hasNothing.cls ≠ "java/lang/invoke/MethodHandle" ∧ y_Nm_hasNothing.cls ≠ "java/lang/invoke/VarHandle" ∧ (parseMethodDescriptor y_Nm_hasNothing.desc).map (fun d => d.parameters.length) = some 1 := by decide +kernel
def ws_Nm_give : List Cond := Cond.code y_Nm_give c_Nm_give 5 none :: kG
theorem h_Nm_give : y_Nm_give.cls = R_Nm ∧ y_Nm_give.cls ≠ "java/lang/invoke/MethodHandle" ∧ y_Nm_give.cls ≠ "java/lang/invoke/VarHandle" ∧ (parseMethodDescriptor y_Nm_give.desc).map (fun d => d.parameters.length) = some 4 := by decide +kernel
def ws_Nm_takeBack : List Cond := Cond.code y_Nm_takeBack c_Nm_takeBack 3 none :: kG
theorem h_Nm_takeBack : y_Nm_takeBack.cls = R_Nm ∧ y_Nm_takeBack.cls ≠ "java/lang/invoke/MethodHandle" ∧ y_Nm_takeBack.cls ≠ "java/lang/invoke/VarHandle" ∧ (parseMethodDescriptor y_Nm_takeBack.desc).map (fun d => d.parameters.length) = some 2 := by decide +kernel
def ws_Nm_hasSame : List Cond := Cond.code y_Nm_hasSame c_Nm_hasSame 6 (some .boolean) :: kG
theorem h_Nm_hasSame : y_Nm_hasSame.cls = R_Nm ∧ y_Nm_hasSame.cls ≠ "java/lang/invoke/MethodHandle" ∧ y_Nm_hasSame.cls ≠ "java/lang/invoke/VarHandle" ∧ (parseMethodDescriptor y_Nm_hasSame.desc).map (fun d => d.parameters.length) = some 4 := by decide +kernel
def ws_Pc_all : List Cond := Cond.code y_Pc_all c_Pc_all 1 (some .int) :: kG
theorem h_Pc_all : y_Pc_all.cls = R_Pc ∧ y_Pc_all.cls ≠ "java/lang/invoke/MethodHandle" ∧ y_Pc_all.cls ≠ "java/lang/invoke/VarHandle" ∧ (parseMethodDescriptor y_Pc_all.desc).map (fun d => d.parameters.length) = some 1 := by decide +kernel
def ws_Pc_lowest : List Cond := Cond.code y_Pc_lowest c_Pc_lowest 6 (some .int) :: kG
theorem h_Pc_lowest : y_Pc_lowest.cls = R_Pc ∧ y_Pc_lowest.cls ≠ "java/lang/invoke/MethodHandle" ∧ y_Pc_lowest.cls ≠ "java/lang/invoke/VarHandle" ∧ (parseMethodDescriptor y_Pc_lowest.desc).map (fun d => d.parameters.length) = some 2 := by decide +kernel
def ws_Pc_behind : List Cond := Cond.code y_Pc_behind c_Pc_behind 2 (some .int) :: kG
theorem h_Pc_behind : y_Pc_behind.cls = R_Pc ∧ y_Pc_behind.cls ≠ "java/lang/invoke/MethodHandle" ∧ y_Pc_behind.cls ≠ "java/lang/invoke/VarHandle" ∧ (parseMethodDescriptor y_Pc_behind.desc).map (fun d => d.parameters.length) = some 2 := by decide +kernel
def ws_Pc_nextChoice : List Cond := Cond.code y_Pc_nextChoice c_Pc_nextChoice 6 (some .int) :: kG
theorem h_Pc_nextChoice : y_Pc_nextChoice.cls = R_Pc ∧ y_Pc_nextChoice.cls ≠ "java/lang/invoke/MethodHandle" ∧ y_Pc_nextChoice.cls ≠ "java/lang/invoke/VarHandle" ∧ (parseMethodDescriptor y_Pc_nextChoice.desc).map (fun d => d.parameters.length) = some 2 := by decide +kernel
def ws_Pl_init : List Cond := Cond.code y_Pl_init c_Pl_init 1 none :: kG
theorem h_Pl_init : y_Pl_init.cls = R_Pl ∧ y_Pl_init.cls ≠ "java/lang/invoke/MethodHandle" ∧ y_Pl_init.cls ≠ "java/lang/invoke/VarHandle" ∧ (parseMethodDescriptor y_Pl_init.desc).map (fun d => d.parameters.length) = some 0 := by decide +kernel
def ws_Pl_lay : List Cond := Cond.code y_Pl_lay c_Pl_lay 3 none :: kG
theorem h_Pl_lay : y_Pl_lay.cls = R_Pl ∧ y_Pl_lay.cls ≠ "java/lang/invoke/MethodHandle" ∧ y_Pl_lay.cls ≠ "java/lang/invoke/VarHandle" ∧ (parseMethodDescriptor y_Pl_lay.desc).map (fun d => d.parameters.length) = some 2 := by decide +kernel
def ws_Pl_layParts : List Cond := Cond.code y_Pl_layParts c_Pl_layParts 8 none :: kG
theorem h_Pl_layParts : y_Pl_layParts.cls = R_Pl ∧ y_Pl_layParts.cls ≠ "java/lang/invoke/MethodHandle" ∧ y_Pl_layParts.cls ≠ "java/lang/invoke/VarHandle" ∧ (parseMethodDescriptor y_Pl_layParts.desc).map (fun d => d.parameters.length) = some 4 := by decide +kernel
def ws_Pl_slotCount : List Cond := Cond.code y_Pl_slotCount c_Pl_slotCount 1 (some .int) :: kG
theorem h_Pl_slotCount : y_Pl_slotCount.cls = R_Pl ∧ y_Pl_slotCount.cls ≠ "java/lang/invoke/MethodHandle" ∧ y_Pl_slotCount.cls ≠ "java/lang/invoke/VarHandle" ∧ (parseMethodDescriptor y_Pl_slotCount.desc).map (fun d => d.parameters.length) = some 0 := by decide +kernel
def ws_Pl_treeAt : List Cond := Cond.code y_Pl_treeAt c_Pl_treeAt 2 (some .int) :: kG
theorem h_Pl_treeAt : y_Pl_treeAt.cls = R_Pl ∧ y_Pl_treeAt.cls ≠ "java/lang/invoke/MethodHandle" ∧ y_Pl_treeAt.cls ≠ "java/lang/invoke/VarHandle" ∧ (parseMethodDescriptor y_Pl_treeAt.desc).map (fun d => d.parameters.length) = some 1 := by decide +kernel
def ws_Pl_parentOf : List Cond := Cond.code y_Pl_parentOf c_Pl_parentOf 2 (some .int) :: kG
theorem h_Pl_parentOf : y_Pl_parentOf.cls = R_Pl ∧ y_Pl_parentOf.cls ≠ "java/lang/invoke/MethodHandle" ∧ y_Pl_parentOf.cls ≠ "java/lang/invoke/VarHandle" ∧ (parseMethodDescriptor y_Pl_parentOf.desc).map (fun d => d.parameters.length) = some 1 := by decide +kernel
def ws_Pl_isLastInRow : List Cond := Cond.code y_Pl_isLastInRow c_Pl_isLastInRow 2 (some .boolean) :: kG
theorem h_Pl_isLastInRow : y_Pl_isLastInRow.cls = R_Pl ∧ y_Pl_isLastInRow.cls ≠ "java/lang/invoke/MethodHandle" ∧ y_Pl_isLastInRow.cls ≠ "java/lang/invoke/VarHandle" ∧ (parseMethodDescriptor y_Pl_isLastInRow.desc).map (fun d => d.parameters.length) = some 1 := by decide +kernel
def ws_Se_init : List Cond := Cond.code y_Se_init c_Se_init 2 none :: kG
theorem h_Se_init : y_Se_init.cls = R_Se ∧ y_Se_init.cls ≠ "java/lang/invoke/MethodHandle" ∧ y_Se_init.cls ≠ "java/lang/invoke/VarHandle" ∧ (parseMethodDescriptor y_Se_init.desc).map (fun d => d.parameters.length) = some 1 := by decide +kernel
def ws_Se_matches : List Cond := Cond.code y_Se_matches c_Se_matches 1 (some (.object "SequenceMatch$Matches")) :: kG
theorem h_Se_matches : y_Se_matches.cls = R_Se ∧ y_Se_matches.cls ≠ "java/lang/invoke/MethodHandle" ∧ y_Se_matches.cls ≠ "java/lang/invoke/VarHandle" ∧ (parseMethodDescriptor y_Se_matches.desc).map (fun d => d.parameters.length) = some 0 := by decide +kernel
def ws_Se_triesMade : List Cond := Cond.code y_Se_triesMade c_Se_triesMade 1 (some .int) :: kG
theorem h_Se_triesMade : y_Se_triesMade.cls = R_Se ∧ y_Se_triesMade.cls ≠ "java/lang/invoke/MethodHandle" ∧ y_Se_triesMade.cls ≠ "java/lang/invoke/VarHandle" ∧ (parseMethodDescriptor y_Se_triesMade.desc).map (fun d => d.parameters.length) = some 0 := by decide +kernel
def ws_Se_found : List Cond := Cond.code y_Se_found c_Se_found 1 (some .int) :: kG
theorem h_Se_found : y_Se_found.cls = R_Se ∧ y_Se_found.cls ≠ "java/lang/invoke/MethodHandle" ∧ y_Se_found.cls ≠ "java/lang/invoke/VarHandle" ∧ (parseMethodDescriptor y_Se_found.desc).map (fun d => d.parameters.length) = some 0 := by decide +kernel
def ws_Se_isSpent : List Cond := Cond.code y_Se_isSpent c_Se_isSpent 1 (some .boolean) :: kG
theorem h_Se_isSpent : y_Se_isSpent.cls = R_Se ∧ y_Se_isSpent.cls ≠ "java/lang/invoke/MethodHandle" ∧ y_Se_isSpent.cls ≠ "java/lang/invoke/VarHandle" ∧ (parseMethodDescriptor y_Se_isSpent.desc).map (fun d => d.parameters.length) = some 0 := by decide +kernel
def ws_Se_clear : List Cond := Cond.code y_Se_clear c_Se_clear 1 none :: kG
theorem h_Se_clear : y_Se_clear.cls = R_Se ∧ y_Se_clear.cls ≠ "java/lang/invoke/MethodHandle" ∧ y_Se_clear.cls ≠ "java/lang/invoke/VarHandle" ∧ (parseMethodDescriptor y_Se_clear.desc).map (fun d => d.parameters.length) = some 0 := by decide +kernel
def ws_Se_run : List Cond := Cond.code y_Se_run c_Se_run 6 none :: kG
theorem h_Se_run : y_Se_run.cls = R_Se ∧ y_Se_run.cls ≠ "java/lang/invoke/MethodHandle" ∧ y_Se_run.cls ≠ "java/lang/invoke/VarHandle" ∧ (parseMethodDescriptor y_Se_run.desc).map (fun d => d.parameters.length) = some 3 := by decide +kernel
def ws_Se_makeTry : List Cond := Cond.code y_Se_makeTry c_Se_makeTry 4 (some .int) :: kG
theorem h_Se_makeTry : y_Se_makeTry.cls = R_Se ∧ y_Se_makeTry.cls ≠ "java/lang/invoke/MethodHandle" ∧ y_Se_makeTry.cls ≠ "java/lang/invoke/VarHandle" ∧ (parseMethodDescriptor y_Se_makeTry.desc).map (fun d => d.parameters.length) = some 1 := by decide +kernel
def ws_Se_release : List Cond := Cond.code y_Se_release c_Se_release 3 none :: kG
theorem h_Se_release : y_Se_release.cls = R_Se ∧ y_Se_release.cls ≠ "java/lang/invoke/MethodHandle" ∧ y_Se_release.cls ≠ "java/lang/invoke/VarHandle" ∧ (parseMethodDescriptor y_Se_release.desc).map (fun d => d.parameters.length) = some 1 := by decide +kernel
def ws_Se_choose : List Cond := Cond.code y_Se_choose c_Se_choose 3 (some .boolean) :: kG
theorem h_Se_choose : y_Se_choose.cls = R_Se ∧ y_Se_choose.cls ≠ "java/lang/invoke/MethodHandle" ∧ y_Se_choose.cls ≠ "java/lang/invoke/VarHandle" ∧ (parseMethodDescriptor y_Se_choose.desc).map (fun d => d.parameters.length) = some 1 := by decide +kernel
def ws_Se_firstChoice : List Cond := Cond.code y_Se_firstChoice c_Se_firstChoice 3 (some .int) :: kG
theorem h_Se_firstChoice : y_Se_firstChoice.cls = R_Se ∧ y_Se_firstChoice.cls ≠ "java/lang/invoke/MethodHandle" ∧ y_Se_firstChoice.cls ≠ "java/lang/invoke/VarHandle" ∧ (parseMethodDescriptor y_Se_firstChoice.desc).map (fun d => d.parameters.length) = some 1 := by decide +kernel
def ws_Se_laterChoice : List Cond := Cond.code y_Se_laterChoice c_Se_laterChoice 4 (some .int) :: kG
theorem h_Se_laterChoice : y_Se_laterChoice.cls = R_Se ∧ y_Se_laterChoice.cls ≠ "java/lang/invoke/MethodHandle" ∧ y_Se_laterChoice.cls ≠ "java/lang/invoke/VarHandle" ∧ (parseMethodDescriptor y_Se_laterChoice.desc).map (fun d => d.parameters.length) = some 1 := by decide +kernel
def ws_Se_gatherRow : List Cond := Cond.code y_Se_gatherRow c_Se_gatherRow 4 none :: kG
theorem h_Se_gatherRow : y_Se_gatherRow.cls = R_Se ∧ y_Se_gatherRow.cls ≠ "java/lang/invoke/MethodHandle" ∧ y_Se_gatherRow.cls ≠ "java/lang/invoke/VarHandle" ∧ (parseMethodDescriptor y_Se_gatherRow.desc).map (fun d => d.parameters.length) = some 1 := by decide +kernel
def ws_Se_fitsLeafOrNode : List Cond := Cond.code y_Se_fitsLeafOrNode c_Se_fitsLeafOrNode 3 (some .boolean) :: kG
theorem h_Se_fitsLeafOrNode : y_Se_fitsLeafOrNode.cls = R_Se ∧ y_Se_fitsLeafOrNode.cls ≠ "java/lang/invoke/MethodHandle" ∧ y_Se_fitsLeafOrNode.cls ≠ "java/lang/invoke/VarHandle" ∧ (parseMethodDescriptor y_Se_fitsLeafOrNode.desc).map (fun d => d.parameters.length) = some 2 := by decide +kernel
def ws_Se_fitsHole : List Cond := Cond.code y_Se_fitsHole c_Se_fitsHole 4 (some .boolean) :: kG
theorem h_Se_fitsHole : y_Se_fitsHole.cls = R_Se ∧ y_Se_fitsHole.cls ≠ "java/lang/invoke/MethodHandle" ∧ y_Se_fitsHole.cls ≠ "java/lang/invoke/VarHandle" ∧ (parseMethodDescriptor y_Se_fitsHole.desc).map (fun d => d.parameters.length) = some 2 := by decide +kernel
def ws_Se_rowsEndHere : List Cond := Cond.code y_Se_rowsEndHere c_Se_rowsEndHere 5 (some .boolean) :: kG
theorem h_Se_rowsEndHere : y_Se_rowsEndHere.cls = R_Se ∧ y_Se_rowsEndHere.cls ≠ "java/lang/invoke/MethodHandle" ∧ y_Se_rowsEndHere.cls ≠ "java/lang/invoke/VarHandle" ∧ (parseMethodDescriptor y_Se_rowsEndHere.desc).map (fun d => d.parameters.length) = some 1 := by decide +kernel
theorem h_La_leaf : y_La_leaf.cls = R_La ∧ y_La_leaf.cls ≠ "java/lang/invoke/MethodHandle" ∧ y_La_leaf.cls ≠ "java/lang/invoke/VarHandle" ∧ (parseMethodDescriptor y_La_leaf.desc).map (fun d => d.parameters.length) = some 3 := by decide +kernel
theorem h_La_node : y_La_node.cls = R_La ∧ y_La_node.cls ≠ "java/lang/invoke/MethodHandle" ∧ y_La_node.cls ≠ "java/lang/invoke/VarHandle" ∧ (parseMethodDescriptor y_La_node.desc).map (fun d => d.parameters.length) = some 3 := by decide +kernel
theorem h_La_more : y_La_more.cls = R_La ∧ y_La_more.cls ≠ "java/lang/invoke/MethodHandle" ∧ y_La_more.cls ≠ "java/lang/invoke/VarHandle" ∧ (parseMethodDescriptor y_La_more.desc).map (fun d => d.parameters.length) = some 4 := by decide +kernel
theorem h_La_hole : y_La_hole.cls = R_La ∧ y_La_hole.cls ≠ "java/lang/invoke/MethodHandle" ∧ y_La_hole.cls ≠ "java/lang/invoke/VarHandle" ∧ (parseMethodDescriptor y_La_hole.desc).map (fun d => d.parameters.length) = some 4 := by decide +kernel
theorem h_La_test : y_La_test.cls = R_La ∧ y_La_test.cls ≠ "java/lang/invoke/MethodHandle" ∧ y_La_test.cls ≠ "java/lang/invoke/VarHandle" ∧ (parseMethodDescriptor y_La_test.desc).map (fun d => d.parameters.length) = some 5 := by decide +kernel
theorem h_La_match : y_La_match.cls = R_La ∧ y_La_match.cls ≠ "java/lang/invoke/MethodHandle" ∧ y_La_match.cls ≠ "java/lang/invoke/VarHandle" ∧ (parseMethodDescriptor y_La_match.desc).map (fun d => d.parameters.length) = some 5 := by decide +kernel
theorem h_La_bound : y_La_bound.cls = R_La ∧ y_La_bound.cls ≠ "java/lang/invoke/MethodHandle" ∧ y_La_bound.cls ≠ "java/lang/invoke/VarHandle" ∧ (parseMethodDescriptor y_La_bound.desc).map (fun d => d.parameters.length) = some 5 := by decide +kernel
theorem h_La_many : y_La_many.cls = R_La ∧ y_La_many.cls ≠ "java/lang/invoke/MethodHandle" ∧ y_La_many.cls ≠ "java/lang/invoke/VarHandle" ∧ (parseMethodDescriptor y_La_many.desc).map (fun d => d.parameters.length) = some 4 := by decide +kernel
theorem h_La_rule : y_La_rule.cls = R_La ∧ y_La_rule.cls ≠ "java/lang/invoke/MethodHandle" ∧ y_La_rule.cls ≠ "java/lang/invoke/VarHandle" ∧ (parseMethodDescriptor y_La_rule.desc).map (fun d => d.parameters.length) = some 3 := by decide +kernel
theorem h_La_net : y_La_net.cls = R_La ∧ y_La_net.cls ≠ "java/lang/invoke/MethodHandle" ∧ y_La_net.cls ≠ "java/lang/invoke/VarHandle" ∧ (parseMethodDescriptor y_La_net.desc).map (fun d => d.parameters.length) = some 3 := by decide +kernel
theorem h_La_first : y_La_first.cls = R_La ∧ y_La_first.cls ≠ "java/lang/invoke/MethodHandle" ∧ y_La_first.cls ≠ "java/lang/invoke/VarHandle" ∧ (parseMethodDescriptor y_La_first.desc).map (fun d => d.parameters.length) = some 3 := by decide +kernel
theorem h_La_order : y_La_order.cls = R_La ∧ y_La_order.cls ≠ "java/lang/invoke/MethodHandle" ∧ y_La_order.cls ≠ "java/lang/invoke/VarHandle" ∧ (parseMethodDescriptor y_La_order.desc).map (fun d => d.parameters.length) = some 4 := by decide +kernel
theorem h_La_parts : y_La_parts.cls = R_La ∧ y_La_parts.cls ≠ "java/lang/invoke/MethodHandle" ∧ y_La_parts.cls ≠ "java/lang/invoke/VarHandle" ∧ (parseMethodDescriptor y_La_parts.desc).map (fun d => d.parameters.length) = some 3 := by decide +kernel
theorem h_La_part : y_La_part.cls = R_La ∧ y_La_part.cls ≠ "java/lang/invoke/MethodHandle" ∧ y_La_part.cls ≠ "java/lang/invoke/VarHandle" ∧ (parseMethodDescriptor y_La_part.desc).map (fun d => d.parameters.length) = some 4 := by decide +kernel
def ws_In_bitCount : List Cond := Cond.code y_In_bitCount c_In_bitCount 1 (some .int) :: kG
theorem h_In_bitCount : y_In_bitCount.cls = R_In ∧ y_In_bitCount.cls ≠ "java/lang/invoke/MethodHandle" ∧ y_In_bitCount.cls ≠ "java/lang/invoke/VarHandle" ∧ (parseMethodDescriptor y_In_bitCount.desc).map (fun d => d.parameters.length) = some 1 := by decide +kernel
def ws_Ar_fill : List Cond := Cond.code y_Ar_fill c_Ar_fill 4 none :: kG
theorem h_Ar_fill : y_Ar_fill.cls = R_Ar ∧ y_Ar_fill.cls ≠ "java/lang/invoke/MethodHandle" ∧ y_Ar_fill.cls ≠ "java/lang/invoke/VarHandle" ∧ (parseMethodDescriptor y_Ar_fill.desc).map (fun d => d.parameters.length) = some 2 := by decide +kernel
