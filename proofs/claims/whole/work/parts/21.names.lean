/-! ===== BEGIN words of one list among another's, by their places ===== -/
theorem goodIn_r {big : List Cond} (ws : List Cond) (ps : List Nat) (hp : ws = ps.filterMap (fun i => big[i]?)) (h : ws.all goodWord = true) : GoodIn big ws := by
  intro w hw
  have h1 := List.all_eq_true.mp h w hw
  rw [hp] at hw
  obtain ⟨i, -, hi⟩ := List.mem_filterMap.mp hw
  have hm : w ∈ big := by first | exact List.mem_of_getElem? hi | exact List.getElem?_mem hi
  exact ⟨hm, good_of_word h1⟩
theorem goodIn_app {big a b : List Cond} (ha : GoodIn big a) (hb : GoodIn big b) : GoodIn big (a ++ b) := fun w h => (List.mem_append.mp h).elim (ha w) (hb w)
theorem goodIn_ca {big a b : List Cond} {c : Cond} (ha : GoodIn big (c :: a)) (hb : GoodIn big b) : GoodIn big (c :: (a ++ b)) := fun w h => (List.mem_cons.mp h).elim (fun e => ha w (List.mem_cons.mpr (Or.inl e))) (fun h => (List.mem_append.mp h).elim (fun h => ha w (List.mem_cons.mpr (Or.inr h))) (hb w))
theorem goodIn_sub {big ws : List Cond} (hm : ∀ w ∈ ws, w ∈ big) (h : ws.all goodWord = true) : GoodIn big ws := fun w hw => ⟨hm w hw, good_of_word (List.all_eq_true.mp h w hw)⟩
/-! ===== END ===== -/

/-! ===== BEGIN printed: names, fields, word lists, decode rows ===== -/
def RX0 : String := "ClauseSolver"
def TX0 : u_T := fun k => match k with
  | 0 => ("ClauseSolver", "variables", "I", true)
  | 1 => ("ClauseSolver", "heads", "I", true)
  | 2 => ("ClauseSolver", "wishes", "I", false)
  | 3 => ("ClauseSolver", "madeTrue", "I", false)
  | 4 => ("ClauseSolver", "madeFalse", "I", false)
  | 5 => ("ClauseSolver", "clauses", "I", false)
  | 6 => ("ClauseSolver", "headTrue", "[I", true)
  | 7 => ("ClauseSolver", "headFalse", "[I", true)
  | 8 => ("ClauseSolver", "depths", "[I", true)
  | _ => ("ClauseSolver", "tails", "[J", true)
def tyX0 : Nat → FieldType := fun k => match k with
  | 0 => .int
  | 1 => .int
  | 2 => .int
  | 3 => .int
  | 4 => .int
  | 5 => .int
  | 6 => .array .int
  | 7 => .array .int
  | 8 => .array .int
  | _ => .array .long
abbrev wsX00 : List Cond := u_ws RX0 TX0 10
theorem nmX0 : ∀ a, a < 10 → ∀ b, b < 10 → a ≠ b → (TX0 a).2.1 ≠ (TX0 b).2.1 := by decide +kernel
theorem tyX0_ok : ∀ k, k < 10 → parseFieldDescriptor (TX0 k).2.2.1 = some (tyX0 k) := by decide +kernel
abbrev cX0_init : ByteArray := prog_1_method_1_code
def yX0_init : MethodName := ⟨RX0, "<init>", "(I)V"⟩
abbrev cX0_wish : ByteArray := prog_1_method_2_code
def yX0_wish : MethodName := ⟨RX0, "wish", "(IZ)Z"⟩
abbrev cX0_literal : ByteArray := prog_1_method_3_code
def yX0_literal : MethodName := ⟨RX0, "literal", "(IZ)I"⟩
abbrev cX0_clause : ByteArray := prog_1_method_4_code
def yX0_clause : MethodName := ⟨RX0, "clause", "()I"⟩
abbrev cX0_some : ByteArray := prog_1_method_5_code
def yX0_some : MethodName := ⟨RX0, "some", "(II)I"⟩
abbrev cX0_drop : ByteArray := prog_1_method_6_code
def yX0_drop : MethodName := ⟨RX0, "drop", "(I)I"⟩
abbrev cX0_solve : ByteArray := prog_1_method_7_code
def yX0_solve : MethodName := ⟨RX0, "solve", "()Z"⟩
abbrev cX0_answer : ByteArray := prog_1_method_8_code
def yX0_answer : MethodName := ⟨RX0, "answer", "()I"⟩
abbrev cX0_count : ByteArray := prog_1_method_9_code
def yX0_count : MethodName := ⟨RX0, "count", "(I)I"⟩
abbrev cX0_isVariable : ByteArray := prog_1_method_10_code
def yX0_isVariable : MethodName := ⟨RX0, "isVariable", "(I)Z"⟩
abbrev cX0_has : ByteArray := prog_1_method_11_code
def yX0_has : MethodName := ⟨RX0, "has", "(II)Z"⟩
abbrev cX0_lowBits : ByteArray := prog_1_method_12_code
def yX0_lowBits : MethodName := ⟨RX0, "lowBits", "(I)I"⟩
abbrev cX0_namedByMadeUp : ByteArray := prog_1_method_13_code
def yX0_namedByMadeUp : MethodName := ⟨RX0, "namedByMadeUp", "()I"⟩
abbrev cX0_append : ByteArray := prog_1_method_14_code
def yX0_append : MethodName := ⟨RX0, "append", "(II)I"⟩
abbrev cX0_depthOf : ByteArray := prog_1_method_15_code
def yX0_depthOf : MethodName := ⟨RX0, "depthOf", "(I)I"⟩
abbrev cX0_tailsThatMeet : ByteArray := prog_1_method_16_code
def yX0_tailsThatMeet : MethodName := ⟨RX0, "tailsThatMeet", "(II)J"⟩
abbrev cX0_firstAnswer : ByteArray := prog_1_method_17_code
def yX0_firstAnswer : MethodName := ⟨RX0, "firstAnswer", "()I"⟩
abbrev cX0_firstBelow : ByteArray := prog_1_method_18_code
def yX0_firstBelow : MethodName := ⟨RX0, "firstBelow", "(IIJ)I"⟩
abbrev cX0_firstOfBoth : ByteArray := prog_1_method_19_code
def yX0_firstOfBoth : MethodName := ⟨RX0, "firstOfBoth", "(IIJ)I"⟩
abbrev cX0_narrowed : ByteArray := prog_1_method_20_code
def yX0_narrowed : MethodName := ⟨RX0, "narrowed", "(IIJ)J"⟩
abbrev cX0_headMeets : ByteArray := prog_1_method_21_code
def yX0_headMeets : MethodName := ⟨RX0, "headMeets", "(II)Z"⟩
abbrev cX0_firstTail : ByteArray := prog_1_method_22_code
def yX0_firstTail : MethodName := ⟨RX0, "firstTail", "(J)I"⟩
def RX1 : String := "ClauseSolverModel"
def TX1 : u_T := fun k => match k with
  | 0 => ("ClauseSolverModel", "variables", "I", true)
  | 1 => ("ClauseSolverModel", "wish", "[Z", true)
  | 2 => ("ClauseSolverModel", "yes", "[I", true)
  | 3 => ("ClauseSolverModel", "no", "[I", true)
  | 4 => ("ClauseSolverModel", "count", "I", false)
  | 5 => ("ClauseSolverModel", "ownYes", "I", false)
  | 6 => ("ClauseSolverModel", "ownNo", "I", false)
  | 7 => ("ClauseSolverModel", "found", "I", false)
  | _ => ("ClauseSolverModel", "known", "Z", false)
def tyX1 : Nat → FieldType := fun k => match k with
  | 0 => .int
  | 1 => .array .boolean
  | 2 => .array .int
  | 3 => .array .int
  | 4 => .int
  | 5 => .int
  | 6 => .int
  | 7 => .int
  | _ => .boolean
abbrev wsX10 : List Cond := u_ws RX1 TX1 9
theorem nmX1 : ∀ a, a < 9 → ∀ b, b < 9 → a ≠ b → (TX1 a).2.1 ≠ (TX1 b).2.1 := by decide +kernel
theorem tyX1_ok : ∀ k, k < 9 → parseFieldDescriptor (TX1 k).2.2.1 = some (tyX1 k) := by decide +kernel
abbrev cX1_init : ByteArray := prog_3_method_1_code
def yX1_init : MethodName := ⟨RX1, "<init>", "(I)V"⟩
abbrev cX1_is : ByteArray := prog_3_method_2_code
def yX1_is : MethodName := ⟨RX1, "is", "(I)Z"⟩
abbrev cX1_wish : ByteArray := prog_3_method_3_code
def yX1_wish : MethodName := ⟨RX1, "wish", "(IZ)Z"⟩
abbrev cX1_bits : ByteArray := prog_3_method_4_code
def yX1_bits : MethodName := ⟨RX1, "bits", "(I)I"⟩
abbrev cX1_literal : ByteArray := prog_3_method_5_code
def yX1_literal : MethodName := ⟨RX1, "literal", "(IZ)I"⟩
abbrev cX1_clause : ByteArray := prog_3_method_6_code
def yX1_clause : MethodName := ⟨RX1, "clause", "()I"⟩
abbrev cX1_some : ByteArray := prog_3_method_7_code
def yX1_some : MethodName := ⟨RX1, "some", "(II)I"⟩
abbrev cX1_drop : ByteArray := prog_3_method_8_code
def yX1_drop : MethodName := ⟨RX1, "drop", "(I)I"⟩
abbrev cX1_holds : ByteArray := prog_3_method_9_code
def yX1_holds : MethodName := ⟨RX1, "holds", "(II)Z"⟩
abbrev cX1_search : ByteArray := prog_3_method_10_code
def yX1_search : MethodName := ⟨RX1, "search", "(II)I"⟩
abbrev cX1_answer : ByteArray := prog_3_method_11_code
def yX1_answer : MethodName := ⟨RX1, "answer", "()I"⟩
abbrev cX1_solve : ByteArray := prog_3_method_12_code
def yX1_solve : MethodName := ⟨RX1, "solve", "()Z"⟩
abbrev cX1_count : ByteArray := prog_3_method_13_code
def yX1_count : MethodName := ⟨RX1, "count", "(I)I"⟩
def RJ6 : String := "java/lang/Integer"
def TJ6 : u_T := fun k => match k with
  | _ => ("", "", "", false)
def tyJ6 : Nat → FieldType := fun k => match k with
  | _ => .int
abbrev wsJ60 : List Cond := u_ws RJ6 TJ6 0
theorem nmJ6 : ∀ a, a < 0 → ∀ b, b < 0 → a ≠ b → (TJ6 a).2.1 ≠ (TJ6 b).2.1 := by decide +kernel
theorem tyJ6_ok : ∀ k, k < 0 → parseFieldDescriptor (TJ6 k).2.2.1 = some (tyJ6 k) := by decide +kernel
abbrev cJ6_bitCount_0f7a4 : ByteArray := prog_4_method_49_code
def yJ6_bitCount_0f7a4 : MethodName := ⟨RJ6, "bitCount", "(I)I"⟩
def RJ9 : String := "java/lang/Math"
def TJ9 : u_T := fun k => match k with
  | _ => ("", "", "", false)
def tyJ9 : Nat → FieldType := fun k => match k with
  | _ => .int
abbrev wsJ90 : List Cond := u_ws RJ9 TJ9 0
theorem nmJ9 : ∀ a, a < 0 → ∀ b, b < 0 → a ≠ b → (TJ9 a).2.1 ≠ (TJ9 b).2.1 := by decide +kernel
theorem tyJ9_ok : ∀ k, k < 0 → parseFieldDescriptor (TJ9 k).2.2.1 = some (tyJ9 k) := by decide +kernel
abbrev cJ9_max_7cf53 : ByteArray := prog_5_method_65_code
def yJ9_max_7cf53 : MethodName := ⟨RJ9, "max", "(II)I"⟩
abbrev cJ9_min_7cf53 : ByteArray := prog_5_method_69_code
def yJ9_min_7cf53 : MethodName := ⟨RJ9, "min", "(II)I"⟩
def RL : String := "ClauseSolverLaw"
abbrev cL_cell : ByteArray := method_2_code
def yL_cell : MethodName := ⟨RL, "cell", "([II)I"⟩
abbrev cL_law : ByteArray := code
def yL_law : MethodName := ⟨RL, "law", "([I)Z"⟩
def wsX0_init : List Cond := .code yX0_init cX0_init 2 none :: ([.methodLink RX0 1 objectInit, .instanceMethod objectInit, .code objectInit ⟨#[0xb1]⟩ 1 none, .methodLink RX0 9 Lib.Math.min.name, .static Lib.Math.min.name, .initialized "java/lang/Math", .code Lib.Math.min.name Lib.Math.min.code 2 (some .int), .methodLink RX0 15 Lib.Math.max.name, .static Lib.Math.max.name, .code Lib.Math.max.name Lib.Math.max.code 2 (some .int), .fieldLink RX0 18 "ClauseSolver" "variables" "I", .fieldLink RX0 22 "ClauseSolver" "heads" "I", .arrayClass .int, .fieldLink RX0 25 "ClauseSolver" "headTrue" "[I", .fieldLink RX0 29 "ClauseSolver" "headFalse" "[I", .fieldLink RX0 32 "ClauseSolver" "depths" "[I", .arrayClass .long, .fieldLink RX0 35 "ClauseSolver" "tails" "[J"] ++ wsX00)
def wsX0_isVariable : List Cond := .code yX0_isVariable cX0_isVariable 2 (some .boolean) :: ([.fieldLink RX0 18 "ClauseSolver" "variables" "I"] ++ wsX00)
def wsX0_has : List Cond := .code yX0_has cX0_has 2 (some .boolean) :: ([])
def wsX0_wish : List Cond := .code yX0_wish cX0_wish 4 (some .boolean) :: ([.fieldLink RX0 43 "ClauseSolver" "wishes" "I", .methodLink RX0 39 yX0_isVariable, .instanceMethod yX0_isVariable, .selects RX0 yX0_isVariable yX0_isVariable, .initialized RX0, .code yX0_isVariable cX0_isVariable 2 (some .boolean), .fieldLink RX0 18 "ClauseSolver" "variables" "I", .methodLink RX0 46 yX0_has, .static yX0_has, .code yX0_has cX0_has 2 (some .boolean)] ++ wsX00)
def wsJ6_bitCount_0f7a4 : List Cond := .code yJ6_bitCount_0f7a4 cJ6_bitCount_0f7a4 1 (some .int) :: ([.constant RJ6 265 (1431655765), .constant RJ6 266 (858993459), .constant RJ6 267 (252645135)])
def wsX0_namedByMadeUp : List Cond := .code yX0_namedByMadeUp cX0_namedByMadeUp 1 (some .int) :: ([.fieldLink RX0 50 "ClauseSolver" "madeTrue" "I", .fieldLink RX0 53 "ClauseSolver" "madeFalse" "I", .methodLink RX0 73 yJ6_bitCount_0f7a4, .static yJ6_bitCount_0f7a4, .initialized RJ6, .code yJ6_bitCount_0f7a4 cJ6_bitCount_0f7a4 1 (some .int), .constant RJ6 265 (1431655765), .constant RJ6 266 (858993459), .constant RJ6 267 (252645135)] ++ wsX00)
def wsX0_literal : List Cond := .code yX0_literal cX0_literal 3 (some .int) :: ([.fieldLink RX0 50 "ClauseSolver" "madeTrue" "I", .fieldLink RX0 53 "ClauseSolver" "madeFalse" "I", .methodLink RX0 39 yX0_isVariable, .instanceMethod yX0_isVariable, .selects RX0 yX0_isVariable yX0_isVariable, .initialized RX0, .code yX0_isVariable cX0_isVariable 2 (some .boolean), .fieldLink RX0 18 "ClauseSolver" "variables" "I", .methodLink RX0 56 yX0_namedByMadeUp, .instanceMethod yX0_namedByMadeUp, .selects RX0 yX0_namedByMadeUp yX0_namedByMadeUp, .code yX0_namedByMadeUp cX0_namedByMadeUp 1 (some .int), .methodLink RX0 73 yJ6_bitCount_0f7a4, .static yJ6_bitCount_0f7a4, .initialized RJ6, .code yJ6_bitCount_0f7a4 cJ6_bitCount_0f7a4 1 (some .int), .constant RJ6 265 (1431655765), .constant RJ6 266 (858993459), .constant RJ6 267 (252645135)] ++ wsX00)
def wsX0_lowBits : List Cond := .code yX0_lowBits cX0_lowBits 1 (some .int) :: ([])
def wsX0_depthOf : List Cond := .code yX0_depthOf cX0_depthOf 3 (some .int) :: ([.fieldLink RX0 22 "ClauseSolver" "heads" "I", .methodLink RX0 46 yX0_has, .static yX0_has, .initialized RX0, .code yX0_has cX0_has 2 (some .boolean)] ++ wsX00)
def wsX0_tailsThatMeet : List Cond := .code yX0_tailsThatMeet cX0_tailsThatMeet 5 (some .long) :: ([.fieldLink RX0 85 "ClauseSolver" "TAILS_WITH" "[J", .constantLong RX0 88 (-1), .methodLink RX0 46 yX0_has, .static yX0_has, .initialized RX0, .code yX0_has cX0_has 2 (some .boolean)])
def wsX0_append : List Cond := .code yX0_append cX0_append 4 (some .int) :: ([.fieldLink RX0 67 "ClauseSolver" "clauses" "I", .fieldLink RX0 22 "ClauseSolver" "heads" "I", .fieldLink RX0 25 "ClauseSolver" "headTrue" "[I", .fieldLink RX0 29 "ClauseSolver" "headFalse" "[I", .fieldLink RX0 32 "ClauseSolver" "depths" "[I", .fieldLink RX0 35 "ClauseSolver" "tails" "[J", .methodLink RX0 63 yX0_lowBits, .static yX0_lowBits, .initialized RX0, .code yX0_lowBits cX0_lowBits 1 (some .int), .methodLink RX0 78 yX0_depthOf, .instanceMethod yX0_depthOf, .selects RX0 yX0_depthOf yX0_depthOf, .code yX0_depthOf cX0_depthOf 3 (some .int), .methodLink RX0 46 yX0_has, .static yX0_has, .code yX0_has cX0_has 2 (some .boolean), .methodLink RX0 81 yX0_tailsThatMeet, .static yX0_tailsThatMeet, .code yX0_tailsThatMeet cX0_tailsThatMeet 5 (some .long), .fieldLink RX0 85 "ClauseSolver" "TAILS_WITH" "[J", .constantLong RX0 88 (-1)] ++ wsX00)
def wsX0_clause_r1 : List Cond := [Cond.fieldLink RX0 50 "ClauseSolver" "madeTrue" "I", Cond.fieldLink RX0 53 "ClauseSolver" "madeFalse" "I", Cond.methodLink RX0 60 yX0_append, Cond.instanceMethod yX0_append, Cond.selects RX0 yX0_append yX0_append, Cond.initialized RX0, Cond.code yX0_append cX0_append 4 (some .int), Cond.fieldLink RX0 67 "ClauseSolver" "clauses" "I", Cond.fieldLink RX0 22 "ClauseSolver" "heads" "I", Cond.fieldLink RX0 25 "ClauseSolver" "headTrue" "[I", Cond.fieldLink RX0 29 "ClauseSolver" "headFalse" "[I", Cond.fieldLink RX0 32 "ClauseSolver" "depths" "[I", Cond.fieldLink RX0 35 "ClauseSolver" "tails" "[J", Cond.methodLink RX0 63 yX0_lowBits, Cond.static yX0_lowBits, Cond.code yX0_lowBits cX0_lowBits 1 (some .int), Cond.methodLink RX0 78 yX0_depthOf, Cond.instanceMethod yX0_depthOf, Cond.selects RX0 yX0_depthOf yX0_depthOf, Cond.code yX0_depthOf cX0_depthOf 3 (some .int), Cond.methodLink RX0 46 yX0_has, Cond.static yX0_has, Cond.code yX0_has cX0_has 2 (some .boolean), Cond.methodLink RX0 81 yX0_tailsThatMeet]
def wsX0_clause_r2 : List Cond := [Cond.static yX0_tailsThatMeet, Cond.code yX0_tailsThatMeet cX0_tailsThatMeet 5 (some .long), Cond.fieldLink RX0 85 "ClauseSolver" "TAILS_WITH" "[J", Cond.constantLong RX0 88 (-1)]
def wsX0_clause : List Cond := .code yX0_clause cX0_clause 2 (some .int) :: ((wsX0_clause_r1 ++ wsX0_clause_r2) ++ wsX00)
def wsX0_some_r1 : List Cond := [Cond.fieldLink RX0 18 "ClauseSolver" "variables" "I", Cond.methodLink RX0 63 yX0_lowBits, Cond.static yX0_lowBits, Cond.initialized RX0, Cond.code yX0_lowBits cX0_lowBits 1 (some .int), Cond.methodLink RX0 60 yX0_append, Cond.instanceMethod yX0_append, Cond.selects RX0 yX0_append yX0_append, Cond.code yX0_append cX0_append 4 (some .int), Cond.fieldLink RX0 67 "ClauseSolver" "clauses" "I", Cond.fieldLink RX0 22 "ClauseSolver" "heads" "I", Cond.fieldLink RX0 25 "ClauseSolver" "headTrue" "[I", Cond.fieldLink RX0 29 "ClauseSolver" "headFalse" "[I", Cond.fieldLink RX0 32 "ClauseSolver" "depths" "[I", Cond.fieldLink RX0 35 "ClauseSolver" "tails" "[J", Cond.methodLink RX0 78 yX0_depthOf, Cond.instanceMethod yX0_depthOf, Cond.selects RX0 yX0_depthOf yX0_depthOf, Cond.code yX0_depthOf cX0_depthOf 3 (some .int), Cond.methodLink RX0 46 yX0_has, Cond.static yX0_has, Cond.code yX0_has cX0_has 2 (some .boolean), Cond.methodLink RX0 81 yX0_tailsThatMeet, Cond.static yX0_tailsThatMeet]
def wsX0_some_r2 : List Cond := [Cond.code yX0_tailsThatMeet cX0_tailsThatMeet 5 (some .long), Cond.fieldLink RX0 85 "ClauseSolver" "TAILS_WITH" "[J", Cond.constantLong RX0 88 (-1)]
def wsX0_some : List Cond := .code yX0_some cX0_some 4 (some .int) :: ((wsX0_some_r1 ++ wsX0_some_r2) ++ wsX00)
def wsX0_drop : List Cond := .code yX0_drop cX0_drop 2 (some .int) :: ([.fieldLink RX0 67 "ClauseSolver" "clauses" "I", .fieldLink RX0 25 "ClauseSolver" "headTrue" "[I", .fieldLink RX0 29 "ClauseSolver" "headFalse" "[I", .fieldLink RX0 32 "ClauseSolver" "depths" "[I", .fieldLink RX0 35 "ClauseSolver" "tails" "[J"] ++ wsX00)
def wsX0_headMeets : List Cond := .code yX0_headMeets cX0_headMeets 3 (some .boolean) :: ([.fieldLink RX0 25 "ClauseSolver" "headTrue" "[I", .fieldLink RX0 29 "ClauseSolver" "headFalse" "[I"] ++ wsX00)
def wsX0_narrowed : List Cond := .code yX0_narrowed cX0_narrowed 8 (some .long) :: ([.fieldLink RX0 67 "ClauseSolver" "clauses" "I", .fieldLink RX0 32 "ClauseSolver" "depths" "[I", .fieldLink RX0 35 "ClauseSolver" "tails" "[J", .methodLink RX0 105 yX0_headMeets, .instanceMethod yX0_headMeets, .selects RX0 yX0_headMeets yX0_headMeets, .initialized RX0, .code yX0_headMeets cX0_headMeets 3 (some .boolean), .fieldLink RX0 25 "ClauseSolver" "headTrue" "[I", .fieldLink RX0 29 "ClauseSolver" "headFalse" "[I"] ++ wsX00)
def wsX0_firstTail : List Cond := .code yX0_firstTail cX0_firstTail 13 (some .int) :: ([.fieldLink RX0 85 "ClauseSolver" "TAILS_WITH" "[J", .constantLong RX0 88 (-1), .fieldLink RX0 43 "ClauseSolver" "wishes" "I", .fieldLink RX0 22 "ClauseSolver" "heads" "I", .methodLink RX0 46 yX0_has, .static yX0_has, .initialized RX0, .code yX0_has cX0_has 2 (some .boolean)] ++ wsX00)
def wsX0_firstBelow_r1 : List Cond := [Cond.fieldLink RX0 22 "ClauseSolver" "heads" "I", Cond.methodLink RX0 94 yX0_narrowed, Cond.instanceMethod yX0_narrowed, Cond.selects RX0 yX0_narrowed yX0_narrowed, Cond.initialized RX0, Cond.code yX0_narrowed cX0_narrowed 8 (some .long), Cond.fieldLink RX0 67 "ClauseSolver" "clauses" "I", Cond.fieldLink RX0 32 "ClauseSolver" "depths" "[I", Cond.fieldLink RX0 35 "ClauseSolver" "tails" "[J", Cond.methodLink RX0 105 yX0_headMeets, Cond.instanceMethod yX0_headMeets, Cond.selects RX0 yX0_headMeets yX0_headMeets, Cond.code yX0_headMeets cX0_headMeets 3 (some .boolean), Cond.fieldLink RX0 25 "ClauseSolver" "headTrue" "[I", Cond.fieldLink RX0 29 "ClauseSolver" "headFalse" "[I", Cond.methodLink RX0 98 yX0_firstTail, Cond.instanceMethod yX0_firstTail, Cond.selects RX0 yX0_firstTail yX0_firstTail, Cond.code yX0_firstTail cX0_firstTail 13 (some .int), Cond.fieldLink RX0 85 "ClauseSolver" "TAILS_WITH" "[J", Cond.constantLong RX0 88 (-1), Cond.fieldLink RX0 43 "ClauseSolver" "wishes" "I", Cond.methodLink RX0 46 yX0_has, Cond.static yX0_has]
def wsX0_firstBelow_r2 : List Cond := [Cond.code yX0_has cX0_has 2 (some .boolean), Cond.methodLink RX0 102 yX0_firstOfBoth, Cond.instanceMethod yX0_firstOfBoth, Cond.selects RX0 yX0_firstOfBoth yX0_firstOfBoth, Cond.code yX0_firstOfBoth cX0_firstOfBoth 8 (some .int), Cond.methodLink RX0 90 yX0_firstBelow, Cond.instanceMethod yX0_firstBelow, Cond.selects RX0 yX0_firstBelow yX0_firstBelow]
def wsX0_firstBelow : List Cond := .code yX0_firstBelow cX0_firstBelow 7 (some .int) :: ((wsX0_firstBelow_r1 ++ wsX0_firstBelow_r2) ++ wsX00)
def wsX0_firstOfBoth_r1 : List Cond := [Cond.fieldLink RX0 43 "ClauseSolver" "wishes" "I", Cond.methodLink RX0 90 yX0_firstBelow, Cond.instanceMethod yX0_firstBelow, Cond.selects RX0 yX0_firstBelow yX0_firstBelow, Cond.initialized RX0, Cond.code yX0_firstBelow cX0_firstBelow 7 (some .int), Cond.fieldLink RX0 22 "ClauseSolver" "heads" "I", Cond.methodLink RX0 94 yX0_narrowed, Cond.instanceMethod yX0_narrowed, Cond.selects RX0 yX0_narrowed yX0_narrowed, Cond.code yX0_narrowed cX0_narrowed 8 (some .long), Cond.fieldLink RX0 67 "ClauseSolver" "clauses" "I", Cond.fieldLink RX0 32 "ClauseSolver" "depths" "[I", Cond.fieldLink RX0 35 "ClauseSolver" "tails" "[J", Cond.methodLink RX0 105 yX0_headMeets, Cond.instanceMethod yX0_headMeets, Cond.selects RX0 yX0_headMeets yX0_headMeets, Cond.code yX0_headMeets cX0_headMeets 3 (some .boolean), Cond.fieldLink RX0 25 "ClauseSolver" "headTrue" "[I", Cond.fieldLink RX0 29 "ClauseSolver" "headFalse" "[I", Cond.methodLink RX0 98 yX0_firstTail, Cond.instanceMethod yX0_firstTail, Cond.selects RX0 yX0_firstTail yX0_firstTail, Cond.code yX0_firstTail cX0_firstTail 13 (some .int)]
def wsX0_firstOfBoth_r2 : List Cond := [Cond.fieldLink RX0 85 "ClauseSolver" "TAILS_WITH" "[J", Cond.constantLong RX0 88 (-1), Cond.methodLink RX0 46 yX0_has, Cond.static yX0_has, Cond.code yX0_has cX0_has 2 (some .boolean), Cond.methodLink RX0 102 yX0_firstOfBoth, Cond.instanceMethod yX0_firstOfBoth, Cond.selects RX0 yX0_firstOfBoth yX0_firstOfBoth]
def wsX0_firstOfBoth : List Cond := .code yX0_firstOfBoth cX0_firstOfBoth 8 (some .int) :: ((wsX0_firstOfBoth_r1 ++ wsX0_firstOfBoth_r2) ++ wsX00)
def wsX0_firstAnswer_r1 : List Cond := [Cond.constantLong RX0 88 (-1), Cond.methodLink RX0 90 yX0_firstBelow, Cond.instanceMethod yX0_firstBelow, Cond.selects RX0 yX0_firstBelow yX0_firstBelow, Cond.initialized RX0, Cond.code yX0_firstBelow cX0_firstBelow 7 (some .int), Cond.fieldLink RX0 22 "ClauseSolver" "heads" "I", Cond.methodLink RX0 94 yX0_narrowed, Cond.instanceMethod yX0_narrowed, Cond.selects RX0 yX0_narrowed yX0_narrowed, Cond.code yX0_narrowed cX0_narrowed 8 (some .long), Cond.fieldLink RX0 67 "ClauseSolver" "clauses" "I", Cond.fieldLink RX0 32 "ClauseSolver" "depths" "[I", Cond.fieldLink RX0 35 "ClauseSolver" "tails" "[J", Cond.methodLink RX0 105 yX0_headMeets, Cond.instanceMethod yX0_headMeets, Cond.selects RX0 yX0_headMeets yX0_headMeets, Cond.code yX0_headMeets cX0_headMeets 3 (some .boolean), Cond.fieldLink RX0 25 "ClauseSolver" "headTrue" "[I", Cond.fieldLink RX0 29 "ClauseSolver" "headFalse" "[I", Cond.methodLink RX0 98 yX0_firstTail, Cond.instanceMethod yX0_firstTail, Cond.selects RX0 yX0_firstTail yX0_firstTail, Cond.code yX0_firstTail cX0_firstTail 13 (some .int)]
def wsX0_firstAnswer_r2 : List Cond := [Cond.fieldLink RX0 85 "ClauseSolver" "TAILS_WITH" "[J", Cond.fieldLink RX0 43 "ClauseSolver" "wishes" "I", Cond.methodLink RX0 46 yX0_has, Cond.static yX0_has, Cond.code yX0_has cX0_has 2 (some .boolean), Cond.methodLink RX0 102 yX0_firstOfBoth, Cond.instanceMethod yX0_firstOfBoth, Cond.selects RX0 yX0_firstOfBoth yX0_firstOfBoth, Cond.code yX0_firstOfBoth cX0_firstOfBoth 8 (some .int)]
def wsX0_firstAnswer : List Cond := .code yX0_firstAnswer cX0_firstAnswer 1 (some .int) :: ((wsX0_firstAnswer_r1 ++ wsX0_firstAnswer_r2) ++ wsX00)
def wsX0_solve_r1 : List Cond := [Cond.methodLink RX0 70 yX0_firstAnswer, Cond.instanceMethod yX0_firstAnswer, Cond.selects RX0 yX0_firstAnswer yX0_firstAnswer, Cond.initialized RX0, Cond.code yX0_firstAnswer cX0_firstAnswer 1 (some .int), Cond.constantLong RX0 88 (-1), Cond.methodLink RX0 90 yX0_firstBelow, Cond.instanceMethod yX0_firstBelow, Cond.selects RX0 yX0_firstBelow yX0_firstBelow, Cond.code yX0_firstBelow cX0_firstBelow 7 (some .int), Cond.fieldLink RX0 22 "ClauseSolver" "heads" "I", Cond.methodLink RX0 94 yX0_narrowed, Cond.instanceMethod yX0_narrowed, Cond.selects RX0 yX0_narrowed yX0_narrowed, Cond.code yX0_narrowed cX0_narrowed 8 (some .long), Cond.fieldLink RX0 67 "ClauseSolver" "clauses" "I", Cond.fieldLink RX0 32 "ClauseSolver" "depths" "[I", Cond.fieldLink RX0 35 "ClauseSolver" "tails" "[J", Cond.methodLink RX0 105 yX0_headMeets, Cond.instanceMethod yX0_headMeets, Cond.selects RX0 yX0_headMeets yX0_headMeets, Cond.code yX0_headMeets cX0_headMeets 3 (some .boolean), Cond.fieldLink RX0 25 "ClauseSolver" "headTrue" "[I", Cond.fieldLink RX0 29 "ClauseSolver" "headFalse" "[I"]
def wsX0_solve_r2 : List Cond := [Cond.methodLink RX0 98 yX0_firstTail, Cond.instanceMethod yX0_firstTail, Cond.selects RX0 yX0_firstTail yX0_firstTail, Cond.code yX0_firstTail cX0_firstTail 13 (some .int), Cond.fieldLink RX0 85 "ClauseSolver" "TAILS_WITH" "[J", Cond.fieldLink RX0 43 "ClauseSolver" "wishes" "I", Cond.methodLink RX0 46 yX0_has, Cond.static yX0_has, Cond.code yX0_has cX0_has 2 (some .boolean), Cond.methodLink RX0 102 yX0_firstOfBoth, Cond.instanceMethod yX0_firstOfBoth, Cond.selects RX0 yX0_firstOfBoth yX0_firstOfBoth, Cond.code yX0_firstOfBoth cX0_firstOfBoth 8 (some .int)]
def wsX0_solve : List Cond := .code yX0_solve cX0_solve 1 (some .boolean) :: ((wsX0_solve_r1 ++ wsX0_solve_r2) ++ wsX00)
def wsX0_answer_r1 : List Cond := [Cond.methodLink RX0 70 yX0_firstAnswer, Cond.instanceMethod yX0_firstAnswer, Cond.selects RX0 yX0_firstAnswer yX0_firstAnswer, Cond.initialized RX0, Cond.code yX0_firstAnswer cX0_firstAnswer 1 (some .int), Cond.constantLong RX0 88 (-1), Cond.methodLink RX0 90 yX0_firstBelow, Cond.instanceMethod yX0_firstBelow, Cond.selects RX0 yX0_firstBelow yX0_firstBelow, Cond.code yX0_firstBelow cX0_firstBelow 7 (some .int), Cond.fieldLink RX0 22 "ClauseSolver" "heads" "I", Cond.methodLink RX0 94 yX0_narrowed, Cond.instanceMethod yX0_narrowed, Cond.selects RX0 yX0_narrowed yX0_narrowed, Cond.code yX0_narrowed cX0_narrowed 8 (some .long), Cond.fieldLink RX0 67 "ClauseSolver" "clauses" "I", Cond.fieldLink RX0 32 "ClauseSolver" "depths" "[I", Cond.fieldLink RX0 35 "ClauseSolver" "tails" "[J", Cond.methodLink RX0 105 yX0_headMeets, Cond.instanceMethod yX0_headMeets, Cond.selects RX0 yX0_headMeets yX0_headMeets, Cond.code yX0_headMeets cX0_headMeets 3 (some .boolean), Cond.fieldLink RX0 25 "ClauseSolver" "headTrue" "[I", Cond.fieldLink RX0 29 "ClauseSolver" "headFalse" "[I"]
def wsX0_answer_r2 : List Cond := [Cond.methodLink RX0 98 yX0_firstTail, Cond.instanceMethod yX0_firstTail, Cond.selects RX0 yX0_firstTail yX0_firstTail, Cond.code yX0_firstTail cX0_firstTail 13 (some .int), Cond.fieldLink RX0 85 "ClauseSolver" "TAILS_WITH" "[J", Cond.fieldLink RX0 43 "ClauseSolver" "wishes" "I", Cond.methodLink RX0 46 yX0_has, Cond.static yX0_has, Cond.code yX0_has cX0_has 2 (some .boolean), Cond.methodLink RX0 102 yX0_firstOfBoth, Cond.instanceMethod yX0_firstOfBoth, Cond.selects RX0 yX0_firstOfBoth yX0_firstOfBoth, Cond.code yX0_firstOfBoth cX0_firstOfBoth 8 (some .int)]
def wsX0_answer : List Cond := .code yX0_answer cX0_answer 1 (some .int) :: ((wsX0_answer_r1 ++ wsX0_answer_r2) ++ wsX00)
def wsX0_count : List Cond := .code yX0_count cX0_count 2 (some .int) :: ([.fieldLink RX0 18 "ClauseSolver" "variables" "I", .fieldLink RX0 67 "ClauseSolver" "clauses" "I", .methodLink RX0 56 yX0_namedByMadeUp, .instanceMethod yX0_namedByMadeUp, .selects RX0 yX0_namedByMadeUp yX0_namedByMadeUp, .initialized RX0, .code yX0_namedByMadeUp cX0_namedByMadeUp 1 (some .int), .fieldLink RX0 50 "ClauseSolver" "madeTrue" "I", .fieldLink RX0 53 "ClauseSolver" "madeFalse" "I", .methodLink RX0 73 yJ6_bitCount_0f7a4, .static yJ6_bitCount_0f7a4, .initialized RJ6, .code yJ6_bitCount_0f7a4 cJ6_bitCount_0f7a4 1 (some .int), .constant RJ6 265 (1431655765), .constant RJ6 266 (858993459), .constant RJ6 267 (252645135)] ++ wsX00)
def wsX1_init : List Cond := .code yX1_init cX1_init 2 none :: ([.methodLink RX1 1 objectInit, .instanceMethod objectInit, .code objectInit ⟨#[0xb1]⟩ 1 none, .arrayClass .boolean, .fieldLink RX1 7 "ClauseSolverModel" "wish" "[Z", .arrayClass .int, .fieldLink RX1 13 "ClauseSolverModel" "yes" "[I", .fieldLink RX1 17 "ClauseSolverModel" "no" "[I", .fieldLink RX1 20 "ClauseSolverModel" "variables" "I"] ++ wsX10)
def wsX1_is : List Cond := .code yX1_is cX1_is 2 (some .boolean) :: ([.fieldLink RX1 20 "ClauseSolverModel" "variables" "I"] ++ wsX10)
def wsX1_wish : List Cond := .code yX1_wish cX1_wish 4 (some .boolean) :: ([.fieldLink RX1 7 "ClauseSolverModel" "wish" "[Z", .fieldLink RX1 28 "ClauseSolverModel" "known" "Z", .methodLink RX1 24 yX1_is, .instanceMethod yX1_is, .selects RX1 yX1_is yX1_is, .initialized RX1, .code yX1_is cX1_is 2 (some .boolean), .fieldLink RX1 20 "ClauseSolverModel" "variables" "I"] ++ wsX10)
def wsX1_bits : List Cond := .code yX1_bits cX1_bits 3 (some .int) :: ([])
def wsX1_literal : List Cond := .code yX1_literal cX1_literal 3 (some .int) :: ([.fieldLink RX1 32 "ClauseSolverModel" "ownYes" "I", .fieldLink RX1 35 "ClauseSolverModel" "ownNo" "I", .methodLink RX1 24 yX1_is, .instanceMethod yX1_is, .selects RX1 yX1_is yX1_is, .initialized RX1, .code yX1_is cX1_is 2 (some .boolean), .fieldLink RX1 20 "ClauseSolverModel" "variables" "I", .methodLink RX1 38 yX1_bits, .static yX1_bits, .code yX1_bits cX1_bits 3 (some .int)] ++ wsX10)
def wsX1_some : List Cond := .code yX1_some cX1_some 3 (some .int) :: ([.fieldLink RX1 42 "ClauseSolverModel" "count" "I", .fieldLink RX1 13 "ClauseSolverModel" "yes" "[I", .fieldLink RX1 20 "ClauseSolverModel" "variables" "I", .fieldLink RX1 17 "ClauseSolverModel" "no" "[I", .fieldLink RX1 28 "ClauseSolverModel" "known" "Z"] ++ wsX10)
def wsX1_clause : List Cond := .code yX1_clause cX1_clause 1 (some .int) :: ([.fieldLink RX1 42 "ClauseSolverModel" "count" "I", .fieldLink RX1 32 "ClauseSolverModel" "ownYes" "I", .fieldLink RX1 35 "ClauseSolverModel" "ownNo" "I", .methodLink RX1 45 yX1_some, .instanceMethod yX1_some, .selects RX1 yX1_some yX1_some, .initialized RX1, .code yX1_some cX1_some 3 (some .int), .fieldLink RX1 13 "ClauseSolverModel" "yes" "[I", .fieldLink RX1 20 "ClauseSolverModel" "variables" "I", .fieldLink RX1 17 "ClauseSolverModel" "no" "[I", .fieldLink RX1 28 "ClauseSolverModel" "known" "Z"] ++ wsX10)
def wsX1_drop : List Cond := .code yX1_drop cX1_drop 2 (some .int) :: ([.fieldLink RX1 42 "ClauseSolverModel" "count" "I", .fieldLink RX1 13 "ClauseSolverModel" "yes" "[I", .fieldLink RX1 17 "ClauseSolverModel" "no" "[I", .fieldLink RX1 28 "ClauseSolverModel" "known" "Z"] ++ wsX10)
def wsX1_holds : List Cond := .code yX1_holds cX1_holds 4 (some .boolean) :: ([.fieldLink RX1 42 "ClauseSolverModel" "count" "I", .fieldLink RX1 13 "ClauseSolverModel" "yes" "[I", .fieldLink RX1 17 "ClauseSolverModel" "no" "[I"] ++ wsX10)
def wsX1_search : List Cond := .code yX1_search cX1_search 5 (some .int) :: ([.fieldLink RX1 20 "ClauseSolverModel" "variables" "I", .fieldLink RX1 7 "ClauseSolverModel" "wish" "[Z", .methodLink RX1 49 yX1_holds, .instanceMethod yX1_holds, .selects RX1 yX1_holds yX1_holds, .initialized RX1, .code yX1_holds cX1_holds 4 (some .boolean), .fieldLink RX1 42 "ClauseSolverModel" "count" "I", .fieldLink RX1 13 "ClauseSolverModel" "yes" "[I", .fieldLink RX1 17 "ClauseSolverModel" "no" "[I", .methodLink RX1 53 yX1_search, .instanceMethod yX1_search, .selects RX1 yX1_search yX1_search] ++ wsX10)
def wsX1_answer : List Cond := .code yX1_answer cX1_answer 1 (some .int) :: ([.fieldLink RX1 28 "ClauseSolverModel" "known" "Z", .fieldLink RX1 56 "ClauseSolverModel" "found" "I", .methodLink RX1 53 yX1_search, .instanceMethod yX1_search, .selects RX1 yX1_search yX1_search, .initialized RX1, .code yX1_search cX1_search 5 (some .int), .fieldLink RX1 20 "ClauseSolverModel" "variables" "I", .fieldLink RX1 7 "ClauseSolverModel" "wish" "[Z", .methodLink RX1 49 yX1_holds, .instanceMethod yX1_holds, .selects RX1 yX1_holds yX1_holds, .code yX1_holds cX1_holds 4 (some .boolean), .fieldLink RX1 42 "ClauseSolverModel" "count" "I", .fieldLink RX1 13 "ClauseSolverModel" "yes" "[I", .fieldLink RX1 17 "ClauseSolverModel" "no" "[I"] ++ wsX10)
def wsX1_solve : List Cond := .code yX1_solve cX1_solve 1 (some .boolean) :: ([.methodLink RX1 59 yX1_answer, .instanceMethod yX1_answer, .selects RX1 yX1_answer yX1_answer, .initialized RX1, .code yX1_answer cX1_answer 1 (some .int), .fieldLink RX1 28 "ClauseSolverModel" "known" "Z", .fieldLink RX1 56 "ClauseSolverModel" "found" "I", .methodLink RX1 53 yX1_search, .instanceMethod yX1_search, .selects RX1 yX1_search yX1_search, .code yX1_search cX1_search 5 (some .int), .fieldLink RX1 20 "ClauseSolverModel" "variables" "I", .fieldLink RX1 7 "ClauseSolverModel" "wish" "[Z", .methodLink RX1 49 yX1_holds, .instanceMethod yX1_holds, .selects RX1 yX1_holds yX1_holds, .code yX1_holds cX1_holds 4 (some .boolean), .fieldLink RX1 42 "ClauseSolverModel" "count" "I", .fieldLink RX1 13 "ClauseSolverModel" "yes" "[I", .fieldLink RX1 17 "ClauseSolverModel" "no" "[I"] ++ wsX10)
def wsX1_count : List Cond := .code yX1_count cX1_count 2 (some .int) :: ([.fieldLink RX1 20 "ClauseSolverModel" "variables" "I", .fieldLink RX1 42 "ClauseSolverModel" "count" "I", .fieldLink RX1 32 "ClauseSolverModel" "ownYes" "I", .fieldLink RX1 35 "ClauseSolverModel" "ownNo" "I", .methodLink RX1 38 yX1_bits, .static yX1_bits, .initialized RX1, .code yX1_bits cX1_bits 3 (some .int)] ++ wsX10)
def wsJ9_max_7cf53 : List Cond := .code yJ9_max_7cf53 cJ9_max_7cf53 2 (some .int) :: ([])
def wsJ9_min_7cf53 : List Cond := .code yJ9_min_7cf53 cJ9_min_7cf53 2 (some .int) :: ([])
def wsL_cell : List Cond := .code yL_cell cL_cell 2 (some .int) :: ([])
def wsL_law_r1 : List Cond := [Cond.classLink RL 7 RX0, Cond.instantiable RX0 10, Cond.initialized RX0, Cond.classLink RL 18 RX1, Cond.instantiable RX1 9, Cond.initialized RX1, Cond.methodLink RL 9 yL_cell, Cond.static yL_cell, Cond.initialized RL, Cond.code yL_cell cL_cell 2 (some .int), Cond.methodLink RL 15 yX0_init, Cond.instanceMethod yX0_init, Cond.code yX0_init cX0_init 2 none, Cond.methodLink RX0 1 objectInit, Cond.instanceMethod objectInit, Cond.code objectInit ⟨#[0xb1]⟩ 1 none, Cond.methodLink RX0 9 Lib.Math.min.name, Cond.static Lib.Math.min.name, Cond.initialized "java/lang/Math", Cond.code Lib.Math.min.name Lib.Math.min.code 2 (some .int), Cond.methodLink RX0 15 Lib.Math.max.name, Cond.static Lib.Math.max.name, Cond.code Lib.Math.max.name Lib.Math.max.code 2 (some .int), Cond.fieldLink RX0 18 "ClauseSolver" "variables" "I"]
def wsL_law_r2 : List Cond := [Cond.fieldLink RX0 22 "ClauseSolver" "heads" "I", Cond.arrayClass .int, Cond.fieldLink RX0 25 "ClauseSolver" "headTrue" "[I", Cond.fieldLink RX0 29 "ClauseSolver" "headFalse" "[I", Cond.fieldLink RX0 32 "ClauseSolver" "depths" "[I", Cond.arrayClass .long, Cond.fieldLink RX0 35 "ClauseSolver" "tails" "[J", Cond.methodLink RL 20 yX1_init, Cond.instanceMethod yX1_init, Cond.code yX1_init cX1_init 2 none, Cond.methodLink RX1 1 objectInit, Cond.arrayClass .boolean, Cond.fieldLink RX1 7 "ClauseSolverModel" "wish" "[Z", Cond.fieldLink RX1 13 "ClauseSolverModel" "yes" "[I", Cond.fieldLink RX1 17 "ClauseSolverModel" "no" "[I", Cond.fieldLink RX1 20 "ClauseSolverModel" "variables" "I", Cond.methodLink RL 21 yX0_wish, Cond.instanceMethod yX0_wish, Cond.selects RX0 yX0_wish yX0_wish, Cond.code yX0_wish cX0_wish 4 (some .boolean), Cond.fieldLink RX0 43 "ClauseSolver" "wishes" "I", Cond.methodLink RX0 39 yX0_isVariable, Cond.instanceMethod yX0_isVariable, Cond.selects RX0 yX0_isVariable yX0_isVariable]
def wsL_law_r3 : List Cond := [Cond.code yX0_isVariable cX0_isVariable 2 (some .boolean), Cond.methodLink RX0 46 yX0_has, Cond.static yX0_has, Cond.code yX0_has cX0_has 2 (some .boolean), Cond.methodLink RL 25 yX1_wish, Cond.instanceMethod yX1_wish, Cond.selects RX1 yX1_wish yX1_wish, Cond.code yX1_wish cX1_wish 4 (some .boolean), Cond.fieldLink RX1 28 "ClauseSolverModel" "known" "Z", Cond.methodLink RX1 24 yX1_is, Cond.instanceMethod yX1_is, Cond.selects RX1 yX1_is yX1_is, Cond.code yX1_is cX1_is 2 (some .boolean), Cond.methodLink RL 26 yX0_literal, Cond.instanceMethod yX0_literal, Cond.selects RX0 yX0_literal yX0_literal, Cond.code yX0_literal cX0_literal 3 (some .int), Cond.fieldLink RX0 50 "ClauseSolver" "madeTrue" "I", Cond.fieldLink RX0 53 "ClauseSolver" "madeFalse" "I", Cond.methodLink RX0 56 yX0_namedByMadeUp, Cond.instanceMethod yX0_namedByMadeUp, Cond.selects RX0 yX0_namedByMadeUp yX0_namedByMadeUp, Cond.code yX0_namedByMadeUp cX0_namedByMadeUp 1 (some .int), Cond.methodLink RX0 73 yJ6_bitCount_0f7a4]
def wsL_law_r4 : List Cond := [Cond.static yJ6_bitCount_0f7a4, Cond.initialized RJ6, Cond.code yJ6_bitCount_0f7a4 cJ6_bitCount_0f7a4 1 (some .int), Cond.constant RJ6 265 (1431655765), Cond.constant RJ6 266 (858993459), Cond.constant RJ6 267 (252645135), Cond.methodLink RL 30 yX1_literal, Cond.instanceMethod yX1_literal, Cond.selects RX1 yX1_literal yX1_literal, Cond.code yX1_literal cX1_literal 3 (some .int), Cond.fieldLink RX1 32 "ClauseSolverModel" "ownYes" "I", Cond.fieldLink RX1 35 "ClauseSolverModel" "ownNo" "I", Cond.methodLink RX1 38 yX1_bits, Cond.static yX1_bits, Cond.code yX1_bits cX1_bits 3 (some .int), Cond.methodLink RL 31 yX0_clause, Cond.instanceMethod yX0_clause, Cond.selects RX0 yX0_clause yX0_clause, Cond.code yX0_clause cX0_clause 2 (some .int), Cond.methodLink RX0 60 yX0_append, Cond.instanceMethod yX0_append, Cond.selects RX0 yX0_append yX0_append, Cond.code yX0_append cX0_append 4 (some .int), Cond.fieldLink RX0 67 "ClauseSolver" "clauses" "I"]
def wsL_law_r5 : List Cond := [Cond.methodLink RX0 63 yX0_lowBits, Cond.static yX0_lowBits, Cond.code yX0_lowBits cX0_lowBits 1 (some .int), Cond.methodLink RX0 78 yX0_depthOf, Cond.instanceMethod yX0_depthOf, Cond.selects RX0 yX0_depthOf yX0_depthOf, Cond.code yX0_depthOf cX0_depthOf 3 (some .int), Cond.methodLink RX0 81 yX0_tailsThatMeet, Cond.static yX0_tailsThatMeet, Cond.code yX0_tailsThatMeet cX0_tailsThatMeet 5 (some .long), Cond.fieldLink RX0 85 "ClauseSolver" "TAILS_WITH" "[J", Cond.constantLong RX0 88 (-1), Cond.methodLink RL 35 yX1_clause, Cond.instanceMethod yX1_clause, Cond.selects RX1 yX1_clause yX1_clause, Cond.code yX1_clause cX1_clause 1 (some .int), Cond.fieldLink RX1 42 "ClauseSolverModel" "count" "I", Cond.methodLink RX1 45 yX1_some, Cond.instanceMethod yX1_some, Cond.selects RX1 yX1_some yX1_some, Cond.code yX1_some cX1_some 3 (some .int), Cond.methodLink RL 36 yX0_some, Cond.instanceMethod yX0_some, Cond.selects RX0 yX0_some yX0_some]
def wsL_law_r6 : List Cond := [Cond.code yX0_some cX0_some 4 (some .int), Cond.methodLink RL 40 yX1_some, Cond.methodLink RL 41 yX0_drop, Cond.instanceMethod yX0_drop, Cond.selects RX0 yX0_drop yX0_drop, Cond.code yX0_drop cX0_drop 2 (some .int), Cond.methodLink RL 45 yX1_drop, Cond.instanceMethod yX1_drop, Cond.selects RX1 yX1_drop yX1_drop, Cond.code yX1_drop cX1_drop 2 (some .int), Cond.methodLink RL 46 yX0_solve, Cond.instanceMethod yX0_solve, Cond.selects RX0 yX0_solve yX0_solve, Cond.code yX0_solve cX0_solve 1 (some .boolean), Cond.methodLink RX0 70 yX0_firstAnswer, Cond.instanceMethod yX0_firstAnswer, Cond.selects RX0 yX0_firstAnswer yX0_firstAnswer, Cond.code yX0_firstAnswer cX0_firstAnswer 1 (some .int), Cond.methodLink RX0 90 yX0_firstBelow, Cond.instanceMethod yX0_firstBelow, Cond.selects RX0 yX0_firstBelow yX0_firstBelow, Cond.code yX0_firstBelow cX0_firstBelow 7 (some .int), Cond.methodLink RX0 94 yX0_narrowed, Cond.instanceMethod yX0_narrowed]
def wsL_law_r7 : List Cond := [Cond.selects RX0 yX0_narrowed yX0_narrowed, Cond.code yX0_narrowed cX0_narrowed 8 (some .long), Cond.methodLink RX0 105 yX0_headMeets, Cond.instanceMethod yX0_headMeets, Cond.selects RX0 yX0_headMeets yX0_headMeets, Cond.code yX0_headMeets cX0_headMeets 3 (some .boolean), Cond.methodLink RX0 98 yX0_firstTail, Cond.instanceMethod yX0_firstTail, Cond.selects RX0 yX0_firstTail yX0_firstTail, Cond.code yX0_firstTail cX0_firstTail 13 (some .int), Cond.methodLink RX0 102 yX0_firstOfBoth, Cond.instanceMethod yX0_firstOfBoth, Cond.selects RX0 yX0_firstOfBoth yX0_firstOfBoth, Cond.code yX0_firstOfBoth cX0_firstOfBoth 8 (some .int), Cond.methodLink RL 50 yX1_solve, Cond.instanceMethod yX1_solve, Cond.selects RX1 yX1_solve yX1_solve, Cond.code yX1_solve cX1_solve 1 (some .boolean), Cond.methodLink RX1 59 yX1_answer, Cond.instanceMethod yX1_answer, Cond.selects RX1 yX1_answer yX1_answer, Cond.code yX1_answer cX1_answer 1 (some .int), Cond.fieldLink RX1 56 "ClauseSolverModel" "found" "I", Cond.methodLink RX1 53 yX1_search]
def wsL_law_r8 : List Cond := [Cond.instanceMethod yX1_search, Cond.selects RX1 yX1_search yX1_search, Cond.code yX1_search cX1_search 5 (some .int), Cond.methodLink RX1 49 yX1_holds, Cond.instanceMethod yX1_holds, Cond.selects RX1 yX1_holds yX1_holds, Cond.code yX1_holds cX1_holds 4 (some .boolean), Cond.methodLink RL 51 yX0_answer, Cond.instanceMethod yX0_answer, Cond.selects RX0 yX0_answer yX0_answer, Cond.code yX0_answer cX0_answer 1 (some .int), Cond.methodLink RL 54 yX1_answer, Cond.methodLink RL 55 yX0_count, Cond.instanceMethod yX0_count, Cond.selects RX0 yX0_count yX0_count, Cond.code yX0_count cX0_count 2 (some .int), Cond.methodLink RL 58 yX1_count, Cond.instanceMethod yX1_count, Cond.selects RX1 yX1_count yX1_count, Cond.code yX1_count cX1_count 2 (some .int)]
def wsL_law : List Cond := (wsL_law_r1 ++ (wsL_law_r2 ++ (wsL_law_r3 ++ (wsL_law_r4 ++ (wsL_law_r5 ++ (wsL_law_r6 ++ (wsL_law_r7 ++ wsL_law_r8))))))) ++ wsX00 ++ wsX10 ++ ([] : List Cond)
set_option maxRecDepth 20000 in
theorem wsL_law_in : ∀ w ∈ wsL_law, w ∈ lw_tbl := fun w h => (goodIn_p wsL_law [157, 22, 25, 28, 31, 162, 68, 72, 75, 196, 200, 79, 83, 86, 204, 207, 93, 97, 100, 104, 107, 211, 215, 114, 118, 220, 122, 126, 130, 134, 138, 142, 146, 236, 224, 228, 232, 150, 154, 241] (by decide +kernel) (by decide +kernel) w h).1
theorem inlX0 : ∀ w ∈ wsX00, w ∈ wsL_law := fun _ h => List.mem_append_left _ (List.mem_append_left _ (List.mem_append_right _ h))
theorem inX0 : ∀ w ∈ wsX00, w ∈ lw_tbl := fun w h => wsL_law_in w (inlX0 w h)
theorem inlX1 : ∀ w ∈ wsX10, w ∈ wsL_law := fun _ h => List.mem_append_left _ (List.mem_append_right _ h)
theorem inX1 : ∀ w ∈ wsX10, w ∈ lw_tbl := fun w h => wsL_law_in w (inlX1 w h)
theorem inJ6 : ∀ w ∈ wsJ60, w ∈ lw_tbl := by decide +kernel
theorem inJ9 : ∀ w ∈ wsJ90, w ∈ lw_tbl := by decide +kernel
theorem dX0_init_0 : decode cX0_init 0 = .ok (.aload_n 0, 1) := by decide +kernel
theorem dX0_init_1 : decode cX0_init 1 = .ok (.invokespecial 1, 3) := by decide +kernel
theorem dX0_init_4 : decode cX0_init 4 = .ok (.aload_n 0, 1) := by decide +kernel
theorem dX0_init_5 : decode cX0_init 5 = .ok (.iconst 1, 1) := by decide +kernel
theorem dX0_init_6 : decode cX0_init 6 = .ok (.bipush 16, 2) := by decide +kernel
theorem dX0_init_8 : decode cX0_init 8 = .ok (.iload_n 1, 1) := by decide +kernel
theorem dX0_init_9 : decode cX0_init 9 = .ok (.invokestatic 9, 3) := by decide +kernel
theorem dX0_init_12 : decode cX0_init 12 = .ok (.invokestatic 15, 3) := by decide +kernel
theorem dX0_init_15 : decode cX0_init 15 = .ok (.putfield 18, 3) := by decide +kernel
theorem dX0_init_18 : decode cX0_init 18 = .ok (.aload_n 0, 1) := by decide +kernel
theorem dX0_init_19 : decode cX0_init 19 = .ok (.iconst 0, 1) := by decide +kernel
theorem dX0_init_20 : decode cX0_init 20 = .ok (.aload_n 0, 1) := by decide +kernel
theorem dX0_init_21 : decode cX0_init 21 = .ok (.getfield 18, 3) := by decide +kernel
theorem dX0_init_24 : decode cX0_init 24 = .ok (.bipush 6, 2) := by decide +kernel
theorem dX0_init_26 : decode cX0_init 26 = .ok (.isub, 1) := by decide +kernel
theorem dX0_init_27 : decode cX0_init 27 = .ok (.invokestatic 15, 3) := by decide +kernel
theorem dX0_init_30 : decode cX0_init 30 = .ok (.putfield 22, 3) := by decide +kernel
theorem dX0_init_33 : decode cX0_init 33 = .ok (.aload_n 0, 1) := by decide +kernel
theorem dX0_init_34 : decode cX0_init 34 = .ok (.sipush 400, 3) := by decide +kernel
theorem dX0_init_37 : decode cX0_init 37 = .ok (.newarray .int, 2) := by decide +kernel
theorem dX0_init_39 : decode cX0_init 39 = .ok (.putfield 25, 3) := by decide +kernel
theorem dX0_init_42 : decode cX0_init 42 = .ok (.aload_n 0, 1) := by decide +kernel
theorem dX0_init_43 : decode cX0_init 43 = .ok (.sipush 400, 3) := by decide +kernel
theorem dX0_init_46 : decode cX0_init 46 = .ok (.newarray .int, 2) := by decide +kernel
theorem dX0_init_48 : decode cX0_init 48 = .ok (.putfield 29, 3) := by decide +kernel
theorem dX0_init_51 : decode cX0_init 51 = .ok (.aload_n 0, 1) := by decide +kernel
theorem dX0_init_52 : decode cX0_init 52 = .ok (.sipush 400, 3) := by decide +kernel
theorem dX0_init_55 : decode cX0_init 55 = .ok (.newarray .int, 2) := by decide +kernel
theorem dX0_init_57 : decode cX0_init 57 = .ok (.putfield 32, 3) := by decide +kernel
theorem dX0_init_60 : decode cX0_init 60 = .ok (.aload_n 0, 1) := by decide +kernel
theorem dX0_init_61 : decode cX0_init 61 = .ok (.sipush 400, 3) := by decide +kernel
theorem dX0_init_64 : decode cX0_init 64 = .ok (.newarray .long, 2) := by decide +kernel
theorem dX0_init_66 : decode cX0_init 66 = .ok (.putfield 35, 3) := by decide +kernel
theorem dX0_init_69 : decode cX0_init 69 = .ok (.return_, 1) := by decide +kernel
set_option maxRecDepth 20000 in
theorem ggX0_wish_X0_isVariable : GoodIn wsX0_wish wsX0_isVariable := goodIn_r _ [6, 7, 11, 12, 13, 14, 15, 16, 17, 18, 19, 20] (by decide +kernel) (by decide +kernel)
set_option maxRecDepth 20000 in
theorem gX0_wish_X0_isVariable : GoodIn wsX0_wish (wsV RX0 39 RX0 yX0_isVariable wsX0_isVariable) := goodIn_app (goodIn_of _ (by decide +kernel)) ggX0_wish_X0_isVariable
set_option maxRecDepth 20000 in
theorem ggX0_wish_X0_has : GoodIn wsX0_wish wsX0_has := goodIn_r _ [10] (by decide +kernel) (by decide +kernel)
set_option maxRecDepth 20000 in
theorem gX0_wish_X0_has : GoodIn wsX0_wish (va_wsS RX0 46 yX0_has wsX0_has) := goodIn_app (goodIn_of _ (by decide +kernel)) ggX0_wish_X0_has
theorem dX0_wish_0 : decode cX0_wish 0 = .ok (.aload_n 0, 1) := by decide +kernel
theorem dX0_wish_1 : decode cX0_wish 1 = .ok (.iload_n 1, 1) := by decide +kernel
theorem dX0_wish_2 : decode cX0_wish 2 = .ok (.invokevirtual 39, 3) := by decide +kernel
theorem dX0_wish_5 : decode cX0_wish 5 = .ok (.ifCond .ne 5, 3) := by decide +kernel
theorem dX0_wish_8 : decode cX0_wish 8 = .ok (.iconst 0, 1) := by decide +kernel
theorem dX0_wish_9 : decode cX0_wish 9 = .ok (.ireturn, 1) := by decide +kernel
theorem dX0_wish_10 : decode cX0_wish 10 = .ok (.aload_n 0, 1) := by decide +kernel
theorem dX0_wish_11 : decode cX0_wish 11 = .ok (.getfield 43, 3) := by decide +kernel
theorem dX0_wish_14 : decode cX0_wish 14 = .ok (.iload_n 1, 1) := by decide +kernel
theorem dX0_wish_15 : decode cX0_wish 15 = .ok (.invokestatic 46, 3) := by decide +kernel
theorem dX0_wish_18 : decode cX0_wish 18 = .ok (.istore_n 3, 1) := by decide +kernel
theorem dX0_wish_19 : decode cX0_wish 19 = .ok (.aload_n 0, 1) := by decide +kernel
theorem dX0_wish_20 : decode cX0_wish 20 = .ok (.iload_n 2, 1) := by decide +kernel
theorem dX0_wish_21 : decode cX0_wish 21 = .ok (.ifCond .eq 14, 3) := by decide +kernel
theorem dX0_wish_24 : decode cX0_wish 24 = .ok (.aload_n 0, 1) := by decide +kernel
theorem dX0_wish_25 : decode cX0_wish 25 = .ok (.getfield 43, 3) := by decide +kernel
theorem dX0_wish_28 : decode cX0_wish 28 = .ok (.iconst 1, 1) := by decide +kernel
theorem dX0_wish_29 : decode cX0_wish 29 = .ok (.iload_n 1, 1) := by decide +kernel
theorem dX0_wish_30 : decode cX0_wish 30 = .ok (.ishl, 1) := by decide +kernel
theorem dX0_wish_31 : decode cX0_wish 31 = .ok (.ior, 1) := by decide +kernel
theorem dX0_wish_32 : decode cX0_wish 32 = .ok (.goto 13, 3) := by decide +kernel
theorem dX0_wish_35 : decode cX0_wish 35 = .ok (.aload_n 0, 1) := by decide +kernel
theorem dX0_wish_36 : decode cX0_wish 36 = .ok (.getfield 43, 3) := by decide +kernel
theorem dX0_wish_39 : decode cX0_wish 39 = .ok (.iconst 1, 1) := by decide +kernel
theorem dX0_wish_40 : decode cX0_wish 40 = .ok (.iload_n 1, 1) := by decide +kernel
theorem dX0_wish_41 : decode cX0_wish 41 = .ok (.ishl, 1) := by decide +kernel
theorem dX0_wish_42 : decode cX0_wish 42 = .ok (.iconst (-1), 1) := by decide +kernel
theorem dX0_wish_43 : decode cX0_wish 43 = .ok (.ixor, 1) := by decide +kernel
theorem dX0_wish_44 : decode cX0_wish 44 = .ok (.iand, 1) := by decide +kernel
theorem dX0_wish_45 : decode cX0_wish 45 = .ok (.putfield 43, 3) := by decide +kernel
theorem dX0_wish_48 : decode cX0_wish 48 = .ok (.iload_n 3, 1) := by decide +kernel
theorem dX0_wish_49 : decode cX0_wish 49 = .ok (.ireturn, 1) := by decide +kernel
set_option maxRecDepth 20000 in
theorem ggX0_literal_X0_isVariable : GoodIn wsX0_literal wsX0_isVariable := goodIn_r _ [7, 8, 20, 21, 22, 23, 24, 25, 26, 27, 28, 29] (by decide +kernel) (by decide +kernel)
set_option maxRecDepth 20000 in
theorem gX0_literal_X0_isVariable : GoodIn wsX0_literal (wsV RX0 39 RX0 yX0_isVariable wsX0_isVariable) := goodIn_app (goodIn_of _ (by decide +kernel)) ggX0_literal_X0_isVariable
set_option maxRecDepth 20000 in
theorem ggX0_literal_X0_namedByMadeUp : GoodIn wsX0_literal wsX0_namedByMadeUp := goodIn_r _ [12, 1, 2, 13, 14, 15, 16, 17, 18, 19, 20, 21, 22, 23, 24, 25, 26, 27, 28, 29] (by decide +kernel) (by decide +kernel)
set_option maxRecDepth 20000 in
theorem gX0_literal_X0_namedByMadeUp : GoodIn wsX0_literal (wsV RX0 56 RX0 yX0_namedByMadeUp wsX0_namedByMadeUp) := goodIn_app (goodIn_of _ (by decide +kernel)) ggX0_literal_X0_namedByMadeUp
theorem dX0_literal_0 : decode cX0_literal 0 = .ok (.aload_n 0, 1) := by decide +kernel
theorem dX0_literal_1 : decode cX0_literal 1 = .ok (.iload_n 1, 1) := by decide +kernel
theorem dX0_literal_2 : decode cX0_literal 2 = .ok (.invokevirtual 39, 3) := by decide +kernel
theorem dX0_literal_5 : decode cX0_literal 5 = .ok (.ifCond .ne 5, 3) := by decide +kernel
theorem dX0_literal_8 : decode cX0_literal 8 = .ok (.iconst (-1), 1) := by decide +kernel
theorem dX0_literal_9 : decode cX0_literal 9 = .ok (.ireturn, 1) := by decide +kernel
theorem dX0_literal_10 : decode cX0_literal 10 = .ok (.iload_n 2, 1) := by decide +kernel
theorem dX0_literal_11 : decode cX0_literal 11 = .ok (.ifCond .eq 18, 3) := by decide +kernel
theorem dX0_literal_14 : decode cX0_literal 14 = .ok (.aload_n 0, 1) := by decide +kernel
theorem dX0_literal_15 : decode cX0_literal 15 = .ok (.dup, 1) := by decide +kernel
theorem dX0_literal_16 : decode cX0_literal 16 = .ok (.getfield 50, 3) := by decide +kernel
theorem dX0_literal_19 : decode cX0_literal 19 = .ok (.iconst 1, 1) := by decide +kernel
theorem dX0_literal_20 : decode cX0_literal 20 = .ok (.iload_n 1, 1) := by decide +kernel
theorem dX0_literal_21 : decode cX0_literal 21 = .ok (.ishl, 1) := by decide +kernel
theorem dX0_literal_22 : decode cX0_literal 22 = .ok (.ior, 1) := by decide +kernel
theorem dX0_literal_23 : decode cX0_literal 23 = .ok (.putfield 50, 3) := by decide +kernel
theorem dX0_literal_26 : decode cX0_literal 26 = .ok (.goto 15, 3) := by decide +kernel
theorem dX0_literal_29 : decode cX0_literal 29 = .ok (.aload_n 0, 1) := by decide +kernel
theorem dX0_literal_30 : decode cX0_literal 30 = .ok (.dup, 1) := by decide +kernel
theorem dX0_literal_31 : decode cX0_literal 31 = .ok (.getfield 53, 3) := by decide +kernel
theorem dX0_literal_34 : decode cX0_literal 34 = .ok (.iconst 1, 1) := by decide +kernel
theorem dX0_literal_35 : decode cX0_literal 35 = .ok (.iload_n 1, 1) := by decide +kernel
theorem dX0_literal_36 : decode cX0_literal 36 = .ok (.ishl, 1) := by decide +kernel
theorem dX0_literal_37 : decode cX0_literal 37 = .ok (.ior, 1) := by decide +kernel
theorem dX0_literal_38 : decode cX0_literal 38 = .ok (.putfield 53, 3) := by decide +kernel
theorem dX0_literal_41 : decode cX0_literal 41 = .ok (.aload_n 0, 1) := by decide +kernel
theorem dX0_literal_42 : decode cX0_literal 42 = .ok (.invokevirtual 56, 3) := by decide +kernel
theorem dX0_literal_45 : decode cX0_literal 45 = .ok (.ireturn, 1) := by decide +kernel
set_option maxRecDepth 20000 in
theorem ggX0_clause_X0_append : GoodIn wsX0_clause wsX0_append := goodIn_r _ [7, 8, 9, 10, 11, 12, 13, 14, 15, 6, 16, 17, 18, 19, 20, 21, 22, 23, 24, 25, 26, 27, 28, 29, 30, 31, 32, 33, 34, 35, 36, 37, 38] (by decide +kernel) (by decide +kernel)
set_option maxRecDepth 20000 in
theorem gX0_clause_X0_append : GoodIn wsX0_clause (wsV RX0 60 RX0 yX0_append wsX0_append) := goodIn_app (goodIn_of _ (by decide +kernel)) ggX0_clause_X0_append
theorem dX0_clause_0 : decode cX0_clause 0 = .ok (.aload_n 0, 1) := by decide +kernel
theorem dX0_clause_1 : decode cX0_clause 1 = .ok (.aload_n 0, 1) := by decide +kernel
theorem dX0_clause_2 : decode cX0_clause 2 = .ok (.getfield 50, 3) := by decide +kernel
theorem dX0_clause_5 : decode cX0_clause 5 = .ok (.aload_n 0, 1) := by decide +kernel
theorem dX0_clause_6 : decode cX0_clause 6 = .ok (.getfield 53, 3) := by decide +kernel
theorem dX0_clause_9 : decode cX0_clause 9 = .ok (.invokevirtual 60, 3) := by decide +kernel
theorem dX0_clause_12 : decode cX0_clause 12 = .ok (.istore_n 1, 1) := by decide +kernel
theorem dX0_clause_13 : decode cX0_clause 13 = .ok (.iload_n 1, 1) := by decide +kernel
theorem dX0_clause_14 : decode cX0_clause 14 = .ok (.bipush (-3), 2) := by decide +kernel
theorem dX0_clause_16 : decode cX0_clause 16 = .ok (.if_icmp .eq 13, 3) := by decide +kernel
theorem dX0_clause_19 : decode cX0_clause 19 = .ok (.aload_n 0, 1) := by decide +kernel
theorem dX0_clause_20 : decode cX0_clause 20 = .ok (.iconst 0, 1) := by decide +kernel
theorem dX0_clause_21 : decode cX0_clause 21 = .ok (.putfield 50, 3) := by decide +kernel
theorem dX0_clause_24 : decode cX0_clause 24 = .ok (.aload_n 0, 1) := by decide +kernel
theorem dX0_clause_25 : decode cX0_clause 25 = .ok (.iconst 0, 1) := by decide +kernel
theorem dX0_clause_26 : decode cX0_clause 26 = .ok (.putfield 53, 3) := by decide +kernel
theorem dX0_clause_29 : decode cX0_clause 29 = .ok (.iload_n 1, 1) := by decide +kernel
theorem dX0_clause_30 : decode cX0_clause 30 = .ok (.ireturn, 1) := by decide +kernel
set_option maxRecDepth 20000 in
theorem ggX0_some_X0_lowBits : GoodIn wsX0_some wsX0_lowBits := goodIn_r _ [5] (by decide +kernel) (by decide +kernel)
set_option maxRecDepth 20000 in
theorem gX0_some_X0_lowBits : GoodIn wsX0_some (va_wsS RX0 63 yX0_lowBits wsX0_lowBits) := goodIn_app (goodIn_of _ (by decide +kernel)) ggX0_some_X0_lowBits
set_option maxRecDepth 20000 in
theorem ggX0_some_X0_append : GoodIn wsX0_some wsX0_append := goodIn_r _ [9, 10, 11, 12, 13, 14, 15, 2, 3, 4, 5, 16, 17, 18, 19, 20, 21, 22, 23, 24, 25, 26, 27, 28, 29, 30, 31, 32, 33, 34, 35, 36, 37] (by decide +kernel) (by decide +kernel)
set_option maxRecDepth 20000 in
theorem gX0_some_X0_append : GoodIn wsX0_some (wsV RX0 60 RX0 yX0_append wsX0_append) := goodIn_app (goodIn_of _ (by decide +kernel)) ggX0_some_X0_append
theorem dX0_some_0 : decode cX0_some 0 = .ok (.aload_n 0, 1) := by decide +kernel
theorem dX0_some_1 : decode cX0_some 1 = .ok (.getfield 18, 3) := by decide +kernel
theorem dX0_some_4 : decode cX0_some 4 = .ok (.invokestatic 63, 3) := by decide +kernel
theorem dX0_some_7 : decode cX0_some 7 = .ok (.istore_n 3, 1) := by decide +kernel
theorem dX0_some_8 : decode cX0_some 8 = .ok (.aload_n 0, 1) := by decide +kernel
theorem dX0_some_9 : decode cX0_some 9 = .ok (.iload_n 1, 1) := by decide +kernel
theorem dX0_some_10 : decode cX0_some 10 = .ok (.iload_n 3, 1) := by decide +kernel
theorem dX0_some_11 : decode cX0_some 11 = .ok (.iand, 1) := by decide +kernel
theorem dX0_some_12 : decode cX0_some 12 = .ok (.iload_n 2, 1) := by decide +kernel
theorem dX0_some_13 : decode cX0_some 13 = .ok (.iload_n 3, 1) := by decide +kernel
theorem dX0_some_14 : decode cX0_some 14 = .ok (.iand, 1) := by decide +kernel
theorem dX0_some_15 : decode cX0_some 15 = .ok (.invokevirtual 60, 3) := by decide +kernel
theorem dX0_some_18 : decode cX0_some 18 = .ok (.ireturn, 1) := by decide +kernel
theorem dX0_drop_0 : decode cX0_drop 0 = .ok (.iload_n 1, 1) := by decide +kernel
theorem dX0_drop_1 : decode cX0_drop 1 = .ok (.ifCond .lt 11, 3) := by decide +kernel
theorem dX0_drop_4 : decode cX0_drop 4 = .ok (.iload_n 1, 1) := by decide +kernel
theorem dX0_drop_5 : decode cX0_drop 5 = .ok (.aload_n 0, 1) := by decide +kernel
theorem dX0_drop_6 : decode cX0_drop 6 = .ok (.getfield 67, 3) := by decide +kernel
theorem dX0_drop_9 : decode cX0_drop 9 = .ok (.if_icmp .lt 6, 3) := by decide +kernel
theorem dX0_drop_12 : decode cX0_drop 12 = .ok (.bipush (-2), 2) := by decide +kernel
theorem dX0_drop_14 : decode cX0_drop 14 = .ok (.ireturn, 1) := by decide +kernel
theorem dX0_drop_15 : decode cX0_drop 15 = .ok (.aload_n 0, 1) := by decide +kernel
theorem dX0_drop_16 : decode cX0_drop 16 = .ok (.dup, 1) := by decide +kernel
theorem dX0_drop_17 : decode cX0_drop 17 = .ok (.getfield 67, 3) := by decide +kernel
theorem dX0_drop_20 : decode cX0_drop 20 = .ok (.iconst 1, 1) := by decide +kernel
theorem dX0_drop_21 : decode cX0_drop 21 = .ok (.isub, 1) := by decide +kernel
theorem dX0_drop_22 : decode cX0_drop 22 = .ok (.putfield 67, 3) := by decide +kernel
theorem dX0_drop_25 : decode cX0_drop 25 = .ok (.aload_n 0, 1) := by decide +kernel
theorem dX0_drop_26 : decode cX0_drop 26 = .ok (.getfield 25, 3) := by decide +kernel
theorem dX0_drop_29 : decode cX0_drop 29 = .ok (.iload_n 1, 1) := by decide +kernel
theorem dX0_drop_30 : decode cX0_drop 30 = .ok (.aload_n 0, 1) := by decide +kernel
theorem dX0_drop_31 : decode cX0_drop 31 = .ok (.getfield 25, 3) := by decide +kernel
theorem dX0_drop_34 : decode cX0_drop 34 = .ok (.aload_n 0, 1) := by decide +kernel
theorem dX0_drop_35 : decode cX0_drop 35 = .ok (.getfield 67, 3) := by decide +kernel
theorem dX0_drop_38 : decode cX0_drop 38 = .ok (.iaload, 1) := by decide +kernel
theorem dX0_drop_39 : decode cX0_drop 39 = .ok (.iastore, 1) := by decide +kernel
theorem dX0_drop_40 : decode cX0_drop 40 = .ok (.aload_n 0, 1) := by decide +kernel
theorem dX0_drop_41 : decode cX0_drop 41 = .ok (.getfield 29, 3) := by decide +kernel
theorem dX0_drop_44 : decode cX0_drop 44 = .ok (.iload_n 1, 1) := by decide +kernel
theorem dX0_drop_45 : decode cX0_drop 45 = .ok (.aload_n 0, 1) := by decide +kernel
theorem dX0_drop_46 : decode cX0_drop 46 = .ok (.getfield 29, 3) := by decide +kernel
theorem dX0_drop_49 : decode cX0_drop 49 = .ok (.aload_n 0, 1) := by decide +kernel
theorem dX0_drop_50 : decode cX0_drop 50 = .ok (.getfield 67, 3) := by decide +kernel
theorem dX0_drop_53 : decode cX0_drop 53 = .ok (.iaload, 1) := by decide +kernel
theorem dX0_drop_54 : decode cX0_drop 54 = .ok (.iastore, 1) := by decide +kernel
theorem dX0_drop_55 : decode cX0_drop 55 = .ok (.aload_n 0, 1) := by decide +kernel
theorem dX0_drop_56 : decode cX0_drop 56 = .ok (.getfield 32, 3) := by decide +kernel
theorem dX0_drop_59 : decode cX0_drop 59 = .ok (.iload_n 1, 1) := by decide +kernel
theorem dX0_drop_60 : decode cX0_drop 60 = .ok (.aload_n 0, 1) := by decide +kernel
theorem dX0_drop_61 : decode cX0_drop 61 = .ok (.getfield 32, 3) := by decide +kernel
theorem dX0_drop_64 : decode cX0_drop 64 = .ok (.aload_n 0, 1) := by decide +kernel
theorem dX0_drop_65 : decode cX0_drop 65 = .ok (.getfield 67, 3) := by decide +kernel
theorem dX0_drop_68 : decode cX0_drop 68 = .ok (.iaload, 1) := by decide +kernel
theorem dX0_drop_69 : decode cX0_drop 69 = .ok (.iastore, 1) := by decide +kernel
theorem dX0_drop_70 : decode cX0_drop 70 = .ok (.aload_n 0, 1) := by decide +kernel
theorem dX0_drop_71 : decode cX0_drop 71 = .ok (.getfield 35, 3) := by decide +kernel
theorem dX0_drop_74 : decode cX0_drop 74 = .ok (.iload_n 1, 1) := by decide +kernel
theorem dX0_drop_75 : decode cX0_drop 75 = .ok (.aload_n 0, 1) := by decide +kernel
theorem dX0_drop_76 : decode cX0_drop 76 = .ok (.getfield 35, 3) := by decide +kernel
theorem dX0_drop_79 : decode cX0_drop 79 = .ok (.aload_n 0, 1) := by decide +kernel
theorem dX0_drop_80 : decode cX0_drop 80 = .ok (.getfield 67, 3) := by decide +kernel
theorem dX0_drop_83 : decode cX0_drop 83 = .ok (.laload, 1) := by decide +kernel
theorem dX0_drop_84 : decode cX0_drop 84 = .ok (.lastore, 1) := by decide +kernel
theorem dX0_drop_85 : decode cX0_drop 85 = .ok (.aload_n 0, 1) := by decide +kernel
theorem dX0_drop_86 : decode cX0_drop 86 = .ok (.getfield 67, 3) := by decide +kernel
theorem dX0_drop_89 : decode cX0_drop 89 = .ok (.ireturn, 1) := by decide +kernel
set_option maxRecDepth 20000 in
theorem ggX0_solve_X0_firstAnswer : GoodIn wsX0_solve wsX0_firstAnswer := goodIn_r _ [5, 6, 7, 8, 9, 4, 10, 11, 12, 13, 14, 15, 16, 17, 18, 19, 20, 21, 22, 23, 24, 25, 26, 27, 28, 29, 30, 31, 32, 33, 34, 35, 36, 37, 38, 39, 40, 41, 42, 43, 44, 45, 46, 47] (by decide +kernel) (by decide +kernel)
set_option maxRecDepth 20000 in
theorem gX0_solve_X0_firstAnswer : GoodIn wsX0_solve (wsV RX0 70 RX0 yX0_firstAnswer wsX0_firstAnswer) := goodIn_app (goodIn_of _ (by decide +kernel)) ggX0_solve_X0_firstAnswer
theorem dX0_solve_0 : decode cX0_solve 0 = .ok (.aload_n 0, 1) := by decide +kernel
theorem dX0_solve_1 : decode cX0_solve 1 = .ok (.invokevirtual 70, 3) := by decide +kernel
theorem dX0_solve_4 : decode cX0_solve 4 = .ok (.bipush (-2), 2) := by decide +kernel
theorem dX0_solve_6 : decode cX0_solve 6 = .ok (.if_icmp .eq 7, 3) := by decide +kernel
theorem dX0_solve_9 : decode cX0_solve 9 = .ok (.iconst 1, 1) := by decide +kernel
theorem dX0_solve_10 : decode cX0_solve 10 = .ok (.goto 4, 3) := by decide +kernel
theorem dX0_solve_13 : decode cX0_solve 13 = .ok (.iconst 0, 1) := by decide +kernel
theorem dX0_solve_14 : decode cX0_solve 14 = .ok (.ireturn, 1) := by decide +kernel
set_option maxRecDepth 20000 in
theorem ggX0_answer_X0_firstAnswer : GoodIn wsX0_answer wsX0_firstAnswer := goodIn_r _ [5, 6, 7, 8, 9, 4, 10, 11, 12, 13, 14, 15, 16, 17, 18, 19, 20, 21, 22, 23, 24, 25, 26, 27, 28, 29, 30, 31, 32, 33, 34, 35, 36, 37, 38, 39, 40, 41, 42, 43, 44, 45, 46, 47] (by decide +kernel) (by decide +kernel)
set_option maxRecDepth 20000 in
theorem gX0_answer_X0_firstAnswer : GoodIn wsX0_answer (wsV RX0 70 RX0 yX0_firstAnswer wsX0_firstAnswer) := goodIn_app (goodIn_of _ (by decide +kernel)) ggX0_answer_X0_firstAnswer
theorem dX0_answer_0 : decode cX0_answer 0 = .ok (.aload_n 0, 1) := by decide +kernel
theorem dX0_answer_1 : decode cX0_answer 1 = .ok (.invokevirtual 70, 3) := by decide +kernel
theorem dX0_answer_4 : decode cX0_answer 4 = .ok (.ireturn, 1) := by decide +kernel
set_option maxRecDepth 20000 in
theorem ggX0_count_X0_namedByMadeUp : GoodIn wsX0_count wsX0_namedByMadeUp := goodIn_r _ [7, 8, 9, 10, 11, 12, 13, 14, 15, 16, 17, 18, 19, 20, 21, 22, 23, 24, 25, 26] (by decide +kernel) (by decide +kernel)
set_option maxRecDepth 20000 in
theorem gX0_count_X0_namedByMadeUp : GoodIn wsX0_count (wsV RX0 56 RX0 yX0_namedByMadeUp wsX0_namedByMadeUp) := goodIn_app (goodIn_of _ (by decide +kernel)) ggX0_count_X0_namedByMadeUp
theorem dX0_count_0 : decode cX0_count 0 = .ok (.iload_n 1, 1) := by decide +kernel
theorem dX0_count_1 : decode cX0_count 1 = .ok (.tableswitch 42 0 2 #[27, 32, 37], 27) := by decide +kernel
theorem dX0_count_28 : decode cX0_count 28 = .ok (.aload_n 0, 1) := by decide +kernel
theorem dX0_count_29 : decode cX0_count 29 = .ok (.getfield 18, 3) := by decide +kernel
theorem dX0_count_32 : decode cX0_count 32 = .ok (.ireturn, 1) := by decide +kernel
theorem dX0_count_33 : decode cX0_count 33 = .ok (.aload_n 0, 1) := by decide +kernel
theorem dX0_count_34 : decode cX0_count 34 = .ok (.getfield 67, 3) := by decide +kernel
theorem dX0_count_37 : decode cX0_count 37 = .ok (.ireturn, 1) := by decide +kernel
theorem dX0_count_38 : decode cX0_count 38 = .ok (.aload_n 0, 1) := by decide +kernel
theorem dX0_count_39 : decode cX0_count 39 = .ok (.invokevirtual 56, 3) := by decide +kernel
theorem dX0_count_42 : decode cX0_count 42 = .ok (.ireturn, 1) := by decide +kernel
theorem dX0_count_43 : decode cX0_count 43 = .ok (.iconst (-1), 1) := by decide +kernel
theorem dX0_count_44 : decode cX0_count 44 = .ok (.ireturn, 1) := by decide +kernel
theorem dX0_isVariable_0 : decode cX0_isVariable 0 = .ok (.iload_n 1, 1) := by decide +kernel
theorem dX0_isVariable_1 : decode cX0_isVariable 1 = .ok (.ifCond .lt 15, 3) := by decide +kernel
theorem dX0_isVariable_4 : decode cX0_isVariable 4 = .ok (.iload_n 1, 1) := by decide +kernel
theorem dX0_isVariable_5 : decode cX0_isVariable 5 = .ok (.aload_n 0, 1) := by decide +kernel
theorem dX0_isVariable_6 : decode cX0_isVariable 6 = .ok (.getfield 18, 3) := by decide +kernel
theorem dX0_isVariable_9 : decode cX0_isVariable 9 = .ok (.if_icmp .ge 7, 3) := by decide +kernel
theorem dX0_isVariable_12 : decode cX0_isVariable 12 = .ok (.iconst 1, 1) := by decide +kernel
theorem dX0_isVariable_13 : decode cX0_isVariable 13 = .ok (.goto 4, 3) := by decide +kernel
theorem dX0_isVariable_16 : decode cX0_isVariable 16 = .ok (.iconst 0, 1) := by decide +kernel
theorem dX0_isVariable_17 : decode cX0_isVariable 17 = .ok (.ireturn, 1) := by decide +kernel
theorem dX0_has_0 : decode cX0_has 0 = .ok (.iload_n 0, 1) := by decide +kernel
theorem dX0_has_1 : decode cX0_has 1 = .ok (.iload_n 1, 1) := by decide +kernel
theorem dX0_has_2 : decode cX0_has 2 = .ok (.ishr, 1) := by decide +kernel
theorem dX0_has_3 : decode cX0_has 3 = .ok (.iconst 1, 1) := by decide +kernel
theorem dX0_has_4 : decode cX0_has 4 = .ok (.iand, 1) := by decide +kernel
theorem dX0_has_5 : decode cX0_has 5 = .ok (.ifCond .eq 7, 3) := by decide +kernel
theorem dX0_has_8 : decode cX0_has 8 = .ok (.iconst 1, 1) := by decide +kernel
theorem dX0_has_9 : decode cX0_has 9 = .ok (.goto 4, 3) := by decide +kernel
theorem dX0_has_12 : decode cX0_has 12 = .ok (.iconst 0, 1) := by decide +kernel
theorem dX0_has_13 : decode cX0_has 13 = .ok (.ireturn, 1) := by decide +kernel
theorem dX0_lowBits_0 : decode cX0_lowBits 0 = .ok (.iconst 1, 1) := by decide +kernel
theorem dX0_lowBits_1 : decode cX0_lowBits 1 = .ok (.iload_n 0, 1) := by decide +kernel
theorem dX0_lowBits_2 : decode cX0_lowBits 2 = .ok (.ishl, 1) := by decide +kernel
theorem dX0_lowBits_3 : decode cX0_lowBits 3 = .ok (.iconst 1, 1) := by decide +kernel
theorem dX0_lowBits_4 : decode cX0_lowBits 4 = .ok (.isub, 1) := by decide +kernel
theorem dX0_lowBits_5 : decode cX0_lowBits 5 = .ok (.ireturn, 1) := by decide +kernel
set_option maxRecDepth 20000 in
theorem ggX0_namedByMadeUp_J6_bitCount_0f7a4 : GoodIn wsX0_namedByMadeUp wsJ6_bitCount_0f7a4 := goodIn_r _ [6, 7, 8, 9] (by decide +kernel) (by decide +kernel)
set_option maxRecDepth 20000 in
theorem gX0_namedByMadeUp_J6_bitCount_0f7a4 : GoodIn wsX0_namedByMadeUp (va_wsS RX0 73 yJ6_bitCount_0f7a4 wsJ6_bitCount_0f7a4) := goodIn_app (goodIn_of _ (by decide +kernel)) ggX0_namedByMadeUp_J6_bitCount_0f7a4
theorem dX0_namedByMadeUp_0 : decode cX0_namedByMadeUp 0 = .ok (.aload_n 0, 1) := by decide +kernel
theorem dX0_namedByMadeUp_1 : decode cX0_namedByMadeUp 1 = .ok (.getfield 50, 3) := by decide +kernel
theorem dX0_namedByMadeUp_4 : decode cX0_namedByMadeUp 4 = .ok (.invokestatic 73, 3) := by decide +kernel
theorem dX0_namedByMadeUp_7 : decode cX0_namedByMadeUp 7 = .ok (.aload_n 0, 1) := by decide +kernel
theorem dX0_namedByMadeUp_8 : decode cX0_namedByMadeUp 8 = .ok (.getfield 53, 3) := by decide +kernel
theorem dX0_namedByMadeUp_11 : decode cX0_namedByMadeUp 11 = .ok (.invokestatic 73, 3) := by decide +kernel
theorem dX0_namedByMadeUp_14 : decode cX0_namedByMadeUp 14 = .ok (.iadd, 1) := by decide +kernel
theorem dX0_namedByMadeUp_15 : decode cX0_namedByMadeUp 15 = .ok (.ireturn, 1) := by decide +kernel
set_option maxRecDepth 20000 in
theorem ggX0_append_X0_lowBits : GoodIn wsX0_append wsX0_lowBits := goodIn_r _ [10] (by decide +kernel) (by decide +kernel)
set_option maxRecDepth 20000 in
theorem gX0_append_X0_lowBits : GoodIn wsX0_append (va_wsS RX0 63 yX0_lowBits wsX0_lowBits) := goodIn_app (goodIn_of _ (by decide +kernel)) ggX0_append_X0_lowBits
set_option maxRecDepth 20000 in
theorem ggX0_append_X0_depthOf : GoodIn wsX0_append wsX0_depthOf := goodIn_r _ [14, 2, 15, 16, 9, 17, 23, 24, 25, 26, 27, 28, 29, 30, 31, 32] (by decide +kernel) (by decide +kernel)
set_option maxRecDepth 20000 in
theorem gX0_append_X0_depthOf : GoodIn wsX0_append (wsV RX0 78 RX0 yX0_depthOf wsX0_depthOf) := goodIn_app (goodIn_of _ (by decide +kernel)) ggX0_append_X0_depthOf
set_option maxRecDepth 20000 in
theorem ggX0_append_X0_tailsThatMeet : GoodIn wsX0_append wsX0_tailsThatMeet := goodIn_r _ [20, 21, 22, 15, 16, 9, 17] (by decide +kernel) (by decide +kernel)
set_option maxRecDepth 20000 in
theorem gX0_append_X0_tailsThatMeet : GoodIn wsX0_append (va_wsS RX0 81 yX0_tailsThatMeet wsX0_tailsThatMeet) := goodIn_app (goodIn_of _ (by decide +kernel)) ggX0_append_X0_tailsThatMeet
theorem dX0_append_0 : decode cX0_append 0 = .ok (.aload_n 0, 1) := by decide +kernel
theorem dX0_append_1 : decode cX0_append 1 = .ok (.getfield 67, 3) := by decide +kernel
theorem dX0_append_4 : decode cX0_append 4 = .ok (.sipush 400, 3) := by decide +kernel
theorem dX0_append_7 : decode cX0_append 7 = .ok (.if_icmp .lt 6, 3) := by decide +kernel
theorem dX0_append_10 : decode cX0_append 10 = .ok (.bipush (-3), 2) := by decide +kernel
theorem dX0_append_12 : decode cX0_append 12 = .ok (.ireturn, 1) := by decide +kernel
theorem dX0_append_13 : decode cX0_append 13 = .ok (.aload_n 0, 1) := by decide +kernel
theorem dX0_append_14 : decode cX0_append 14 = .ok (.getfield 22, 3) := by decide +kernel
theorem dX0_append_17 : decode cX0_append 17 = .ok (.invokestatic 63, 3) := by decide +kernel
theorem dX0_append_20 : decode cX0_append 20 = .ok (.istore_n 3, 1) := by decide +kernel
theorem dX0_append_21 : decode cX0_append 21 = .ok (.aload_n 0, 1) := by decide +kernel
theorem dX0_append_22 : decode cX0_append 22 = .ok (.getfield 25, 3) := by decide +kernel
theorem dX0_append_25 : decode cX0_append 25 = .ok (.aload_n 0, 1) := by decide +kernel
theorem dX0_append_26 : decode cX0_append 26 = .ok (.getfield 67, 3) := by decide +kernel
theorem dX0_append_29 : decode cX0_append 29 = .ok (.iload_n 1, 1) := by decide +kernel
theorem dX0_append_30 : decode cX0_append 30 = .ok (.iload_n 3, 1) := by decide +kernel
theorem dX0_append_31 : decode cX0_append 31 = .ok (.iand, 1) := by decide +kernel
theorem dX0_append_32 : decode cX0_append 32 = .ok (.iastore, 1) := by decide +kernel
theorem dX0_append_33 : decode cX0_append 33 = .ok (.aload_n 0, 1) := by decide +kernel
theorem dX0_append_34 : decode cX0_append 34 = .ok (.getfield 29, 3) := by decide +kernel
theorem dX0_append_37 : decode cX0_append 37 = .ok (.aload_n 0, 1) := by decide +kernel
theorem dX0_append_38 : decode cX0_append 38 = .ok (.getfield 67, 3) := by decide +kernel
theorem dX0_append_41 : decode cX0_append 41 = .ok (.iload_n 2, 1) := by decide +kernel
theorem dX0_append_42 : decode cX0_append 42 = .ok (.iload_n 3, 1) := by decide +kernel
theorem dX0_append_43 : decode cX0_append 43 = .ok (.iand, 1) := by decide +kernel
theorem dX0_append_44 : decode cX0_append 44 = .ok (.iastore, 1) := by decide +kernel
theorem dX0_append_45 : decode cX0_append 45 = .ok (.aload_n 0, 1) := by decide +kernel
theorem dX0_append_46 : decode cX0_append 46 = .ok (.getfield 32, 3) := by decide +kernel
theorem dX0_append_49 : decode cX0_append 49 = .ok (.aload_n 0, 1) := by decide +kernel
theorem dX0_append_50 : decode cX0_append 50 = .ok (.getfield 67, 3) := by decide +kernel
theorem dX0_append_53 : decode cX0_append 53 = .ok (.aload_n 0, 1) := by decide +kernel
theorem dX0_append_54 : decode cX0_append 54 = .ok (.iload_n 1, 1) := by decide +kernel
theorem dX0_append_55 : decode cX0_append 55 = .ok (.iload_n 2, 1) := by decide +kernel
theorem dX0_append_56 : decode cX0_append 56 = .ok (.ior, 1) := by decide +kernel
theorem dX0_append_57 : decode cX0_append 57 = .ok (.iload_n 3, 1) := by decide +kernel
theorem dX0_append_58 : decode cX0_append 58 = .ok (.iand, 1) := by decide +kernel
theorem dX0_append_59 : decode cX0_append 59 = .ok (.invokevirtual 78, 3) := by decide +kernel
theorem dX0_append_62 : decode cX0_append 62 = .ok (.iastore, 1) := by decide +kernel
theorem dX0_append_63 : decode cX0_append 63 = .ok (.aload_n 0, 1) := by decide +kernel
theorem dX0_append_64 : decode cX0_append 64 = .ok (.getfield 35, 3) := by decide +kernel
theorem dX0_append_67 : decode cX0_append 67 = .ok (.aload_n 0, 1) := by decide +kernel
theorem dX0_append_68 : decode cX0_append 68 = .ok (.getfield 67, 3) := by decide +kernel
theorem dX0_append_71 : decode cX0_append 71 = .ok (.iload_n 1, 1) := by decide +kernel
theorem dX0_append_72 : decode cX0_append 72 = .ok (.aload_n 0, 1) := by decide +kernel
theorem dX0_append_73 : decode cX0_append 73 = .ok (.getfield 22, 3) := by decide +kernel
theorem dX0_append_76 : decode cX0_append 76 = .ok (.ishr, 1) := by decide +kernel
theorem dX0_append_77 : decode cX0_append 77 = .ok (.iload_n 2, 1) := by decide +kernel
theorem dX0_append_78 : decode cX0_append 78 = .ok (.aload_n 0, 1) := by decide +kernel
theorem dX0_append_79 : decode cX0_append 79 = .ok (.getfield 22, 3) := by decide +kernel
theorem dX0_append_82 : decode cX0_append 82 = .ok (.ishr, 1) := by decide +kernel
theorem dX0_append_83 : decode cX0_append 83 = .ok (.invokestatic 81, 3) := by decide +kernel
theorem dX0_append_86 : decode cX0_append 86 = .ok (.lastore, 1) := by decide +kernel
theorem dX0_append_87 : decode cX0_append 87 = .ok (.aload_n 0, 1) := by decide +kernel
theorem dX0_append_88 : decode cX0_append 88 = .ok (.dup, 1) := by decide +kernel
theorem dX0_append_89 : decode cX0_append 89 = .ok (.getfield 67, 3) := by decide +kernel
theorem dX0_append_92 : decode cX0_append 92 = .ok (.iconst 1, 1) := by decide +kernel
theorem dX0_append_93 : decode cX0_append 93 = .ok (.iadd, 1) := by decide +kernel
theorem dX0_append_94 : decode cX0_append 94 = .ok (.putfield 67, 3) := by decide +kernel
theorem dX0_append_97 : decode cX0_append 97 = .ok (.aload_n 0, 1) := by decide +kernel
theorem dX0_append_98 : decode cX0_append 98 = .ok (.getfield 67, 3) := by decide +kernel
theorem dX0_append_101 : decode cX0_append 101 = .ok (.ireturn, 1) := by decide +kernel
set_option maxRecDepth 20000 in
theorem ggX0_depthOf_X0_has : GoodIn wsX0_depthOf wsX0_has := goodIn_r _ [5] (by decide +kernel) (by decide +kernel)
set_option maxRecDepth 20000 in
theorem gX0_depthOf_X0_has : GoodIn wsX0_depthOf (va_wsS RX0 46 yX0_has wsX0_has) := goodIn_app (goodIn_of _ (by decide +kernel)) ggX0_depthOf_X0_has
theorem dX0_depthOf_0 : decode cX0_depthOf 0 = .ok (.aload_n 0, 1) := by decide +kernel
theorem dX0_depthOf_1 : decode cX0_depthOf 1 = .ok (.getfield 22, 3) := by decide +kernel
theorem dX0_depthOf_4 : decode cX0_depthOf 4 = .ok (.istore_n 2, 1) := by decide +kernel
theorem dX0_depthOf_5 : decode cX0_depthOf 5 = .ok (.iload_n 2, 1) := by decide +kernel
theorem dX0_depthOf_6 : decode cX0_depthOf 6 = .ok (.ifCond .le 19, 3) := by decide +kernel
theorem dX0_depthOf_9 : decode cX0_depthOf 9 = .ok (.iload_n 1, 1) := by decide +kernel
theorem dX0_depthOf_10 : decode cX0_depthOf 10 = .ok (.iload_n 2, 1) := by decide +kernel
theorem dX0_depthOf_11 : decode cX0_depthOf 11 = .ok (.iconst 1, 1) := by decide +kernel
theorem dX0_depthOf_12 : decode cX0_depthOf 12 = .ok (.isub, 1) := by decide +kernel
theorem dX0_depthOf_13 : decode cX0_depthOf 13 = .ok (.invokestatic 46, 3) := by decide +kernel
theorem dX0_depthOf_16 : decode cX0_depthOf 16 = .ok (.ifCond .ne 9, 3) := by decide +kernel
theorem dX0_depthOf_19 : decode cX0_depthOf 19 = .ok (.iinc 2 (-1), 3) := by decide +kernel
theorem dX0_depthOf_22 : decode cX0_depthOf 22 = .ok (.goto (-17), 3) := by decide +kernel
theorem dX0_depthOf_25 : decode cX0_depthOf 25 = .ok (.iload_n 2, 1) := by decide +kernel
theorem dX0_depthOf_26 : decode cX0_depthOf 26 = .ok (.ireturn, 1) := by decide +kernel
set_option maxRecDepth 20000 in
theorem ggX0_tailsThatMeet_X0_has : GoodIn wsX0_tailsThatMeet wsX0_has := goodIn_r _ [6] (by decide +kernel) (by decide +kernel)
set_option maxRecDepth 20000 in
theorem gX0_tailsThatMeet_X0_has : GoodIn wsX0_tailsThatMeet (va_wsS RX0 46 yX0_has wsX0_has) := goodIn_app (goodIn_of _ (by decide +kernel)) ggX0_tailsThatMeet_X0_has
theorem dX0_tailsThatMeet_0 : decode cX0_tailsThatMeet 0 = .ok (.lconst 0, 1) := by decide +kernel
theorem dX0_tailsThatMeet_1 : decode cX0_tailsThatMeet 1 = .ok (.lstore_n 2, 1) := by decide +kernel
theorem dX0_tailsThatMeet_2 : decode cX0_tailsThatMeet 2 = .ok (.iconst 0, 1) := by decide +kernel
theorem dX0_tailsThatMeet_3 : decode cX0_tailsThatMeet 3 = .ok (.istore 4, 2) := by decide +kernel
theorem dX0_tailsThatMeet_5 : decode cX0_tailsThatMeet 5 = .ok (.iload 4, 2) := by decide +kernel
theorem dX0_tailsThatMeet_7 : decode cX0_tailsThatMeet 7 = .ok (.bipush 6, 2) := by decide +kernel
theorem dX0_tailsThatMeet_9 : decode cX0_tailsThatMeet 9 = .ok (.if_icmp .ge 49, 3) := by decide +kernel
theorem dX0_tailsThatMeet_12 : decode cX0_tailsThatMeet 12 = .ok (.iload_n 0, 1) := by decide +kernel
theorem dX0_tailsThatMeet_13 : decode cX0_tailsThatMeet 13 = .ok (.iload 4, 2) := by decide +kernel
theorem dX0_tailsThatMeet_15 : decode cX0_tailsThatMeet 15 = .ok (.invokestatic 46, 3) := by decide +kernel
theorem dX0_tailsThatMeet_18 : decode cX0_tailsThatMeet 18 = .ok (.ifCond .eq 12, 3) := by decide +kernel
theorem dX0_tailsThatMeet_21 : decode cX0_tailsThatMeet 21 = .ok (.lload_n 2, 1) := by decide +kernel
theorem dX0_tailsThatMeet_22 : decode cX0_tailsThatMeet 22 = .ok (.getstatic 85, 3) := by decide +kernel
theorem dX0_tailsThatMeet_25 : decode cX0_tailsThatMeet 25 = .ok (.iload 4, 2) := by decide +kernel
theorem dX0_tailsThatMeet_27 : decode cX0_tailsThatMeet 27 = .ok (.laload, 1) := by decide +kernel
theorem dX0_tailsThatMeet_28 : decode cX0_tailsThatMeet 28 = .ok (.lor, 1) := by decide +kernel
theorem dX0_tailsThatMeet_29 : decode cX0_tailsThatMeet 29 = .ok (.lstore_n 2, 1) := by decide +kernel
theorem dX0_tailsThatMeet_30 : decode cX0_tailsThatMeet 30 = .ok (.iload_n 1, 1) := by decide +kernel
theorem dX0_tailsThatMeet_31 : decode cX0_tailsThatMeet 31 = .ok (.iload 4, 2) := by decide +kernel
theorem dX0_tailsThatMeet_33 : decode cX0_tailsThatMeet 33 = .ok (.invokestatic 46, 3) := by decide +kernel
theorem dX0_tailsThatMeet_36 : decode cX0_tailsThatMeet 36 = .ok (.ifCond .eq 16, 3) := by decide +kernel
theorem dX0_tailsThatMeet_39 : decode cX0_tailsThatMeet 39 = .ok (.lload_n 2, 1) := by decide +kernel
theorem dX0_tailsThatMeet_40 : decode cX0_tailsThatMeet 40 = .ok (.getstatic 85, 3) := by decide +kernel
theorem dX0_tailsThatMeet_43 : decode cX0_tailsThatMeet 43 = .ok (.iload 4, 2) := by decide +kernel
theorem dX0_tailsThatMeet_45 : decode cX0_tailsThatMeet 45 = .ok (.laload, 1) := by decide +kernel
theorem dX0_tailsThatMeet_46 : decode cX0_tailsThatMeet 46 = .ok (.ldc2_w 88, 3) := by decide +kernel
theorem dX0_tailsThatMeet_49 : decode cX0_tailsThatMeet 49 = .ok (.lxor, 1) := by decide +kernel
theorem dX0_tailsThatMeet_50 : decode cX0_tailsThatMeet 50 = .ok (.lor, 1) := by decide +kernel
theorem dX0_tailsThatMeet_51 : decode cX0_tailsThatMeet 51 = .ok (.lstore_n 2, 1) := by decide +kernel
theorem dX0_tailsThatMeet_52 : decode cX0_tailsThatMeet 52 = .ok (.iinc 4 1, 3) := by decide +kernel
theorem dX0_tailsThatMeet_55 : decode cX0_tailsThatMeet 55 = .ok (.goto (-50), 3) := by decide +kernel
theorem dX0_tailsThatMeet_58 : decode cX0_tailsThatMeet 58 = .ok (.lload_n 2, 1) := by decide +kernel
theorem dX0_tailsThatMeet_59 : decode cX0_tailsThatMeet 59 = .ok (.lreturn, 1) := by decide +kernel
set_option maxRecDepth 20000 in
theorem ggX0_firstAnswer_X0_firstBelow : GoodIn wsX0_firstAnswer wsX0_firstBelow := goodIn_r _ [6, 7, 8, 9, 10, 5, 11, 12, 13, 14, 15, 16, 17, 18, 19, 20, 21, 22, 23, 24, 25, 1, 26, 27, 28, 29, 30, 31, 32, 33, 2, 3, 4, 34, 35, 36, 37, 38, 39, 40, 41, 42, 43] (by decide +kernel) (by decide +kernel)
set_option maxRecDepth 20000 in
theorem gX0_firstAnswer_X0_firstBelow : GoodIn wsX0_firstAnswer (wsV RX0 90 RX0 yX0_firstBelow wsX0_firstBelow) := goodIn_app (goodIn_of _ (by decide +kernel)) ggX0_firstAnswer_X0_firstBelow
theorem dX0_firstAnswer_0 : decode cX0_firstAnswer 0 = .ok (.aload_n 0, 1) := by decide +kernel
theorem dX0_firstAnswer_1 : decode cX0_firstAnswer 1 = .ok (.iconst 0, 1) := by decide +kernel
theorem dX0_firstAnswer_2 : decode cX0_firstAnswer 2 = .ok (.iconst 0, 1) := by decide +kernel
theorem dX0_firstAnswer_3 : decode cX0_firstAnswer 3 = .ok (.ldc2_w 88, 3) := by decide +kernel
theorem dX0_firstAnswer_6 : decode cX0_firstAnswer 6 = .ok (.invokevirtual 90, 3) := by decide +kernel
theorem dX0_firstAnswer_9 : decode cX0_firstAnswer 9 = .ok (.ireturn, 1) := by decide +kernel
set_option maxRecDepth 20000 in
theorem ggX0_firstBelow_X0_narrowed : GoodIn wsX0_firstBelow wsX0_narrowed := goodIn_r _ [6, 7, 8, 9, 10, 11, 12, 5, 13, 14, 15, 33, 34, 35, 36, 37, 38, 39, 40, 41, 42] (by decide +kernel) (by decide +kernel)
set_option maxRecDepth 20000 in
theorem gX0_firstBelow_X0_narrowed : GoodIn wsX0_firstBelow (wsV RX0 94 RX0 yX0_narrowed wsX0_narrowed) := goodIn_app (goodIn_of _ (by decide +kernel)) ggX0_firstBelow_X0_narrowed
set_option maxRecDepth 20000 in
theorem ggX0_firstBelow_X0_firstTail : GoodIn wsX0_firstBelow wsX0_firstTail := goodIn_r _ [19, 20, 21, 22, 1, 23, 24, 5, 25, 33, 34, 35, 36, 37, 38, 39, 40, 41, 42] (by decide +kernel) (by decide +kernel)
set_option maxRecDepth 20000 in
theorem gX0_firstBelow_X0_firstTail : GoodIn wsX0_firstBelow (wsV RX0 98 RX0 yX0_firstTail wsX0_firstTail) := goodIn_app (goodIn_of _ (by decide +kernel)) ggX0_firstBelow_X0_firstTail
set_option maxRecDepth 20000 in
theorem ggX0_firstBelow_X0_firstOfBoth : GoodIn wsX0_firstBelow wsX0_firstOfBoth := goodIn_r _ [29, 22, 30, 31, 32, 5, 0, 1, 2, 3, 4, 6, 7, 8, 9, 10, 11, 12, 13, 14, 15, 16, 17, 18, 19, 20, 21, 23, 24, 25, 26, 27, 28, 33, 34, 35, 36, 37, 38, 39, 40, 41, 42] (by decide +kernel) (by decide +kernel)
set_option maxRecDepth 20000 in
theorem gX0_firstBelow_X0_firstOfBoth : GoodIn wsX0_firstBelow (wsV RX0 102 RX0 yX0_firstOfBoth wsX0_firstOfBoth) := goodIn_app (goodIn_of _ (by decide +kernel)) ggX0_firstBelow_X0_firstOfBoth
theorem dX0_firstBelow_0 : decode cX0_firstBelow 0 = .ok (.aload_n 0, 1) := by decide +kernel
theorem dX0_firstBelow_1 : decode cX0_firstBelow 1 = .ok (.iload_n 1, 1) := by decide +kernel
theorem dX0_firstBelow_2 : decode cX0_firstBelow 2 = .ok (.iload_n 2, 1) := by decide +kernel
theorem dX0_firstBelow_3 : decode cX0_firstBelow 3 = .ok (.lload_n 3, 1) := by decide +kernel
theorem dX0_firstBelow_4 : decode cX0_firstBelow 4 = .ok (.invokevirtual 94, 3) := by decide +kernel
theorem dX0_firstBelow_7 : decode cX0_firstBelow 7 = .ok (.lstore 5, 2) := by decide +kernel
theorem dX0_firstBelow_9 : decode cX0_firstBelow 9 = .ok (.lload 5, 2) := by decide +kernel
theorem dX0_firstBelow_11 : decode cX0_firstBelow 11 = .ok (.lconst 0, 1) := by decide +kernel
theorem dX0_firstBelow_12 : decode cX0_firstBelow 12 = .ok (.lcmp, 1) := by decide +kernel
theorem dX0_firstBelow_13 : decode cX0_firstBelow 13 = .ok (.ifCond .ne 6, 3) := by decide +kernel
theorem dX0_firstBelow_16 : decode cX0_firstBelow 16 = .ok (.bipush (-2), 2) := by decide +kernel
theorem dX0_firstBelow_18 : decode cX0_firstBelow 18 = .ok (.ireturn, 1) := by decide +kernel
theorem dX0_firstBelow_19 : decode cX0_firstBelow 19 = .ok (.iload_n 1, 1) := by decide +kernel
theorem dX0_firstBelow_20 : decode cX0_firstBelow 20 = .ok (.aload_n 0, 1) := by decide +kernel
theorem dX0_firstBelow_21 : decode cX0_firstBelow 21 = .ok (.getfield 22, 3) := by decide +kernel
theorem dX0_firstBelow_24 : decode cX0_firstBelow 24 = .ok (.if_icmp .lt 17, 3) := by decide +kernel
theorem dX0_firstBelow_27 : decode cX0_firstBelow 27 = .ok (.iload_n 2, 1) := by decide +kernel
theorem dX0_firstBelow_28 : decode cX0_firstBelow 28 = .ok (.aload_n 0, 1) := by decide +kernel
theorem dX0_firstBelow_29 : decode cX0_firstBelow 29 = .ok (.lload 5, 2) := by decide +kernel
theorem dX0_firstBelow_31 : decode cX0_firstBelow 31 = .ok (.invokevirtual 98, 3) := by decide +kernel
theorem dX0_firstBelow_34 : decode cX0_firstBelow 34 = .ok (.aload_n 0, 1) := by decide +kernel
theorem dX0_firstBelow_35 : decode cX0_firstBelow 35 = .ok (.getfield 22, 3) := by decide +kernel
theorem dX0_firstBelow_38 : decode cX0_firstBelow 38 = .ok (.ishl, 1) := by decide +kernel
theorem dX0_firstBelow_39 : decode cX0_firstBelow 39 = .ok (.ior, 1) := by decide +kernel
theorem dX0_firstBelow_40 : decode cX0_firstBelow 40 = .ok (.ireturn, 1) := by decide +kernel
theorem dX0_firstBelow_41 : decode cX0_firstBelow 41 = .ok (.aload_n 0, 1) := by decide +kernel
theorem dX0_firstBelow_42 : decode cX0_firstBelow 42 = .ok (.iload_n 1, 1) := by decide +kernel
theorem dX0_firstBelow_43 : decode cX0_firstBelow 43 = .ok (.iload_n 2, 1) := by decide +kernel
theorem dX0_firstBelow_44 : decode cX0_firstBelow 44 = .ok (.lload 5, 2) := by decide +kernel
theorem dX0_firstBelow_46 : decode cX0_firstBelow 46 = .ok (.invokevirtual 102, 3) := by decide +kernel
theorem dX0_firstBelow_49 : decode cX0_firstBelow 49 = .ok (.ireturn, 1) := by decide +kernel
set_option maxRecDepth 20000 in
theorem ggX0_firstOfBoth_X0_firstBelow : GoodIn wsX0_firstOfBoth wsX0_firstBelow := goodIn_r _ [6, 7, 8, 9, 10, 5, 11, 12, 13, 14, 15, 16, 17, 18, 19, 20, 21, 22, 23, 24, 25, 26, 1, 27, 28, 29, 30, 31, 32, 0, 2, 3, 4, 33, 34, 35, 36, 37, 38, 39, 40, 41, 42] (by decide +kernel) (by decide +kernel)
set_option maxRecDepth 20000 in
theorem gX0_firstOfBoth_X0_firstBelow : GoodIn wsX0_firstOfBoth (wsV RX0 90 RX0 yX0_firstBelow wsX0_firstBelow) := goodIn_app (goodIn_of _ (by decide +kernel)) ggX0_firstOfBoth_X0_firstBelow
theorem dX0_firstOfBoth_0 : decode cX0_firstOfBoth 0 = .ok (.aload_n 0, 1) := by decide +kernel
theorem dX0_firstOfBoth_1 : decode cX0_firstOfBoth 1 = .ok (.getfield 43, 3) := by decide +kernel
theorem dX0_firstOfBoth_4 : decode cX0_firstOfBoth 4 = .ok (.iconst 1, 1) := by decide +kernel
theorem dX0_firstOfBoth_5 : decode cX0_firstOfBoth 5 = .ok (.iload_n 1, 1) := by decide +kernel
theorem dX0_firstOfBoth_6 : decode cX0_firstOfBoth 6 = .ok (.ishl, 1) := by decide +kernel
theorem dX0_firstOfBoth_7 : decode cX0_firstOfBoth 7 = .ok (.iand, 1) := by decide +kernel
theorem dX0_firstOfBoth_8 : decode cX0_firstOfBoth 8 = .ok (.istore 5, 2) := by decide +kernel
theorem dX0_firstOfBoth_10 : decode cX0_firstOfBoth 10 = .ok (.aload_n 0, 1) := by decide +kernel
theorem dX0_firstOfBoth_11 : decode cX0_firstOfBoth 11 = .ok (.iload_n 1, 1) := by decide +kernel
theorem dX0_firstOfBoth_12 : decode cX0_firstOfBoth 12 = .ok (.iconst 1, 1) := by decide +kernel
theorem dX0_firstOfBoth_13 : decode cX0_firstOfBoth 13 = .ok (.iadd, 1) := by decide +kernel
theorem dX0_firstOfBoth_14 : decode cX0_firstOfBoth 14 = .ok (.iload_n 2, 1) := by decide +kernel
theorem dX0_firstOfBoth_15 : decode cX0_firstOfBoth 15 = .ok (.iload 5, 2) := by decide +kernel
theorem dX0_firstOfBoth_17 : decode cX0_firstOfBoth 17 = .ok (.ior, 1) := by decide +kernel
theorem dX0_firstOfBoth_18 : decode cX0_firstOfBoth 18 = .ok (.lload_n 3, 1) := by decide +kernel
theorem dX0_firstOfBoth_19 : decode cX0_firstOfBoth 19 = .ok (.invokevirtual 90, 3) := by decide +kernel
theorem dX0_firstOfBoth_22 : decode cX0_firstOfBoth 22 = .ok (.istore 6, 2) := by decide +kernel
theorem dX0_firstOfBoth_24 : decode cX0_firstOfBoth 24 = .ok (.iload 6, 2) := by decide +kernel
theorem dX0_firstOfBoth_26 : decode cX0_firstOfBoth 26 = .ok (.bipush (-2), 2) := by decide +kernel
theorem dX0_firstOfBoth_28 : decode cX0_firstOfBoth 28 = .ok (.if_icmp .eq 6, 3) := by decide +kernel
theorem dX0_firstOfBoth_31 : decode cX0_firstOfBoth 31 = .ok (.iload 6, 2) := by decide +kernel
theorem dX0_firstOfBoth_33 : decode cX0_firstOfBoth 33 = .ok (.ireturn, 1) := by decide +kernel
theorem dX0_firstOfBoth_34 : decode cX0_firstOfBoth 34 = .ok (.iload 5, 2) := by decide +kernel
theorem dX0_firstOfBoth_36 : decode cX0_firstOfBoth 36 = .ok (.iconst 1, 1) := by decide +kernel
theorem dX0_firstOfBoth_37 : decode cX0_firstOfBoth 37 = .ok (.iload_n 1, 1) := by decide +kernel
theorem dX0_firstOfBoth_38 : decode cX0_firstOfBoth 38 = .ok (.ishl, 1) := by decide +kernel
theorem dX0_firstOfBoth_39 : decode cX0_firstOfBoth 39 = .ok (.ixor, 1) := by decide +kernel
theorem dX0_firstOfBoth_40 : decode cX0_firstOfBoth 40 = .ok (.istore 7, 2) := by decide +kernel
theorem dX0_firstOfBoth_42 : decode cX0_firstOfBoth 42 = .ok (.aload_n 0, 1) := by decide +kernel
theorem dX0_firstOfBoth_43 : decode cX0_firstOfBoth 43 = .ok (.iload_n 1, 1) := by decide +kernel
theorem dX0_firstOfBoth_44 : decode cX0_firstOfBoth 44 = .ok (.iconst 1, 1) := by decide +kernel
theorem dX0_firstOfBoth_45 : decode cX0_firstOfBoth 45 = .ok (.iadd, 1) := by decide +kernel
theorem dX0_firstOfBoth_46 : decode cX0_firstOfBoth 46 = .ok (.iload_n 2, 1) := by decide +kernel
theorem dX0_firstOfBoth_47 : decode cX0_firstOfBoth 47 = .ok (.iload 7, 2) := by decide +kernel
theorem dX0_firstOfBoth_49 : decode cX0_firstOfBoth 49 = .ok (.ior, 1) := by decide +kernel
theorem dX0_firstOfBoth_50 : decode cX0_firstOfBoth 50 = .ok (.lload_n 3, 1) := by decide +kernel
theorem dX0_firstOfBoth_51 : decode cX0_firstOfBoth 51 = .ok (.invokevirtual 90, 3) := by decide +kernel
theorem dX0_firstOfBoth_54 : decode cX0_firstOfBoth 54 = .ok (.ireturn, 1) := by decide +kernel
set_option maxRecDepth 20000 in
theorem ggX0_narrowed_X0_headMeets : GoodIn wsX0_narrowed wsX0_headMeets := goodIn_r _ [8, 9, 10, 11, 12, 13, 14, 15, 16, 17, 18, 19, 20] (by decide +kernel) (by decide +kernel)
set_option maxRecDepth 20000 in
theorem gX0_narrowed_X0_headMeets : GoodIn wsX0_narrowed (wsV RX0 105 RX0 yX0_headMeets wsX0_headMeets) := goodIn_app (goodIn_of _ (by decide +kernel)) ggX0_narrowed_X0_headMeets
theorem dX0_narrowed_0 : decode cX0_narrowed 0 = .ok (.lload_n 3, 1) := by decide +kernel
theorem dX0_narrowed_1 : decode cX0_narrowed 1 = .ok (.lstore 5, 2) := by decide +kernel
theorem dX0_narrowed_3 : decode cX0_narrowed 3 = .ok (.iconst 0, 1) := by decide +kernel
theorem dX0_narrowed_4 : decode cX0_narrowed 4 = .ok (.istore 7, 2) := by decide +kernel
theorem dX0_narrowed_6 : decode cX0_narrowed 6 = .ok (.iload 7, 2) := by decide +kernel
theorem dX0_narrowed_8 : decode cX0_narrowed 8 = .ok (.aload_n 0, 1) := by decide +kernel
theorem dX0_narrowed_9 : decode cX0_narrowed 9 = .ok (.getfield 67, 3) := by decide +kernel
theorem dX0_narrowed_12 : decode cX0_narrowed 12 = .ok (.if_icmp .ge 49, 3) := by decide +kernel
theorem dX0_narrowed_15 : decode cX0_narrowed 15 = .ok (.lload 5, 2) := by decide +kernel
theorem dX0_narrowed_17 : decode cX0_narrowed 17 = .ok (.lconst 0, 1) := by decide +kernel
theorem dX0_narrowed_18 : decode cX0_narrowed 18 = .ok (.lcmp, 1) := by decide +kernel
theorem dX0_narrowed_19 : decode cX0_narrowed 19 = .ok (.ifCond .eq 42, 3) := by decide +kernel
theorem dX0_narrowed_22 : decode cX0_narrowed 22 = .ok (.aload_n 0, 1) := by decide +kernel
theorem dX0_narrowed_23 : decode cX0_narrowed 23 = .ok (.getfield 32, 3) := by decide +kernel
theorem dX0_narrowed_26 : decode cX0_narrowed 26 = .ok (.iload 7, 2) := by decide +kernel
theorem dX0_narrowed_28 : decode cX0_narrowed 28 = .ok (.iaload, 1) := by decide +kernel
theorem dX0_narrowed_29 : decode cX0_narrowed 29 = .ok (.iload_n 1, 1) := by decide +kernel
theorem dX0_narrowed_30 : decode cX0_narrowed 30 = .ok (.if_icmp .ne 25, 3) := by decide +kernel
theorem dX0_narrowed_33 : decode cX0_narrowed 33 = .ok (.aload_n 0, 1) := by decide +kernel
theorem dX0_narrowed_34 : decode cX0_narrowed 34 = .ok (.iload 7, 2) := by decide +kernel
theorem dX0_narrowed_36 : decode cX0_narrowed 36 = .ok (.iload_n 2, 1) := by decide +kernel
theorem dX0_narrowed_37 : decode cX0_narrowed 37 = .ok (.invokevirtual 105, 3) := by decide +kernel
theorem dX0_narrowed_40 : decode cX0_narrowed 40 = .ok (.ifCond .ne 15, 3) := by decide +kernel
theorem dX0_narrowed_43 : decode cX0_narrowed 43 = .ok (.lload 5, 2) := by decide +kernel
theorem dX0_narrowed_45 : decode cX0_narrowed 45 = .ok (.aload_n 0, 1) := by decide +kernel
theorem dX0_narrowed_46 : decode cX0_narrowed 46 = .ok (.getfield 35, 3) := by decide +kernel
theorem dX0_narrowed_49 : decode cX0_narrowed 49 = .ok (.iload 7, 2) := by decide +kernel
theorem dX0_narrowed_51 : decode cX0_narrowed 51 = .ok (.laload, 1) := by decide +kernel
theorem dX0_narrowed_52 : decode cX0_narrowed 52 = .ok (.land, 1) := by decide +kernel
theorem dX0_narrowed_53 : decode cX0_narrowed 53 = .ok (.lstore 5, 2) := by decide +kernel
theorem dX0_narrowed_55 : decode cX0_narrowed 55 = .ok (.iinc 7 1, 3) := by decide +kernel
theorem dX0_narrowed_58 : decode cX0_narrowed 58 = .ok (.goto (-52), 3) := by decide +kernel
theorem dX0_narrowed_61 : decode cX0_narrowed 61 = .ok (.lload 5, 2) := by decide +kernel
theorem dX0_narrowed_63 : decode cX0_narrowed 63 = .ok (.lreturn, 1) := by decide +kernel
theorem dX0_headMeets_0 : decode cX0_headMeets 0 = .ok (.aload_n 0, 1) := by decide +kernel
theorem dX0_headMeets_1 : decode cX0_headMeets 1 = .ok (.getfield 25, 3) := by decide +kernel
theorem dX0_headMeets_4 : decode cX0_headMeets 4 = .ok (.iload_n 1, 1) := by decide +kernel
theorem dX0_headMeets_5 : decode cX0_headMeets 5 = .ok (.iaload, 1) := by decide +kernel
theorem dX0_headMeets_6 : decode cX0_headMeets 6 = .ok (.iload_n 2, 1) := by decide +kernel
theorem dX0_headMeets_7 : decode cX0_headMeets 7 = .ok (.iand, 1) := by decide +kernel
theorem dX0_headMeets_8 : decode cX0_headMeets 8 = .ok (.aload_n 0, 1) := by decide +kernel
theorem dX0_headMeets_9 : decode cX0_headMeets 9 = .ok (.getfield 29, 3) := by decide +kernel
theorem dX0_headMeets_12 : decode cX0_headMeets 12 = .ok (.iload_n 1, 1) := by decide +kernel
theorem dX0_headMeets_13 : decode cX0_headMeets 13 = .ok (.iaload, 1) := by decide +kernel
theorem dX0_headMeets_14 : decode cX0_headMeets 14 = .ok (.iload_n 2, 1) := by decide +kernel
theorem dX0_headMeets_15 : decode cX0_headMeets 15 = .ok (.iconst (-1), 1) := by decide +kernel
theorem dX0_headMeets_16 : decode cX0_headMeets 16 = .ok (.ixor, 1) := by decide +kernel
theorem dX0_headMeets_17 : decode cX0_headMeets 17 = .ok (.iand, 1) := by decide +kernel
theorem dX0_headMeets_18 : decode cX0_headMeets 18 = .ok (.ior, 1) := by decide +kernel
theorem dX0_headMeets_19 : decode cX0_headMeets 19 = .ok (.ifCond .eq 7, 3) := by decide +kernel
theorem dX0_headMeets_22 : decode cX0_headMeets 22 = .ok (.iconst 1, 1) := by decide +kernel
theorem dX0_headMeets_23 : decode cX0_headMeets 23 = .ok (.goto 4, 3) := by decide +kernel
theorem dX0_headMeets_26 : decode cX0_headMeets 26 = .ok (.iconst 0, 1) := by decide +kernel
theorem dX0_headMeets_27 : decode cX0_headMeets 27 = .ok (.ireturn, 1) := by decide +kernel
set_option maxRecDepth 20000 in
theorem ggX0_firstTail_X0_has : GoodIn wsX0_firstTail wsX0_has := goodIn_r _ [8] (by decide +kernel) (by decide +kernel)
set_option maxRecDepth 20000 in
theorem gX0_firstTail_X0_has : GoodIn wsX0_firstTail (va_wsS RX0 46 yX0_has wsX0_has) := goodIn_app (goodIn_of _ (by decide +kernel)) ggX0_firstTail_X0_has
theorem dX0_firstTail_0 : decode cX0_firstTail 0 = .ok (.lload_n 1, 1) := by decide +kernel
theorem dX0_firstTail_1 : decode cX0_firstTail 1 = .ok (.lstore_n 3, 1) := by decide +kernel
theorem dX0_firstTail_2 : decode cX0_firstTail 2 = .ok (.iconst 0, 1) := by decide +kernel
theorem dX0_firstTail_3 : decode cX0_firstTail 3 = .ok (.istore 5, 2) := by decide +kernel
theorem dX0_firstTail_5 : decode cX0_firstTail 5 = .ok (.iconst 0, 1) := by decide +kernel
theorem dX0_firstTail_6 : decode cX0_firstTail 6 = .ok (.istore 6, 2) := by decide +kernel
theorem dX0_firstTail_8 : decode cX0_firstTail 8 = .ok (.iload 6, 2) := by decide +kernel
theorem dX0_firstTail_10 : decode cX0_firstTail 10 = .ok (.bipush 6, 2) := by decide +kernel
theorem dX0_firstTail_12 : decode cX0_firstTail 12 = .ok (.if_icmp .ge 114, 3) := by decide +kernel
theorem dX0_firstTail_15 : decode cX0_firstTail 15 = .ok (.lload_n 3, 1) := by decide +kernel
theorem dX0_firstTail_16 : decode cX0_firstTail 16 = .ok (.getstatic 85, 3) := by decide +kernel
theorem dX0_firstTail_19 : decode cX0_firstTail 19 = .ok (.iload 6, 2) := by decide +kernel
theorem dX0_firstTail_21 : decode cX0_firstTail 21 = .ok (.laload, 1) := by decide +kernel
theorem dX0_firstTail_22 : decode cX0_firstTail 22 = .ok (.land, 1) := by decide +kernel
theorem dX0_firstTail_23 : decode cX0_firstTail 23 = .ok (.lstore 7, 2) := by decide +kernel
theorem dX0_firstTail_25 : decode cX0_firstTail 25 = .ok (.lload_n 3, 1) := by decide +kernel
theorem dX0_firstTail_26 : decode cX0_firstTail 26 = .ok (.getstatic 85, 3) := by decide +kernel
theorem dX0_firstTail_29 : decode cX0_firstTail 29 = .ok (.iload 6, 2) := by decide +kernel
theorem dX0_firstTail_31 : decode cX0_firstTail 31 = .ok (.laload, 1) := by decide +kernel
theorem dX0_firstTail_32 : decode cX0_firstTail 32 = .ok (.ldc2_w 88, 3) := by decide +kernel
theorem dX0_firstTail_35 : decode cX0_firstTail 35 = .ok (.lxor, 1) := by decide +kernel
theorem dX0_firstTail_36 : decode cX0_firstTail 36 = .ok (.land, 1) := by decide +kernel
theorem dX0_firstTail_37 : decode cX0_firstTail 37 = .ok (.lstore 9, 2) := by decide +kernel
theorem dX0_firstTail_39 : decode cX0_firstTail 39 = .ok (.aload_n 0, 1) := by decide +kernel
theorem dX0_firstTail_40 : decode cX0_firstTail 40 = .ok (.getfield 43, 3) := by decide +kernel
theorem dX0_firstTail_43 : decode cX0_firstTail 43 = .ok (.aload_n 0, 1) := by decide +kernel
theorem dX0_firstTail_44 : decode cX0_firstTail 44 = .ok (.getfield 22, 3) := by decide +kernel
theorem dX0_firstTail_47 : decode cX0_firstTail 47 = .ok (.iload 6, 2) := by decide +kernel
theorem dX0_firstTail_49 : decode cX0_firstTail 49 = .ok (.iadd, 1) := by decide +kernel
theorem dX0_firstTail_50 : decode cX0_firstTail 50 = .ok (.invokestatic 46, 3) := by decide +kernel
theorem dX0_firstTail_53 : decode cX0_firstTail 53 = .ok (.istore 11, 2) := by decide +kernel
theorem dX0_firstTail_55 : decode cX0_firstTail 55 = .ok (.iload 11, 2) := by decide +kernel
theorem dX0_firstTail_57 : decode cX0_firstTail 57 = .ok (.ifCond .eq 18, 3) := by decide +kernel
theorem dX0_firstTail_60 : decode cX0_firstTail 60 = .ok (.lload 7, 2) := by decide +kernel
theorem dX0_firstTail_62 : decode cX0_firstTail 62 = .ok (.lconst 0, 1) := by decide +kernel
theorem dX0_firstTail_63 : decode cX0_firstTail 63 = .ok (.lcmp, 1) := by decide +kernel
theorem dX0_firstTail_64 : decode cX0_firstTail 64 = .ok (.ifCond .eq 7, 3) := by decide +kernel
theorem dX0_firstTail_67 : decode cX0_firstTail 67 = .ok (.iconst 1, 1) := by decide +kernel
theorem dX0_firstTail_68 : decode cX0_firstTail 68 = .ok (.goto 19, 3) := by decide +kernel
theorem dX0_firstTail_71 : decode cX0_firstTail 71 = .ok (.iconst 0, 1) := by decide +kernel
theorem dX0_firstTail_72 : decode cX0_firstTail 72 = .ok (.goto 15, 3) := by decide +kernel
theorem dX0_firstTail_75 : decode cX0_firstTail 75 = .ok (.lload 9, 2) := by decide +kernel
theorem dX0_firstTail_77 : decode cX0_firstTail 77 = .ok (.lconst 0, 1) := by decide +kernel
theorem dX0_firstTail_78 : decode cX0_firstTail 78 = .ok (.lcmp, 1) := by decide +kernel
theorem dX0_firstTail_79 : decode cX0_firstTail 79 = .ok (.ifCond .ne 7, 3) := by decide +kernel
theorem dX0_firstTail_82 : decode cX0_firstTail 82 = .ok (.iconst 1, 1) := by decide +kernel
theorem dX0_firstTail_83 : decode cX0_firstTail 83 = .ok (.goto 4, 3) := by decide +kernel
theorem dX0_firstTail_86 : decode cX0_firstTail 86 = .ok (.iconst 0, 1) := by decide +kernel
theorem dX0_firstTail_87 : decode cX0_firstTail 87 = .ok (.istore 12, 2) := by decide +kernel
theorem dX0_firstTail_89 : decode cX0_firstTail 89 = .ok (.iload 12, 2) := by decide +kernel
theorem dX0_firstTail_91 : decode cX0_firstTail 91 = .ok (.ifCond .eq 8, 3) := by decide +kernel
theorem dX0_firstTail_94 : decode cX0_firstTail 94 = .ok (.lload 7, 2) := by decide +kernel
theorem dX0_firstTail_96 : decode cX0_firstTail 96 = .ok (.goto 5, 3) := by decide +kernel
theorem dX0_firstTail_99 : decode cX0_firstTail 99 = .ok (.lload 9, 2) := by decide +kernel
theorem dX0_firstTail_101 : decode cX0_firstTail 101 = .ok (.lstore_n 3, 1) := by decide +kernel
theorem dX0_firstTail_102 : decode cX0_firstTail 102 = .ok (.iload 5, 2) := by decide +kernel
theorem dX0_firstTail_104 : decode cX0_firstTail 104 = .ok (.iload 12, 2) := by decide +kernel
theorem dX0_firstTail_106 : decode cX0_firstTail 106 = .ok (.ifCond .eq 10, 3) := by decide +kernel
theorem dX0_firstTail_109 : decode cX0_firstTail 109 = .ok (.iconst 1, 1) := by decide +kernel
theorem dX0_firstTail_110 : decode cX0_firstTail 110 = .ok (.iload 6, 2) := by decide +kernel
theorem dX0_firstTail_112 : decode cX0_firstTail 112 = .ok (.ishl, 1) := by decide +kernel
theorem dX0_firstTail_113 : decode cX0_firstTail 113 = .ok (.goto 4, 3) := by decide +kernel
theorem dX0_firstTail_116 : decode cX0_firstTail 116 = .ok (.iconst 0, 1) := by decide +kernel
theorem dX0_firstTail_117 : decode cX0_firstTail 117 = .ok (.ior, 1) := by decide +kernel
theorem dX0_firstTail_118 : decode cX0_firstTail 118 = .ok (.istore 5, 2) := by decide +kernel
theorem dX0_firstTail_120 : decode cX0_firstTail 120 = .ok (.iinc 6 1, 3) := by decide +kernel
theorem dX0_firstTail_123 : decode cX0_firstTail 123 = .ok (.goto (-115), 3) := by decide +kernel
theorem dX0_firstTail_126 : decode cX0_firstTail 126 = .ok (.iload 5, 2) := by decide +kernel
theorem dX0_firstTail_128 : decode cX0_firstTail 128 = .ok (.ireturn, 1) := by decide +kernel
theorem dX1_init_0 : decode cX1_init 0 = .ok (.aload_n 0, 1) := by decide +kernel
theorem dX1_init_1 : decode cX1_init 1 = .ok (.invokespecial 1, 3) := by decide +kernel
theorem dX1_init_4 : decode cX1_init 4 = .ok (.aload_n 0, 1) := by decide +kernel
theorem dX1_init_5 : decode cX1_init 5 = .ok (.bipush 16, 2) := by decide +kernel
theorem dX1_init_7 : decode cX1_init 7 = .ok (.newarray .boolean, 2) := by decide +kernel
theorem dX1_init_9 : decode cX1_init 9 = .ok (.putfield 7, 3) := by decide +kernel
theorem dX1_init_12 : decode cX1_init 12 = .ok (.aload_n 0, 1) := by decide +kernel
theorem dX1_init_13 : decode cX1_init 13 = .ok (.sipush 400, 3) := by decide +kernel
theorem dX1_init_16 : decode cX1_init 16 = .ok (.newarray .int, 2) := by decide +kernel
theorem dX1_init_18 : decode cX1_init 18 = .ok (.putfield 13, 3) := by decide +kernel
theorem dX1_init_21 : decode cX1_init 21 = .ok (.aload_n 0, 1) := by decide +kernel
theorem dX1_init_22 : decode cX1_init 22 = .ok (.sipush 400, 3) := by decide +kernel
theorem dX1_init_25 : decode cX1_init 25 = .ok (.newarray .int, 2) := by decide +kernel
theorem dX1_init_27 : decode cX1_init 27 = .ok (.putfield 17, 3) := by decide +kernel
theorem dX1_init_30 : decode cX1_init 30 = .ok (.aload_n 0, 1) := by decide +kernel
theorem dX1_init_31 : decode cX1_init 31 = .ok (.iload_n 1, 1) := by decide +kernel
theorem dX1_init_32 : decode cX1_init 32 = .ok (.iconst 1, 1) := by decide +kernel
theorem dX1_init_33 : decode cX1_init 33 = .ok (.if_icmp .ge 7, 3) := by decide +kernel
theorem dX1_init_36 : decode cX1_init 36 = .ok (.iconst 1, 1) := by decide +kernel
theorem dX1_init_37 : decode cX1_init 37 = .ok (.goto 15, 3) := by decide +kernel
theorem dX1_init_40 : decode cX1_init 40 = .ok (.iload_n 1, 1) := by decide +kernel
theorem dX1_init_41 : decode cX1_init 41 = .ok (.bipush 16, 2) := by decide +kernel
theorem dX1_init_43 : decode cX1_init 43 = .ok (.if_icmp .le 8, 3) := by decide +kernel
theorem dX1_init_46 : decode cX1_init 46 = .ok (.bipush 16, 2) := by decide +kernel
theorem dX1_init_48 : decode cX1_init 48 = .ok (.goto 4, 3) := by decide +kernel
theorem dX1_init_51 : decode cX1_init 51 = .ok (.iload_n 1, 1) := by decide +kernel
theorem dX1_init_52 : decode cX1_init 52 = .ok (.putfield 20, 3) := by decide +kernel
theorem dX1_init_55 : decode cX1_init 55 = .ok (.return_, 1) := by decide +kernel
theorem dX1_is_0 : decode cX1_is 0 = .ok (.iload_n 1, 1) := by decide +kernel
theorem dX1_is_1 : decode cX1_is 1 = .ok (.ifCond .lt 15, 3) := by decide +kernel
theorem dX1_is_4 : decode cX1_is 4 = .ok (.iload_n 1, 1) := by decide +kernel
theorem dX1_is_5 : decode cX1_is 5 = .ok (.aload_n 0, 1) := by decide +kernel
theorem dX1_is_6 : decode cX1_is 6 = .ok (.getfield 20, 3) := by decide +kernel
theorem dX1_is_9 : decode cX1_is 9 = .ok (.if_icmp .ge 7, 3) := by decide +kernel
theorem dX1_is_12 : decode cX1_is 12 = .ok (.iconst 1, 1) := by decide +kernel
theorem dX1_is_13 : decode cX1_is 13 = .ok (.goto 4, 3) := by decide +kernel
theorem dX1_is_16 : decode cX1_is 16 = .ok (.iconst 0, 1) := by decide +kernel
theorem dX1_is_17 : decode cX1_is 17 = .ok (.ireturn, 1) := by decide +kernel
set_option maxRecDepth 20000 in
theorem ggX1_wish_X1_is : GoodIn wsX1_wish wsX1_is := goodIn_r _ [7, 8, 9, 10, 11, 12, 13, 14, 15, 16, 17] (by decide +kernel) (by decide +kernel)
set_option maxRecDepth 20000 in
theorem gX1_wish_X1_is : GoodIn wsX1_wish (wsV RX1 24 RX1 yX1_is wsX1_is) := goodIn_app (goodIn_of _ (by decide +kernel)) ggX1_wish_X1_is
theorem dX1_wish_0 : decode cX1_wish 0 = .ok (.aload_n 0, 1) := by decide +kernel
theorem dX1_wish_1 : decode cX1_wish 1 = .ok (.iload_n 1, 1) := by decide +kernel
theorem dX1_wish_2 : decode cX1_wish 2 = .ok (.invokevirtual 24, 3) := by decide +kernel
theorem dX1_wish_5 : decode cX1_wish 5 = .ok (.ifCond .ne 5, 3) := by decide +kernel
theorem dX1_wish_8 : decode cX1_wish 8 = .ok (.iconst 0, 1) := by decide +kernel
theorem dX1_wish_9 : decode cX1_wish 9 = .ok (.ireturn, 1) := by decide +kernel
theorem dX1_wish_10 : decode cX1_wish 10 = .ok (.aload_n 0, 1) := by decide +kernel
theorem dX1_wish_11 : decode cX1_wish 11 = .ok (.getfield 7, 3) := by decide +kernel
theorem dX1_wish_14 : decode cX1_wish 14 = .ok (.iload_n 1, 1) := by decide +kernel
theorem dX1_wish_15 : decode cX1_wish 15 = .ok (.baload, 1) := by decide +kernel
theorem dX1_wish_16 : decode cX1_wish 16 = .ok (.istore_n 3, 1) := by decide +kernel
theorem dX1_wish_17 : decode cX1_wish 17 = .ok (.aload_n 0, 1) := by decide +kernel
theorem dX1_wish_18 : decode cX1_wish 18 = .ok (.getfield 7, 3) := by decide +kernel
theorem dX1_wish_21 : decode cX1_wish 21 = .ok (.iload_n 1, 1) := by decide +kernel
theorem dX1_wish_22 : decode cX1_wish 22 = .ok (.iload_n 2, 1) := by decide +kernel
theorem dX1_wish_23 : decode cX1_wish 23 = .ok (.bastore, 1) := by decide +kernel
theorem dX1_wish_24 : decode cX1_wish 24 = .ok (.aload_n 0, 1) := by decide +kernel
theorem dX1_wish_25 : decode cX1_wish 25 = .ok (.iconst 0, 1) := by decide +kernel
theorem dX1_wish_26 : decode cX1_wish 26 = .ok (.putfield 28, 3) := by decide +kernel
theorem dX1_wish_29 : decode cX1_wish 29 = .ok (.iload_n 3, 1) := by decide +kernel
theorem dX1_wish_30 : decode cX1_wish 30 = .ok (.ireturn, 1) := by decide +kernel
theorem dX1_bits_0 : decode cX1_bits 0 = .ok (.iconst 0, 1) := by decide +kernel
theorem dX1_bits_1 : decode cX1_bits 1 = .ok (.istore_n 1, 1) := by decide +kernel
theorem dX1_bits_2 : decode cX1_bits 2 = .ok (.iconst 0, 1) := by decide +kernel
theorem dX1_bits_3 : decode cX1_bits 3 = .ok (.istore_n 2, 1) := by decide +kernel
theorem dX1_bits_4 : decode cX1_bits 4 = .ok (.iload_n 2, 1) := by decide +kernel
theorem dX1_bits_5 : decode cX1_bits 5 = .ok (.bipush 16, 2) := by decide +kernel
theorem dX1_bits_7 : decode cX1_bits 7 = .ok (.if_icmp .ge 17, 3) := by decide +kernel
theorem dX1_bits_10 : decode cX1_bits 10 = .ok (.iload_n 1, 1) := by decide +kernel
theorem dX1_bits_11 : decode cX1_bits 11 = .ok (.iload_n 0, 1) := by decide +kernel
theorem dX1_bits_12 : decode cX1_bits 12 = .ok (.iload_n 2, 1) := by decide +kernel
theorem dX1_bits_13 : decode cX1_bits 13 = .ok (.ishr, 1) := by decide +kernel
theorem dX1_bits_14 : decode cX1_bits 14 = .ok (.iconst 1, 1) := by decide +kernel
theorem dX1_bits_15 : decode cX1_bits 15 = .ok (.iand, 1) := by decide +kernel
theorem dX1_bits_16 : decode cX1_bits 16 = .ok (.iadd, 1) := by decide +kernel
theorem dX1_bits_17 : decode cX1_bits 17 = .ok (.istore_n 1, 1) := by decide +kernel
theorem dX1_bits_18 : decode cX1_bits 18 = .ok (.iinc 2 1, 3) := by decide +kernel
theorem dX1_bits_21 : decode cX1_bits 21 = .ok (.goto (-17), 3) := by decide +kernel
theorem dX1_bits_24 : decode cX1_bits 24 = .ok (.iload_n 1, 1) := by decide +kernel
theorem dX1_bits_25 : decode cX1_bits 25 = .ok (.ireturn, 1) := by decide +kernel
set_option maxRecDepth 20000 in
theorem ggX1_literal_X1_is : GoodIn wsX1_literal wsX1_is := goodIn_r _ [7, 8, 12, 13, 14, 15, 16, 17, 18, 19, 20] (by decide +kernel) (by decide +kernel)
set_option maxRecDepth 20000 in
theorem gX1_literal_X1_is : GoodIn wsX1_literal (wsV RX1 24 RX1 yX1_is wsX1_is) := goodIn_app (goodIn_of _ (by decide +kernel)) ggX1_literal_X1_is
set_option maxRecDepth 20000 in
theorem ggX1_literal_X1_bits : GoodIn wsX1_literal wsX1_bits := goodIn_r _ [11] (by decide +kernel) (by decide +kernel)
set_option maxRecDepth 20000 in
theorem gX1_literal_X1_bits : GoodIn wsX1_literal (va_wsS RX1 38 yX1_bits wsX1_bits) := goodIn_app (goodIn_of _ (by decide +kernel)) ggX1_literal_X1_bits
theorem dX1_literal_0 : decode cX1_literal 0 = .ok (.aload_n 0, 1) := by decide +kernel
theorem dX1_literal_1 : decode cX1_literal 1 = .ok (.iload_n 1, 1) := by decide +kernel
theorem dX1_literal_2 : decode cX1_literal 2 = .ok (.invokevirtual 24, 3) := by decide +kernel
theorem dX1_literal_5 : decode cX1_literal 5 = .ok (.ifCond .ne 5, 3) := by decide +kernel
theorem dX1_literal_8 : decode cX1_literal 8 = .ok (.iconst (-1), 1) := by decide +kernel
theorem dX1_literal_9 : decode cX1_literal 9 = .ok (.ireturn, 1) := by decide +kernel
theorem dX1_literal_10 : decode cX1_literal 10 = .ok (.iload_n 2, 1) := by decide +kernel
theorem dX1_literal_11 : decode cX1_literal 11 = .ok (.ifCond .eq 18, 3) := by decide +kernel
theorem dX1_literal_14 : decode cX1_literal 14 = .ok (.aload_n 0, 1) := by decide +kernel
theorem dX1_literal_15 : decode cX1_literal 15 = .ok (.dup, 1) := by decide +kernel
theorem dX1_literal_16 : decode cX1_literal 16 = .ok (.getfield 32, 3) := by decide +kernel
theorem dX1_literal_19 : decode cX1_literal 19 = .ok (.iconst 1, 1) := by decide +kernel
theorem dX1_literal_20 : decode cX1_literal 20 = .ok (.iload_n 1, 1) := by decide +kernel
theorem dX1_literal_21 : decode cX1_literal 21 = .ok (.ishl, 1) := by decide +kernel
theorem dX1_literal_22 : decode cX1_literal 22 = .ok (.ior, 1) := by decide +kernel
theorem dX1_literal_23 : decode cX1_literal 23 = .ok (.putfield 32, 3) := by decide +kernel
theorem dX1_literal_26 : decode cX1_literal 26 = .ok (.goto 15, 3) := by decide +kernel
theorem dX1_literal_29 : decode cX1_literal 29 = .ok (.aload_n 0, 1) := by decide +kernel
theorem dX1_literal_30 : decode cX1_literal 30 = .ok (.dup, 1) := by decide +kernel
theorem dX1_literal_31 : decode cX1_literal 31 = .ok (.getfield 35, 3) := by decide +kernel
theorem dX1_literal_34 : decode cX1_literal 34 = .ok (.iconst 1, 1) := by decide +kernel
theorem dX1_literal_35 : decode cX1_literal 35 = .ok (.iload_n 1, 1) := by decide +kernel
theorem dX1_literal_36 : decode cX1_literal 36 = .ok (.ishl, 1) := by decide +kernel
theorem dX1_literal_37 : decode cX1_literal 37 = .ok (.ior, 1) := by decide +kernel
theorem dX1_literal_38 : decode cX1_literal 38 = .ok (.putfield 35, 3) := by decide +kernel
theorem dX1_literal_41 : decode cX1_literal 41 = .ok (.aload_n 0, 1) := by decide +kernel
theorem dX1_literal_42 : decode cX1_literal 42 = .ok (.getfield 32, 3) := by decide +kernel
theorem dX1_literal_45 : decode cX1_literal 45 = .ok (.invokestatic 38, 3) := by decide +kernel
theorem dX1_literal_48 : decode cX1_literal 48 = .ok (.aload_n 0, 1) := by decide +kernel
theorem dX1_literal_49 : decode cX1_literal 49 = .ok (.getfield 35, 3) := by decide +kernel
theorem dX1_literal_52 : decode cX1_literal 52 = .ok (.invokestatic 38, 3) := by decide +kernel
theorem dX1_literal_55 : decode cX1_literal 55 = .ok (.iadd, 1) := by decide +kernel
theorem dX1_literal_56 : decode cX1_literal 56 = .ok (.ireturn, 1) := by decide +kernel
set_option maxRecDepth 20000 in
theorem ggX1_clause_X1_some : GoodIn wsX1_clause wsX1_some := goodIn_r _ [8, 1, 9, 10, 11, 12, 13, 14, 15, 16, 17, 18, 19, 20, 21] (by decide +kernel) (by decide +kernel)
set_option maxRecDepth 20000 in
theorem gX1_clause_X1_some : GoodIn wsX1_clause (wsV RX1 45 RX1 yX1_some wsX1_some) := goodIn_app (goodIn_of _ (by decide +kernel)) ggX1_clause_X1_some
theorem dX1_clause_0 : decode cX1_clause 0 = .ok (.aload_n 0, 1) := by decide +kernel
theorem dX1_clause_1 : decode cX1_clause 1 = .ok (.getfield 42, 3) := by decide +kernel
theorem dX1_clause_4 : decode cX1_clause 4 = .ok (.sipush 400, 3) := by decide +kernel
theorem dX1_clause_7 : decode cX1_clause 7 = .ok (.if_icmp .ne 6, 3) := by decide +kernel
theorem dX1_clause_10 : decode cX1_clause 10 = .ok (.bipush (-3), 2) := by decide +kernel
theorem dX1_clause_12 : decode cX1_clause 12 = .ok (.ireturn, 1) := by decide +kernel
theorem dX1_clause_13 : decode cX1_clause 13 = .ok (.aload_n 0, 1) := by decide +kernel
theorem dX1_clause_14 : decode cX1_clause 14 = .ok (.aload_n 0, 1) := by decide +kernel
theorem dX1_clause_15 : decode cX1_clause 15 = .ok (.getfield 32, 3) := by decide +kernel
theorem dX1_clause_18 : decode cX1_clause 18 = .ok (.aload_n 0, 1) := by decide +kernel
theorem dX1_clause_19 : decode cX1_clause 19 = .ok (.getfield 35, 3) := by decide +kernel
theorem dX1_clause_22 : decode cX1_clause 22 = .ok (.invokevirtual 45, 3) := by decide +kernel
theorem dX1_clause_25 : decode cX1_clause 25 = .ok (.pop, 1) := by decide +kernel
theorem dX1_clause_26 : decode cX1_clause 26 = .ok (.aload_n 0, 1) := by decide +kernel
theorem dX1_clause_27 : decode cX1_clause 27 = .ok (.iconst 0, 1) := by decide +kernel
theorem dX1_clause_28 : decode cX1_clause 28 = .ok (.putfield 32, 3) := by decide +kernel
theorem dX1_clause_31 : decode cX1_clause 31 = .ok (.aload_n 0, 1) := by decide +kernel
theorem dX1_clause_32 : decode cX1_clause 32 = .ok (.iconst 0, 1) := by decide +kernel
theorem dX1_clause_33 : decode cX1_clause 33 = .ok (.putfield 35, 3) := by decide +kernel
theorem dX1_clause_36 : decode cX1_clause 36 = .ok (.aload_n 0, 1) := by decide +kernel
theorem dX1_clause_37 : decode cX1_clause 37 = .ok (.getfield 42, 3) := by decide +kernel
theorem dX1_clause_40 : decode cX1_clause 40 = .ok (.ireturn, 1) := by decide +kernel
theorem dX1_some_0 : decode cX1_some 0 = .ok (.aload_n 0, 1) := by decide +kernel
theorem dX1_some_1 : decode cX1_some 1 = .ok (.getfield 42, 3) := by decide +kernel
theorem dX1_some_4 : decode cX1_some 4 = .ok (.sipush 400, 3) := by decide +kernel
theorem dX1_some_7 : decode cX1_some 7 = .ok (.if_icmp .ne 6, 3) := by decide +kernel
theorem dX1_some_10 : decode cX1_some 10 = .ok (.bipush (-3), 2) := by decide +kernel
theorem dX1_some_12 : decode cX1_some 12 = .ok (.ireturn, 1) := by decide +kernel
theorem dX1_some_13 : decode cX1_some 13 = .ok (.aload_n 0, 1) := by decide +kernel
theorem dX1_some_14 : decode cX1_some 14 = .ok (.getfield 13, 3) := by decide +kernel
theorem dX1_some_17 : decode cX1_some 17 = .ok (.aload_n 0, 1) := by decide +kernel
theorem dX1_some_18 : decode cX1_some 18 = .ok (.getfield 42, 3) := by decide +kernel
theorem dX1_some_21 : decode cX1_some 21 = .ok (.iload_n 1, 1) := by decide +kernel
theorem dX1_some_22 : decode cX1_some 22 = .ok (.iconst 1, 1) := by decide +kernel
theorem dX1_some_23 : decode cX1_some 23 = .ok (.aload_n 0, 1) := by decide +kernel
theorem dX1_some_24 : decode cX1_some 24 = .ok (.getfield 20, 3) := by decide +kernel
theorem dX1_some_27 : decode cX1_some 27 = .ok (.ishl, 1) := by decide +kernel
theorem dX1_some_28 : decode cX1_some 28 = .ok (.iconst 1, 1) := by decide +kernel
theorem dX1_some_29 : decode cX1_some 29 = .ok (.isub, 1) := by decide +kernel
theorem dX1_some_30 : decode cX1_some 30 = .ok (.iand, 1) := by decide +kernel
theorem dX1_some_31 : decode cX1_some 31 = .ok (.iastore, 1) := by decide +kernel
theorem dX1_some_32 : decode cX1_some 32 = .ok (.aload_n 0, 1) := by decide +kernel
theorem dX1_some_33 : decode cX1_some 33 = .ok (.getfield 17, 3) := by decide +kernel
theorem dX1_some_36 : decode cX1_some 36 = .ok (.aload_n 0, 1) := by decide +kernel
theorem dX1_some_37 : decode cX1_some 37 = .ok (.getfield 42, 3) := by decide +kernel
theorem dX1_some_40 : decode cX1_some 40 = .ok (.iload_n 2, 1) := by decide +kernel
theorem dX1_some_41 : decode cX1_some 41 = .ok (.iconst 1, 1) := by decide +kernel
theorem dX1_some_42 : decode cX1_some 42 = .ok (.aload_n 0, 1) := by decide +kernel
theorem dX1_some_43 : decode cX1_some 43 = .ok (.getfield 20, 3) := by decide +kernel
theorem dX1_some_46 : decode cX1_some 46 = .ok (.ishl, 1) := by decide +kernel
theorem dX1_some_47 : decode cX1_some 47 = .ok (.iconst 1, 1) := by decide +kernel
theorem dX1_some_48 : decode cX1_some 48 = .ok (.isub, 1) := by decide +kernel
theorem dX1_some_49 : decode cX1_some 49 = .ok (.iand, 1) := by decide +kernel
theorem dX1_some_50 : decode cX1_some 50 = .ok (.iastore, 1) := by decide +kernel
theorem dX1_some_51 : decode cX1_some 51 = .ok (.aload_n 0, 1) := by decide +kernel
theorem dX1_some_52 : decode cX1_some 52 = .ok (.dup, 1) := by decide +kernel
theorem dX1_some_53 : decode cX1_some 53 = .ok (.getfield 42, 3) := by decide +kernel
theorem dX1_some_56 : decode cX1_some 56 = .ok (.iconst 1, 1) := by decide +kernel
theorem dX1_some_57 : decode cX1_some 57 = .ok (.iadd, 1) := by decide +kernel
theorem dX1_some_58 : decode cX1_some 58 = .ok (.putfield 42, 3) := by decide +kernel
theorem dX1_some_61 : decode cX1_some 61 = .ok (.aload_n 0, 1) := by decide +kernel
theorem dX1_some_62 : decode cX1_some 62 = .ok (.iconst 0, 1) := by decide +kernel
theorem dX1_some_63 : decode cX1_some 63 = .ok (.putfield 28, 3) := by decide +kernel
theorem dX1_some_66 : decode cX1_some 66 = .ok (.aload_n 0, 1) := by decide +kernel
theorem dX1_some_67 : decode cX1_some 67 = .ok (.getfield 42, 3) := by decide +kernel
theorem dX1_some_70 : decode cX1_some 70 = .ok (.ireturn, 1) := by decide +kernel
theorem dX1_drop_0 : decode cX1_drop 0 = .ok (.iload_n 1, 1) := by decide +kernel
theorem dX1_drop_1 : decode cX1_drop 1 = .ok (.ifCond .lt 11, 3) := by decide +kernel
theorem dX1_drop_4 : decode cX1_drop 4 = .ok (.iload_n 1, 1) := by decide +kernel
theorem dX1_drop_5 : decode cX1_drop 5 = .ok (.aload_n 0, 1) := by decide +kernel
theorem dX1_drop_6 : decode cX1_drop 6 = .ok (.getfield 42, 3) := by decide +kernel
theorem dX1_drop_9 : decode cX1_drop 9 = .ok (.if_icmp .lt 6, 3) := by decide +kernel
theorem dX1_drop_12 : decode cX1_drop 12 = .ok (.bipush (-2), 2) := by decide +kernel
theorem dX1_drop_14 : decode cX1_drop 14 = .ok (.ireturn, 1) := by decide +kernel
theorem dX1_drop_15 : decode cX1_drop 15 = .ok (.aload_n 0, 1) := by decide +kernel
theorem dX1_drop_16 : decode cX1_drop 16 = .ok (.dup, 1) := by decide +kernel
theorem dX1_drop_17 : decode cX1_drop 17 = .ok (.getfield 42, 3) := by decide +kernel
theorem dX1_drop_20 : decode cX1_drop 20 = .ok (.iconst 1, 1) := by decide +kernel
theorem dX1_drop_21 : decode cX1_drop 21 = .ok (.isub, 1) := by decide +kernel
theorem dX1_drop_22 : decode cX1_drop 22 = .ok (.putfield 42, 3) := by decide +kernel
theorem dX1_drop_25 : decode cX1_drop 25 = .ok (.aload_n 0, 1) := by decide +kernel
theorem dX1_drop_26 : decode cX1_drop 26 = .ok (.getfield 13, 3) := by decide +kernel
theorem dX1_drop_29 : decode cX1_drop 29 = .ok (.iload_n 1, 1) := by decide +kernel
theorem dX1_drop_30 : decode cX1_drop 30 = .ok (.aload_n 0, 1) := by decide +kernel
theorem dX1_drop_31 : decode cX1_drop 31 = .ok (.getfield 13, 3) := by decide +kernel
theorem dX1_drop_34 : decode cX1_drop 34 = .ok (.aload_n 0, 1) := by decide +kernel
theorem dX1_drop_35 : decode cX1_drop 35 = .ok (.getfield 42, 3) := by decide +kernel
theorem dX1_drop_38 : decode cX1_drop 38 = .ok (.iaload, 1) := by decide +kernel
theorem dX1_drop_39 : decode cX1_drop 39 = .ok (.iastore, 1) := by decide +kernel
theorem dX1_drop_40 : decode cX1_drop 40 = .ok (.aload_n 0, 1) := by decide +kernel
theorem dX1_drop_41 : decode cX1_drop 41 = .ok (.getfield 17, 3) := by decide +kernel
theorem dX1_drop_44 : decode cX1_drop 44 = .ok (.iload_n 1, 1) := by decide +kernel
theorem dX1_drop_45 : decode cX1_drop 45 = .ok (.aload_n 0, 1) := by decide +kernel
theorem dX1_drop_46 : decode cX1_drop 46 = .ok (.getfield 17, 3) := by decide +kernel
theorem dX1_drop_49 : decode cX1_drop 49 = .ok (.aload_n 0, 1) := by decide +kernel
theorem dX1_drop_50 : decode cX1_drop 50 = .ok (.getfield 42, 3) := by decide +kernel
theorem dX1_drop_53 : decode cX1_drop 53 = .ok (.iaload, 1) := by decide +kernel
theorem dX1_drop_54 : decode cX1_drop 54 = .ok (.iastore, 1) := by decide +kernel
theorem dX1_drop_55 : decode cX1_drop 55 = .ok (.aload_n 0, 1) := by decide +kernel
theorem dX1_drop_56 : decode cX1_drop 56 = .ok (.iconst 0, 1) := by decide +kernel
theorem dX1_drop_57 : decode cX1_drop 57 = .ok (.putfield 28, 3) := by decide +kernel
theorem dX1_drop_60 : decode cX1_drop 60 = .ok (.aload_n 0, 1) := by decide +kernel
theorem dX1_drop_61 : decode cX1_drop 61 = .ok (.getfield 42, 3) := by decide +kernel
theorem dX1_drop_64 : decode cX1_drop 64 = .ok (.ireturn, 1) := by decide +kernel
theorem dX1_holds_0 : decode cX1_holds 0 = .ok (.iconst 0, 1) := by decide +kernel
theorem dX1_holds_1 : decode cX1_holds 1 = .ok (.istore_n 3, 1) := by decide +kernel
theorem dX1_holds_2 : decode cX1_holds 2 = .ok (.iload_n 3, 1) := by decide +kernel
theorem dX1_holds_3 : decode cX1_holds 3 = .ok (.aload_n 0, 1) := by decide +kernel
theorem dX1_holds_4 : decode cX1_holds 4 = .ok (.getfield 42, 3) := by decide +kernel
theorem dX1_holds_7 : decode cX1_holds 7 = .ok (.if_icmp .ge 53, 3) := by decide +kernel
theorem dX1_holds_10 : decode cX1_holds 10 = .ok (.aload_n 0, 1) := by decide +kernel
theorem dX1_holds_11 : decode cX1_holds 11 = .ok (.getfield 13, 3) := by decide +kernel
theorem dX1_holds_14 : decode cX1_holds 14 = .ok (.iload_n 3, 1) := by decide +kernel
theorem dX1_holds_15 : decode cX1_holds 15 = .ok (.iaload, 1) := by decide +kernel
theorem dX1_holds_16 : decode cX1_holds 16 = .ok (.aload_n 0, 1) := by decide +kernel
theorem dX1_holds_17 : decode cX1_holds 17 = .ok (.getfield 17, 3) := by decide +kernel
theorem dX1_holds_20 : decode cX1_holds 20 = .ok (.iload_n 3, 1) := by decide +kernel
theorem dX1_holds_21 : decode cX1_holds 21 = .ok (.iaload, 1) := by decide +kernel
theorem dX1_holds_22 : decode cX1_holds 22 = .ok (.ior, 1) := by decide +kernel
theorem dX1_holds_23 : decode cX1_holds 23 = .ok (.iload_n 2, 1) := by decide +kernel
theorem dX1_holds_24 : decode cX1_holds 24 = .ok (.ishr, 1) := by decide +kernel
theorem dX1_holds_25 : decode cX1_holds 25 = .ok (.ifCond .ne 29, 3) := by decide +kernel
theorem dX1_holds_28 : decode cX1_holds 28 = .ok (.iload_n 1, 1) := by decide +kernel
theorem dX1_holds_29 : decode cX1_holds 29 = .ok (.aload_n 0, 1) := by decide +kernel
theorem dX1_holds_30 : decode cX1_holds 30 = .ok (.getfield 13, 3) := by decide +kernel
theorem dX1_holds_33 : decode cX1_holds 33 = .ok (.iload_n 3, 1) := by decide +kernel
theorem dX1_holds_34 : decode cX1_holds 34 = .ok (.iaload, 1) := by decide +kernel
theorem dX1_holds_35 : decode cX1_holds 35 = .ok (.iand, 1) := by decide +kernel
theorem dX1_holds_36 : decode cX1_holds 36 = .ok (.ifCond .ne 18, 3) := by decide +kernel
theorem dX1_holds_39 : decode cX1_holds 39 = .ok (.iload_n 1, 1) := by decide +kernel
theorem dX1_holds_40 : decode cX1_holds 40 = .ok (.iconst (-1), 1) := by decide +kernel
theorem dX1_holds_41 : decode cX1_holds 41 = .ok (.ixor, 1) := by decide +kernel
theorem dX1_holds_42 : decode cX1_holds 42 = .ok (.aload_n 0, 1) := by decide +kernel
theorem dX1_holds_43 : decode cX1_holds 43 = .ok (.getfield 17, 3) := by decide +kernel
theorem dX1_holds_46 : decode cX1_holds 46 = .ok (.iload_n 3, 1) := by decide +kernel
theorem dX1_holds_47 : decode cX1_holds 47 = .ok (.iaload, 1) := by decide +kernel
theorem dX1_holds_48 : decode cX1_holds 48 = .ok (.iand, 1) := by decide +kernel
theorem dX1_holds_49 : decode cX1_holds 49 = .ok (.ifCond .ne 5, 3) := by decide +kernel
theorem dX1_holds_52 : decode cX1_holds 52 = .ok (.iconst 0, 1) := by decide +kernel
theorem dX1_holds_53 : decode cX1_holds 53 = .ok (.ireturn, 1) := by decide +kernel
theorem dX1_holds_54 : decode cX1_holds 54 = .ok (.iinc 3 1, 3) := by decide +kernel
theorem dX1_holds_57 : decode cX1_holds 57 = .ok (.goto (-55), 3) := by decide +kernel
theorem dX1_holds_60 : decode cX1_holds 60 = .ok (.iconst 1, 1) := by decide +kernel
theorem dX1_holds_61 : decode cX1_holds 61 = .ok (.ireturn, 1) := by decide +kernel
set_option maxRecDepth 20000 in
theorem ggX1_search_X1_holds : GoodIn wsX1_search wsX1_holds := goodIn_r _ [7, 8, 9, 10, 14, 15, 16, 17, 18, 19, 20, 21, 22] (by decide +kernel) (by decide +kernel)
set_option maxRecDepth 20000 in
theorem gX1_search_X1_holds : GoodIn wsX1_search (wsV RX1 49 RX1 yX1_holds wsX1_holds) := goodIn_app (goodIn_of _ (by decide +kernel)) ggX1_search_X1_holds
set_option maxRecDepth 20000 in
theorem ggX1_search_X1_search : GoodIn wsX1_search wsX1_search := goodIn_r _ [0, 1, 2, 3, 4, 5, 6, 7, 8, 9, 10, 11, 12, 13, 14, 15, 16, 17, 18, 19, 20, 21, 22] (by decide +kernel) (by decide +kernel)
set_option maxRecDepth 20000 in
theorem gX1_search_X1_search : GoodIn wsX1_search (wsV RX1 53 RX1 yX1_search wsX1_search) := goodIn_app (goodIn_of _ (by decide +kernel)) ggX1_search_X1_search
theorem dX1_search_0 : decode cX1_search 0 = .ok (.aload_n 0, 1) := by decide +kernel
theorem dX1_search_1 : decode cX1_search 1 = .ok (.iload_n 1, 1) := by decide +kernel
theorem dX1_search_2 : decode cX1_search 2 = .ok (.iload_n 2, 1) := by decide +kernel
theorem dX1_search_3 : decode cX1_search 3 = .ok (.invokevirtual 49, 3) := by decide +kernel
theorem dX1_search_6 : decode cX1_search 6 = .ok (.ifCond .ne 6, 3) := by decide +kernel
theorem dX1_search_9 : decode cX1_search 9 = .ok (.bipush (-2), 2) := by decide +kernel
theorem dX1_search_11 : decode cX1_search 11 = .ok (.ireturn, 1) := by decide +kernel
theorem dX1_search_12 : decode cX1_search 12 = .ok (.iload_n 2, 1) := by decide +kernel
theorem dX1_search_13 : decode cX1_search 13 = .ok (.aload_n 0, 1) := by decide +kernel
theorem dX1_search_14 : decode cX1_search 14 = .ok (.getfield 20, 3) := by decide +kernel
theorem dX1_search_17 : decode cX1_search 17 = .ok (.if_icmp .ne 5, 3) := by decide +kernel
theorem dX1_search_20 : decode cX1_search 20 = .ok (.iload_n 1, 1) := by decide +kernel
theorem dX1_search_21 : decode cX1_search 21 = .ok (.ireturn, 1) := by decide +kernel
theorem dX1_search_22 : decode cX1_search 22 = .ok (.iconst 1, 1) := by decide +kernel
theorem dX1_search_23 : decode cX1_search 23 = .ok (.iload_n 2, 1) := by decide +kernel
theorem dX1_search_24 : decode cX1_search 24 = .ok (.ishl, 1) := by decide +kernel
theorem dX1_search_25 : decode cX1_search 25 = .ok (.istore_n 3, 1) := by decide +kernel
theorem dX1_search_26 : decode cX1_search 26 = .ok (.aload_n 0, 1) := by decide +kernel
theorem dX1_search_27 : decode cX1_search 27 = .ok (.aload_n 0, 1) := by decide +kernel
theorem dX1_search_28 : decode cX1_search 28 = .ok (.getfield 7, 3) := by decide +kernel
theorem dX1_search_31 : decode cX1_search 31 = .ok (.iload_n 2, 1) := by decide +kernel
theorem dX1_search_32 : decode cX1_search 32 = .ok (.baload, 1) := by decide +kernel
theorem dX1_search_33 : decode cX1_search 33 = .ok (.ifCond .eq 9, 3) := by decide +kernel
theorem dX1_search_36 : decode cX1_search 36 = .ok (.iload_n 1, 1) := by decide +kernel
theorem dX1_search_37 : decode cX1_search 37 = .ok (.iload_n 3, 1) := by decide +kernel
theorem dX1_search_38 : decode cX1_search 38 = .ok (.ior, 1) := by decide +kernel
theorem dX1_search_39 : decode cX1_search 39 = .ok (.goto 4, 3) := by decide +kernel
theorem dX1_search_42 : decode cX1_search 42 = .ok (.iload_n 1, 1) := by decide +kernel
theorem dX1_search_43 : decode cX1_search 43 = .ok (.iload_n 2, 1) := by decide +kernel
theorem dX1_search_44 : decode cX1_search 44 = .ok (.iconst 1, 1) := by decide +kernel
theorem dX1_search_45 : decode cX1_search 45 = .ok (.iadd, 1) := by decide +kernel
theorem dX1_search_46 : decode cX1_search 46 = .ok (.invokevirtual 53, 3) := by decide +kernel
theorem dX1_search_49 : decode cX1_search 49 = .ok (.istore 4, 2) := by decide +kernel
theorem dX1_search_51 : decode cX1_search 51 = .ok (.iload 4, 2) := by decide +kernel
theorem dX1_search_53 : decode cX1_search 53 = .ok (.ifCond .lt 8, 3) := by decide +kernel
theorem dX1_search_56 : decode cX1_search 56 = .ok (.iload 4, 2) := by decide +kernel
theorem dX1_search_58 : decode cX1_search 58 = .ok (.goto 26, 3) := by decide +kernel
theorem dX1_search_61 : decode cX1_search 61 = .ok (.aload_n 0, 1) := by decide +kernel
theorem dX1_search_62 : decode cX1_search 62 = .ok (.aload_n 0, 1) := by decide +kernel
theorem dX1_search_63 : decode cX1_search 63 = .ok (.getfield 7, 3) := by decide +kernel
theorem dX1_search_66 : decode cX1_search 66 = .ok (.iload_n 2, 1) := by decide +kernel
theorem dX1_search_67 : decode cX1_search 67 = .ok (.baload, 1) := by decide +kernel
theorem dX1_search_68 : decode cX1_search 68 = .ok (.ifCond .eq 7, 3) := by decide +kernel
theorem dX1_search_71 : decode cX1_search 71 = .ok (.iload_n 1, 1) := by decide +kernel
theorem dX1_search_72 : decode cX1_search 72 = .ok (.goto 6, 3) := by decide +kernel
theorem dX1_search_75 : decode cX1_search 75 = .ok (.iload_n 1, 1) := by decide +kernel
theorem dX1_search_76 : decode cX1_search 76 = .ok (.iload_n 3, 1) := by decide +kernel
theorem dX1_search_77 : decode cX1_search 77 = .ok (.ior, 1) := by decide +kernel
theorem dX1_search_78 : decode cX1_search 78 = .ok (.iload_n 2, 1) := by decide +kernel
theorem dX1_search_79 : decode cX1_search 79 = .ok (.iconst 1, 1) := by decide +kernel
theorem dX1_search_80 : decode cX1_search 80 = .ok (.iadd, 1) := by decide +kernel
theorem dX1_search_81 : decode cX1_search 81 = .ok (.invokevirtual 53, 3) := by decide +kernel
theorem dX1_search_84 : decode cX1_search 84 = .ok (.ireturn, 1) := by decide +kernel
set_option maxRecDepth 20000 in
theorem ggX1_answer_X1_search : GoodIn wsX1_answer wsX1_search := goodIn_r _ [7, 8, 9, 10, 11, 12, 6, 13, 14, 15, 16, 3, 4, 5, 17, 18, 19, 20, 21, 22, 23, 24, 25] (by decide +kernel) (by decide +kernel)
set_option maxRecDepth 20000 in
theorem gX1_answer_X1_search : GoodIn wsX1_answer (wsV RX1 53 RX1 yX1_search wsX1_search) := goodIn_app (goodIn_of _ (by decide +kernel)) ggX1_answer_X1_search
theorem dX1_answer_0 : decode cX1_answer 0 = .ok (.aload_n 0, 1) := by decide +kernel
theorem dX1_answer_1 : decode cX1_answer 1 = .ok (.getfield 28, 3) := by decide +kernel
theorem dX1_answer_4 : decode cX1_answer 4 = .ok (.ifCond .ne 13, 3) := by decide +kernel
theorem dX1_answer_7 : decode cX1_answer 7 = .ok (.aload_n 0, 1) := by decide +kernel
theorem dX1_answer_8 : decode cX1_answer 8 = .ok (.aload_n 0, 1) := by decide +kernel
theorem dX1_answer_9 : decode cX1_answer 9 = .ok (.iconst 0, 1) := by decide +kernel
theorem dX1_answer_10 : decode cX1_answer 10 = .ok (.iconst 0, 1) := by decide +kernel
theorem dX1_answer_11 : decode cX1_answer 11 = .ok (.invokevirtual 53, 3) := by decide +kernel
theorem dX1_answer_14 : decode cX1_answer 14 = .ok (.putfield 56, 3) := by decide +kernel
theorem dX1_answer_17 : decode cX1_answer 17 = .ok (.aload_n 0, 1) := by decide +kernel
theorem dX1_answer_18 : decode cX1_answer 18 = .ok (.iconst 1, 1) := by decide +kernel
theorem dX1_answer_19 : decode cX1_answer 19 = .ok (.putfield 28, 3) := by decide +kernel
theorem dX1_answer_22 : decode cX1_answer 22 = .ok (.aload_n 0, 1) := by decide +kernel
theorem dX1_answer_23 : decode cX1_answer 23 = .ok (.getfield 56, 3) := by decide +kernel
theorem dX1_answer_26 : decode cX1_answer 26 = .ok (.ireturn, 1) := by decide +kernel
set_option maxRecDepth 20000 in
theorem ggX1_solve_X1_answer : GoodIn wsX1_solve wsX1_answer := goodIn_r _ [5, 6, 7, 8, 9, 10, 4, 11, 12, 13, 14, 15, 16, 17, 18, 19, 20, 21, 22, 23, 24, 25, 26, 27, 28, 29] (by decide +kernel) (by decide +kernel)
set_option maxRecDepth 20000 in
theorem gX1_solve_X1_answer : GoodIn wsX1_solve (wsV RX1 59 RX1 yX1_answer wsX1_answer) := goodIn_app (goodIn_of _ (by decide +kernel)) ggX1_solve_X1_answer
theorem dX1_solve_0 : decode cX1_solve 0 = .ok (.aload_n 0, 1) := by decide +kernel
theorem dX1_solve_1 : decode cX1_solve 1 = .ok (.invokevirtual 59, 3) := by decide +kernel
theorem dX1_solve_4 : decode cX1_solve 4 = .ok (.ifCond .lt 7, 3) := by decide +kernel
theorem dX1_solve_7 : decode cX1_solve 7 = .ok (.iconst 1, 1) := by decide +kernel
theorem dX1_solve_8 : decode cX1_solve 8 = .ok (.goto 4, 3) := by decide +kernel
theorem dX1_solve_11 : decode cX1_solve 11 = .ok (.iconst 0, 1) := by decide +kernel
theorem dX1_solve_12 : decode cX1_solve 12 = .ok (.ireturn, 1) := by decide +kernel
set_option maxRecDepth 20000 in
theorem ggX1_count_X1_bits : GoodIn wsX1_count wsX1_bits := goodIn_r _ [8] (by decide +kernel) (by decide +kernel)
set_option maxRecDepth 20000 in
theorem gX1_count_X1_bits : GoodIn wsX1_count (va_wsS RX1 38 yX1_bits wsX1_bits) := goodIn_app (goodIn_of _ (by decide +kernel)) ggX1_count_X1_bits
theorem dX1_count_0 : decode cX1_count 0 = .ok (.iload_n 1, 1) := by decide +kernel
theorem dX1_count_1 : decode cX1_count 1 = .ok (.tableswitch 53 0 2 #[27, 32, 37], 27) := by decide +kernel
theorem dX1_count_28 : decode cX1_count 28 = .ok (.aload_n 0, 1) := by decide +kernel
theorem dX1_count_29 : decode cX1_count 29 = .ok (.getfield 20, 3) := by decide +kernel
theorem dX1_count_32 : decode cX1_count 32 = .ok (.ireturn, 1) := by decide +kernel
theorem dX1_count_33 : decode cX1_count 33 = .ok (.aload_n 0, 1) := by decide +kernel
theorem dX1_count_34 : decode cX1_count 34 = .ok (.getfield 42, 3) := by decide +kernel
theorem dX1_count_37 : decode cX1_count 37 = .ok (.ireturn, 1) := by decide +kernel
theorem dX1_count_38 : decode cX1_count 38 = .ok (.aload_n 0, 1) := by decide +kernel
theorem dX1_count_39 : decode cX1_count 39 = .ok (.getfield 32, 3) := by decide +kernel
theorem dX1_count_42 : decode cX1_count 42 = .ok (.invokestatic 38, 3) := by decide +kernel
theorem dX1_count_45 : decode cX1_count 45 = .ok (.aload_n 0, 1) := by decide +kernel
theorem dX1_count_46 : decode cX1_count 46 = .ok (.getfield 35, 3) := by decide +kernel
theorem dX1_count_49 : decode cX1_count 49 = .ok (.invokestatic 38, 3) := by decide +kernel
theorem dX1_count_52 : decode cX1_count 52 = .ok (.iadd, 1) := by decide +kernel
theorem dX1_count_53 : decode cX1_count 53 = .ok (.ireturn, 1) := by decide +kernel
theorem dX1_count_54 : decode cX1_count 54 = .ok (.iconst (-1), 1) := by decide +kernel
theorem dX1_count_55 : decode cX1_count 55 = .ok (.ireturn, 1) := by decide +kernel
theorem dJ6_bitCount_0f7a4_0 : decode cJ6_bitCount_0f7a4 0 = .ok (.iload_n 0, 1) := by decide +kernel
theorem dJ6_bitCount_0f7a4_1 : decode cJ6_bitCount_0f7a4 1 = .ok (.iload_n 0, 1) := by decide +kernel
theorem dJ6_bitCount_0f7a4_2 : decode cJ6_bitCount_0f7a4 2 = .ok (.iconst 1, 1) := by decide +kernel
theorem dJ6_bitCount_0f7a4_3 : decode cJ6_bitCount_0f7a4 3 = .ok (.iushr, 1) := by decide +kernel
theorem dJ6_bitCount_0f7a4_4 : decode cJ6_bitCount_0f7a4 4 = .ok (.ldc_w 265, 3) := by decide +kernel
theorem dJ6_bitCount_0f7a4_7 : decode cJ6_bitCount_0f7a4 7 = .ok (.iand, 1) := by decide +kernel
theorem dJ6_bitCount_0f7a4_8 : decode cJ6_bitCount_0f7a4 8 = .ok (.isub, 1) := by decide +kernel
theorem dJ6_bitCount_0f7a4_9 : decode cJ6_bitCount_0f7a4 9 = .ok (.istore_n 0, 1) := by decide +kernel
theorem dJ6_bitCount_0f7a4_10 : decode cJ6_bitCount_0f7a4 10 = .ok (.iload_n 0, 1) := by decide +kernel
theorem dJ6_bitCount_0f7a4_11 : decode cJ6_bitCount_0f7a4 11 = .ok (.ldc_w 266, 3) := by decide +kernel
theorem dJ6_bitCount_0f7a4_14 : decode cJ6_bitCount_0f7a4 14 = .ok (.iand, 1) := by decide +kernel
theorem dJ6_bitCount_0f7a4_15 : decode cJ6_bitCount_0f7a4 15 = .ok (.iload_n 0, 1) := by decide +kernel
theorem dJ6_bitCount_0f7a4_16 : decode cJ6_bitCount_0f7a4 16 = .ok (.iconst 2, 1) := by decide +kernel
theorem dJ6_bitCount_0f7a4_17 : decode cJ6_bitCount_0f7a4 17 = .ok (.iushr, 1) := by decide +kernel
theorem dJ6_bitCount_0f7a4_18 : decode cJ6_bitCount_0f7a4 18 = .ok (.ldc_w 266, 3) := by decide +kernel
theorem dJ6_bitCount_0f7a4_21 : decode cJ6_bitCount_0f7a4 21 = .ok (.iand, 1) := by decide +kernel
theorem dJ6_bitCount_0f7a4_22 : decode cJ6_bitCount_0f7a4 22 = .ok (.iadd, 1) := by decide +kernel
theorem dJ6_bitCount_0f7a4_23 : decode cJ6_bitCount_0f7a4 23 = .ok (.istore_n 0, 1) := by decide +kernel
theorem dJ6_bitCount_0f7a4_24 : decode cJ6_bitCount_0f7a4 24 = .ok (.iload_n 0, 1) := by decide +kernel
theorem dJ6_bitCount_0f7a4_25 : decode cJ6_bitCount_0f7a4 25 = .ok (.iload_n 0, 1) := by decide +kernel
theorem dJ6_bitCount_0f7a4_26 : decode cJ6_bitCount_0f7a4 26 = .ok (.iconst 4, 1) := by decide +kernel
theorem dJ6_bitCount_0f7a4_27 : decode cJ6_bitCount_0f7a4 27 = .ok (.iushr, 1) := by decide +kernel
theorem dJ6_bitCount_0f7a4_28 : decode cJ6_bitCount_0f7a4 28 = .ok (.iadd, 1) := by decide +kernel
theorem dJ6_bitCount_0f7a4_29 : decode cJ6_bitCount_0f7a4 29 = .ok (.ldc_w 267, 3) := by decide +kernel
theorem dJ6_bitCount_0f7a4_32 : decode cJ6_bitCount_0f7a4 32 = .ok (.iand, 1) := by decide +kernel
theorem dJ6_bitCount_0f7a4_33 : decode cJ6_bitCount_0f7a4 33 = .ok (.istore_n 0, 1) := by decide +kernel
theorem dJ6_bitCount_0f7a4_34 : decode cJ6_bitCount_0f7a4 34 = .ok (.iload_n 0, 1) := by decide +kernel
theorem dJ6_bitCount_0f7a4_35 : decode cJ6_bitCount_0f7a4 35 = .ok (.iload_n 0, 1) := by decide +kernel
theorem dJ6_bitCount_0f7a4_36 : decode cJ6_bitCount_0f7a4 36 = .ok (.bipush 8, 2) := by decide +kernel
theorem dJ6_bitCount_0f7a4_38 : decode cJ6_bitCount_0f7a4 38 = .ok (.iushr, 1) := by decide +kernel
theorem dJ6_bitCount_0f7a4_39 : decode cJ6_bitCount_0f7a4 39 = .ok (.iadd, 1) := by decide +kernel
theorem dJ6_bitCount_0f7a4_40 : decode cJ6_bitCount_0f7a4 40 = .ok (.istore_n 0, 1) := by decide +kernel
theorem dJ6_bitCount_0f7a4_41 : decode cJ6_bitCount_0f7a4 41 = .ok (.iload_n 0, 1) := by decide +kernel
theorem dJ6_bitCount_0f7a4_42 : decode cJ6_bitCount_0f7a4 42 = .ok (.iload_n 0, 1) := by decide +kernel
theorem dJ6_bitCount_0f7a4_43 : decode cJ6_bitCount_0f7a4 43 = .ok (.bipush 16, 2) := by decide +kernel
theorem dJ6_bitCount_0f7a4_45 : decode cJ6_bitCount_0f7a4 45 = .ok (.iushr, 1) := by decide +kernel
theorem dJ6_bitCount_0f7a4_46 : decode cJ6_bitCount_0f7a4 46 = .ok (.iadd, 1) := by decide +kernel
theorem dJ6_bitCount_0f7a4_47 : decode cJ6_bitCount_0f7a4 47 = .ok (.istore_n 0, 1) := by decide +kernel
theorem dJ6_bitCount_0f7a4_48 : decode cJ6_bitCount_0f7a4 48 = .ok (.iload_n 0, 1) := by decide +kernel
theorem dJ6_bitCount_0f7a4_49 : decode cJ6_bitCount_0f7a4 49 = .ok (.bipush 63, 2) := by decide +kernel
theorem dJ6_bitCount_0f7a4_51 : decode cJ6_bitCount_0f7a4 51 = .ok (.iand, 1) := by decide +kernel
theorem dJ6_bitCount_0f7a4_52 : decode cJ6_bitCount_0f7a4 52 = .ok (.ireturn, 1) := by decide +kernel
theorem dJ9_max_7cf53_0 : decode cJ9_max_7cf53 0 = .ok (.iload_n 0, 1) := by decide +kernel
theorem dJ9_max_7cf53_1 : decode cJ9_max_7cf53 1 = .ok (.iload_n 1, 1) := by decide +kernel
theorem dJ9_max_7cf53_2 : decode cJ9_max_7cf53 2 = .ok (.if_icmp .lt 7, 3) := by decide +kernel
theorem dJ9_max_7cf53_5 : decode cJ9_max_7cf53 5 = .ok (.iload_n 0, 1) := by decide +kernel
theorem dJ9_max_7cf53_6 : decode cJ9_max_7cf53 6 = .ok (.goto 4, 3) := by decide +kernel
theorem dJ9_max_7cf53_9 : decode cJ9_max_7cf53 9 = .ok (.iload_n 1, 1) := by decide +kernel
theorem dJ9_max_7cf53_10 : decode cJ9_max_7cf53 10 = .ok (.ireturn, 1) := by decide +kernel
theorem dJ9_min_7cf53_0 : decode cJ9_min_7cf53 0 = .ok (.iload_n 0, 1) := by decide +kernel
theorem dJ9_min_7cf53_1 : decode cJ9_min_7cf53 1 = .ok (.iload_n 1, 1) := by decide +kernel
theorem dJ9_min_7cf53_2 : decode cJ9_min_7cf53 2 = .ok (.if_icmp .gt 7, 3) := by decide +kernel
theorem dJ9_min_7cf53_5 : decode cJ9_min_7cf53 5 = .ok (.iload_n 0, 1) := by decide +kernel
theorem dJ9_min_7cf53_6 : decode cJ9_min_7cf53 6 = .ok (.goto 4, 3) := by decide +kernel
theorem dJ9_min_7cf53_9 : decode cJ9_min_7cf53 9 = .ok (.iload_n 1, 1) := by decide +kernel
theorem dJ9_min_7cf53_10 : decode cJ9_min_7cf53 10 = .ok (.ireturn, 1) := by decide +kernel
theorem dL_cell_0 : decode cL_cell 0 = .ok (.iload_n 1, 1) := by decide +kernel
theorem dL_cell_1 : decode cL_cell 1 = .ok (.aload_n 0, 1) := by decide +kernel
theorem dL_cell_2 : decode cL_cell 2 = .ok (.arraylength, 1) := by decide +kernel
theorem dL_cell_3 : decode cL_cell 3 = .ok (.if_icmp .ge 9, 3) := by decide +kernel
theorem dL_cell_6 : decode cL_cell 6 = .ok (.aload_n 0, 1) := by decide +kernel
theorem dL_cell_7 : decode cL_cell 7 = .ok (.iload_n 1, 1) := by decide +kernel
theorem dL_cell_8 : decode cL_cell 8 = .ok (.iaload, 1) := by decide +kernel
theorem dL_cell_9 : decode cL_cell 9 = .ok (.goto 4, 3) := by decide +kernel
theorem dL_cell_12 : decode cL_cell 12 = .ok (.iconst 0, 1) := by decide +kernel
theorem dL_cell_13 : decode cL_cell 13 = .ok (.ireturn, 1) := by decide +kernel
set_option maxRecDepth 20000 in
theorem ggL_law_L_cell : GoodIn wsL_law wsL_cell := goodIn_r _ [9] (by decide +kernel) (by decide +kernel)
set_option maxRecDepth 20000 in
theorem gL_law_L_cell : GoodIn wsL_law (va_wsS RL 9 yL_cell wsL_cell) := goodIn_app (goodIn_of _ (by decide +kernel)) ggL_law_L_cell
set_option maxRecDepth 20000 in
theorem ggL_law_X0_init : GoodIn wsL_law wsX0_init := goodIn_r _ [12, 13, 14, 15, 16, 17, 18, 19, 20, 21, 22, 23, 24, 25, 26, 27, 28, 29, 30, 188, 189, 190, 191, 192, 193, 194, 195, 196, 197] (by decide +kernel) (by decide +kernel)
set_option maxRecDepth 20000 in
theorem gL_law_X0_init : GoodIn wsL_law (wsX0_init) := ggL_law_X0_init
set_option maxRecDepth 20000 in
theorem ggL_law_X1_init : GoodIn wsL_law wsX1_init := goodIn_r _ [33, 34, 14, 15, 35, 36, 25, 37, 38, 39, 198, 199, 200, 201, 202, 203, 204, 205, 206] (by decide +kernel) (by decide +kernel)
set_option maxRecDepth 20000 in
theorem gL_law_X1_init : GoodIn wsL_law (wsX1_init) := ggL_law_X1_init
set_option maxRecDepth 20000 in
theorem ggL_law_X0_wish : GoodIn wsL_law wsX0_wish := goodIn_r _ [43, 44, 45, 46, 47, 2, 48, 23, 49, 50, 51, 188, 189, 190, 191, 192, 193, 194, 195, 196, 197] (by decide +kernel) (by decide +kernel)
set_option maxRecDepth 20000 in
theorem gL_law_X0_wish : GoodIn wsL_law (wsV RL 21 RX0 yX0_wish wsX0_wish) := goodIn_app (goodIn_of _ (by decide +kernel)) ggL_law_X0_wish
set_option maxRecDepth 20000 in
theorem ggL_law_X1_wish : GoodIn wsL_law wsX1_wish := goodIn_r _ [55, 36, 56, 57, 58, 59, 5, 60, 39, 198, 199, 200, 201, 202, 203, 204, 205, 206] (by decide +kernel) (by decide +kernel)
set_option maxRecDepth 20000 in
theorem gL_law_X1_wish : GoodIn wsL_law (wsV RL 25 RX1 yX1_wish wsX1_wish) := goodIn_app (goodIn_of _ (by decide +kernel)) ggL_law_X1_wish
set_option maxRecDepth 20000 in
theorem ggL_law_X0_literal : GoodIn wsL_law wsX0_literal := goodIn_r _ [64, 65, 66, 45, 46, 47, 2, 48, 23, 67, 68, 69, 70, 71, 72, 73, 74, 75, 76, 77, 188, 189, 190, 191, 192, 193, 194, 195, 196, 197] (by decide +kernel) (by decide +kernel)
set_option maxRecDepth 20000 in
theorem gL_law_X0_literal : GoodIn wsL_law (wsV RL 26 RX0 yX0_literal wsX0_literal) := goodIn_app (goodIn_of _ (by decide +kernel)) ggL_law_X0_literal
set_option maxRecDepth 20000 in
theorem ggL_law_X1_literal : GoodIn wsL_law wsX1_literal := goodIn_r _ [81, 82, 83, 57, 58, 59, 5, 60, 39, 84, 85, 86, 198, 199, 200, 201, 202, 203, 204, 205, 206] (by decide +kernel) (by decide +kernel)
set_option maxRecDepth 20000 in
theorem gL_law_X1_literal : GoodIn wsL_law (wsV RL 30 RX1 yX1_literal wsX1_literal) := goodIn_app (goodIn_of _ (by decide +kernel)) ggL_law_X1_literal
set_option maxRecDepth 20000 in
theorem ggL_law_X0_clause : GoodIn wsL_law wsX0_clause := goodIn_r _ [90, 65, 66, 91, 92, 93, 2, 94, 95, 24, 26, 27, 28, 30, 96, 97, 98, 99, 100, 101, 102, 49, 50, 51, 103, 104, 105, 106, 107, 188, 189, 190, 191, 192, 193, 194, 195, 196, 197] (by decide +kernel) (by decide +kernel)
set_option maxRecDepth 20000 in
theorem gL_law_X0_clause : GoodIn wsL_law (wsV RL 31 RX0 yX0_clause wsX0_clause) := goodIn_app (goodIn_of _ (by decide +kernel)) ggL_law_X0_clause
set_option maxRecDepth 20000 in
theorem ggL_law_X1_clause : GoodIn wsL_law wsX1_clause := goodIn_r _ [111, 112, 82, 83, 113, 114, 115, 5, 116, 37, 39, 38, 56, 198, 199, 200, 201, 202, 203, 204, 205, 206] (by decide +kernel) (by decide +kernel)
set_option maxRecDepth 20000 in
theorem gL_law_X1_clause : GoodIn wsL_law (wsV RL 35 RX1 yX1_clause wsX1_clause) := goodIn_app (goodIn_of _ (by decide +kernel)) ggL_law_X1_clause
set_option maxRecDepth 20000 in
theorem ggL_law_X0_some : GoodIn wsL_law wsX0_some := goodIn_r _ [120, 23, 96, 97, 2, 98, 91, 92, 93, 94, 95, 24, 26, 27, 28, 30, 99, 100, 101, 102, 49, 50, 51, 103, 104, 105, 106, 107, 188, 189, 190, 191, 192, 193, 194, 195, 196, 197] (by decide +kernel) (by decide +kernel)
set_option maxRecDepth 20000 in
theorem gL_law_X0_some : GoodIn wsL_law (wsV RL 36 RX0 yX0_some wsX0_some) := goodIn_app (goodIn_of _ (by decide +kernel)) ggL_law_X0_some
set_option maxRecDepth 20000 in
theorem ggL_law_X1_some : GoodIn wsL_law wsX1_some := goodIn_r _ [116, 112, 37, 39, 38, 56, 198, 199, 200, 201, 202, 203, 204, 205, 206] (by decide +kernel) (by decide +kernel)
set_option maxRecDepth 20000 in
theorem gL_law_X1_some : GoodIn wsL_law (wsV RL 40 RX1 yX1_some wsX1_some) := goodIn_app (goodIn_of _ (by decide +kernel)) ggL_law_X1_some
set_option maxRecDepth 20000 in
theorem ggL_law_X0_drop : GoodIn wsL_law wsX0_drop := goodIn_r _ [125, 95, 26, 27, 28, 30, 188, 189, 190, 191, 192, 193, 194, 195, 196, 197] (by decide +kernel) (by decide +kernel)
set_option maxRecDepth 20000 in
theorem gL_law_X0_drop : GoodIn wsL_law (wsV RL 41 RX0 yX0_drop wsX0_drop) := goodIn_app (goodIn_of _ (by decide +kernel)) ggL_law_X0_drop
set_option maxRecDepth 20000 in
theorem ggL_law_X1_drop : GoodIn wsL_law wsX1_drop := goodIn_r _ [129, 112, 37, 38, 56, 198, 199, 200, 201, 202, 203, 204, 205, 206] (by decide +kernel) (by decide +kernel)
set_option maxRecDepth 20000 in
theorem gL_law_X1_drop : GoodIn wsL_law (wsV RL 45 RX1 yX1_drop wsX1_drop) := goodIn_app (goodIn_of _ (by decide +kernel)) ggL_law_X1_drop
set_option maxRecDepth 20000 in
theorem ggL_law_X0_solve : GoodIn wsL_law wsX0_solve := goodIn_r _ [133, 134, 135, 136, 2, 137, 107, 138, 139, 140, 141, 24, 142, 143, 144, 145, 95, 28, 30, 146, 147, 148, 149, 26, 27, 150, 151, 152, 153, 106, 44, 49, 50, 51, 154, 155, 156, 157, 188, 189, 190, 191, 192, 193, 194, 195, 196, 197] (by decide +kernel) (by decide +kernel)
set_option maxRecDepth 20000 in
theorem gL_law_X0_solve : GoodIn wsL_law (wsV RL 46 RX0 yX0_solve wsX0_solve) := goodIn_app (goodIn_of _ (by decide +kernel)) ggL_law_X0_solve
set_option maxRecDepth 20000 in
theorem ggL_law_X1_solve : GoodIn wsL_law wsX1_solve := goodIn_r _ [161, 162, 163, 164, 5, 165, 56, 166, 167, 168, 169, 170, 39, 36, 171, 172, 173, 174, 112, 37, 38, 198, 199, 200, 201, 202, 203, 204, 205, 206] (by decide +kernel) (by decide +kernel)
set_option maxRecDepth 20000 in
theorem gL_law_X1_solve : GoodIn wsL_law (wsV RL 50 RX1 yX1_solve wsX1_solve) := goodIn_app (goodIn_of _ (by decide +kernel)) ggL_law_X1_solve
set_option maxRecDepth 20000 in
theorem ggL_law_X0_answer : GoodIn wsL_law wsX0_answer := goodIn_r _ [178, 134, 135, 136, 2, 137, 107, 138, 139, 140, 141, 24, 142, 143, 144, 145, 95, 28, 30, 146, 147, 148, 149, 26, 27, 150, 151, 152, 153, 106, 44, 49, 50, 51, 154, 155, 156, 157, 188, 189, 190, 191, 192, 193, 194, 195, 196, 197] (by decide +kernel) (by decide +kernel)
set_option maxRecDepth 20000 in
theorem gL_law_X0_answer : GoodIn wsL_law (wsV RL 51 RX0 yX0_answer wsX0_answer) := goodIn_app (goodIn_of _ (by decide +kernel)) ggL_law_X0_answer
set_option maxRecDepth 20000 in
theorem ggL_law_X1_answer : GoodIn wsL_law wsX1_answer := goodIn_r _ [165, 56, 166, 167, 168, 169, 5, 170, 39, 36, 171, 172, 173, 174, 112, 37, 38, 198, 199, 200, 201, 202, 203, 204, 205, 206] (by decide +kernel) (by decide +kernel)
set_option maxRecDepth 20000 in
theorem gL_law_X1_answer : GoodIn wsL_law (wsV RL 54 RX1 yX1_answer wsX1_answer) := goodIn_app (goodIn_of _ (by decide +kernel)) ggL_law_X1_answer
set_option maxRecDepth 20000 in
theorem ggL_law_X0_count : GoodIn wsL_law wsX0_count := goodIn_r _ [183, 23, 95, 67, 68, 69, 2, 70, 65, 66, 71, 72, 73, 74, 75, 76, 77, 188, 189, 190, 191, 192, 193, 194, 195, 196, 197] (by decide +kernel) (by decide +kernel)
set_option maxRecDepth 20000 in
theorem gL_law_X0_count : GoodIn wsL_law (wsV RL 55 RX0 yX0_count wsX0_count) := goodIn_app (goodIn_of _ (by decide +kernel)) ggL_law_X0_count
set_option maxRecDepth 20000 in
theorem ggL_law_X1_count : GoodIn wsL_law wsX1_count := goodIn_r _ [187, 39, 112, 82, 83, 84, 85, 5, 86, 198, 199, 200, 201, 202, 203, 204, 205, 206] (by decide +kernel) (by decide +kernel)
set_option maxRecDepth 20000 in
theorem gL_law_X1_count : GoodIn wsL_law (wsV RL 58 RX1 yX1_count wsX1_count) := goodIn_app (goodIn_of _ (by decide +kernel)) ggL_law_X1_count
theorem dL_law_0 : decode cL_law 0 = .ok (.new 7, 3) := by decide +kernel
theorem dL_law_3 : decode cL_law 3 = .ok (.dup, 1) := by decide +kernel
theorem dL_law_4 : decode cL_law 4 = .ok (.aload_n 0, 1) := by decide +kernel
theorem dL_law_5 : decode cL_law 5 = .ok (.iconst 0, 1) := by decide +kernel
theorem dL_law_6 : decode cL_law 6 = .ok (.invokestatic 9, 3) := by decide +kernel
theorem dL_law_9 : decode cL_law 9 = .ok (.invokespecial 15, 3) := by decide +kernel
theorem dL_law_12 : decode cL_law 12 = .ok (.astore_n 1, 1) := by decide +kernel
theorem dL_law_13 : decode cL_law 13 = .ok (.new 18, 3) := by decide +kernel
theorem dL_law_16 : decode cL_law 16 = .ok (.dup, 1) := by decide +kernel
theorem dL_law_17 : decode cL_law 17 = .ok (.aload_n 0, 1) := by decide +kernel
theorem dL_law_18 : decode cL_law 18 = .ok (.iconst 0, 1) := by decide +kernel
theorem dL_law_19 : decode cL_law 19 = .ok (.invokestatic 9, 3) := by decide +kernel
theorem dL_law_22 : decode cL_law 22 = .ok (.invokespecial 20, 3) := by decide +kernel
theorem dL_law_25 : decode cL_law 25 = .ok (.astore_n 2, 1) := by decide +kernel
theorem dL_law_26 : decode cL_law 26 = .ok (.iconst 1, 1) := by decide +kernel
theorem dL_law_27 : decode cL_law 27 = .ok (.istore_n 3, 1) := by decide +kernel
theorem dL_law_28 : decode cL_law 28 = .ok (.iload_n 3, 1) := by decide +kernel
theorem dL_law_29 : decode cL_law 29 = .ok (.aload_n 0, 1) := by decide +kernel
theorem dL_law_30 : decode cL_law 30 = .ok (.arraylength, 1) := by decide +kernel
theorem dL_law_31 : decode cL_law 31 = .ok (.iconst 3, 1) := by decide +kernel
theorem dL_law_32 : decode cL_law 32 = .ok (.isub, 1) := by decide +kernel
theorem dL_law_33 : decode cL_law 33 = .ok (.if_icmp .gt 277, 3) := by decide +kernel
theorem dL_law_36 : decode cL_law 36 = .ok (.aload_n 0, 1) := by decide +kernel
theorem dL_law_37 : decode cL_law 37 = .ok (.iload_n 3, 1) := by decide +kernel
theorem dL_law_38 : decode cL_law 38 = .ok (.iaload, 1) := by decide +kernel
theorem dL_law_39 : decode cL_law 39 = .ok (.bipush 7, 2) := by decide +kernel
theorem dL_law_41 : decode cL_law 41 = .ok (.iand, 1) := by decide +kernel
theorem dL_law_42 : decode cL_law 42 = .ok (.tableswitch 262 0 7 #[46, 95, 144, 157, 190, 213, 226, 239], 46) := by decide +kernel
theorem dL_law_88 : decode cL_law 88 = .ok (.aload_n 1, 1) := by decide +kernel
theorem dL_law_89 : decode cL_law 89 = .ok (.aload_n 0, 1) := by decide +kernel
theorem dL_law_90 : decode cL_law 90 = .ok (.iload_n 3, 1) := by decide +kernel
theorem dL_law_91 : decode cL_law 91 = .ok (.iconst 1, 1) := by decide +kernel
theorem dL_law_92 : decode cL_law 92 = .ok (.iadd, 1) := by decide +kernel
theorem dL_law_93 : decode cL_law 93 = .ok (.iaload, 1) := by decide +kernel
theorem dL_law_94 : decode cL_law 94 = .ok (.aload_n 0, 1) := by decide +kernel
theorem dL_law_95 : decode cL_law 95 = .ok (.iload_n 3, 1) := by decide +kernel
theorem dL_law_96 : decode cL_law 96 = .ok (.iconst 2, 1) := by decide +kernel
theorem dL_law_97 : decode cL_law 97 = .ok (.iadd, 1) := by decide +kernel
theorem dL_law_98 : decode cL_law 98 = .ok (.iaload, 1) := by decide +kernel
theorem dL_law_99 : decode cL_law 99 = .ok (.ifCond .eq 7, 3) := by decide +kernel
theorem dL_law_102 : decode cL_law 102 = .ok (.iconst 1, 1) := by decide +kernel
theorem dL_law_103 : decode cL_law 103 = .ok (.goto 4, 3) := by decide +kernel
theorem dL_law_106 : decode cL_law 106 = .ok (.iconst 0, 1) := by decide +kernel
theorem dL_law_107 : decode cL_law 107 = .ok (.invokevirtual 21, 3) := by decide +kernel
theorem dL_law_110 : decode cL_law 110 = .ok (.aload_n 2, 1) := by decide +kernel
theorem dL_law_111 : decode cL_law 111 = .ok (.aload_n 0, 1) := by decide +kernel
theorem dL_law_112 : decode cL_law 112 = .ok (.iload_n 3, 1) := by decide +kernel
theorem dL_law_113 : decode cL_law 113 = .ok (.iconst 1, 1) := by decide +kernel
theorem dL_law_114 : decode cL_law 114 = .ok (.iadd, 1) := by decide +kernel
theorem dL_law_115 : decode cL_law 115 = .ok (.iaload, 1) := by decide +kernel
theorem dL_law_116 : decode cL_law 116 = .ok (.aload_n 0, 1) := by decide +kernel
theorem dL_law_117 : decode cL_law 117 = .ok (.iload_n 3, 1) := by decide +kernel
theorem dL_law_118 : decode cL_law 118 = .ok (.iconst 2, 1) := by decide +kernel
theorem dL_law_119 : decode cL_law 119 = .ok (.iadd, 1) := by decide +kernel
theorem dL_law_120 : decode cL_law 120 = .ok (.iaload, 1) := by decide +kernel
theorem dL_law_121 : decode cL_law 121 = .ok (.ifCond .eq 7, 3) := by decide +kernel
theorem dL_law_124 : decode cL_law 124 = .ok (.iconst 1, 1) := by decide +kernel
theorem dL_law_125 : decode cL_law 125 = .ok (.goto 4, 3) := by decide +kernel
theorem dL_law_128 : decode cL_law 128 = .ok (.iconst 0, 1) := by decide +kernel
theorem dL_law_129 : decode cL_law 129 = .ok (.invokevirtual 25, 3) := by decide +kernel
theorem dL_law_132 : decode cL_law 132 = .ok (.if_icmp .eq 172, 3) := by decide +kernel
theorem dL_law_135 : decode cL_law 135 = .ok (.iconst 0, 1) := by decide +kernel
theorem dL_law_136 : decode cL_law 136 = .ok (.ireturn, 1) := by decide +kernel
theorem dL_law_137 : decode cL_law 137 = .ok (.aload_n 1, 1) := by decide +kernel
theorem dL_law_138 : decode cL_law 138 = .ok (.aload_n 0, 1) := by decide +kernel
theorem dL_law_139 : decode cL_law 139 = .ok (.iload_n 3, 1) := by decide +kernel
theorem dL_law_140 : decode cL_law 140 = .ok (.iconst 1, 1) := by decide +kernel
theorem dL_law_141 : decode cL_law 141 = .ok (.iadd, 1) := by decide +kernel
theorem dL_law_142 : decode cL_law 142 = .ok (.iaload, 1) := by decide +kernel
theorem dL_law_143 : decode cL_law 143 = .ok (.aload_n 0, 1) := by decide +kernel
theorem dL_law_144 : decode cL_law 144 = .ok (.iload_n 3, 1) := by decide +kernel
theorem dL_law_145 : decode cL_law 145 = .ok (.iconst 2, 1) := by decide +kernel
theorem dL_law_146 : decode cL_law 146 = .ok (.iadd, 1) := by decide +kernel
theorem dL_law_147 : decode cL_law 147 = .ok (.iaload, 1) := by decide +kernel
theorem dL_law_148 : decode cL_law 148 = .ok (.ifCond .eq 7, 3) := by decide +kernel
theorem dL_law_151 : decode cL_law 151 = .ok (.iconst 1, 1) := by decide +kernel
theorem dL_law_152 : decode cL_law 152 = .ok (.goto 4, 3) := by decide +kernel
theorem dL_law_155 : decode cL_law 155 = .ok (.iconst 0, 1) := by decide +kernel
theorem dL_law_156 : decode cL_law 156 = .ok (.invokevirtual 26, 3) := by decide +kernel
theorem dL_law_159 : decode cL_law 159 = .ok (.aload_n 2, 1) := by decide +kernel
theorem dL_law_160 : decode cL_law 160 = .ok (.aload_n 0, 1) := by decide +kernel
theorem dL_law_161 : decode cL_law 161 = .ok (.iload_n 3, 1) := by decide +kernel
theorem dL_law_162 : decode cL_law 162 = .ok (.iconst 1, 1) := by decide +kernel
theorem dL_law_163 : decode cL_law 163 = .ok (.iadd, 1) := by decide +kernel
theorem dL_law_164 : decode cL_law 164 = .ok (.iaload, 1) := by decide +kernel
theorem dL_law_165 : decode cL_law 165 = .ok (.aload_n 0, 1) := by decide +kernel
theorem dL_law_166 : decode cL_law 166 = .ok (.iload_n 3, 1) := by decide +kernel
theorem dL_law_167 : decode cL_law 167 = .ok (.iconst 2, 1) := by decide +kernel
theorem dL_law_168 : decode cL_law 168 = .ok (.iadd, 1) := by decide +kernel
theorem dL_law_169 : decode cL_law 169 = .ok (.iaload, 1) := by decide +kernel
theorem dL_law_170 : decode cL_law 170 = .ok (.ifCond .eq 7, 3) := by decide +kernel
theorem dL_law_173 : decode cL_law 173 = .ok (.iconst 1, 1) := by decide +kernel
theorem dL_law_174 : decode cL_law 174 = .ok (.goto 4, 3) := by decide +kernel
theorem dL_law_177 : decode cL_law 177 = .ok (.iconst 0, 1) := by decide +kernel
theorem dL_law_178 : decode cL_law 178 = .ok (.invokevirtual 30, 3) := by decide +kernel
theorem dL_law_181 : decode cL_law 181 = .ok (.if_icmp .eq 123, 3) := by decide +kernel
theorem dL_law_184 : decode cL_law 184 = .ok (.iconst 0, 1) := by decide +kernel
theorem dL_law_185 : decode cL_law 185 = .ok (.ireturn, 1) := by decide +kernel
theorem dL_law_186 : decode cL_law 186 = .ok (.aload_n 1, 1) := by decide +kernel
theorem dL_law_187 : decode cL_law 187 = .ok (.invokevirtual 31, 3) := by decide +kernel
theorem dL_law_190 : decode cL_law 190 = .ok (.aload_n 2, 1) := by decide +kernel
theorem dL_law_191 : decode cL_law 191 = .ok (.invokevirtual 35, 3) := by decide +kernel
theorem dL_law_194 : decode cL_law 194 = .ok (.if_icmp .eq 110, 3) := by decide +kernel
theorem dL_law_197 : decode cL_law 197 = .ok (.iconst 0, 1) := by decide +kernel
theorem dL_law_198 : decode cL_law 198 = .ok (.ireturn, 1) := by decide +kernel
theorem dL_law_199 : decode cL_law 199 = .ok (.aload_n 1, 1) := by decide +kernel
theorem dL_law_200 : decode cL_law 200 = .ok (.aload_n 0, 1) := by decide +kernel
theorem dL_law_201 : decode cL_law 201 = .ok (.iload_n 3, 1) := by decide +kernel
theorem dL_law_202 : decode cL_law 202 = .ok (.iconst 1, 1) := by decide +kernel
theorem dL_law_203 : decode cL_law 203 = .ok (.iadd, 1) := by decide +kernel
theorem dL_law_204 : decode cL_law 204 = .ok (.iaload, 1) := by decide +kernel
theorem dL_law_205 : decode cL_law 205 = .ok (.aload_n 0, 1) := by decide +kernel
theorem dL_law_206 : decode cL_law 206 = .ok (.iload_n 3, 1) := by decide +kernel
theorem dL_law_207 : decode cL_law 207 = .ok (.iconst 2, 1) := by decide +kernel
theorem dL_law_208 : decode cL_law 208 = .ok (.iadd, 1) := by decide +kernel
theorem dL_law_209 : decode cL_law 209 = .ok (.iaload, 1) := by decide +kernel
theorem dL_law_210 : decode cL_law 210 = .ok (.invokevirtual 36, 3) := by decide +kernel
theorem dL_law_213 : decode cL_law 213 = .ok (.aload_n 2, 1) := by decide +kernel
theorem dL_law_214 : decode cL_law 214 = .ok (.aload_n 0, 1) := by decide +kernel
theorem dL_law_215 : decode cL_law 215 = .ok (.iload_n 3, 1) := by decide +kernel
theorem dL_law_216 : decode cL_law 216 = .ok (.iconst 1, 1) := by decide +kernel
theorem dL_law_217 : decode cL_law 217 = .ok (.iadd, 1) := by decide +kernel
theorem dL_law_218 : decode cL_law 218 = .ok (.iaload, 1) := by decide +kernel
theorem dL_law_219 : decode cL_law 219 = .ok (.aload_n 0, 1) := by decide +kernel
theorem dL_law_220 : decode cL_law 220 = .ok (.iload_n 3, 1) := by decide +kernel
theorem dL_law_221 : decode cL_law 221 = .ok (.iconst 2, 1) := by decide +kernel
theorem dL_law_222 : decode cL_law 222 = .ok (.iadd, 1) := by decide +kernel
theorem dL_law_223 : decode cL_law 223 = .ok (.iaload, 1) := by decide +kernel
theorem dL_law_224 : decode cL_law 224 = .ok (.invokevirtual 40, 3) := by decide +kernel
theorem dL_law_227 : decode cL_law 227 = .ok (.if_icmp .eq 77, 3) := by decide +kernel
theorem dL_law_230 : decode cL_law 230 = .ok (.iconst 0, 1) := by decide +kernel
theorem dL_law_231 : decode cL_law 231 = .ok (.ireturn, 1) := by decide +kernel
theorem dL_law_232 : decode cL_law 232 = .ok (.aload_n 1, 1) := by decide +kernel
theorem dL_law_233 : decode cL_law 233 = .ok (.aload_n 0, 1) := by decide +kernel
theorem dL_law_234 : decode cL_law 234 = .ok (.iload_n 3, 1) := by decide +kernel
theorem dL_law_235 : decode cL_law 235 = .ok (.iconst 1, 1) := by decide +kernel
theorem dL_law_236 : decode cL_law 236 = .ok (.iadd, 1) := by decide +kernel
theorem dL_law_237 : decode cL_law 237 = .ok (.iaload, 1) := by decide +kernel
theorem dL_law_238 : decode cL_law 238 = .ok (.invokevirtual 41, 3) := by decide +kernel
theorem dL_law_241 : decode cL_law 241 = .ok (.aload_n 2, 1) := by decide +kernel
theorem dL_law_242 : decode cL_law 242 = .ok (.aload_n 0, 1) := by decide +kernel
theorem dL_law_243 : decode cL_law 243 = .ok (.iload_n 3, 1) := by decide +kernel
theorem dL_law_244 : decode cL_law 244 = .ok (.iconst 1, 1) := by decide +kernel
theorem dL_law_245 : decode cL_law 245 = .ok (.iadd, 1) := by decide +kernel
theorem dL_law_246 : decode cL_law 246 = .ok (.iaload, 1) := by decide +kernel
theorem dL_law_247 : decode cL_law 247 = .ok (.invokevirtual 45, 3) := by decide +kernel
theorem dL_law_250 : decode cL_law 250 = .ok (.if_icmp .eq 54, 3) := by decide +kernel
theorem dL_law_253 : decode cL_law 253 = .ok (.iconst 0, 1) := by decide +kernel
theorem dL_law_254 : decode cL_law 254 = .ok (.ireturn, 1) := by decide +kernel
theorem dL_law_255 : decode cL_law 255 = .ok (.aload_n 1, 1) := by decide +kernel
theorem dL_law_256 : decode cL_law 256 = .ok (.invokevirtual 46, 3) := by decide +kernel
theorem dL_law_259 : decode cL_law 259 = .ok (.aload_n 2, 1) := by decide +kernel
theorem dL_law_260 : decode cL_law 260 = .ok (.invokevirtual 50, 3) := by decide +kernel
theorem dL_law_263 : decode cL_law 263 = .ok (.if_icmp .eq 41, 3) := by decide +kernel
theorem dL_law_266 : decode cL_law 266 = .ok (.iconst 0, 1) := by decide +kernel
theorem dL_law_267 : decode cL_law 267 = .ok (.ireturn, 1) := by decide +kernel
theorem dL_law_268 : decode cL_law 268 = .ok (.aload_n 1, 1) := by decide +kernel
theorem dL_law_269 : decode cL_law 269 = .ok (.invokevirtual 51, 3) := by decide +kernel
theorem dL_law_272 : decode cL_law 272 = .ok (.aload_n 2, 1) := by decide +kernel
theorem dL_law_273 : decode cL_law 273 = .ok (.invokevirtual 54, 3) := by decide +kernel
theorem dL_law_276 : decode cL_law 276 = .ok (.if_icmp .eq 28, 3) := by decide +kernel
theorem dL_law_279 : decode cL_law 279 = .ok (.iconst 0, 1) := by decide +kernel
theorem dL_law_280 : decode cL_law 280 = .ok (.ireturn, 1) := by decide +kernel
theorem dL_law_281 : decode cL_law 281 = .ok (.aload_n 1, 1) := by decide +kernel
theorem dL_law_282 : decode cL_law 282 = .ok (.aload_n 0, 1) := by decide +kernel
theorem dL_law_283 : decode cL_law 283 = .ok (.iload_n 3, 1) := by decide +kernel
theorem dL_law_284 : decode cL_law 284 = .ok (.iconst 1, 1) := by decide +kernel
theorem dL_law_285 : decode cL_law 285 = .ok (.iadd, 1) := by decide +kernel
theorem dL_law_286 : decode cL_law 286 = .ok (.iaload, 1) := by decide +kernel
theorem dL_law_287 : decode cL_law 287 = .ok (.invokevirtual 55, 3) := by decide +kernel
theorem dL_law_290 : decode cL_law 290 = .ok (.aload_n 2, 1) := by decide +kernel
theorem dL_law_291 : decode cL_law 291 = .ok (.aload_n 0, 1) := by decide +kernel
theorem dL_law_292 : decode cL_law 292 = .ok (.iload_n 3, 1) := by decide +kernel
theorem dL_law_293 : decode cL_law 293 = .ok (.iconst 1, 1) := by decide +kernel
theorem dL_law_294 : decode cL_law 294 = .ok (.iadd, 1) := by decide +kernel
theorem dL_law_295 : decode cL_law 295 = .ok (.iaload, 1) := by decide +kernel
theorem dL_law_296 : decode cL_law 296 = .ok (.invokevirtual 58, 3) := by decide +kernel
theorem dL_law_299 : decode cL_law 299 = .ok (.if_icmp .eq 5, 3) := by decide +kernel
theorem dL_law_302 : decode cL_law 302 = .ok (.iconst 0, 1) := by decide +kernel
theorem dL_law_303 : decode cL_law 303 = .ok (.ireturn, 1) := by decide +kernel
theorem dL_law_304 : decode cL_law 304 = .ok (.iinc 3 3, 3) := by decide +kernel
theorem dL_law_307 : decode cL_law 307 = .ok (.goto (-279), 3) := by decide +kernel
theorem dL_law_310 : decode cL_law 310 = .ok (.iconst 1, 1) := by decide +kernel
theorem dL_law_311 : decode cL_law 311 = .ok (.ireturn, 1) := by decide +kernel
abbrev vwCl : List vw_C := [(RX0, TX0, 10), (RX1, TX1, 9)]
