/-! classes whose objects the world holds, in order; their fields; what the cells are -/
def F_0 : u_T := fun k => match k with
  | 0 => ("VectorSolver", "text", "LVectorSolver$Text;", true)
  | 1 => ("VectorSolver", "book", "LVectorSolver$Book;", true)
  | 2 => ("VectorSolver", "reader", "LVectorSolver$Reader;", true)
  | 3 => ("VectorSolver", "search", "LVectorSolver$Search;", true)
  | 4 => ("VectorSolver", "judge", "LVectorSolver$Evaluator;", true)
  | 5 => ("VectorSolver", "effortLeft", "I", false)
  | 6 => ("VectorSolver", "found", "I", false)
  | 7 => ("VectorSolver", "foundSize", "I", false)
  | 8 => ("VectorSolver", "foundThings", "I", false)
  | _ => ("VectorSolver", "falseOnes", "I", false)
def ft_0 : Nat → FieldType := fun k => match k with
  | 0 => .object "VectorSolver$Text"
  | 1 => .object "VectorSolver$Book"
  | 2 => .object "VectorSolver$Reader"
  | 3 => .object "VectorSolver$Search"
  | 4 => .object "VectorSolver$Evaluator"
  | 5 => .int
  | 6 => .int
  | 7 => .int
  | 8 => .int
  | _ => .int
def F_1 : u_T := fun k => match k with
  | 0 => ("VectorSolver$Text", "bytes", "[B", true)
  | 1 => ("VectorSolver$Text", "length", "I", false)
  | 2 => ("VectorSolver$Text", "faultKind", "I", false)
  | 3 => ("VectorSolver$Text", "faultPlace", "I", false)
  | 4 => ("VectorSolver$Text", "pieces", "[J", true)
  | 5 => ("VectorSolver$Text", "pieceCount", "I", false)
  | 6 => ("VectorSolver$Text", "nextPiece", "I", false)
  | 7 => ("VectorSolver$Text", "open", "I", false)
  | 8 => ("VectorSolver$Text", "reservedFrom", "[I", true)
  | 9 => ("VectorSolver$Text", "kind", "I", false)
  | 10 => ("VectorSolver$Text", "begin", "I", false)
  | 11 => ("VectorSolver$Text", "end", "I", false)
  | _ => ("VectorSolver$Text", "reserved", "I", false)
def ft_1 : Nat → FieldType := fun k => match k with
  | 0 => .array .byte
  | 1 => .int
  | 2 => .int
  | 3 => .int
  | 4 => .array .long
  | 5 => .int
  | 6 => .int
  | 7 => .int
  | 8 => .array .int
  | 9 => .int
  | 10 => .int
  | 11 => .int
  | _ => .int
def F_2 : u_T := fun k => match k with
  | 0 => ("VectorSolver$Book", "terms", "LVectorSolver$Terms;", true)
  | 1 => ("VectorSolver$Book", "letters", "[B", true)
  | 2 => ("VectorSolver$Book", "nameFirst", "[I", true)
  | 3 => ("VectorSolver$Book", "nameTerm", "[I", true)
  | 4 => ("VectorSolver$Book", "names", "I", false)
  | 5 => ("VectorSolver$Book", "thingTerm", "[I", true)
  | 6 => ("VectorSolver$Book", "thingName", "[I", true)
  | 7 => ("VectorSolver$Book", "before", "[I", true)
  | 8 => ("VectorSolver$Book", "things", "I", false)
  | 9 => ("VectorSolver$Book", "asserted", "[I", true)
  | 10 => ("VectorSolver$Book", "assertions", "I", false)
  | _ => ("VectorSolver$Book", "kept", "[I", true)
def ft_2 : Nat → FieldType := fun k => match k with
  | 0 => .object "VectorSolver$Terms"
  | 1 => .array .byte
  | 2 => .array .int
  | 3 => .array .int
  | 4 => .int
  | 5 => .array .int
  | 6 => .array .int
  | 7 => .array .int
  | 8 => .int
  | 9 => .array .int
  | 10 => .int
  | _ => .array .int
def F_3 : u_T := fun k => match k with
  | 0 => ("VectorSolver$Terms", "op", "[I", true)
  | 1 => ("VectorSolver$Terms", "sort", "[I", true)
  | 2 => ("VectorSolver$Terms", "first", "[I", true)
  | 3 => ("VectorSolver$Terms", "args", "[I", true)
  | 4 => ("VectorSolver$Terms", "low", "[I", true)
  | 5 => ("VectorSolver$Terms", "bits", "[J", true)
  | 6 => ("VectorSolver$Terms", "full", "[J", true)
  | 7 => ("VectorSolver$Terms", "lowest", "[I", true)
  | 8 => ("VectorSolver$Terms", "carries", "[Z", true)
  | 9 => ("VectorSolver$Terms", "made", "I", false)
  | _ => ("VectorSolver$Terms", "weight", "I", false)
def ft_3 : Nat → FieldType := fun k => match k with
  | 0 => .array .int
  | 1 => .array .int
  | 2 => .array .int
  | 3 => .array .int
  | 4 => .array .int
  | 5 => .array .long
  | 6 => .array .long
  | 7 => .array .int
  | 8 => .array .boolean
  | 9 => .int
  | _ => .int
def F_4 : u_T := fun k => match k with
  | 0 => ("VectorSolver$Reader", "text", "LVectorSolver$Text;", true)
  | 1 => ("VectorSolver$Reader", "book", "LVectorSolver$Book;", true)
  | 2 => ("VectorSolver$Reader", "terms", "LVectorSolver$Terms;", true)
  | 3 => ("VectorSolver$Reader", "stack", "[I", true)
  | 4 => ("VectorSolver$Reader", "top", "I", false)
  | 5 => ("VectorSolver$Reader", "boundBegin", "[I", true)
  | 6 => ("VectorSolver$Reader", "boundEnd", "[I", true)
  | 7 => ("VectorSolver$Reader", "boundTerm", "[I", true)
  | 8 => ("VectorSolver$Reader", "boundShown", "[Z", true)
  | 9 => ("VectorSolver$Reader", "bound", "I", false)
  | 10 => ("VectorSolver$Reader", "high", "I", false)
  | _ => ("VectorSolver$Reader", "low", "I", false)
def ft_4 : Nat → FieldType := fun k => match k with
  | 0 => .object "VectorSolver$Text"
  | 1 => .object "VectorSolver$Book"
  | 2 => .object "VectorSolver$Terms"
  | 3 => .array .int
  | 4 => .int
  | 5 => .array .int
  | 6 => .array .int
  | 7 => .array .int
  | 8 => .array .boolean
  | 9 => .int
  | 10 => .int
  | _ => .int
def F_5 : u_T := fun k => match k with
  | 0 => ("VectorSolver$Search", "book", "LVectorSolver$Book;", true)
  | 1 => ("VectorSolver$Search", "terms", "LVectorSolver$Terms;", true)
  | 2 => ("VectorSolver$Search", "evaluator", "LVectorSolver$Evaluator;", true)
  | 3 => ("VectorSolver$Search", "learner", "LVectorSolver$Learner;", true)
  | 4 => ("VectorSolver$Search", "checker", "LVectorSolver$Checker;", true)
  | 5 => ("VectorSolver$Search", "depends", "[I", true)
  | 6 => ("VectorSolver$Search", "goals", "[I", true)
  | 7 => ("VectorSolver$Search", "goalCount", "I", false)
  | 8 => ("VectorSolver$Search", "steps", "[I", true)
  | 9 => ("VectorSolver$Search", "stepEnd", "[I", true)
  | 10 => ("VectorSolver$Search", "stepsAt", "[I", true)
  | 11 => ("VectorSolver$Search", "marked", "[B", true)
  | 12 => ("VectorSolver$Search", "listed", "[B", true)
  | 13 => ("VectorSolver$Search", "nogoodMask", "[I", true)
  | 14 => ("VectorSolver$Search", "nogoodHeld", "[I", true)
  | 15 => ("VectorSolver$Search", "size", "I", false)
  | 16 => ("VectorSolver$Search", "allBits", "I", false)
  | _ => ("VectorSolver$Search", "refusedOnes", "I", false)
def ft_5 : Nat → FieldType := fun k => match k with
  | 0 => .object "VectorSolver$Book"
  | 1 => .object "VectorSolver$Terms"
  | 2 => .object "VectorSolver$Evaluator"
  | 3 => .object "VectorSolver$Learner"
  | 4 => .object "VectorSolver$Checker"
  | 5 => .array .int
  | 6 => .array .int
  | 7 => .int
  | 8 => .array .int
  | 9 => .array .int
  | 10 => .array .int
  | 11 => .array .byte
  | 12 => .array .byte
  | 13 => .array .int
  | 14 => .array .int
  | 15 => .int
  | 16 => .int
  | _ => .int
def F_6 : u_T := fun k => match k with
  | 0 => ("VectorSolver$Evaluator", "book", "LVectorSolver$Book;", true)
  | 1 => ("VectorSolver$Evaluator", "terms", "LVectorSolver$Terms;", true)
  | _ => ("VectorSolver$Evaluator", "worth", "[J", true)
def ft_6 : Nat → FieldType := fun k => match k with
  | 0 => .object "VectorSolver$Book"
  | 1 => .object "VectorSolver$Terms"
  | _ => .array .long
def F_7 : u_T := fun k => match k with
  | 0 => ("VectorSolver$Learner", "book", "LVectorSolver$Book;", true)
  | 1 => ("VectorSolver$Learner", "terms", "LVectorSolver$Terms;", true)
  | 2 => ("VectorSolver$Learner", "worth", "[J", true)
  | 3 => ("VectorSolver$Learner", "depends", "[I", true)
  | 4 => ("VectorSolver$Learner", "asked", "[J", true)
  | 5 => ("VectorSolver$Learner", "size", "I", false)
  | _ => ("VectorSolver$Learner", "mask", "I", false)
def ft_7 : Nat → FieldType := fun k => match k with
  | 0 => .object "VectorSolver$Book"
  | 1 => .object "VectorSolver$Terms"
  | 2 => .array .long
  | 3 => .array .int
  | 4 => .array .long
  | 5 => .int
  | _ => .int
def F_8 : u_T := fun k => match k with
  | 0 => ("VectorSolver$Checker", "book", "LVectorSolver$Book;", true)
  | 1 => ("VectorSolver$Checker", "terms", "LVectorSolver$Terms;", true)
  | 2 => ("VectorSolver$Checker", "known", "[J", true)
  | 3 => ("VectorSolver$Checker", "ones", "[J", true)
  | _ => ("VectorSolver$Checker", "marked", "[B", true)
def ft_8 : Nat → FieldType := fun k => match k with
  | 0 => .object "VectorSolver$Book"
  | 1 => .object "VectorSolver$Terms"
  | 2 => .array .long
  | 3 => .array .long
  | _ => .array .byte
def F_9 : u_T := fun k => match k with
  | 0 => ("VectorSolverModel", "words", "Ljava/lang/String;", true)
  | 1 => ("VectorSolverModel", "code", "I", false)
  | 2 => ("VectorSolverModel", "text", "[B", true)
  | 3 => ("VectorSolverModel", "size", "I", false)
  | 4 => ("VectorSolverModel", "fault", "I", false)
  | 5 => ("VectorSolverModel", "place", "I", false)
  | 6 => ("VectorSolverModel", "kind", "[B", true)
  | 7 => ("VectorSolverModel", "from", "[I", true)
  | 8 => ("VectorSolverModel", "to", "[I", true)
  | 9 => ("VectorSolverModel", "reserved", "[B", true)
  | 10 => ("VectorSolverModel", "at", "I", false)
  | 11 => ("VectorSolverModel", "terms", "I", false)
  | 12 => ("VectorSolverModel", "what", "[I", true)
  | 13 => ("VectorSolverModel", "index", "[I", true)
  | 14 => ("VectorSolverModel", "width", "[I", true)
  | 15 => ("VectorSolverModel", "firstArgument", "[I", true)
  | 16 => ("VectorSolverModel", "many", "[I", true)
  | 17 => ("VectorSolverModel", "one", "[I", true)
  | 18 => ("VectorSolverModel", "two", "[I", true)
  | 19 => ("VectorSolverModel", "called", "[I", true)
  | 20 => ("VectorSolverModel", "value", "[J", true)
  | 21 => ("VectorSolverModel", "argumentCount", "I", false)
  | 22 => ("VectorSolverModel", "arguments", "[I", true)
  | 23 => ("VectorSolverModel", "names", "I", false)
  | 24 => ("VectorSolverModel", "nameEnd", "[I", true)
  | 25 => ("VectorSolverModel", "nameTerm", "[I", true)
  | 26 => ("VectorSolverModel", "letters", "[B", true)
  | 27 => ("VectorSolverModel", "assertions", "I", false)
  | 28 => ("VectorSolverModel", "assertion", "[I", true)
  | 29 => ("VectorSolverModel", "pile", "I", false)
  | 30 => ("VectorSolverModel", "sort", "[I", true)
  | 31 => ("VectorSolverModel", "begin", "[I", true)
  | 32 => ("VectorSolverModel", "op", "[I", true)
  | 33 => ("VectorSolverModel", "opOne", "[I", true)
  | 34 => ("VectorSolverModel", "opTwo", "[I", true)
  | 35 => ("VectorSolverModel", "given", "[I", true)
  | 36 => ("VectorSolverModel", "held", "I", false)
  | 37 => ("VectorSolverModel", "hold", "[I", true)
  | 38 => ("VectorSolverModel", "bound", "I", false)
  | 39 => ("VectorSolverModel", "boundWord", "[I", true)
  | 40 => ("VectorSolverModel", "boundTerm", "[I", true)
  | 41 => ("VectorSolverModel", "boundLet", "[I", true)
  | 42 => ("VectorSolverModel", "things", "I", false)
  | 43 => ("VectorSolverModel", "thing", "[I", true)
  | 44 => ("VectorSolverModel", "weight", "I", false)
  | 45 => ("VectorSolverModel", "bits", "I", false)
  | 46 => ("VectorSolverModel", "spent", "J", false)
  | 47 => ("VectorSolverModel", "now", "[J", true)
  | 48 => ("VectorSolverModel", "needed", "[Z", true)
  | 49 => ("VectorSolverModel", "wanted", "[Z", true)
  | 50 => ("VectorSolverModel", "found", "Z", false)
  | 51 => ("VectorSolverModel", "best", "J", false)
  | 52 => ("VectorSolverModel", "bestBits", "I", false)
  | 53 => ("VectorSolverModel", "readIndex", "I", false)
  | 54 => ("VectorSolverModel", "readWidth", "I", false)
  | 55 => ("VectorSolverModel", "begun", "I", false)
  | 56 => ("VectorSolverModel", "newIndex", "I", false)
  | _ => ("VectorSolverModel", "newWidth", "I", false)
def ft_9 : Nat → FieldType := fun k => match k with
  | 0 => .object "java/lang/String"
  | 1 => .int
  | 2 => .array .byte
  | 3 => .int
  | 4 => .int
  | 5 => .int
  | 6 => .array .byte
  | 7 => .array .int
  | 8 => .array .int
  | 9 => .array .byte
  | 10 => .int
  | 11 => .int
  | 12 => .array .int
  | 13 => .array .int
  | 14 => .array .int
  | 15 => .array .int
  | 16 => .array .int
  | 17 => .array .int
  | 18 => .array .int
  | 19 => .array .int
  | 20 => .array .long
  | 21 => .int
  | 22 => .array .int
  | 23 => .int
  | 24 => .array .int
  | 25 => .array .int
  | 26 => .array .byte
  | 27 => .int
  | 28 => .array .int
  | 29 => .int
  | 30 => .array .int
  | 31 => .array .int
  | 32 => .array .int
  | 33 => .array .int
  | 34 => .array .int
  | 35 => .array .int
  | 36 => .int
  | 37 => .array .int
  | 38 => .int
  | 39 => .array .int
  | 40 => .array .int
  | 41 => .array .int
  | 42 => .int
  | 43 => .array .int
  | 44 => .int
  | 45 => .int
  | 46 => .long
  | 47 => .array .long
  | 48 => .array .boolean
  | 49 => .array .boolean
  | 50 => .boolean
  | 51 => .long
  | 52 => .int
  | 53 => .int
  | 54 => .int
  | 55 => .int
  | 56 => .int
  | _ => .int
abbrev xcl : List vw_C := [("VectorSolver", F_0, 10), ("VectorSolver$Text", F_1, 13), ("VectorSolver$Book", F_2, 12), ("VectorSolver$Terms", F_3, 11), ("VectorSolver$Reader", F_4, 12), ("VectorSolver$Search", F_5, 18), ("VectorSolver$Evaluator", F_6, 3), ("VectorSolver$Learner", F_7, 7), ("VectorSolver$Checker", F_8, 5), ("VectorSolverModel", F_9, 58)]
def xty (ci : Nat) : Nat → FieldType := match ci with
  | 0 => ft_0
  | 1 => ft_1
  | 2 => ft_2
  | 3 => ft_3
  | 4 => ft_4
  | 5 => ft_5
  | 6 => ft_6
  | 7 => ft_7
  | 8 => ft_8
  | _ => ft_9
def xN (ci : Nat) : Nat := match ci with
  | 0 => 10
  | 1 => 13
  | 2 => 12
  | 3 => 11
  | 4 => 12
  | 5 => 18
  | 6 => 3
  | 7 => 7
  | 8 => 5
  | _ => 58
def xF (ci : Nat) : u_T := match ci with
  | 0 => F_0
  | 1 => F_1
  | 2 => F_2
  | 3 => F_3
  | 4 => F_4
  | 5 => F_5
  | 6 => F_6
  | 7 => F_7
  | 8 => F_8
  | _ => F_9
def xfin (ci j : Nat) : Bool := (xF ci j).2.2.2
theorem fty_0 : ∀ k, k < 10 → parseFieldDescriptor (F_0 k).2.2.1 = some (ft_0 k) := by decide +kernel
theorem fnm_0 : ∀ a, a < 10 → ∀ b, b < 10 → a ≠ b → (F_0 a).2.1 ≠ (F_0 b).2.1 := by decide +kernel
theorem fin_0 : ∀ w ∈ u_ws "VectorSolver" F_0 10, w ∈ lw_gd := by
  intro w hw
  obtain ⟨k, hk, rfl⟩ := List.mem_map.mp hw
  have hk := List.mem_range.mp hk
  match k, hk with
  | 0, _ => exact (lw_i3 (List.mem_of_getElem? (i := 1) rfl))
  | 1, _ => exact (lw_i3 (List.mem_of_getElem? (i := 3) rfl))
  | 2, _ => exact (lw_i3 (List.mem_of_getElem? (i := 5) rfl))
  | 3, _ => exact (lw_i3 (List.mem_of_getElem? (i := 7) rfl))
  | 4, _ => exact (lw_i3 (List.mem_of_getElem? (i := 9) rfl))
  | 5, _ => exact (lw_i3 (List.mem_of_getElem? (i := 11) rfl))
  | 6, _ => exact (lw_i3 (List.mem_of_getElem? (i := 13) rfl))
  | 7, _ => exact (lw_i3 (List.mem_of_getElem? (i := 15) rfl))
  | 8, _ => exact (lw_i3 (List.mem_of_getElem? (i := 17) rfl))
  | 9, _ => exact (lw_i3 (List.mem_of_getElem? (i := 19) rfl))
  | k + 10, hk => exact absurd hk (by omega)
theorem fty_1 : ∀ k, k < 13 → parseFieldDescriptor (F_1 k).2.2.1 = some (ft_1 k) := by decide +kernel
theorem fnm_1 : ∀ a, a < 13 → ∀ b, b < 13 → a ≠ b → (F_1 a).2.1 ≠ (F_1 b).2.1 := by decide +kernel
theorem fin_1 : ∀ w ∈ u_ws "VectorSolver$Text" F_1 13, w ∈ lw_gd := by
  intro w hw
  obtain ⟨k, hk, rfl⟩ := List.mem_map.mp hw
  have hk := List.mem_range.mp hk
  match k, hk with
  | 0, _ => exact (lw_i1 (List.mem_of_getElem? (i := 115) rfl))
  | 1, _ => exact (lw_i1 (List.mem_of_getElem? (i := 117) rfl))
  | 2, _ => exact (lw_i1 (List.mem_of_getElem? (i := 119) rfl))
  | 3, _ => exact (lw_i1 (List.mem_of_getElem? (i := 121) rfl))
  | 4, _ => exact (lw_i1 (List.mem_of_getElem? (i := 123) rfl))
  | 5, _ => exact (lw_i1 (List.mem_of_getElem? (i := 125) rfl))
  | 6, _ => exact (lw_i1 (List.mem_of_getElem? (i := 127) rfl))
  | 7, _ => exact (lw_i1 (List.mem_of_getElem? (i := 129) rfl))
  | 8, _ => exact (lw_i1 (List.mem_of_getElem? (i := 131) rfl))
  | 9, _ => exact (lw_i1 (List.mem_of_getElem? (i := 133) rfl))
  | 10, _ => exact (lw_i1 (List.mem_of_getElem? (i := 135) rfl))
  | 11, _ => exact (lw_i1 (List.mem_of_getElem? (i := 137) rfl))
  | 12, _ => exact (lw_i1 (List.mem_of_getElem? (i := 139) rfl))
  | k + 13, hk => exact absurd hk (by omega)
theorem fty_2 : ∀ k, k < 12 → parseFieldDescriptor (F_2 k).2.2.1 = some (ft_2 k) := by decide +kernel
theorem fnm_2 : ∀ a, a < 12 → ∀ b, b < 12 → a ≠ b → (F_2 a).2.1 ≠ (F_2 b).2.1 := by decide +kernel
theorem fin_2 : ∀ w ∈ u_ws "VectorSolver$Book" F_2 12, w ∈ lw_gd := by
  intro w hw
  obtain ⟨k, hk, rfl⟩ := List.mem_map.mp hw
  have hk := List.mem_range.mp hk
  match k, hk with
  | 0, _ => exact (lw_i2 (List.mem_of_getElem? (i := 30) rfl))
  | 1, _ => exact (lw_i2 (List.mem_of_getElem? (i := 32) rfl))
  | 2, _ => exact (lw_i2 (List.mem_of_getElem? (i := 34) rfl))
  | 3, _ => exact (lw_i2 (List.mem_of_getElem? (i := 36) rfl))
  | 4, _ => exact (lw_i2 (List.mem_of_getElem? (i := 38) rfl))
  | 5, _ => exact (lw_i2 (List.mem_of_getElem? (i := 40) rfl))
  | 6, _ => exact (lw_i2 (List.mem_of_getElem? (i := 42) rfl))
  | 7, _ => exact (lw_i2 (List.mem_of_getElem? (i := 44) rfl))
  | 8, _ => exact (lw_i2 (List.mem_of_getElem? (i := 46) rfl))
  | 9, _ => exact (lw_i2 (List.mem_of_getElem? (i := 48) rfl))
  | 10, _ => exact (lw_i2 (List.mem_of_getElem? (i := 50) rfl))
  | 11, _ => exact (lw_i2 (List.mem_of_getElem? (i := 52) rfl))
  | k + 12, hk => exact absurd hk (by omega)
theorem fty_3 : ∀ k, k < 11 → parseFieldDescriptor (F_3 k).2.2.1 = some (ft_3 k) := by decide +kernel
theorem fnm_3 : ∀ a, a < 11 → ∀ b, b < 11 → a ≠ b → (F_3 a).2.1 ≠ (F_3 b).2.1 := by decide +kernel
theorem fin_3 : ∀ w ∈ u_ws "VectorSolver$Terms" F_3 11, w ∈ lw_gd := by
  intro w hw
  obtain ⟨k, hk, rfl⟩ := List.mem_map.mp hw
  have hk := List.mem_range.mp hk
  match k, hk with
  | 0, _ => exact (lw_i1 (List.mem_of_getElem? (i := 210) rfl))
  | 1, _ => exact (lw_i1 (List.mem_of_getElem? (i := 212) rfl))
  | 2, _ => exact (lw_i1 (List.mem_of_getElem? (i := 214) rfl))
  | 3, _ => exact (lw_i1 (List.mem_of_getElem? (i := 216) rfl))
  | 4, _ => exact (lw_i1 (List.mem_of_getElem? (i := 218) rfl))
  | 5, _ => exact (lw_i1 (List.mem_of_getElem? (i := 220) rfl))
  | 6, _ => exact (lw_i1 (List.mem_of_getElem? (i := 222) rfl))
  | 7, _ => exact (lw_i1 (List.mem_of_getElem? (i := 224) rfl))
  | 8, _ => exact (lw_i1 (List.mem_of_getElem? (i := 226) rfl))
  | 9, _ => exact (lw_i1 (List.mem_of_getElem? (i := 228) rfl))
  | 10, _ => exact (lw_i1 (List.mem_of_getElem? (i := 230) rfl))
  | k + 11, hk => exact absurd hk (by omega)
theorem fty_4 : ∀ k, k < 12 → parseFieldDescriptor (F_4 k).2.2.1 = some (ft_4 k) := by decide +kernel
theorem fnm_4 : ∀ a, a < 12 → ∀ b, b < 12 → a ≠ b → (F_4 a).2.1 ≠ (F_4 b).2.1 := by decide +kernel
theorem fin_4 : ∀ w ∈ u_ws "VectorSolver$Reader" F_4 12, w ∈ lw_gd := by
  intro w hw
  obtain ⟨k, hk, rfl⟩ := List.mem_map.mp hw
  have hk := List.mem_range.mp hk
  match k, hk with
  | 0, _ => exact (lw_i2 (List.mem_of_getElem? (i := 73) rfl))
  | 1, _ => exact (lw_i2 (List.mem_of_getElem? (i := 75) rfl))
  | 2, _ => exact (lw_i2 (List.mem_of_getElem? (i := 77) rfl))
  | 3, _ => exact (lw_i2 (List.mem_of_getElem? (i := 79) rfl))
  | 4, _ => exact (lw_i2 (List.mem_of_getElem? (i := 81) rfl))
  | 5, _ => exact (lw_i2 (List.mem_of_getElem? (i := 83) rfl))
  | 6, _ => exact (lw_i2 (List.mem_of_getElem? (i := 85) rfl))
  | 7, _ => exact (lw_i2 (List.mem_of_getElem? (i := 87) rfl))
  | 8, _ => exact (lw_i2 (List.mem_of_getElem? (i := 89) rfl))
  | 9, _ => exact (lw_i2 (List.mem_of_getElem? (i := 91) rfl))
  | 10, _ => exact (lw_i2 (List.mem_of_getElem? (i := 93) rfl))
  | 11, _ => exact (lw_i2 (List.mem_of_getElem? (i := 95) rfl))
  | k + 12, hk => exact absurd hk (by omega)
theorem fty_5 : ∀ k, k < 18 → parseFieldDescriptor (F_5 k).2.2.1 = some (ft_5 k) := by decide +kernel
theorem fnm_5 : ∀ a, a < 18 → ∀ b, b < 18 → a ≠ b → (F_5 a).2.1 ≠ (F_5 b).2.1 := by decide +kernel
theorem fin_5 : ∀ w ∈ u_ws "VectorSolver$Search" F_5 18, w ∈ lw_gd := by
  intro w hw
  obtain ⟨k, hk, rfl⟩ := List.mem_map.mp hw
  have hk := List.mem_range.mp hk
  match k, hk with
  | 0, _ => exact (lw_i2 (List.mem_of_getElem? (i := 191) rfl))
  | 1, _ => exact (lw_i2 (List.mem_of_getElem? (i := 193) rfl))
  | 2, _ => exact (lw_i2 (List.mem_of_getElem? (i := 195) rfl))
  | 3, _ => exact (lw_i2 (List.mem_of_getElem? (i := 197) rfl))
  | 4, _ => exact (lw_i2 (List.mem_of_getElem? (i := 199) rfl))
  | 5, _ => exact (lw_i2 (List.mem_of_getElem? (i := 201) rfl))
  | 6, _ => exact (lw_i2 (List.mem_of_getElem? (i := 203) rfl))
  | 7, _ => exact (lw_i2 (List.mem_of_getElem? (i := 205) rfl))
  | 8, _ => exact (lw_i2 (List.mem_of_getElem? (i := 207) rfl))
  | 9, _ => exact (lw_i2 (List.mem_of_getElem? (i := 209) rfl))
  | 10, _ => exact (lw_i2 (List.mem_of_getElem? (i := 211) rfl))
  | 11, _ => exact (lw_i2 (List.mem_of_getElem? (i := 213) rfl))
  | 12, _ => exact (lw_i2 (List.mem_of_getElem? (i := 215) rfl))
  | 13, _ => exact (lw_i2 (List.mem_of_getElem? (i := 217) rfl))
  | 14, _ => exact (lw_i2 (List.mem_of_getElem? (i := 219) rfl))
  | 15, _ => exact (lw_i2 (List.mem_of_getElem? (i := 221) rfl))
  | 16, _ => exact (lw_i2 (List.mem_of_getElem? (i := 223) rfl))
  | 17, _ => exact (lw_i2 (List.mem_of_getElem? (i := 225) rfl))
  | k + 18, hk => exact absurd hk (by omega)
theorem fty_6 : ∀ k, k < 3 → parseFieldDescriptor (F_6 k).2.2.1 = some (ft_6 k) := by decide +kernel
theorem fnm_6 : ∀ a, a < 3 → ∀ b, b < 3 → a ≠ b → (F_6 a).2.1 ≠ (F_6 b).2.1 := by decide +kernel
theorem fin_6 : ∀ w ∈ u_ws "VectorSolver$Evaluator" F_6 3, w ∈ lw_gd := by
  intro w hw
  obtain ⟨k, hk, rfl⟩ := List.mem_map.mp hw
  have hk := List.mem_range.mp hk
  match k, hk with
  | 0, _ => exact (lw_i2 (List.mem_of_getElem? (i := 115) rfl))
  | 1, _ => exact (lw_i2 (List.mem_of_getElem? (i := 117) rfl))
  | 2, _ => exact (lw_i2 (List.mem_of_getElem? (i := 119) rfl))
  | k + 3, hk => exact absurd hk (by omega)
theorem fty_7 : ∀ k, k < 7 → parseFieldDescriptor (F_7 k).2.2.1 = some (ft_7 k) := by decide +kernel
theorem fnm_7 : ∀ a, a < 7 → ∀ b, b < 7 → a ≠ b → (F_7 a).2.1 ≠ (F_7 b).2.1 := by decide +kernel
theorem fin_7 : ∀ w ∈ u_ws "VectorSolver$Learner" F_7 7, w ∈ lw_gd := by
  intro w hw
  obtain ⟨k, hk, rfl⟩ := List.mem_map.mp hw
  have hk := List.mem_range.mp hk
  match k, hk with
  | 0, _ => exact (lw_i2 (List.mem_of_getElem? (i := 135) rfl))
  | 1, _ => exact (lw_i2 (List.mem_of_getElem? (i := 137) rfl))
  | 2, _ => exact (lw_i2 (List.mem_of_getElem? (i := 139) rfl))
  | 3, _ => exact (lw_i2 (List.mem_of_getElem? (i := 141) rfl))
  | 4, _ => exact (lw_i2 (List.mem_of_getElem? (i := 143) rfl))
  | 5, _ => exact (lw_i2 (List.mem_of_getElem? (i := 145) rfl))
  | 6, _ => exact (lw_i2 (List.mem_of_getElem? (i := 147) rfl))
  | k + 7, hk => exact absurd hk (by omega)
theorem fty_8 : ∀ k, k < 5 → parseFieldDescriptor (F_8 k).2.2.1 = some (ft_8 k) := by decide +kernel
theorem fnm_8 : ∀ a, a < 5 → ∀ b, b < 5 → a ≠ b → (F_8 a).2.1 ≠ (F_8 b).2.1 := by decide +kernel
theorem fin_8 : ∀ w ∈ u_ws "VectorSolver$Checker" F_8 5, w ∈ lw_gd := by
  intro w hw
  obtain ⟨k, hk, rfl⟩ := List.mem_map.mp hw
  have hk := List.mem_range.mp hk
  match k, hk with
  | 0, _ => exact (lw_i2 (List.mem_of_getElem? (i := 161) rfl))
  | 1, _ => exact (lw_i2 (List.mem_of_getElem? (i := 163) rfl))
  | 2, _ => exact (lw_i2 (List.mem_of_getElem? (i := 165) rfl))
  | 3, _ => exact (lw_i2 (List.mem_of_getElem? (i := 167) rfl))
  | 4, _ => exact (lw_i2 (List.mem_of_getElem? (i := 169) rfl))
  | k + 5, hk => exact absurd hk (by omega)
theorem fty_9 : ∀ k, k < 58 → parseFieldDescriptor (F_9 k).2.2.1 = some (ft_9 k) := by decide +kernel
theorem fnm_9 : ∀ a, a < 58 → ∀ b, b < 58 → a ≠ b → (F_9 a).2.1 ≠ (F_9 b).2.1 := by decide +kernel
theorem fin_9 : ∀ w ∈ u_ws "VectorSolverModel" F_9 58, w ∈ lw_gd := by
  intro w hw
  obtain ⟨k, hk, rfl⟩ := List.mem_map.mp hw
  have hk := List.mem_range.mp hk
  match k, hk with
  | 0, _ => exact (lw_i7 (List.mem_of_getElem? (i := 15) rfl))
  | 1, _ => exact (lw_i7 (List.mem_of_getElem? (i := 17) rfl))
  | 2, _ => exact (lw_i7 (List.mem_of_getElem? (i := 19) rfl))
  | 3, _ => exact (lw_i7 (List.mem_of_getElem? (i := 21) rfl))
  | 4, _ => exact (lw_i7 (List.mem_of_getElem? (i := 23) rfl))
  | 5, _ => exact (lw_i7 (List.mem_of_getElem? (i := 25) rfl))
  | 6, _ => exact (lw_i7 (List.mem_of_getElem? (i := 27) rfl))
  | 7, _ => exact (lw_i7 (List.mem_of_getElem? (i := 29) rfl))
  | 8, _ => exact (lw_i7 (List.mem_of_getElem? (i := 31) rfl))
  | 9, _ => exact (lw_i7 (List.mem_of_getElem? (i := 33) rfl))
  | 10, _ => exact (lw_i7 (List.mem_of_getElem? (i := 35) rfl))
  | 11, _ => exact (lw_i7 (List.mem_of_getElem? (i := 37) rfl))
  | 12, _ => exact (lw_i7 (List.mem_of_getElem? (i := 39) rfl))
  | 13, _ => exact (lw_i7 (List.mem_of_getElem? (i := 41) rfl))
  | 14, _ => exact (lw_i7 (List.mem_of_getElem? (i := 43) rfl))
  | 15, _ => exact (lw_i7 (List.mem_of_getElem? (i := 45) rfl))
  | 16, _ => exact (lw_i7 (List.mem_of_getElem? (i := 47) rfl))
  | 17, _ => exact (lw_i7 (List.mem_of_getElem? (i := 49) rfl))
  | 18, _ => exact (lw_i7 (List.mem_of_getElem? (i := 51) rfl))
  | 19, _ => exact (lw_i7 (List.mem_of_getElem? (i := 53) rfl))
  | 20, _ => exact (lw_i7 (List.mem_of_getElem? (i := 55) rfl))
  | 21, _ => exact (lw_i7 (List.mem_of_getElem? (i := 57) rfl))
  | 22, _ => exact (lw_i7 (List.mem_of_getElem? (i := 59) rfl))
  | 23, _ => exact (lw_i7 (List.mem_of_getElem? (i := 61) rfl))
  | 24, _ => exact (lw_i7 (List.mem_of_getElem? (i := 63) rfl))
  | 25, _ => exact (lw_i7 (List.mem_of_getElem? (i := 65) rfl))
  | 26, _ => exact (lw_i7 (List.mem_of_getElem? (i := 67) rfl))
  | 27, _ => exact (lw_i7 (List.mem_of_getElem? (i := 69) rfl))
  | 28, _ => exact (lw_i7 (List.mem_of_getElem? (i := 71) rfl))
  | 29, _ => exact (lw_i7 (List.mem_of_getElem? (i := 73) rfl))
  | 30, _ => exact (lw_i7 (List.mem_of_getElem? (i := 75) rfl))
  | 31, _ => exact (lw_i7 (List.mem_of_getElem? (i := 77) rfl))
  | 32, _ => exact (lw_i7 (List.mem_of_getElem? (i := 79) rfl))
  | 33, _ => exact (lw_i7 (List.mem_of_getElem? (i := 81) rfl))
  | 34, _ => exact (lw_i7 (List.mem_of_getElem? (i := 83) rfl))
  | 35, _ => exact (lw_i7 (List.mem_of_getElem? (i := 85) rfl))
  | 36, _ => exact (lw_i7 (List.mem_of_getElem? (i := 87) rfl))
  | 37, _ => exact (lw_i7 (List.mem_of_getElem? (i := 89) rfl))
  | 38, _ => exact (lw_i7 (List.mem_of_getElem? (i := 91) rfl))
  | 39, _ => exact (lw_i7 (List.mem_of_getElem? (i := 93) rfl))
  | 40, _ => exact (lw_i7 (List.mem_of_getElem? (i := 95) rfl))
  | 41, _ => exact (lw_i7 (List.mem_of_getElem? (i := 97) rfl))
  | 42, _ => exact (lw_i7 (List.mem_of_getElem? (i := 99) rfl))
  | 43, _ => exact (lw_i7 (List.mem_of_getElem? (i := 101) rfl))
  | 44, _ => exact (lw_i7 (List.mem_of_getElem? (i := 103) rfl))
  | 45, _ => exact (lw_i7 (List.mem_of_getElem? (i := 105) rfl))
  | 46, _ => exact (lw_i7 (List.mem_of_getElem? (i := 107) rfl))
  | 47, _ => exact (lw_i7 (List.mem_of_getElem? (i := 109) rfl))
  | 48, _ => exact (lw_i7 (List.mem_of_getElem? (i := 111) rfl))
  | 49, _ => exact (lw_i7 (List.mem_of_getElem? (i := 113) rfl))
  | 50, _ => exact (lw_i7 (List.mem_of_getElem? (i := 115) rfl))
  | 51, _ => exact (lw_i7 (List.mem_of_getElem? (i := 117) rfl))
  | 52, _ => exact (lw_i7 (List.mem_of_getElem? (i := 119) rfl))
  | 53, _ => exact (lw_i7 (List.mem_of_getElem? (i := 121) rfl))
  | 54, _ => exact (lw_i7 (List.mem_of_getElem? (i := 123) rfl))
  | 55, _ => exact (lw_i7 (List.mem_of_getElem? (i := 125) rfl))
  | 56, _ => exact (lw_i7 (List.mem_of_getElem? (i := 127) rfl))
  | 57, _ => exact (lw_i7 (List.mem_of_getElem? (i := 129) rfl))
  | k + 58, hk => exact absurd hk (by omega)
theorem xcl_in {ci : Nat} {C : String} {T : u_T} {N : Nat} (h : xcl[ci]? = some (C, T, N)) : ∀ w ∈ u_ws C T N, w ∈ lw_gd := by
  match ci, h with
  | 0, h => cases h; exact fin_0
  | 1, h => cases h; exact fin_1
  | 2, h => cases h; exact fin_2
  | 3, h => cases h; exact fin_3
  | 4, h => cases h; exact fin_4
  | 5, h => cases h; exact fin_5
  | 6, h => cases h; exact fin_6
  | 7, h => cases h; exact fin_7
  | 8, h => cases h; exact fin_8
  | 9, h => cases h; exact fin_9
  | ci + 10, h => exact absurd h (by simp [xcl])
theorem xcl_ty {ci : Nat} {C : String} {T : u_T} {N : Nat} (h : xcl[ci]? = some (C, T, N)) : ∀ j, j < N → parseFieldDescriptor (T j).2.2.1 = some (xty ci j) := by
  match ci, h with
  | 0, h => cases h; exact fty_0
  | 1, h => cases h; exact fty_1
  | 2, h => cases h; exact fty_2
  | 3, h => cases h; exact fty_3
  | 4, h => cases h; exact fty_4
  | 5, h => cases h; exact fty_5
  | 6, h => cases h; exact fty_6
  | 7, h => cases h; exact fty_7
  | 8, h => cases h; exact fty_8
  | 9, h => cases h; exact fty_9
  | ci + 10, h => exact absurd h (by simp [xcl])
theorem xcl_nm {ci : Nat} {C : String} {T : u_T} {N : Nat} (h : xcl[ci]? = some (C, T, N)) : ∀ a, a < N → ∀ b, b < N → a ≠ b → (T a).2.1 ≠ (T b).2.1 := by
  match ci, h with
  | 0, h => cases h; exact fnm_0
  | 1, h => cases h; exact fnm_1
  | 2, h => cases h; exact fnm_2
  | 3, h => cases h; exact fnm_3
  | 4, h => cases h; exact fnm_4
  | 5, h => cases h; exact fnm_5
  | 6, h => cases h; exact fnm_6
  | 7, h => cases h; exact fnm_7
  | 8, h => cases h; exact fnm_8
  | 9, h => cases h; exact fnm_9
  | ci + 10, h => exact absurd h (by simp [xcl])
theorem xfin_of {ci : Nat} {C : String} {T : u_T} {N j : Nat} (h : xcl[ci]? = some (C, T, N)) (hj : j < N) : xfin ci j = (T j).2.2.2 := by
  match ci, h with
  | 0, h => cases h; rfl
  | 1, h => cases h; rfl
  | 2, h => cases h; rfl
  | 3, h => cases h; rfl
  | 4, h => cases h; rfl
  | 5, h => cases h; rfl
  | 6, h => cases h; rfl
  | 7, h => cases h; rfl
  | 8, h => cases h; rfl
  | 9, h => cases h; rfl
  | ci + 10, h => exact absurd h (by simp [xcl])
/-- a cell: an object (the number of its class, what its slots of references hold), or an array (type, length) -/
abbrev xSh : Type := (Nat × List (Option Nat)) ⊕ (FieldType × Nat)
def SHP : List xSh := [.inl (0, [some 1, some 5, some 24, some 30, some 48, none, none, none, none, none]), .inl (1, [some 2, none, none, none, some 3, none, none, none, some 4, none, none, none, none]), .inr (.byte, 65536), .inr (.long, 65537), .inr (.int, 48), .inl (2, [some 6, some 16, some 17, some 18, none, some 19, some 20, some 21, none, some 22, none, some 23]), .inl (3, [some 7, some 8, some 9, some 10, some 11, some 12, some 13, some 14, some 15, none, none]), .inr (.int, 2000), .inr (.int, 2000), .inr (.int, 2001), .inr (.int, 80000), .inr (.int, 2000), .inr (.long, 2000), .inr (.long, 2000), .inr (.int, 2000), .inr (.boolean, 2000), .inr (.byte, 65536), .inr (.int, 501), .inr (.int, 500), .inr (.int, 500), .inr (.int, 500), .inr (.int, 501), .inr (.int, 500), .inr (.int, 5), .inl (4, [some 1, some 5, some 6, some 25, none, some 26, some 27, some 28, some 29, none, none, none]), .inr (.int, 2400), .inr (.int, 16), .inr (.int, 16), .inr (.int, 16), .inr (.boolean, 16), .inl (5, [some 5, some 6, some 40, some 42, some 44, some 31, some 32, none, some 33, some 34, some 35, some 36, some 37, some 38, some 39, none, none, none]), .inr (.int, 2000), .inr (.int, 501), .inr (.int, 2000), .inr (.int, 501), .inr (.int, 501), .inr (.byte, 2000), .inr (.byte, 2000), .inr (.int, 16), .inr (.int, 16), .inl (6, [some 5, some 6, some 41]), .inr (.long, 2000), .inl (7, [some 5, some 6, some 41, some 31, some 43, none, none]), .inr (.long, 2000), .inl (8, [some 5, some 6, some 45, some 46, some 47]), .inr (.long, 2000), .inr (.long, 2000), .inr (.byte, 2000), .inl (6, [some 5, some 6, some 49]), .inr (.long, 2000), .inl (9, [some 902, none, some 51, none, none, none, some 52, some 53, some 54, some 55, none, none, some 56, some 57, some 58, some 59, some 60, some 61, some 62, some 63, some 64, none, some 65, none, some 66, some 67, some 68, none, some 69, none, some 70, some 71, some 72, some 73, some 74, some 75, none, some 76, none, some 77, some 78, some 79, none, some 80, none, none, none, some 81, some 82, some 83, none, none, none, none, none, none, none, none]), .inr (.byte, 65536), .inr (.byte, 65537), .inr (.int, 65537), .inr (.int, 65537), .inr (.byte, 65537), .inr (.int, 2000), .inr (.int, 2000), .inr (.int, 2000), .inr (.int, 2000), .inr (.int, 2000), .inr (.int, 2000), .inr (.int, 2000), .inr (.int, 2000), .inr (.long, 2000), .inr (.int, 80000), .inr (.int, 501), .inr (.int, 500), .inr (.byte, 65536), .inr (.int, 500), .inr (.int, 64), .inr (.int, 64), .inr (.int, 64), .inr (.int, 64), .inr (.int, 64), .inr (.int, 64), .inr (.int, 2600), .inr (.int, 16), .inr (.int, 16), .inr (.int, 16), .inr (.int, 2000), .inr (.long, 128000), .inr (.boolean, 2000), .inr (.boolean, 2000), .inr (.long, 1)]
/-- exceptions that are thrown -/
def xexc : List String := ["java/lang/IllegalStateException", "java/lang/IllegalArgumentException"]
/-- what an exception costs: a cell of six slots -/
def xec : Nat := 1
def xes : Nat := 6
/-- texts that the program reads, by number; where they are entries; where messages are -/
def xtx : List String := ["declare-const define-fun assert Bool _ BitVec Array true false let extract zero_extend sign_extend not and or xor => ite = distinct bvnot bvneg bvand bvor bvxor bvadd bvmul bvsub bvudiv bvurem bvsdiv bvsrem bvshl bvlshr bvashr bvult bvule bvugt bvuge bvslt bvsle bvsgt bvsge concat select store ", "~!@$%^&*_-+=<>.?/#", " not and or xor => ite = distinct bvnot bvneg bvand bvor bvxor bvadd bvmul bvsub bvudiv bvurem bvsdiv bvsrem bvshl bvlshr bvashr bvult bvule bvugt bvuge bvslt bvsle bvsgt bvsge concat select store extract zero_extend sign_extend declare-const define-fun assert Bool _ BitVec Array true false let "]
def xbyt : List (List Int32) := [[100, 101, 99, 108, 97, 114, 101, 45, 99, 111, 110, 115, 116, 32, 100, 101, 102, 105, 110, 101, 45, 102, 117, 110, 32, 97, 115, 115, 101, 114, 116, 32, 66, 111, 111, 108, 32, 95, 32, 66, 105, 116, 86, 101, 99, 32, 65, 114, 114, 97, 121, 32, 116, 114, 117, 101, 32, 102, 97, 108, 115, 101, 32, 108, 101, 116, 32, 101, 120, 116, 114, 97, 99, 116, 32, 122, 101, 114, 111, 95, 101, 120, 116, 101, 110, 100, 32, 115, 105, 103, 110, 95, 101, 120, 116, 101, 110, 100, 32, 110, 111, 116, 32, 97, 110, 100, 32, 111, 114, 32, 120, 111, 114, 32, 61, 62, 32, 105, 116, 101, 32, 61, 32, 100, 105, 115, 116, 105, 110, 99, 116, 32, 98, 118, 110, 111, 116, 32, 98, 118, 110, 101, 103, 32, 98, 118, 97, 110, 100, 32, 98, 118, 111, 114, 32, 98, 118, 120, 111, 114, 32, 98, 118, 97, 100, 100, 32, 98, 118, 109, 117, 108, 32, 98, 118, 115, 117, 98, 32, 98, 118, 117, 100, 105, 118, 32, 98, 118, 117, 114, 101, 109, 32, 98, 118, 115, 100, 105, 118, 32, 98, 118, 115, 114, 101, 109, 32, 98, 118, 115, 104, 108, 32, 98, 118, 108, 115, 104, 114, 32, 98, 118, 97, 115, 104, 114, 32, 98, 118, 117, 108, 116, 32, 98, 118, 117, 108, 101, 32, 98, 118, 117, 103, 116, 32, 98, 118, 117, 103, 101, 32, 98, 118, 115, 108, 116, 32, 98, 118, 115, 108, 101, 32, 98, 118, 115, 103, 116, 32, 98, 118, 115, 103, 101, 32, 99, 111, 110, 99, 97, 116, 32, 115, 101, 108, 101, 99, 116, 32, 115, 116, 111, 114, 101, 32], [126, 33, 64, 36, 37, 94, 38, 42, 95, 45, 43, 61, 60, 62, 46, 63, 47, 35], [32, 110, 111, 116, 32, 97, 110, 100, 32, 111, 114, 32, 120, 111, 114, 32, 61, 62, 32, 105, 116, 101, 32, 61, 32, 100, 105, 115, 116, 105, 110, 99, 116, 32, 98, 118, 110, 111, 116, 32, 98, 118, 110, 101, 103, 32, 98, 118, 97, 110, 100, 32, 98, 118, 111, 114, 32, 98, 118, 120, 111, 114, 32, 98, 118, 97, 100, 100, 32, 98, 118, 109, 117, 108, 32, 98, 118, 115, 117, 98, 32, 98, 118, 117, 100, 105, 118, 32, 98, 118, 117, 114, 101, 109, 32, 98, 118, 115, 100, 105, 118, 32, 98, 118, 115, 114, 101, 109, 32, 98, 118, 115, 104, 108, 32, 98, 118, 108, 115, 104, 114, 32, 98, 118, 97, 115, 104, 114, 32, 98, 118, 117, 108, 116, 32, 98, 118, 117, 108, 101, 32, 98, 118, 117, 103, 116, 32, 98, 118, 117, 103, 101, 32, 98, 118, 115, 108, 116, 32, 98, 118, 115, 108, 101, 32, 98, 118, 115, 103, 116, 32, 98, 118, 115, 103, 101, 32, 99, 111, 110, 99, 97, 116, 32, 115, 101, 108, 101, 99, 116, 32, 115, 116, 111, 114, 101, 32, 101, 120, 116, 114, 97, 99, 116, 32, 122, 101, 114, 111, 95, 101, 120, 116, 101, 110, 100, 32, 115, 105, 103, 110, 95, 101, 120, 116, 101, 110, 100, 32, 100, 101, 99, 108, 97, 114, 101, 45, 99, 111, 110, 115, 116, 32, 100, 101, 102, 105, 110, 101, 45, 102, 117, 110, 32, 97, 115, 115, 101, 114, 116, 32, 66, 111, 111, 108, 32, 95, 32, 66, 105, 116, 86, 101, 99, 32, 65, 114, 114, 97, 121, 32, 116, 114, 117, 101, 32, 102, 97, 108, 115, 101, 32, 108, 101, 116, 32]]
def xlen : List Nat := [295, 18, 296]
def xsl : List (String × Nat × Nat) := [("VectorSolver$Text", 29, 0), ("VectorSolver$Text", 86, 1), ("VectorSolverModel", 7, 2), ("VectorSolverModel", 140, 1)]
def xml : List (String × Nat × String) := [("VectorSolver", 62, "the text would have more than 65536 bytes"), ("VectorSolver", 73, "so many bytes can't go"), ("VectorSolver", 86, "a fault has a kind and a place"), ("VectorSolver", 112, "the name is no Bool"), ("VectorSolver", 122, "there is no such cell"), ("VectorSolver", 124, "none is found"), ("VectorSolver", 144, "the name is an array"), ("VectorSolver", 149, "none is found, or too much is declared"), ("VectorSolver", 174, "nothing such is known of a thing"), ("VectorSolver", 191, "nothing such is counted"), ("VectorSolver", 193, "there is no such name"), ("VectorSolver", 198, "there is no such thing"), ("VectorSolver", 206, "too much is declared, or the effort is used up"), ("VectorSolver$Text", 108, "the text has a fault")]
/-! what lies outside the world and stays: statics, texts (the text of number i at ad (900 + i), its bytes at ad (910 + i)) -/
/-- a static field that is laid, outside the world -/
def xLS (C n d : String) (A : Nat → Prop) (U : State) (H : Heap) : Prop := ∃ (c : ClassId) (k : Class) (i : Nat) (f : Field) (a : Nat) (cell : Cell), U.vm.findClass C = some c ∧ U.fieldFound? C n d = some (c, k, i, f) ∧ f.isStatic = true ∧ k.statics = some a ∧ H[a]? = some cell ∧ cell.vm.isStatics = true ∧ cell.cls = c ∧ f.slot < cell.slots.size ∧ k.staticTypes[f.slot]? = some f.type ∧ ¬ A a
theorem xLS.moved {C n d : String} {A : Nat → Prop} {u U : State} {H : Heap} (hvm : u.vm.Alike U.vm) (h : xLS C n d A u H) : xLS C n d A U H := by
  obtain ⟨c, k, i, f, a, cell, h1, h2, h3, h4, h5, h6, h7, h8, h9, h10⟩ := h
  obtain ⟨k', hi', he⟩ := State.fieldFound?_setVm hvm h2
  exact ⟨c, k', i, f, a, cell, by rw [hvm.findClass]; exact h1, hi', h3, by rw [he]; exact h4, h5, h6, h7, h8, by rw [he]; exact h9, h10⟩
theorem xLS.kept {C n d : String} {A : Nat → Prop} {U : State} {H H1 : Heap} (h : xLS C n d A U H) (hq : ∀ a : Nat, a < H.size → ¬ A a → H1[a]? = H[a]?) : xLS C n d A U H1 := by
  obtain ⟨c, k, i, f, a, cell, h1, h2, h3, h4, h5, h6, h7, h8, h9, h10⟩ := h
  exact ⟨c, k, i, f, a, cell, h1, h2, h3, h4, by rw [hq a (Array.getElem?_eq_some_iff.mp h5).1 h10]; exact h5, h6, h7, h8, h9, h10⟩
theorem xLS.word {C n d : String} {A : Nat → Prop} {U : State} {args : Array Value} (h : xLS C n d A U U.heap) : (Cond.laysStatic C n d).before args U = true := by
  obtain ⟨c, k, i, f, a, cell, h1, h2, h3, h4, h5, h6, h7, h8, h9, h10⟩ := h
  simp [Cond.before, Cond.holds, Cond.value, h1, h2, h3, h4, h5, h6, h7, h8, h9]
/-- words on casts and declarations, which have laws of their own -/
def xcw : List (String × String) := [("java/lang/IllegalStateException", "java/lang/IllegalStateException"), ("java/lang/IllegalArgumentException", "java/lang/IllegalArgumentException")]
def xdw : List MethodName := [⟨"java/lang/RuntimeException", "<init>", "(Ljava/lang/String;)V"⟩, ⟨"java/lang/Exception", "<init>", "(Ljava/lang/String;)V"⟩, ⟨"java/lang/Throwable", "<init>", "(Ljava/lang/String;)V"⟩]
def xRo (ad : Nat → Nat) (A : Nat → Prop) (U : State) (H : Heap) : Prop := (va_Zq "java/lang/Throwable" "UNASSIGNED_STACK" "[Ljava/lang/StackTraceElement;" A U H ∧ va_Zq "java/lang/Throwable" "SUPPRESSED_SENTINEL" "Ljava/util/List;" A U H) ∧ (va_Z "java/lang/String" "COMPACT_STRINGS" "Z" (.int 1) A U H ∧ (va_Z "jdk/internal/util/Preconditions" "SIOOBE_FORMATTER" "Ljava/util/function/BiFunction;" .null A U H ∨ va_Z "jdk/internal/util/Preconditions" "SIOOBE_FORMATTER" "Ljava/util/function/BiFunction;" (.ref (ad 930)) A U H)) ∧ vk_S 3 xlen xbyt (fun i => ad (900 + i)) (fun i => ad (910 + i)) A U H ∧ (∀ q ∈ xsl, vk_R q.1 q.2.1 (xtx.getD q.2.2 "") (ad (900 + q.2.2)) U) ∧ (∀ q ∈ xml, ∃ a : Nat, vk_R q.1 q.2.1 q.2.2 a U) ∧ va_Nc "java/lang/IllegalStateException" "java/lang/IllegalArgumentException" U ∧ va_Nc "java/lang/IllegalArgumentException" "java/lang/IllegalStateException" U ∧ (xLS "java/lang/Throwable" "UNASSIGNED_STACK" "[Ljava/lang/StackTraceElement;" A U H ∧ xLS "java/lang/Throwable" "SUPPRESSED_SENTINEL" "Ljava/util/List;" A U H) ∧ (∀ q ∈ xcw, va_Nw (.castable q.1 q.2) U) ∧ ∀ y ∈ xdw, va_Nw (.declares y) U
theorem xRo.moved {ad : Nat → Nat} {A : Nat → Prop} {u U : State} {H : Heap} (h : xRo ad A u H) (hW : u.WarmedH U.vm) : xRo ad A U H := ⟨⟨h.1.1.moved hW.alike, h.1.2.moved hW.alike⟩, ⟨h.2.1.1.moved hW.alike, h.2.1.2.imp (fun z => z.moved hW.alike) (fun z => z.moved hW.alike)⟩, h.2.2.1.moved hW.alike, fun q hq => (h.2.2.2.1 q hq).warm hW, fun q hq => (h.2.2.2.2.1 q hq).imp fun _ z => z.warm hW, h.2.2.2.2.2.1.moved hW.alike, h.2.2.2.2.2.2.1.moved hW.alike, ⟨h.2.2.2.2.2.2.2.1.1.moved hW.alike, h.2.2.2.2.2.2.2.1.2.moved hW.alike⟩, fun q hq => va_Nw.warmC hW (h.2.2.2.2.2.2.2.2.1 q hq), fun y hy => va_Nw.warmD hW (h.2.2.2.2.2.2.2.2.2 y hy)⟩
theorem xRo.kept {ad : Nat → Nat} {A : Nat → Prop} {U : State} {H H1 : Heap} (h : xRo ad A U H) (hq : ∀ a : Nat, a < H.size → ¬ A a → H1[a]? = H[a]?) : xRo ad A U H1 := ⟨⟨h.1.1.kept hq, h.1.2.kept hq⟩, ⟨h.2.1.1.kept hq, h.2.1.2.imp (fun z => z.kept hq) (fun z => z.kept hq)⟩, h.2.2.1.kept hq, h.2.2.2.1, h.2.2.2.2.1, h.2.2.2.2.2.1, h.2.2.2.2.2.2.1, ⟨h.2.2.2.2.2.2.2.1.1.kept hq, h.2.2.2.2.2.2.2.1.2.kept hq⟩, h.2.2.2.2.2.2.2.2⟩
theorem xGood (w : Cond) (hw : w ∈ lw_gd) : (w.onTables && w.keeps) = true ∨ ∃ ty, w = .arrayClass ty := good_of_word (List.mem_filter.mp hw).2
