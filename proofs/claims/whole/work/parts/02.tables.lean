/-! TABLES (written by wip/tools/gen02.py): classes, fields, shapes of the cells, links by their places in lw_tbl -/
def cnm : Nat → String := fun k => (["FrostBox$Acts", "FrostBox$House", "FrostBox$Law", "FrostBox$Looks", "FrostBox$Meals", "FrostBox$Past", "FrostBox$Pile", "FrostBox$Plan", "FrostBox$Snapshot", "FrostBox$Tape", "FrostBox", "FrostBoxModel", "FrostBoxLaw", "java/lang/Math", "java/lang/Integer", "java/lang/String", "java/lang/StringLatin1", "java/lang/StringUTF16", "jdk/internal/util/Preconditions", "java/util/NoSuchElementException"] : List String).getD k ""
def fT0 : u_T := fun k => match k with
  | 0 => ("FrostBox$Acts", "before", "[LFrostBox$Pile;", true)
  | 1 => ("FrostBox$Acts", "mealsBefore", "[I", true)
  | 2 => ("FrostBox$Acts", "next", "I", false)
  | _ => ("FrostBox$Acts", "size", "I", false)
def tT0 : Nat → FieldType := fun k => match k with
  | 0 => (.array (.object "FrostBox$Pile"))
  | 1 => (.array .int)
  | 2 => .int
  | _ => .int
theorem nT0 : ∀ a, a < 4 → ∀ b, b < 4 → a ≠ b → (fT0 a).2.1 ≠ (fT0 b).2.1 := by decide +kernel
theorem pT0 : ∀ k, k < 4 → parseFieldDescriptor (fT0 k).2.2.1 = some (tT0 k) := by decide +kernel
def fT1 : u_T := fun k => match k with
  | 0 => ("FrostBox$House", "rules", "[I", true)
  | 1 => ("FrostBox$House", "kinds", "[[I", true)
  | 2 => ("FrostBox$House", "boxItems", "[I", true)
  | 3 => ("FrostBox$House", "told", "LFrostBox$Pile;", true)
  | 4 => ("FrostBox$House", "size", "I", false)
  | _ => ("FrostBox$House", "rulesTold", "Z", false)
def tT1 : Nat → FieldType := fun k => match k with
  | 0 => (.array .int)
  | 1 => (.array (.array .int))
  | 2 => (.array .int)
  | 3 => (.object "FrostBox$Pile")
  | 4 => .int
  | _ => .boolean
theorem nT1 : ∀ a, a < 6 → ∀ b, b < 6 → a ≠ b → (fT1 a).2.1 ≠ (fT1 b).2.1 := by decide +kernel
theorem pT1 : ∀ k, k < 6 → parseFieldDescriptor (fT1 k).2.2.1 = some (tT1 k) := by decide +kernel
def fT2 : u_T := fun k => match k with
  | 0 => ("FrostBox$Law", "signs", "[I", true)
  | 1 => ("FrostBox$Law", "letters", "[I", true)
  | 2 => ("FrostBox$Law", "stack", "[I", true)
  | _ => ("FrostBox$Law", "size", "I", false)
def tT2 : Nat → FieldType := fun k => match k with
  | 0 => (.array .int)
  | 1 => (.array .int)
  | 2 => (.array .int)
  | _ => .int
theorem nT2 : ∀ a, a < 4 → ∀ b, b < 4 → a ≠ b → (fT2 a).2.1 ≠ (fT2 b).2.1 := by decide +kernel
theorem pT2 : ∀ k, k < 4 → parseFieldDescriptor (fT2 k).2.2.1 = some (tT2 k) := by decide +kernel
def fT3 : u_T := fun k => match k with
  | 0 => ("FrostBox$Looks", "sorts", "[I", true)
  | 1 => ("FrostBox$Looks", "seemed", "[I", true)
  | _ => ("FrostBox$Looks", "size", "I", false)
def tT3 : Nat → FieldType := fun k => match k with
  | 0 => (.array .int)
  | 1 => (.array .int)
  | _ => .int
theorem nT3 : ∀ a, a < 3 → ∀ b, b < 3 → a ≠ b → (fT3 a).2.1 ≠ (fT3 b).2.1 := by decide +kernel
theorem pT3 : ∀ k, k < 3 → parseFieldDescriptor (fT3 k).2.2.1 = some (tT3 k) := by decide +kernel
def fT4 : u_T := fun k => match k with
  | 0 => ("FrostBox$Meals", "ring", "[[I", true)
  | _ => ("FrostBox$Meals", "total", "I", false)
def tT4 : Nat → FieldType := fun k => match k with
  | 0 => (.array (.array .int))
  | _ => .int
theorem nT4 : ∀ a, a < 2 → ∀ b, b < 2 → a ≠ b → (fT4 a).2.1 ≠ (fT4 b).2.1 := by decide +kernel
theorem pT4 : ∀ k, k < 2 → parseFieldDescriptor (fT4 k).2.2.1 = some (tT4 k) := by decide +kernel
def fT5 : u_T := fun k => match k with
  | 0 => ("FrostBox$Past", "places", "[I", true)
  | 1 => ("FrostBox$Past", "kinds", "[I", true)
  | 2 => ("FrostBox$Past", "so", "[Z", true)
  | 3 => ("FrostBox$Past", "row", "[I", true)
  | 4 => ("FrostBox$Past", "kept", "[I", true)
  | _ => ("FrostBox$Past", "size", "I", false)
def tT5 : Nat → FieldType := fun k => match k with
  | 0 => (.array .int)
  | 1 => (.array .int)
  | 2 => (.array .boolean)
  | 3 => (.array .int)
  | 4 => (.array .int)
  | _ => .int
theorem nT5 : ∀ a, a < 6 → ∀ b, b < 6 → a ≠ b → (fT5 a).2.1 ≠ (fT5 b).2.1 := by decide +kernel
theorem pT5 : ∀ k, k < 6 → parseFieldDescriptor (fT5 k).2.2.1 = some (tT5 k) := by decide +kernel
def fT6 : u_T := fun k => match k with
  | 0 => ("FrostBox$Pile", "kinds", "[I", true)
  | 1 => ("FrostBox$Pile", "portions", "[I", true)
  | 2 => ("FrostBox$Pile", "ages", "[I", true)
  | 3 => ("FrostBox$Pile", "labelled", "[I", true)
  | 4 => ("FrostBox$Pile", "size", "I", false)
  | _ => ("FrostBox$Pile", "month", "I", false)
def tT6 : Nat → FieldType := fun k => match k with
  | 0 => (.array .int)
  | 1 => (.array .int)
  | 2 => (.array .int)
  | 3 => (.array .int)
  | 4 => .int
  | _ => .int
theorem nT6 : ∀ a, a < 6 → ∀ b, b < 6 → a ≠ b → (fT6 a).2.1 ≠ (fT6 b).2.1 := by decide +kernel
theorem pT6 : ∀ k, k < 6 → parseFieldDescriptor (fT6 k).2.2.1 = some (tT6 k) := by decide +kernel
def fT7 : u_T := fun k => match k with
  | 0 => ("FrostBox$Plan", "sorts", "[I", true)
  | 1 => ("FrostBox$Plan", "firsts", "[I", true)
  | 2 => ("FrostBox$Plan", "seconds", "[I", true)
  | 3 => ("FrostBox$Plan", "thirds", "[I", true)
  | _ => ("FrostBox$Plan", "size", "I", false)
def tT7 : Nat → FieldType := fun k => match k with
  | 0 => (.array .int)
  | 1 => (.array .int)
  | 2 => (.array .int)
  | 3 => (.array .int)
  | _ => .int
theorem nT7 : ∀ a, a < 5 → ∀ b, b < 5 → a ≠ b → (fT7 a).2.1 ≠ (fT7 b).2.1 := by decide +kernel
theorem pT7 : ∀ k, k < 5 → parseFieldDescriptor (fT7 k).2.2.1 = some (tT7 k) := by decide +kernel
def fT8 : u_T := fun k => match k with
  | 0 => ("FrostBox$Snapshot", "pile", "LFrostBox$Pile;", true)
  | 1 => ("FrostBox$Snapshot", "meals", "LFrostBox$Meals;", true)
  | _ => ("FrostBox$Snapshot", "kept", "Z", false)
def tT8 : Nat → FieldType := fun k => match k with
  | 0 => (.object "FrostBox$Pile")
  | 1 => (.object "FrostBox$Meals")
  | _ => .boolean
theorem nT8 : ∀ a, a < 3 → ∀ b, b < 3 → a ≠ b → (fT8 a).2.1 ≠ (fT8 b).2.1 := by decide +kernel
theorem pT8 : ∀ k, k < 3 → parseFieldDescriptor (fT8 k).2.2.1 = some (tT8 k) := by decide +kernel
def fT9 : u_T := fun k => match k with
  | 0 => ("FrostBox$Tape", "bytes", "[I", true)
  | 1 => ("FrostBox$Tape", "length", "I", false)
  | 2 => ("FrostBox$Tape", "at", "I", false)
  | _ => ("FrostBox$Tape", "fault", "I", false)
def tT9 : Nat → FieldType := fun k => match k with
  | 0 => (.array .int)
  | 1 => .int
  | 2 => .int
  | _ => .int
theorem nT9 : ∀ a, a < 4 → ∀ b, b < 4 → a ≠ b → (fT9 a).2.1 ≠ (fT9 b).2.1 := by decide +kernel
theorem pT9 : ∀ k, k < 4 → parseFieldDescriptor (fT9 k).2.2.1 = some (tT9 k) := by decide +kernel
def fT10 : u_T := fun k => match k with
  | 0 => ("FrostBox", "tape", "LFrostBox$Tape;", true)
  | 1 => ("FrostBox", "house", "LFrostBox$House;", false)
  | 2 => ("FrostBox", "draft", "LFrostBox$House;", false)
  | 3 => ("FrostBox", "laws", "[LFrostBox$Law;", true)
  | 4 => ("FrostBox", "lawsTold", "I", false)
  | 5 => ("FrostBox", "lawThatHolds", "I", false)
  | 6 => ("FrostBox", "plans", "[LFrostBox$Plan;", true)
  | 7 => ("FrostBox", "plansTold", "I", false)
  | 8 => ("FrostBox", "labelHabit", "I", false)
  | 9 => ("FrostBox", "now", "LFrostBox$Pile;", true)
  | 10 => ("FrostBox", "apart", "LFrostBox$Pile;", true)
  | 11 => ("FrostBox", "acts", "LFrostBox$Acts;", true)
  | 12 => ("FrostBox", "meals", "LFrostBox$Meals;", true)
  | 13 => ("FrostBox", "snapshot", "LFrostBox$Snapshot;", true)
  | 14 => ("FrostBox", "looks", "LFrostBox$Looks;", true)
  | 15 => ("FrostBox", "past", "LFrostBox$Past;", true)
  | 16 => ("FrostBox", "bestOfSet", "[I", true)
  | 17 => ("FrostBox", "firstOfSet", "[I", true)
  | _ => ("FrostBox", "valuesByPlace", "[I", true)
def tT10 : Nat → FieldType := fun k => match k with
  | 0 => (.object "FrostBox$Tape")
  | 1 => (.object "FrostBox$House")
  | 2 => (.object "FrostBox$House")
  | 3 => (.array (.object "FrostBox$Law"))
  | 4 => .int
  | 5 => .int
  | 6 => (.array (.object "FrostBox$Plan"))
  | 7 => .int
  | 8 => .int
  | 9 => (.object "FrostBox$Pile")
  | 10 => (.object "FrostBox$Pile")
  | 11 => (.object "FrostBox$Acts")
  | 12 => (.object "FrostBox$Meals")
  | 13 => (.object "FrostBox$Snapshot")
  | 14 => (.object "FrostBox$Looks")
  | 15 => (.object "FrostBox$Past")
  | 16 => (.array .int)
  | 17 => (.array .int)
  | _ => (.array .int)
theorem nT10 : ∀ a, a < 19 → ∀ b, b < 19 → a ≠ b → (fT10 a).2.1 ≠ (fT10 b).2.1 := by decide +kernel
theorem pT10 : ∀ k, k < 19 → parseFieldDescriptor (fT10 k).2.2.1 = some (tT10 k) := by decide +kernel
def fT11 : u_T := fun k => match k with
  | 0 => ("FrostBoxModel", "thrown", "I", false)
  | 1 => ("FrostBoxModel", "tape", "[B", true)
  | 2 => ("FrostBoxModel", "texts", "[B", true)
  | 3 => ("FrostBoxModel", "textLong", "[I", true)
  | 4 => ("FrostBoxModel", "letters", "[I", true)
  | 5 => ("FrostBoxModel", "text", "[B", false)
  | 6 => ("FrostBoxModel", "length", "I", false)
  | 7 => ("FrostBoxModel", "lawMany", "I", false)
  | 8 => ("FrostBoxModel", "begins", "I", false)
  | 9 => ("FrostBoxModel", "ends", "I", false)
  | 10 => ("FrostBoxModel", "at", "I", false)
  | 11 => ("FrostBoxModel", "fault", "I", false)
  | 12 => ("FrostBoxModel", "deep", "I", false)
  | 13 => ("FrostBoxModel", "label", "I", false)
  | 14 => ("FrostBoxModel", "found", "I", false)
  | 15 => ("FrostBoxModel", "labels", "Ljava/lang/String;", true)
  | 16 => ("FrostBoxModel", "allowed", "Ljava/lang/String;", true)
  | 17 => ("FrostBoxModel", "hasFound", "Z", false)
  | 18 => ("FrostBoxModel", "rule", "[I", true)
  | 19 => ("FrostBoxModel", "ruleRead", "[I", true)
  | 20 => ("FrostBoxModel", "kind", "[I", true)
  | 21 => ("FrostBoxModel", "kindRead", "[I", true)
  | 22 => ("FrostBoxModel", "boxRead", "[I", true)
  | 23 => ("FrostBoxModel", "plan", "[I", true)
  | 24 => ("FrostBoxModel", "planLong", "[I", true)
  | 25 => ("FrostBoxModel", "kinds", "I", false)
  | 26 => ("FrostBoxModel", "kindsRead", "I", false)
  | 27 => ("FrostBoxModel", "boxesRead", "I", false)
  | 28 => ("FrostBoxModel", "plans", "I", false)
  | 29 => ("FrostBoxModel", "hasRules", "Z", false)
  | 30 => ("FrostBoxModel", "now", "[I", true)
  | 31 => ("FrostBoxModel", "trial", "[I", true)
  | 32 => ("FrostBoxModel", "law", "I", false)
  | 33 => ("FrostBoxModel", "habit", "I", false)
  | 34 => ("FrostBoxModel", "memoKey", "[J", true)
  | 35 => ("FrostBoxModel", "memoWorth", "[I", true)
  | 36 => ("FrostBoxModel", "undoRow", "[I", true)
  | 37 => ("FrostBoxModel", "acts", "I", false)
  | 38 => ("FrostBoxModel", "x", "J", false)
  | 39 => ("FrostBoxModel", "eatMost", "I", false)
  | 40 => ("FrostBoxModel", "eatDigits", "I", false)
  | 41 => ("FrostBoxModel", "lookSort", "[I", true)
  | 42 => ("FrostBoxModel", "lookSeemed", "[I", true)
  | 43 => ("FrostBoxModel", "looks", "I", false)
  | 44 => ("FrostBoxModel", "foundBox", "[I", true)
  | 45 => ("FrostBoxModel", "foundKind", "[I", true)
  | 46 => ("FrostBoxModel", "often", "[I", true)
  | 47 => ("FrostBoxModel", "historyRow", "[I", true)
  | 48 => ("FrostBoxModel", "shared", "[I", true)
  | 49 => ("FrostBoxModel", "foundIs", "[Z", true)
  | 50 => ("FrostBoxModel", "founds", "I", false)
  | 51 => ("FrostBoxModel", "rows", "I", false)
  | 52 => ("FrostBoxModel", "rowFound", "I", false)
  | 53 => ("FrostBoxModel", "sharedBits", "I", false)
  | 54 => ("FrostBoxModel", "imageRow", "[I", true)
  | _ => ("FrostBoxModel", "hasImage", "Z", false)
def tT11 : Nat → FieldType := fun k => match k with
  | 0 => .int
  | 1 => (.array .byte)
  | 2 => (.array .byte)
  | 3 => (.array .int)
  | 4 => (.array .int)
  | 5 => (.array .byte)
  | 6 => .int
  | 7 => .int
  | 8 => .int
  | 9 => .int
  | 10 => .int
  | 11 => .int
  | 12 => .int
  | 13 => .int
  | 14 => .int
  | 15 => (.object "java/lang/String")
  | 16 => (.object "java/lang/String")
  | 17 => .boolean
  | 18 => (.array .int)
  | 19 => (.array .int)
  | 20 => (.array .int)
  | 21 => (.array .int)
  | 22 => (.array .int)
  | 23 => (.array .int)
  | 24 => (.array .int)
  | 25 => .int
  | 26 => .int
  | 27 => .int
  | 28 => .int
  | 29 => .boolean
  | 30 => (.array .int)
  | 31 => (.array .int)
  | 32 => .int
  | 33 => .int
  | 34 => (.array .long)
  | 35 => (.array .int)
  | 36 => (.array .int)
  | 37 => .int
  | 38 => .long
  | 39 => .int
  | 40 => .int
  | 41 => (.array .int)
  | 42 => (.array .int)
  | 43 => .int
  | 44 => (.array .int)
  | 45 => (.array .int)
  | 46 => (.array .int)
  | 47 => (.array .int)
  | 48 => (.array .int)
  | 49 => (.array .boolean)
  | 50 => .int
  | 51 => .int
  | 52 => .int
  | 53 => .int
  | 54 => (.array .int)
  | _ => .boolean
theorem nT11 : ∀ a, a < 56 → ∀ b, b < 56 → a ≠ b → (fT11 a).2.1 ≠ (fT11 b).2.1 := by decide +kernel
theorem pT11 : ∀ k, k < 56 → parseFieldDescriptor (fT11 k).2.2.1 = some (tT11 k) := by decide +kernel
def clT : List vw_C := [("FrostBox$Acts", fT0, 4), ("FrostBox$House", fT1, 6), ("FrostBox$Law", fT2, 4), ("FrostBox$Looks", fT3, 3), ("FrostBox$Meals", fT4, 2), ("FrostBox$Past", fT5, 6), ("FrostBox$Pile", fT6, 6), ("FrostBox$Plan", fT7, 5), ("FrostBox$Snapshot", fT8, 3), ("FrostBox$Tape", fT9, 4), ("FrostBox", fT10, 19), ("FrostBoxModel", fT11, 56)]
def tyT : Nat → Nat → FieldType := fun c => match c with
  | 0 => tT0
  | 1 => tT1
  | 2 => tT2
  | 3 => tT3
  | 4 => tT4
  | 5 => tT5
  | 6 => tT6
  | 7 => tT7
  | 8 => tT8
  | 9 => tT9
  | 10 => tT10
  | _ => tT11
def atyT : Nat → FieldType := fun t => match t with | 0 => .int | 1 => .byte | 2 => .boolean | 3 => .char | 4 => .long | 5 => .object "FrostBox$Law" | 6 => .object "FrostBox$Plan" | 7 => .object "FrostBox$Pile" | _ => .array .int
def shL0 : List (Option (Nat ⊕ (Nat × Nat))) := [some (.inr (0, 4)), some (.inr (0, 5)), some (.inr (0, 4)), some (.inr (3, 6)), some (.inr (3, 4)), some (.inr (0, 4)), some (.inr (0, 4)), some (.inr (3, 5)), some (.inr (0, 5)), some (.inr (0, 5)), some (.inr (3, 4)), some (.inr (0, 4)), some (.inr (0, 4)), some (.inr (3, 5)), none, none, none, none, none, none, some (.inr (1, 1)), some (.inr (1, 6)), some (.inr (1, 4)), some (.inr (1, 5)), some (.inr (1, 4)), some (.inr (1, 5)), none, none, none, none, none, none, some (.inl 10), some (.inl 9), some (.inr (0, 240)), some (.inl 1), some (.inr (0, 4)), some (.inr (8, 6)), some (.inr (0, 5)), some (.inr (0, 5)), some (.inr (0, 5)), some (.inr (0, 5)), some (.inr (0, 5)), some (.inr (0, 5)), some (.inr (0, 4)), some (.inl 6), some (.inr (0, 8)), some (.inr (0, 8)), some (.inr (0, 8)), some (.inr (0, 8)), some (.inl 1), some (.inr (0, 4)), some (.inr (8, 6)), some (.inr (0, 5)), some (.inr (0, 5)), some (.inr (0, 5)), some (.inr (0, 5)), some (.inr (0, 5)), some (.inr (0, 5)), some (.inr (0, 4)), some (.inl 6), some (.inr (0, 8)), some (.inr (0, 8)), some (.inr (0, 8)), some (.inr (0, 8)), some (.inr (5, 5)), some (.inr (6, 5)), some (.inl 6), some (.inr (0, 8)), some (.inr (0, 8)), some (.inr (0, 8)), some (.inr (0, 8)), some (.inl 6), some (.inr (0, 8)), some (.inr (0, 8)), some (.inr (0, 8)), some (.inr (0, 8)), some (.inl 0), some (.inr (7, 40)), some (.inr (0, 40)), some (.inl 6), some (.inr (0, 8)), some (.inr (0, 8)), some (.inr (0, 8)), some (.inr (0, 8)), some (.inl 6), some (.inr (0, 8)), some (.inr (0, 8)), some (.inr (0, 8)), some (.inr (0, 8)), some (.inl 6), some (.inr (0, 8)), some (.inr (0, 8)), some (.inr (0, 8)), some (.inr (0, 8)), some (.inl 6), some (.inr (0, 8)), some (.inr (0, 8)), some (.inr (0, 8)), some (.inr (0, 8))]
def shL1 : List (Option (Nat ⊕ (Nat × Nat))) := [some (.inl 6), some (.inr (0, 8)), some (.inr (0, 8)), some (.inr (0, 8)), some (.inr (0, 8)), some (.inl 6), some (.inr (0, 8)), some (.inr (0, 8)), some (.inr (0, 8)), some (.inr (0, 8)), some (.inl 6), some (.inr (0, 8)), some (.inr (0, 8)), some (.inr (0, 8)), some (.inr (0, 8)), some (.inl 6), some (.inr (0, 8)), some (.inr (0, 8)), some (.inr (0, 8)), some (.inr (0, 8)), some (.inl 6), some (.inr (0, 8)), some (.inr (0, 8)), some (.inr (0, 8)), some (.inr (0, 8)), some (.inl 6), some (.inr (0, 8)), some (.inr (0, 8)), some (.inr (0, 8)), some (.inr (0, 8)), some (.inl 6), some (.inr (0, 8)), some (.inr (0, 8)), some (.inr (0, 8)), some (.inr (0, 8)), some (.inl 6), some (.inr (0, 8)), some (.inr (0, 8)), some (.inr (0, 8)), some (.inr (0, 8)), some (.inl 6), some (.inr (0, 8)), some (.inr (0, 8)), some (.inr (0, 8)), some (.inr (0, 8)), some (.inl 6), some (.inr (0, 8)), some (.inr (0, 8)), some (.inr (0, 8)), some (.inr (0, 8)), some (.inl 6), some (.inr (0, 8)), some (.inr (0, 8)), some (.inr (0, 8)), some (.inr (0, 8)), some (.inl 6), some (.inr (0, 8)), some (.inr (0, 8)), some (.inr (0, 8)), some (.inr (0, 8)), some (.inl 6), some (.inr (0, 8)), some (.inr (0, 8)), some (.inr (0, 8)), some (.inr (0, 8)), some (.inl 6), some (.inr (0, 8)), some (.inr (0, 8)), some (.inr (0, 8)), some (.inr (0, 8)), some (.inl 6), some (.inr (0, 8)), some (.inr (0, 8)), some (.inr (0, 8)), some (.inr (0, 8)), some (.inl 6), some (.inr (0, 8)), some (.inr (0, 8)), some (.inr (0, 8)), some (.inr (0, 8)), some (.inl 6), some (.inr (0, 8)), some (.inr (0, 8)), some (.inr (0, 8)), some (.inr (0, 8)), some (.inl 6), some (.inr (0, 8)), some (.inr (0, 8)), some (.inr (0, 8)), some (.inr (0, 8)), some (.inl 6), some (.inr (0, 8)), some (.inr (0, 8)), some (.inr (0, 8)), some (.inr (0, 8)), some (.inl 6), some (.inr (0, 8)), some (.inr (0, 8)), some (.inr (0, 8)), some (.inr (0, 8))]
def shL2 : List (Option (Nat ⊕ (Nat × Nat))) := [some (.inl 6), some (.inr (0, 8)), some (.inr (0, 8)), some (.inr (0, 8)), some (.inr (0, 8)), some (.inl 6), some (.inr (0, 8)), some (.inr (0, 8)), some (.inr (0, 8)), some (.inr (0, 8)), some (.inl 6), some (.inr (0, 8)), some (.inr (0, 8)), some (.inr (0, 8)), some (.inr (0, 8)), some (.inl 6), some (.inr (0, 8)), some (.inr (0, 8)), some (.inr (0, 8)), some (.inr (0, 8)), some (.inl 6), some (.inr (0, 8)), some (.inr (0, 8)), some (.inr (0, 8)), some (.inr (0, 8)), some (.inl 6), some (.inr (0, 8)), some (.inr (0, 8)), some (.inr (0, 8)), some (.inr (0, 8)), some (.inl 6), some (.inr (0, 8)), some (.inr (0, 8)), some (.inr (0, 8)), some (.inr (0, 8)), some (.inl 6), some (.inr (0, 8)), some (.inr (0, 8)), some (.inr (0, 8)), some (.inr (0, 8)), some (.inl 6), some (.inr (0, 8)), some (.inr (0, 8)), some (.inr (0, 8)), some (.inr (0, 8)), some (.inl 6), some (.inr (0, 8)), some (.inr (0, 8)), some (.inr (0, 8)), some (.inr (0, 8)), some (.inl 6), some (.inr (0, 8)), some (.inr (0, 8)), some (.inr (0, 8)), some (.inr (0, 8)), some (.inl 6), some (.inr (0, 8)), some (.inr (0, 8)), some (.inr (0, 8)), some (.inr (0, 8)), some (.inl 6), some (.inr (0, 8)), some (.inr (0, 8)), some (.inr (0, 8)), some (.inr (0, 8)), some (.inl 6), some (.inr (0, 8)), some (.inr (0, 8)), some (.inr (0, 8)), some (.inr (0, 8)), some (.inl 6), some (.inr (0, 8)), some (.inr (0, 8)), some (.inr (0, 8)), some (.inr (0, 8)), some (.inl 6), some (.inr (0, 8)), some (.inr (0, 8)), some (.inr (0, 8)), some (.inr (0, 8)), some (.inl 4), some (.inr (8, 100)), some (.inr (0, 4)), some (.inr (0, 4)), some (.inr (0, 4)), some (.inr (0, 4)), some (.inr (0, 4)), some (.inr (0, 4)), some (.inr (0, 4)), some (.inr (0, 4)), some (.inr (0, 4)), some (.inr (0, 4)), some (.inr (0, 4)), some (.inr (0, 4)), some (.inr (0, 4)), some (.inr (0, 4)), some (.inr (0, 4)), some (.inr (0, 4)), some (.inr (0, 4)), some (.inr (0, 4))]
def shL3 : List (Option (Nat ⊕ (Nat × Nat))) := [some (.inr (0, 4)), some (.inr (0, 4)), some (.inr (0, 4)), some (.inr (0, 4)), some (.inr (0, 4)), some (.inr (0, 4)), some (.inr (0, 4)), some (.inr (0, 4)), some (.inr (0, 4)), some (.inr (0, 4)), some (.inr (0, 4)), some (.inr (0, 4)), some (.inr (0, 4)), some (.inr (0, 4)), some (.inr (0, 4)), some (.inr (0, 4)), some (.inr (0, 4)), some (.inr (0, 4)), some (.inr (0, 4)), some (.inr (0, 4)), some (.inr (0, 4)), some (.inr (0, 4)), some (.inr (0, 4)), some (.inr (0, 4)), some (.inr (0, 4)), some (.inr (0, 4)), some (.inr (0, 4)), some (.inr (0, 4)), some (.inr (0, 4)), some (.inr (0, 4)), some (.inr (0, 4)), some (.inr (0, 4)), some (.inr (0, 4)), some (.inr (0, 4)), some (.inr (0, 4)), some (.inr (0, 4)), some (.inr (0, 4)), some (.inr (0, 4)), some (.inr (0, 4)), some (.inr (0, 4)), some (.inr (0, 4)), some (.inr (0, 4)), some (.inr (0, 4)), some (.inr (0, 4)), some (.inr (0, 4)), some (.inr (0, 4)), some (.inr (0, 4)), some (.inr (0, 4)), some (.inr (0, 4)), some (.inr (0, 4)), some (.inr (0, 4)), some (.inr (0, 4)), some (.inr (0, 4)), some (.inr (0, 4)), some (.inr (0, 4)), some (.inr (0, 4)), some (.inr (0, 4)), some (.inr (0, 4)), some (.inr (0, 4)), some (.inr (0, 4)), some (.inr (0, 4)), some (.inr (0, 4)), some (.inr (0, 4)), some (.inr (0, 4)), some (.inr (0, 4)), some (.inr (0, 4)), some (.inr (0, 4)), some (.inr (0, 4)), some (.inr (0, 4)), some (.inr (0, 4)), some (.inr (0, 4)), some (.inr (0, 4)), some (.inr (0, 4)), some (.inr (0, 4)), some (.inr (0, 4)), some (.inr (0, 4)), some (.inr (0, 4)), some (.inr (0, 4)), some (.inr (0, 4)), some (.inr (0, 4)), some (.inr (0, 4)), some (.inr (0, 4)), some (.inl 8), some (.inl 6), some (.inr (0, 8)), some (.inr (0, 8)), some (.inr (0, 8)), some (.inr (0, 8)), some (.inl 4), some (.inr (8, 100)), some (.inr (0, 4)), some (.inr (0, 4)), some (.inr (0, 4)), some (.inr (0, 4)), some (.inr (0, 4)), some (.inr (0, 4)), some (.inr (0, 4)), some (.inr (0, 4)), some (.inr (0, 4)), some (.inr (0, 4))]
def shL4 : List (Option (Nat ⊕ (Nat × Nat))) := [some (.inr (0, 4)), some (.inr (0, 4)), some (.inr (0, 4)), some (.inr (0, 4)), some (.inr (0, 4)), some (.inr (0, 4)), some (.inr (0, 4)), some (.inr (0, 4)), some (.inr (0, 4)), some (.inr (0, 4)), some (.inr (0, 4)), some (.inr (0, 4)), some (.inr (0, 4)), some (.inr (0, 4)), some (.inr (0, 4)), some (.inr (0, 4)), some (.inr (0, 4)), some (.inr (0, 4)), some (.inr (0, 4)), some (.inr (0, 4)), some (.inr (0, 4)), some (.inr (0, 4)), some (.inr (0, 4)), some (.inr (0, 4)), some (.inr (0, 4)), some (.inr (0, 4)), some (.inr (0, 4)), some (.inr (0, 4)), some (.inr (0, 4)), some (.inr (0, 4)), some (.inr (0, 4)), some (.inr (0, 4)), some (.inr (0, 4)), some (.inr (0, 4)), some (.inr (0, 4)), some (.inr (0, 4)), some (.inr (0, 4)), some (.inr (0, 4)), some (.inr (0, 4)), some (.inr (0, 4)), some (.inr (0, 4)), some (.inr (0, 4)), some (.inr (0, 4)), some (.inr (0, 4)), some (.inr (0, 4)), some (.inr (0, 4)), some (.inr (0, 4)), some (.inr (0, 4)), some (.inr (0, 4)), some (.inr (0, 4)), some (.inr (0, 4)), some (.inr (0, 4)), some (.inr (0, 4)), some (.inr (0, 4)), some (.inr (0, 4)), some (.inr (0, 4)), some (.inr (0, 4)), some (.inr (0, 4)), some (.inr (0, 4)), some (.inr (0, 4)), some (.inr (0, 4)), some (.inr (0, 4)), some (.inr (0, 4)), some (.inr (0, 4)), some (.inr (0, 4)), some (.inr (0, 4)), some (.inr (0, 4)), some (.inr (0, 4)), some (.inr (0, 4)), some (.inr (0, 4)), some (.inr (0, 4)), some (.inr (0, 4)), some (.inr (0, 4)), some (.inr (0, 4)), some (.inr (0, 4)), some (.inr (0, 4)), some (.inr (0, 4)), some (.inr (0, 4)), some (.inr (0, 4)), some (.inr (0, 4)), some (.inr (0, 4)), some (.inr (0, 4)), some (.inr (0, 4)), some (.inr (0, 4)), some (.inr (0, 4)), some (.inr (0, 4)), some (.inr (0, 4)), some (.inr (0, 4)), some (.inr (0, 4)), some (.inr (0, 4)), some (.inl 3), some (.inr (0, 12)), some (.inr (0, 12)), some (.inl 5), some (.inr (0, 10)), some (.inr (0, 10)), some (.inr (2, 10)), some (.inr (0, 6)), some (.inr (0, 6)), some (.inr (0, 256))]
def shL5 : List (Option (Nat ⊕ (Nat × Nat))) := [some (.inr (0, 256)), some (.inr (0, 8)), some (.inl 2), some (.inr (0, 240)), some (.inr (0, 6)), some (.inr (0, 64)), some (.inl 7), some (.inr (0, 16)), some (.inr (0, 16)), some (.inr (0, 16)), some (.inr (0, 16)), some (.inl 2), some (.inr (0, 240)), some (.inr (0, 6)), some (.inr (0, 64)), some (.inl 7), some (.inr (0, 16)), some (.inr (0, 16)), some (.inr (0, 16)), some (.inr (0, 16)), some (.inl 2), some (.inr (0, 240)), some (.inr (0, 6)), some (.inr (0, 64)), some (.inl 7), some (.inr (0, 16)), some (.inr (0, 16)), some (.inr (0, 16)), some (.inr (0, 16)), some (.inl 2), some (.inr (0, 240)), some (.inr (0, 6)), some (.inr (0, 64)), some (.inl 7), some (.inr (0, 16)), some (.inr (0, 16)), some (.inr (0, 16)), some (.inr (0, 16)), some (.inl 2), some (.inr (0, 240)), some (.inr (0, 6)), some (.inr (0, 64)), some (.inl 7), some (.inr (0, 16)), some (.inr (0, 16)), some (.inr (0, 16)), some (.inr (0, 16)), some (.inl 11), some (.inr (1, 240)), some (.inr (1, 960)), some (.inr (0, 4)), some (.inr (0, 128)), some (.inr (0, 4)), some (.inr (0, 4)), some (.inr (0, 30)), some (.inr (0, 30)), some (.inr (0, 32)), some (.inr (0, 320)), some (.inr (0, 5)), some (.inr (0, 283)), some (.inr (0, 283)), some (.inr (4, 8191)), some (.inr (0, 8191)), some (.inr (0, 11320)), some (.inr (0, 12)), some (.inr (0, 12)), some (.inr (0, 10)), some (.inr (0, 10)), some (.inr (0, 6)), some (.inr (0, 6)), some (.inr (0, 6)), some (.inr (2, 10)), some (.inr (0, 283)), some (.inr (4, 1))]
def shp : Nat → Option (Nat ⊕ (Nat × Nat)) := fun k => match k / 100 with
  | 0 => shL0.getD (k % 100) none
  | 1 => shL1.getD (k % 100) none
  | 2 => shL2.getD (k % 100) none
  | 3 => shL3.getD (k % 100) none
  | 4 => shL4.getD (k % 100) none
  | 5 => shL5.getD (k % 100) none
  | _ => none
def flT : List (Nat × Nat × Nat × Nat) := [(0, 11, 0, 0), (0, 17, 0, 1), (0, 22, 0, 2), (0, 30, 0, 3), (1, 13, 1, 0), (1, 23, 1, 1), (1, 29, 1, 2), (1, 35, 1, 3), (1, 39, 1, 4), (1, 43, 1, 5), (1, 106, 6, 4), (1, 134, 6, 0), (2, 9, 2, 0), (2, 19, 2, 1), (2, 22, 2, 2), (2, 25, 2, 3), (2, 54, 9, 2), (3, 9, 3, 0), (3, 15, 3, 1), (3, 18, 3, 2), (3, 22, 1, 1), (3, 28, 1, 0), (3, 31, 1, 4), (4, 13, 4, 0), (4, 16, 4, 1), (5, 9, 5, 0), (5, 15, 5, 1), (5, 18, 5, 2), (5, 22, 5, 3), (5, 25, 5, 4), (5, 28, 5, 5), (6, 9, 6, 0), (6, 15, 6, 1), (6, 18, 6, 2), (6, 21, 6, 3), (6, 24, 6, 4), (6, 28, 6, 5), (7, 9, 7, 0), (7, 15, 7, 1), (7, 18, 7, 2), (7, 21, 7, 3), (7, 24, 7, 4), (8, 10, 8, 0), (8, 19, 8, 1), (8, 30, 8, 2), (9, 9, 9, 0), (9, 15, 9, 3), (9, 19, 9, 1), (9, 22, 9, 2), (10, 10, 10, 0), (10, 19, 10, 1), (10, 23, 10, 2), (10, 28, 10, 3), (10, 32, 10, 5), (10, 38, 10, 6), (10, 42, 10, 8), (10, 48, 10, 9), (10, 52, 10, 10), (10, 58, 10, 11), (10, 65, 10, 12), (10, 72, 10, 13), (10, 79, 10, 14), (10, 86, 10, 15), (10, 90, 10, 16), (10, 94, 10, 17), (10, 97, 10, 18), (10, 106, 9, 1), (10, 117, 9, 3), (10, 134, 10, 4), (10, 138, 10, 7), (10, 142, 1, 3), (10, 149, 0, 3), (10, 152, 4, 1), (10, 155, 8, 2), (10, 159, 3, 2), (10, 160, 5, 5), (10, 161, 1, 4), (10, 166, 1, 0), (10, 172, 1, 1), (10, 185, 6, 0), (10, 187, 6, 1), (10, 190, 6, 2), (10, 209, 6, 5), (10, 223, 6, 4), (10, 310, 7, 4), (10, 317, 7, 0), (10, 320, 7, 1), (10, 327, 7, 2), (10, 330, 7, 3), (11, 9, 11, 1), (11, 13, 11, 2), (11, 16, 11, 3), (11, 20, 11, 4), (11, 23, 11, 5), (11, 28, 11, 15), (11, 34, 11, 16), (11, 37, 11, 18), (11, 40, 11, 19), (11, 43, 11, 20), (11, 46, 11, 21), (11, 49, 11, 22), (11, 52, 11, 23), (11, 55, 11, 24), (11, 58, 11, 30), (11, 61, 11, 31), (11, 64, 11, 32), (11, 68, 11, 33), (11, 71, 11, 34), (11, 75, 11, 35), (11, 78, 11, 36), (11, 81, 11, 41), (11, 84, 11, 42), (11, 87, 11, 44), (11, 90, 11, 45), (11, 93, 11, 46), (11, 96, 11, 47), (11, 99, 11, 48), (11, 102, 11, 49), (11, 106, 11, 54), (11, 109, 11, 0), (11, 122, 11, 6), (11, 132, 11, 10), (11, 135, 11, 9), (11, 138, 11, 8), (11, 141, 11, 11), (11, 144, 11, 12), (11, 210, 11, 17), (11, 214, 11, 13), (11, 217, 11, 14), (11, 255, 11, 29), (11, 258, 11, 26), (11, 261, 11, 27), (11, 299, 11, 7), (11, 302, 11, 28), (11, 307, 11, 25), (11, 310, 11, 43), (11, 313, 11, 50), (11, 316, 11, 37), (11, 319, 11, 55), (11, 418, 11, 38), (11, 462, 11, 39), (11, 465, 11, 40), (11, 493, 11, 51), (11, 496, 11, 52), (11, 499, 11, 53)]
def flP : List Nat := [254, 255, 256, 257, 213, 216, 219, 220, 222, 225, 196, 188, 355, 356, 357, 358, 154, 310, 311, 312, 217, 214, 223, 275, 276, 327, 328, 329, 330, 331, 332, 187, 190, 192, 194, 195, 198, 373, 375, 377, 379, 381, 293, 294, 295, 150, 155, 152, 153, 394, 395, 396, 397, 399, 400, 402, 403, 404, 405, 406, 407, 408, 409, 410, 411, 412, 151, 156, 398, 401, 221, 258, 277, 296, 313, 333, 224, 215, 218, 189, 191, 193, 199, 197, 382, 374, 376, 378, 380, 1207, 1208, 1209, 1210, 1211, 1221, 1222, 1224, 1225, 1226, 1227, 1228, 1229, 1230, 1236, 1237, 1238, 1239, 1240, 1241, 1242, 1247, 1248, 1250, 1251, 1252, 1253, 1254, 1255, 1260, 1206, 1212, 1216, 1215, 1214, 1217, 1218, 1223, 1219, 1220, 1235, 1232, 1233, 1213, 1234, 1231, 1249, 1256, 1243, 1261, 1244, 1245, 1246, 1257, 1258, 1259]
def flW (e : Nat × Nat × Nat × Nat) : Cond := match clT[e.2.2.1]? with | some r => .fieldLink (cnm e.1) e.2.1 (r.2.1 e.2.2.2).1 (r.2.1 e.2.2.2).2.1 (r.2.1 e.2.2.2).2.2.1 | none => .fieldLink "" 0 "" "" ""
set_option maxRecDepth 100000 in
theorem flT_at : flT.map flW = flP.filterMap (fun i => lw_tbl[i]?) := by rfl
theorem flT_in : ∀ e ∈ flT, flW e ∈ lw_tbl := by
  intro e he
  have h : flW e ∈ flT.map flW := List.mem_map_of_mem he
  rw [flT_at] at h
  obtain ⟨i, -, hi⟩ := List.mem_filterMap.mp h
  exact List.mem_of_getElem? hi
def lyP : List Nat := [259, 261, 263, 265, 226, 228, 230, 232, 234, 236, 359, 361, 363, 365, 314, 316, 318, 278, 280, 334, 336, 338, 340, 342, 344, 200, 202, 204, 206, 208, 210, 383, 385, 387, 389, 391, 297, 299, 301, 157, 159, 161, 163, 413, 415, 417, 419, 421, 423, 425, 427, 429, 431, 433, 435, 437, 439, 441, 443, 445, 447, 449, 1262, 1264, 1266, 1268, 1270, 1272, 1274, 1276, 1278, 1280, 1282, 1284, 1286, 1288, 1290, 1292, 1294, 1296, 1298, 1300, 1302, 1304, 1306, 1308, 1310, 1312, 1314, 1316, 1318, 1320, 1322, 1324, 1326, 1328, 1330, 1332, 1334, 1336, 1338, 1340, 1342, 1344, 1346, 1348, 1350, 1352, 1354, 1356, 1358, 1360, 1362, 1364, 1366, 1368, 1370, 1372]
set_option maxRecDepth 100000 in
theorem lyT_at : clT.flatMap (fun r => u_ws r.1 r.2.1 r.2.2) = lyP.filterMap (fun i => lw_tbl[i]?) := by rfl
theorem lyT_in : ∀ r ∈ clT, ∀ w ∈ u_ws r.1 r.2.1 r.2.2, w ∈ lw_tbl := by
  intro r hr w hw
  have h : w ∈ clT.flatMap (fun r => u_ws r.1 r.2.1 r.2.2) := List.mem_flatMap.mpr ⟨r, hr, hw⟩
  rw [lyT_at] at h
  obtain ⟨i, -, hi⟩ := List.mem_filterMap.mp h
  exact List.mem_of_getElem? hi
set_option maxRecDepth 100000 in
/-- the words that go along with a call -/
def lwG : List Cond := lw_tbl.filter goodWord
theorem lwG_in {w : Cond} (h : w ∈ lw_tbl) (g : goodWord w = true) : w ∈ lwG := List.mem_filter.mpr ⟨h, g⟩
theorem lwG_tbl {w : Cond} (h : w ∈ lwG) : w ∈ lw_tbl := (List.mem_filter.mp h).1
theorem lwG_good {w : Cond} (h : w ∈ lwG) : goodWord w = true := (List.mem_filter.mp h).2
theorem flT_good : (flT.map flW).all goodWord = true := by decide +kernel
theorem flT_inG : ∀ e ∈ flT, flW e ∈ lwG := fun e he => lwG_in (flT_in e he) (List.all_eq_true.mp flT_good _ (List.mem_map_of_mem he))
theorem lyT_good : (clT.flatMap (fun r => u_ws r.1 r.2.1 r.2.2)).all goodWord = true := by decide +kernel
theorem lyT_inG : ∀ r ∈ clT, ∀ w ∈ u_ws r.1 r.2.1 r.2.2, w ∈ lwG := fun r hr w hw => lwG_in (lyT_in r hr w hw) (List.all_eq_true.mp lyT_good _ (List.mem_flatMap.mpr ⟨r, hr, hw⟩))
theorem pT : ∀ (c : Nat) (r : vw_C), clT[c]? = some r → ∀ k, k < r.2.2 → parseFieldDescriptor (r.2.1 k).2.2.1 = some (tyT c k) := by
  intro c r h
  match c, h with
  | 0, h => cases h; exact pT0
  | 1, h => cases h; exact pT1
  | 2, h => cases h; exact pT2
  | 3, h => cases h; exact pT3
  | 4, h => cases h; exact pT4
  | 5, h => cases h; exact pT5
  | 6, h => cases h; exact pT6
  | 7, h => cases h; exact pT7
  | 8, h => cases h; exact pT8
  | 9, h => cases h; exact pT9
  | 10, h => cases h; exact pT10
  | 11, h => cases h; exact pT11
  | c + 12, h => exact absurd h (by simp [clT])
theorem nT : ∀ (c : Nat) (r : vw_C), clT[c]? = some r → ∀ a, a < r.2.2 → ∀ b, b < r.2.2 → a ≠ b → (r.2.1 a).2.1 ≠ (r.2.1 b).2.1 := by
  intro c r h
  match c, h with
  | 0, h => cases h; exact nT0
  | 1, h => cases h; exact nT1
  | 2, h => cases h; exact nT2
  | 3, h => cases h; exact nT3
  | 4, h => cases h; exact nT4
  | 5, h => cases h; exact nT5
  | 6, h => cases h; exact nT6
  | 7, h => cases h; exact nT7
  | 8, h => cases h; exact nT8
  | 9, h => cases h; exact nT9
  | 10, h => cases h; exact nT10
  | 11, h => cases h; exact nT11
  | c + 12, h => exact absurd h (by simp [clT])
