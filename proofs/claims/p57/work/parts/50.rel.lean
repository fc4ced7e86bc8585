/-! the small machine's heap on the machine's: addresses, values, cells, a whole heap -/
/-- where the constants are, and what they hold -/
abbrev KT : Type := (Nat → Nat) × HP
def adr (B : Nat) (CS : KT) (a : Nat) : Nat := if a < BIG then B + a else CS.1 (a - BIG)
def lvA (B : Nat) (CS : KT) : Value → Value
  | .ref a => .ref (adr B CS a)
  | v => v
def vR (B : Nat) (CS : KT) (v mv : Value) : Prop := match v with
  | .retAddr _ => ∃ q, mv = .ref q
  | v => mv = lvA B CS v
def stR (B : Nat) (CS : KT) : List Value → List Value → Prop
  | [], ms => ms = []
  | v :: l, ms => ∃ mv r, ms = mv :: r ∧ vR B CS v mv ∧ stR B CS l r
theorem vR.cat {B : Nat} {CS : KT} {v mv : Value} (h : vR B CS v mv) : mv.category = v.category := by
  cases v with
  | retAddr p => obtain ⟨q, rfl⟩ := h; rfl
  | ref a => rw [show mv = .ref (adr B CS a) from h]; rfl
  | int x => rw [show mv = .int x from h]
  | long x => rw [show mv = .long x from h]
  | float x => rw [show mv = .float x from h]
  | double x => rw [show mv = .double x from h]
  | null => rw [show mv = .null from h]
theorem vR.of {B : Nat} {CS : KT} (v : Value) (h : ∀ p, v ≠ .retAddr p) : vR B CS v (lvA B CS v) := by
  cases v with
  | retAddr p => exact absurd rfl (h p)
  | _ => rfl
theorem stR.cats {B : Nat} {CS : KT} : ∀ {st ms : List Value}, stR B CS st ms → ms.map (fun v => v.category) = st.map (fun v => v.category)
  | [], ms, h => by rw [show ms = [] from h]
  | v :: l, ms, h => by
    obtain ⟨mv, r, rfl, h1, h2⟩ := h
    simp only [List.map_cons, h1.cat, stR.cats h2]
theorem stR.cons {B : Nat} {CS : KT} {v mv : Value} {st ms : List Value} (h1 : vR B CS v mv) (h2 : stR B CS st ms) : stR B CS (v :: st) (mv :: ms) := ⟨mv, ms, rfl, h1, h2⟩
-- fields: classes whose objects the small machine knows
def F_0 : u_T := fun k => match k with
  | 0 => ("LintelBrothers$Bounds", "low", "[I", true)
  | _ => ("LintelBrothers$Bounds", "high", "[I", true)
def Fy_0 : Nat → FieldType := fun k => match k with
  | 0 => .array .int
  | _ => .array .int
def F_1 : u_T := fun k => match k with
  | 0 => ("LintelBrothers$Constraints", "count", "I", false)
  | 1 => ("LintelBrothers$Constraints", "nextId", "I", false)
  | 2 => ("LintelBrothers$Constraints", "id", "[I", true)
  | 3 => ("LintelBrothers$Constraints", "kind", "[C", true)
  | 4 => ("LintelBrothers$Constraints", "first", "[I", true)
  | 5 => ("LintelBrothers$Constraints", "second", "[I", true)
  | _ => ("LintelBrothers$Constraints", "gap", "[I", true)
def Fy_1 : Nat → FieldType := fun k => match k with
  | 0 => .int
  | 1 => .int
  | 2 => .array .int
  | 3 => .array .char
  | 4 => .array .int
  | 5 => .array .int
  | _ => .array .int
def F_2 : u_T := fun k => match k with
  | 0 => ("LintelBrothers$Data", "doors", "I", false)
  | 1 => ("LintelBrothers$Data", "frame", "LLintelBrothers$Bounds;", true)
  | 2 => ("LintelBrothers$Data", "bounds", "LLintelBrothers$Bounds;", true)
  | 3 => ("LintelBrothers$Data", "constraints", "LLintelBrothers$Constraints;", true)
  | 4 => ("LintelBrothers$Data", "passes", "I", false)
  | _ => ("LintelBrothers$Data", "changes", "I", false)
def Fy_2 : Nat → FieldType := fun k => match k with
  | 0 => .int
  | 1 => .object "LintelBrothers$Bounds"
  | 2 => .object "LintelBrothers$Bounds"
  | 3 => .object "LintelBrothers$Constraints"
  | 4 => .int
  | _ => .int
def F_3 : u_T := fun k => match k with
  | 0 => ("LintelBrothers$History", "count", "I", false)
  | 1 => ("LintelBrothers$History", "next", "I", false)
  | _ => ("LintelBrothers$History", "ring", "[LLintelBrothers$Data;", true)
def Fy_3 : Nat → FieldType := fun k => match k with
  | 0 => .int
  | 1 => .int
  | _ => .array (.object "LintelBrothers$Data")
def F_4 : u_T := fun k => match k with
  | 0 => ("LintelBrothers$LongestPaths", "height", "[I", true)
  | _ => ("LintelBrothers$LongestPaths", "side", "[I", true)
def Fy_4 : Nat → FieldType := fun k => match k with
  | 0 => .array .int
  | _ => .array .int
def F_5 : u_T := fun k => match k with
  | 0 => ("LintelBrothers$Narrowing", "passes", "I", false)
  | 1 => ("LintelBrothers$Narrowing", "changes", "I", false)
  | _ => ("LintelBrothers$Narrowing", "conflict", "I", false)
def Fy_5 : Nat → FieldType := fun k => match k with
  | 0 => .int
  | 1 => .int
  | _ => .int
def F_6 : u_T := fun k => match k with
  | 0 => ("LintelBrothers$PeaceSearch", "best", "[I", true)
  | 1 => ("LintelBrothers$PeaceSearch", "isFound", "Z", false)
  | _ => ("LintelBrothers$PeaceSearch", "paths", "LLintelBrothers$LongestPaths;", true)
def Fy_6 : Nat → FieldType := fun k => match k with
  | 0 => .array .int
  | 1 => .boolean
  | _ => .object "LintelBrothers$LongestPaths"
def F_7 : u_T := fun k => match k with
  | 0 => ("LintelBrothers$Script", "text", "Ljava/lang/StringBuilder;", true)
  | 1 => ("LintelBrothers$Script", "position", "I", false)
  | 2 => ("LintelBrothers$Script", "count", "I", false)
  | 3 => ("LintelBrothers$Script", "verb", "[I", true)
  | 4 => ("LintelBrothers$Script", "kind", "[C", true)
  | _ => ("LintelBrothers$Script", "number", "[[I", true)
def Fy_7 : Nat → FieldType := fun k => match k with
  | 0 => .object "java/lang/StringBuilder"
  | 1 => .int
  | 2 => .int
  | 3 => .array .int
  | 4 => .array .char
  | _ => .array (.array .int)
def F_8 : u_T := fun k => match k with
  | 0 => ("LintelBrothers", "data", "LLintelBrothers$Data;", true)
  | 1 => ("LintelBrothers", "history", "LLintelBrothers$History;", true)
  | 2 => ("LintelBrothers", "snapshot", "LLintelBrothers$Data;", true)
  | 3 => ("LintelBrothers", "hasSnapshot", "Z", false)
  | 4 => ("LintelBrothers", "trial", "LLintelBrothers$Bounds;", true)
  | 5 => ("LintelBrothers", "narrowing", "LLintelBrothers$Narrowing;", true)
  | 6 => ("LintelBrothers", "paths", "LLintelBrothers$LongestPaths;", true)
  | 7 => ("LintelBrothers", "peace", "LLintelBrothers$PeaceSearch;", true)
  | 8 => ("LintelBrothers", "output", "Ljava/lang/StringBuilder;", true)
  | 9 => ("LintelBrothers", "script", "LLintelBrothers$Script;", true)
  | 10 => ("LintelBrothers", "syntaxOffset", "I", false)
  | 11 => ("LintelBrothers", "reason", "I", false)
  | 12 => ("LintelBrothers", "detail", "I", false)
  | _ => ("LintelBrothers", "cause", "I", false)
def Fy_8 : Nat → FieldType := fun k => match k with
  | 0 => .object "LintelBrothers$Data"
  | 1 => .object "LintelBrothers$History"
  | 2 => .object "LintelBrothers$Data"
  | 3 => .boolean
  | 4 => .object "LintelBrothers$Bounds"
  | 5 => .object "LintelBrothers$Narrowing"
  | 6 => .object "LintelBrothers$LongestPaths"
  | 7 => .object "LintelBrothers$PeaceSearch"
  | 8 => .object "java/lang/StringBuilder"
  | 9 => .object "LintelBrothers$Script"
  | 10 => .int
  | 11 => .int
  | 12 => .int
  | _ => .int
def F_9 : u_T := fun k => match k with
  | 0 => ("java/lang/String", "value", "[B", true)
  | 1 => ("java/lang/String", "coder", "B", true)
  | 2 => ("java/lang/String", "hash", "I", false)
  | _ => ("java/lang/String", "hashIsZero", "Z", false)
def Fy_9 : Nat → FieldType := fun k => match k with
  | 0 => .array .byte
  | 1 => .byte
  | 2 => .int
  | _ => .boolean
def F_10 : u_T := fun k => match k with
  | 0 => ("java/lang/AbstractStringBuilder", "value", "[B", false)
  | 1 => ("java/lang/AbstractStringBuilder", "coder", "B", false)
  | 2 => ("java/lang/AbstractStringBuilder", "maybeLatin1", "Z", false)
  | _ => ("java/lang/AbstractStringBuilder", "count", "I", false)
def Fy_10 : Nat → FieldType := fun k => match k with
  | 0 => .array .byte
  | 1 => .byte
  | 2 => .boolean
  | _ => .int
def F_11 : u_T := fun k => match k with
  | 0 => ("java/lang/String", "value", "[B", true)
  | 1 => ("java/lang/String", "coder", "B", true)
  | 2 => ("java/lang/String", "hash", "I", false)
  | _ => ("java/lang/String", "hashIsZero", "Z", false)
def Fy_11 : Nat → FieldType := fun k => match k with
  | 0 => .array .byte
  | 1 => .byte
  | 2 => .int
  | _ => .boolean
/-- the classes: name, fields, how many -/
def wcl : List vw_C := [("LintelBrothers$Bounds", F_0, 2), ("LintelBrothers$Constraints", F_1, 7), ("LintelBrothers$Data", F_2, 6), ("LintelBrothers$History", F_3, 3), ("LintelBrothers$LongestPaths", F_4, 2), ("LintelBrothers$Narrowing", F_5, 3), ("LintelBrothers$PeaceSearch", F_6, 3), ("LintelBrothers$Script", F_7, 6), ("LintelBrothers", F_8, 14), ("java/lang/String", F_9, 4), ("java/lang/StringBuilder", F_10, 4), ("java/lang/String", F_11, 4)]
/-- the sorts of the fields: 0 int, 1 long, 2 reference, 3 char, 4 byte, 5 boolean -/
def ftag (ci : Nat) : List Nat := match ci with
  | 0 => [2, 2]
  | 1 => [0, 0, 2, 2, 2, 2, 2]
  | 2 => [0, 2, 2, 2, 0, 0]
  | 3 => [0, 0, 2]
  | 4 => [2, 2]
  | 5 => [0, 0, 0]
  | 6 => [2, 5, 2]
  | 7 => [2, 0, 0, 2, 2, 2]
  | 8 => [2, 2, 2, 5, 2, 2, 2, 2, 2, 2, 0, 0, 0, 0]
  | 9 => [2, 4, 0, 5]
  | 10 => [2, 4, 5, 0]
  | 11 => [2, 4, 0, 5]
  | _ => []
def ffty (ci : Nat) : Nat → FieldType := match ci with
  | 0 => Fy_0
  | 1 => Fy_1
  | 2 => Fy_2
  | 3 => Fy_3
  | 4 => Fy_4
  | 5 => Fy_5
  | 6 => Fy_6
  | 7 => Fy_7
  | 8 => Fy_8
  | 9 => Fy_9
  | 10 => Fy_10
  | _ => Fy_11
/-- class names by number -/
def cnm (n : Nat) : String := match n with
  | 0 => "LintelBrothers$Bounds"
  | 1 => "LintelBrothers$Constraints"
  | 2 => "LintelBrothers$Data"
  | 3 => "LintelBrothers$History"
  | 4 => "LintelBrothers$LongestPaths"
  | 5 => "LintelBrothers$Narrowing"
  | 6 => "LintelBrothers$PeaceSearch"
  | 7 => "LintelBrothers$Script"
  | 8 => "LintelBrothers"
  | 9 => "java/lang/String"
  | 10 => "java/lang/StringBuilder"
  | 11 => "java/lang/String"
  | 12 => "LintelBrothersLaw"
  | 13 => "java/lang/AbstractStringBuilder"
  | 14 => "java/lang/Integer"
  | 15 => "java/lang/StringLatin1"
  | 16 => "java/lang/StringUTF16"
  | 17 => "java/util/Arrays"
  | 18 => "jdk/internal/util/ArraysSupport"
  | _ => "jdk/internal/util/Preconditions"
