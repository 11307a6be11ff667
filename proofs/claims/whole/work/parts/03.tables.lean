/-! tables of the machine: class names, fields, cells, methods, links (printed by wip/whole/gen1.py) -/
def rg_on : List String := ["RiverGauge", "RiverGauge$Posts", "RiverGauge$Heights", "RiverGauge$Flows", "RiverGauge$Covers", "RiverGauge$Tape", "RiverGauge$Standards", "RiverGauge$View", "RiverGauge$Rating", "RiverGauge$Points", "RiverGauge$Breaks", "RiverGauge$Gaps", "RiverGaugeModel", "java/lang/Math", "java/lang/Integer", "java/lang/String", "java/lang/StringLatin1"]
def rg_T0 : u_T := fun k => match k with
  | 0 => ("RiverGauge", "refusals", "[I", true)
  | 1 => ("RiverGauge", "posts", "LRiverGauge$Posts;", true)
  | 2 => ("RiverGauge", "heights", "LRiverGauge$Heights;", true)
  | 3 => ("RiverGauge", "flows", "LRiverGauge$Flows;", true)
  | 4 => ("RiverGauge", "covers", "LRiverGauge$Covers;", true)
  | 5 => ("RiverGauge", "tape", "LRiverGauge$Tape;", true)
  | 6 => ("RiverGauge", "standards", "LRiverGauge$Standards;", true)
  | 7 => ("RiverGauge", "view", "LRiverGauge$View;", true)
  | 8 => ("RiverGauge", "rating", "LRiverGauge$Rating;", true)
  | 9 => ("RiverGauge", "bed", "LRiverGauge$Breaks;", true)
  | 10 => ("RiverGauge", "gaps", "LRiverGauge$Gaps;", true)
  | 11 => ("RiverGauge", "publishedPost", "[I", true)
  | 12 => ("RiverGauge", "publishedTime", "[I", true)
  | 13 => ("RiverGauge", "publishedFlow", "[I", true)
  | 14 => ("RiverGauge", "publishedMany", "I", false)
  | 15 => ("RiverGauge", "mendLimit", "I", false)
  | _ => ("RiverGauge", "now", "I", false)
def rg_ty0 : Nat → FieldType := fun k => match k with
  | 0 => .array .int
  | 1 => .object "RiverGauge$Posts"
  | 2 => .object "RiverGauge$Heights"
  | 3 => .object "RiverGauge$Flows"
  | 4 => .object "RiverGauge$Covers"
  | 5 => .object "RiverGauge$Tape"
  | 6 => .object "RiverGauge$Standards"
  | 7 => .object "RiverGauge$View"
  | 8 => .object "RiverGauge$Rating"
  | 9 => .object "RiverGauge$Breaks"
  | 10 => .object "RiverGauge$Gaps"
  | 11 => .array .int
  | 12 => .array .int
  | 13 => .array .int
  | 14 => .int
  | 15 => .int
  | _ => .int
theorem rg_nm0 : ∀ a, a < 17 → ∀ b, b < 17 → a ≠ b → (rg_T0 a).2.1 ≠ (rg_T0 b).2.1 := by decide +kernel
theorem rg_tyok0 : ∀ k, k < 17 → parseFieldDescriptor (rg_T0 k).2.2.1 = some (rg_ty0 k) := by decide +kernel
def rg_T1 : u_T := fun k => match k with
  | 0 => ("RiverGauge$Posts", "many", "I", false)
  | 1 => ("RiverGauge$Posts", "zeros", "I", false)
  | 2 => ("RiverGauge$Posts", "firstZero", "[I", true)
  | 3 => ("RiverGauge$Posts", "low", "[I", true)
  | 4 => ("RiverGauge$Posts", "neighbour", "[I", true)
  | 5 => ("RiverGauge$Posts", "stretches", "[I", true)
  | 6 => ("RiverGauge$Posts", "stretchFrom", "[[I", true)
  | 7 => ("RiverGauge$Posts", "zeroPost", "[I", true)
  | 8 => ("RiverGauge$Posts", "zeroValue", "[I", true)
  | 9 => ("RiverGauge$Posts", "zeroFrom", "[I", true)
  | _ => ("RiverGauge$Posts", "zeroKnown", "[I", true)
def rg_ty1 : Nat → FieldType := fun k => match k with
  | 0 => .int
  | 1 => .int
  | 2 => .array .int
  | 3 => .array .int
  | 4 => .array .int
  | 5 => .array .int
  | 6 => .array (.array .int)
  | 7 => .array .int
  | 8 => .array .int
  | 9 => .array .int
  | _ => .array .int
theorem rg_nm1 : ∀ a, a < 11 → ∀ b, b < 11 → a ≠ b → (rg_T1 a).2.1 ≠ (rg_T1 b).2.1 := by decide +kernel
theorem rg_tyok1 : ∀ k, k < 11 → parseFieldDescriptor (rg_T1 k).2.2.1 = some (rg_ty1 k) := by decide +kernel
def rg_T2 : u_T := fun k => match k with
  | 0 => ("RiverGauge$Heights", "many", "I", false)
  | 1 => ("RiverGauge$Heights", "struckMany", "I", false)
  | 2 => ("RiverGauge$Heights", "post", "[I", true)
  | 3 => ("RiverGauge$Heights", "time", "[I", true)
  | 4 => ("RiverGauge$Heights", "kind", "[I", true)
  | 5 => ("RiverGauge$Heights", "read", "[I", true)
  | 6 => ("RiverGauge$Heights", "known", "[I", true)
  | 7 => ("RiverGauge$Heights", "struck", "[I", true)
  | _ => ("RiverGauge$Heights", "order", "[I", true)
def rg_ty2 : Nat → FieldType := fun k => match k with
  | 0 => .int
  | 1 => .int
  | 2 => .array .int
  | 3 => .array .int
  | 4 => .array .int
  | 5 => .array .int
  | 6 => .array .int
  | 7 => .array .int
  | _ => .array .int
theorem rg_nm2 : ∀ a, a < 9 → ∀ b, b < 9 → a ≠ b → (rg_T2 a).2.1 ≠ (rg_T2 b).2.1 := by decide +kernel
theorem rg_tyok2 : ∀ k, k < 9 → parseFieldDescriptor (rg_T2 k).2.2.1 = some (rg_ty2 k) := by decide +kernel
def rg_T3 : u_T := fun k => match k with
  | 0 => ("RiverGauge$Flows", "many", "I", false)
  | 1 => ("RiverGauge$Flows", "post", "[I", true)
  | 2 => ("RiverGauge$Flows", "time", "[I", true)
  | 3 => ("RiverGauge$Flows", "number", "[I", true)
  | 4 => ("RiverGauge$Flows", "wrong", "[I", true)
  | 5 => ("RiverGauge$Flows", "known", "[I", true)
  | _ => ("RiverGauge$Flows", "struck", "[I", true)
def rg_ty3 : Nat → FieldType := fun k => match k with
  | 0 => .int
  | 1 => .array .int
  | 2 => .array .int
  | 3 => .array .int
  | 4 => .array .int
  | 5 => .array .int
  | _ => .array .int
theorem rg_nm3 : ∀ a, a < 7 → ∀ b, b < 7 → a ≠ b → (rg_T3 a).2.1 ≠ (rg_T3 b).2.1 := by decide +kernel
theorem rg_tyok3 : ∀ k, k < 7 → parseFieldDescriptor (rg_T3 k).2.2.1 = some (rg_ty3 k) := by decide +kernel
def rg_T4 : u_T := fun k => match k with
  | 0 => ("RiverGauge$Covers", "many", "I", false)
  | 1 => ("RiverGauge$Covers", "post", "[I", true)
  | 2 => ("RiverGauge$Covers", "kind", "[I", true)
  | 3 => ("RiverGauge$Covers", "from", "[I", true)
  | 4 => ("RiverGauge$Covers", "to", "[I", true)
  | 5 => ("RiverGauge$Covers", "hundredths", "[I", true)
  | _ => ("RiverGauge$Covers", "known", "[I", true)
def rg_ty4 : Nat → FieldType := fun k => match k with
  | 0 => .int
  | 1 => .array .int
  | 2 => .array .int
  | 3 => .array .int
  | 4 => .array .int
  | 5 => .array .int
  | _ => .array .int
theorem rg_nm4 : ∀ a, a < 7 → ∀ b, b < 7 → a ≠ b → (rg_T4 a).2.1 ≠ (rg_T4 b).2.1 := by decide +kernel
theorem rg_tyok4 : ∀ k, k < 7 → parseFieldDescriptor (rg_T4 k).2.2.1 = some (rg_ty4 k) := by decide +kernel
def rg_T5 : u_T := fun k => match k with
  | 0 => ("RiverGauge$Tape", "bytes", "[I", true)
  | 1 => ("RiverGauge$Tape", "length", "I", false)
  | 2 => ("RiverGauge$Tape", "steps", "[I", true)
  | 3 => ("RiverGauge$Tape", "stepMany", "I", false)
  | _ => ("RiverGauge$Tape", "at", "I", false)
def rg_ty5 : Nat → FieldType := fun k => match k with
  | 0 => .array .int
  | 1 => .int
  | 2 => .array .int
  | 3 => .int
  | _ => .int
theorem rg_nm5 : ∀ a, a < 5 → ∀ b, b < 5 → a ≠ b → (rg_T5 a).2.1 ≠ (rg_T5 b).2.1 := by decide +kernel
theorem rg_tyok5 : ∀ k, k < 5 → parseFieldDescriptor (rg_T5 k).2.2.1 = some (rg_ty5 k) := by decide +kernel
def rg_T6 : u_T := fun k => match k with
  | 0 => ("RiverGauge$Standards", "many", "I", false)
  | 1 => ("RiverGauge$Standards", "purpose", "[I", true)
  | 2 => ("RiverGauge$Standards", "day", "[I", true)
  | 3 => ("RiverGauge$Standards", "known", "[I", true)
  | 4 => ("RiverGauge$Standards", "stepMany", "[I", true)
  | 5 => ("RiverGauge$Standards", "steps", "[I", true)
  | 6 => ("RiverGauge$Standards", "letters", "[I", true)
  | _ => ("RiverGauge$Standards", "pile", "[I", true)
def rg_ty6 : Nat → FieldType := fun k => match k with
  | 0 => .int
  | 1 => .array .int
  | 2 => .array .int
  | 3 => .array .int
  | 4 => .array .int
  | 5 => .array .int
  | 6 => .array .int
  | _ => .array .int
theorem rg_nm6 : ∀ a, a < 8 → ∀ b, b < 8 → a ≠ b → (rg_T6 a).2.1 ≠ (rg_T6 b).2.1 := by decide +kernel
theorem rg_tyok6 : ∀ k, k < 8 → parseFieldDescriptor (rg_T6 k).2.2.1 = some (rg_ty6 k) := by decide +kernel
def rg_T7 : u_T := fun k => match k with
  | 0 => ("RiverGauge$View", "posts", "LRiverGauge$Posts;", true)
  | 1 => ("RiverGauge$View", "heights", "LRiverGauge$Heights;", true)
  | 2 => ("RiverGauge$View", "standards", "LRiverGauge$Standards;", true)
  | 3 => ("RiverGauge$View", "k", "I", false)
  | 4 => ("RiverGauge$View", "round", "I", false)
  | 5 => ("RiverGauge$View", "stands", "Z", false)
  | 6 => ("RiverGauge$View", "mark", "[I", true)
  | 7 => ("RiverGauge$View", "key", "[I", true)
  | 8 => ("RiverGauge$View", "level", "[I", true)
  | 9 => ("RiverGauge$View", "kind", "[I", true)
  | _ => ("RiverGauge$View", "many", "I", false)
def rg_ty7 : Nat → FieldType := fun k => match k with
  | 0 => .object "RiverGauge$Posts"
  | 1 => .object "RiverGauge$Heights"
  | 2 => .object "RiverGauge$Standards"
  | 3 => .int
  | 4 => .int
  | 5 => .boolean
  | 6 => .array .int
  | 7 => .array .int
  | 8 => .array .int
  | 9 => .array .int
  | _ => .int
theorem rg_nm7 : ∀ a, a < 11 → ∀ b, b < 11 → a ≠ b → (rg_T7 a).2.1 ≠ (rg_T7 b).2.1 := by decide +kernel
theorem rg_tyok7 : ∀ k, k < 11 → parseFieldDescriptor (rg_T7 k).2.2.1 = some (rg_ty7 k) := by decide +kernel
def rg_T8 : u_T := fun k => match k with
  | 0 => ("RiverGauge$Rating", "posts", "LRiverGauge$Posts;", true)
  | 1 => ("RiverGauge$Rating", "flows", "LRiverGauge$Flows;", true)
  | 2 => ("RiverGauge$Rating", "covers", "LRiverGauge$Covers;", true)
  | 3 => ("RiverGauge$Rating", "view", "LRiverGauge$View;", true)
  | 4 => ("RiverGauge$Rating", "curve", "LRiverGauge$Points;", true)
  | 5 => ("RiverGauge$Rating", "sum", "[I", true)
  | 6 => ("RiverGauge$Rating", "measured", "[I", true)
  | 7 => ("RiverGauge$Rating", "blockPoints", "[I", true)
  | 8 => ("RiverGauge$Rating", "greatestWrong", "I", false)
  | 9 => ("RiverGauge$Rating", "drawnPost", "I", false)
  | 10 => ("RiverGauge$Rating", "drawnFrom", "I", false)
  | 11 => ("RiverGauge$Rating", "drawnTo", "I", false)
  | 12 => ("RiverGauge$Rating", "drawnRound", "I", false)
  | 13 => ("RiverGauge$Rating", "rated", "[I", true)
  | 14 => ("RiverGauge$Rating", "bestLag", "I", false)
  | 15 => ("RiverGauge$Rating", "bestSum", "J", false)
  | _ => ("RiverGauge$Rating", "bestMany", "J", false)
def rg_ty8 : Nat → FieldType := fun k => match k with
  | 0 => .object "RiverGauge$Posts"
  | 1 => .object "RiverGauge$Flows"
  | 2 => .object "RiverGauge$Covers"
  | 3 => .object "RiverGauge$View"
  | 4 => .object "RiverGauge$Points"
  | 5 => .array .int
  | 6 => .array .int
  | 7 => .array .int
  | 8 => .int
  | 9 => .int
  | 10 => .int
  | 11 => .int
  | 12 => .int
  | 13 => .array .int
  | 14 => .int
  | 15 => .long
  | _ => .long
theorem rg_nm8 : ∀ a, a < 17 → ∀ b, b < 17 → a ≠ b → (rg_T8 a).2.1 ≠ (rg_T8 b).2.1 := by decide +kernel
theorem rg_tyok8 : ∀ k, k < 17 → parseFieldDescriptor (rg_T8 k).2.2.1 = some (rg_ty8 k) := by decide +kernel
def rg_T9 : u_T := fun k => match k with
  | 0 => ("RiverGauge$Points", "many", "I", false)
  | 1 => ("RiverGauge$Points", "height", "[I", true)
  | _ => ("RiverGauge$Points", "flow", "[I", true)
def rg_ty9 : Nat → FieldType := fun k => match k with
  | 0 => .int
  | 1 => .array .int
  | _ => .array .int
theorem rg_nm9 : ∀ a, a < 3 → ∀ b, b < 3 → a ≠ b → (rg_T9 a).2.1 ≠ (rg_T9 b).2.1 := by decide +kernel
theorem rg_tyok9 : ∀ k, k < 3 → parseFieldDescriptor (rg_T9 k).2.2.1 = some (rg_ty9 k) := by decide +kernel
def rg_T10 : u_T := fun k => match k with
  | 0 => ("RiverGauge$Breaks", "flows", "LRiverGauge$Flows;", true)
  | 1 => ("RiverGauge$Breaks", "view", "LRiverGauge$View;", true)
  | 2 => ("RiverGauge$Breaks", "bases", "[LRiverGauge$Points;", true)
  | 3 => ("RiverGauge$Breaks", "row", "[I", true)
  | 4 => ("RiverGauge$Breaks", "rowLength", "I", false)
  | 5 => ("RiverGauge$Breaks", "picked", "[I", true)
  | 6 => ("RiverGauge$Breaks", "picks", "I", false)
  | 7 => ("RiverGauge$Breaks", "goes", "[J", true)
  | 8 => ("RiverGauge$Breaks", "fewest", "I", false)
  | 9 => ("RiverGauge$Breaks", "rivals", "I", false)
  | _ => ("RiverGauge$Breaks", "told", "I", false)
def rg_ty10 : Nat → FieldType := fun k => match k with
  | 0 => .object "RiverGauge$Flows"
  | 1 => .object "RiverGauge$View"
  | 2 => .array (.object "RiverGauge$Points")
  | 3 => .array .int
  | 4 => .int
  | 5 => .array .int
  | 6 => .int
  | 7 => .array .long
  | 8 => .int
  | 9 => .int
  | _ => .int
theorem rg_nm10 : ∀ a, a < 11 → ∀ b, b < 11 → a ≠ b → (rg_T10 a).2.1 ≠ (rg_T10 b).2.1 := by decide +kernel
theorem rg_tyok10 : ∀ k, k < 11 → parseFieldDescriptor (rg_T10 k).2.2.1 = some (rg_ty10 k) := by decide +kernel
def rg_T11 : u_T := fun k => match k with
  | 0 => ("RiverGauge$Gaps", "posts", "LRiverGauge$Posts;", true)
  | 1 => ("RiverGauge$Gaps", "view", "LRiverGauge$View;", true)
  | 2 => ("RiverGauge$Gaps", "start", "I", false)
  | 3 => ("RiverGauge$Gaps", "end", "I", false)
  | _ => ("RiverGauge$Gaps", "neighbour", "I", false)
def rg_ty11 : Nat → FieldType := fun k => match k with
  | 0 => .object "RiverGauge$Posts"
  | 1 => .object "RiverGauge$View"
  | 2 => .int
  | 3 => .int
  | _ => .int
theorem rg_nm11 : ∀ a, a < 5 → ∀ b, b < 5 → a ≠ b → (rg_T11 a).2.1 ≠ (rg_T11 b).2.1 := by decide +kernel
theorem rg_tyok11 : ∀ k, k < 5 → parseFieldDescriptor (rg_T11 k).2.2.1 = some (rg_ty11 k) := by decide +kernel
def rg_T12 : u_T := fun k => match k with
  | 0 => ("RiverGaugeModel", "now", "I", false)
  | 1 => ("RiverGaugeModel", "posts", "I", false)
  | 2 => ("RiverGaugeModel", "zeros", "I", false)
  | 3 => ("RiverGaugeModel", "heights", "I", false)
  | 4 => ("RiverGaugeModel", "flows", "I", false)
  | 5 => ("RiverGaugeModel", "standards", "I", false)
  | 6 => ("RiverGaugeModel", "unders", "I", false)
  | 7 => ("RiverGaugeModel", "publishedN", "I", false)
  | 8 => ("RiverGaugeModel", "tapeN", "I", false)
  | 9 => ("RiverGaugeModel", "rowN", "I", false)
  | 10 => ("RiverGaugeModel", "limit", "I", false)
  | 11 => ("RiverGaugeModel", "stamp", "I", false)
  | 12 => ("RiverGaugeModel", "zero", "[I", true)
  | 13 => ("RiverGaugeModel", "low", "[I", true)
  | 14 => ("RiverGaugeModel", "beside", "[I", true)
  | 15 => ("RiverGaugeModel", "stretches", "[I", true)
  | 16 => ("RiverGaugeModel", "bases", "[I", true)
  | 17 => ("RiverGaugeModel", "stretchFrom", "[I", true)
  | 18 => ("RiverGaugeModel", "baseHeight", "[I", true)
  | 19 => ("RiverGaugeModel", "baseFlow", "[I", true)
  | 20 => ("RiverGaugeModel", "zPost", "[I", true)
  | 21 => ("RiverGaugeModel", "zZero", "[I", true)
  | 22 => ("RiverGaugeModel", "zFrom", "[I", true)
  | 23 => ("RiverGaugeModel", "zKnown", "[I", true)
  | 24 => ("RiverGaugeModel", "hPost", "[I", true)
  | 25 => ("RiverGaugeModel", "hTime", "[I", true)
  | 26 => ("RiverGaugeModel", "hKind", "[I", true)
  | 27 => ("RiverGaugeModel", "hRead", "[I", true)
  | 28 => ("RiverGaugeModel", "hKnown", "[I", true)
  | 29 => ("RiverGaugeModel", "hStruck", "[I", true)
  | 30 => ("RiverGaugeModel", "fPost", "[I", true)
  | 31 => ("RiverGaugeModel", "fTime", "[I", true)
  | 32 => ("RiverGaugeModel", "fNumber", "[I", true)
  | 33 => ("RiverGaugeModel", "fWrong", "[I", true)
  | 34 => ("RiverGaugeModel", "fKnown", "[I", true)
  | 35 => ("RiverGaugeModel", "fStruck", "[I", true)
  | 36 => ("RiverGaugeModel", "uPost", "[I", true)
  | 37 => ("RiverGaugeModel", "uKind", "[I", true)
  | 38 => ("RiverGaugeModel", "uFrom", "[I", true)
  | 39 => ("RiverGaugeModel", "uTo", "[I", true)
  | 40 => ("RiverGaugeModel", "uMany", "[I", true)
  | 41 => ("RiverGaugeModel", "uKnown", "[I", true)
  | 42 => ("RiverGaugeModel", "sPurpose", "[I", true)
  | 43 => ("RiverGaugeModel", "sDay", "[I", true)
  | 44 => ("RiverGaugeModel", "sTold", "[I", true)
  | 45 => ("RiverGaugeModel", "sN", "[I", true)
  | 46 => ("RiverGaugeModel", "steps", "[I", true)
  | 47 => ("RiverGaugeModel", "pPost", "[I", true)
  | 48 => ("RiverGaugeModel", "pTime", "[I", true)
  | 49 => ("RiverGaugeModel", "pTold", "[I", true)
  | 50 => ("RiverGaugeModel", "tape", "[I", true)
  | 51 => ("RiverGaugeModel", "row", "[I", true)
  | 52 => ("RiverGaugeModel", "refused", "[I", true)
  | 53 => ("RiverGaugeModel", "letters", "[J", true)
  | 54 => ("RiverGaugeModel", "found", "I", false)
  | 55 => ("RiverGaugeModel", "ops", "[I", true)
  | 56 => ("RiverGaugeModel", "newSteps", "[I", true)
  | 57 => ("RiverGaugeModel", "at", "I", false)
  | 58 => ("RiverGaugeModel", "stepN", "I", false)
  | 59 => ("RiverGaugeModel", "opsN", "I", false)
  | 60 => ("RiverGaugeModel", "deep", "I", false)
  | 61 => ("RiverGaugeModel", "stack", "[J", true)
  | 62 => ("RiverGaugeModel", "builtPost", "I", false)
  | 63 => ("RiverGaugeModel", "builtFrom", "I", false)
  | 64 => ("RiverGaugeModel", "builtTo", "I", false)
  | 65 => ("RiverGaugeModel", "builtKnown", "I", false)
  | 66 => ("RiverGaugeModel", "builtStamp", "I", false)
  | 67 => ("RiverGaugeModel", "pointN", "I", false)
  | 68 => ("RiverGaugeModel", "wrongest", "I", false)
  | 69 => ("RiverGaugeModel", "pointHeight", "[I", true)
  | 70 => ("RiverGaugeModel", "pointFlow", "[I", true)
  | 71 => ("RiverGaugeModel", "pointMany", "[I", true)
  | 72 => ("RiverGaugeModel", "block", "[I", true)
  | 73 => ("RiverGaugeModel", "blockMany", "[I", true)
  | 74 => ("RiverGaugeModel", "pointSum", "[J", true)
  | 75 => ("RiverGaugeModel", "blockSum", "[J", true)
  | 76 => ("RiverGaugeModel", "isBeyond", "Z", false)
  | 77 => ("RiverGaugeModel", "isUnder", "Z", false)
  | 78 => ("RiverGaugeModel", "reckoned", "I", false)
  | 79 => ("RiverGaugeModel", "wrong", "I", false)
  | 80 => ("RiverGaugeModel", "runN", "I", false)
  | 81 => ("RiverGaugeModel", "runFlow", "[I", true)
  | 82 => ("RiverGaugeModel", "runHeight", "[I", true)
  | 83 => ("RiverGaugeModel", "shifts", "[I", true)
  | 84 => ("RiverGaugeModel", "fewest", "I", false)
  | 85 => ("RiverGaugeModel", "rivals", "I", false)
  | 86 => ("RiverGaugeModel", "least", "I", false)
  | 87 => ("RiverGaugeModel", "ones", "[I", true)
  | _ => ("RiverGaugeModel", "others", "[I", true)
def rg_ty12 : Nat → FieldType := fun k => match k with
  | 0 => .int
  | 1 => .int
  | 2 => .int
  | 3 => .int
  | 4 => .int
  | 5 => .int
  | 6 => .int
  | 7 => .int
  | 8 => .int
  | 9 => .int
  | 10 => .int
  | 11 => .int
  | 12 => .array .int
  | 13 => .array .int
  | 14 => .array .int
  | 15 => .array .int
  | 16 => .array .int
  | 17 => .array .int
  | 18 => .array .int
  | 19 => .array .int
  | 20 => .array .int
  | 21 => .array .int
  | 22 => .array .int
  | 23 => .array .int
  | 24 => .array .int
  | 25 => .array .int
  | 26 => .array .int
  | 27 => .array .int
  | 28 => .array .int
  | 29 => .array .int
  | 30 => .array .int
  | 31 => .array .int
  | 32 => .array .int
  | 33 => .array .int
  | 34 => .array .int
  | 35 => .array .int
  | 36 => .array .int
  | 37 => .array .int
  | 38 => .array .int
  | 39 => .array .int
  | 40 => .array .int
  | 41 => .array .int
  | 42 => .array .int
  | 43 => .array .int
  | 44 => .array .int
  | 45 => .array .int
  | 46 => .array .int
  | 47 => .array .int
  | 48 => .array .int
  | 49 => .array .int
  | 50 => .array .int
  | 51 => .array .int
  | 52 => .array .int
  | 53 => .array .long
  | 54 => .int
  | 55 => .array .int
  | 56 => .array .int
  | 57 => .int
  | 58 => .int
  | 59 => .int
  | 60 => .int
  | 61 => .array .long
  | 62 => .int
  | 63 => .int
  | 64 => .int
  | 65 => .int
  | 66 => .int
  | 67 => .int
  | 68 => .int
  | 69 => .array .int
  | 70 => .array .int
  | 71 => .array .int
  | 72 => .array .int
  | 73 => .array .int
  | 74 => .array .long
  | 75 => .array .long
  | 76 => .boolean
  | 77 => .boolean
  | 78 => .int
  | 79 => .int
  | 80 => .int
  | 81 => .array .int
  | 82 => .array .int
  | 83 => .array .int
  | 84 => .int
  | 85 => .int
  | 86 => .int
  | 87 => .array .int
  | _ => .array .int
theorem rg_nm12 : ∀ a, a < 89 → ∀ b, b < 89 → a ≠ b → (rg_T12 a).2.1 ≠ (rg_T12 b).2.1 := by decide +kernel
theorem rg_tyok12 : ∀ k, k < 89 → parseFieldDescriptor (rg_T12 k).2.2.1 = some (rg_ty12 k) := by decide +kernel
abbrev rg_classes : List vw_C := [("RiverGauge", rg_T0, 17), ("RiverGauge$Posts", rg_T1, 11), ("RiverGauge$Heights", rg_T2, 9), ("RiverGauge$Flows", rg_T3, 7), ("RiverGauge$Covers", rg_T4, 7), ("RiverGauge$Tape", rg_T5, 5), ("RiverGauge$Standards", rg_T6, 8), ("RiverGauge$View", rg_T7, 11), ("RiverGauge$Rating", rg_T8, 17), ("RiverGauge$Points", rg_T9, 3), ("RiverGauge$Breaks", rg_T10, 11), ("RiverGauge$Gaps", rg_T11, 5), ("RiverGaugeModel", rg_T12, 89)]
abbrev rg_tyL : List (Nat → FieldType) := [rg_ty0, rg_ty1, rg_ty2, rg_ty3, rg_ty4, rg_ty5, rg_ty6, rg_ty7, rg_ty8, rg_ty9, rg_ty10, rg_ty11, rg_ty12]
abbrev rg_Sh : Type := (Nat × List Nat) ⊕ (Nat × Nat × Nat × Nat)
/-- the cells: objects (class, slots: 0 an int, 1 a boolean, 2 a long, 3 + c the cell c), rows (0 ints, 1 longs, 2 Points, 3 rows of ints; length; first cell, step) -/
def rg_shapes : List rg_Sh := [
  .inl (0, [4, 5, 21, 29, 36, 43, 46, 54, 59, 67, 90, 91, 92, 93, 0, 0, 0]), -- 0 RiverGauge
  .inr (0, 6, 0, 0), -- 1 RiverGauge.refusals
  .inl (1, [0, 0, 6, 7, 8, 9, 10, 17, 18, 19, 20]), -- 2 RiverGauge$Posts
  .inr (0, 6, 0, 0), -- 3 RiverGauge$Posts.firstZero
  .inr (0, 6, 0, 0), -- 4 RiverGauge$Posts.low
  .inr (0, 6, 0, 0), -- 5 RiverGauge$Posts.neighbour
  .inr (0, 6, 0, 0), -- 6 RiverGauge$Posts.stretches
  .inr (3, 6, 8, 1), -- 7 RiverGauge$Posts.stretchFrom
  .inr (0, 8, 0, 0), -- 8 RiverGauge$Posts.stretchFrom[0]
  .inr (0, 8, 0, 0), -- 9 RiverGauge$Posts.stretchFrom[1]
  .inr (0, 8, 0, 0), -- 10 RiverGauge$Posts.stretchFrom[2]
  .inr (0, 8, 0, 0), -- 11 RiverGauge$Posts.stretchFrom[3]
  .inr (0, 8, 0, 0), -- 12 RiverGauge$Posts.stretchFrom[4]
  .inr (0, 8, 0, 0), -- 13 RiverGauge$Posts.stretchFrom[5]
  .inr (0, 60, 0, 0), -- 14 RiverGauge$Posts.zeroPost
  .inr (0, 60, 0, 0), -- 15 RiverGauge$Posts.zeroValue
  .inr (0, 60, 0, 0), -- 16 RiverGauge$Posts.zeroFrom
  .inr (0, 60, 0, 0), -- 17 RiverGauge$Posts.zeroKnown
  .inl (2, [0, 0, 22, 23, 24, 25, 26, 27, 28]), -- 18 RiverGauge$Heights
  .inr (0, 300, 0, 0), -- 19 RiverGauge$Heights.post
  .inr (0, 300, 0, 0), -- 20 RiverGauge$Heights.time
  .inr (0, 300, 0, 0), -- 21 RiverGauge$Heights.kind
  .inr (0, 300, 0, 0), -- 22 RiverGauge$Heights.read
  .inr (0, 300, 0, 0), -- 23 RiverGauge$Heights.known
  .inr (0, 300, 0, 0), -- 24 RiverGauge$Heights.struck
  .inr (0, 300, 0, 0), -- 25 RiverGauge$Heights.order
  .inl (3, [0, 30, 31, 32, 33, 34, 35]), -- 26 RiverGauge$Flows
  .inr (0, 60, 0, 0), -- 27 RiverGauge$Flows.post
  .inr (0, 60, 0, 0), -- 28 RiverGauge$Flows.time
  .inr (0, 60, 0, 0), -- 29 RiverGauge$Flows.number
  .inr (0, 60, 0, 0), -- 30 RiverGauge$Flows.wrong
  .inr (0, 60, 0, 0), -- 31 RiverGauge$Flows.known
  .inr (0, 60, 0, 0), -- 32 RiverGauge$Flows.struck
  .inl (4, [0, 37, 38, 39, 40, 41, 42]), -- 33 RiverGauge$Covers
  .inr (0, 40, 0, 0), -- 34 RiverGauge$Covers.post
  .inr (0, 40, 0, 0), -- 35 RiverGauge$Covers.kind
  .inr (0, 40, 0, 0), -- 36 RiverGauge$Covers.from
  .inr (0, 40, 0, 0), -- 37 RiverGauge$Covers.to
  .inr (0, 40, 0, 0), -- 38 RiverGauge$Covers.hundredths
  .inr (0, 40, 0, 0), -- 39 RiverGauge$Covers.known
  .inl (5, [44, 0, 45, 0, 0]), -- 40 RiverGauge$Tape
  .inr (0, 60, 0, 0), -- 41 RiverGauge$Tape.bytes
  .inr (0, 60, 0, 0), -- 42 RiverGauge$Tape.steps
  .inl (6, [0, 47, 48, 49, 50, 51, 52, 53]), -- 43 RiverGauge$Standards
  .inr (0, 20, 0, 0), -- 44 RiverGauge$Standards.purpose
  .inr (0, 20, 0, 0), -- 45 RiverGauge$Standards.day
  .inr (0, 20, 0, 0), -- 46 RiverGauge$Standards.known
  .inr (0, 20, 0, 0), -- 47 RiverGauge$Standards.stepMany
  .inr (0, 1200, 0, 0), -- 48 RiverGauge$Standards.steps
  .inr (0, 13, 0, 0), -- 49 RiverGauge$Standards.letters
  .inr (0, 60, 0, 0), -- 50 RiverGauge$Standards.pile
  .inl (7, [5, 21, 46, 0, 0, 1, 55, 56, 57, 58, 0]), -- 51 RiverGauge$View
  .inr (0, 300, 0, 0), -- 52 RiverGauge$View.mark
  .inr (0, 300, 0, 0), -- 53 RiverGauge$View.key
  .inr (0, 300, 0, 0), -- 54 RiverGauge$View.level
  .inr (0, 300, 0, 0), -- 55 RiverGauge$View.kind
  .inl (8, [5, 29, 36, 54, 60, 63, 64, 65, 0, 0, 0, 0, 0, 66, 0, 2, 2]), -- 56 RiverGauge$Rating
  .inl (9, [0, 61, 62]), -- 57 RiverGauge$Rating.curve
  .inr (0, 60, 0, 0), -- 58 RiverGauge$Rating.curve.height
  .inr (0, 60, 0, 0), -- 59 RiverGauge$Rating.curve.flow
  .inr (0, 60, 0, 0), -- 60 RiverGauge$Rating.sum
  .inr (0, 60, 0, 0), -- 61 RiverGauge$Rating.measured
  .inr (0, 60, 0, 0), -- 62 RiverGauge$Rating.blockPoints
  .inr (0, 300, 0, 0), -- 63 RiverGauge$Rating.rated
  .inl (10, [29, 54, 68, 69, 0, 70, 0, 71, 0, 0, 0]), -- 64 RiverGauge$Breaks
  .inr (2, 6, 69, 3), -- 65 RiverGauge$Breaks.bases
  .inr (0, 12, 0, 0), -- 66 RiverGauge$Breaks.row
  .inr (0, 8, 0, 0), -- 67 RiverGauge$Breaks.picked
  .inr (1, 16, 0, 0), -- 68 RiverGauge$Breaks.goes
  .inl (9, [0, 73, 74]), -- 69 RiverGauge$Breaks.bases[0]
  .inr (0, 8, 0, 0), -- 70 RiverGauge$Breaks.bases[0].height
  .inr (0, 8, 0, 0), -- 71 RiverGauge$Breaks.bases[0].flow
  .inl (9, [0, 76, 77]), -- 72 RiverGauge$Breaks.bases[1]
  .inr (0, 8, 0, 0), -- 73 RiverGauge$Breaks.bases[1].height
  .inr (0, 8, 0, 0), -- 74 RiverGauge$Breaks.bases[1].flow
  .inl (9, [0, 79, 80]), -- 75 RiverGauge$Breaks.bases[2]
  .inr (0, 8, 0, 0), -- 76 RiverGauge$Breaks.bases[2].height
  .inr (0, 8, 0, 0), -- 77 RiverGauge$Breaks.bases[2].flow
  .inl (9, [0, 82, 83]), -- 78 RiverGauge$Breaks.bases[3]
  .inr (0, 8, 0, 0), -- 79 RiverGauge$Breaks.bases[3].height
  .inr (0, 8, 0, 0), -- 80 RiverGauge$Breaks.bases[3].flow
  .inl (9, [0, 85, 86]), -- 81 RiverGauge$Breaks.bases[4]
  .inr (0, 8, 0, 0), -- 82 RiverGauge$Breaks.bases[4].height
  .inr (0, 8, 0, 0), -- 83 RiverGauge$Breaks.bases[4].flow
  .inl (9, [0, 88, 89]), -- 84 RiverGauge$Breaks.bases[5]
  .inr (0, 8, 0, 0), -- 85 RiverGauge$Breaks.bases[5].height
  .inr (0, 8, 0, 0), -- 86 RiverGauge$Breaks.bases[5].flow
  .inl (11, [5, 54, 0, 0, 0]), -- 87 RiverGauge$Gaps
  .inr (0, 40, 0, 0), -- 88 RiverGauge.publishedPost
  .inr (0, 40, 0, 0), -- 89 RiverGauge.publishedTime
  .inr (0, 40, 0, 0), -- 90 RiverGauge.publishedFlow
  .inl (12, [0, 0, 0, 0, 0, 0, 0, 0, 0, 0, 0, 0, 95, 96, 97, 98, 99, 100, 101, 102, 103, 104, 105, 106, 107, 108, 109, 110, 111, 112, 113, 114, 115, 116, 117, 118, 119, 120, 121, 122, 123, 124, 125, 126, 127, 128, 129, 130, 131, 132, 133, 134, 135, 136, 0, 137, 138, 0, 0, 0, 0, 139, 0, 0, 0, 0, 0, 0, 0, 140, 141, 142, 143, 144, 145, 146, 1, 1, 0, 0, 0, 147, 148, 149, 0, 0, 0, 150, 151]), -- 91 RiverGaugeModel
  .inr (0, 6, 0, 0), -- 92 RiverGaugeModel.zero
  .inr (0, 6, 0, 0), -- 93 RiverGaugeModel.low
  .inr (0, 6, 0, 0), -- 94 RiverGaugeModel.beside
  .inr (0, 6, 0, 0), -- 95 RiverGaugeModel.stretches
  .inr (0, 6, 0, 0), -- 96 RiverGaugeModel.bases
  .inr (0, 48, 0, 0), -- 97 RiverGaugeModel.stretchFrom
  .inr (0, 48, 0, 0), -- 98 RiverGaugeModel.baseHeight
  .inr (0, 48, 0, 0), -- 99 RiverGaugeModel.baseFlow
  .inr (0, 60, 0, 0), -- 100 RiverGaugeModel.zPost
  .inr (0, 60, 0, 0), -- 101 RiverGaugeModel.zZero
  .inr (0, 60, 0, 0), -- 102 RiverGaugeModel.zFrom
  .inr (0, 60, 0, 0), -- 103 RiverGaugeModel.zKnown
  .inr (0, 300, 0, 0), -- 104 RiverGaugeModel.hPost
  .inr (0, 300, 0, 0), -- 105 RiverGaugeModel.hTime
  .inr (0, 300, 0, 0), -- 106 RiverGaugeModel.hKind
  .inr (0, 300, 0, 0), -- 107 RiverGaugeModel.hRead
  .inr (0, 300, 0, 0), -- 108 RiverGaugeModel.hKnown
  .inr (0, 300, 0, 0), -- 109 RiverGaugeModel.hStruck
  .inr (0, 60, 0, 0), -- 110 RiverGaugeModel.fPost
  .inr (0, 60, 0, 0), -- 111 RiverGaugeModel.fTime
  .inr (0, 60, 0, 0), -- 112 RiverGaugeModel.fNumber
  .inr (0, 60, 0, 0), -- 113 RiverGaugeModel.fWrong
  .inr (0, 60, 0, 0), -- 114 RiverGaugeModel.fKnown
  .inr (0, 60, 0, 0), -- 115 RiverGaugeModel.fStruck
  .inr (0, 40, 0, 0), -- 116 RiverGaugeModel.uPost
  .inr (0, 40, 0, 0), -- 117 RiverGaugeModel.uKind
  .inr (0, 40, 0, 0), -- 118 RiverGaugeModel.uFrom
  .inr (0, 40, 0, 0), -- 119 RiverGaugeModel.uTo
  .inr (0, 40, 0, 0), -- 120 RiverGaugeModel.uMany
  .inr (0, 40, 0, 0), -- 121 RiverGaugeModel.uKnown
  .inr (0, 20, 0, 0), -- 122 RiverGaugeModel.sPurpose
  .inr (0, 20, 0, 0), -- 123 RiverGaugeModel.sDay
  .inr (0, 20, 0, 0), -- 124 RiverGaugeModel.sTold
  .inr (0, 20, 0, 0), -- 125 RiverGaugeModel.sN
  .inr (0, 2600, 0, 0), -- 126 RiverGaugeModel.steps
  .inr (0, 40, 0, 0), -- 127 RiverGaugeModel.pPost
  .inr (0, 40, 0, 0), -- 128 RiverGaugeModel.pTime
  .inr (0, 40, 0, 0), -- 129 RiverGaugeModel.pTold
  .inr (0, 60, 0, 0), -- 130 RiverGaugeModel.tape
  .inr (0, 12, 0, 0), -- 131 RiverGaugeModel.row
  .inr (0, 7, 0, 0), -- 132 RiverGaugeModel.refused
  .inr (1, 26, 0, 0), -- 133 RiverGaugeModel.letters
  .inr (0, 80, 0, 0), -- 134 RiverGaugeModel.ops
  .inr (0, 140, 0, 0), -- 135 RiverGaugeModel.newSteps
  .inr (1, 80, 0, 0), -- 136 RiverGaugeModel.stack
  .inr (0, 60, 0, 0), -- 137 RiverGaugeModel.pointHeight
  .inr (0, 60, 0, 0), -- 138 RiverGaugeModel.pointFlow
  .inr (0, 60, 0, 0), -- 139 RiverGaugeModel.pointMany
  .inr (0, 60, 0, 0), -- 140 RiverGaugeModel.block
  .inr (0, 60, 0, 0), -- 141 RiverGaugeModel.blockMany
  .inr (1, 60, 0, 0), -- 142 RiverGaugeModel.pointSum
  .inr (1, 60, 0, 0), -- 143 RiverGaugeModel.blockSum
  .inr (0, 8, 0, 0), -- 144 RiverGaugeModel.runFlow
  .inr (0, 8, 0, 0), -- 145 RiverGaugeModel.runHeight
  .inr (0, 64, 0, 0), -- 146 RiverGaugeModel.shifts
  .inr (0, 400, 0, 0), -- 147 RiverGaugeModel.ones
  .inr (0, 400, 0, 0) -- 148 RiverGaugeModel.others
  ]
abbrev rg_MR : Type := MethodName × ByteArray × Nat × Option FieldType × (Nat × Nat × Nat) × (Nat × Nat × Nat × Nat)
/-- name, bytes, locals, answer; its class, its parameters, 1 if static; the places of its words: code, static or instance, selects, initialized -/
def rg_mt : List rg_MR := [
  (⟨"RiverGauge", "go", "(I)I"⟩, prog_1_method_2_code, 2, some (.int), (0, 1, 0), (581, 579, 580, 64)), -- 0
  (⟨"RiverGauge", "refuse", "(I)I"⟩, prog_1_method_38_code, 3, some (.int), (0, 1, 0), (585, 584, 0, 64)), -- 1
  (⟨"RiverGauge", "post", "(I)I"⟩, prog_1_method_3_code, 2, some (.int), (0, 1, 0), (589, 587, 588, 64)), -- 2
  (⟨"RiverGauge$Posts", "come", "(I)I"⟩, prog_8_method_3_code, 2, some (.int), (1, 1, 0), (593, 591, 592, 65)), -- 3
  (⟨"RiverGauge", "moved", "(III)I"⟩, prog_1_method_4_code, 4, some (.int), (0, 3, 0), (597, 595, 596, 64)), -- 4
  (⟨"RiverGauge$Posts", "has", "(I)Z"⟩, prog_8_method_2_code, 2, some (.boolean), (1, 1, 0), (601, 599, 600, 65)), -- 5
  (⟨"RiverGauge$View", "forget", "()V"⟩, prog_12_method_5_code, 1, none, (7, 0, 0), (605, 603, 604, 71)), -- 6
  (⟨"RiverGauge$Posts", "move", "(IIII)I"⟩, prog_8_method_4_code, 5, some (.int), (1, 4, 0), (609, 607, 608, 65)), -- 7
  (⟨"RiverGauge", "zeroAt", "(III)I"⟩, prog_1_method_5_code, 5, some (.int), (0, 3, 0), (613, 611, 612, 64)), -- 8
  (⟨"RiverGauge", "whyNotAt", "(III)I"⟩, prog_1_method_40_code, 4, some (.int), (0, 3, 0), (617, 616, 1, 64)), -- 9
  (⟨"RiverGauge", "refuseAsTold", "(I)I"⟩, prog_1_method_39_code, 2, some (.int), (0, 1, 0), (621, 620, 2, 64)), -- 10
  (⟨"RiverGauge$Posts", "zeroOf", "(III)I"⟩, prog_8_method_5_code, 8, some (.int), (1, 3, 0), (626, 624, 625, 65)), -- 11
  (⟨"RiverGauge", "height", "(IIII)I"⟩, prog_1_method_6_code, 5, some (.int), (0, 4, 0), (630, 628, 629, 64)), -- 12
  (⟨"RiverGauge$Heights", "come", "(IIIII)I"⟩, prog_6_method_4_code, 7, some (.int), (2, 5, 0), (634, 632, 633, 66)), -- 13
  (⟨"RiverGauge$View", "keyOf", "(II)I"⟩, prog_12_method_2_code, 2, some (.int), (7, 2, 1), (638, 637, 638, 71)), -- 14
  (⟨"RiverGauge", "strike", "(I)I"⟩, prog_1_method_7_code, 2, some (.int), (0, 1, 0), (642, 640, 641, 64)), -- 15
  (⟨"RiverGauge$Heights", "has", "(I)Z"⟩, prog_6_method_2_code, 2, some (.boolean), (2, 1, 0), (646, 644, 645, 66)), -- 16
  (⟨"RiverGauge$Heights", "isStuck", "(I)Z"⟩, prog_6_method_3_code, 2, some (.boolean), (2, 1, 0), (651, 649, 650, 66)), -- 17
  (⟨"RiverGauge", "isStruck", "(II)I"⟩, prog_1_method_8_code, 4, some (.int), (0, 2, 0), (655, 653, 654, 64)), -- 18
  (⟨"RiverGauge", "whyNotTime", "(I)I"⟩, prog_1_method_41_code, 1, some (.int), (0, 1, 1), (658, 657, 658, 64)), -- 19
  (⟨"RiverGauge$View", "see", "(I)V"⟩, prog_12_method_6_code, 5, none, (7, 1, 0), (662, 660, 661, 71)), -- 20
  (⟨"RiverGauge$View", "isStruckByText", "(II)Z"⟩, prog_12_method_7_code, 6, some (.boolean), (7, 2, 0), (667, 666, 3, 71)), -- 21
  (⟨"RiverGauge$Standards", "inForce", "(III)I"⟩, prog_10_method_3_code, 7, some (.int), (6, 3, 0), (671, 669, 670, 70)), -- 22
  (⟨"RiverGauge$Standards", "lettersOf", "(I)[I"⟩, prog_10_method_4_code, 3, some (.array (.int)), (6, 1, 0), (675, 673, 674, 70)), -- 23
  (⟨"java/lang/Math", "abs", "(I)I"⟩, prog_17_method_59_code, 1, some (.int), (13, 1, 1), (678, 677, 678, 77)), -- 24
  (⟨"RiverGauge$Standards", "holds", "(I)Z"⟩, prog_10_method_5_code, 6, some (.boolean), (6, 1, 0), (682, 680, 681, 70)), -- 25
  (⟨"RiverGauge$Standards", "joined", "(IJJ)I"⟩, prog_10_method_6_code, 5, some (.int), (6, 3, 1), (685, 684, 685, 70)), -- 26
  (⟨"RiverGauge$Standards", "held", "(J)I"⟩, prog_10_method_7_code, 2, some (.int), (6, 1, 1), (688, 687, 688, 70)), -- 27
  (⟨"java/lang/Math", "min", "(JJ)J"⟩, prog_17_method_70_code, 4, some (.long), (13, 2, 1), (693, 692, 693, 77)), -- 28
  (⟨"java/lang/Math", "max", "(JJ)J"⟩, prog_17_method_66_code, 4, some (.long), (13, 2, 1), (696, 695, 696, 77)), -- 29
  (⟨"RiverGauge$View", "keep", "(I)V"⟩, prog_12_method_8_code, 6, none, (7, 1, 0), (700, 699, 4, 71)), -- 30
  (⟨"RiverGauge", "heightAt", "(III)I"⟩, prog_1_method_9_code, 6, some (.int), (0, 3, 0), (706, 704, 705, 64)), -- 31
  (⟨"RiverGauge$View", "find", "(II)I"⟩, prog_12_method_10_code, 5, some (.int), (7, 2, 0), (710, 708, 709, 71)), -- 32
  (⟨"RiverGauge$View", "firstFrom", "(I)I"⟩, prog_12_method_9_code, 6, some (.int), (7, 1, 0), (714, 712, 713, 71)), -- 33
  (⟨"RiverGauge", "measure", "(IIII)I"⟩, prog_1_method_10_code, 5, some (.int), (0, 4, 0), (718, 716, 717, 64)), -- 34
  (⟨"RiverGauge$Flows", "come", "(IIIII)I"⟩, prog_4_method_3_code, 6, some (.int), (3, 5, 0), (723, 721, 722, 67)), -- 35
  (⟨"RiverGauge", "drop", "(I)I"⟩, prog_1_method_11_code, 2, some (.int), (0, 1, 0), (728, 726, 727, 64)), -- 36
  (⟨"RiverGauge$Flows", "has", "(I)Z"⟩, prog_4_method_2_code, 2, some (.boolean), (3, 1, 0), (732, 730, 731, 67)), -- 37
  (⟨"RiverGauge", "counts", "(II)I"⟩, prog_1_method_12_code, 4, some (.int), (0, 2, 0), (736, 734, 735, 64)), -- 38
  (⟨"RiverGauge$Flows", "placeOf", "(ILRiverGauge$View;)I"⟩, prog_4_method_4_code, 3, some (.int), (3, 2, 0), (740, 738, 739, 67)), -- 39
  (⟨"RiverGauge", "feed", "(IJ)I"⟩, prog_1_method_13_code, 4, some (.int), (0, 2, 0), (745, 743, 744, 64)), -- 40
  (⟨"RiverGauge$Tape", "take", "(IJ)I"⟩, prog_11_method_2_code, 5, some (.int), (5, 2, 0), (749, 747, 748, 69)), -- 41
  (⟨"RiverGauge", "standard", "(II)I"⟩, prog_1_method_14_code, 4, some (.int), (0, 2, 0), (753, 751, 752, 64)), -- 42
  (⟨"RiverGauge$Tape", "fault", "()I"⟩, prog_11_method_3_code, 2, some (.int), (5, 0, 0), (757, 755, 756, 69)), -- 43
  (⟨"RiverGauge$Tape", "readOrs", "(I)Z"⟩, prog_11_method_4_code, 3, some (.boolean), (5, 1, 0), (761, 760, 5, 69)), -- 44
  (⟨"RiverGauge$Tape", "readAnds", "(I)Z"⟩, prog_11_method_5_code, 3, some (.boolean), (5, 1, 0), (765, 764, 6, 69)), -- 45
  (⟨"RiverGauge$Tape", "readTest", "(I)Z"⟩, prog_11_method_6_code, 3, some (.boolean), (5, 1, 0), (769, 768, 7, 69)), -- 46
  (⟨"RiverGauge$Tape", "isNext", "(C)Z"⟩, prog_11_method_11_code, 2, some (.boolean), (5, 1, 0), (773, 772, 8, 69)), -- 47
  (⟨"RiverGauge$Tape", "readNot", "(I)Z"⟩, prog_11_method_7_code, 2, some (.boolean), (5, 1, 0), (777, 776, 9, 69)), -- 48
  (⟨"RiverGauge$Tape", "step", "(I)V"⟩, prog_11_method_12_code, 2, none, (5, 1, 0), (781, 780, 10, 69)), -- 49
  (⟨"RiverGauge$Tape", "readGroup", "(I)Z"⟩, prog_11_method_8_code, 2, some (.boolean), (5, 1, 0), (785, 784, 11, 69)), -- 50
  (⟨"RiverGauge$Tape", "readSum", "()Z"⟩, prog_11_method_9_code, 3, some (.boolean), (5, 0, 0), (789, 788, 12, 69)), -- 51
  (⟨"RiverGauge$Tape", "readUnit", "()Z"⟩, prog_11_method_10_code, 4, some (.boolean), (5, 0, 0), (793, 792, 13, 69)), -- 52
  (⟨"java/lang/String", "indexOf", "(I)I"⟩, prog_18_method_79_code, 2, some (.int), (15, 1, 0), (798, 796, 797, 78)), -- 53
  (⟨"java/lang/String", "indexOf", "(II)I"⟩, prog_18_method_80_code, 3, some (.int), (15, 2, 0), (802, 800, 801, 78)), -- 54
  (⟨"java/lang/String", "isLatin1", "()Z"⟩, prog_18_method_154_code, 1, some (.boolean), (15, 0, 0), (806, 804, 805, 78)), -- 55
  (⟨"java/lang/String", "length", "()I"⟩, prog_18_method_54_code, 1, some (.int), (15, 0, 0), (812, 810, 811, 78)), -- 56
  (⟨"java/lang/String", "coder", "()B"⟩, prog_18_method_152_code, 1, some (.byte), (15, 0, 0), (816, 814, 815, 78)), -- 57
  (⟨"java/lang/StringLatin1", "indexOf", "([BIII)I"⟩, prog_19_method_22_code, 4, some (.int), (16, 4, 1), (819, 818, 819, 79)), -- 58
  (⟨"java/lang/StringLatin1", "canEncode", "(I)Z"⟩, prog_19_method_4_code, 1, some (.boolean), (16, 1, 1), (822, 821, 822, 79)), -- 59
  (⟨"java/lang/Math", "max", "(II)I"⟩, prog_17_method_65_code, 2, some (.int), (13, 2, 1), (825, 824, 825, 77)), -- 60
  (⟨"java/lang/Math", "min", "(II)I"⟩, prog_17_method_69_code, 2, some (.int), (13, 2, 1), (828, 827, 828, 77)), -- 61
  (⟨"java/lang/StringLatin1", "indexOfChar", "([BIII)I"⟩, prog_19_method_23_code, 6, some (.int), (16, 4, 1), (831, 830, 831, 79)), -- 62
  (⟨"RiverGauge$Standards", "come", "(IIILRiverGauge$Tape;)I"⟩, prog_10_method_2_code, 5, some (.int), (6, 4, 0), (884, 882, 883, 70)), -- 63
  (⟨"RiverGauge", "low", "(II)I"⟩, prog_1_method_15_code, 4, some (.int), (0, 2, 0), (892, 890, 891, 64)), -- 64
  (⟨"RiverGauge", "stretch", "(II)I"⟩, prog_1_method_16_code, 4, some (.int), (0, 2, 0), (896, 894, 895, 64)), -- 65
  (⟨"RiverGauge$Posts", "beginsAt", "(II)Z"⟩, prog_8_method_6_code, 4, some (.boolean), (1, 2, 0), (900, 898, 899, 65)), -- 66
  (⟨"RiverGauge$Posts", "begin", "(II)I"⟩, prog_8_method_7_code, 3, some (.int), (1, 2, 0), (904, 902, 903, 65)), -- 67
  (⟨"RiverGauge", "points", "(III)I"⟩, prog_1_method_17_code, 5, some (.int), (0, 3, 0), (908, 906, 907, 64)), -- 68
  (⟨"RiverGauge$Rating", "drawAt", "(II)V"⟩, prog_9_method_2_code, 3, none, (8, 2, 0), (912, 910, 911, 72)), -- 69
  (⟨"RiverGauge$Posts", "stretchStart", "(II)I"⟩, prog_8_method_8_code, 6, some (.int), (1, 2, 0), (916, 914, 915, 65)), -- 70
  (⟨"RiverGauge$Posts", "stretchEnd", "(II)I"⟩, prog_8_method_9_code, 6, some (.int), (1, 2, 0), (920, 918, 919, 65)), -- 71
  (⟨"RiverGauge$Rating", "draw", "(III)V"⟩, prog_9_method_3_code, 8, none, (8, 3, 0), (924, 922, 923, 72)), -- 72
  (⟨"RiverGauge$Rating", "addPoint", "(II)V"⟩, prog_9_method_4_code, 5, none, (8, 2, 0), (929, 928, 14, 72)), -- 73
  (⟨"RiverGauge$Rating", "joinBlocks", "()I"⟩, prog_9_method_5_code, 3, some (.int), (8, 0, 0), (934, 933, 15, 72)), -- 74
  (⟨"RiverGauge$Rating", "isAbove", "(II)Z"⟩, prog_9_method_6_code, 3, some (.boolean), (8, 2, 0), (938, 937, 16, 72)), -- 75
  (⟨"RiverGauge$Rating", "setFlows", "(I)V"⟩, prog_9_method_7_code, 6, none, (8, 1, 0), (942, 941, 17, 72)), -- 76
  (⟨"RiverGauge", "share", "(JJJ)J"⟩, prog_1_method_45_code, 6, some (.long), (0, 3, 1), (945, 944, 945, 64)), -- 77
  (⟨"RiverGauge", "point", "(IIIII)I"⟩, prog_1_method_18_code, 7, some (.int), (0, 5, 0), (949, 947, 948, 64)), -- 78
  (⟨"RiverGauge", "flowAt", "(III)I"⟩, prog_1_method_19_code, 5, some (.int), (0, 3, 0), (953, 951, 952, 64)), -- 79
  (⟨"RiverGauge$Points", "flowBy", "(II)I"⟩, prog_7_method_5_code, 6, some (.int), (9, 2, 0), (957, 955, 956, 73)), -- 80
  (⟨"RiverGauge$Points", "flowBelow", "(II)I"⟩, prog_7_method_6_code, 3, some (.int), (9, 2, 0), (961, 960, 18, 73)), -- 81
  (⟨"RiverGauge", "under", "(IIIII)I"⟩, prog_1_method_20_code, 6, some (.int), (0, 5, 0), (968, 966, 967, 64)), -- 82
  (⟨"RiverGauge$Covers", "come", "(IIIIII)I"⟩, prog_3_method_2_code, 7, some (.int), (4, 6, 0), (972, 970, 971, 68)), -- 83
  (⟨"RiverGauge", "flowOf", "(IIII)I"⟩, prog_1_method_21_code, 8, some (.int), (0, 4, 0), (976, 974, 975, 64)), -- 84
  (⟨"RiverGauge$Rating", "rate", "(I)I"⟩, prog_9_method_8_code, 5, some (.int), (8, 1, 0), (980, 978, 979, 72)), -- 85
  (⟨"RiverGauge$View", "postOf", "(I)I"⟩, prog_12_method_3_code, 2, some (.int), (7, 1, 0), (984, 982, 983, 71)), -- 86
  (⟨"RiverGauge$View", "timeOf", "(I)I"⟩, prog_12_method_4_code, 2, some (.int), (7, 1, 0), (988, 986, 987, 71)), -- 87
  (⟨"RiverGauge$Covers", "greatest", "(IIII)I"⟩, prog_3_method_3_code, 8, some (.int), (4, 4, 0), (993, 991, 992, 68)), -- 88
  (⟨"RiverGauge$Covers", "hundredthsAt", "(II)I"⟩, prog_3_method_5_code, 3, some (.int), (4, 2, 0), (997, 996, 19, 68)), -- 89
  (⟨"RiverGauge$Rating", "less", "(II)I"⟩, prog_9_method_9_code, 2, some (.int), (8, 2, 1), (1002, 1001, 1002, 72)), -- 90
  (⟨"RiverGauge$Rating", "howWrong", "(I)I"⟩, prog_9_method_10_code, 3, some (.int), (8, 1, 0), (1007, 1005, 1006, 72)), -- 91
  (⟨"RiverGauge$Rating", "beyond", "(I)I"⟩, prog_9_method_11_code, 2, some (.int), (8, 1, 0), (1011, 1009, 1010, 72)), -- 92
  (⟨"RiverGauge$Points", "isBeyond", "(I)Z"⟩, prog_7_method_4_code, 2, some (.boolean), (9, 1, 0), (1015, 1013, 1014, 73)), -- 93
  (⟨"RiverGauge", "base", "(IIII)I"⟩, prog_1_method_22_code, 6, some (.int), (0, 4, 0), (1021, 1019, 1020, 64)), -- 94
  (⟨"RiverGauge$Points", "falls", "(III)Z"⟩, prog_7_method_2_code, 4, some (.boolean), (9, 3, 0), (1025, 1023, 1024, 73)), -- 95
  (⟨"RiverGauge$Points", "putAt", "(III)I"⟩, prog_7_method_3_code, 4, some (.int), (9, 3, 0), (1029, 1027, 1028, 73)), -- 96
  (⟨"RiverGauge", "breaks", "(II)I"⟩, prog_1_method_23_code, 3, some (.int), (0, 2, 0), (1033, 1031, 1032, 64)), -- 97
  (⟨"RiverGauge$Breaks", "gather", "(I)Z"⟩, prog_2_method_2_code, 3, some (.boolean), (10, 1, 0), (1037, 1035, 1036, 74)), -- 98
  (⟨"RiverGauge$Breaks", "pick", "(I)V"⟩, prog_2_method_3_code, 4, none, (10, 1, 0), (1042, 1041, 20, 74)), -- 99
  (⟨"RiverGauge$Breaks", "findShifts", "(ILRiverGauge$Points;)V"⟩, prog_2_method_4_code, 10, none, (10, 2, 0), (1046, 1045, 21, 74)), -- 100
  (⟨"RiverGauge$Flows", "mayDiffer", "(I)I"⟩, prog_4_method_5_code, 2, some (.int), (3, 1, 0), (1050, 1048, 1049, 67)), -- 101
  (⟨"RiverGauge$Breaks", "search", "()Z"⟩, prog_2_method_5_code, 3, some (.boolean), (10, 0, 0), (1057, 1055, 1056, 74)), -- 102
  (⟨"java/lang/Integer", "bitCount", "(I)I"⟩, prog_16_method_49_code, 1, some (.int), (14, 1, 1), (1060, 1059, 1060, 84)), -- 103
  (⟨"RiverGauge$Breaks", "allGo", "(I)Z"⟩, prog_2_method_6_code, 7, some (.boolean), (10, 1, 0), (1067, 1066, 22, 74)), -- 104
  (⟨"RiverGauge$Breaks", "isRunStart", "(II)Z"⟩, prog_2_method_7_code, 2, some (.boolean), (10, 2, 1), (1071, 1070, 1071, 74)), -- 105
  (⟨"RiverGauge", "shift", "(II)I"⟩, prog_1_method_24_code, 3, some (.int), (0, 2, 0), (1075, 1073, 1074, 64)), -- 106
  (⟨"RiverGauge$Breaks", "leastShift", "(I)I"⟩, prog_2_method_9_code, 3, some (.int), (10, 1, 0), (1079, 1077, 1078, 74)), -- 107
  (⟨"RiverGauge$Breaks", "runGoesWith", "(III)Z"⟩, prog_2_method_8_code, 7, some (.boolean), (10, 3, 0), (1083, 1082, 23, 74)), -- 108
  (⟨"RiverGauge", "put", "(I)I"⟩, prog_1_method_25_code, 2, some (.int), (0, 1, 0), (1087, 1085, 1086, 64)), -- 109
  (⟨"RiverGauge", "judge", "(I)I"⟩, prog_1_method_26_code, 3, some (.int), (0, 1, 0), (1091, 1089, 1090, 64)), -- 110
  (⟨"RiverGauge$Breaks", "firstWrong", "()I"⟩, prog_2_method_10_code, 4, some (.int), (10, 0, 0), (1095, 1093, 1094, 74)), -- 111
  (⟨"RiverGauge", "beside", "(II)I"⟩, prog_1_method_27_code, 4, some (.int), (0, 2, 0), (1099, 1097, 1098, 64)), -- 112
  (⟨"RiverGauge", "gap", "(III)I"⟩, prog_1_method_28_code, 5, some (.int), (0, 3, 0), (1103, 1101, 1102, 64)), -- 113
  (⟨"RiverGauge$Gaps", "findEnds", "(II)Z"⟩, prog_5_method_2_code, 5, some (.boolean), (11, 2, 0), (1107, 1105, 1106, 75)), -- 114
  (⟨"RiverGauge$Gaps", "findNeighbour", "(II)V"⟩, prog_5_method_3_code, 4, none, (11, 2, 0), (1115, 1113, 1114, 75)), -- 115
  (⟨"RiverGauge", "fillLets", "(I)Z"⟩, prog_1_method_42_code, 4, some (.boolean), (0, 1, 0), (1120, 1119, 24, 64)), -- 116
  (⟨"RiverGauge$View", "postsAt", "(I)I"⟩, prog_12_method_11_code, 4, some (.int), (7, 1, 0), (1126, 1124, 1125, 71)), -- 117
  (⟨"RiverGauge$Gaps", "filled", "(II)I"⟩, prog_5_method_4_code, 5, some (.int), (11, 2, 0), (1132, 1130, 1131, 75)), -- 118
  (⟨"RiverGauge$Gaps", "between", "(II)I"⟩, prog_5_method_5_code, 7, some (.int), (11, 2, 0), (1136, 1135, 25, 75)), -- 119
  (⟨"RiverGauge", "peak", "(IIII)I"⟩, prog_1_method_29_code, 6, some (.int), (0, 4, 0), (1141, 1139, 1140, 64)), -- 120
  (⟨"RiverGauge$Rating", "greatest", "(III)I"⟩, prog_9_method_12_code, 7, some (.int), (8, 3, 0), (1145, 1143, 1144, 72)), -- 121
  (⟨"RiverGauge", "often", "(II)I"⟩, prog_1_method_30_code, 5, some (.int), (0, 2, 0), (1152, 1150, 1151, 64)), -- 122
  (⟨"RiverGauge", "agree", "(IIIII)I"⟩, prog_1_method_31_code, 6, some (.int), (0, 5, 0), (1157, 1155, 1156, 64)), -- 123
  (⟨"RiverGauge$Rating", "compare", "(IIII)V"⟩, prog_9_method_14_code, 7, none, (8, 4, 0), (1161, 1159, 1160, 72)), -- 124
  (⟨"RiverGauge$Rating", "rateAll", "(III)V"⟩, prog_9_method_13_code, 6, none, (8, 3, 0), (1165, 1164, 26, 72)), -- 125
  (⟨"RiverGauge$Rating", "compareBy", "(IIIII)V"⟩, prog_9_method_15_code, 15, none, (8, 5, 0), (1169, 1168, 27, 72)), -- 126
  (⟨"RiverGauge$Rating", "commonDivisor", "(JJ)J"⟩, prog_9_method_16_code, 11, some (.long), (8, 2, 1), (1173, 1172, 1173, 72)), -- 127
  (⟨"RiverGauge", "next", "(I)I"⟩, prog_1_method_32_code, 2, some (.int), (0, 1, 0), (1177, 1175, 1176, 64)), -- 128
  (⟨"RiverGauge$Rating", "worthMeasuring", "(I)I"⟩, prog_9_method_17_code, 10, some (.int), (8, 1, 0), (1182, 1180, 1181, 72)), -- 129
  (⟨"RiverGauge$Rating", "heightsBetween", "(III)I"⟩, prog_9_method_18_code, 7, some (.int), (8, 3, 0), (1187, 1186, 28, 72)), -- 130
  (⟨"java/lang/Math", "floorDiv", "(II)I"⟩, prog_17_method_47_code, 3, some (.int), (13, 2, 1), (1190, 1189, 1190, 77)), -- 131
  (⟨"RiverGauge", "publish", "(II)I"⟩, prog_1_method_33_code, 5, some (.int), (0, 2, 0), (1194, 1192, 1193, 64)), -- 132
  (⟨"RiverGauge", "publishLets", "(II)Z"⟩, prog_1_method_43_code, 6, some (.boolean), (0, 2, 0), (1198, 1197, 29, 64)), -- 133
  (⟨"RiverGauge$Covers", "isOn", "(III)Z"⟩, prog_3_method_4_code, 4, some (.boolean), (4, 3, 0), (1204, 1202, 1203, 68)), -- 134
  (⟨"RiverGauge", "published", "(II)I"⟩, prog_1_method_34_code, 4, some (.int), (0, 2, 0), (1209, 1207, 1208, 64)), -- 135
  (⟨"RiverGauge", "flowNow", "(I)I"⟩, prog_1_method_44_code, 2, some (.int), (0, 1, 0), (1213, 1212, 30, 64)), -- 136
  (⟨"RiverGauge", "mend", "()I"⟩, prog_1_method_35_code, 6, some (.int), (0, 0, 0), (1217, 1215, 1216, 64)), -- 137
  (⟨"java/lang/Math", "abs", "(J)J"⟩, prog_17_method_61_code, 2, some (.long), (13, 1, 1), (1220, 1219, 1220, 77)), -- 138
  (⟨"RiverGauge", "limit", "(I)I"⟩, prog_1_method_36_code, 3, some (.int), (0, 1, 0), (1225, 1223, 1224, 64)), -- 139
  (⟨"RiverGauge", "count", "(I)I"⟩, prog_1_method_37_code, 2, some (.int), (0, 1, 0), (1229, 1227, 1228, 64)), -- 140
  (⟨"RiverGaugeModel", "go", "(I)I"⟩, prog_14_method_6_code, 2, some (.int), (12, 1, 0), (1507, 1505, 1506, 76)), -- 141
  (⟨"RiverGaugeModel", "no", "(I)I"⟩, prog_14_method_2_code, 2, some (.int), (12, 1, 0), (1511, 1510, 31, 76)), -- 142
  (⟨"RiverGaugeModel", "post", "(I)I"⟩, prog_14_method_7_code, 2, some (.int), (12, 1, 0), (1515, 1513, 1514, 76)), -- 143
  (⟨"RiverGaugeModel", "moved", "(III)I"⟩, prog_14_method_8_code, 4, some (.int), (12, 3, 0), (1519, 1517, 1518, 76)), -- 144
  (⟨"RiverGaugeModel", "isPost", "(I)Z"⟩, prog_14_method_4_code, 2, some (.boolean), (12, 1, 0), (1523, 1522, 32, 76)), -- 145
  (⟨"RiverGaugeModel", "zeroAt", "(III)I"⟩, prog_14_method_10_code, 5, some (.int), (12, 3, 0), (1527, 1525, 1526, 76)), -- 146
  (⟨"RiverGaugeModel", "times", "(II)I"⟩, prog_14_method_5_code, 2, some (.int), (12, 2, 1), (1530, 1529, 1530, 76)), -- 147
  (⟨"RiverGaugeModel", "far", "(I)I"⟩, prog_14_method_3_code, 2, some (.int), (12, 1, 0), (1534, 1533, 33, 76)), -- 148
  (⟨"RiverGaugeModel", "zeroOf", "(III)I"⟩, prog_14_method_9_code, 6, some (.int), (12, 3, 0), (1539, 1538, 34, 76)), -- 149
  (⟨"RiverGaugeModel", "height", "(IIII)I"⟩, prog_14_method_11_code, 5, some (.int), (12, 4, 0), (1543, 1541, 1542, 76)), -- 150
  (⟨"RiverGaugeModel", "strike", "(I)I"⟩, prog_14_method_12_code, 2, some (.int), (12, 1, 0), (1547, 1545, 1546, 76)), -- 151
  (⟨"RiverGaugeModel", "isStruck", "(II)I"⟩, prog_14_method_18_code, 4, some (.int), (12, 2, 0), (1551, 1549, 1550, 76)), -- 152
  (⟨"RiverGaugeModel", "isTold", "(II)Z"⟩, prog_14_method_13_code, 3, some (.boolean), (12, 2, 0), (1555, 1554, 35, 76)), -- 153
  (⟨"RiverGaugeModel", "isByStandard", "(II)Z"⟩, prog_14_method_17_code, 5, some (.boolean), (12, 2, 0), (1559, 1558, 36, 76)), -- 154
  (⟨"RiverGaugeModel", "inForce", "(III)I"⟩, prog_14_method_16_code, 6, some (.int), (12, 3, 0), (1563, 1562, 37, 76)), -- 155
  (⟨"RiverGaugeModel", "ahead", "(II)I"⟩, prog_14_method_14_code, 5, some (.int), (12, 2, 0), (1567, 1566, 38, 76)), -- 156
  (⟨"RiverGaugeModel", "lays", "(I)V"⟩, prog_14_method_15_code, 3, none, (12, 1, 0), (1571, 1570, 39, 76)), -- 157
  (⟨"RiverGaugeModel", "says", "(I)Z"⟩, prog_14_method_37_code, 9, some (.boolean), (12, 1, 0), (1576, 1575, 40, 76)), -- 158
  (⟨"RiverGaugeModel", "held", "(J)J"⟩, prog_14_method_36_code, 2, some (.long), (12, 1, 1), (1579, 1578, 1579, 76)), -- 159
  (⟨"RiverGaugeModel", "heightAt", "(III)I"⟩, prog_14_method_21_code, 5, some (.int), (12, 3, 0), (1585, 1583, 1584, 76)), -- 160
  (⟨"RiverGaugeModel", "has", "(III)Z"⟩, prog_14_method_20_code, 5, some (.boolean), (12, 3, 0), (1589, 1588, 41, 76)), -- 161
  (⟨"RiverGaugeModel", "which", "(III)I"⟩, prog_14_method_19_code, 6, some (.int), (12, 3, 0), (1593, 1592, 42, 76)), -- 162
  (⟨"RiverGaugeModel", "measure", "(IIII)I"⟩, prog_14_method_22_code, 5, some (.int), (12, 4, 0), (1597, 1595, 1596, 76)), -- 163
  (⟨"RiverGaugeModel", "drop", "(I)I"⟩, prog_14_method_23_code, 2, some (.int), (12, 1, 0), (1602, 1600, 1601, 76)), -- 164
  (⟨"RiverGaugeModel", "counts", "(II)I"⟩, prog_14_method_25_code, 4, some (.int), (12, 2, 0), (1606, 1604, 1605, 76)), -- 165
  (⟨"RiverGaugeModel", "isIn", "(II)Z"⟩, prog_14_method_24_code, 3, some (.boolean), (12, 2, 0), (1610, 1609, 43, 76)), -- 166
  (⟨"RiverGaugeModel", "feed", "(IJ)I"⟩, prog_14_method_26_code, 5, some (.int), (12, 2, 0), (1614, 1612, 1613, 76)), -- 167
  (⟨"RiverGaugeModel", "standard", "(II)I"⟩, prog_14_method_35_code, 5, some (.int), (12, 2, 0), (1619, 1617, 1618, 76)), -- 168
  (⟨"RiverGaugeModel", "isText", "()Z"⟩, prog_14_method_34_code, 4, some (.boolean), (12, 0, 0), (1623, 1622, 44, 76)), -- 169
  (⟨"RiverGaugeModel", "sign", "()I"⟩, prog_14_method_27_code, 1, some (.int), (12, 0, 0), (1627, 1626, 45, 76)), -- 170
  (⟨"RiverGaugeModel", "isTest", "()Z"⟩, prog_14_method_31_code, 2, some (.boolean), (12, 0, 0), (1631, 1630, 46, 76)), -- 171
  (⟨"RiverGaugeModel", "isSum", "()Z"⟩, prog_14_method_30_code, 2, some (.boolean), (12, 0, 0), (1635, 1634, 47, 76)), -- 172
  (⟨"RiverGaugeModel", "isUnit", "()Z"⟩, prog_14_method_29_code, 4, some (.boolean), (12, 0, 0), (1639, 1638, 48, 76)), -- 173
  (⟨"RiverGaugeModel", "isLetter", "(I)Z"⟩, prog_14_method_28_code, 1, some (.boolean), (12, 1, 1), (1642, 1641, 1642, 76)), -- 174
  (⟨"RiverGaugeModel", "denies", "()V"⟩, prog_14_method_32_code, 1, none, (12, 0, 0), (1646, 1645, 49, 76)), -- 175
  (⟨"RiverGaugeModel", "pops", "(Z)V"⟩, prog_14_method_33_code, 2, none, (12, 1, 0), (1650, 1649, 50, 76)), -- 176
  (⟨"RiverGaugeModel", "low", "(II)I"⟩, prog_14_method_38_code, 4, some (.int), (12, 2, 0), (1654, 1652, 1653, 76)), -- 177
  (⟨"RiverGaugeModel", "stretch", "(II)I"⟩, prog_14_method_39_code, 4, some (.int), (12, 2, 0), (1658, 1656, 1657, 76)), -- 178
  (⟨"RiverGaugeModel", "points", "(III)I"⟩, prog_14_method_44_code, 5, some (.int), (12, 3, 0), (1662, 1660, 1661, 76)), -- 179
  (⟨"RiverGaugeModel", "known", "(III)I"⟩, prog_14_method_43_code, 4, some (.int), (12, 3, 0), (1666, 1665, 51, 76)), -- 180
  (⟨"RiverGaugeModel", "makes", "(III)V"⟩, prog_14_method_40_code, 8, none, (12, 3, 0), (1670, 1669, 52, 76)), -- 181
  (⟨"RiverGaugeModel", "makes", "(IIII)V"⟩, prog_14_method_41_code, 8, none, (12, 4, 0), (1674, 1673, 53, 76)), -- 182
  (⟨"RiverGaugeModel", "point", "(IIIII)I"⟩, prog_14_method_45_code, 7, some (.int), (12, 5, 0), (1678, 1676, 1677, 76)), -- 183
  (⟨"RiverGaugeModel", "flowAt", "(III)I"⟩, prog_14_method_46_code, 4, some (.int), (12, 3, 0), (1682, 1680, 1681, 76)), -- 184
  (⟨"RiverGaugeModel", "along", "([I[IIIII)I"⟩, prog_14_method_42_code, 10, some (.int), (12, 6, 0), (1686, 1685, 54, 76)), -- 185
  (⟨"RiverGaugeModel", "under", "(IIIII)I"⟩, prog_14_method_47_code, 6, some (.int), (12, 5, 0), (1692, 1690, 1691, 76)), -- 186
  (⟨"RiverGaugeModel", "flowOf", "(IIII)I"⟩, prog_14_method_50_code, 6, some (.int), (12, 4, 0), (1696, 1694, 1695, 76)), -- 187
  (⟨"RiverGaugeModel", "flows", "(III)Z"⟩, prog_14_method_49_code, 6, some (.boolean), (12, 3, 0), (1700, 1699, 55, 76)), -- 188
  (⟨"RiverGaugeModel", "hundredths", "(IIII)I"⟩, prog_14_method_48_code, 8, some (.int), (12, 4, 0), (1704, 1703, 56, 76)), -- 189
  (⟨"RiverGaugeModel", "base", "(IIII)I"⟩, prog_14_method_51_code, 5, some (.int), (12, 4, 0), (1709, 1707, 1708, 76)), -- 190
  (⟨"RiverGaugeModel", "breaks", "(II)I"⟩, prog_14_method_59_code, 3, some (.int), (12, 2, 0), (1713, 1711, 1712, 76)), -- 191
  (⟨"RiverGaugeModel", "gathers", "(I)V"⟩, prog_14_method_52_code, 6, none, (12, 1, 0), (1717, 1716, 57, 76)), -- 192
  (⟨"RiverGaugeModel", "seeks", "(I)V"⟩, prog_14_method_58_code, 3, none, (12, 1, 0), (1721, 1720, 58, 76)), -- 193
  (⟨"RiverGaugeModel", "tries", "(I)V"⟩, prog_14_method_55_code, 4, none, (12, 1, 0), (1725, 1724, 59, 76)), -- 194
  (⟨"RiverGaugeModel", "shiftOf", "(III)I"⟩, prog_14_method_54_code, 5, some (.int), (12, 3, 0), (1729, 1728, 60, 76)), -- 195
  (⟨"RiverGaugeModel", "goes", "(IIII)Z"⟩, prog_14_method_53_code, 9, some (.boolean), (12, 4, 0), (1733, 1732, 61, 76)), -- 196
  (⟨"RiverGaugeModel", "bits", "(I)I"⟩, prog_14_method_57_code, 3, some (.int), (12, 1, 1), (1736, 1735, 1736, 76)), -- 197
  (⟨"RiverGaugeModel", "goesAll", "(I)Z"⟩, prog_14_method_56_code, 4, some (.boolean), (12, 1, 0), (1740, 1739, 62, 76)), -- 198
  (⟨"RiverGaugeModel", "shift", "(II)I"⟩, prog_14_method_60_code, 6, some (.int), (12, 2, 0), (1744, 1742, 1743, 76)), -- 199
  (⟨"RiverGaugeModel", "put", "(I)I"⟩, prog_14_method_61_code, 2, some (.int), (12, 1, 0), (1748, 1746, 1747, 76)), -- 200
  (⟨"RiverGaugeModel", "judge", "(I)I"⟩, prog_14_method_62_code, 6, some (.int), (12, 1, 0), (1752, 1750, 1751, 76)), -- 201
  (⟨"RiverGaugeModel", "beside", "(II)I"⟩, prog_14_method_63_code, 4, some (.int), (12, 2, 0), (1756, 1754, 1755, 76)), -- 202
  (⟨"RiverGaugeModel", "gap", "(III)I"⟩, prog_14_method_65_code, 14, some (.int), (12, 3, 0), (1760, 1758, 1759, 76)), -- 203
  (⟨"RiverGaugeModel", "between", "(IIIII)I"⟩, prog_14_method_64_code, 5, some (.int), (12, 5, 1), (1763, 1762, 1763, 76)), -- 204
  (⟨"RiverGaugeModel", "peak", "(IIII)I"⟩, prog_14_method_66_code, 7, some (.int), (12, 4, 0), (1768, 1766, 1767, 76)), -- 205
  (⟨"RiverGaugeModel", "often", "(II)I"⟩, prog_14_method_67_code, 6, some (.int), (12, 2, 0), (1772, 1770, 1771, 76)), -- 206
  (⟨"RiverGaugeModel", "agree", "(IIIII)I"⟩, prog_14_method_68_code, 17, some (.int), (12, 5, 0), (1776, 1774, 1775, 76)), -- 207
  (⟨"RiverGaugeModel", "next", "(I)I"⟩, prog_14_method_69_code, 9, some (.int), (12, 1, 0), (1780, 1778, 1779, 76)), -- 208
  (⟨"RiverGaugeModel", "publish", "(II)I"⟩, prog_14_method_70_code, 5, some (.int), (12, 2, 0), (1786, 1784, 1785, 76)), -- 209
  (⟨"RiverGaugeModel", "published", "(II)I"⟩, prog_14_method_71_code, 3, some (.int), (12, 2, 0), (1790, 1788, 1789, 76)), -- 210
  (⟨"RiverGaugeModel", "mend", "()I"⟩, prog_14_method_72_code, 4, some (.int), (12, 0, 0), (1794, 1792, 1793, 76)), -- 211
  (⟨"RiverGaugeModel", "limit", "(I)I"⟩, prog_14_method_73_code, 3, some (.int), (12, 1, 0), (1798, 1796, 1797, 76)), -- 212
  (⟨"RiverGaugeModel", "count", "(I)I"⟩, prog_14_method_74_code, 4, some (.int), (12, 1, 0), (1802, 1800, 1801, 76)) -- 213
  ]
def rg_fl : List (List (Nat × Nat × Nat × Nat)) := [
  [(114, 1, 0, 102), (124, 1, 1, 105), (200, 1, 3, 109), (288, 1, 4, 112), (207, 1, 5, 114), (144, 2, 0, 152), (156, 2, 1, 154), (149, 2, 7, 167), (177, 3, 0, 198), (180, 3, 6, 212), (233, 4, 0, 235), (185, 5, 1, 265), (192, 6, 0, 289), (166, 7, 6, 330), (173, 7, 8, 337), (221, 9, 0, 380), (224, 9, 1, 383), (227, 9, 2, 386), (217, 8, 4, 399), (319, 8, 14, 410), (322, 8, 15, 412), (326, 8, 16, 414), (246, 10, 2, 462), (282, 10, 3, 464), (279, 10, 4, 466), (260, 10, 6, 469), (267, 10, 8, 472), (270, 10, 9, 474), (273, 10, 10, 476), (305, 11, 2, 510), (308, 11, 3, 512), (303, 11, 4, 514), (7, 0, 0, 526), (16, 0, 1, 527), (23, 0, 2, 528), (30, 0, 3, 529), (37, 0, 4, 530), (44, 0, 5, 531), (51, 0, 6, 532), (60, 0, 7, 533), (69, 0, 8, 534), (78, 0, 9, 535), (87, 0, 10, 536), (91, 0, 11, 537), (94, 0, 12, 538), (97, 0, 13, 539), (100, 0, 14, 540), (104, 0, 15, 541), (107, 0, 16, 542)],
  [(9, 1, 0, 101), (15, 1, 1, 104), (18, 1, 2, 106), (22, 1, 3, 107), (25, 1, 4, 110), (28, 1, 5, 113), (33, 1, 6, 115), (36, 1, 7, 116), (39, 1, 8, 117), (42, 1, 9, 118), (45, 1, 10, 119)],
  [(9, 2, 0, 150), (15, 2, 1, 153), (18, 2, 2, 155), (22, 2, 3, 157), (25, 2, 4, 159), (28, 2, 5, 161), (31, 2, 6, 163), (34, 2, 7, 165), (37, 2, 8, 168)],
  [(9, 3, 0, 195), (15, 3, 1, 199), (19, 3, 2, 202), (22, 3, 3, 205), (25, 3, 4, 208), (28, 3, 5, 210), (31, 3, 6, 211), (35, 7, 3, 324)],
  [(9, 4, 0, 234), (15, 4, 1, 236), (19, 4, 2, 237), (22, 4, 3, 238), (25, 4, 4, 239), (28, 4, 5, 240), (31, 4, 6, 241)],
  [(9, 5, 0, 263), (15, 5, 1, 264), (19, 5, 2, 266), (22, 5, 3, 268), (25, 5, 4, 270)],
  [(41, 5, 2, 267), (37, 5, 3, 269), (9, 6, 0, 288), (15, 6, 1, 290), (19, 6, 2, 291), (22, 6, 3, 292), (25, 6, 4, 293), (28, 6, 5, 294), (31, 6, 6, 295), (34, 6, 7, 296)],
  [(115, 1, 0, 103), (50, 2, 0, 151), (56, 2, 2, 156), (77, 2, 3, 158), (93, 2, 4, 160), (90, 2, 5, 162), (59, 2, 6, 164), (66, 2, 7, 166), (53, 2, 8, 169), (38, 7, 0, 320), (42, 7, 1, 321), (46, 7, 2, 322), (9, 7, 3, 323), (15, 7, 4, 326), (18, 7, 5, 328), (22, 7, 6, 329), (26, 7, 7, 331), (29, 7, 8, 333), (32, 7, 9, 338), (35, 7, 10, 339)],
  [(156, 1, 3, 108), (96, 3, 0, 197), (99, 3, 1, 201), (102, 3, 2, 204), (112, 3, 3, 206), (119, 3, 4, 209), (162, 7, 3, 325), (88, 7, 4, 327), (192, 7, 7, 332), (109, 7, 8, 334), (148, 7, 10, 341), (93, 9, 0, 379), (134, 9, 1, 382), (145, 9, 2, 385), (59, 8, 0, 394), (63, 8, 1, 395), (67, 8, 2, 396), (71, 8, 3, 397), (14, 8, 4, 398), (20, 8, 5, 400), (24, 8, 6, 401), (27, 8, 7, 402), (30, 8, 8, 403), (34, 8, 9, 404), (37, 8, 10, 405), (40, 8, 11, 406), (43, 8, 12, 407), (46, 8, 13, 408), (49, 8, 14, 409), (52, 8, 15, 411), (56, 8, 16, 413)],
  [(9, 9, 0, 377), (15, 9, 1, 381), (19, 9, 2, 384)],
  [(55, 3, 0, 196), (60, 3, 1, 200), (75, 3, 2, 203), (78, 3, 3, 207), (85, 7, 8, 336), (70, 9, 0, 378), (44, 10, 0, 459), (48, 10, 1, 460), (11, 10, 2, 461), (17, 10, 3, 463), (21, 10, 4, 465), (25, 10, 5, 467), (28, 10, 6, 468), (31, 10, 7, 470), (35, 10, 8, 471), (38, 10, 9, 473), (41, 10, 10, 475)],
  [(48, 1, 4, 111), (59, 7, 8, 335), (39, 7, 10, 340), (21, 11, 0, 507), (25, 11, 1, 508), (9, 11, 2, 509), (15, 11, 3, 511), (18, 11, 4, 513)],
  [(197, 12, 0, 1236), (194, 12, 1, 1237), (204, 12, 2, 1238), (221, 12, 3, 1239), (260, 12, 4, 1240), (228, 12, 5, 1241), (357, 12, 6, 1242), (427, 12, 7, 1243), (266, 12, 8, 1244), (411, 12, 9, 1245), (7, 12, 10, 1246), (207, 12, 11, 1247), (13, 12, 12, 1248), (17, 12, 13, 1249), (20, 12, 14, 1250), (23, 12, 15, 1251), (26, 12, 16, 1252), (29, 12, 17, 1253), (32, 12, 18, 1254), (35, 12, 19, 1255), (38, 12, 20, 1256), (41, 12, 21, 1257), (44, 12, 22, 1258), (47, 12, 23, 1259), (50, 12, 24, 1260), (53, 12, 25, 1261), (56, 12, 26, 1262), (59, 12, 27, 1263), (62, 12, 28, 1264), (65, 12, 29, 1265), (68, 12, 30, 1266), (71, 12, 31, 1267), (74, 12, 32, 1268), (77, 12, 33, 1269), (80, 12, 34, 1270), (83, 12, 35, 1271), (86, 12, 36, 1272), (89, 12, 37, 1273), (92, 12, 38, 1274), (95, 12, 39, 1275), (98, 12, 40, 1276), (101, 12, 41, 1277), (104, 12, 42, 1278), (107, 12, 43, 1279), (110, 12, 44, 1280), (113, 12, 45, 1281), (116, 12, 46, 1282), (119, 12, 47, 1283), (122, 12, 48, 1284), (125, 12, 49, 1285), (128, 12, 50, 1286), (131, 12, 51, 1287), (134, 12, 52, 1288), (137, 12, 53, 1289), (252, 12, 54, 1290), (141, 12, 55, 1291), (144, 12, 56, 1292), (271, 12, 57, 1293), (281, 12, 58, 1294), (291, 12, 59, 1295), (294, 12, 60, 1296), (147, 12, 61, 1297), (150, 12, 62, 1298), (322, 12, 63, 1299), (325, 12, 64, 1300), (328, 12, 65, 1301), (331, 12, 66, 1302), (334, 12, 67, 1303), (337, 12, 68, 1304), (153, 12, 69, 1305), (156, 12, 70, 1306), (159, 12, 71, 1307), (162, 12, 72, 1308), (165, 12, 73, 1309), (168, 12, 74, 1310), (171, 12, 75, 1311), (340, 12, 76, 1312), (360, 12, 77, 1313), (372, 12, 78, 1314), (363, 12, 79, 1315), (377, 12, 80, 1316), (174, 12, 81, 1317), (177, 12, 82, 1318), (180, 12, 83, 1319), (390, 12, 84, 1320), (393, 12, 85, 1321), (396, 12, 86, 1322), (183, 12, 87, 1323), (186, 12, 88, 1324)],
  [],
  [],
  [],
  []
  ]
def rg_iv : List (List (Nat × Nat × Nat × Nat)) := [
  [(110, 0, 1, 582), (117, 0, 3, 590), (120, 0, 5, 598), (127, 0, 6, 602), (130, 0, 7, 606), (134, 0, 9, 614), (138, 0, 10, 618), (141, 0, 11, 623), (145, 0, 13, 631), (148, 0, 16, 643), (153, 0, 17, 648), (159, 1, 19, 656), (162, 0, 20, 659), (169, 0, 32, 707), (178, 0, 35, 720), (179, 0, 37, 729), (181, 0, 39, 737), (188, 0, 41, 746), (193, 0, 43, 754), (197, 0, 63, 881), (203, 0, 66, 897), (210, 0, 67, 901), (213, 0, 69, 909), (230, 0, 80, 954), (234, 0, 83, 969), (237, 0, 85, 977), (240, 0, 91, 1004), (243, 0, 92, 1017), (250, 0, 95, 1022), (254, 0, 96, 1026), (257, 0, 98, 1034), (263, 0, 102, 1054), (276, 0, 107, 1076), (285, 0, 111, 1092), (291, 0, 114, 1104), (294, 0, 115, 1112), (297, 0, 116, 1117), (351, 0, 22, 1121), (354, 0, 23, 1122), (358, 0, 117, 1123), (361, 0, 25, 1128), (300, 0, 118, 1129), (311, 0, 121, 1142), (315, 0, 124, 1158), (329, 0, 72, 1178), (333, 0, 129, 1179), (336, 0, 133, 1195), (364, 0, 87, 1199), (367, 0, 86, 1200), (370, 0, 134, 1201), (339, 0, 136, 1210), (342, 1, 138, 1218)],
  [],
  [(41, 1, 14, 636)],
  [(40, 0, 32, 741), (46, 2, 77, 1052)],
  [(34, 0, 89, 994), (47, 2, 77, 998), (38, 1, 60, 999), (43, 0, 88, 1205)],
  [(28, 0, 44, 758), (32, 0, 45, 762), (43, 0, 46, 766), (35, 0, 47, 770), (46, 0, 48, 774), (39, 0, 49, 778), (49, 0, 50, 782), (52, 0, 51, 786), (56, 0, 52, 790), (61, 0, 53, 795)],
  [(48, 1, 26, 683), (52, 1, 27, 686), (60, 1, 28, 691), (66, 1, 29, 694)],
  [(62, 0, 17, 663), (69, 0, 21, 664), (80, 0, 22, 668), (86, 0, 23, 672), (94, 1, 24, 676), (100, 0, 25, 679), (73, 0, 30, 697), (103, 1, 14, 701), (107, 0, 11, 702), (112, 0, 33, 711), (116, 0, 32, 1127)],
  [(75, 0, 70, 913), (81, 0, 71, 917), (84, 0, 72, 921), (105, 0, 39, 925), (115, 0, 73, 926), (122, 1, 60, 930), (127, 0, 74, 931), (137, 0, 75, 935), (131, 0, 76, 939), (141, 2, 77, 943), (149, 0, 86, 981), (153, 0, 87, 985), (159, 0, 80, 989), (165, 0, 88, 990), (171, 1, 90, 1000), (176, 0, 92, 1008), (182, 0, 93, 1012), (179, 1, 61, 1016), (186, 1, 14, 1146), (189, 0, 33, 1147), (195, 0, 85, 1148), (198, 0, 125, 1162), (201, 0, 126, 1166), (209, 1, 24, 1170), (205, 1, 127, 1171), (214, 0, 130, 1184), (218, 1, 131, 1188)],
  [(22, 0, 81, 958), (26, 2, 77, 962), (32, 1, 28, 964)],
  [(63, 0, 39, 1038), (67, 0, 99, 1039), (71, 0, 100, 1043), (81, 0, 101, 1047), (90, 0, 80, 1053), (94, 1, 103, 1058), (99, 0, 104, 1064), (105, 1, 105, 1069), (109, 0, 108, 1080)],
  [(29, 1, 14, 1108), (35, 0, 33, 1109), (42, 0, 86, 1110), (45, 0, 87, 1111), (53, 0, 32, 1116), (56, 0, 119, 1133), (62, 2, 77, 1137)],
  [(190, 0, 142, 1508), (200, 0, 145, 1520), (210, 1, 147, 1528), (214, 0, 148, 1531), (217, 0, 149, 1536), (224, 0, 153, 1552), (246, 0, 154, 1556), (231, 0, 155, 1560), (234, 0, 156, 1564), (237, 0, 157, 1568), (243, 0, 158, 1573), (314, 1, 159, 1577), (255, 0, 161, 1586), (249, 0, 162, 1590), (263, 0, 166, 1607), (307, 0, 169, 1620), (274, 0, 170, 1624), (297, 0, 171, 1628), (288, 0, 172, 1632), (284, 0, 173, 1636), (278, 1, 174, 1640), (300, 0, 175, 1643), (303, 0, 176, 1647), (347, 0, 180, 1663), (350, 0, 181, 1667), (318, 0, 182, 1671), (353, 0, 185, 1683), (375, 0, 188, 1697), (366, 0, 189, 1701), (405, 0, 192, 1714), (408, 0, 193, 1718), (387, 0, 194, 1722), (384, 0, 195, 1726), (380, 0, 196, 1730), (399, 1, 197, 1734), (402, 0, 198, 1737), (414, 1, 204, 1761), (422, 1, 131, 1782)],
  [],
  [],
  [(633, 0, 54, 799), (492, 0, 55, 803), (505, 0, 56, 809), (335, 0, 57, 813), (637, 1, 58, 817)],
  [(88, 1, 59, 820), (92, 1, 60, 823), (38, 1, 61, 826), (95, 1, 62, 829)]
  ]
def rg_cs : List (List (Nat × Int32 × Nat)) := [
  [(350, 1000000000, 622), (152, 2147483647, 647), (176, 99999, 719), (314, 99999999, 1153)],
  [],
  [(40, 2147483647, 635)],
  [(34, 2147483647, 724)],
  [],
  [],
  [],
  [],
  [],
  [],
  [],
  [],
  [(189, 1000000000, 1535), (259, 99999, 1598), (346, 99999999, 1688)],
  [],
  [(265, 1431655765, 1061), (266, 858993459, 1062), (267, 252645135, 1063)],
  [],
  []
  ]
def rg_cl : List (List (Nat × Int64 × Nat)) := [
  [(348, 100, 1221)],
  [],
  [],
  [(44, 100, 1051)],
  [],
  [],
  [(56, (-1000000000), 689), (58, 1000000000, 690)],
  [],
  [(174, 100, 1003), (212, (-1), 1183)],
  [(30, 99999999, 963)],
  [(103, (-1), 1068)],
  [],
  [(241, 9999, 1572), (310, (-1000000000), 1580), (312, 1000000000, 1581), (269, 255, 1615), (344, 99999999, 1687), (370, 100, 1705), (418, 99, 1764), (420, (-1), 1781)],
  [],
  [],
  [],
  []
  ]
