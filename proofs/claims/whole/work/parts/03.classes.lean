/-! classes, fields in the order of the slots (out of the printed names) -/
def RX0 : String := "OneCoin$Balance"
def TX0 : u_T := fun k => match k with
  | 0 => ("OneCoin$Balance", "people", "LOneCoin$People;", true)
  | 1 => ("OneCoin$Balance", "more", "[I", true)
  | 2 => ("OneCoin$Balance", "rest", "[I", true)
  | 3 => ("OneCoin$Balance", "debtors", "[I", true)
  | 4 => ("OneCoin$Balance", "row", "[I", true)
  | 5 => ("OneCoin$Balance", "best", "[I", true)
  | 6 => ("OneCoin$Balance", "pairs", "[I", true)
  | 7 => ("OneCoin$Balance", "groups", "[I", true)
  | _ => ("OneCoin$Balance", "bestHours", "I", false)
def tyX0 : Nat → FieldType := fun k => match k with
  | 0 => .object "OneCoin$People"
  | 1 => .array .int
  | 2 => .array .int
  | 3 => .array .int
  | 4 => .array .int
  | 5 => .array .int
  | 6 => .array .int
  | 7 => .array .int
  | _ => .int
theorem nmX0 : ∀ a, a < 9 → ∀ b, b < 9 → a ≠ b → (TX0 a).2.1 ≠ (TX0 b).2.1 := by decide +kernel
theorem tyX0_ok : ∀ k, k < 9 → parseFieldDescriptor (TX0 k).2.2.1 = some (tyX0 k) := by decide +kernel
def RX1 : String := "OneCoin$Clock"
def TX1 : u_T := fun k => match k with
  | 0 => ("OneCoin$Clock", "people", "LOneCoin$People;", true)
  | 1 => ("OneCoin$Clock", "law", "LOneCoin$Law;", true)
  | 2 => ("OneCoin$Clock", "payings", "I", false)
  | 3 => ("OneCoin$Clock", "rainyDays", "I", false)
  | 4 => ("OneCoin$Clock", "interest", "I", false)
  | _ => ("OneCoin$Clock", "arrivedAt", "I", false)
def tyX1 : Nat → FieldType := fun k => match k with
  | 0 => .object "OneCoin$People"
  | 1 => .object "OneCoin$Law"
  | 2 => .int
  | 3 => .int
  | 4 => .int
  | _ => .int
theorem nmX1 : ∀ a, a < 6 → ∀ b, b < 6 → a ≠ b → (TX1 a).2.1 ≠ (TX1 b).2.1 := by decide +kernel
theorem tyX1_ok : ∀ k, k < 6 → parseFieldDescriptor (TX1 k).2.2.1 = some (tyX1 k) := by decide +kernel
def RX2 : String := "OneCoin$DebtsReader"
def TX2 : u_T := fun k => match k with
  | 0 => ("OneCoin$DebtsReader", "text", "LOneCoin$Tape;", true)
  | 1 => ("OneCoin$DebtsReader", "people", "LOneCoin$People;", true)
  | _ => ("OneCoin$DebtsReader", "draft", "[I", true)
def tyX2 : Nat → FieldType := fun k => match k with
  | 0 => .object "OneCoin$Tape"
  | 1 => .object "OneCoin$People"
  | _ => .array .int
theorem nmX2 : ∀ a, a < 3 → ∀ b, b < 3 → a ≠ b → (TX2 a).2.1 ≠ (TX2 b).2.1 := by decide +kernel
theorem tyX2_ok : ∀ k, k < 3 → parseFieldDescriptor (TX2 k).2.2.1 = some (tyX2 k) := by decide +kernel
def RX3 : String := "OneCoin$Duchy"
def TX3 : u_T := fun k => match k with
  | 0 => ("OneCoin$Duchy", "debts", "[I", true)
  | 1 => ("OneCoin$Duchy", "held", "[I", true)
  | 2 => ("OneCoin$Duchy", "chalks", "[I", true)
  | 3 => ("OneCoin$Duchy", "chalked", "I", false)
  | 4 => ("OneCoin$Duchy", "holder", "I", false)
  | 5 => ("OneCoin$Duchy", "payer", "I", false)
  | 6 => ("OneCoin$Duchy", "payee", "I", false)
  | 7 => ("OneCoin$Duchy", "left", "I", false)
  | 8 => ("OneCoin$Duchy", "hour", "I", false)
  | 9 => ("OneCoin$Duchy", "day", "I", false)
  | 10 => ("OneCoin$Duchy", "rainy", "Z", false)
  | _ => ("OneCoin$Duchy", "x", "I", false)
def tyX3 : Nat → FieldType := fun k => match k with
  | 0 => .array .int
  | 1 => .array .int
  | 2 => .array .int
  | 3 => .int
  | 4 => .int
  | 5 => .int
  | 6 => .int
  | 7 => .int
  | 8 => .int
  | 9 => .int
  | 10 => .boolean
  | _ => .int
theorem nmX3 : ∀ a, a < 12 → ∀ b, b < 12 → a ≠ b → (TX3 a).2.1 ≠ (TX3 b).2.1 := by decide +kernel
theorem tyX3_ok : ∀ k, k < 12 → parseFieldDescriptor (TX3 k).2.2.1 = some (tyX3 k) := by decide +kernel
def RX4 : String := "OneCoin$Law"
def TX4 : u_T := fun k => match k with
  | 0 => ("OneCoin$Law", "people", "LOneCoin$People;", true)
  | 1 => ("OneCoin$Law", "steps", "[I", true)
  | 2 => ("OneCoin$Law", "details", "[I", true)
  | 3 => ("OneCoin$Law", "kinds", "[I", true)
  | 4 => ("OneCoin$Law", "starts", "[I", true)
  | 5 => ("OneCoin$Law", "middles", "[I", true)
  | 6 => ("OneCoin$Law", "ends", "[I", true)
  | 7 => ("OneCoin$Law", "letters", "[I", true)
  | 8 => ("OneCoin$Law", "stack", "[I", true)
  | 9 => ("OneCoin$Law", "size", "I", false)
  | _ => ("OneCoin$Law", "rules", "I", false)
def tyX4 : Nat → FieldType := fun k => match k with
  | 0 => .object "OneCoin$People"
  | 1 => .array .int
  | 2 => .array .int
  | 3 => .array .int
  | 4 => .array .int
  | 5 => .array .int
  | 6 => .array .int
  | 7 => .array .int
  | 8 => .array .int
  | 9 => .int
  | _ => .int
theorem nmX4 : ∀ a, a < 11 → ∀ b, b < 11 → a ≠ b → (TX4 a).2.1 ≠ (TX4 b).2.1 := by decide +kernel
theorem tyX4_ok : ∀ k, k < 11 → parseFieldDescriptor (TX4 k).2.2.1 = some (tyX4 k) := by decide +kernel
def RX5 : String := "OneCoin$LawReader"
def TX5 : u_T := fun k => match k with
  | 0 => ("OneCoin$LawReader", "text", "LOneCoin$Tape;", true)
  | _ => ("OneCoin$LawReader", "draft", "LOneCoin$Law;", true)
def tyX5 : Nat → FieldType := fun k => match k with
  | 0 => .object "OneCoin$Tape"
  | _ => .object "OneCoin$Law"
theorem nmX5 : ∀ a, a < 2 → ∀ b, b < 2 → a ≠ b → (TX5 a).2.1 ≠ (TX5 b).2.1 := by decide +kernel
theorem tyX5_ok : ∀ k, k < 2 → parseFieldDescriptor (TX5 k).2.2.1 = some (tyX5 k) := by decide +kernel
def RX6 : String := "OneCoin$People"
def TX6 : u_T := fun k => match k with
  | 0 => ("OneCoin$People", "spotX", "[I", true)
  | 1 => ("OneCoin$People", "spotY", "[I", true)
  | _ => ("OneCoin$People", "told", "I", false)
def tyX6 : Nat → FieldType := fun k => match k with
  | 0 => .array .int
  | 1 => .array .int
  | _ => .int
theorem nmX6 : ∀ a, a < 3 → ∀ b, b < 3 → a ≠ b → (TX6 a).2.1 ≠ (TX6 b).2.1 := by decide +kernel
theorem tyX6_ok : ∀ k, k < 3 → parseFieldDescriptor (TX6 k).2.2.1 = some (tyX6 k) := by decide +kernel
def RX7 : String := "OneCoin$RouteReader"
def TX7 : u_T := fun k => match k with
  | 0 => ("OneCoin$RouteReader", "text", "LOneCoin$Tape;", true)
  | 1 => ("OneCoin$RouteReader", "row", "[I", true)
  | _ => ("OneCoin$RouteReader", "length", "I", false)
def tyX7 : Nat → FieldType := fun k => match k with
  | 0 => .object "OneCoin$Tape"
  | 1 => .array .int
  | _ => .int
theorem nmX7 : ∀ a, a < 3 → ∀ b, b < 3 → a ≠ b → (TX7 a).2.1 ≠ (TX7 b).2.1 := by decide +kernel
theorem tyX7_ok : ∀ k, k < 3 → parseFieldDescriptor (TX7 k).2.2.1 = some (tyX7 k) := by decide +kernel
def RX8 : String := "OneCoin$Rows"
def TX8 : u_T := fun k => match k with
  | 0 => ("OneCoin$Rows", "people", "LOneCoin$People;", true)
  | 1 => ("OneCoin$Rows", "left", "[I", true)
  | 2 => ("OneCoin$Rows", "right", "[I", true)
  | 3 => ("OneCoin$Rows", "pairs", "[I", true)
  | 4 => ("OneCoin$Rows", "far", "[I", true)
  | 5 => ("OneCoin$Rows", "row", "[I", true)
  | 6 => ("OneCoin$Rows", "best", "[I", true)
  | _ => ("OneCoin$Rows", "bestLength", "I", false)
def tyX8 : Nat → FieldType := fun k => match k with
  | 0 => .object "OneCoin$People"
  | 1 => .array .int
  | 2 => .array .int
  | 3 => .array .int
  | 4 => .array .int
  | 5 => .array .int
  | 6 => .array .int
  | _ => .int
theorem nmX8 : ∀ a, a < 8 → ∀ b, b < 8 → a ≠ b → (TX8 a).2.1 ≠ (TX8 b).2.1 := by decide +kernel
theorem tyX8_ok : ∀ k, k < 8 → parseFieldDescriptor (TX8 k).2.2.1 = some (tyX8 k) := by decide +kernel
def RX9 : String := "OneCoin$Tape"
def TX9 : u_T := fun k => match k with
  | 0 => ("OneCoin$Tape", "bytes", "[I", true)
  | 1 => ("OneCoin$Tape", "size", "I", false)
  | 2 => ("OneCoin$Tape", "limit", "I", false)
  | 3 => ("OneCoin$Tape", "place", "I", false)
  | _ => ("OneCoin$Tape", "next", "I", false)
def tyX9 : Nat → FieldType := fun k => match k with
  | 0 => .array .int
  | 1 => .int
  | 2 => .int
  | 3 => .int
  | _ => .int
theorem nmX9 : ∀ a, a < 5 → ∀ b, b < 5 → a ≠ b → (TX9 a).2.1 ≠ (TX9 b).2.1 := by decide +kernel
theorem tyX9_ok : ∀ k, k < 5 → parseFieldDescriptor (TX9 k).2.2.1 = some (tyX9 k) := by decide +kernel
def RX10 : String := "OneCoin"
def TX10 : u_T := fun k => match k with
  | 0 => ("OneCoin", "tape", "LOneCoin$Tape;", true)
  | 1 => ("OneCoin", "people", "LOneCoin$People;", true)
  | 2 => ("OneCoin", "now", "LOneCoin$Duchy;", true)
  | 3 => ("OneCoin", "kept", "LOneCoin$Duchy;", true)
  | 4 => ("OneCoin", "trial", "LOneCoin$Duchy;", true)
  | 5 => ("OneCoin", "law", "LOneCoin$Law;", true)
  | 6 => ("OneCoin", "draft", "LOneCoin$Law;", true)
  | 7 => ("OneCoin", "lawReader", "LOneCoin$LawReader;", true)
  | 8 => ("OneCoin", "debtsReader", "LOneCoin$DebtsReader;", true)
  | 9 => ("OneCoin", "routeReader", "LOneCoin$RouteReader;", true)
  | 10 => ("OneCoin", "clock", "LOneCoin$Clock;", true)
  | 11 => ("OneCoin", "rows", "LOneCoin$Rows;", true)
  | 12 => ("OneCoin", "balance", "LOneCoin$Balance;", true)
  | _ => ("OneCoin", "wasKept", "Z", false)
def tyX10 : Nat → FieldType := fun k => match k with
  | 0 => .object "OneCoin$Tape"
  | 1 => .object "OneCoin$People"
  | 2 => .object "OneCoin$Duchy"
  | 3 => .object "OneCoin$Duchy"
  | 4 => .object "OneCoin$Duchy"
  | 5 => .object "OneCoin$Law"
  | 6 => .object "OneCoin$Law"
  | 7 => .object "OneCoin$LawReader"
  | 8 => .object "OneCoin$DebtsReader"
  | 9 => .object "OneCoin$RouteReader"
  | 10 => .object "OneCoin$Clock"
  | 11 => .object "OneCoin$Rows"
  | 12 => .object "OneCoin$Balance"
  | _ => .boolean
theorem nmX10 : ∀ a, a < 14 → ∀ b, b < 14 → a ≠ b → (TX10 a).2.1 ≠ (TX10 b).2.1 := by decide +kernel
theorem tyX10_ok : ∀ k, k < 14 → parseFieldDescriptor (TX10 k).2.2.1 = some (tyX10 k) := by decide +kernel
def RX11 : String := "OneCoinModel"
def TX11 : u_T := fun k => match k with
  | 0 => ("OneCoinModel", "now", "[I", true)
  | 1 => ("OneCoinModel", "aside", "[I", true)
  | 2 => ("OneCoinModel", "kept", "[I", true)
  | 3 => ("OneCoinModel", "spotX", "[I", true)
  | 4 => ("OneCoinModel", "spotY", "[I", true)
  | 5 => ("OneCoinModel", "people", "I", false)
  | 6 => ("OneCoinModel", "tape", "[B", true)
  | 7 => ("OneCoinModel", "taped", "I", false)
  | 8 => ("OneCoinModel", "place0", "I", false)
  | 9 => ("OneCoinModel", "length0", "I", false)
  | 10 => ("OneCoinModel", "fault", "I", false)
  | 11 => ("OneCoinModel", "number0", "I", false)
  | 12 => ("OneCoinModel", "open", "I", false)
  | 13 => ("OneCoinModel", "codeMany", "I", false)
  | 14 => ("OneCoinModel", "waiting", "I", false)
  | 15 => ("OneCoinModel", "saidMany", "I", false)
  | 16 => ("OneCoinModel", "clauses", "I", false)
  | 17 => ("OneCoinModel", "said", "[I", true)
  | 18 => ("OneCoinModel", "waitsAt", "[I", true)
  | 19 => ("OneCoinModel", "saidLetter", "[I", true)
  | 20 => ("OneCoinModel", "saidFrom", "[I", true)
  | 21 => ("OneCoinModel", "saidHalf", "[I", true)
  | 22 => ("OneCoinModel", "saidTo", "[I", true)
  | 23 => ("OneCoinModel", "codes", "[I", true)
  | 24 => ("OneCoinModel", "clauseOf", "[I", true)
  | 25 => ("OneCoinModel", "codeFrom", "[I", true)
  | 26 => ("OneCoinModel", "codeHalf", "[I", true)
  | 27 => ("OneCoinModel", "codeTo", "[I", true)
  | 28 => ("OneCoinModel", "stack", "[I", true)
  | 29 => ("OneCoinModel", "facts", "[I", true)
  | 30 => ("OneCoinModel", "newDebt", "[I", true)
  | 31 => ("OneCoinModel", "lines", "I", false)
  | 32 => ("OneCoinModel", "paid", "I", false)
  | 33 => ("OneCoinModel", "rained", "I", false)
  | 34 => ("OneCoinModel", "grown", "I", false)
  | 35 => ("OneCoinModel", "arrived", "I", false)
  | 36 => ("OneCoinModel", "newStep", "[I", true)
  | 37 => ("OneCoinModel", "roundFrom", "[I", true)
  | 38 => ("OneCoinModel", "roundAt", "[I", true)
  | 39 => ("OneCoinModel", "roundTimes", "[I", true)
  | 40 => ("OneCoinModel", "newMany", "I", false)
  | 41 => ("OneCoinModel", "rounds", "I", false)
  | 42 => ("OneCoinModel", "itemFrom", "I", false)
  | 43 => ("OneCoinModel", "itemTimes", "I", false)
  | 44 => ("OneCoinModel", "walkedMany", "I", false)
  | 45 => ("OneCoinModel", "walkedHours", "I", false)
  | 46 => ("OneCoinModel", "leftDebt", "[I", true)
  | 47 => ("OneCoinModel", "tourStep", "[I", true)
  | 48 => ("OneCoinModel", "coinFrom", "[I", true)
  | 49 => ("OneCoinModel", "coinTo", "[I", true)
  | 50 => ("OneCoinModel", "coinMany", "I", false)
  | 51 => ("OneCoinModel", "moreBy", "[B", true)
  | 52 => ("OneCoinModel", "stepsTo", "[I", true)
  | 53 => ("OneCoinModel", "hoursTo", "[I", true)
  | 54 => ("OneCoinModel", "lackOf", "[I", true)
  | 55 => ("OneCoinModel", "wantOf", "[I", true)
  | 56 => ("OneCoinModel", "rowNow", "[I", true)
  | 57 => ("OneCoinModel", "rowBest", "[I", true)
  | 58 => ("OneCoinModel", "lacks", "I", false)
  | 59 => ("OneCoinModel", "sumOf", "[I", true)
  | 60 => ("OneCoinModel", "groupsOf", "[I", true)
  | _ => ("OneCoinModel", "isKept", "Z", false)
def tyX11 : Nat → FieldType := fun k => match k with
  | 0 => .array .int
  | 1 => .array .int
  | 2 => .array .int
  | 3 => .array .int
  | 4 => .array .int
  | 5 => .int
  | 6 => .array .byte
  | 7 => .int
  | 8 => .int
  | 9 => .int
  | 10 => .int
  | 11 => .int
  | 12 => .int
  | 13 => .int
  | 14 => .int
  | 15 => .int
  | 16 => .int
  | 17 => .array .int
  | 18 => .array .int
  | 19 => .array .int
  | 20 => .array .int
  | 21 => .array .int
  | 22 => .array .int
  | 23 => .array .int
  | 24 => .array .int
  | 25 => .array .int
  | 26 => .array .int
  | 27 => .array .int
  | 28 => .array .int
  | 29 => .array .int
  | 30 => .array .int
  | 31 => .int
  | 32 => .int
  | 33 => .int
  | 34 => .int
  | 35 => .int
  | 36 => .array .int
  | 37 => .array .int
  | 38 => .array .int
  | 39 => .array .int
  | 40 => .int
  | 41 => .int
  | 42 => .int
  | 43 => .int
  | 44 => .int
  | 45 => .int
  | 46 => .array .int
  | 47 => .array .int
  | 48 => .array .int
  | 49 => .array .int
  | 50 => .int
  | 51 => .array .byte
  | 52 => .array .int
  | 53 => .array .int
  | 54 => .array .int
  | 55 => .array .int
  | 56 => .array .int
  | 57 => .array .int
  | 58 => .int
  | 59 => .array .int
  | 60 => .array .int
  | _ => .boolean
theorem nmX11 : ∀ a, a < 62 → ∀ b, b < 62 → a ≠ b → (TX11 a).2.1 ≠ (TX11 b).2.1 := by decide +kernel
theorem tyX11_ok : ∀ k, k < 62 → parseFieldDescriptor (TX11 k).2.2.1 = some (tyX11 k) := by decide +kernel
abbrev vwCl : List vw_C := [(RX0, TX0, 9), (RX1, TX1, 6), (RX2, TX2, 3), (RX3, TX3, 12), (RX4, TX4, 11), (RX5, TX5, 2), (RX6, TX6, 3), (RX7, TX7, 3), (RX8, TX8, 8), (RX9, TX9, 5), (RX10, TX10, 14), (RX11, TX11, 62)]
set_option maxRecDepth 100000 in
theorem oinX0 : ∀ w ∈ u_ws RX0 TX0 9, w ∈ oT := by decide +kernel
set_option maxRecDepth 100000 in
theorem oinX1 : ∀ w ∈ u_ws RX1 TX1 6, w ∈ oT := by decide +kernel
set_option maxRecDepth 100000 in
theorem oinX2 : ∀ w ∈ u_ws RX2 TX2 3, w ∈ oT := by decide +kernel
set_option maxRecDepth 100000 in
theorem oinX3 : ∀ w ∈ u_ws RX3 TX3 12, w ∈ oT := by decide +kernel
set_option maxRecDepth 100000 in
theorem oinX4 : ∀ w ∈ u_ws RX4 TX4 11, w ∈ oT := by decide +kernel
set_option maxRecDepth 100000 in
theorem oinX5 : ∀ w ∈ u_ws RX5 TX5 2, w ∈ oT := by decide +kernel
set_option maxRecDepth 100000 in
theorem oinX6 : ∀ w ∈ u_ws RX6 TX6 3, w ∈ oT := by decide +kernel
set_option maxRecDepth 100000 in
theorem oinX7 : ∀ w ∈ u_ws RX7 TX7 3, w ∈ oT := by decide +kernel
set_option maxRecDepth 100000 in
theorem oinX8 : ∀ w ∈ u_ws RX8 TX8 8, w ∈ oT := by decide +kernel
set_option maxRecDepth 100000 in
theorem oinX9 : ∀ w ∈ u_ws RX9 TX9 5, w ∈ oT := by decide +kernel
set_option maxRecDepth 100000 in
theorem oinX10 : ∀ w ∈ u_ws RX10 TX10 14, w ∈ oT := by decide +kernel
set_option maxRecDepth 100000 in
theorem oinX11 : ∀ w ∈ u_ws RX11 TX11 62, w ∈ oT := by decide +kernel
def oCls (ci : Nat) (C : String) (T : u_T) (N : Nat) (ty : Nat → FieldType) : Prop := vwCl[ci]? = some (C, T, N) ∧ (∀ w ∈ u_ws C T N, w ∈ oT) ∧ (∀ k, k < N → parseFieldDescriptor (T k).2.2.1 = some (ty k)) ∧ ∀ a, a < N → ∀ b, b < N → a ≠ b → (T a).2.1 ≠ (T b).2.1
theorem oC0 : oCls 0 RX0 TX0 9 tyX0 := ⟨rfl, oinX0, tyX0_ok, nmX0⟩
theorem oC1 : oCls 1 RX1 TX1 6 tyX1 := ⟨rfl, oinX1, tyX1_ok, nmX1⟩
theorem oC2 : oCls 2 RX2 TX2 3 tyX2 := ⟨rfl, oinX2, tyX2_ok, nmX2⟩
theorem oC3 : oCls 3 RX3 TX3 12 tyX3 := ⟨rfl, oinX3, tyX3_ok, nmX3⟩
theorem oC4 : oCls 4 RX4 TX4 11 tyX4 := ⟨rfl, oinX4, tyX4_ok, nmX4⟩
theorem oC5 : oCls 5 RX5 TX5 2 tyX5 := ⟨rfl, oinX5, tyX5_ok, nmX5⟩
theorem oC6 : oCls 6 RX6 TX6 3 tyX6 := ⟨rfl, oinX6, tyX6_ok, nmX6⟩
theorem oC7 : oCls 7 RX7 TX7 3 tyX7 := ⟨rfl, oinX7, tyX7_ok, nmX7⟩
theorem oC8 : oCls 8 RX8 TX8 8 tyX8 := ⟨rfl, oinX8, tyX8_ok, nmX8⟩
theorem oC9 : oCls 9 RX9 TX9 5 tyX9 := ⟨rfl, oinX9, tyX9_ok, nmX9⟩
theorem oC10 : oCls 10 RX10 TX10 14 tyX10 := ⟨rfl, oinX10, tyX10_ok, nmX10⟩
theorem oC11 : oCls 11 RX11 TX11 62 tyX11 := ⟨rfl, oinX11, tyX11_ok, nmX11⟩
