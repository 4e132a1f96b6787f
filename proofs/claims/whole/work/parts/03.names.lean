/-! names and tables, written by wip/whole/gen.py out of the printed names; what the links of each class say, with the place of each word in lw_tbl -/
def RX0 : String := "TakeOrPay$Best"
def TX0 : u_T := fun k => match k with
  | 0 => ("TakeOrPay$Best", "ahead", "[J", true)
  | 1 => ("TakeOrPay$Best", "stamps", "[I", true)
  | 2 => ("TakeOrPay$Best", "moves", "[LTakeOrPay$Move;", true)
  | 3 => ("TakeOrPay$Best", "prices", "[I", true)
  | 4 => ("TakeOrPay$Best", "unitPrices", "[I", true)
  | 5 => ("TakeOrPay$Best", "parts", "[J", true)
  | 6 => ("TakeOrPay$Best", "page", "LTakeOrPay$Page;", false)
  | 7 => ("TakeOrPay$Best", "stamp", "I", false)
  | 8 => ("TakeOrPay$Best", "askedStamp", "I", false)
  | 9 => ("TakeOrPay$Best", "askedCredit", "I", false)
  | 10 => ("TakeOrPay$Best", "stampsGiven", "I", false)
  | _ => ("TakeOrPay$Best", "chosenWorth", "J", false)
def tyX0 : Nat → FieldType := fun k => match k with
  | 0 => .array .long
  | 1 => .array .int
  | 2 => .array (.object "TakeOrPay$Move")
  | 3 => .array .int
  | 4 => .array .int
  | 5 => .array .long
  | 6 => .object "TakeOrPay$Page"
  | 7 => .int
  | 8 => .int
  | 9 => .int
  | 10 => .int
  | _ => .long
theorem nmX0 : ∀ a, a < 12 → ∀ b, b < 12 → a ≠ b → (TX0 a).2.1 ≠ (TX0 b).2.1 := by decide +kernel
theorem tyX0_ok : ∀ k, k < 12 → parseFieldDescriptor (TX0 k).2.2.1 = some (tyX0 k) := by decide +kernel
def RX1 : String := "TakeOrPay$Figures"
def TX1 : u_T := fun k => match k with
  | 0 => ("TakeOrPay$Figures", "page", "LTakeOrPay$Page;", true)
  | 1 => ("TakeOrPay$Figures", "row", "LTakeOrPay$Row;", true)
  | 2 => ("TakeOrPay$Figures", "trial", "LTakeOrPay$Page;", true)
  | 3 => ("TakeOrPay$Figures", "move", "LTakeOrPay$Move;", true)
  | 4 => ("TakeOrPay$Figures", "best", "LTakeOrPay$Best;", false)
  | 5 => ("TakeOrPay$Figures", "trialBest", "LTakeOrPay$Best;", false)
  | 6 => ("TakeOrPay$Figures", "spread", "LTakeOrPay$Spread;", false)
  | 7 => ("TakeOrPay$Figures", "bestOpen", "Z", false)
  | 8 => ("TakeOrPay$Figures", "wholeKnown", "Z", false)
  | 9 => ("TakeOrPay$Figures", "offersKnown", "Z", false)
  | 10 => ("TakeOrPay$Figures", "cameKnown", "Z", false)
  | 11 => ("TakeOrPay$Figures", "leftOutKnown", "[Z", true)
  | 12 => ("TakeOrPay$Figures", "wholes", "[J", true)
  | 13 => ("TakeOrPay$Figures", "leftOut", "[J", true)
  | 14 => ("TakeOrPay$Figures", "offersHeld", "I", false)
  | 15 => ("TakeOrPay$Figures", "offerPaid", "I", false)
  | 16 => ("TakeOrPay$Figures", "offerBase", "I", false)
  | 17 => ("TakeOrPay$Figures", "offerMore", "J", false)
  | 18 => ("TakeOrPay$Figures", "cameGain", "I", false)
  | _ => ("TakeOrPay$Figures", "cameTakings", "I", false)
def tyX1 : Nat → FieldType := fun k => match k with
  | 0 => .object "TakeOrPay$Page"
  | 1 => .object "TakeOrPay$Row"
  | 2 => .object "TakeOrPay$Page"
  | 3 => .object "TakeOrPay$Move"
  | 4 => .object "TakeOrPay$Best"
  | 5 => .object "TakeOrPay$Best"
  | 6 => .object "TakeOrPay$Spread"
  | 7 => .boolean
  | 8 => .boolean
  | 9 => .boolean
  | 10 => .boolean
  | 11 => .array .boolean
  | 12 => .array .long
  | 13 => .array .long
  | 14 => .int
  | 15 => .int
  | 16 => .int
  | 17 => .long
  | 18 => .int
  | _ => .int
theorem nmX1 : ∀ a, a < 20 → ∀ b, b < 20 → a ≠ b → (TX1 a).2.1 ≠ (TX1 b).2.1 := by decide +kernel
theorem tyX1_ok : ∀ k, k < 20 → parseFieldDescriptor (TX1 k).2.2.1 = some (tyX1 k) := by decide +kernel
def RX2 : String := "TakeOrPay$Move"
def TX2 : u_T := fun k => match k with
  | 0 => ("TakeOrPay$Move", "x", "I", false)
  | 1 => ("TakeOrPay$Move", "madeUp", "I", false)
  | 2 => ("TakeOrPay$Move", "newlyCounted", "I", false)
  | 3 => ("TakeOrPay$Move", "counted", "I", false)
  | 4 => ("TakeOrPay$Move", "made", "I", false)
  | 5 => ("TakeOrPay$Move", "credit", "I", false)
  | 6 => ("TakeOrPay$Move", "shorts", "I", false)
  | 7 => ("TakeOrPay$Move", "flat", "I", false)
  | _ => ("TakeOrPay$Move", "paidShort", "I", false)
def tyX2 : Nat → FieldType := fun k => match k with
  | 0 => .int
  | 1 => .int
  | 2 => .int
  | 3 => .int
  | 4 => .int
  | 5 => .int
  | 6 => .int
  | 7 => .int
  | _ => .int
theorem nmX2 : ∀ a, a < 9 → ∀ b, b < 9 → a ≠ b → (TX2 a).2.1 ≠ (TX2 b).2.1 := by decide +kernel
theorem tyX2_ok : ∀ k, k < 9 → parseFieldDescriptor (TX2 k).2.2.1 = some (tyX2 k) := by decide +kernel
def RX3 : String := "TakeOrPay$Page"
def TX3 : u_T := fun k => match k with
  | 0 => ("TakeOrPay$Page", "terms", "[I", true)
  | 1 => ("TakeOrPay$Page", "shutBy", "[I", true)
  | 2 => ("TakeOrPay$Page", "quantities", "[I", true)
  | 3 => ("TakeOrPay$Page", "tops", "[I", true)
  | 4 => ("TakeOrPay$Page", "yearOf", "[I", true)
  | 5 => ("TakeOrPay$Page", "closes", "[Z", true)
  | _ => ("TakeOrPay$Page", "total", "I", false)
def tyX3 : Nat → FieldType := fun k => match k with
  | 0 => .array .int
  | 1 => .array .int
  | 2 => .array .int
  | 3 => .array .int
  | 4 => .array .int
  | 5 => .array .boolean
  | _ => .int
theorem nmX3 : ∀ a, a < 7 → ∀ b, b < 7 → a ≠ b → (TX3 a).2.1 ≠ (TX3 b).2.1 := by decide +kernel
theorem tyX3_ok : ∀ k, k < 7 → parseFieldDescriptor (TX3 k).2.2.1 = some (tyX3 k) := by decide +kernel
def RX4 : String := "TakeOrPay$Reader"
def TX4 : u_T := fun k => match k with
  | 0 => ("TakeOrPay$Reader", "tape", "LTakeOrPay$Tape;", true)
  | 1 => ("TakeOrPay$Reader", "draft", "LTakeOrPay$Page;", true)
  | 2 => ("TakeOrPay$Reader", "toldBits", "I", false)
  | 3 => ("TakeOrPay$Reader", "fault", "I", false)
  | 4 => ("TakeOrPay$Reader", "faultPlace", "I", false)
  | 5 => ("TakeOrPay$Reader", "line", "I", false)
  | 6 => ("TakeOrPay$Reader", "slot", "I", false)
  | _ => ("TakeOrPay$Reader", "term", "I", false)
def tyX4 : Nat → FieldType := fun k => match k with
  | 0 => .object "TakeOrPay$Tape"
  | 1 => .object "TakeOrPay$Page"
  | 2 => .int
  | 3 => .int
  | 4 => .int
  | 5 => .int
  | 6 => .int
  | _ => .int
theorem nmX4 : ∀ a, a < 8 → ∀ b, b < 8 → a ≠ b → (TX4 a).2.1 ≠ (TX4 b).2.1 := by decide +kernel
theorem tyX4_ok : ∀ k, k < 8 → parseFieldDescriptor (TX4 k).2.2.1 = some (tyX4 k) := by decide +kernel
def RX5 : String := "TakeOrPay$Row"
def TX5 : u_T := fun k => match k with
  | 0 => ("TakeOrPay$Row", "states", "[I", true)
  | 1 => ("TakeOrPay$Row", "takings", "[I", true)
  | _ => ("TakeOrPay$Row", "size", "I", false)
def tyX5 : Nat → FieldType := fun k => match k with
  | 0 => .array .int
  | 1 => .array .int
  | _ => .int
theorem nmX5 : ∀ a, a < 3 → ∀ b, b < 3 → a ≠ b → (TX5 a).2.1 ≠ (TX5 b).2.1 := by decide +kernel
theorem tyX5_ok : ∀ k, k < 3 → parseFieldDescriptor (TX5 k).2.2.1 = some (tyX5 k) := by decide +kernel
def RX6 : String := "TakeOrPay$Sheet"
def TX6 : u_T := fun k => match k with
  | 0 => ("TakeOrPay$Sheet", "cells", "[I", true)
  | 1 => ("TakeOrPay$Sheet", "lane", "I", false)
  | _ => ("TakeOrPay$Sheet", "size", "I", false)
def tyX6 : Nat → FieldType := fun k => match k with
  | 0 => .array .int
  | 1 => .int
  | _ => .int
theorem nmX6 : ∀ a, a < 3 → ∀ b, b < 3 → a ≠ b → (TX6 a).2.1 ≠ (TX6 b).2.1 := by decide +kernel
theorem tyX6_ok : ∀ k, k < 3 → parseFieldDescriptor (TX6 k).2.2.1 = some (tyX6 k) := by decide +kernel
def RX7 : String := "TakeOrPay$Spread"
def TX7 : u_T := fun k => match k with
  | 0 => ("TakeOrPay$Spread", "chances", "[J", false)
  | 1 => ("TakeOrPay$Spread", "chancesBehind", "[J", false)
  | 2 => ("TakeOrPay$Spread", "places", "[I", false)
  | 3 => ("TakeOrPay$Spread", "placesBehind", "[I", false)
  | 4 => ("TakeOrPay$Spread", "held", "I", false)
  | 5 => ("TakeOrPay$Spread", "heldBehind", "I", false)
  | 6 => ("TakeOrPay$Spread", "move", "LTakeOrPay$Move;", true)
  | 7 => ("TakeOrPay$Spread", "buyer", "J", false)
  | 8 => ("TakeOrPay$Spread", "seller", "J", false)
  | 9 => ("TakeOrPay$Spread", "taken", "J", false)
  | 10 => ("TakeOrPay$Spread", "shorts", "J", false)
  | _ => ("TakeOrPay$Spread", "madeUp", "J", false)
def tyX7 : Nat → FieldType := fun k => match k with
  | 0 => .array .long
  | 1 => .array .long
  | 2 => .array .int
  | 3 => .array .int
  | 4 => .int
  | 5 => .int
  | 6 => .object "TakeOrPay$Move"
  | 7 => .long
  | 8 => .long
  | 9 => .long
  | 10 => .long
  | _ => .long
theorem nmX7 : ∀ a, a < 12 → ∀ b, b < 12 → a ≠ b → (TX7 a).2.1 ≠ (TX7 b).2.1 := by decide +kernel
theorem tyX7_ok : ∀ k, k < 12 → parseFieldDescriptor (TX7 k).2.2.1 = some (tyX7 k) := by decide +kernel
def RX8 : String := "TakeOrPay$Tape"
def TX8 : u_T := fun k => match k with
  | 0 => ("TakeOrPay$Tape", "bytes", "[B", true)
  | 1 => ("TakeOrPay$Tape", "length", "I", false)
  | 2 => ("TakeOrPay$Tape", "next", "I", false)
  | 3 => ("TakeOrPay$Tape", "kind", "I", false)
  | 4 => ("TakeOrPay$Tape", "value", "I", false)
  | _ => ("TakeOrPay$Tape", "place", "I", false)
def tyX8 : Nat → FieldType := fun k => match k with
  | 0 => .array .byte
  | 1 => .int
  | 2 => .int
  | 3 => .int
  | 4 => .int
  | _ => .int
theorem nmX8 : ∀ a, a < 6 → ∀ b, b < 6 → a ≠ b → (TX8 a).2.1 ≠ (TX8 b).2.1 := by decide +kernel
theorem tyX8_ok : ∀ k, k < 6 → parseFieldDescriptor (TX8 k).2.2.1 = some (tyX8 k) := by decide +kernel
def RX9 : String := "TakeOrPay$Walk"
def TX9 : u_T := fun k => match k with
  | 0 => ("TakeOrPay$Walk", "move", "LTakeOrPay$Move;", true)
  | 1 => ("TakeOrPay$Walk", "next", "I", false)
  | 2 => ("TakeOrPay$Walk", "firstWrong", "I", false)
  | 3 => ("TakeOrPay$Walk", "counted", "I", false)
  | 4 => ("TakeOrPay$Walk", "made", "I", false)
  | 5 => ("TakeOrPay$Walk", "credit", "I", false)
  | 6 => ("TakeOrPay$Walk", "paid", "I", false)
  | 7 => ("TakeOrPay$Walk", "gain", "I", false)
  | 8 => ("TakeOrPay$Walk", "shorts", "I", false)
  | 9 => ("TakeOrPay$Walk", "paidThatDay", "I", false)
  | _ => ("TakeOrPay$Walk", "madeUpThatDay", "I", false)
def tyX9 : Nat → FieldType := fun k => match k with
  | 0 => .object "TakeOrPay$Move"
  | 1 => .int
  | 2 => .int
  | 3 => .int
  | 4 => .int
  | 5 => .int
  | 6 => .int
  | 7 => .int
  | 8 => .int
  | 9 => .int
  | _ => .int
theorem nmX9 : ∀ a, a < 11 → ∀ b, b < 11 → a ≠ b → (TX9 a).2.1 ≠ (TX9 b).2.1 := by decide +kernel
theorem tyX9_ok : ∀ k, k < 11 → parseFieldDescriptor (TX9 k).2.2.1 = some (tyX9 k) := by decide +kernel
def RX10 : String := "TakeOrPay"
def TX10 : u_T := fun k => match k with
  | 0 => ("TakeOrPay", "contract", "LTakeOrPay$Page;", true)
  | 1 => ("TakeOrPay", "tape", "LTakeOrPay$Tape;", true)
  | 2 => ("TakeOrPay", "reader", "LTakeOrPay$Reader;", true)
  | 3 => ("TakeOrPay", "past", "LTakeOrPay$Row;", true)
  | 4 => ("TakeOrPay", "walk", "LTakeOrPay$Walk;", true)
  | 5 => ("TakeOrPay", "move", "LTakeOrPay$Move;", true)
  | 6 => ("TakeOrPay", "figures", "LTakeOrPay$Figures;", true)
  | 7 => ("TakeOrPay", "sheets", "[LTakeOrPay$Sheet;", true)
  | _ => ("TakeOrPay", "tornFault", "I", false)
def tyX10 : Nat → FieldType := fun k => match k with
  | 0 => .object "TakeOrPay$Page"
  | 1 => .object "TakeOrPay$Tape"
  | 2 => .object "TakeOrPay$Reader"
  | 3 => .object "TakeOrPay$Row"
  | 4 => .object "TakeOrPay$Walk"
  | 5 => .object "TakeOrPay$Move"
  | 6 => .object "TakeOrPay$Figures"
  | 7 => .array (.object "TakeOrPay$Sheet")
  | _ => .int
theorem nmX10 : ∀ a, a < 9 → ∀ b, b < 9 → a ≠ b → (TX10 a).2.1 ≠ (TX10 b).2.1 := by decide +kernel
theorem tyX10_ok : ∀ k, k < 9 → parseFieldDescriptor (TX10 k).2.2.1 = some (tyX10 k) := by decide +kernel
def RX11 : String := "TakeOrPayModel"
def TX11 : u_T := fun k => match k with
  | 0 => ("TakeOrPayModel", "tape", "[I", true)
  | 1 => ("TakeOrPayModel", "taped", "I", false)
  | 2 => ("TakeOrPayModel", "fault", "I", false)
  | 3 => ("TakeOrPayModel", "wrong", "I", false)
  | 4 => ("TakeOrPayModel", "wrongAt", "I", false)
  | 5 => ("TakeOrPayModel", "spot", "I", false)
  | 6 => ("TakeOrPayModel", "place", "I", false)
  | 7 => ("TakeOrPayModel", "token", "I", false)
  | 8 => ("TakeOrPayModel", "value", "I", false)
  | 9 => ("TakeOrPayModel", "cuts", "[I", true)
  | 10 => ("TakeOrPayModel", "letters", "[I", true)
  | 11 => ("TakeOrPayModel", "keys", "[I", true)
  | 12 => ("TakeOrPayModel", "plain", "[I", true)
  | 13 => ("TakeOrPayModel", "leasts", "[I", true)
  | 14 => ("TakeOrPayModel", "mosts", "[I", true)
  | 15 => ("TakeOrPayModel", "holds", "[I", true)
  | 16 => ("TakeOrPayModel", "reads", "[I", true)
  | 17 => ("TakeOrPayModel", "toldOnes", "I", false)
  | 18 => ("TakeOrPayModel", "toldPrices", "I", false)
  | 19 => ("TakeOrPayModel", "toldChances", "I", false)
  | 20 => ("TakeOrPayModel", "shuts", "[I", true)
  | 21 => ("TakeOrPayModel", "countedThen", "I", false)
  | 22 => ("TakeOrPayModel", "madeThen", "I", false)
  | 23 => ("TakeOrPayModel", "paid", "I", false)
  | 24 => ("TakeOrPayModel", "madeUp", "I", false)
  | 25 => ("TakeOrPayModel", "shortThen", "I", false)
  | 26 => ("TakeOrPayModel", "creditThen", "I", false)
  | 27 => ("TakeOrPayModel", "worths", "[J", true)
  | 28 => ("TakeOrPayModel", "bests", "[I", true)
  | 29 => ("TakeOrPayModel", "isLaid", "Z", false)
  | 30 => ("TakeOrPayModel", "leadsTo", "I", false)
  | 31 => ("TakeOrPayModel", "lost", "I", false)
  | 32 => ("TakeOrPayModel", "likely", "[J", true)
  | 33 => ("TakeOrPayModel", "likelyThen", "[J", true)
  | 34 => ("TakeOrPayModel", "expected", "[J", true)
  | 35 => ("TakeOrPayModel", "kept", "[I", true)
  | 36 => ("TakeOrPayModel", "rowMany", "I", false)
  | 37 => ("TakeOrPayModel", "rowState", "[I", true)
  | 38 => ("TakeOrPayModel", "rowTaken", "[I", true)
  | 39 => ("TakeOrPayModel", "rowPaid", "[I", true)
  | 40 => ("TakeOrPayModel", "rowMade", "[I", true)
  | 41 => ("TakeOrPayModel", "counted", "I", false)
  | 42 => ("TakeOrPayModel", "made", "I", false)
  | 43 => ("TakeOrPayModel", "credit", "I", false)
  | 44 => ("TakeOrPayModel", "paidAll", "I", false)
  | 45 => ("TakeOrPayModel", "gainAll", "I", false)
  | 46 => ("TakeOrPayModel", "shortAll", "I", false)
  | 47 => ("TakeOrPayModel", "cames", "[I", true)
  | 48 => ("TakeOrPayModel", "lanes", "[I", true)
  | 49 => ("TakeOrPayModel", "lengths", "[I", true)
  | 50 => ("TakeOrPayModel", "cells", "[I", true)
  | _ => ("TakeOrPayModel", "torn", "I", false)
def tyX11 : Nat → FieldType := fun k => match k with
  | 0 => .array .int
  | 1 => .int
  | 2 => .int
  | 3 => .int
  | 4 => .int
  | 5 => .int
  | 6 => .int
  | 7 => .int
  | 8 => .int
  | 9 => .array .int
  | 10 => .array .int
  | 11 => .array .int
  | 12 => .array .int
  | 13 => .array .int
  | 14 => .array .int
  | 15 => .array .int
  | 16 => .array .int
  | 17 => .int
  | 18 => .int
  | 19 => .int
  | 20 => .array .int
  | 21 => .int
  | 22 => .int
  | 23 => .int
  | 24 => .int
  | 25 => .int
  | 26 => .int
  | 27 => .array .long
  | 28 => .array .int
  | 29 => .boolean
  | 30 => .int
  | 31 => .int
  | 32 => .array .long
  | 33 => .array .long
  | 34 => .array .long
  | 35 => .array .int
  | 36 => .int
  | 37 => .array .int
  | 38 => .array .int
  | 39 => .array .int
  | 40 => .array .int
  | 41 => .int
  | 42 => .int
  | 43 => .int
  | 44 => .int
  | 45 => .int
  | 46 => .int
  | 47 => .array .int
  | 48 => .array .int
  | 49 => .array .int
  | 50 => .array .int
  | _ => .int
theorem nmX11 : ∀ a, a < 52 → ∀ b, b < 52 → a ≠ b → (TX11 a).2.1 ≠ (TX11 b).2.1 := by decide +kernel
theorem tyX11_ok : ∀ k, k < 52 → parseFieldDescriptor (TX11 k).2.2.1 = some (tyX11 k) := by decide +kernel
def zcn (c : Nat) : String := [RX0, RX1, RX2, RX3, RX4, RX5, RX6, RX7, RX8, RX9, RX10, RX11, "TakeOrPayLaw"].getD c ""
def zT (c : Nat) : u_T := [TX0, TX1, TX2, TX3, TX4, TX5, TX6, TX7, TX8, TX9, TX10, TX11].getD c TX0
def ztyF (c : Nat) : Nat → FieldType := [tyX0, tyX1, tyX2, tyX3, tyX4, tyX5, tyX6, tyX7, tyX8, tyX9, tyX10, tyX11].getD c tyX0
def zty (c k : Nat) : Nat := ([[2, 2, 2, 2, 2, 2, 2, 0, 0, 0, 0, 1], [2, 2, 2, 2, 2, 2, 2, 3, 3, 3, 3, 2, 2, 2, 0, 0, 0, 1, 0, 0], [0, 0, 0, 0, 0, 0, 0, 0, 0], [2, 2, 2, 2, 2, 2, 0], [2, 2, 0, 0, 0, 0, 0, 0], [2, 2, 0], [2, 0, 0], [2, 2, 2, 2, 0, 0, 2, 1, 1, 1, 1, 1], [2, 0, 0, 0, 0, 0], [2, 0, 0, 0, 0, 0, 0, 0, 0, 0, 0], [2, 2, 2, 2, 2, 2, 2, 2, 0], [2, 0, 0, 0, 0, 0, 0, 0, 0, 2, 2, 2, 2, 2, 2, 2, 2, 0, 0, 0, 2, 0, 0, 0, 0, 0, 0, 2, 2, 3, 0, 0, 2, 2, 2, 2, 0, 2, 2, 2, 2, 0, 0, 0, 0, 0, 0, 2, 2, 2, 2, 0]].getD c []).getD k 9
abbrev zcl : List vw_C := [(RX0, TX0, 12), (RX1, TX1, 20), (RX2, TX2, 9), (RX3, TX3, 7), (RX4, TX4, 8), (RX5, TX5, 3), (RX6, TX6, 3), (RX7, TX7, 12), (RX8, TX8, 6), (RX9, TX9, 11), (RX10, TX10, 9), (RX11, TX11, 52)]
theorem zin_of {big ws : List Cond} (ps : List Nat) (hp : ws = ps.filterMap (fun i => big[i]?)) : ∀ w ∈ ws, w ∈ big := by
  intro w hw
  rw [hp] at hw
  obtain ⟨i, -, hi⟩ := List.mem_filterMap.mp hw
  exact List.mem_of_getElem? hi
set_option maxRecDepth 100000 in
theorem zinX0 : ∀ w ∈ u_ws RX0 TX0 12, w ∈ lw_tbl := zin_of [869, 871, 873, 875, 877, 879, 881, 883, 885, 887, 889, 891] (by decide +kernel)
set_option maxRecDepth 100000 in
theorem zinX1 : ∀ w ∈ u_ws RX1 TX1 20, w ∈ lw_tbl := zin_of [478, 480, 482, 484, 486, 488, 490, 492, 494, 496, 498, 500, 502, 504, 506, 508, 510, 512, 514, 516] (by decide +kernel)
set_option maxRecDepth 100000 in
theorem zinX2 : ∀ w ∈ u_ws RX2 TX2 9, w ∈ lw_tbl := zin_of [376, 378, 380, 382, 384, 386, 388, 390, 392] (by decide +kernel)
set_option maxRecDepth 100000 in
theorem zinX3 : ∀ w ∈ u_ws RX3 TX3 7, w ∈ lw_tbl := zin_of [222, 224, 226, 228, 230, 232, 234] (by decide +kernel)
set_option maxRecDepth 100000 in
theorem zinX4 : ∀ w ∈ u_ws RX4 TX4 8, w ∈ lw_tbl := zin_of [289, 291, 293, 295, 297, 299, 301, 303] (by decide +kernel)
set_option maxRecDepth 100000 in
theorem zinX5 : ∀ w ∈ u_ws RX5 TX5 3, w ∈ lw_tbl := zin_of [319, 321, 323] (by decide +kernel)
set_option maxRecDepth 100000 in
theorem zinX6 : ∀ w ∈ u_ws RX6 TX6 3, w ∈ lw_tbl := zin_of [533, 535, 537] (by decide +kernel)
set_option maxRecDepth 100000 in
theorem zinX7 : ∀ w ∈ u_ws RX7 TX7 12, w ∈ lw_tbl := zin_of [992, 994, 996, 998, 1000, 1002, 1004, 1006, 1008, 1010, 1012, 1014] (by decide +kernel)
set_option maxRecDepth 100000 in
theorem zinX8 : ∀ w ∈ u_ws RX8 TX8 6, w ∈ lw_tbl := zin_of [256, 258, 260, 262, 264, 266] (by decide +kernel)
set_option maxRecDepth 100000 in
theorem zinX9 : ∀ w ∈ u_ws RX9 TX9 11, w ∈ lw_tbl := zin_of [415, 417, 419, 421, 423, 425, 427, 429, 431, 433, 435] (by decide +kernel)
set_option maxRecDepth 100000 in
theorem zinX10 : ∀ w ∈ u_ws RX10 TX10 9, w ∈ lw_tbl := zin_of [549, 551, 553, 555, 557, 559, 561, 563, 565] (by decide +kernel)
set_option maxRecDepth 100000 in
theorem zinX11 : ∀ w ∈ u_ws RX11 TX11 52, w ∈ lw_tbl := zin_of [1292, 1294, 1296, 1298, 1300, 1302, 1304, 1306, 1308, 1310, 1312, 1314, 1316, 1318, 1320, 1322, 1324, 1326, 1328, 1330, 1332, 1334, 1336, 1338, 1340, 1342, 1344, 1346, 1348, 1350, 1352, 1354, 1356, 1358, 1360, 1362, 1364, 1366, 1368, 1370, 1372, 1374, 1376, 1378, 1380, 1382, 1384, 1386, 1388, 1390, 1392, 1394] (by decide +kernel)
abbrev ZY : Type := MethodName × ByteArray × Nat × Option FieldType × Nat
def zYs_0 : List ZY := [(⟨zcn 0, "<init>", "()V"⟩, prog_2_method_1_code, 2, none, 0),
  (⟨zcn 0, "open", "(LTakeOrPay$Page;)V"⟩, prog_2_method_2_code, 5, none, 0),
  (⟨zcn 0, "openKnowing", "(LTakeOrPay$Page;LTakeOrPay$Row;)V"⟩, prog_2_method_3_code, 5, none, 0),
  (⟨zcn 0, "begin", "(LTakeOrPay$Page;)V"⟩, prog_2_method_4_code, 3, none, 0),
  (⟨zcn 0, "setPrice", "(III)V"⟩, prog_2_method_5_code, 4, none, 0),
  (⟨zcn 0, "cell", "(III)I"⟩, prog_2_method_6_code, 3, (some .int), 0),
  (⟨zcn 0, "countedOf", "(I)I"⟩, prog_2_method_7_code, 1, (some .int), 0),
  (⟨zcn 0, "madeOf", "(I)I"⟩, prog_2_method_8_code, 1, (some .int), 0),
  (⟨zcn 0, "creditOf", "(I)I"⟩, prog_2_method_9_code, 1, (some .int), 0),
  (⟨zcn 0, "prepare", "(IIII)V"⟩, prog_2_method_10_code, 5, none, 0),
  (⟨zcn 0, "settle", "(LTakeOrPay$Best;IIII)V"⟩, prog_2_method_11_code, 25, none, 0),
  (⟨zcn 0, "worthMade", "(LTakeOrPay$Move;II)J"⟩, prog_2_method_12_code, 9, (some .long), 0),
  (⟨zcn 0, "choose", "(IIIII)I"⟩, prog_2_method_13_code, 13, (some .int), 0),
  (⟨zcn 1, "<init>", "(LTakeOrPay$Page;LTakeOrPay$Row;)V"⟩, prog_3_method_1_code, 3, none, 1),
  (⟨zcn 1, "forgetPage", "()V"⟩, prog_3_method_2_code, 2, none, 1),
  (⟨zcn 1, "forgetRow", "()V"⟩, prog_3_method_3_code, 1, none, 1),
  (⟨zcn 1, "bestFrom", "(IIII)LTakeOrPay$Best;"⟩, prog_3_method_4_code, 5, (some (.object "TakeOrPay$Best")), 1),
  (⟨zcn 1, "makeTrialRoom", "()V"⟩, prog_3_method_5_code, 1, none, 1),
  (⟨zcn 1, "reckonWhole", "()V"⟩, prog_3_method_6_code, 1, none, 1),
  (⟨zcn 1, "reckonWithout", "(I)V"⟩, prog_3_method_7_code, 2, none, 1)]
def zYs_1 : List ZY := [(⟨zcn 1, "reckonOffers", "()V"⟩, prog_3_method_8_code, 5, none, 1),
  (⟨zcn 1, "tryOffer", "(II)V"⟩, prog_3_method_9_code, 5, none, 1),
  (⟨zcn 1, "reckonCame", "()V"⟩, prog_3_method_10_code, 3, none, 1),
  (⟨zcn 2, "<init>", "()V"⟩, prog_4_method_1_code, 1, none, 2),
  (⟨zcn 2, "stand", "(III)V"⟩, prog_4_method_2_code, 4, none, 2),
  (⟨zcn 2, "take", "(LTakeOrPay$Page;IIIII)V"⟩, prog_4_method_3_code, 13, none, 2),
  (⟨zcn 2, "close", "(LTakeOrPay$Page;I)V"⟩, prog_4_method_4_code, 6, none, 2),
  (⟨zcn 2, "paidFor", "(LTakeOrPay$Page;I)I"⟩, prog_4_method_5_code, 3, (some .int), 2),
  (⟨zcn 2, "gained", "(LTakeOrPay$Page;I)I"⟩, prog_4_method_6_code, 3, (some .int), 2),
  (⟨zcn 3, "<init>", "()V"⟩, prog_5_method_1_code, 1, none, 3),
  (⟨zcn 3, "setAtFirst", "()V"⟩, prog_5_method_2_code, 1, none, 3),
  (⟨zcn 3, "copyTerms", "(LTakeOrPay$Page;)V"⟩, prog_5_method_3_code, 2, none, 3),
  (⟨zcn 3, "copyAll", "(LTakeOrPay$Page;)V"⟩, prog_5_method_4_code, 2, none, 3),
  (⟨zcn 3, "openAllDays", "()V"⟩, prog_5_method_5_code, 2, none, 3),
  (⟨zcn 3, "reckon", "()V"⟩, prog_5_method_6_code, 3, none, 3),
  (⟨zcn 3, "hasDay", "(I)Z"⟩, prog_5_method_7_code, 2, (some .boolean), 3),
  (⟨zcn 3, "hasYear", "(I)Z"⟩, prog_5_method_8_code, 2, (some .boolean), 3),
  (⟨zcn 3, "lastDayOf", "(I)I"⟩, prog_5_method_9_code, 2, (some .int), 3),
  (⟨zcn 3, "isFree", "(I)Z"⟩, prog_5_method_10_code, 2, (some .boolean), 3),
  (⟨zcn 3, "fullTop", "()I"⟩, prog_5_method_11_code, 1, (some .int), 3)]
def zYs_2 : List ZY := [(⟨zcn 3, "lessFree", "(II)I"⟩, prog_5_method_12_code, 4, (some .int), 3),
  (⟨zcn 3, "freeOnes", "(I)I"⟩, prog_5_method_13_code, 4, (some .int), 3),
  (⟨zcn 3, "shutOnes", "(I)I"⟩, prog_5_method_14_code, 4, (some .int), 3),
  (⟨zcn 3, "allShutOnes", "()I"⟩, prog_5_method_15_code, 3, (some .int), 3),
  (⟨zcn 3, "least", "(I)I"⟩, prog_5_method_16_code, 2, (some .int), 3),
  (⟨zcn 3, "most", "(I)I"⟩, prog_5_method_17_code, 2, (some .int), 3),
  (⟨zcn 3, "mayTake", "(II)Z"⟩, prog_5_method_18_code, 3, (some .boolean), 3),
  (⟨zcn 3, "unitPrice", "(II)I"⟩, prog_5_method_19_code, 3, (some .int), 3),
  (⟨zcn 3, "chance", "(II)I"⟩, prog_5_method_20_code, 3, (some .int), 3),
  (⟨zcn 3, "fourthsBehind", "(I)I"⟩, prog_5_method_21_code, 4, (some .int), 3),
  (⟨zcn 3, "stateBehind", "(II)I"⟩, prog_5_method_22_code, 3, (some .int), 3),
  (⟨zcn 3, "leaveOut", "(I)V"⟩, prog_5_method_23_code, 2, none, 3),
  (⟨zcn 4, "<init>", "(LTakeOrPay$Tape;)V"⟩, prog_6_method_1_code, 2, none, 4),
  (⟨zcn 4, "readLines", "()I"⟩, prog_6_method_2_code, 3, (some .int), 4),
  (⟨zcn 4, "fail", "(I)V"⟩, prog_6_method_3_code, 2, none, 4),
  (⟨zcn 4, "takeToken", "()V"⟩, prog_6_method_4_code, 1, none, 4),
  (⟨zcn 4, "markTold", "(I)V"⟩, prog_6_method_5_code, 2, none, 4),
  (⟨zcn 4, "takeLineName", "()V"⟩, prog_6_method_6_code, 1, none, 4),
  (⟨zcn 4, "takeSign", "()V"⟩, prog_6_method_7_code, 1, none, 4),
  (⟨zcn 4, "isName", "(II)Z"⟩, prog_6_method_8_code, 3, (some .boolean), 4)]
def zYs_3 : List ZY := [(⟨zcn 4, "takeHow", "()V"⟩, prog_6_method_9_code, 1, none, 4),
  (⟨zcn 4, "takeWho", "()V"⟩, prog_6_method_10_code, 2, none, 4),
  (⟨zcn 4, "takeNumber", "()V"⟩, prog_6_method_11_code, 4, none, 4),
  (⟨zcn 4, "fitsChances", "()Z"⟩, prog_6_method_12_code, 2, (some .boolean), 4),
  (⟨zcn 4, "takeState", "()V"⟩, prog_6_method_13_code, 2, none, 4),
  (⟨zcn 5, "<init>", "()V"⟩, prog_7_method_1_code, 1, none, 5),
  (⟨zcn 5, "add", "(II)V"⟩, prog_7_method_2_code, 3, none, 5),
  (⟨zcn 6, "<init>", "()V"⟩, prog_8_method_1_code, 1, none, 6),
  (⟨zcn 6, "renew", "(II)V"⟩, prog_8_method_2_code, 4, none, 6),
  (⟨zcn 6, "has", "(I)Z"⟩, prog_8_method_3_code, 2, (some .boolean), 6),
  (⟨zcn 6, "put", "(II)V"⟩, prog_8_method_4_code, 3, none, 6),
  (⟨zcn 6, "faultAs", "(I)I"⟩, prog_8_method_5_code, 2, (some .int), 6),
  (⟨zcn 7, "<init>", "()V"⟩, prog_9_method_1_code, 1, none, 7),
  (⟨zcn 7, "reckon", "(LTakeOrPay$Best;)V"⟩, prog_9_method_2_code, 5, none, 7),
  (⟨zcn 7, "turn", "()V"⟩, prog_9_method_3_code, 3, none, 7),
  (⟨zcn 7, "add", "(IJ)V"⟩, prog_9_method_4_code, 4, none, 7),
  (⟨zcn 7, "follow", "(LTakeOrPay$Best;II)V"⟩, prog_9_method_5_code, 18, none, 7),
  (⟨zcn 8, "<init>", "()V"⟩, prog_10_method_1_code, 1, none, 8),
  (⟨zcn 8, "append", "(J)Z"⟩, prog_10_method_2_code, 4, (some .boolean), 8),
  (⟨zcn 8, "readToken", "()V"⟩, prog_10_method_3_code, 1, none, 8)]
def zYs_4 : List ZY := [(⟨zcn 8, "isLetter", "(I)Z"⟩, prog_10_method_4_code, 2, (some .boolean), 8),
  (⟨zcn 8, "isFigure", "(I)Z"⟩, prog_10_method_5_code, 2, (some .boolean), 8),
  (⟨zcn 8, "readName", "()V"⟩, prog_10_method_6_code, 1, none, 8),
  (⟨zcn 8, "readNumber", "()V"⟩, prog_10_method_7_code, 1, none, 8),
  (⟨zcn 8, "nameNumber", "()I"⟩, prog_10_method_8_code, 7, (some .int), 8),
  (⟨zcn 9, "<init>", "()V"⟩, prog_11_method_1_code, 1, none, 9),
  (⟨zcn 9, "begin", "()V"⟩, prog_11_method_2_code, 1, none, 9),
  (⟨zcn 9, "go", "(LTakeOrPay$Page;II)V"⟩, prog_11_method_3_code, 4, none, 9),
  (⟨zcn 9, "keepPlace", "()V"⟩, prog_11_method_4_code, 1, none, 9),
  (⟨zcn 10, "<init>", "()V"⟩, prog_1_method_1_code, 2, none, 10),
  (⟨zcn 10, "feed", "(J)I"⟩, prog_1_method_2_code, 3, (some .int), 10),
  (⟨zcn 10, "end", "(I)I"⟩, prog_1_method_3_code, 3, (some .int), 10),
  (⟨zcn 10, "page", "()I"⟩, prog_1_method_4_code, 2, (some .int), 10),
  (⟨zcn 10, "fault", "()I"⟩, prog_1_method_5_code, 1, (some .int), 10),
  (⟨zcn 10, "told", "(I)I"⟩, prog_1_method_6_code, 5, (some .int), 10),
  (⟨zcn 10, "shut", "(II)I"⟩, prog_1_method_7_code, 4, (some .int), 10),
  (⟨zcn 10, "year", "(II)I"⟩, prog_1_method_8_code, 3, (some .int), 10),
  (⟨zcn 10, "whose", "(II)I"⟩, prog_1_method_9_code, 5, (some .int), 10),
  (⟨zcn 10, "takes", "(IIIIIII)I"⟩, prog_1_method_10_code, 9, (some .int), 10),
  (⟨zcn 10, "ends", "(IIII)I"⟩, prog_1_method_11_code, 6, (some .int), 10)]
def zYs_5 : List ZY := [(⟨zcn 10, "best", "(IIIII)I"⟩, prog_1_method_12_code, 6, (some .int), 10),
  (⟨zcn 10, "worth", "(IIIIII)J"⟩, prog_1_method_13_code, 8, (some .long), 10),
  (⟨zcn 10, "worthOf", "(IIIIIII)J"⟩, prog_1_method_14_code, 10, (some .long), 10),
  (⟨zcn 10, "whole", "(II)J"⟩, prog_1_method_15_code, 3, (some .long), 10),
  (⟨zcn 10, "units", "(I)J"⟩, prog_1_method_16_code, 2, (some .long), 10),
  (⟨zcn 10, "without", "(III)J"⟩, prog_1_method_17_code, 4, (some .long), 10),
  (⟨zcn 10, "jumps", "(IIIII)I"⟩, prog_1_method_18_code, 6, (some .int), 10),
  (⟨zcn 10, "offers", "(I)J"⟩, prog_1_method_19_code, 2, (some .long), 10),
  (⟨zcn 10, "day", "(II)I"⟩, prog_1_method_20_code, 3, (some .int), 10),
  (⟨zcn 10, "back", "()I"⟩, prog_1_method_21_code, 1, (some .int), 10),
  (⟨zcn 10, "row", "(I)I"⟩, prog_1_method_22_code, 2, (some .int), 10),
  (⟨zcn 10, "rowOf", "(II)I"⟩, prog_1_method_23_code, 3, (some .int), 10),
  (⟨zcn 10, "knew", "(I)I"⟩, prog_1_method_24_code, 3, (some .int), 10),
  (⟨zcn 10, "came", "(I)I"⟩, prog_1_method_25_code, 3, (some .int), 10),
  (⟨zcn 10, "draw", "(I)I"⟩, prog_1_method_26_code, 10, (some .int), 10),
  (⟨zcn 10, "sheet", "(III)I"⟩, prog_1_method_27_code, 4, (some .int), 10),
  (⟨zcn 10, "lay", "(III)I"⟩, prog_1_method_28_code, 4, (some .int), 10),
  (⟨zcn 10, "read", "(IIII)I"⟩, prog_1_method_29_code, 11, (some .int), 10),
  (⟨zcn 10, "torn", "()I"⟩, prog_1_method_30_code, 1, (some .int), 10),
  (⟨zcn 10, "count", "(I)I"⟩, prog_1_method_31_code, 2, (some .int), 10)]
def zYs_6 : List ZY := [(⟨zcn 10, "isState", "(I)Z"⟩, prog_1_method_32_code, 1, (some .boolean), 10),
  (⟨zcn 10, "isCounted", "(I)Z"⟩, prog_1_method_33_code, 1, (some .boolean), 10),
  (⟨zcn 10, "isCredit", "(I)Z"⟩, prog_1_method_34_code, 1, (some .boolean), 10),
  (⟨zcn 10, "isPart", "(I)Z"⟩, prog_1_method_35_code, 1, (some .boolean), 10),
  (⟨zcn 10, "isSheet", "(I)Z"⟩, prog_1_method_36_code, 1, (some .boolean), 10),
  (⟨zcn 10, "isLane", "(I)Z"⟩, prog_1_method_37_code, 1, (some .boolean), 10),
  (⟨zcn 10, "isToldDay", "(II)Z"⟩, prog_1_method_38_code, 2, (some .boolean), 10),
  (⟨zcn 10, "isPlace", "(IIIII)Z"⟩, prog_1_method_39_code, 7, (some .boolean), 10),
  (⟨zcn 10, "fraction", "(JII)J"⟩, prog_1_method_40_code, 7, (some .long), 10),
  (⟨zcn 10, "betweens", "(IIII)I"⟩, prog_1_method_41_code, 8, (some .int), 10),
  (⟨zcn 10, "firstJump", "(IIII)I"⟩, prog_1_method_42_code, 7, (some .int), 10),
  (⟨zcn 10, "walkRow", "(I)V"⟩, prog_1_method_43_code, 3, none, 10),
  (⟨zcn 10, "walkByBest", "()V"⟩, prog_1_method_44_code, 7, none, 10),
  (⟨zcn 10, "addRead", "(III)I"⟩, prog_1_method_45_code, 4, (some .int), 10),
  (⟨zcn 11, "<init>", "()V"⟩, prog_13_method_1_code, 1, none, 11),
  (⟨zcn 11, "in", "(JJJ)Z"⟩, prog_13_method_3_code, 6, (some .boolean), 11),
  (⟨zcn 11, "feed", "(J)I"⟩, prog_13_method_4_code, 4, (some .int), 11),
  (⟨zcn 11, "end", "(I)I"⟩, prog_13_method_5_code, 3, (some .int), 11),
  (⟨zcn 11, "byteAt", "(I)I"⟩, prog_13_method_6_code, 2, (some .int), 11),
  (⟨zcn 11, "fails", "(I)V"⟩, prog_13_method_7_code, 2, none, 11)]
def zYs_7 : List ZY := [(⟨zcn 11, "nameAt", "(II)I"⟩, prog_13_method_8_code, 6, (some .int), 11),
  (⟨zcn 11, "next", "()V"⟩, prog_13_method_9_code, 2, none, 11),
  (⟨zcn 11, "number", "(II)I"⟩, prog_13_method_10_code, 3, (some .int), 11),
  (⟨zcn 11, "mustName", "(II)V"⟩, prog_13_method_11_code, 3, none, 11),
  (⟨zcn 11, "readDay", "()V"⟩, prog_13_method_12_code, 1, none, 11),
  (⟨zcn 11, "readFree", "()V"⟩, prog_13_method_13_code, 2, none, 11),
  (⟨zcn 11, "readPrice", "()V"⟩, prog_13_method_14_code, 2, none, 11),
  (⟨zcn 11, "readChance", "()V"⟩, prog_13_method_15_code, 5, none, 11),
  (⟨zcn 11, "readLine", "()V"⟩, prog_13_method_16_code, 2, none, 11),
  (⟨zcn 11, "page", "()I"⟩, prog_13_method_17_code, 3, (some .int), 11),
  (⟨zcn 11, "fault", "()I"⟩, prog_13_method_18_code, 1, (some .int), 11),
  (⟨zcn 11, "told", "(I)I"⟩, prog_13_method_19_code, 2, (some .int), 11),
  (⟨zcn 11, "days", "()I"⟩, prog_13_method_20_code, 1, (some .int), 11),
  (⟨zcn 11, "isDay", "(I)Z"⟩, prog_13_method_21_code, 2, (some .boolean), 11),
  (⟨zcn 11, "shut", "(II)I"⟩, prog_13_method_22_code, 4, (some .int), 11),
  (⟨zcn 11, "freeOf", "(I)I"⟩, prog_13_method_23_code, 5, (some .int), 11),
  (⟨zcn 11, "lessFree", "(II)I"⟩, prog_13_method_24_code, 3, (some .int), 11),
  (⟨zcn 11, "wholeTop", "()I"⟩, prog_13_method_25_code, 2, (some .int), 11),
  (⟨zcn 11, "quantityOf", "(I)I"⟩, prog_13_method_26_code, 2, (some .int), 11),
  (⟨zcn 11, "topOf", "(I)I"⟩, prog_13_method_27_code, 2, (some .int), 11)]
def zYs_8 : List ZY := [(⟨zcn 11, "isYear", "(I)Z"⟩, prog_13_method_28_code, 2, (some .boolean), 11),
  (⟨zcn 11, "year", "(II)I"⟩, prog_13_method_29_code, 3, (some .int), 11),
  (⟨zcn 11, "whose", "(II)I"⟩, prog_13_method_30_code, 5, (some .int), 11),
  (⟨zcn 11, "mayBe", "(II)Z"⟩, prog_13_method_31_code, 3, (some .boolean), 11),
  (⟨zcn 11, "less", "(II)I"⟩, prog_13_method_32_code, 2, (some .int), 11),
  (⟨zcn 11, "due", "(II)I"⟩, prog_13_method_33_code, 4, (some .int), 11),
  (⟨zcn 11, "price", "(I)I"⟩, prog_13_method_34_code, 2, (some .int), 11),
  (⟨zcn 11, "take", "(IIIIII)V"⟩, prog_13_method_35_code, 13, none, 11),
  (⟨zcn 11, "gainOf", "(II)I"⟩, prog_13_method_36_code, 3, (some .int), 11),
  (⟨zcn 11, "isPlace", "(IIIII)Z"⟩, prog_13_method_37_code, 6, (some .boolean), 11),
  (⟨zcn 11, "takes", "(IIIIIII)I"⟩, prog_13_method_38_code, 8, (some .int), 11),
  (⟨zcn 11, "endYear", "(III)V"⟩, prog_13_method_39_code, 6, none, 11),
  (⟨zcn 11, "shortPaid", "()I"⟩, prog_13_method_40_code, 1, (some .int), 11),
  (⟨zcn 11, "madeNext", "()I"⟩, prog_13_method_41_code, 1, (some .int), 11),
  (⟨zcn 11, "ends", "(IIII)I"⟩, prog_13_method_42_code, 5, (some .int), 11),
  (⟨zcn 11, "at", "(IIIII)I"⟩, prog_13_method_43_code, 5, (some .int), 11),
  (⟨zcn 11, "power", "(I)J"⟩, prog_13_method_44_code, 1, (some .long), 11),
  (⟨zcn 11, "isLast", "(I)Z"⟩, prog_13_method_45_code, 2, (some .boolean), 11),
  (⟨zcn 11, "lead", "(II)V"⟩, prog_13_method_46_code, 4, none, 11),
  (⟨zcn 11, "worthBy", "(IIIIII)J"⟩, prog_13_method_47_code, 15, (some .long), 11)]
def zYs_9 : List ZY := [(⟨zcn 11, "unitOf", "(I)J"⟩, prog_13_method_48_code, 2, (some .long), 11),
  (⟨zcn 11, "layPlace", "(IIIII)V"⟩, prog_13_method_49_code, 12, none, 11),
  (⟨zcn 11, "layAll", "()V"⟩, prog_13_method_50_code, 3, none, 11),
  (⟨zcn 11, "best", "(IIIII)I"⟩, prog_13_method_51_code, 6, (some .int), 11),
  (⟨zcn 11, "lowest", "(JJI)J"⟩, prog_13_method_52_code, 11, (some .long), 11),
  (⟨zcn 11, "worth", "(IIIIII)J"⟩, prog_13_method_53_code, 7, (some .long), 11),
  (⟨zcn 11, "worthOf", "(IIIIIII)J"⟩, prog_13_method_54_code, 8, (some .long), 11),
  (⟨zcn 11, "oneForward", "(I)V"⟩, prog_13_method_55_code, 5, none, 11),
  (⟨zcn 11, "goForward", "(IIIII)V"⟩, prog_13_method_56_code, 12, none, 11),
  (⟨zcn 11, "layExpected", "()V"⟩, prog_13_method_57_code, 2, none, 11),
  (⟨zcn 11, "wholeOf", "(I)J"⟩, prog_13_method_58_code, 2, (some .long), 11),
  (⟨zcn 11, "whole", "(II)J"⟩, prog_13_method_59_code, 3, (some .long), 11),
  (⟨zcn 11, "units", "(I)J"⟩, prog_13_method_60_code, 2, (some .long), 11),
  (⟨zcn 11, "keep", "()V"⟩, prog_13_method_61_code, 2, none, 11),
  (⟨zcn 11, "goBack", "()V"⟩, prog_13_method_62_code, 2, none, 11),
  (⟨zcn 11, "strike", "(I)V"⟩, prog_13_method_63_code, 2, none, 11),
  (⟨zcn 11, "without", "(III)J"⟩, prog_13_method_64_code, 8, (some .long), 11),
  (⟨zcn 11, "jumps", "(IIIII)I"⟩, prog_13_method_65_code, 11, (some .int), 11),
  (⟨zcn 11, "offers", "(I)J"⟩, prog_13_method_66_code, 16, (some .long), 11),
  (⟨zcn 11, "day", "(II)I"⟩, prog_13_method_67_code, 3, (some .int), 11)]
def zYs_10 : List ZY := [(⟨zcn 11, "back", "()I"⟩, prog_13_method_68_code, 1, (some .int), 11),
  (⟨zcn 11, "begin", "()V"⟩, prog_13_method_69_code, 1, none, 11),
  (⟨zcn 11, "goBy", "(III)V"⟩, prog_13_method_70_code, 4, none, 11),
  (⟨zcn 11, "layRow", "()V"⟩, prog_13_method_71_code, 2, none, 11),
  (⟨zcn 11, "firstWrong", "()I"⟩, prog_13_method_72_code, 2, (some .int), 11),
  (⟨zcn 11, "row", "(I)I"⟩, prog_13_method_73_code, 2, (some .int), 11),
  (⟨zcn 11, "rowOf", "(II)I"⟩, prog_13_method_74_code, 3, (some .int), 11),
  (⟨zcn 11, "known", "(I)I"⟩, prog_13_method_75_code, 2, (some .int), 11),
  (⟨zcn 11, "bestNow", "(I)I"⟩, prog_13_method_76_code, 2, (some .int), 11),
  (⟨zcn 11, "knew", "(I)I"⟩, prog_13_method_77_code, 4, (some .int), 11),
  (⟨zcn 11, "cameBy", "(IIIII)I"⟩, prog_13_method_79_code, 7, (some .int), 11),
  (⟨zcn 11, "layCame", "()V"⟩, prog_13_method_80_code, 7, none, 11),
  (⟨zcn 11, "came", "(I)I"⟩, prog_13_method_81_code, 7, (some .int), 11),
  (⟨zcn 11, "draw", "(I)I"⟩, prog_13_method_82_code, 7, (some .int), 11),
  (⟨zcn 11, "sheet", "(III)I"⟩, prog_13_method_83_code, 5, (some .int), 11),
  (⟨zcn 11, "lay", "(III)I"⟩, prog_13_method_84_code, 4, (some .int), 11),
  (⟨zcn 11, "read", "(IIII)I"⟩, prog_13_method_85_code, 9, (some .int), 11),
  (⟨zcn 11, "torn", "()I"⟩, prog_13_method_86_code, 1, (some .int), 11),
  (⟨zcn 11, "count", "(I)I"⟩, prog_13_method_87_code, 4, (some .int), 11),
  (⟨zcn 12, "law", "([I)Z"⟩, code, 4, (some .boolean), 12)]
def zYs : List ZY := zYs_0 ++ zYs_1 ++ zYs_2 ++ zYs_3 ++ zYs_4 ++ zYs_5 ++ zYs_6 ++ zYs_7 ++ zYs_8 ++ zYs_9 ++ zYs_10
def zY (y : Nat) : ZY := zYs.getD y (⟨"", "", ""⟩, code, 0, none, 99)
/-- of each method but the law: kind (0 static, 1 virtual, 2 a constructor), the places of its words: code, static or instance, selects, initialized; its parameters -/
def zMP : List (Nat × Nat × Nat × Nat × Nat × Nat) := [(2, 845, 844, 0, 146, 0), (1, 897, 896, 44, 146, 1), (1, 1167, 1166, 72, 146, 2), (1, 901, 900, 45, 146, 1), (1, 913, 912, 48, 146, 3), (0, 924, 923, 0, 146, 3), (0, 1037, 1036, 0, 146, 1), (0, 1040, 1039, 0, 146, 1), (0, 1044, 1043, 0, 146, 1), (1, 918, 917, 49, 146, 4), (0, 921, 920, 0, 146, 5), (1, 932, 931, 50, 146, 3), (1, 937, 936, 51, 146, 5), (2, 444, 443, 0, 139, 2), (1, 722, 721, 27, 139, 0), (1, 726, 725, 28, 139, 0), (1, 840, 839, 43, 139, 4), (1, 966, 965, 53, 139, 0), (1, 962, 961, 52, 139, 0), (1, 1063, 1062, 58, 139, 1), (1, 1096, 1095, 63, 139, 0), (1, 1100, 1099, 64, 139, 2), (1, 1163, 1162, 71, 139, 0), (2, 336, 335, 0, 138, 0), (1, 806, 805, 37, 138, 3), (1, 798, 797, 36, 138, 6), (1, 832, 831, 42, 138, 2), (1, 810, 809, 38, 138, 2), (1, 818, 817, 40, 138, 2), (2, 160, 159, 0, 131, 0), (1, 165, 164, 0, 131, 0), (1, 717, 716, 26, 131, 1), (1, 1068, 1067, 59, 131, 1), (1, 174, 173, 1, 131, 0), (1, 178, 177, 2, 131, 0), (1, 742, 741, 29, 131, 1), (1, 754, 753, 30, 131, 1), (1, 828, 827, 41, 131, 1), (1, 186, 185, 4, 131, 1), (1, 194, 193, 6, 131, 0), (1, 190, 189, 5, 131, 2), (1, 182, 181, 3, 131, 1), (1, 764, 763, 31, 131, 1), (1, 1230, 1229, 79, 131, 0), (1, 789, 788, 34, 131, 1), (1, 793, 792, 35, 131, 1), (1, 785, 784, 33, 131, 2), (1, 814, 813, 39, 131, 2), (1, 909, 908, 47, 131, 2), (1, 905, 904, 46, 131, 1), (1, 1180, 1179, 73, 131, 2), (1, 1073, 1072, 60, 131, 1), (2, 274, 273, 0, 135, 1), (1, 587, 586, 8, 135, 0), (1, 669, 668, 16, 135, 1), (1, 665, 664, 15, 135, 0), (1, 679, 678, 18, 135, 1), (1, 673, 672, 17, 135, 0), (1, 685, 684, 19, 135, 0), (1, 693, 692, 21, 135, 2), (1, 689, 688, 20, 135, 0), (1, 697, 696, 22, 135, 0), (1, 701, 700, 23, 135, 0), (1, 709, 708, 24, 135, 0), (1, 713, 712, 25, 135, 0), (2, 310, 309, 0, 136, 0), (1, 1112, 1111, 65, 136, 2), (2, 525, 524, 0, 140, 0), (1, 1194, 1193, 74, 140, 2), (1, 1202, 1201, 75, 140, 1), (1, 1206, 1205, 76, 140, 2), (1, 1214, 1213, 77, 140, 1), (2, 971, 970, 0, 147, 0), (1, 1021, 1020, 54, 147, 1), (1, 1030, 1029, 56, 147, 0), (1, 1026, 1025, 55, 147, 2), (1, 1034, 1033, 57, 147, 3), (2, 243, 242, 0, 134, 0), (1, 575, 574, 7, 134, 1), (1, 592, 591, 9, 134, 0), (1, 596, 595, 10, 134, 1), (1, 657, 656, 13, 134, 1), (1, 600, 599, 11, 134, 0), (1, 661, 660, 14, 134, 0), (1, 604, 603, 12, 134, 0), (2, 330, 329, 0, 137, 0), (1, 1129, 1128, 67, 137, 0), (1, 1133, 1132, 68, 137, 3), (1, 1142, 1141, 69, 137, 0), (2, 152, 151, 0, 130, 0), (1, 571, 569, 570, 130, 1), (1, 579, 577, 578, 130, 1), (1, 583, 581, 582, 130, 0), (1, 730, 728, 729, 130, 0), (1, 734, 732, 733, 130, 1), (1, 738, 736, 737, 130, 2), (1, 750, 748, 749, 130, 2), (1, 759, 757, 758, 130, 2), (1, 770, 768, 769, 130, 7), (1, 823, 821, 822, 130, 4), (1, 836, 834, 835, 130, 5), (1, 941, 939, 940, 130, 6), (1, 952, 950, 951, 130, 7), (1, 958, 956, 957, 130, 2), (1, 1054, 1052, 1053, 130, 1), (1, 1059, 1057, 1058, 130, 3), (1, 1079, 1077, 1078, 130, 5), (1, 1092, 1090, 1091, 130, 1), (1, 1105, 1103, 1104, 130, 2), (1, 1117, 1115, 1116, 130, 0), (1, 1121, 1119, 1120, 130, 1), (1, 1147, 1145, 1146, 130, 2), (1, 1151, 1149, 1150, 130, 1), (1, 1159, 1157, 1158, 130, 1), (1, 1175, 1173, 1174, 130, 1), (1, 1184, 1182, 1183, 130, 3), (1, 1198, 1196, 1197, 130, 3), (1, 1210, 1208, 1209, 130, 4), (1, 1222, 1220, 1221, 130, 0), (1, 1226, 1224, 1225, 130, 1), (0, 745, 744, 0, 130, 1), (0, 777, 776, 0, 130, 1), (0, 780, 779, 0, 130, 1), (0, 944, 943, 0, 130, 1), (0, 1187, 1186, 0, 130, 1), (0, 1190, 1189, 0, 130, 1), (0, 1108, 1107, 0, 130, 2), (1, 774, 773, 32, 130, 5), (0, 948, 947, 0, 130, 3), (1, 1083, 1082, 61, 130, 4), (1, 1088, 1087, 62, 130, 4), (1, 1125, 1124, 66, 130, 1), (1, 1155, 1154, 70, 130, 0), (1, 1218, 1217, 78, 130, 3), (2, 1236, 1235, 0, 141, 0), (0, 1407, 1406, 0, 141, 3), (1, 1400, 1398, 1399, 141, 1), (1, 1404, 1402, 1403, 141, 1), (1, 1419, 1418, 81, 141, 1), (1, 1429, 1428, 83, 141, 1), (1, 1425, 1424, 82, 141, 2), (1, 1415, 1414, 80, 141, 0), (1, 1443, 1442, 86, 141, 2), (1, 1447, 1446, 87, 141, 2), (1, 1439, 1438, 85, 141, 0), (1, 1451, 1450, 88, 141, 0), (1, 1455, 1454, 89, 141, 0), (1, 1459, 1458, 90, 141, 0), (1, 1435, 1434, 84, 141, 0), (1, 1411, 1409, 1410, 141, 0), (1, 1463, 1461, 1462, 141, 0), (1, 1467, 1465, 1466, 141, 1), (1, 1484, 1483, 92, 141, 0), (1, 1480, 1479, 91, 141, 1), (1, 1476, 1474, 1475, 141, 2), (1, 1501, 1500, 95, 141, 1), (1, 1505, 1504, 96, 141, 2), (1, 1513, 1512, 98, 141, 0), (1, 1497, 1496, 94, 141, 1), (1, 1509, 1508, 97, 141, 1), (1, 1493, 1492, 93, 141, 1), (1, 1489, 1487, 1488, 141, 2), (1, 1517, 1515, 1516, 141, 2), (1, 1534, 1533, 100, 141, 2), (0, 1546, 1545, 0, 141, 2), (1, 1543, 1542, 102, 141, 2), (1, 1550, 1549, 103, 141, 1), (1, 1539, 1538, 101, 141, 6), (1, 1554, 1553, 104, 141, 2), (1, 1525, 1524, 99, 141, 5), (1, 1521, 1519, 1520, 141, 7), (1, 1562, 1561, 105, 141, 3), (1, 1566, 1565, 106, 141, 0), (1, 1570, 1569, 107, 141, 0), (1, 1558, 1556, 1557, 141, 4), (0, 1600, 1599, 0, 141, 5), (0, 1589, 1588, 0, 141, 1), (1, 1597, 1596, 112, 141, 1), (1, 1593, 1592, 111, 141, 2), (1, 1586, 1585, 110, 141, 6), (1, 1609, 1608, 113, 141, 1), (1, 1582, 1581, 109, 141, 5), (1, 1578, 1577, 108, 141, 0), (1, 1574, 1572, 1573, 141, 5), (0, 1612, 1611, 0, 141, 3), (1, 1604, 1602, 1603, 141, 6), (1, 1616, 1614, 1615, 141, 7), (1, 1633, 1632, 116, 141, 1), (1, 1637, 1636, 117, 141, 5), (1, 1629, 1628, 115, 141, 0), (1, 1625, 1624, 114, 141, 1), (1, 1621, 1619, 1620, 141, 2), (1, 1642, 1640, 1641, 141, 1), (1, 1653, 1652, 118, 141, 0), (1, 1661, 1660, 120, 141, 0), (1, 1657, 1656, 119, 141, 1), (1, 1648, 1646, 1647, 141, 3), (1, 1665, 1663, 1664, 141, 5), (1, 1669, 1667, 1668, 141, 1), (1, 1674, 1672, 1673, 141, 2), (1, 1679, 1677, 1678, 141, 0), (1, 1691, 1690, 122, 141, 0), (1, 1695, 1694, 123, 141, 3), (1, 1687, 1686, 121, 141, 0), (1, 1699, 1698, 124, 141, 0), (1, 1683, 1681, 1682, 141, 1), (1, 1703, 1701, 1702, 141, 2), (1, 1715, 1714, 126, 141, 1), (1, 1711, 1710, 125, 141, 1), (1, 1707, 1705, 1706, 141, 1), (1, 1727, 1726, 128, 141, 5), (1, 1723, 1722, 127, 141, 0), (1, 1719, 1717, 1718, 141, 1), (1, 1731, 1729, 1730, 141, 1), (1, 1736, 1734, 1735, 141, 3), (1, 1740, 1738, 1739, 141, 3), (1, 1744, 1742, 1743, 141, 4), (1, 1748, 1746, 1747, 141, 0), (1, 1752, 1750, 1751, 141, 1)]
def zFL : List (Nat × Nat × Nat × Nat × Nat × Nat) := [(0, 12, 0, 0, 0, 851), (0, 16, 0, 1, 0, 852), (0, 22, 0, 2, 0, 853), (0, 26, 0, 3, 0, 854), (0, 29, 0, 4, 0, 855), (0, 32, 0, 5, 0, 857), (0, 40, 3, 0, 1, 199), (0, 49, 3, 6, 1, 217), (0, 57, 5, 0, 1, 313), (0, 62, 0, 6, 0, 860), (0, 66, 0, 10, 0, 864), (0, 69, 0, 7, 0, 861), (0, 72, 0, 9, 0, 863), (0, 84, 0, 8, 0, 862), (0, 109, 2, 3, 1, 351), (0, 112, 2, 4, 1, 357), (0, 115, 2, 5, 1, 363), (0, 125, 2, 2, 1, 345), (0, 128, 2, 7, 1, 370), (0, 131, 2, 8, 1, 375), (0, 134, 2, 0, 1, 339), (0, 137, 0, 11, 0, 868), (1, 12, 1, 2, 0, 452), (1, 21, 1, 3, 0, 453), (1, 25, 1, 11, 0, 461), (1, 29, 1, 12, 0, 462), (1, 33, 1, 13, 0, 464), (1, 36, 1, 0, 0, 450), (1, 39, 1, 1, 0, 451), (1, 43, 1, 7, 0, 457), (1, 47, 1, 8, 0, 458), (1, 50, 1, 9, 0, 459), (1, 56, 1, 10, 0, 460), (1, 59, 1, 4, 0, 454), (1, 74, 1, 5, 0, 455), (1, 77, 1, 6, 0, 456), (1, 95, 7, 7, 1, 983), (1, 99, 7, 8, 1, 985), (1, 102, 7, 9, 1, 987), (1, 105, 7, 10, 1, 989), (1, 108, 7, 11, 1, 991), (1, 121, 1, 14, 0, 466), (1, 125, 3, 0, 1, 204), (1, 135, 1, 17, 0, 472), (1, 138, 1, 15, 0, 468), (1, 141, 1, 16, 0, 470), (1, 152, 0, 11, 1, 866), (1, 155, 3, 6, 1, 220), (1, 158, 1, 18, 0, 474), (1, 161, 1, 19, 0, 476), (1, 168, 2, 3, 1, 350), (1, 171, 2, 4, 1, 356), (1, 174, 2, 5, 1, 361), (2, 9, 2, 3, 0, 346), (2, 15, 2, 4, 0, 352), (2, 18, 2, 5, 0, 358), (2, 21, 3, 4, 1, 214), (2, 27, 3, 0, 1, 201), (2, 30, 3, 3, 1, 211), (2, 42, 2, 0, 0, 338), (2, 45, 2, 1, 0, 340), (2, 48, 2, 2, 0, 343), (2, 51, 3, 2, 1, 208), (2, 54, 2, 7, 0, 368), (2, 57, 2, 6, 0, 365), (2, 60, 2, 8, 0, 371), (2, 67, 3, 5, 1, 216), (3, 9, 3, 0, 0, 198), (3, 15, 3, 1, 0, 205), (3, 18, 3, 2, 0, 207), (3, 21, 3, 3, 0, 210), (3, 24, 3, 4, 0, 213), (3, 27, 3, 5, 0, 215), (3, 53, 3, 6, 0, 219), (4, 12, 4, 1, 0, 279), (4, 18, 4, 0, 0, 278), (4, 25, 4, 2, 0, 281), (4, 29, 4, 3, 0, 282), (4, 32, 4, 5, 0, 286), (4, 35, 8, 2, 1, 248), (4, 43, 8, 3, 1, 250), (4, 53, 8, 5, 1, 254), (4, 56, 4, 4, 0, 284), (4, 62, 4, 6, 0, 287), (4, 81, 8, 4, 1, 253), (4, 87, 4, 7, 0, 288), (4, 93, 3, 0, 1, 203), (5, 9, 5, 0, 0, 312), (5, 15, 5, 1, 0, 315), (5, 18, 5, 2, 0, 317), (6, 11, 6, 0, 0, 527), (6, 15, 6, 1, 0, 529), (6, 19, 6, 2, 0, 531), (7, 11, 7, 0, 0, 975), (7, 17, 7, 1, 0, 976), (7, 20, 7, 2, 0, 977), (7, 24, 7, 3, 0, 978), (7, 30, 7, 6, 0, 981), (7, 34, 0, 6, 1, 859), (7, 42, 7, 8, 0, 984), (7, 46, 7, 9, 0, 986), (7, 49, 7, 10, 0, 988), (7, 52, 7, 11, 0, 990), (7, 55, 3, 0, 1, 200), (7, 64, 3, 6, 1, 218), (7, 71, 7, 4, 0, 979), (7, 82, 0, 11, 1, 865), (7, 85, 7, 7, 0, 982), (7, 88, 7, 5, 0, 980), (7, 109, 2, 7, 1, 369), (7, 112, 2, 8, 1, 373), (7, 115, 2, 2, 1, 344), (7, 118, 0, 4, 1, 856), (7, 121, 0, 5, 1, 858), (7, 126, 2, 6, 1, 366), (7, 128, 2, 1, 1, 342), (7, 130, 2, 3, 1, 348), (7, 133, 2, 4, 1, 354), (7, 136, 2, 5, 1, 360), (8, 11, 8, 0, 0, 245), (8, 15, 8, 1, 0, 246), (8, 19, 8, 2, 0, 249), (8, 22, 8, 5, 0, 255), (8, 25, 8, 4, 0, 252), (8, 28, 8, 3, 0, 251), (9, 12, 9, 0, 0, 395), (9, 18, 9, 1, 0, 396), (9, 22, 9, 2, 0, 397), (9, 25, 9, 3, 0, 399), (9, 28, 9, 4, 0, 401), (9, 31, 9, 5, 0, 403), (9, 34, 9, 6, 0, 405), (9, 37, 9, 7, 0, 407), (9, 40, 9, 8, 0, 409), (9, 61, 9, 9, 0, 411), (9, 64, 2, 1, 1, 341), (9, 67, 9, 10, 0, 413), (9, 80, 2, 6, 1, 364), (9, 81, 2, 8, 1, 372), (9, 84, 2, 3, 1, 347), (9, 85, 2, 4, 1, 353), (9, 86, 2, 5, 1, 359), (10, 10, 10, 0, 0, 540), (10, 19, 10, 1, 0, 541), (10, 28, 10, 2, 0, 542), (10, 35, 10, 3, 0, 543), (10, 42, 10, 4, 0, 544), (10, 49, 10, 5, 0, 545), (10, 58, 10, 6, 0, 546), (10, 64, 10, 7, 0, 547), (10, 73, 8, 1, 1, 247), (10, 81, 4, 3, 1, 283), (10, 84, 4, 4, 1, 285), (10, 87, 4, 1, 1, 280), (10, 97, 5, 2, 1, 318), (10, 103, 3, 0, 1, 202), (10, 114, 3, 1, 1, 206), (10, 127, 3, 2, 1, 209), (10, 130, 3, 3, 1, 212), (10, 160, 2, 3, 1, 349), (10, 163, 2, 4, 1, 355), (10, 190, 2, 6, 1, 367), (10, 193, 2, 8, 1, 374), (10, 196, 2, 5, 1, 362), (10, 214, 0, 11, 1, 867), (10, 218, 3, 6, 1, 221), (10, 234, 1, 12, 1, 463), (10, 244, 1, 13, 1, 465), (10, 257, 1, 14, 1, 467), (10, 260, 1, 15, 1, 469), (10, 263, 1, 16, 1, 471), (10, 266, 1, 17, 1, 473), (10, 282, 9, 2, 1, 398), (10, 285, 9, 3, 1, 400), (10, 286, 9, 4, 1, 402), (10, 287, 9, 5, 1, 404), (10, 288, 9, 6, 1, 406), (10, 291, 9, 7, 1, 408), (10, 294, 9, 8, 1, 410), (10, 295, 5, 0, 1, 314), (10, 298, 5, 1, 1, 316), (10, 301, 9, 9, 1, 412), (10, 304, 9, 10, 1, 414), (10, 313, 1, 18, 1, 475), (10, 316, 1, 19, 1, 477), (10, 339, 6, 1, 1, 530), (10, 351, 6, 0, 1, 528), (10, 358, 10, 8, 0, 548), (10, 364, 6, 2, 1, 532), (11, 7, 11, 0, 0, 1240), (11, 13, 11, 9, 0, 1249), (11, 16, 11, 10, 0, 1250), (11, 19, 11, 11, 0, 1251), (11, 22, 11, 12, 0, 1252), (11, 25, 11, 13, 0, 1253), (11, 28, 11, 14, 0, 1254), (11, 31, 11, 15, 0, 1255), (11, 34, 11, 16, 0, 1256), (11, 37, 11, 20, 0, 1260), (11, 41, 11, 27, 0, 1267), (11, 45, 11, 28, 0, 1268), (11, 48, 11, 32, 0, 1272), (11, 51, 11, 33, 0, 1273), (11, 54, 11, 34, 0, 1274), (11, 57, 11, 35, 0, 1275), (11, 60, 11, 37, 0, 1277), (11, 63, 11, 38, 0, 1278), (11, 66, 11, 39, 0, 1279), (11, 69, 11, 40, 0, 1280), (11, 73, 11, 47, 0, 1287), (11, 76, 11, 48, 0, 1288), (11, 79, 11, 49, 0, 1289), (11, 82, 11, 50, 0, 1290), (11, 85, 11, 1, 0, 1241), (11, 93, 11, 3, 0, 1243), (11, 96, 11, 6, 0, 1246), (11, 99, 11, 4, 0, 1244), (11, 106, 11, 5, 0, 1245), (11, 109, 11, 8, 0, 1248), (11, 112, 11, 7, 0, 1247), (11, 141, 11, 18, 0, 1258), (11, 144, 11, 19, 0, 1259), (11, 147, 11, 17, 0, 1257), (11, 165, 11, 2, 0, 1242), (11, 168, 11, 36, 0, 1276), (11, 171, 11, 29, 0, 1269), (11, 219, 11, 24, 0, 1264), (11, 222, 11, 21, 0, 1261), (11, 225, 11, 22, 0, 1262), (11, 231, 11, 23, 0, 1263), (11, 259, 11, 25, 0, 1265), (11, 262, 11, 26, 0, 1266), (11, 275, 11, 31, 0, 1271), (11, 285, 11, 30, 0, 1270), (11, 350, 11, 41, 0, 1281), (11, 353, 11, 42, 0, 1282), (11, 356, 11, 43, 0, 1283), (11, 359, 11, 44, 0, 1284), (11, 362, 11, 45, 0, 1285), (11, 365, 11, 46, 0, 1286), (11, 393, 11, 51, 0, 1291)]
def zML : List (Nat × Nat × Nat × Nat × Nat) := [(0, 35, 23, 1, 850), (0, 36, 3, 0, 898), (0, 45, 49, 1, 902), (0, 53, 4, 0, 910), (0, 75, 47, 1, 914), (0, 87, 10, 0, 919), (0, 91, 5, 0, 922), (0, 95, 44, 1, 925), (0, 98, 45, 1, 926), (0, 101, 25, 1, 927), (0, 105, 26, 1, 928), (0, 118, 11, 0, 929), (0, 122, 48, 1, 933), (1, 11, 29, 1, 447), (1, 20, 23, 1, 449), (1, 53, 15, 0, 723), (1, 65, 0, 1, 843), (1, 66, 1, 1, 894), (1, 70, 9, 1, 915), (1, 83, 72, 1, 969), (1, 84, 17, 0, 963), (1, 87, 16, 0, 1017), (1, 91, 73, 1, 1018), (1, 111, 18, 0, 1064), (1, 114, 32, 1, 1065), (1, 117, 51, 1, 1070), (1, 129, 21, 0, 1097), (1, 133, 34, 1, 1101), (1, 144, 2, 1, 1164), (1, 148, 12, 1, 1168), (1, 164, 24, 1, 1169), (1, 177, 25, 1, 1170), (1, 181, 26, 1, 1171), (2, 63, 24, 0, 803), (2, 71, 47, 1, 811), (2, 74, 27, 0, 819), (3, 31, 30, 0, 162), (3, 34, 33, 0, 171), (3, 46, 31, 0, 1069), (3, 50, 34, 0, 175), (3, 57, 41, 0, 179), (3, 61, 40, 0, 187), (3, 65, 39, 0, 191), (3, 74, 38, 0, 183), (3, 78, 42, 0, 1231), (3, 81, 44, 0, 786), (3, 84, 45, 0, 790), (3, 87, 48, 0, 906), (4, 11, 29, 1, 277), (4, 22, 30, 1, 588), (4, 40, 79, 1, 589), (4, 46, 55, 0, 662), (4, 49, 54, 0, 666), (4, 59, 57, 0, 670), (4, 69, 58, 0, 682), (4, 72, 60, 0, 686), (4, 75, 61, 0, 694), (4, 78, 62, 0, 698), (4, 90, 56, 0, 676), (4, 96, 59, 0, 690), (4, 106, 63, 0, 706), (4, 110, 64, 0, 710), (7, 29, 23, 1, 974), (7, 38, 9, 1, 1022), (7, 60, 75, 0, 1023), (7, 68, 74, 0, 1027), (7, 74, 76, 0, 1031), (7, 78, 12, 1, 1045), (7, 91, 6, 1, 1035), (7, 95, 7, 1, 1038), (7, 98, 8, 1, 1042), (7, 101, 25, 1, 1046), (7, 105, 26, 1, 1047), (7, 139, 5, 1, 1049), (7, 143, 48, 1, 1050), (8, 31, 80, 0, 593), (8, 35, 82, 0, 597), (8, 38, 81, 0, 654), (8, 41, 83, 0, 658), (8, 44, 84, 0, 601), (9, 11, 23, 1, 334), (9, 43, 35, 1, 1134), (9, 49, 46, 1, 1135), (9, 53, 25, 1, 1136), (9, 57, 27, 1, 1137), (9, 70, 28, 1, 1138), (9, 73, 88, 0, 1139), (9, 76, 26, 1, 1143), (10, 9, 29, 1, 158), (10, 18, 77, 1, 241), (10, 25, 52, 1, 272), (10, 34, 65, 1, 308), (10, 41, 85, 1, 328), (10, 48, 23, 1, 439), (10, 55, 13, 1, 442), (10, 68, 67, 1, 523), (10, 69, 78, 1, 572), (10, 77, 53, 1, 584), (10, 90, 31, 1, 714), (10, 94, 33, 1, 718), (10, 100, 14, 1, 719), (10, 107, 35, 1, 739), (10, 111, 120, 0, 743), (10, 117, 34, 1, 746), (10, 120, 36, 1, 751), (10, 123, 41, 1, 755), (10, 133, 38, 1, 760), (10, 136, 42, 1, 761), (10, 139, 39, 1, 765), (10, 142, 40, 1, 766), (10, 146, 127, 0, 771), (10, 151, 46, 1, 782), (10, 156, 25, 1, 795), (10, 166, 27, 1, 807), (10, 170, 28, 1, 815), (10, 173, 121, 0, 775), (10, 176, 122, 0, 778), (10, 179, 24, 1, 824), (10, 183, 37, 1, 825), (10, 186, 26, 1, 829), (10, 199, 16, 1, 837), (10, 203, 12, 1, 934), (10, 209, 123, 0, 942), (10, 221, 128, 0, 946), (10, 227, 11, 1, 954), (10, 231, 18, 1, 959), (10, 240, 19, 1, 1060), (10, 247, 129, 0, 1080), (10, 251, 130, 0, 1085), (10, 254, 20, 1, 1093), (10, 269, 126, 0, 1106), (10, 272, 66, 1, 1109), (10, 276, 15, 1, 1113), (10, 279, 131, 0, 1122), (10, 307, 132, 0, 1152), (10, 310, 22, 1, 1160), (10, 319, 86, 1, 1126), (10, 323, 50, 1, 1177), (10, 326, 87, 1, 1130), (10, 330, 124, 0, 1185), (10, 333, 125, 0, 1188), (10, 336, 68, 1, 1191), (10, 342, 69, 1, 1199), (10, 345, 70, 1, 1203), (10, 348, 71, 1, 1211), (10, 354, 133, 0, 1215), (10, 361, 43, 1, 1227), (10, 365, 100, 0, 1084), (11, 89, 135, 0, 1405), (11, 102, 138, 0, 1416), (11, 119, 140, 0, 1422), (11, 123, 139, 0, 1426), (11, 131, 142, 0, 1440), (11, 134, 141, 0, 1412), (11, 137, 143, 0, 1444), (11, 150, 144, 0, 1436), (11, 153, 145, 0, 1448), (11, 156, 146, 0, 1452), (11, 159, 147, 0, 1456), (11, 162, 148, 0, 1432), (11, 185, 152, 0, 1481), (11, 189, 153, 0, 1477), (11, 195, 155, 0, 1498), (11, 198, 156, 0, 1502), (11, 201, 157, 0, 1510), (11, 204, 160, 0, 1490), (11, 207, 158, 0, 1494), (11, 210, 159, 0, 1506), (11, 213, 165, 0, 1540), (11, 216, 164, 0, 1544), (11, 228, 166, 0, 1547), (11, 238, 169, 0, 1522), (11, 247, 163, 0, 1531), (11, 252, 167, 0, 1536), (11, 256, 168, 0, 1551), (11, 265, 171, 0, 1559), (11, 269, 172, 0, 1563), (11, 272, 173, 0, 1567), (11, 278, 177, 0, 1594), (11, 281, 175, 0, 1598), (11, 288, 176, 0, 1587), (11, 292, 178, 0, 1590), (11, 295, 179, 0, 1583), (11, 299, 181, 0, 1579), (11, 303, 182, 0, 1575), (11, 308, 180, 0, 1606), (11, 311, 184, 0, 1610), (11, 317, 188, 0, 1634), (11, 322, 187, 0, 1630), (11, 325, 189, 0, 1626), (11, 328, 190, 0, 1622), (11, 337, 193, 0, 1650), (11, 340, 195, 0, 1654), (11, 343, 194, 0, 1658), (11, 368, 201, 0, 1688), (11, 371, 202, 0, 1692), (11, 374, 203, 0, 1684), (11, 377, 204, 0, 1696), (11, 380, 207, 0, 1712), (11, 383, 208, 0, 1708), (11, 386, 210, 0, 1724), (11, 389, 211, 0, 1720), (12, 9, 89, 0, 150), (12, 12, 134, 0, 1234), (12, 15, 90, 0, 568), (12, 19, 136, 0, 1397), (12, 20, 91, 0, 576), (12, 24, 137, 0, 1401), (12, 25, 92, 0, 580), (12, 29, 149, 0, 1408), (12, 30, 93, 0, 727), (12, 33, 150, 0, 1460), (12, 34, 94, 0, 731), (12, 37, 151, 0, 1464), (12, 38, 95, 0, 735), (12, 42, 154, 0, 1473), (12, 43, 96, 0, 747), (12, 46, 161, 0, 1486), (12, 47, 97, 0, 756), (12, 50, 162, 0, 1514), (12, 51, 98, 0, 767), (12, 55, 170, 0, 1518), (12, 56, 99, 0, 820), (12, 60, 174, 0, 1555), (12, 61, 100, 0, 833), (12, 65, 183, 0, 1571), (12, 66, 101, 0, 938), (12, 70, 185, 0, 1601), (12, 71, 102, 0, 949), (12, 75, 186, 0, 1613), (12, 76, 103, 0, 955), (12, 80, 191, 0, 1618), (12, 81, 104, 0, 1051), (12, 85, 192, 0, 1639), (12, 86, 105, 0, 1056), (12, 90, 196, 0, 1645), (12, 91, 106, 0, 1076), (12, 94, 197, 0, 1662), (12, 95, 107, 0, 1089), (12, 98, 198, 0, 1666), (12, 99, 108, 0, 1102), (12, 102, 199, 0, 1671), (12, 103, 109, 0, 1114), (12, 106, 200, 0, 1676), (12, 107, 110, 0, 1118), (12, 110, 205, 0, 1680), (12, 111, 111, 0, 1144), (12, 114, 206, 0, 1700), (12, 115, 112, 0, 1148), (12, 118, 209, 0, 1704), (12, 119, 113, 0, 1156), (12, 122, 212, 0, 1716), (12, 123, 114, 0, 1172), (12, 126, 213, 0, 1728), (12, 127, 115, 0, 1181), (12, 131, 214, 0, 1733), (12, 132, 116, 0, 1195), (12, 135, 215, 0, 1737), (12, 136, 117, 0, 1207), (12, 139, 216, 0, 1741), (12, 140, 118, 0, 1219), (12, 143, 217, 0, 1745), (12, 144, 119, 0, 1223), (12, 147, 218, 0, 1749)]
def zJL : List (Nat × Nat × Nat × Nat) := [(0, 5, 3, 846), (0, 79, 0, 1041), (1, 3, 3, 445), (2, 3, 3, 337), (2, 33, 0, 799), (2, 39, 1, 802), (3, 3, 3, 161), (3, 40, 2, 168), (3, 69, 1, 195), (4, 3, 3, 275), (5, 3, 3, 311), (6, 3, 3, 526), (7, 3, 3, 972), (8, 3, 3, 244), (8, 50, 4, 606), (8, 54, 5, 616), (9, 3, 3, 331), (10, 1, 3, 153), (11, 1, 3, 1237)]
def zCL : List (Nat × Nat × Nat × Nat) := [(0, 20, 2, 848), (1, 9, 3, 446), (1, 18, 2, 448), (1, 63, 0, 841), (1, 81, 7, 967), (4, 9, 3, 276), (7, 27, 2, 973), (9, 9, 2, 332), (10, 7, 3, 156), (10, 16, 8, 239), (10, 23, 4, 270), (10, 32, 5, 306), (10, 39, 9, 326), (10, 46, 2, 438), (10, 53, 1, 440), (10, 62, 6, 520), (12, 7, 10, 148), (12, 10, 11, 1232)]
def zKC : List (Nat × Nat × Int × Nat) := [(0, 11, 41580, 847), (10, 150, -1000000, 781), (10, 155, -1000002, 794), (10, 322, 1103515245, 1176), (11, 40, 154791, 1238), (11, 72, 51597, 1239), (11, 246, -1000000, 1530), (11, 251, -1000002, 1535), (11, 392, 1103515245, 1732)]
def zKL : List (Nat × Nat × Int × Nat) := [(7, 124, 4, 1048), (10, 212, -9000000000000000001, 945), (10, 225, -9000000000000000002, 953), (10, 238, -1, 1055), (11, 115, 97, 1420), (11, 117, 122, 1421), (11, 127, 48, 1430), (11, 129, 57, 1431), (11, 175, 15, 1468), (11, 177, 20, 1469), (11, 179, 22, 1470), (11, 181, 30, 1471), (11, 183, 38, 1472), (11, 193, 2, 1485), (11, 234, 12, 1526), (11, 236, 8, 1527), (11, 242, 4, 1528), (11, 244, 3, 1529), (11, 306, -9000000000000000001, 1605), (11, 315, -9000000000000000002, 1617), (11, 320, 100, 1638), (11, 331, 5, 1643), (11, 333, -1, 1644), (11, 335, 7, 1649), (11, 346, 60, 1670), (11, 348, 9, 1675), (12, 13, 4294967295, 1753)]
def zGS : List (Nat × Nat × Nat × Nat) := [(3, 37, 1, 166), (3, 90, 2, 1074), (4, 65, 4, 680), (4, 84, 3, 674), (4, 100, 6, 702), (4, 103, 5, 704)]
def zSN : List (String × String) := [("",""), ("TakeOrPay$Page", "AT_FIRST"), ("TakeOrPay$Page", "LEFT_OUT"), ("TakeOrPay$Reader", "TERM"), ("TakeOrPay$Reader", "SLOTS"), ("TakeOrPay$Reader", "LOW"), ("TakeOrPay$Reader", "HIGH")]
def zSR : List (Nat × Nat × Nat) := [(8, 48, 605)]
def zIP : List Nat := [146, 139, 138, 131, 135, 136, 140, 147, 134, 137, 130, 141]
def zNP : List Nat := [842, 441, 333, 157, 271, 307, 522, 968, 240, 327, 149, 1233]
