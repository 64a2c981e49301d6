-- the landed class: its classes, fields, methods (names and codes as the claim prints them), by wip/gen/gen_names.py
def RX0 : String := "CoinSampler$Estimate"
def TX0 : u_T := fun k => match k with
  | 0 => ("CoinSampler$Estimate", "ranked", "[I", true)
  | 1 => ("CoinSampler$Estimate", "rankedTaint", "[I", true)
  | 2 => ("CoinSampler$Estimate", "ranks", "I", false)
  | 3 => ("CoinSampler$Estimate", "runs", "I", false)
  | 4 => ("CoinSampler$Estimate", "hits", "I", false)
  | 5 => ("CoinSampler$Estimate", "n", "I", false)
  | 6 => ("CoinSampler$Estimate", "risk", "I", false)
  | 7 => ("CoinSampler$Estimate", "ledger", "LCoinSampler$Ledger;", true)
  | 8 => ("CoinSampler$Estimate", "layout", "LCoinSampler$Layout;", true)
  | 9 => ("CoinSampler$Estimate", "walk", "LCoinSampler$Walk;", true)
  | 10 => ("CoinSampler$Estimate", "terms", "LCoinSampler$Terms;", true)
  | _ => ("CoinSampler$Estimate", "factors", "LCoinSampler$Factors;", true)
def tyX0 : Nat → FieldType := fun k => match k with
  | 0 => .array .int
  | 1 => .array .int
  | 2 => .int
  | 3 => .int
  | 4 => .int
  | 5 => .int
  | 6 => .int
  | 7 => .object "CoinSampler$Ledger"
  | 8 => .object "CoinSampler$Layout"
  | 9 => .object "CoinSampler$Walk"
  | 10 => .object "CoinSampler$Terms"
  | _ => .object "CoinSampler$Factors"
theorem nmX0 : ∀ a, a < 12 → ∀ b, b < 12 → a ≠ b → (TX0 a).2.1 ≠ (TX0 b).2.1 := by decide +kernel
theorem tyX0_ok : ∀ k, k < 12 → parseFieldDescriptor (TX0 k).2.2.1 = some (tyX0 k) := by decide +kernel
def RX1 : String := "CoinSampler$Factors"
def TX1 : u_T := fun k => match k with
  | 0 => ("CoinSampler$Factors", "kept", "[I", true)
  | 1 => ("CoinSampler$Factors", "keptN", "I", false)
  | _ => ("CoinSampler$Factors", "keptRisk", "I", false)
def tyX1 : Nat → FieldType := fun k => match k with
  | 0 => .array .int
  | 1 => .int
  | _ => .int
theorem nmX1 : ∀ a, a < 3 → ∀ b, b < 3 → a ≠ b → (TX1 a).2.1 ≠ (TX1 b).2.1 := by decide +kernel
theorem tyX1_ok : ∀ k, k < 3 → parseFieldDescriptor (TX1 k).2.2.1 = some (tyX1 k) := by decide +kernel
def RX2 : String := "CoinSampler$Layout"
def TX2 : u_T := fun k => match k with
  | 0 => ("CoinSampler$Layout", "interval", "I", false)
  | 1 => ("CoinSampler$Layout", "coins", "I", false)
  | 2 => ("CoinSampler$Layout", "certainItems", "I", false)
  | 3 => ("CoinSampler$Layout", "ledger", "LCoinSampler$Ledger;", true)
  | 4 => ("CoinSampler$Layout", "first", "[I", true)
  | _ => ("CoinSampler$Layout", "last", "[I", true)
def tyX2 : Nat → FieldType := fun k => match k with
  | 0 => .int
  | 1 => .int
  | 2 => .int
  | 3 => .object "CoinSampler$Ledger"
  | 4 => .array .int
  | _ => .array .int
theorem nmX2 : ∀ a, a < 6 → ∀ b, b < 6 → a ≠ b → (TX2 a).2.1 ≠ (TX2 b).2.1 := by decide +kernel
theorem tyX2_ok : ∀ k, k < 6 → parseFieldDescriptor (TX2 k).2.2.1 = some (tyX2 k) := by decide +kernel
def RX3 : String := "CoinSampler$Ledger"
def TX3 : u_T := fun k => match k with
  | 0 => ("CoinSampler$Ledger", "account", "[I", true)
  | 1 => ("CoinSampler$Ledger", "voucher", "[I", true)
  | 2 => ("CoinSampler$Ledger", "book", "[I", true)
  | 3 => ("CoinSampler$Ledger", "audited", "[I", true)
  | _ => ("CoinSampler$Ledger", "items", "I", false)
def tyX3 : Nat → FieldType := fun k => match k with
  | 0 => .array .int
  | 1 => .array .int
  | 2 => .array .int
  | 3 => .array .int
  | _ => .int
theorem nmX3 : ∀ a, a < 5 → ∀ b, b < 5 → a ≠ b → (TX3 a).2.1 ≠ (TX3 b).2.1 := by decide +kernel
theorem tyX3_ok : ∀ k, k < 5 → parseFieldDescriptor (TX3 k).2.2.1 = some (tyX3 k) := by decide +kernel
def RX4 : String := "CoinSampler$Line"
def TX4 : u_T := fun k => match k with
  | 0 => ("CoinSampler$Line", "signs", "[C", true)
  | _ => ("CoinSampler$Line", "length", "I", false)
def tyX4 : Nat → FieldType := fun k => match k with
  | 0 => .array .char
  | _ => .int
theorem nmX4 : ∀ a, a < 2 → ∀ b, b < 2 → a ≠ b → (TX4 a).2.1 ≠ (TX4 b).2.1 := by decide +kernel
theorem tyX4_ok : ∀ k, k < 2 → parseFieldDescriptor (TX4 k).2.2.1 = some (tyX4 k) := by decide +kernel
def RX5 : String := "CoinSampler$Reader"
def TX5 : u_T := fun k => match k with
  | 0 => ("CoinSampler$Reader", "told", "LCoinSampler$Ledger;", true)
  | 1 => ("CoinSampler$Reader", "fault", "I", false)
  | 2 => ("CoinSampler$Reader", "place", "I", false)
  | 3 => ("CoinSampler$Reader", "tape", "LCoinSampler$Tape;", true)
  | 4 => ("CoinSampler$Reader", "end", "I", false)
  | _ => ("CoinSampler$Reader", "at", "I", false)
def tyX5 : Nat → FieldType := fun k => match k with
  | 0 => .object "CoinSampler$Ledger"
  | 1 => .int
  | 2 => .int
  | 3 => .object "CoinSampler$Tape"
  | 4 => .int
  | _ => .int
theorem nmX5 : ∀ a, a < 6 → ∀ b, b < 6 → a ≠ b → (TX5 a).2.1 ≠ (TX5 b).2.1 := by decide +kernel
theorem tyX5_ok : ∀ k, k < 6 → parseFieldDescriptor (TX5 k).2.2.1 = some (tyX5 k) := by decide +kernel
def RX6 : String := "CoinSampler$Starts"
def TX6 : u_T := fun k => match k with
  | 0 => ("CoinSampler$Starts", "ledger", "LCoinSampler$Ledger;", true)
  | 1 => ("CoinSampler$Starts", "layout", "LCoinSampler$Layout;", true)
  | 2 => ("CoinSampler$Starts", "marked", "[Z", true)
  | 3 => ("CoinSampler$Starts", "cuts", "[I", true)
  | _ => ("CoinSampler$Starts", "cutCount", "I", false)
def tyX6 : Nat → FieldType := fun k => match k with
  | 0 => .object "CoinSampler$Ledger"
  | 1 => .object "CoinSampler$Layout"
  | 2 => .array .boolean
  | 3 => .array .int
  | _ => .int
theorem nmX6 : ∀ a, a < 5 → ∀ b, b < 5 → a ≠ b → (TX6 a).2.1 ≠ (TX6 b).2.1 := by decide +kernel
theorem tyX6_ok : ∀ k, k < 5 → parseFieldDescriptor (TX6 k).2.2.1 = some (tyX6 k) := by decide +kernel
def RX7 : String := "CoinSampler$Tape"
def TX7 : u_T := fun k => match k with
  | 0 => ("CoinSampler$Tape", "bytes", "[B", true)
  | _ => ("CoinSampler$Tape", "length", "I", false)
def tyX7 : Nat → FieldType := fun k => match k with
  | 0 => .array .byte
  | _ => .int
theorem nmX7 : ∀ a, a < 2 → ∀ b, b < 2 → a ≠ b → (TX7 a).2.1 ≠ (TX7 b).2.1 := by decide +kernel
theorem tyX7_ok : ∀ k, k < 2 → parseFieldDescriptor (TX7 k).2.2.1 = some (tyX7 k) := by decide +kernel
def RX8 : String := "CoinSampler$Terms"
def TX8 : u_T := fun k => match k with
  | _ => ("CoinSampler$Terms", "value", "[I", true)
def tyX8 : Nat → FieldType := fun k => match k with
  | _ => .array .int
theorem nmX8 : ∀ a, a < 1 → ∀ b, b < 1 → a ≠ b → (TX8 a).2.1 ≠ (TX8 b).2.1 := by decide +kernel
theorem tyX8_ok : ∀ k, k < 1 → parseFieldDescriptor (TX8 k).2.2.1 = some (tyX8 k) := by decide +kernel
def RX9 : String := "CoinSampler$Walk"
def TX9 : u_T := fun k => match k with
  | 0 => ("CoinSampler$Walk", "s", "I", false)
  | 1 => ("CoinSampler$Walk", "runs", "I", false)
  | 2 => ("CoinSampler$Walk", "starts", "[I", true)
  | 3 => ("CoinSampler$Walk", "hitItem", "[I", true)
  | 4 => ("CoinSampler$Walk", "hitCoin", "[I", true)
  | 5 => ("CoinSampler$Walk", "hitRun", "[I", true)
  | 6 => ("CoinSampler$Walk", "hitsBehind", "[I", true)
  | _ => ("CoinSampler$Walk", "layout", "LCoinSampler$Layout;", true)
def tyX9 : Nat → FieldType := fun k => match k with
  | 0 => .int
  | 1 => .int
  | 2 => .array .int
  | 3 => .array .int
  | 4 => .array .int
  | 5 => .array .int
  | 6 => .array .int
  | _ => .object "CoinSampler$Layout"
theorem nmX9 : ∀ a, a < 8 → ∀ b, b < 8 → a ≠ b → (TX9 a).2.1 ≠ (TX9 b).2.1 := by decide +kernel
theorem tyX9_ok : ∀ k, k < 8 → parseFieldDescriptor (TX9 k).2.2.1 = some (tyX9 k) := by decide +kernel
def RX10 : String := "CoinSampler"
def TX10 : u_T := fun k => match k with
  | 0 => ("CoinSampler", "tape", "LCoinSampler$Tape;", true)
  | 1 => ("CoinSampler", "ledger", "LCoinSampler$Ledger;", true)
  | 2 => ("CoinSampler", "reader", "LCoinSampler$Reader;", true)
  | 3 => ("CoinSampler", "terms", "LCoinSampler$Terms;", true)
  | 4 => ("CoinSampler", "layout", "LCoinSampler$Layout;", true)
  | 5 => ("CoinSampler", "supposed", "LCoinSampler$Layout;", true)
  | 6 => ("CoinSampler", "walk", "LCoinSampler$Walk;", true)
  | 7 => ("CoinSampler", "factors", "LCoinSampler$Factors;", true)
  | 8 => ("CoinSampler", "estimate", "LCoinSampler$Estimate;", true)
  | 9 => ("CoinSampler", "starts", "LCoinSampler$Starts;", true)
  | _ => ("CoinSampler", "lineText", "LCoinSampler$Line;", true)
def tyX10 : Nat → FieldType := fun k => match k with
  | 0 => .object "CoinSampler$Tape"
  | 1 => .object "CoinSampler$Ledger"
  | 2 => .object "CoinSampler$Reader"
  | 3 => .object "CoinSampler$Terms"
  | 4 => .object "CoinSampler$Layout"
  | 5 => .object "CoinSampler$Layout"
  | 6 => .object "CoinSampler$Walk"
  | 7 => .object "CoinSampler$Factors"
  | 8 => .object "CoinSampler$Estimate"
  | 9 => .object "CoinSampler$Starts"
  | _ => .object "CoinSampler$Line"
theorem nmX10 : ∀ a, a < 11 → ∀ b, b < 11 → a ≠ b → (TX10 a).2.1 ≠ (TX10 b).2.1 := by decide +kernel
theorem tyX10_ok : ∀ k, k < 11 → parseFieldDescriptor (TX10 k).2.2.1 = some (tyX10 k) := by decide +kernel
def RX11 : String := "CoinSamplerLaw$Books"
def TX11 : u_T := fun k => match k with
  | 0 => ("CoinSamplerLaw$Books", "items", "Ljava/util/ArrayList;", false)
  | 1 => ("CoinSamplerLaw$Books", "starts", "Ljava/util/ArrayList;", false)
  | 2 => ("CoinSamplerLaw$Books", "terms", "[I", false)
  | 3 => ("CoinSamplerLaw$Books", "interval", "I", false)
  | 4 => ("CoinSamplerLaw$Books", "s", "I", false)
  | 5 => ("CoinSamplerLaw$Books", "owner", "[I", false)
  | _ => ("CoinSamplerLaw$Books", "signed", "J", false)
def tyX11 : Nat → FieldType := fun k => match k with
  | 0 => .object "java/util/ArrayList"
  | 1 => .object "java/util/ArrayList"
  | 2 => .array .int
  | 3 => .int
  | 4 => .int
  | 5 => .array .int
  | _ => .long
theorem nmX11 : ∀ a, a < 7 → ∀ b, b < 7 → a ≠ b → (TX11 a).2.1 ≠ (TX11 b).2.1 := by decide +kernel
theorem tyX11_ok : ∀ k, k < 7 → parseFieldDescriptor (TX11 k).2.2.1 = some (tyX11 k) := by decide +kernel
def RX12 : String := "CoinSamplerLaw$Hit"
def TX12 : u_T := fun k => match k with
  | 0 => ("CoinSamplerLaw$Hit", "item", "I", true)
  | 1 => ("CoinSamplerLaw$Hit", "coin", "I", true)
  | _ => ("CoinSamplerLaw$Hit", "run", "I", true)
def tyX12 : Nat → FieldType := fun k => match k with
  | 0 => .int
  | 1 => .int
  | _ => .int
theorem nmX12 : ∀ a, a < 3 → ∀ b, b < 3 → a ≠ b → (TX12 a).2.1 ≠ (TX12 b).2.1 := by decide +kernel
theorem tyX12_ok : ∀ k, k < 3 → parseFieldDescriptor (TX12 k).2.2.1 = some (tyX12 k) := by decide +kernel
def RX13 : String := "CoinSamplerLaw$Item"
def TX13 : u_T := fun k => match k with
  | 0 => ("CoinSamplerLaw$Item", "account", "I", false)
  | 1 => ("CoinSamplerLaw$Item", "voucher", "I", false)
  | 2 => ("CoinSamplerLaw$Item", "book", "I", false)
  | _ => ("CoinSamplerLaw$Item", "audited", "I", false)
def tyX13 : Nat → FieldType := fun k => match k with
  | 0 => .int
  | 1 => .int
  | 2 => .int
  | _ => .int
theorem nmX13 : ∀ a, a < 4 → ∀ b, b < 4 → a ≠ b → (TX13 a).2.1 ≠ (TX13 b).2.1 := by decide +kernel
theorem tyX13_ok : ∀ k, k < 4 → parseFieldDescriptor (TX13 k).2.2.1 = some (tyX13 k) := by decide +kernel
def RJx4a65c : String := "java/util/ArrayList"
def TJx4a65c : u_T := fun k => match k with
  | 0 => ("java/util/AbstractList", "modCount", "I", false)
  | 1 => ("java/util/ArrayList", "elementData", "[Ljava/lang/Object;", false)
  | _ => ("java/util/ArrayList", "size", "I", false)
def tyJx4a65c : Nat → FieldType := fun k => match k with
  | 0 => .int
  | 1 => .array (.object "java/lang/Object")
  | _ => .int
theorem nmJx4a65c : ∀ a, a < 3 → ∀ b, b < 3 → a ≠ b → (TJx4a65c a).2.1 ≠ (TJx4a65c b).2.1 := by decide +kernel
theorem tyJx4a65c_ok : ∀ k, k < 3 → parseFieldDescriptor (TJx4a65c k).2.2.1 = some (tyJx4a65c k) := by decide +kernel
def RJx35411 : String := "java/util/ArrayList$Itr"
def TJx35411 : u_T := fun k => match k with
  | 0 => ("java/util/ArrayList$Itr", "cursor", "I", false)
  | 1 => ("java/util/ArrayList$Itr", "lastRet", "I", false)
  | 2 => ("java/util/ArrayList$Itr", "expectedModCount", "I", false)
  | _ => ("java/util/ArrayList$Itr", "this$0", "Ljava/util/ArrayList;", true)
def tyJx35411 : Nat → FieldType := fun k => match k with
  | 0 => .int
  | 1 => .int
  | 2 => .int
  | _ => .object "java/util/ArrayList"
theorem nmJx35411 : ∀ a, a < 4 → ∀ b, b < 4 → a ≠ b → (TJx35411 a).2.1 ≠ (TJx35411 b).2.1 := by decide +kernel
theorem tyJx35411_ok : ∀ k, k < 4 → parseFieldDescriptor (TJx35411 k).2.2.1 = some (tyJx35411 k) := by decide +kernel
def RJ6 : String := "java/lang/Integer"
def TJ6 : u_T := fun k => match k with
  | _ => ("java/lang/Integer", "value", "I", true)
def tyJ6 : Nat → FieldType := fun k => match k with
  | _ => .int
theorem nmJ6 : ∀ a, a < 1 → ∀ b, b < 1 → a ≠ b → (TJ6 a).2.1 ≠ (TJ6 b).2.1 := by decide +kernel
theorem tyJ6_ok : ∀ k, k < 1 → parseFieldDescriptor (TJ6 k).2.2.1 = some (tyJ6 k) := by decide +kernel
def RJ4 : String := "java/lang/StringBuilder"
def TJ4 : u_T := fun k => match k with
  | 0 => ("java/lang/AbstractStringBuilder", "value", "[B", false)
  | 1 => ("java/lang/AbstractStringBuilder", "coder", "B", false)
  | 2 => ("java/lang/AbstractStringBuilder", "maybeLatin1", "Z", false)
  | _ => ("java/lang/AbstractStringBuilder", "count", "I", false)
def tyJ4 : Nat → FieldType := fun k => match k with
  | 0 => .array .byte
  | 1 => .byte
  | 2 => .boolean
  | _ => .int
theorem nmJ4 : ∀ a, a < 4 → ∀ b, b < 4 → a ≠ b → (TJ4 a).2.1 ≠ (TJ4 b).2.1 := by decide +kernel
theorem tyJ4_ok : ∀ k, k < 4 → parseFieldDescriptor (TJ4 k).2.2.1 = some (tyJ4 k) := by decide +kernel
def RJ0 : String := "java/lang/String"
def TJ0 : u_T := fun k => match k with
  | 0 => ("java/lang/String", "value", "[B", true)
  | 1 => ("java/lang/String", "coder", "B", true)
  | 2 => ("java/lang/String", "hash", "I", false)
  | _ => ("java/lang/String", "hashIsZero", "Z", false)
def tyJ0 : Nat → FieldType := fun k => match k with
  | 0 => .array .byte
  | 1 => .byte
  | 2 => .int
  | _ => .boolean
theorem nmJ0 : ∀ a, a < 4 → ∀ b, b < 4 → a ≠ b → (TJ0 a).2.1 ≠ (TJ0 b).2.1 := by decide +kernel
theorem tyJ0_ok : ∀ k, k < 4 → parseFieldDescriptor (TJ0 k).2.2.1 = some (tyJ0 k) := by decide +kernel
def RX29 : String := "java/util/LinkedHashSet"
def TX29 : u_T := fun k => match k with
  | _ => ("java/util/HashSet", "map", "Ljava/util/HashMap;", false)
def tyX29 : Nat → FieldType := fun k => match k with
  | _ => .object "java/util/HashMap"
theorem nmX29 : ∀ a, a < 1 → ∀ b, b < 1 → a ≠ b → (TX29 a).2.1 ≠ (TX29 b).2.1 := by decide +kernel
theorem tyX29_ok : ∀ k, k < 1 → parseFieldDescriptor (TX29 k).2.2.1 = some (tyX29 k) := by decide +kernel
def RX28 : String := "java/util/LinkedHashMap"
def TX28 : u_T := fun k => match k with
  | 0 => ("java/util/HashMap", "table", "[Ljava/util/HashMap$Node;", false)
  | 1 => ("java/util/HashMap", "entrySet", "Ljava/util/Set;", false)
  | 2 => ("java/util/HashMap", "size", "I", false)
  | 3 => ("java/util/HashMap", "modCount", "I", false)
  | 4 => ("java/util/HashMap", "threshold", "I", false)
  | 5 => ("java/util/HashMap", "loadFactor", "F", true)
  | 6 => ("java/util/AbstractMap", "keySet", "Ljava/util/Set;", false)
  | 7 => ("java/util/AbstractMap", "values", "Ljava/util/Collection;", false)
  | 8 => ("java/util/LinkedHashMap", "head", "Ljava/util/LinkedHashMap$Entry;", false)
  | 9 => ("java/util/LinkedHashMap", "tail", "Ljava/util/LinkedHashMap$Entry;", false)
  | 10 => ("java/util/LinkedHashMap", "accessOrder", "Z", true)
  | _ => ("java/util/LinkedHashMap", "putMode", "I", false)
def tyX28 : Nat → FieldType := fun k => match k with
  | 0 => .array (.object "java/util/HashMap$Node")
  | 1 => .object "java/util/Set"
  | 2 => .int
  | 3 => .int
  | 4 => .int
  | 5 => .float
  | 6 => .object "java/util/Set"
  | 7 => .object "java/util/Collection"
  | 8 => .object "java/util/LinkedHashMap$Entry"
  | 9 => .object "java/util/LinkedHashMap$Entry"
  | 10 => .boolean
  | _ => .int
theorem nmX28 : ∀ a, a < 12 → ∀ b, b < 12 → a ≠ b → (TX28 a).2.1 ≠ (TX28 b).2.1 := by decide +kernel
theorem tyX28_ok : ∀ k, k < 12 → parseFieldDescriptor (TX28 k).2.2.1 = some (tyX28 k) := by decide +kernel
def RX24 : String := "java/util/LinkedHashMap$Entry"
def TX24 : u_T := fun k => match k with
  | 0 => ("java/util/HashMap$Node", "hash", "I", true)
  | 1 => ("java/util/HashMap$Node", "key", "Ljava/lang/Object;", true)
  | 2 => ("java/util/HashMap$Node", "value", "Ljava/lang/Object;", false)
  | 3 => ("java/util/HashMap$Node", "next", "Ljava/util/HashMap$Node;", false)
  | 4 => ("java/util/LinkedHashMap$Entry", "before", "Ljava/util/LinkedHashMap$Entry;", false)
  | _ => ("java/util/LinkedHashMap$Entry", "after", "Ljava/util/LinkedHashMap$Entry;", false)
def tyX24 : Nat → FieldType := fun k => match k with
  | 0 => .int
  | 1 => .object "java/lang/Object"
  | 2 => .object "java/lang/Object"
  | 3 => .object "java/util/HashMap$Node"
  | 4 => .object "java/util/LinkedHashMap$Entry"
  | _ => .object "java/util/LinkedHashMap$Entry"
theorem nmX24 : ∀ a, a < 6 → ∀ b, b < 6 → a ≠ b → (TX24 a).2.1 ≠ (TX24 b).2.1 := by decide +kernel
theorem tyX24_ok : ∀ k, k < 6 → parseFieldDescriptor (TX24 k).2.2.1 = some (tyX24 k) := by decide +kernel
def RX27 : String := "java/util/LinkedHashMap$LinkedKeySet"
def TX27 : u_T := fun k => match k with
  | 0 => ("java/util/LinkedHashMap$LinkedKeySet", "reversed", "Z", true)
  | _ => ("java/util/LinkedHashMap$LinkedKeySet", "this$0", "Ljava/util/LinkedHashMap;", true)
def tyX27 : Nat → FieldType := fun k => match k with
  | 0 => .boolean
  | _ => .object "java/util/LinkedHashMap"
theorem nmX27 : ∀ a, a < 2 → ∀ b, b < 2 → a ≠ b → (TX27 a).2.1 ≠ (TX27 b).2.1 := by decide +kernel
theorem tyX27_ok : ∀ k, k < 2 → parseFieldDescriptor (TX27 k).2.2.1 = some (tyX27 k) := by decide +kernel
def RX26 : String := "java/util/LinkedHashMap$LinkedKeyIterator"
def TX26 : u_T := fun k => match k with
  | 0 => ("java/util/LinkedHashMap$LinkedHashIterator", "next", "Ljava/util/LinkedHashMap$Entry;", false)
  | 1 => ("java/util/LinkedHashMap$LinkedHashIterator", "current", "Ljava/util/LinkedHashMap$Entry;", false)
  | 2 => ("java/util/LinkedHashMap$LinkedHashIterator", "expectedModCount", "I", false)
  | 3 => ("java/util/LinkedHashMap$LinkedHashIterator", "reversed", "Z", false)
  | _ => ("java/util/LinkedHashMap$LinkedHashIterator", "this$0", "Ljava/util/LinkedHashMap;", true)
def tyX26 : Nat → FieldType := fun k => match k with
  | 0 => .object "java/util/LinkedHashMap$Entry"
  | 1 => .object "java/util/LinkedHashMap$Entry"
  | 2 => .int
  | 3 => .boolean
  | _ => .object "java/util/LinkedHashMap"
theorem nmX26 : ∀ a, a < 5 → ∀ b, b < 5 → a ≠ b → (TX26 a).2.1 ≠ (TX26 b).2.1 := by decide +kernel
theorem tyX26_ok : ∀ k, k < 5 → parseFieldDescriptor (TX26 k).2.2.1 = some (tyX26 k) := by decide +kernel
abbrev vwCl : List vw_C := [(RX0, TX0, 12), (RX1, TX1, 3), (RX2, TX2, 6), (RX3, TX3, 5), (RX4, TX4, 2), (RX5, TX5, 6), (RX6, TX6, 5), (RX7, TX7, 2), (RX8, TX8, 1), (RX9, TX9, 8), (RX10, TX10, 11), (RX11, TX11, 7), (RX12, TX12, 3), (RX13, TX13, 4), (RJx4a65c, TJx4a65c, 3), (RJx35411, TJx35411, 4), (RJ6, TJ6, 1), (RJ4, TJ4, 4), (RJ0, TJ0, 4), (RX29, TX29, 1), (RX28, TX28, 12), (RX24, TX24, 6), (RX27, TX27, 2), (RX26, TX26, 5)]
def UW : List Cond := lw_tbl.filter goodWord
theorem qm_in {w : Cond} (h : w ∈ tables_1) (hg : goodWord w = true) : w ∈ UW := List.mem_filter.mpr ⟨List.mem_append_right _ h, hg⟩
theorem qm_1 {w : Cond} {i : Nat} (h : tables_1_1[i]? = some w) (hg : goodWord w = true) : w ∈ UW := qm_in (List.mem_append_left _ (List.mem_of_getElem? h)) hg
theorem qm_2 {w : Cond} {i : Nat} (h : tables_1_2[i]? = some w) (hg : goodWord w = true) : w ∈ UW := qm_in (List.mem_append_right _ (List.mem_append_left _ (List.mem_of_getElem? h))) hg
theorem qm_3 {w : Cond} {i : Nat} (h : tables_1_3[i]? = some w) (hg : goodWord w = true) : w ∈ UW := qm_in (List.mem_append_right _ (List.mem_append_right _ (List.mem_append_left _ (List.mem_of_getElem? h)))) hg
theorem qm_4 {w : Cond} {i : Nat} (h : tables_1_4[i]? = some w) (hg : goodWord w = true) : w ∈ UW := qm_in (List.mem_append_right _ (List.mem_append_right _ (List.mem_append_right _ (List.mem_append_left _ (List.mem_of_getElem? h))))) hg
theorem qm_5 {w : Cond} {i : Nat} (h : tables_1_5[i]? = some w) (hg : goodWord w = true) : w ∈ UW := qm_in (List.mem_append_right _ (List.mem_append_right _ (List.mem_append_right _ (List.mem_append_right _ (List.mem_append_left _ (List.mem_of_getElem? h)))))) hg
theorem qm_6 {w : Cond} {i : Nat} (h : tables_1_6[i]? = some w) (hg : goodWord w = true) : w ∈ UW := qm_in (List.mem_append_right _ (List.mem_append_right _ (List.mem_append_right _ (List.mem_append_right _ (List.mem_append_right _ (List.mem_append_left _ (List.mem_of_getElem? h))))))) hg
theorem qm_7 {w : Cond} {i : Nat} (h : tables_1_7[i]? = some w) (hg : goodWord w = true) : w ∈ UW := qm_in (List.mem_append_right _ (List.mem_append_right _ (List.mem_append_right _ (List.mem_append_right _ (List.mem_append_right _ (List.mem_append_right _ (List.mem_append_left _ (List.mem_of_getElem? h)))))))) hg
theorem qm_8 {w : Cond} {i : Nat} (h : tables_1_8[i]? = some w) (hg : goodWord w = true) : w ∈ UW := qm_in (List.mem_append_right _ (List.mem_append_right _ (List.mem_append_right _ (List.mem_append_right _ (List.mem_append_right _ (List.mem_append_right _ (List.mem_append_right _ (List.mem_append_left _ (List.mem_of_getElem? h))))))))) hg
theorem qm_9 {w : Cond} {i : Nat} (h : tables_1_9[i]? = some w) (hg : goodWord w = true) : w ∈ UW := qm_in (List.mem_append_right _ (List.mem_append_right _ (List.mem_append_right _ (List.mem_append_right _ (List.mem_append_right _ (List.mem_append_right _ (List.mem_append_right _ (List.mem_append_right _ (List.mem_append_left _ (List.mem_of_getElem? h)))))))))) hg
theorem qm_10 {w : Cond} {i : Nat} (h : tables_1_10[i]? = some w) (hg : goodWord w = true) : w ∈ UW := qm_in (List.mem_append_right _ (List.mem_append_right _ (List.mem_append_right _ (List.mem_append_right _ (List.mem_append_right _ (List.mem_append_right _ (List.mem_append_right _ (List.mem_append_right _ (List.mem_append_right _ (List.mem_of_getElem? h)))))))))) hg
theorem qm_p {q : MethodName × Nat} {i : Nat} (h : lw_privs[i]? = some q) (hg : goodWord (Cond.selects q.1.cls q.1 q.1) = true) : Cond.selects q.1.cls q.1 q.1 ∈ UW := List.mem_filter.mpr ⟨List.mem_append_left _ (List.mem_map.mpr ⟨q, List.mem_of_getElem? h, rfl⟩), hg⟩
theorem uw_good : ∀ w ∈ UW, (w.onTables && w.keeps) = true ∨ ∃ ty, w = .arrayClass ty := fun w h => good_of_word (List.mem_filter.mp h).2
/-- a method: name, code, locals, answer, frames and locals that its calls need -/
abbrev Md : Type := MethodName × ByteArray × Nat × Option FieldType × Nat × Nat
abbrev mn (μ : Md) : MethodName := μ.1
abbrev cd (μ : Md) : ByteArray := μ.2.1
abbrev mL (μ : Md) : Nat := μ.2.2.1
abbrev rt (μ : Md) : Option FieldType := μ.2.2.2.1
abbrev fr (μ : Md) : Nat := μ.2.2.2.2.1
abbrev lo (μ : Md) : Nat := μ.2.2.2.2.2
def MdOK (μ : Md) : Prop := Cond.code (mn μ) (cd μ) (mL μ) (rt μ) ∈ UW ∧ Cond.initialized (mn μ).cls ∈ UW ∧ ((mn μ).cls ≠ "java/lang/invoke/MethodHandle" ∧ (mn μ).cls ≠ "java/lang/invoke/VarHandle") ∧ plainFor (mn μ) = true
def MdV (μ : Md) : Prop := Cond.instanceMethod (mn μ) ∈ UW ∧ Cond.selects (mn μ).cls (mn μ) (mn μ) ∈ UW

def M_Es_init : Md := (⟨"CoinSampler$Estimate", "<init>", "(LCoinSampler$Ledger;LCoinSampler$Layout;LCoinSampler$Walk;LCoinSampler$Terms;LCoinSampler$Factors;)V"⟩, prog_2_method_1_code, 6, none, 0, 0)
theorem ini_CoinSampler_Estimate : Cond.initialized "CoinSampler$Estimate" ∈ UW ∧ (("CoinSampler$Estimate" : String) ≠ "java/lang/invoke/MethodHandle" ∧ ("CoinSampler$Estimate" : String) ≠ "java/lang/invoke/VarHandle") := ⟨(qm_1 (i := 9) rfl rfl), by decide +kernel⟩
theorem np_M_Es_init : (parseMethodDescriptor (mn M_Es_init).desc).map (fun d => d.parameters.length) = some 5 := by decide +kernel
theorem ok_M_Es_init : MdOK M_Es_init := ⟨(qm_1 (i := 239) rfl rfl), ini_CoinSampler_Estimate.1, ini_CoinSampler_Estimate.2, by decide +kernel⟩
theorem okv_M_Es_init : Cond.instanceMethod (mn M_Es_init) ∈ UW := (qm_1 (i := 238) rfl rfl)
def M_Es_supposeNothing : Md := (⟨"CoinSampler$Estimate", "supposeNothing", "()V"⟩, prog_2_method_2_code, 1, none, 3, 65)
theorem np_M_Es_supposeNothing : (parseMethodDescriptor (mn M_Es_supposeNothing).desc).map (fun d => d.parameters.length) = some 0 := by decide +kernel
theorem ok_M_Es_supposeNothing : MdOK M_Es_supposeNothing := ⟨(qm_9 (i := 39) rfl rfl), ini_CoinSampler_Estimate.1, ini_CoinSampler_Estimate.2, by decide +kernel⟩
theorem okv_M_Es_supposeNothing : MdV M_Es_supposeNothing := ⟨(qm_9 (i := 37) rfl rfl), (qm_9 (i := 38) rfl rfl)⟩
def M_Es_suppose : Md := (⟨"CoinSampler$Estimate", "suppose", "(III)V"⟩, prog_2_method_3_code, 4, none, 2, 42)
theorem np_M_Es_suppose : (parseMethodDescriptor (mn M_Es_suppose).desc).map (fun d => d.parameters.length) = some 3 := by decide +kernel
theorem ok_M_Es_suppose : MdOK M_Es_suppose := ⟨(qm_9 (i := 44) rfl rfl), ini_CoinSampler_Estimate.1, ini_CoinSampler_Estimate.2, by decide +kernel⟩
theorem okv_M_Es_suppose : MdV M_Es_suppose := ⟨(qm_9 (i := 42) rfl rfl), (qm_9 (i := 43) rfl rfl)⟩
def M_Es_projectionOfHit : Md := (⟨"CoinSampler$Estimate", "projectionOfHit", "(I)I"⟩, prog_2_method_4_code, 2, some .int, 3, 64)
theorem np_M_Es_projectionOfHit : (parseMethodDescriptor (mn M_Es_projectionOfHit).desc).map (fun d => d.parameters.length) = some 1 := by decide +kernel
theorem ok_M_Es_projectionOfHit : MdOK M_Es_projectionOfHit := ⟨(qm_9 (i := 53) rfl rfl), ini_CoinSampler_Estimate.1, ini_CoinSampler_Estimate.2, by decide +kernel⟩
theorem okv_M_Es_projectionOfHit : MdV M_Es_projectionOfHit := ⟨(qm_9 (i := 51) rfl rfl), (qm_9 (i := 52) rfl rfl)⟩
def M_Es_projection : Md := (⟨"CoinSampler$Estimate", "projection", "(I)I"⟩, prog_2_method_5_code, 4, some .int, 4, 85)
theorem np_M_Es_projection : (parseMethodDescriptor (mn M_Es_projection).desc).map (fun d => d.parameters.length) = some 1 := by decide +kernel
theorem ok_M_Es_projection : MdOK M_Es_projection := ⟨(qm_10 (i := 28) rfl rfl), ini_CoinSampler_Estimate.1, ini_CoinSampler_Estimate.2, by decide +kernel⟩
theorem okv_M_Es_projection : MdV M_Es_projection := ⟨(qm_10 (i := 26) rfl rfl), (qm_10 (i := 27) rfl rfl)⟩
def M_Es_known : Md := (⟨"CoinSampler$Estimate", "known", "(I)I"⟩, prog_2_method_6_code, 4, some .int, 3, 63)
theorem np_M_Es_known : (parseMethodDescriptor (mn M_Es_known).desc).map (fun d => d.parameters.length) = some 1 := by decide +kernel
theorem ok_M_Es_known : MdOK M_Es_known := ⟨(qm_10 (i := 35) rfl rfl), ini_CoinSampler_Estimate.1, ini_CoinSampler_Estimate.2, by decide +kernel⟩
theorem okv_M_Es_known : MdV M_Es_known := ⟨(qm_10 (i := 33) rfl rfl), (qm_10 (i := 34) rfl rfl)⟩
def M_Es_basic : Md := (⟨"CoinSampler$Estimate", "basic", "()I"⟩, prog_2_method_7_code, 1, some .int, 3, 86)
theorem np_M_Es_basic : (parseMethodDescriptor (mn M_Es_basic).desc).map (fun d => d.parameters.length) = some 0 := by decide +kernel
theorem ok_M_Es_basic : MdOK M_Es_basic := ⟨(qm_10 (i := 49) rfl rfl), ini_CoinSampler_Estimate.1, ini_CoinSampler_Estimate.2, by decide +kernel⟩
theorem okv_M_Es_basic : MdV M_Es_basic := ⟨(qm_10 (i := 47) rfl rfl), (qm_10 (i := 48) rfl rfl)⟩
def M_Es_rank : Md := (⟨"CoinSampler$Estimate", "rank", "(I)V"⟩, prog_2_method_8_code, 5, none, 3, 64)
theorem np_M_Es_rank : (parseMethodDescriptor (mn M_Es_rank).desc).map (fun d => d.parameters.length) = some 1 := by decide +kernel
theorem ok_M_Es_rank : MdOK M_Es_rank := ⟨(qm_10 (i := 65) rfl rfl), ini_CoinSampler_Estimate.1, ini_CoinSampler_Estimate.2, by decide +kernel⟩
theorem okv_M_Es_rank : MdV M_Es_rank := ⟨(qm_10 (i := 63) rfl rfl), (qm_10 (i := 64) rfl rfl)⟩
def M_Es_hasRank : Md := (⟨"CoinSampler$Estimate", "hasRank", "(I)Z"⟩, prog_2_method_9_code, 2, some .boolean, 0, 0)
theorem np_M_Es_hasRank : (parseMethodDescriptor (mn M_Es_hasRank).desc).map (fun d => d.parameters.length) = some 1 := by decide +kernel
theorem ok_M_Es_hasRank : MdOK M_Es_hasRank := ⟨(qm_10 (i := 73) rfl rfl), ini_CoinSampler_Estimate.1, ini_CoinSampler_Estimate.2, by decide +kernel⟩
theorem okv_M_Es_hasRank : MdV M_Es_hasRank := ⟨(qm_10 (i := 71) rfl rfl), (qm_10 (i := 72) rfl rfl)⟩
def M_Es_rise : Md := (⟨"CoinSampler$Estimate", "rise", "(I)I"⟩, prog_2_method_10_code, 4, some .int, 3, 86)
theorem np_M_Es_rise : (parseMethodDescriptor (mn M_Es_rise).desc).map (fun d => d.parameters.length) = some 1 := by decide +kernel
theorem ok_M_Es_rise : MdOK M_Es_rise := ⟨(qm_10 (i := 69) rfl rfl), ini_CoinSampler_Estimate.1, ini_CoinSampler_Estimate.2, by decide +kernel⟩
theorem okv_M_Es_rise : MdV M_Es_rise := ⟨(qm_10 (i := 67) rfl rfl), (qm_10 (i := 68) rfl rfl)⟩
def M_Es_rises : Md := (⟨"CoinSampler$Estimate", "rises", "(I)I"⟩, prog_2_method_11_code, 4, some .int, 4, 109)
theorem np_M_Es_rises : (parseMethodDescriptor (mn M_Es_rises).desc).map (fun d => d.parameters.length) = some 1 := by decide +kernel
theorem ok_M_Es_rises : MdOK M_Es_rises := ⟨(qm_10 (i := 61) rfl rfl), ini_CoinSampler_Estimate.1, ini_CoinSampler_Estimate.2, by decide +kernel⟩
theorem okv_M_Es_rises : MdV M_Es_rises := ⟨(qm_10 (i := 59) rfl rfl), (qm_10 (i := 60) rfl rfl)⟩
def M_Es_limit : Md := (⟨"CoinSampler$Estimate", "limit", "(I)I"⟩, prog_2_method_12_code, 3, some .int, 5, 132)
theorem np_M_Es_limit : (parseMethodDescriptor (mn M_Es_limit).desc).map (fun d => d.parameters.length) = some 1 := by decide +kernel
theorem ok_M_Es_limit : MdOK M_Es_limit := ⟨(qm_10 (i := 45) rfl rfl), ini_CoinSampler_Estimate.1, ini_CoinSampler_Estimate.2, by decide +kernel⟩
theorem okv_M_Es_limit : MdV M_Es_limit := ⟨(qm_10 (i := 43) rfl rfl), (qm_10 (i := 44) rfl rfl)⟩
def M_Es_partOf : Md := (⟨"CoinSampler$Estimate", "partOf", "(II)I"⟩, prog_2_method_13_code, 3, some .int, 6, 154)
theorem np_M_Es_partOf : (parseMethodDescriptor (mn M_Es_partOf).desc).map (fun d => d.parameters.length) = some 2 := by decide +kernel
theorem ok_M_Es_partOf : MdOK M_Es_partOf := ⟨(qm_10 (i := 80) rfl rfl), ini_CoinSampler_Estimate.1, ini_CoinSampler_Estimate.2, by decide +kernel⟩
theorem okv_M_Es_partOf : MdV M_Es_partOf := ⟨(qm_10 (i := 78) rfl rfl), (qm_10 (i := 79) rfl rfl)⟩
def M_Es_isAccepted : Md := (⟨"CoinSampler$Estimate", "isAccepted", "()Z"⟩, prog_2_method_14_code, 1, some .boolean, 6, 154)
theorem np_M_Es_isAccepted : (parseMethodDescriptor (mn M_Es_isAccepted).desc).map (fun d => d.parameters.length) = some 0 := by decide +kernel
theorem ok_M_Es_isAccepted : MdOK M_Es_isAccepted := ⟨(qm_10 (i := 106) rfl rfl), ini_CoinSampler_Estimate.1, ini_CoinSampler_Estimate.2, by decide +kernel⟩
theorem okv_M_Es_isAccepted : MdV M_Es_isAccepted := ⟨(qm_10 (i := 104) rfl rfl), (qm_10 (i := 105) rfl rfl)⟩
def M_Fa_init : Md := (⟨"CoinSampler$Factors", "<init>", "()V"⟩, prog_3_method_1_code, 1, none, 0, 0)
theorem ini_CoinSampler_Factors : Cond.initialized "CoinSampler$Factors" ∈ UW ∧ (("CoinSampler$Factors" : String) ≠ "java/lang/invoke/MethodHandle" ∧ ("CoinSampler$Factors" : String) ≠ "java/lang/invoke/VarHandle") := ⟨(qm_1 (i := 8) rfl rfl), by decide +kernel⟩
theorem np_M_Fa_init : (parseMethodDescriptor (mn M_Fa_init).desc).map (fun d => d.parameters.length) = some 0 := by decide +kernel
theorem ok_M_Fa_init : MdOK M_Fa_init := ⟨(qm_1 (i := 223) rfl rfl), ini_CoinSampler_Factors.1, ini_CoinSampler_Factors.2, by decide +kernel⟩
theorem okv_M_Fa_init : Cond.instanceMethod (mn M_Fa_init) ∈ UW := (qm_1 (i := 222) rfl rfl)
def M_Fa_upperOf : Md := (⟨"CoinSampler$Factors", "upperOf", "(III)I"⟩, prog_3_method_2_code, 4, some .int, 2, 63)
theorem np_M_Fa_upperOf : (parseMethodDescriptor (mn M_Fa_upperOf).desc).map (fun d => d.parameters.length) = some 3 := by decide +kernel
theorem ok_M_Fa_upperOf : MdOK M_Fa_upperOf := ⟨(qm_10 (i := 53) rfl rfl), ini_CoinSampler_Factors.1, ini_CoinSampler_Factors.2, by decide +kernel⟩
theorem okv_M_Fa_upperOf : MdV M_Fa_upperOf := ⟨(qm_10 (i := 51) rfl rfl), (qm_10 (i := 52) rfl rfl)⟩
def M_Fa_halved : Md := (⟨"CoinSampler$Factors", "halved", "(III)I"⟩, prog_3_method_3_code, 10, some .int, 1, 34)
theorem np_M_Fa_halved : (parseMethodDescriptor (mn M_Fa_halved).desc).map (fun d => d.parameters.length) = some 3 := by decide +kernel
theorem ok_M_Fa_halved : MdOK M_Fa_halved := ⟨(qm_5 (i := 223) rfl rfl), ini_CoinSampler_Factors.1, ini_CoinSampler_Factors.2, by decide +kernel⟩
theorem okv_M_Fa_halved : MdV M_Fa_halved := ⟨(qm_5 (i := 221) rfl rfl), (qm_5 (i := 222) rfl rfl)⟩
def M_Fa_isWithin : Md := (⟨"CoinSampler$Factors", "isWithin", "(DIII)Z"⟩, prog_3_method_4_code, 15, some .boolean, 0, 0)
theorem np_M_Fa_isWithin : (parseMethodDescriptor (mn M_Fa_isWithin).desc).map (fun d => d.parameters.length) = some 4 := by decide +kernel
theorem ok_M_Fa_isWithin : MdOK M_Fa_isWithin := ⟨(qm_5 (i := 229) rfl rfl), ini_CoinSampler_Factors.1, ini_CoinSampler_Factors.2, by decide +kernel⟩
theorem okv_M_Fa_isWithin : MdV M_Fa_isWithin := ⟨(qm_5 (i := 228) rfl rfl), (qm_p (i := 13) (q := (⟨"CoinSampler$Factors", "isWithin", "(DIII)Z"⟩, _)) rfl rfl)⟩
def M_Fa_leastN : Md := (⟨"CoinSampler$Factors", "leastN", "(IIII)I"⟩, prog_3_method_5_code, 9, some .int, 2, 63)
theorem np_M_Fa_leastN : (parseMethodDescriptor (mn M_Fa_leastN).desc).map (fun d => d.parameters.length) = some 4 := by decide +kernel
theorem ok_M_Fa_leastN : MdOK M_Fa_leastN := ⟨(qm_5 (i := 219) rfl rfl), ini_CoinSampler_Factors.1, ini_CoinSampler_Factors.2, by decide +kernel⟩
theorem okv_M_Fa_leastN : MdV M_Fa_leastN := ⟨(qm_5 (i := 217) rfl rfl), (qm_5 (i := 218) rfl rfl)⟩
def M_La_init : Md := (⟨"CoinSampler$Layout", "<init>", "(LCoinSampler$Ledger;)V"⟩, prog_4_method_1_code, 2, none, 0, 0)
theorem ini_CoinSampler_Layout : Cond.initialized "CoinSampler$Layout" ∈ UW ∧ (("CoinSampler$Layout" : String) ≠ "java/lang/invoke/MethodHandle" ∧ ("CoinSampler$Layout" : String) ≠ "java/lang/invoke/VarHandle") := ⟨(qm_1 (i := 6) rfl rfl), by decide +kernel⟩
theorem np_M_La_init : (parseMethodDescriptor (mn M_La_init).desc).map (fun d => d.parameters.length) = some 1 := by decide +kernel
theorem ok_M_La_init : MdOK M_La_init := ⟨(qm_1 (i := 153) rfl rfl), ini_CoinSampler_Layout.1, ini_CoinSampler_Layout.2, by decide +kernel⟩
theorem okv_M_La_init : Cond.instanceMethod (mn M_La_init) ∈ UW := (qm_1 (i := 152) rfl rfl)
def M_La_lay : Md := (⟨"CoinSampler$Layout", "lay", "(I)V"⟩, prog_4_method_2_code, 3, none, 3, 63)
theorem np_M_La_lay : (parseMethodDescriptor (mn M_La_lay).desc).map (fun d => d.parameters.length) = some 1 := by decide +kernel
theorem ok_M_La_lay : MdOK M_La_lay := ⟨(qm_5 (i := 106) rfl rfl), ini_CoinSampler_Layout.1, ini_CoinSampler_Layout.2, by decide +kernel⟩
theorem okv_M_La_lay : MdV M_La_lay := ⟨(qm_5 (i := 104) rfl rfl), (qm_5 (i := 105) rfl rfl)⟩
def M_La_isCertain : Md := (⟨"CoinSampler$Layout", "isCertain", "(I)Z"⟩, prog_4_method_3_code, 2, some .boolean, 2, 42)
theorem np_M_La_isCertain : (parseMethodDescriptor (mn M_La_isCertain).desc).map (fun d => d.parameters.length) = some 1 := by decide +kernel
theorem ok_M_La_isCertain : MdOK M_La_isCertain := ⟨(qm_5 (i := 110) rfl rfl), ini_CoinSampler_Layout.1, ini_CoinSampler_Layout.2, by decide +kernel⟩
theorem okv_M_La_isCertain : MdV M_La_isCertain := ⟨(qm_5 (i := 108) rfl rfl), (qm_5 (i := 109) rfl rfl)⟩
def M_La_firstCoin : Md := (⟨"CoinSampler$Layout", "firstCoin", "(I)I"⟩, prog_4_method_4_code, 2, some .int, 1, 21)
theorem np_M_La_firstCoin : (parseMethodDescriptor (mn M_La_firstCoin).desc).map (fun d => d.parameters.length) = some 1 := by decide +kernel
theorem ok_M_La_firstCoin : MdOK M_La_firstCoin := ⟨(qm_7 (i := 3) rfl rfl), ini_CoinSampler_Layout.1, ini_CoinSampler_Layout.2, by decide +kernel⟩
theorem okv_M_La_firstCoin : MdV M_La_firstCoin := ⟨(qm_7 (i := 1) rfl rfl), (qm_7 (i := 2) rfl rfl)⟩
def M_La_lastCoin : Md := (⟨"CoinSampler$Layout", "lastCoin", "(I)I"⟩, prog_4_method_5_code, 2, some .int, 1, 21)
theorem np_M_La_lastCoin : (parseMethodDescriptor (mn M_La_lastCoin).desc).map (fun d => d.parameters.length) = some 1 := by decide +kernel
theorem ok_M_La_lastCoin : MdOK M_La_lastCoin := ⟨(qm_7 (i := 11) rfl rfl), ini_CoinSampler_Layout.1, ini_CoinSampler_Layout.2, by decide +kernel⟩
theorem okv_M_La_lastCoin : MdV M_La_lastCoin := ⟨(qm_7 (i := 9) rfl rfl), (qm_7 (i := 10) rfl rfl)⟩
def M_La_ownerOf : Md := (⟨"CoinSampler$Layout", "ownerOf", "(I)I"⟩, prog_4_method_6_code, 3, some .int, 0, 0)
theorem np_M_La_ownerOf : (parseMethodDescriptor (mn M_La_ownerOf).desc).map (fun d => d.parameters.length) = some 1 := by decide +kernel
theorem ok_M_La_ownerOf : MdOK M_La_ownerOf := ⟨(qm_6 (i := 107) rfl rfl), ini_CoinSampler_Layout.1, ini_CoinSampler_Layout.2, by decide +kernel⟩
theorem okv_M_La_ownerOf : MdV M_La_ownerOf := ⟨(qm_6 (i := 105) rfl rfl), (qm_6 (i := 106) rfl rfl)⟩
def M_La_hitsFrom : Md := (⟨"CoinSampler$Layout", "hitsFrom", "(I)I"⟩, prog_4_method_7_code, 2, some .int, 0, 0)
theorem np_M_La_hitsFrom : (parseMethodDescriptor (mn M_La_hitsFrom).desc).map (fun d => d.parameters.length) = some 1 := by decide +kernel
theorem ok_M_La_hitsFrom : MdOK M_La_hitsFrom := ⟨(qm_6 (i := 103) rfl rfl), ini_CoinSampler_Layout.1, ini_CoinSampler_Layout.2, by decide +kernel⟩
theorem okv_M_La_hitsFrom : MdV M_La_hitsFrom := ⟨(qm_6 (i := 101) rfl rfl), (qm_6 (i := 102) rfl rfl)⟩
def M_La_strikes : Md := (⟨"CoinSampler$Layout", "strikes", "(II)Z"⟩, prog_4_method_9_code, 4, some .boolean, 2, 42)
theorem np_M_La_strikes : (parseMethodDescriptor (mn M_La_strikes).desc).map (fun d => d.parameters.length) = some 2 := by decide +kernel
theorem ok_M_La_strikes : MdOK M_La_strikes := ⟨(qm_6 (i := 239) rfl rfl), ini_CoinSampler_Layout.1, ini_CoinSampler_Layout.2, by decide +kernel⟩
theorem okv_M_La_strikes : MdV M_La_strikes := ⟨(qm_6 (i := 237) rfl rfl), (qm_6 (i := 238) rfl rfl)⟩
def M_Le_init : Md := (⟨"CoinSampler$Ledger", "<init>", "()V"⟩, prog_5_method_1_code, 1, none, 0, 0)
theorem ini_CoinSampler_Ledger : Cond.initialized "CoinSampler$Ledger" ∈ UW ∧ (("CoinSampler$Ledger" : String) ≠ "java/lang/invoke/MethodHandle" ∧ ("CoinSampler$Ledger" : String) ≠ "java/lang/invoke/VarHandle") := ⟨(qm_1 (i := 3) rfl rfl), by decide +kernel⟩
theorem np_M_Le_init : (parseMethodDescriptor (mn M_Le_init).desc).map (fun d => d.parameters.length) = some 0 := by decide +kernel
theorem ok_M_Le_init : MdOK M_Le_init := ⟨(qm_1 (i := 79) rfl rfl), ini_CoinSampler_Ledger.1, ini_CoinSampler_Ledger.2, by decide +kernel⟩
theorem okv_M_Le_init : Cond.instanceMethod (mn M_Le_init) ∈ UW := (qm_1 (i := 78) rfl rfl)
def M_Le_holds : Md := (⟨"CoinSampler$Ledger", "holds", "(I)Z"⟩, prog_5_method_2_code, 2, some .boolean, 0, 0)
theorem np_M_Le_holds : (parseMethodDescriptor (mn M_Le_holds).desc).map (fun d => d.parameters.length) = some 1 := by decide +kernel
theorem ok_M_Le_holds : MdOK M_Le_holds := ⟨(qm_5 (i := 88) rfl rfl), ini_CoinSampler_Ledger.1, ini_CoinSampler_Ledger.2, by decide +kernel⟩
theorem okv_M_Le_holds : MdV M_Le_holds := ⟨(qm_5 (i := 86) rfl rfl), (qm_5 (i := 87) rfl rfl)⟩
def M_Le_isFull : Md := (⟨"CoinSampler$Ledger", "isFull", "()Z"⟩, prog_5_method_3_code, 1, some .boolean, 0, 0)
theorem np_M_Le_isFull : (parseMethodDescriptor (mn M_Le_isFull).desc).map (fun d => d.parameters.length) = some 0 := by decide +kernel
theorem ok_M_Le_isFull : MdOK M_Le_isFull := ⟨(qm_5 (i := 67) rfl rfl), ini_CoinSampler_Ledger.1, ini_CoinSampler_Ledger.2, by decide +kernel⟩
theorem okv_M_Le_isFull : MdV M_Le_isFull := ⟨(qm_5 (i := 65) rfl rfl), (qm_5 (i := 66) rfl rfl)⟩
def M_Le_append : Md := (⟨"CoinSampler$Ledger", "append", "(III)V"⟩, prog_5_method_4_code, 4, none, 1, 20)
theorem np_M_Le_append : (parseMethodDescriptor (mn M_Le_append).desc).map (fun d => d.parameters.length) = some 3 := by decide +kernel
theorem ok_M_Le_append : MdOK M_Le_append := ⟨(qm_5 (i := 75) rfl rfl), ini_CoinSampler_Ledger.1, ini_CoinSampler_Ledger.2, by decide +kernel⟩
theorem okv_M_Le_append : MdV M_Le_append := ⟨(qm_5 (i := 73) rfl rfl), (qm_5 (i := 74) rfl rfl)⟩
def M_Le_become : Md := (⟨"CoinSampler$Ledger", "become", "(LCoinSampler$Ledger;)V"⟩, prog_5_method_5_code, 3, none, 2, 43)
theorem np_M_Le_become : (parseMethodDescriptor (mn M_Le_become).desc).map (fun d => d.parameters.length) = some 1 := by decide +kernel
theorem ok_M_Le_become : MdOK M_Le_become := ⟨(qm_5 (i := 97) rfl rfl), ini_CoinSampler_Ledger.1, ini_CoinSampler_Ledger.2, by decide +kernel⟩
theorem okv_M_Le_become : MdV M_Le_become := ⟨(qm_5 (i := 95) rfl rfl), (qm_5 (i := 96) rfl rfl)⟩
def M_Le_indexOf : Md := (⟨"CoinSampler$Ledger", "indexOf", "(II)I"⟩, prog_5_method_6_code, 4, some .int, 0, 0)
theorem np_M_Le_indexOf : (parseMethodDescriptor (mn M_Le_indexOf).desc).map (fun d => d.parameters.length) = some 2 := by decide +kernel
theorem ok_M_Le_indexOf : MdOK M_Le_indexOf := ⟨(qm_5 (i := 71) rfl rfl), ini_CoinSampler_Ledger.1, ini_CoinSampler_Ledger.2, by decide +kernel⟩
theorem okv_M_Le_indexOf : MdV M_Le_indexOf := ⟨(qm_5 (i := 69) rfl rfl), (qm_5 (i := 70) rfl rfl)⟩
def M_Le_isFirstOfAccount : Md := (⟨"CoinSampler$Ledger", "isFirstOfAccount", "(I)Z"⟩, prog_5_method_7_code, 3, some .boolean, 1, 21)
theorem np_M_Le_isFirstOfAccount : (parseMethodDescriptor (mn M_Le_isFirstOfAccount).desc).map (fun d => d.parameters.length) = some 1 := by decide +kernel
theorem ok_M_Le_isFirstOfAccount : MdOK M_Le_isFirstOfAccount := ⟨(qm_9 (i := 165) rfl rfl), ini_CoinSampler_Ledger.1, ini_CoinSampler_Ledger.2, by decide +kernel⟩
theorem okv_M_Le_isFirstOfAccount : MdV M_Le_isFirstOfAccount := ⟨(qm_9 (i := 163) rfl rfl), (qm_9 (i := 164) rfl rfl)⟩
def M_Le_coinsOf : Md := (⟨"CoinSampler$Ledger", "coinsOf", "(I)I"⟩, prog_5_method_8_code, 2, some .int, 1, 21)
theorem np_M_Le_coinsOf : (parseMethodDescriptor (mn M_Le_coinsOf).desc).map (fun d => d.parameters.length) = some 1 := by decide +kernel
theorem ok_M_Le_coinsOf : MdOK M_Le_coinsOf := ⟨(qm_5 (i := 84) rfl rfl), ini_CoinSampler_Ledger.1, ini_CoinSampler_Ledger.2, by decide +kernel⟩
theorem okv_M_Le_coinsOf : MdV M_Le_coinsOf := ⟨(qm_5 (i := 82) rfl rfl), (qm_5 (i := 83) rfl rfl)⟩
def M_Le_allCoins : Md := (⟨"CoinSampler$Ledger", "allCoins", "()I"⟩, prog_5_method_9_code, 3, some .int, 2, 42)
theorem np_M_Le_allCoins : (parseMethodDescriptor (mn M_Le_allCoins).desc).map (fun d => d.parameters.length) = some 0 := by decide +kernel
theorem ok_M_Le_allCoins : MdOK M_Le_allCoins := ⟨(qm_5 (i := 214) rfl rfl), ini_CoinSampler_Ledger.1, ini_CoinSampler_Ledger.2, by decide +kernel⟩
theorem okv_M_Le_allCoins : MdV M_Le_allCoins := ⟨(qm_5 (i := 212) rfl rfl), (qm_5 (i := 213) rfl rfl)⟩
def M_Le_mayBeWorth : Md := (⟨"CoinSampler$Ledger", "mayBeWorth", "(II)Z"⟩, prog_5_method_10_code, 3, some .boolean, 1, 21)
theorem np_M_Le_mayBeWorth : (parseMethodDescriptor (mn M_Le_mayBeWorth).desc).map (fun d => d.parameters.length) = some 2 := by decide +kernel
theorem ok_M_Le_mayBeWorth : MdOK M_Le_mayBeWorth := ⟨(qm_5 (i := 93) rfl rfl), ini_CoinSampler_Ledger.1, ini_CoinSampler_Ledger.2, by decide +kernel⟩
theorem okv_M_Le_mayBeWorth : MdV M_Le_mayBeWorth := ⟨(qm_5 (i := 91) rfl rfl), (qm_5 (i := 92) rfl rfl)⟩
def M_Le_isAudited : Md := (⟨"CoinSampler$Ledger", "isAudited", "(I)Z"⟩, prog_5_method_11_code, 2, some .boolean, 0, 0)
theorem np_M_Le_isAudited : (parseMethodDescriptor (mn M_Le_isAudited).desc).map (fun d => d.parameters.length) = some 1 := by decide +kernel
theorem ok_M_Le_isAudited : MdOK M_Le_isAudited := ⟨(qm_6 (i := 224) rfl rfl), ini_CoinSampler_Ledger.1, ini_CoinSampler_Ledger.2, by decide +kernel⟩
theorem okv_M_Le_isAudited : MdV M_Le_isAudited := ⟨(qm_6 (i := 222) rfl rfl), (qm_6 (i := 223) rfl rfl)⟩
def M_Le_auditedItems : Md := (⟨"CoinSampler$Ledger", "auditedItems", "()I"⟩, prog_5_method_12_code, 3, some .int, 1, 21)
theorem np_M_Le_auditedItems : (parseMethodDescriptor (mn M_Le_auditedItems).desc).map (fun d => d.parameters.length) = some 0 := by decide +kernel
theorem ok_M_Le_auditedItems : MdOK M_Le_auditedItems := ⟨(qm_10 (i := 170) rfl rfl), ini_CoinSampler_Ledger.1, ini_CoinSampler_Ledger.2, by decide +kernel⟩
theorem okv_M_Le_auditedItems : MdV M_Le_auditedItems := ⟨(qm_10 (i := 168) rfl rfl), (qm_10 (i := 169) rfl rfl)⟩
def M_Le_errorOf : Md := (⟨"CoinSampler$Ledger", "errorOf", "(I)I"⟩, prog_5_method_13_code, 2, some .int, 1, 21)
theorem np_M_Le_errorOf : (parseMethodDescriptor (mn M_Le_errorOf).desc).map (fun d => d.parameters.length) = some 1 := by decide +kernel
theorem ok_M_Le_errorOf : MdOK M_Le_errorOf := ⟨(qm_6 (i := 220) rfl rfl), ini_CoinSampler_Ledger.1, ini_CoinSampler_Ledger.2, by decide +kernel⟩
theorem okv_M_Le_errorOf : MdV M_Le_errorOf := ⟨(qm_6 (i := 218) rfl rfl), (qm_6 (i := 219) rfl rfl)⟩
def M_Le_taintOf : Md := (⟨"CoinSampler$Ledger", "taintOf", "(I)I"⟩, prog_5_method_14_code, 3, some .int, 2, 42)
theorem np_M_Le_taintOf : (parseMethodDescriptor (mn M_Le_taintOf).desc).map (fun d => d.parameters.length) = some 1 := by decide +kernel
theorem ok_M_Le_taintOf : MdOK M_Le_taintOf := ⟨(qm_6 (i := 228) rfl rfl), ini_CoinSampler_Ledger.1, ini_CoinSampler_Ledger.2, by decide +kernel⟩
theorem okv_M_Le_taintOf : MdV M_Le_taintOf := ⟨(qm_6 (i := 226) rfl rfl), (qm_6 (i := 227) rfl rfl)⟩
def M_Li_init : Md := (⟨"CoinSampler$Line", "<init>", "()V"⟩, prog_6_method_1_code, 1, none, 0, 0)
theorem ini_CoinSampler_Line : Cond.initialized "CoinSampler$Line" ∈ UW ∧ (("CoinSampler$Line" : String) ≠ "java/lang/invoke/MethodHandle" ∧ ("CoinSampler$Line" : String) ≠ "java/lang/invoke/VarHandle") := ⟨(qm_1 (i := 11) rfl rfl), by decide +kernel⟩
theorem np_M_Li_init : (parseMethodDescriptor (mn M_Li_init).desc).map (fun d => d.parameters.length) = some 0 := by decide +kernel
theorem ok_M_Li_init : MdOK M_Li_init := ⟨(qm_2 (i := 66) rfl rfl), ini_CoinSampler_Line.1, ini_CoinSampler_Line.2, by decide +kernel⟩
theorem okv_M_Li_init : Cond.instanceMethod (mn M_Li_init) ∈ UW := (qm_2 (i := 65) rfl rfl)
def M_Li_sign : Md := (⟨"CoinSampler$Line", "sign", "(C)V"⟩, prog_6_method_2_code, 2, none, 0, 0)
theorem np_M_Li_sign : (parseMethodDescriptor (mn M_Li_sign).desc).map (fun d => d.parameters.length) = some 1 := by decide +kernel
theorem ok_M_Li_sign : MdOK M_Li_sign := ⟨(qm_10 (i := 6) rfl rfl), ini_CoinSampler_Line.1, ini_CoinSampler_Line.2, by decide +kernel⟩
theorem okv_M_Li_sign : MdV M_Li_sign := ⟨(qm_10 (i := 4) rfl rfl), (qm_10 (i := 5) rfl rfl)⟩
def M_Li_number : Md := (⟨"CoinSampler$Line", "number", "(I)V"⟩, prog_6_method_3_code, 4, none, 1, 21)
theorem np_M_Li_number : (parseMethodDescriptor (mn M_Li_number).desc).map (fun d => d.parameters.length) = some 1 := by decide +kernel
theorem ok_M_Li_number : MdOK M_Li_number := ⟨(qm_10 (i := 2) rfl rfl), ini_CoinSampler_Line.1, ini_CoinSampler_Line.2, by decide +kernel⟩
theorem okv_M_Li_number : MdV M_Li_number := ⟨(qm_10 (i := 0) rfl rfl), (qm_10 (i := 1) rfl rfl)⟩
def M_Li_signAt : Md := (⟨"CoinSampler$Line", "signAt", "(I)I"⟩, prog_6_method_4_code, 2, some .int, 0, 0)
theorem np_M_Li_signAt : (parseMethodDescriptor (mn M_Li_signAt).desc).map (fun d => d.parameters.length) = some 1 := by decide +kernel
theorem ok_M_Li_signAt : MdOK M_Li_signAt := ⟨(qm_10 (i := 11) rfl rfl), ini_CoinSampler_Line.1, ini_CoinSampler_Line.2, by decide +kernel⟩
theorem okv_M_Li_signAt : MdV M_Li_signAt := ⟨(qm_10 (i := 9) rfl rfl), (qm_10 (i := 10) rfl rfl)⟩
def M_Re_init : Md := (⟨"CoinSampler$Reader", "<init>", "(LCoinSampler$Tape;)V"⟩, prog_7_method_1_code, 2, none, 1, 20)
theorem ini_CoinSampler_Reader : Cond.initialized "CoinSampler$Reader" ∈ UW ∧ (("CoinSampler$Reader" : String) ≠ "java/lang/invoke/MethodHandle" ∧ ("CoinSampler$Reader" : String) ≠ "java/lang/invoke/VarHandle") := ⟨(qm_1 (i := 4) rfl rfl), by decide +kernel⟩
theorem np_M_Re_init : (parseMethodDescriptor (mn M_Re_init).desc).map (fun d => d.parameters.length) = some 1 := by decide +kernel
theorem ok_M_Re_init : MdOK M_Re_init := ⟨(qm_1 (i := 112) rfl rfl), ini_CoinSampler_Reader.1, ini_CoinSampler_Reader.2, by decide +kernel⟩
theorem okv_M_Re_init : Cond.instanceMethod (mn M_Re_init) ∈ UW := (qm_1 (i := 111) rfl rfl)
def M_Re_read : Md := (⟨"CoinSampler$Reader", "read", "(I)V"⟩, prog_7_method_2_code, 3, none, 7, 156)
theorem np_M_Re_read : (parseMethodDescriptor (mn M_Re_read).desc).map (fun d => d.parameters.length) = some 1 := by decide +kernel
theorem ok_M_Re_read : MdOK M_Re_read := ⟨(qm_5 (i := 4) rfl rfl), ini_CoinSampler_Reader.1, ini_CoinSampler_Reader.2, by decide +kernel⟩
theorem okv_M_Re_read : MdV M_Re_read := ⟨(qm_5 (i := 2) rfl rfl), (qm_5 (i := 3) rfl rfl)⟩
def M_Re_readLine : Md := (⟨"CoinSampler$Reader", "readLine", "()V"⟩, prog_7_method_3_code, 8, none, 6, 129)
theorem np_M_Re_readLine : (parseMethodDescriptor (mn M_Re_readLine).desc).map (fun d => d.parameters.length) = some 0 := by decide +kernel
theorem ok_M_Re_readLine : MdOK M_Re_readLine := ⟨(qm_5 (i := 20) rfl rfl), ini_CoinSampler_Reader.1, ini_CoinSampler_Reader.2, by decide +kernel⟩
theorem okv_M_Re_readLine : MdV M_Re_readLine := ⟨(qm_5 (i := 19) rfl rfl), (qm_p (i := 5) (q := (⟨"CoinSampler$Reader", "readLine", "()V"⟩, _)) rfl rfl)⟩
def M_Re_takeItem : Md := (⟨"CoinSampler$Reader", "takeItem", "(III)Z"⟩, prog_7_method_4_code, 4, some .boolean, 2, 43)
theorem np_M_Re_takeItem : (parseMethodDescriptor (mn M_Re_takeItem).desc).map (fun d => d.parameters.length) = some 3 := by decide +kernel
theorem ok_M_Re_takeItem : MdOK M_Re_takeItem := ⟨(qm_5 (i := 63) rfl rfl), ini_CoinSampler_Reader.1, ini_CoinSampler_Reader.2, by decide +kernel⟩
theorem okv_M_Re_takeItem : MdV M_Re_takeItem := ⟨(qm_5 (i := 62) rfl rfl), (qm_p (i := 11) (q := (⟨"CoinSampler$Reader", "takeItem", "(III)Z"⟩, _)) rfl rfl)⟩
def M_Re_takeAudit : Md := (⟨"CoinSampler$Reader", "takeAudit", "(III)Z"⟩, prog_7_method_5_code, 5, some .boolean, 2, 43)
theorem np_M_Re_takeAudit : (parseMethodDescriptor (mn M_Re_takeAudit).desc).map (fun d => d.parameters.length) = some 3 := by decide +kernel
theorem ok_M_Re_takeAudit : MdOK M_Re_takeAudit := ⟨(qm_5 (i := 80) rfl rfl), ini_CoinSampler_Reader.1, ini_CoinSampler_Reader.2, by decide +kernel⟩
theorem okv_M_Re_takeAudit : MdV M_Re_takeAudit := ⟨(qm_5 (i := 79) rfl rfl), (qm_p (i := 12) (q := (⟨"CoinSampler$Reader", "takeAudit", "(III)Z"⟩, _)) rfl rfl)⟩
def M_Re_fail : Md := (⟨"CoinSampler$Reader", "fail", "(II)V"⟩, prog_7_method_6_code, 3, none, 0, 0)
theorem np_M_Re_fail : (parseMethodDescriptor (mn M_Re_fail).desc).map (fun d => d.parameters.length) = some 2 := by decide +kernel
theorem ok_M_Re_fail : MdOK M_Re_fail := ⟨(qm_5 (i := 50) rfl rfl), ini_CoinSampler_Reader.1, ini_CoinSampler_Reader.2, by decide +kernel⟩
theorem okv_M_Re_fail : MdV M_Re_fail := ⟨(qm_5 (i := 49) rfl rfl), (qm_p (i := 8) (q := (⟨"CoinSampler$Reader", "fail", "(II)V"⟩, _)) rfl rfl)⟩
def M_Re_here : Md := (⟨"CoinSampler$Reader", "here", "()I"⟩, prog_7_method_7_code, 1, some .int, 1, 21)
theorem np_M_Re_here : (parseMethodDescriptor (mn M_Re_here).desc).map (fun d => d.parameters.length) = some 0 := by decide +kernel
theorem ok_M_Re_here : MdOK M_Re_here := ⟨(qm_5 (i := 12) rfl rfl), ini_CoinSampler_Reader.1, ini_CoinSampler_Reader.2, by decide +kernel⟩
theorem okv_M_Re_here : MdV M_Re_here := ⟨(qm_5 (i := 11) rfl rfl), (qm_p (i := 4) (q := (⟨"CoinSampler$Reader", "here", "()I"⟩, _)) rfl rfl)⟩
def M_Re_skipBlanks : Md := (⟨"CoinSampler$Reader", "skipBlanks", "()V"⟩, prog_7_method_8_code, 1, none, 2, 41)
theorem np_M_Re_skipBlanks : (parseMethodDescriptor (mn M_Re_skipBlanks).desc).map (fun d => d.parameters.length) = some 0 := by decide +kernel
theorem ok_M_Re_skipBlanks : MdOK M_Re_skipBlanks := ⟨(qm_5 (i := 8) rfl rfl), ini_CoinSampler_Reader.1, ini_CoinSampler_Reader.2, by decide +kernel⟩
theorem okv_M_Re_skipBlanks : MdV M_Re_skipBlanks := ⟨(qm_5 (i := 7) rfl rfl), (qm_p (i := 3) (q := (⟨"CoinSampler$Reader", "skipBlanks", "()V"⟩, _)) rfl rfl)⟩
def M_Re_skipWord : Md := (⟨"CoinSampler$Reader", "skipWord", "()V"⟩, prog_7_method_9_code, 1, none, 2, 41)
theorem np_M_Re_skipWord : (parseMethodDescriptor (mn M_Re_skipWord).desc).map (fun d => d.parameters.length) = some 0 := by decide +kernel
theorem ok_M_Re_skipWord : MdOK M_Re_skipWord := ⟨(qm_5 (i := 24) rfl rfl), ini_CoinSampler_Reader.1, ini_CoinSampler_Reader.2, by decide +kernel⟩
theorem okv_M_Re_skipWord : MdV M_Re_skipWord := ⟨(qm_5 (i := 23) rfl rfl), (qm_p (i := 6) (q := (⟨"CoinSampler$Reader", "skipWord", "()V"⟩, _)) rfl rfl)⟩
def M_Re_isWord : Md := (⟨"CoinSampler$Reader", "isWord", "(ILjava/lang/String;)Z"⟩, prog_7_method_10_code, 4, some .boolean, 5, 106)
theorem np_M_Re_isWord : (parseMethodDescriptor (mn M_Re_isWord).desc).map (fun d => d.parameters.length) = some 2 := by decide +kernel
theorem ok_M_Re_isWord : MdOK M_Re_isWord := ⟨(qm_5 (i := 29) rfl rfl), ini_CoinSampler_Reader.1, ini_CoinSampler_Reader.2, by decide +kernel⟩
theorem okv_M_Re_isWord : MdV M_Re_isWord := ⟨(qm_5 (i := 28) rfl rfl), (qm_p (i := 7) (q := (⟨"CoinSampler$Reader", "isWord", "(ILjava/lang/String;)Z"⟩, _)) rfl rfl)⟩
def M_Re_skipSign : Md := (⟨"CoinSampler$Reader", "skipSign", "(C)Z"⟩, prog_7_method_11_code, 2, some .boolean, 3, 61)
theorem np_M_Re_skipSign : (parseMethodDescriptor (mn M_Re_skipSign).desc).map (fun d => d.parameters.length) = some 1 := by decide +kernel
theorem ok_M_Re_skipSign : MdOK M_Re_skipSign := ⟨(qm_5 (i := 58) rfl rfl), ini_CoinSampler_Reader.1, ini_CoinSampler_Reader.2, by decide +kernel⟩
theorem okv_M_Re_skipSign : MdV M_Re_skipSign := ⟨(qm_5 (i := 57) rfl rfl), (qm_p (i := 10) (q := (⟨"CoinSampler$Reader", "skipSign", "(C)Z"⟩, _)) rfl rfl)⟩
def M_Re_readNumber : Md := (⟨"CoinSampler$Reader", "readNumber", "(I)I"⟩, prog_7_method_12_code, 4, some .int, 3, 61)
theorem np_M_Re_readNumber : (parseMethodDescriptor (mn M_Re_readNumber).desc).map (fun d => d.parameters.length) = some 1 := by decide +kernel
theorem ok_M_Re_readNumber : MdOK M_Re_readNumber := ⟨(qm_5 (i := 54) rfl rfl), ini_CoinSampler_Reader.1, ini_CoinSampler_Reader.2, by decide +kernel⟩
theorem okv_M_Re_readNumber : MdV M_Re_readNumber := ⟨(qm_5 (i := 53) rfl rfl), (qm_p (i := 9) (q := (⟨"CoinSampler$Reader", "readNumber", "(I)I"⟩, _)) rfl rfl)⟩
def M_St_init : Md := (⟨"CoinSampler$Starts", "<init>", "(LCoinSampler$Ledger;LCoinSampler$Layout;)V"⟩, prog_8_method_1_code, 3, none, 0, 0)
theorem ini_CoinSampler_Starts : Cond.initialized "CoinSampler$Starts" ∈ UW ∧ (("CoinSampler$Starts" : String) ≠ "java/lang/invoke/MethodHandle" ∧ ("CoinSampler$Starts" : String) ≠ "java/lang/invoke/VarHandle") := ⟨(qm_1 (i := 10) rfl rfl), by decide +kernel⟩
theorem np_M_St_init : (parseMethodDescriptor (mn M_St_init).desc).map (fun d => d.parameters.length) = some 2 := by decide +kernel
theorem ok_M_St_init : MdOK M_St_init := ⟨(qm_2 (i := 44) rfl rfl), ini_CoinSampler_Starts.1, ini_CoinSampler_Starts.2, by decide +kernel⟩
theorem okv_M_St_init : Cond.instanceMethod (mn M_St_init) ∈ UW := (qm_2 (i := 43) rfl rfl)
def M_Ta_init : Md := (⟨"CoinSampler$Tape", "<init>", "()V"⟩, prog_9_method_1_code, 1, none, 0, 0)
theorem ini_CoinSampler_Tape : Cond.initialized "CoinSampler$Tape" ∈ UW ∧ (("CoinSampler$Tape" : String) ≠ "java/lang/invoke/MethodHandle" ∧ ("CoinSampler$Tape" : String) ≠ "java/lang/invoke/VarHandle") := ⟨(qm_1 (i := 2) rfl rfl), by decide +kernel⟩
theorem np_M_Ta_init : (parseMethodDescriptor (mn M_Ta_init).desc).map (fun d => d.parameters.length) = some 0 := by decide +kernel
theorem ok_M_Ta_init : MdOK M_Ta_init := ⟨(qm_1 (i := 64) rfl rfl), ini_CoinSampler_Tape.1, ini_CoinSampler_Tape.2, by decide +kernel⟩
theorem okv_M_Ta_init : Cond.instanceMethod (mn M_Ta_init) ∈ UW := (qm_1 (i := 63) rfl rfl)
def M_Ta_write : Md := (⟨"CoinSampler$Tape", "write", "(I)V"⟩, prog_9_method_2_code, 3, none, 0, 0)
theorem np_M_Ta_write : (parseMethodDescriptor (mn M_Ta_write).desc).map (fun d => d.parameters.length) = some 1 := by decide +kernel
theorem ok_M_Ta_write : MdOK M_Ta_write := ⟨(qm_5 (i := 124) rfl rfl), ini_CoinSampler_Tape.1, ini_CoinSampler_Tape.2, by decide +kernel⟩
theorem okv_M_Ta_write : MdV M_Ta_write := ⟨(qm_5 (i := 122) rfl rfl), (qm_5 (i := 123) rfl rfl)⟩
def M_Ta_byteAt : Md := (⟨"CoinSampler$Tape", "byteAt", "(I)I"⟩, prog_9_method_3_code, 2, some .int, 0, 0)
theorem np_M_Ta_byteAt : (parseMethodDescriptor (mn M_Ta_byteAt).desc).map (fun d => d.parameters.length) = some 1 := by decide +kernel
theorem ok_M_Ta_byteAt : MdOK M_Ta_byteAt := ⟨(qm_5 (i := 16) rfl rfl), ini_CoinSampler_Tape.1, ini_CoinSampler_Tape.2, by decide +kernel⟩
theorem okv_M_Ta_byteAt : MdV M_Ta_byteAt := ⟨(qm_5 (i := 14) rfl rfl), (qm_5 (i := 15) rfl rfl)⟩
def M_Te_init : Md := (⟨"CoinSampler$Terms", "<init>", "()V"⟩, prog_10_method_1_code, 1, none, 0, 0)
theorem ini_CoinSampler_Terms : Cond.initialized "CoinSampler$Terms" ∈ UW ∧ (("CoinSampler$Terms" : String) ≠ "java/lang/invoke/MethodHandle" ∧ ("CoinSampler$Terms" : String) ≠ "java/lang/invoke/VarHandle") := ⟨(qm_1 (i := 5) rfl rfl), by decide +kernel⟩
theorem np_M_Te_init : (parseMethodDescriptor (mn M_Te_init).desc).map (fun d => d.parameters.length) = some 0 := by decide +kernel
theorem ok_M_Te_init : MdOK M_Te_init := ⟨(qm_1 (i := 142) rfl rfl), ini_CoinSampler_Terms.1, ini_CoinSampler_Terms.2, by decide +kernel⟩
theorem okv_M_Te_init : Cond.instanceMethod (mn M_Te_init) ∈ UW := (qm_1 (i := 141) rfl rfl)
def M_Te_has : Md := (⟨"CoinSampler$Terms", "has", "(I)Z"⟩, prog_10_method_2_code, 2, some .boolean, 0, 0)
theorem np_M_Te_has : (parseMethodDescriptor (mn M_Te_has).desc).map (fun d => d.parameters.length) = some 1 := by decide +kernel
theorem ok_M_Te_has : MdOK M_Te_has := ⟨(qm_2 (i := 84) rfl rfl), ini_CoinSampler_Terms.1, ini_CoinSampler_Terms.2, by decide +kernel⟩
theorem okv_M_Te_has : MdV M_Te_has := ⟨(qm_2 (i := 82) rfl rfl), (qm_2 (i := 83) rfl rfl)⟩
def M_Te_allows : Md := (⟨"CoinSampler$Terms", "allows", "(II)Z"⟩, prog_10_method_3_code, 3, some .boolean, 1, 21)
theorem np_M_Te_allows : (parseMethodDescriptor (mn M_Te_allows).desc).map (fun d => d.parameters.length) = some 2 := by decide +kernel
theorem ok_M_Te_allows : MdOK M_Te_allows := ⟨(qm_5 (i := 139) rfl rfl), ini_CoinSampler_Terms.1, ini_CoinSampler_Terms.2, by decide +kernel⟩
theorem okv_M_Te_allows : MdV M_Te_allows := ⟨(qm_5 (i := 137) rfl rfl), (qm_5 (i := 138) rfl rfl)⟩
def M_Te_of : Md := (⟨"CoinSampler$Terms", "of", "(I)I"⟩, prog_10_method_5_code, 2, some .int, 1, 21)
theorem np_M_Te_of : (parseMethodDescriptor (mn M_Te_of).desc).map (fun d => d.parameters.length) = some 1 := by decide +kernel
theorem ok_M_Te_of : MdOK M_Te_of := ⟨(qm_2 (i := 80) rfl rfl), ini_CoinSampler_Terms.1, ini_CoinSampler_Terms.2, by decide +kernel⟩
theorem okv_M_Te_of : MdV M_Te_of := ⟨(qm_2 (i := 78) rfl rfl), (qm_2 (i := 79) rfl rfl)⟩
def M_Te_tell : Md := (⟨"CoinSampler$Terms", "tell", "(II)V"⟩, prog_10_method_6_code, 3, none, 1, 21)
theorem np_M_Te_tell : (parseMethodDescriptor (mn M_Te_tell).desc).map (fun d => d.parameters.length) = some 2 := by decide +kernel
theorem ok_M_Te_tell : MdOK M_Te_tell := ⟨(qm_5 (i := 147) rfl rfl), ini_CoinSampler_Terms.1, ini_CoinSampler_Terms.2, by decide +kernel⟩
theorem okv_M_Te_tell : MdV M_Te_tell := ⟨(qm_5 (i := 145) rfl rfl), (qm_5 (i := 146) rfl rfl)⟩
def M_Wa_init : Md := (⟨"CoinSampler$Walk", "<init>", "(LCoinSampler$Layout;)V"⟩, prog_11_method_1_code, 2, none, 0, 0)
theorem ini_CoinSampler_Walk : Cond.initialized "CoinSampler$Walk" ∈ UW ∧ (("CoinSampler$Walk" : String) ≠ "java/lang/invoke/MethodHandle" ∧ ("CoinSampler$Walk" : String) ≠ "java/lang/invoke/VarHandle") := ⟨(qm_1 (i := 7) rfl rfl), by decide +kernel⟩
theorem np_M_Wa_init : (parseMethodDescriptor (mn M_Wa_init).desc).map (fun d => d.parameters.length) = some 1 := by decide +kernel
theorem ok_M_Wa_init : MdOK M_Wa_init := ⟨(qm_1 (i := 184) rfl rfl), ini_CoinSampler_Walk.1, ini_CoinSampler_Walk.2, by decide +kernel⟩
theorem okv_M_Wa_init : Cond.instanceMethod (mn M_Wa_init) ∈ UW := (qm_1 (i := 183) rfl rfl)
def M_Wa_forgetRuns : Md := (⟨"CoinSampler$Walk", "forgetRuns", "()V"⟩, prog_11_method_2_code, 1, none, 0, 0)
theorem np_M_Wa_forgetRuns : (parseMethodDescriptor (mn M_Wa_forgetRuns).desc).map (fun d => d.parameters.length) = some 0 := by decide +kernel
theorem ok_M_Wa_forgetRuns : MdOK M_Wa_forgetRuns := ⟨(qm_5 (i := 102) rfl rfl), ini_CoinSampler_Walk.1, ini_CoinSampler_Walk.2, by decide +kernel⟩
theorem okv_M_Wa_forgetRuns : MdV M_Wa_forgetRuns := ⟨(qm_5 (i := 100) rfl rfl), (qm_5 (i := 101) rfl rfl)⟩
def M_Wa_hasRun : Md := (⟨"CoinSampler$Walk", "hasRun", "(I)Z"⟩, prog_11_method_3_code, 2, some .boolean, 0, 0)
theorem np_M_Wa_hasRun : (parseMethodDescriptor (mn M_Wa_hasRun).desc).map (fun d => d.parameters.length) = some 1 := by decide +kernel
theorem ok_M_Wa_hasRun : MdOK M_Wa_hasRun := ⟨(qm_6 (i := 99) rfl rfl), ini_CoinSampler_Walk.1, ini_CoinSampler_Walk.2, by decide +kernel⟩
theorem okv_M_Wa_hasRun : MdV M_Wa_hasRun := ⟨(qm_6 (i := 97) rfl rfl), (qm_6 (i := 98) rfl rfl)⟩
def M_Wa_hasHit : Md := (⟨"CoinSampler$Walk", "hasHit", "(I)Z"⟩, prog_11_method_4_code, 2, some .boolean, 2, 42)
theorem np_M_Wa_hasHit : (parseMethodDescriptor (mn M_Wa_hasHit).desc).map (fun d => d.parameters.length) = some 1 := by decide +kernel
theorem ok_M_Wa_hasHit : MdOK M_Wa_hasHit := ⟨(qm_9 (i := 186) rfl rfl), ini_CoinSampler_Walk.1, ini_CoinSampler_Walk.2, by decide +kernel⟩
theorem okv_M_Wa_hasHit : MdV M_Wa_hasHit := ⟨(qm_9 (i := 184) rfl rfl), (qm_9 (i := 185) rfl rfl)⟩
def M_Wa_hitsOf : Md := (⟨"CoinSampler$Walk", "hitsOf", "(I)I"⟩, prog_11_method_5_code, 2, some .int, 1, 21)
theorem np_M_Wa_hitsOf : (parseMethodDescriptor (mn M_Wa_hitsOf).desc).map (fun d => d.parameters.length) = some 1 := by decide +kernel
theorem ok_M_Wa_hitsOf : MdOK M_Wa_hitsOf := ⟨(qm_6 (i := 95) rfl rfl), ini_CoinSampler_Walk.1, ini_CoinSampler_Walk.2, by decide +kernel⟩
theorem okv_M_Wa_hitsOf : MdV M_Wa_hitsOf := ⟨(qm_6 (i := 93) rfl rfl), (qm_6 (i := 94) rfl rfl)⟩
def M_Wa_drawStart : Md := (⟨"CoinSampler$Walk", "drawStart", "()I"⟩, prog_11_method_6_code, 3, some .int, 2, 43)
theorem np_M_Wa_drawStart : (parseMethodDescriptor (mn M_Wa_drawStart).desc).map (fun d => d.parameters.length) = some 0 := by decide +kernel
theorem ok_M_Wa_drawStart : MdOK M_Wa_drawStart := ⟨(qm_6 (i := 76) rfl rfl), ini_CoinSampler_Walk.1, ini_CoinSampler_Walk.2, by decide +kernel⟩
theorem okv_M_Wa_drawStart : MdV M_Wa_drawStart := ⟨(qm_6 (i := 74) rfl rfl), (qm_6 (i := 75) rfl rfl)⟩
def M_Wa_isStart : Md := (⟨"CoinSampler$Walk", "isStart", "(I)Z"⟩, prog_11_method_7_code, 3, some .boolean, 0, 0)
theorem np_M_Wa_isStart : (parseMethodDescriptor (mn M_Wa_isStart).desc).map (fun d => d.parameters.length) = some 1 := by decide +kernel
theorem ok_M_Wa_isStart : MdOK M_Wa_isStart := ⟨(qm_6 (i := 83) rfl rfl), ini_CoinSampler_Walk.1, ini_CoinSampler_Walk.2, by decide +kernel⟩
theorem okv_M_Wa_isStart : MdV M_Wa_isStart := ⟨(qm_6 (i := 82) rfl rfl), (qm_p (i := 14) (q := (⟨"CoinSampler$Walk", "isStart", "(I)Z"⟩, _)) rfl rfl)⟩
def M_Wa_lowestFree : Md := (⟨"CoinSampler$Walk", "lowestFree", "()I"⟩, prog_11_method_8_code, 2, some .int, 1, 22)
theorem np_M_Wa_lowestFree : (parseMethodDescriptor (mn M_Wa_lowestFree).desc).map (fun d => d.parameters.length) = some 0 := by decide +kernel
theorem ok_M_Wa_lowestFree : MdOK M_Wa_lowestFree := ⟨(qm_6 (i := 87) rfl rfl), ini_CoinSampler_Walk.1, ini_CoinSampler_Walk.2, by decide +kernel⟩
theorem okv_M_Wa_lowestFree : MdV M_Wa_lowestFree := ⟨(qm_6 (i := 86) rfl rfl), (qm_p (i := 15) (q := (⟨"CoinSampler$Walk", "lowestFree", "()I"⟩, _)) rfl rfl)⟩
def M_Wa_follow : Md := (⟨"CoinSampler$Walk", "follow", "(I)V"⟩, prog_11_method_9_code, 5, none, 2, 42)
theorem np_M_Wa_follow : (parseMethodDescriptor (mn M_Wa_follow).desc).map (fun d => d.parameters.length) = some 1 := by decide +kernel
theorem ok_M_Wa_follow : MdOK M_Wa_follow := ⟨(qm_6 (i := 91) rfl rfl), ini_CoinSampler_Walk.1, ini_CoinSampler_Walk.2, by decide +kernel⟩
theorem okv_M_Wa_follow : MdV M_Wa_follow := ⟨(qm_6 (i := 89) rfl rfl), (qm_6 (i := 90) rfl rfl)⟩
def M_Wa_timesHit : Md := (⟨"CoinSampler$Walk", "timesHit", "(II)I"⟩, prog_11_method_10_code, 5, some .int, 3, 65)
theorem np_M_Wa_timesHit : (parseMethodDescriptor (mn M_Wa_timesHit).desc).map (fun d => d.parameters.length) = some 2 := by decide +kernel
theorem ok_M_Wa_timesHit : MdOK M_Wa_timesHit := ⟨(qm_6 (i := 235) rfl rfl), ini_CoinSampler_Walk.1, ini_CoinSampler_Walk.2, by decide +kernel⟩
theorem okv_M_Wa_timesHit : MdV M_Wa_timesHit := ⟨(qm_6 (i := 233) rfl rfl), (qm_6 (i := 234) rfl rfl)⟩
def M_Wa_timesCoinHit : Md := (⟨"CoinSampler$Walk", "timesCoinHit", "(I)I"⟩, prog_11_method_11_code, 4, some .int, 2, 42)
theorem np_M_Wa_timesCoinHit : (parseMethodDescriptor (mn M_Wa_timesCoinHit).desc).map (fun d => d.parameters.length) = some 1 := by decide +kernel
theorem ok_M_Wa_timesCoinHit : MdOK M_Wa_timesCoinHit := ⟨(qm_9 (i := 178) rfl rfl), ini_CoinSampler_Walk.1, ini_CoinSampler_Walk.2, by decide +kernel⟩
theorem okv_M_Wa_timesCoinHit : MdV M_Wa_timesCoinHit := ⟨(qm_9 (i := 176) rfl rfl), (qm_9 (i := 177) rfl rfl)⟩
def M_Wa_isLookedAt : Md := (⟨"CoinSampler$Walk", "isLookedAt", "(II)Z"⟩, prog_11_method_12_code, 3, some .boolean, 4, 89)
theorem np_M_Wa_isLookedAt : (parseMethodDescriptor (mn M_Wa_isLookedAt).desc).map (fun d => d.parameters.length) = some 2 := by decide +kernel
theorem ok_M_Wa_isLookedAt : MdOK M_Wa_isLookedAt := ⟨(qm_9 (i := 215) rfl rfl), ini_CoinSampler_Walk.1, ini_CoinSampler_Walk.2, by decide +kernel⟩
theorem okv_M_Wa_isLookedAt : MdV M_Wa_isLookedAt := ⟨(qm_9 (i := 213) rfl rfl), (qm_9 (i := 214) rfl rfl)⟩
def M_Wa_lackingBy : Md := (⟨"CoinSampler$Walk", "lackingBy", "(LCoinSampler$Ledger;I)I"⟩, prog_11_method_13_code, 5, some .int, 5, 111)
theorem np_M_Wa_lackingBy : (parseMethodDescriptor (mn M_Wa_lackingBy).desc).map (fun d => d.parameters.length) = some 2 := by decide +kernel
theorem ok_M_Wa_lackingBy : MdOK M_Wa_lackingBy := ⟨(qm_10 (i := 100) rfl rfl), ini_CoinSampler_Walk.1, ini_CoinSampler_Walk.2, by decide +kernel⟩
theorem okv_M_Wa_lackingBy : MdV M_Wa_lackingBy := ⟨(qm_10 (i := 98) rfl rfl), (qm_10 (i := 99) rfl rfl)⟩
def M_Cs_init : Md := (⟨"CoinSampler", "<init>", "()V"⟩, prog_1_method_1_code, 1, none, 2, 42)
theorem ini_CoinSampler : Cond.initialized "CoinSampler" ∈ UW ∧ (("CoinSampler" : String) ≠ "java/lang/invoke/MethodHandle" ∧ ("CoinSampler" : String) ≠ "java/lang/invoke/VarHandle") := ⟨(qm_1 (i := 1) rfl rfl), by decide +kernel⟩
theorem np_M_Cs_init : (parseMethodDescriptor (mn M_Cs_init).desc).map (fun d => d.parameters.length) = some 0 := by decide +kernel
theorem ok_M_Cs_init : MdOK M_Cs_init := ⟨(qm_1 (i := 56) rfl rfl), ini_CoinSampler.1, ini_CoinSampler.2, by decide +kernel⟩
theorem okv_M_Cs_init : Cond.instanceMethod (mn M_Cs_init) ∈ UW := (qm_1 (i := 55) rfl rfl)
def M_Cs_feed : Md := (⟨"CoinSampler", "feed", "(IIIII)I"⟩, prog_1_method_2_code, 6, some .int, 1, 22)
theorem np_M_Cs_feed : (parseMethodDescriptor (mn M_Cs_feed).desc).map (fun d => d.parameters.length) = some 5 := by decide +kernel
theorem ok_M_Cs_feed : MdOK M_Cs_feed := ⟨(qm_5 (i := 120) rfl rfl), ini_CoinSampler.1, ini_CoinSampler.2, by decide +kernel⟩
theorem okv_M_Cs_feed : MdV M_Cs_feed := ⟨(qm_5 (i := 118) rfl rfl), (qm_5 (i := 119) rfl rfl)⟩
def M_Cs_text : Md := (⟨"CoinSampler", "text", "(I)I"⟩, prog_1_method_3_code, 2, some .int, 8, 178)
theorem np_M_Cs_text : (parseMethodDescriptor (mn M_Cs_text).desc).map (fun d => d.parameters.length) = some 1 := by decide +kernel
theorem ok_M_Cs_text : MdOK M_Cs_text := ⟨(qm_5 (i := 0) rfl rfl), ini_CoinSampler.1, ini_CoinSampler.2, by decide +kernel⟩
theorem okv_M_Cs_text : MdV M_Cs_text := ⟨(qm_4 (i := 238) rfl rfl), (qm_4 (i := 239) rfl rfl)⟩
def M_Cs_fault : Md := (⟨"CoinSampler", "fault", "(I)I"⟩, prog_1_method_4_code, 2, some .int, 0, 0)
theorem np_M_Cs_fault : (parseMethodDescriptor (mn M_Cs_fault).desc).map (fun d => d.parameters.length) = some 1 := by decide +kernel
theorem ok_M_Cs_fault : MdOK M_Cs_fault := ⟨(qm_5 (i := 128) rfl rfl), ini_CoinSampler.1, ini_CoinSampler.2, by decide +kernel⟩
theorem okv_M_Cs_fault : MdV M_Cs_fault := ⟨(qm_5 (i := 126) rfl rfl), (qm_5 (i := 127) rfl rfl)⟩
def M_Cs_terms : Md := (⟨"CoinSampler", "terms", "(II)I"⟩, prog_1_method_5_code, 4, some .int, 2, 43)
theorem np_M_Cs_terms : (parseMethodDescriptor (mn M_Cs_terms).desc).map (fun d => d.parameters.length) = some 2 := by decide +kernel
theorem ok_M_Cs_terms : MdOK M_Cs_terms := ⟨(qm_5 (i := 134) rfl rfl), ini_CoinSampler.1, ini_CoinSampler.2, by decide +kernel⟩
theorem okv_M_Cs_terms : MdV M_Cs_terms := ⟨(qm_5 (i := 132) rfl rfl), (qm_5 (i := 133) rfl rfl)⟩
def M_Cs_add : Md := (⟨"CoinSampler", "add", "(III)I"⟩, prog_1_method_6_code, 4, some .int, 4, 85)
theorem np_M_Cs_add : (parseMethodDescriptor (mn M_Cs_add).desc).map (fun d => d.parameters.length) = some 3 := by decide +kernel
theorem ok_M_Cs_add : MdOK M_Cs_add := ⟨(qm_5 (i := 153) rfl rfl), ini_CoinSampler.1, ini_CoinSampler.2, by decide +kernel⟩
theorem okv_M_Cs_add : MdV M_Cs_add := ⟨(qm_5 (i := 151) rfl rfl), (qm_5 (i := 152) rfl rfl)⟩
def M_Cs_post : Md := (⟨"CoinSampler", "post", "(II)I"⟩, prog_1_method_7_code, 4, some .int, 4, 85)
theorem np_M_Cs_post : (parseMethodDescriptor (mn M_Cs_post).desc).map (fun d => d.parameters.length) = some 2 := by decide +kernel
theorem ok_M_Cs_post : MdOK M_Cs_post := ⟨(qm_5 (i := 167) rfl rfl), ini_CoinSampler.1, ini_CoinSampler.2, by decide +kernel⟩
theorem okv_M_Cs_post : MdV M_Cs_post := ⟨(qm_5 (i := 165) rfl rfl), (qm_5 (i := 166) rfl rfl)⟩
def M_Cs_audit : Md := (⟨"CoinSampler", "audit", "(II)I"⟩, prog_1_method_8_code, 4, some .int, 2, 43)
theorem np_M_Cs_audit : (parseMethodDescriptor (mn M_Cs_audit).desc).map (fun d => d.parameters.length) = some 2 := by decide +kernel
theorem ok_M_Cs_audit : MdOK M_Cs_audit := ⟨(qm_5 (i := 173) rfl rfl), ini_CoinSampler.1, ini_CoinSampler.2, by decide +kernel⟩
theorem okv_M_Cs_audit : MdV M_Cs_audit := ⟨(qm_5 (i := 171) rfl rfl), (qm_5 (i := 172) rfl rfl)⟩
def M_Cs_forget : Md := (⟨"CoinSampler", "forget", "(I)I"⟩, prog_1_method_9_code, 3, some .int, 1, 21)
theorem np_M_Cs_forget : (parseMethodDescriptor (mn M_Cs_forget).desc).map (fun d => d.parameters.length) = some 1 := by decide +kernel
theorem ok_M_Cs_forget : MdOK M_Cs_forget := ⟨(qm_5 (i := 179) rfl rfl), ini_CoinSampler.1, ini_CoinSampler.2, by decide +kernel⟩
theorem okv_M_Cs_forget : MdV M_Cs_forget := ⟨(qm_5 (i := 177) rfl rfl), (qm_5 (i := 178) rfl rfl)⟩
def M_Cs_interval : Md := (⟨"CoinSampler", "interval", "(I)I"⟩, prog_1_method_10_code, 2, some .int, 4, 85)
theorem np_M_Cs_interval : (parseMethodDescriptor (mn M_Cs_interval).desc).map (fun d => d.parameters.length) = some 1 := by decide +kernel
theorem ok_M_Cs_interval : MdOK M_Cs_interval := ⟨(qm_5 (i := 189) rfl rfl), ini_CoinSampler.1, ini_CoinSampler.2, by decide +kernel⟩
theorem okv_M_Cs_interval : MdV M_Cs_interval := ⟨(qm_5 (i := 187) rfl rfl), (qm_5 (i := 188) rfl rfl)⟩
def M_Cs_plan : Md := (⟨"CoinSampler", "plan", "()I"⟩, prog_1_method_11_code, 3, some .int, 4, 91)
theorem np_M_Cs_plan : (parseMethodDescriptor (mn M_Cs_plan).desc).map (fun d => d.parameters.length) = some 0 := by decide +kernel
theorem ok_M_Cs_plan : MdOK M_Cs_plan := ⟨(qm_5 (i := 210) rfl rfl), ini_CoinSampler.1, ini_CoinSampler.2, by decide +kernel⟩
theorem okv_M_Cs_plan : MdV M_Cs_plan := ⟨(qm_5 (i := 208) rfl rfl), (qm_5 (i := 209) rfl rfl)⟩
def M_Cs_draw : Md := (⟨"CoinSampler", "draw", "()I"⟩, prog_1_method_12_code, 2, some .int, 3, 66)
theorem np_M_Cs_draw : (parseMethodDescriptor (mn M_Cs_draw).desc).map (fun d => d.parameters.length) = some 0 := by decide +kernel
theorem ok_M_Cs_draw : MdOK M_Cs_draw := ⟨(qm_6 (i := 72) rfl rfl), ini_CoinSampler.1, ini_CoinSampler.2, by decide +kernel⟩
theorem okv_M_Cs_draw : MdV M_Cs_draw := ⟨(qm_6 (i := 70) rfl rfl), (qm_6 (i := 71) rfl rfl)⟩
def M_Cs_clear : Md := (⟨"CoinSampler", "clear", "()I"⟩, prog_1_method_13_code, 2, some .int, 1, 20)
theorem np_M_Cs_clear : (parseMethodDescriptor (mn M_Cs_clear).desc).map (fun d => d.parameters.length) = some 0 := by decide +kernel
theorem ok_M_Cs_clear : MdOK M_Cs_clear := ⟨(qm_5 (i := 236) rfl rfl), ini_CoinSampler.1, ini_CoinSampler.2, by decide +kernel⟩
theorem okv_M_Cs_clear : MdV M_Cs_clear := ⟨(qm_5 (i := 234) rfl rfl), (qm_5 (i := 235) rfl rfl)⟩
def M_Cs_find : Md := (⟨"CoinSampler", "find", "(II)I"⟩, prog_1_method_14_code, 3, some .int, 1, 23)
theorem np_M_Cs_find : (parseMethodDescriptor (mn M_Cs_find).desc).map (fun d => d.parameters.length) = some 2 := by decide +kernel
theorem ok_M_Cs_find : MdOK M_Cs_find := ⟨(qm_7 (i := 16) rfl rfl), ini_CoinSampler.1, ini_CoinSampler.2, by decide +kernel⟩
theorem okv_M_Cs_find : MdV M_Cs_find := ⟨(qm_7 (i := 14) rfl rfl), (qm_7 (i := 15) rfl rfl)⟩
def M_Cs_item : Md := (⟨"CoinSampler", "item", "(II)I"⟩, prog_1_method_15_code, 3, some .int, 4, 89)
theorem np_M_Cs_item : (parseMethodDescriptor (mn M_Cs_item).desc).map (fun d => d.parameters.length) = some 2 := by decide +kernel
theorem ok_M_Cs_item : MdOK M_Cs_item := ⟨(qm_6 (i := 216) rfl rfl), ini_CoinSampler.1, ini_CoinSampler.2, by decide +kernel⟩
theorem okv_M_Cs_item : MdV M_Cs_item := ⟨(qm_6 (i := 214) rfl rfl), (qm_6 (i := 215) rfl rfl)⟩
def M_Cs_coin : Md := (⟨"CoinSampler", "coin", "(II)I"⟩, prog_1_method_16_code, 4, some .int, 3, 65)
theorem np_M_Cs_coin : (parseMethodDescriptor (mn M_Cs_coin).desc).map (fun d => d.parameters.length) = some 2 := by decide +kernel
theorem ok_M_Cs_coin : MdOK M_Cs_coin := ⟨(qm_9 (i := 173) rfl rfl), ini_CoinSampler.1, ini_CoinSampler.2, by decide +kernel⟩
theorem okv_M_Cs_coin : MdV M_Cs_coin := ⟨(qm_9 (i := 171) rfl rfl), (qm_9 (i := 172) rfl rfl)⟩
def M_Cs_hit : Md := (⟨"CoinSampler", "hit", "(II)I"⟩, prog_1_method_17_code, 3, some .int, 3, 64)
theorem np_M_Cs_hit : (parseMethodDescriptor (mn M_Cs_hit).desc).map (fun d => d.parameters.length) = some 2 := by decide +kernel
theorem ok_M_Cs_hit : MdOK M_Cs_hit := ⟨(qm_9 (i := 182) rfl rfl), ini_CoinSampler.1, ini_CoinSampler.2, by decide +kernel⟩
theorem okv_M_Cs_hit : MdV M_Cs_hit := ⟨(qm_9 (i := 180) rfl rfl), (qm_9 (i := 181) rfl rfl)⟩
def M_Cs_start : Md := (⟨"CoinSampler", "start", "(I)I"⟩, prog_1_method_18_code, 2, some .int, 1, 21)
theorem np_M_Cs_start : (parseMethodDescriptor (mn M_Cs_start).desc).map (fun d => d.parameters.length) = some 1 := by decide +kernel
theorem ok_M_Cs_start : MdOK M_Cs_start := ⟨(qm_9 (i := 190) rfl rfl), ini_CoinSampler.1, ini_CoinSampler.2, by decide +kernel⟩
theorem okv_M_Cs_start : MdV M_Cs_start := ⟨(qm_9 (i := 188) rfl rfl), (qm_9 (i := 189) rfl rfl)⟩
def M_Cs_certain : Md := (⟨"CoinSampler", "certain", "(I)I"⟩, prog_1_method_19_code, 2, some .int, 7, 157)
theorem np_M_Cs_certain : (parseMethodDescriptor (mn M_Cs_certain).desc).map (fun d => d.parameters.length) = some 1 := by decide +kernel
theorem ok_M_Cs_certain : MdOK M_Cs_certain := ⟨(qm_9 (i := 202) rfl rfl), ini_CoinSampler.1, ini_CoinSampler.2, by decide +kernel⟩
theorem okv_M_Cs_certain : MdV M_Cs_certain := ⟨(qm_9 (i := 200) rfl rfl), (qm_9 (i := 201) rfl rfl)⟩
def M_Cs_lacking : Md := (⟨"CoinSampler", "lacking", "(I)I"⟩, prog_1_method_20_code, 2, some .int, 7, 157)
theorem np_M_Cs_lacking : (parseMethodDescriptor (mn M_Cs_lacking).desc).map (fun d => d.parameters.length) = some 1 := by decide +kernel
theorem ok_M_Cs_lacking : MdOK M_Cs_lacking := ⟨(qm_9 (i := 221) rfl rfl), ini_CoinSampler.1, ini_CoinSampler.2, by decide +kernel⟩
theorem okv_M_Cs_lacking : MdV M_Cs_lacking := ⟨(qm_9 (i := 219) rfl rfl), (qm_9 (i := 220) rfl rfl)⟩
def M_Cs_account : Md := (⟨"CoinSampler", "account", "(II)I"⟩, prog_1_method_21_code, 5, some .int, 5, 111)
theorem np_M_Cs_account : (parseMethodDescriptor (mn M_Cs_account).desc).map (fun d => d.parameters.length) = some 2 := by decide +kernel
theorem ok_M_Cs_account : MdOK M_Cs_account := ⟨(qm_9 (i := 35) rfl rfl), ini_CoinSampler.1, ini_CoinSampler.2, by decide +kernel⟩
theorem okv_M_Cs_account : MdV M_Cs_account := ⟨(qm_9 (i := 33) rfl rfl), (qm_9 (i := 34) rfl rfl)⟩
def M_Cs_accounts : Md := (⟨"CoinSampler", "accounts", "(I)I"⟩, prog_1_method_22_code, 4, some .int, 2, 43)
theorem np_M_Cs_accounts : (parseMethodDescriptor (mn M_Cs_accounts).desc).map (fun d => d.parameters.length) = some 1 := by decide +kernel
theorem ok_M_Cs_accounts : MdOK M_Cs_accounts := ⟨(qm_9 (i := 161) rfl rfl), ini_CoinSampler.1, ini_CoinSampler.2, by decide +kernel⟩
theorem okv_M_Cs_accounts : MdV M_Cs_accounts := ⟨(qm_9 (i := 159) rfl rfl), (qm_9 (i := 160) rfl rfl)⟩
def M_Cs_drawn : Md := (⟨"CoinSampler", "drawn", "(I)I"⟩, prog_1_method_23_code, 2, some .int, 7, 157)
theorem np_M_Cs_drawn : (parseMethodDescriptor (mn M_Cs_drawn).desc).map (fun d => d.parameters.length) = some 1 := by decide +kernel
theorem ok_M_Cs_drawn : MdOK M_Cs_drawn := ⟨(qm_9 (i := 230) rfl rfl), ini_CoinSampler.1, ini_CoinSampler.2, by decide +kernel⟩
theorem okv_M_Cs_drawn : MdV M_Cs_drawn := ⟨(qm_9 (i := 228) rfl rfl), (qm_9 (i := 229) rfl rfl)⟩
def M_Cs_line : Md := (⟨"CoinSampler", "line", "(II)I"⟩, prog_1_method_24_code, 4, some .int, 7, 157)
theorem np_M_Cs_line : (parseMethodDescriptor (mn M_Cs_line).desc).map (fun d => d.parameters.length) = some 2 := by decide +kernel
theorem ok_M_Cs_line : MdOK M_Cs_line := ⟨(qm_9 (i := 234) rfl rfl), ini_CoinSampler.1, ini_CoinSampler.2, by decide +kernel⟩
theorem okv_M_Cs_line : MdV M_Cs_line := ⟨(qm_9 (i := 232) rfl rfl), (qm_9 (i := 233) rfl rfl)⟩
def M_Cs_projected : Md := (⟨"CoinSampler", "projected", "(I)I"⟩, prog_1_method_27_code, 2, some .int, 5, 108)
theorem np_M_Cs_projected : (parseMethodDescriptor (mn M_Cs_projected).desc).map (fun d => d.parameters.length) = some 1 := by decide +kernel
theorem ok_M_Cs_projected : MdOK M_Cs_projected := ⟨(qm_10 (i := 24) rfl rfl), ini_CoinSampler.1, ini_CoinSampler.2, by decide +kernel⟩
theorem okv_M_Cs_projected : MdV M_Cs_projected := ⟨(qm_10 (i := 22) rfl rfl), (qm_10 (i := 23) rfl rfl)⟩
def M_Cs_taint : Md := (⟨"CoinSampler", "taint", "(II)I"⟩, prog_1_method_28_code, 3, some .int, 4, 109)
theorem np_M_Cs_taint : (parseMethodDescriptor (mn M_Cs_taint).desc).map (fun d => d.parameters.length) = some 2 := by decide +kernel
theorem ok_M_Cs_taint : MdOK M_Cs_taint := ⟨(qm_10 (i := 89) rfl rfl), ini_CoinSampler.1, ini_CoinSampler.2, by decide +kernel⟩
theorem okv_M_Cs_taint : MdV M_Cs_taint := ⟨(qm_10 (i := 87) rfl rfl), (qm_10 (i := 88) rfl rfl)⟩
def M_Cs_bound : Md := (⟨"CoinSampler", "bound", "(I)I"⟩, prog_1_method_29_code, 2, some .int, 7, 176)
theorem np_M_Cs_bound : (parseMethodDescriptor (mn M_Cs_bound).desc).map (fun d => d.parameters.length) = some 1 := by decide +kernel
theorem ok_M_Cs_bound : MdOK M_Cs_bound := ⟨(qm_10 (i := 41) rfl rfl), ini_CoinSampler.1, ini_CoinSampler.2, by decide +kernel⟩
theorem okv_M_Cs_bound : MdV M_Cs_bound := ⟨(qm_10 (i := 39) rfl rfl), (qm_10 (i := 40) rfl rfl)⟩
def M_Cs_below : Md := (⟨"CoinSampler", "below", "(I)I"⟩, prog_1_method_30_code, 2, some .int, 7, 176)
theorem np_M_Cs_below : (parseMethodDescriptor (mn M_Cs_below).desc).map (fun d => d.parameters.length) = some 1 := by decide +kernel
theorem ok_M_Cs_below : MdOK M_Cs_below := ⟨(qm_10 (i := 85) rfl rfl), ini_CoinSampler.1, ini_CoinSampler.2, by decide +kernel⟩
theorem okv_M_Cs_below : MdV M_Cs_below := ⟨(qm_10 (i := 83) rfl rfl), (qm_10 (i := 84) rfl rfl)⟩
def M_Cs_judged : Md := (⟨"CoinSampler", "judged", "()I"⟩, prog_1_method_31_code, 1, some .int, 7, 174)
theorem np_M_Cs_judged : (parseMethodDescriptor (mn M_Cs_judged).desc).map (fun d => d.parameters.length) = some 0 := by decide +kernel
theorem ok_M_Cs_judged : MdOK M_Cs_judged := ⟨(qm_10 (i := 96) rfl rfl), ini_CoinSampler.1, ini_CoinSampler.2, by decide +kernel⟩
theorem okv_M_Cs_judged : MdV M_Cs_judged := ⟨(qm_10 (i := 94) rfl rfl), (qm_10 (i := 95) rfl rfl)⟩
def M_Cs_covered : Md := (⟨"CoinSampler", "covered", "()I"⟩, prog_1_method_39_code, 5, some .int, 5, 111)
theorem np_M_Cs_covered : (parseMethodDescriptor (mn M_Cs_covered).desc).map (fun d => d.parameters.length) = some 0 := by decide +kernel
theorem ok_M_Cs_covered : MdOK M_Cs_covered := ⟨(qm_10 (i := 16) rfl rfl), ini_CoinSampler.1, ini_CoinSampler.2, by decide +kernel⟩
theorem okv_M_Cs_covered : MdV M_Cs_covered := ⟨(qm_10 (i := 14) rfl rfl), (qm_10 (i := 15) rfl rfl)⟩
def M_Cs_count : Md := (⟨"CoinSampler", "count", "(I)I"⟩, prog_1_method_45_code, 2, some .int, 5, 111)
theorem np_M_Cs_count : (parseMethodDescriptor (mn M_Cs_count).desc).map (fun d => d.parameters.length) = some 1 := by decide +kernel
theorem ok_M_Cs_count : MdOK M_Cs_count := ⟨(qm_10 (i := 161) rfl rfl), ini_CoinSampler.1, ini_CoinSampler.2, by decide +kernel⟩
theorem okv_M_Cs_count : MdV M_Cs_count := ⟨(qm_10 (i := 159) rfl rfl), (qm_10 (i := 160) rfl rfl)⟩
def M_Cs_isBook : Md := (⟨"CoinSampler", "isBook", "(I)Z"⟩, prog_1_method_46_code, 1, some .boolean, 0, 0)
theorem np_M_Cs_isBook : (parseMethodDescriptor (mn M_Cs_isBook).desc).map (fun d => d.parameters.length) = some 1 := by decide +kernel
theorem ok_M_Cs_isBook : MdOK M_Cs_isBook := ⟨(qm_5 (i := 156) rfl rfl), ini_CoinSampler.1, ini_CoinSampler.2, by decide +kernel⟩
theorem oks_M_Cs_isBook : Cond.static (mn M_Cs_isBook) ∈ UW := (qm_5 (i := 155) rfl rfl)
def M_Cs_listed : Md := (⟨"CoinSampler", "listed", "(II)I"⟩, prog_1_method_48_code, 5, some .int, 6, 133)
theorem np_M_Cs_listed : (parseMethodDescriptor (mn M_Cs_listed).desc).map (fun d => d.parameters.length) = some 2 := by decide +kernel
theorem ok_M_Cs_listed : MdOK M_Cs_listed := ⟨(qm_9 (i := 206) rfl rfl), ini_CoinSampler.1, ini_CoinSampler.2, by decide +kernel⟩
theorem okv_M_Cs_listed : MdV M_Cs_listed := ⟨(qm_9 (i := 205) rfl rfl), (qm_p (i := 19) (q := (⟨"CoinSampler", "listed", "(II)I"⟩, _)) rfl rfl)⟩
def M_Cs_isOfKind : Md := (⟨"CoinSampler", "isOfKind", "(II)Z"⟩, prog_1_method_49_code, 3, some .boolean, 5, 111)
theorem np_M_Cs_isOfKind : (parseMethodDescriptor (mn M_Cs_isOfKind).desc).map (fun d => d.parameters.length) = some 2 := by decide +kernel
theorem ok_M_Cs_isOfKind : MdOK M_Cs_isOfKind := ⟨(qm_9 (i := 210) rfl rfl), ini_CoinSampler.1, ini_CoinSampler.2, by decide +kernel⟩
theorem okv_M_Cs_isOfKind : MdV M_Cs_isOfKind := ⟨(qm_9 (i := 209) rfl rfl), (qm_p (i := 20) (q := (⟨"CoinSampler", "isOfKind", "(II)Z"⟩, _)) rfl rfl)⟩
def M_Cs_shareOf : Md := (⟨"CoinSampler", "shareOf", "(II)I"⟩, prog_1_method_50_code, 3, some .int, 4, 89)
theorem np_M_Cs_shareOf : (parseMethodDescriptor (mn M_Cs_shareOf).desc).map (fun d => d.parameters.length) = some 2 := by decide +kernel
theorem ok_M_Cs_shareOf : MdOK M_Cs_shareOf := ⟨(qm_9 (i := 49) rfl rfl), ini_CoinSampler.1, ini_CoinSampler.2, by decide +kernel⟩
theorem okv_M_Cs_shareOf : MdV M_Cs_shareOf := ⟨(qm_9 (i := 48) rfl rfl), (qm_p (i := 18) (q := (⟨"CoinSampler", "shareOf", "(II)I"⟩, _)) rfl rfl)⟩
def M_Cs_writeLine : Md := (⟨"CoinSampler", "writeLine", "(I)V"⟩, prog_1_method_51_code, 2, none, 4, 89)
theorem np_M_Cs_writeLine : (parseMethodDescriptor (mn M_Cs_writeLine).desc).map (fun d => d.parameters.length) = some 1 := by decide +kernel
theorem ok_M_Cs_writeLine : MdOK M_Cs_writeLine := ⟨(qm_9 (i := 238) rfl rfl), ini_CoinSampler.1, ini_CoinSampler.2, by decide +kernel⟩
theorem okv_M_Cs_writeLine : MdV M_Cs_writeLine := ⟨(qm_9 (i := 237) rfl rfl), (qm_p (i := 21) (q := (⟨"CoinSampler", "writeLine", "(I)V"⟩, _)) rfl rfl)⟩
def M_Cs_itemsHit : Md := (⟨"CoinSampler", "itemsHit", "()I"⟩, prog_1_method_55_code, 3, some .int, 4, 89)
theorem np_M_Cs_itemsHit : (parseMethodDescriptor (mn M_Cs_itemsHit).desc).map (fun d => d.parameters.length) = some 0 := by decide +kernel
theorem ok_M_Cs_itemsHit : MdOK M_Cs_itemsHit := ⟨(qm_10 (i := 166) rfl rfl), ini_CoinSampler.1, ini_CoinSampler.2, by decide +kernel⟩
theorem okv_M_Cs_itemsHit : MdV M_Cs_itemsHit := ⟨(qm_10 (i := 165) rfl rfl), (qm_p (i := 23) (q := (⟨"CoinSampler", "itemsHit", "()I"⟩, _)) rfl rfl)⟩
def M_Ma_floorMod : Md := (⟨"java/lang/Math", "floorMod", "(II)I"⟩, prog_28_method_50_code, 3, some .int, 0, 0)
theorem ini_java_lang_Math : Cond.initialized "java/lang/Math" ∈ UW ∧ (("java/lang/Math" : String) ≠ "java/lang/invoke/MethodHandle" ∧ ("java/lang/Math" : String) ≠ "java/lang/invoke/VarHandle") := ⟨(qm_1 (i := 23) rfl rfl), by decide +kernel⟩
theorem np_M_Ma_floorMod : (parseMethodDescriptor (mn M_Ma_floorMod).desc).map (fun d => d.parameters.length) = some 2 := by decide +kernel
theorem ok_M_Ma_floorMod : MdOK M_Ma_floorMod := ⟨(qm_7 (i := 7) rfl rfl), ini_java_lang_Math.1, ini_java_lang_Math.2, by decide +kernel⟩
theorem oks_M_Ma_floorMod : Cond.static (mn M_Ma_floorMod) ∈ UW := (qm_7 (i := 6) rfl rfl)
def M_Ma_max : Md := (⟨"java/lang/Math", "max", "(II)I"⟩, prog_28_method_65_code, 2, some .int, 0, 0)
theorem np_M_Ma_max : (parseMethodDescriptor (mn M_Ma_max).desc).map (fun d => d.parameters.length) = some 2 := by decide +kernel
theorem ok_M_Ma_max : MdOK M_Ma_max := ⟨(qm_3 (i := 56) rfl rfl), ini_java_lang_Math.1, ini_java_lang_Math.2, by decide +kernel⟩
theorem oks_M_Ma_max : Cond.static (mn M_Ma_max) ∈ UW := (qm_3 (i := 55) rfl rfl)
def M_Sg_length : Md := (⟨"java/lang/String", "length", "()I"⟩, prog_30_method_54_code, 1, some .int, 1, 20)
theorem ini_java_lang_String : Cond.initialized "java/lang/String" ∈ UW ∧ (("java/lang/String" : String) ≠ "java/lang/invoke/MethodHandle" ∧ ("java/lang/String" : String) ≠ "java/lang/invoke/VarHandle") := ⟨(qm_1 (i := 20) rfl rfl), by decide +kernel⟩
theorem np_M_Sg_length : (parseMethodDescriptor (mn M_Sg_length).desc).map (fun d => d.parameters.length) = some 0 := by decide +kernel
theorem ok_M_Sg_length : MdOK M_Sg_length := ⟨(qm_4 (i := 60) rfl rfl), ini_java_lang_String.1, ini_java_lang_String.2, by decide +kernel⟩
theorem okv_M_Sg_length : MdV M_Sg_length := ⟨(qm_4 (i := 58) rfl rfl), (qm_4 (i := 59) rfl rfl)⟩
def M_Sg_charAt : Md := (⟨"java/lang/String", "charAt", "(I)C"⟩, prog_30_method_56_code, 2, some .char, 4, 85)
theorem np_M_Sg_charAt : (parseMethodDescriptor (mn M_Sg_charAt).desc).map (fun d => d.parameters.length) = some 1 := by decide +kernel
theorem ok_M_Sg_charAt : MdOK M_Sg_charAt := ⟨(qm_5 (i := 34) rfl rfl), ini_java_lang_String.1, ini_java_lang_String.2, by decide +kernel⟩
theorem okv_M_Sg_charAt : MdV M_Sg_charAt := ⟨(qm_5 (i := 32) rfl rfl), (qm_5 (i := 33) rfl rfl)⟩
def M_Sg_coder : Md := (⟨"java/lang/String", "coder", "()B"⟩, prog_30_method_152_code, 1, some .byte, 0, 0)
theorem np_M_Sg_coder : (parseMethodDescriptor (mn M_Sg_coder).desc).map (fun d => d.parameters.length) = some 0 := by decide +kernel
theorem ok_M_Sg_coder : MdOK M_Sg_coder := ⟨(qm_4 (i := 64) rfl rfl), ini_java_lang_String.1, ini_java_lang_String.2, by decide +kernel⟩
theorem okv_M_Sg_coder : MdV M_Sg_coder := ⟨(qm_4 (i := 62) rfl rfl), (qm_4 (i := 63) rfl rfl)⟩
def M_Sg_isLatin1 : Md := (⟨"java/lang/String", "isLatin1", "()Z"⟩, prog_30_method_154_code, 1, some .boolean, 0, 0)
theorem np_M_Sg_isLatin1 : (parseMethodDescriptor (mn M_Sg_isLatin1).desc).map (fun d => d.parameters.length) = some 0 := by decide +kernel
theorem ok_M_Sg_isLatin1 : MdOK M_Sg_isLatin1 := ⟨(qm_5 (i := 38) rfl rfl), ini_java_lang_String.1, ini_java_lang_String.2, by decide +kernel⟩
theorem okv_M_Sg_isLatin1 : MdV M_Sg_isLatin1 := ⟨(qm_5 (i := 36) rfl rfl), (qm_5 (i := 37) rfl rfl)⟩
def M_Sg_checkIndex : Md := (⟨"java/lang/String", "checkIndex", "(II)V"⟩, prog_30_method_155_code, 2, none, 1, 22)
theorem np_M_Sg_checkIndex : (parseMethodDescriptor (mn M_Sg_checkIndex).desc).map (fun d => d.parameters.length) = some 2 := by decide +kernel
theorem ok_M_Sg_checkIndex : MdOK M_Sg_checkIndex := ⟨(qm_4 (i := 143) rfl rfl), ini_java_lang_String.1, ini_java_lang_String.2, by decide +kernel⟩
theorem oks_M_Sg_checkIndex : Cond.static (mn M_Sg_checkIndex) ∈ UW := (qm_4 (i := 142) rfl rfl)
def M_Sl_charAt : Md := (⟨"java/lang/StringLatin1", "charAt", "([BI)C"⟩, prog_32_method_2_code, 2, some .char, 2, 43)
theorem ini_java_lang_StringLatin1 : Cond.initialized "java/lang/StringLatin1" ∈ UW ∧ (("java/lang/StringLatin1" : String) ≠ "java/lang/invoke/MethodHandle" ∧ ("java/lang/StringLatin1" : String) ≠ "java/lang/invoke/VarHandle") := ⟨(qm_1 (i := 26) rfl rfl), by decide +kernel⟩
theorem np_M_Sl_charAt : (parseMethodDescriptor (mn M_Sl_charAt).desc).map (fun d => d.parameters.length) = some 2 := by decide +kernel
theorem ok_M_Sl_charAt : MdOK M_Sl_charAt := ⟨(qm_5 (i := 41) rfl rfl), ini_java_lang_StringLatin1.1, ini_java_lang_StringLatin1.2, by decide +kernel⟩
theorem oks_M_Sl_charAt : Cond.static (mn M_Sl_charAt) ∈ UW := (qm_5 (i := 40) rfl rfl)
def M_Su_charAt : Md := (⟨"java/lang/StringUTF16", "charAt", "([BI)C"⟩, prog_33_method_83_code, 2, some .char, 3, 64)
theorem ini_java_lang_StringUTF16 : Cond.initialized "java/lang/StringUTF16" ∈ UW ∧ (("java/lang/StringUTF16" : String) ≠ "java/lang/invoke/MethodHandle" ∧ ("java/lang/StringUTF16" : String) ≠ "java/lang/invoke/VarHandle") := ⟨(qm_1 (i := 21) rfl rfl), by decide +kernel⟩
theorem np_M_Su_charAt : (parseMethodDescriptor (mn M_Su_charAt).desc).map (fun d => d.parameters.length) = some 2 := by decide +kernel
theorem ok_M_Su_charAt : MdOK M_Su_charAt := ⟨(qm_5 (i := 45) rfl rfl), ini_java_lang_StringUTF16.1, ini_java_lang_StringUTF16.2, by decide +kernel⟩
theorem oks_M_Su_charAt : Cond.static (mn M_Su_charAt) ∈ UW := (qm_5 (i := 44) rfl rfl)
def M_Ar_fill : Md := (⟨"java/util/Arrays", "fill", "([II)V"⟩, prog_44_method_103_code, 4, none, 0, 0)
theorem ini_java_util_Arrays : Cond.initialized "java/util/Arrays" ∈ UW ∧ (("java/util/Arrays" : String) ≠ "java/lang/invoke/MethodHandle" ∧ ("java/util/Arrays" : String) ≠ "java/lang/invoke/VarHandle") := ⟨(qm_1 (i := 24) rfl rfl), by decide +kernel⟩
theorem np_M_Ar_fill : (parseMethodDescriptor (mn M_Ar_fill).desc).map (fun d => d.parameters.length) = some 2 := by decide +kernel
theorem ok_M_Ar_fill : MdOK M_Ar_fill := ⟨(qm_10 (i := 56) rfl rfl), ini_java_util_Arrays.1, ini_java_util_Arrays.2, by decide +kernel⟩
theorem oks_M_Ar_fill : Cond.static (mn M_Ar_fill) ∈ UW := (qm_10 (i := 55) rfl rfl)
def M_Pc_checkIndex : Md := (⟨"jdk/internal/util/Preconditions", "checkIndex", "(IILjava/util/function/BiFunction;)I"⟩, prog_73_method_11_code, 3, some .int, 0, 0)
theorem ini_jdk_internal_util_Preconditions : Cond.initialized "jdk/internal/util/Preconditions" ∈ UW ∧ (("jdk/internal/util/Preconditions" : String) ≠ "java/lang/invoke/MethodHandle" ∧ ("jdk/internal/util/Preconditions" : String) ≠ "java/lang/invoke/VarHandle") := ⟨(qm_1 (i := 17) rfl rfl), by decide +kernel⟩
theorem np_M_Pc_checkIndex : (parseMethodDescriptor (mn M_Pc_checkIndex).desc).map (fun d => d.parameters.length) = some 3 := by decide +kernel
theorem ok_M_Pc_checkIndex : MdOK M_Pc_checkIndex := ⟨(qm_3 (i := 67) rfl rfl), ini_jdk_internal_util_Preconditions.1, ini_jdk_internal_util_Preconditions.2, by decide +kernel⟩
theorem oks_M_Pc_checkIndex : Cond.static (mn M_Pc_checkIndex) ∈ UW := (qm_3 (i := 66) rfl rfl)
