-- the landed class: its classes, fields, methods (names and codes as the claim prints them), by wip/gen/gen_names.py
def RX0 : String := "CoinSampler$Estimate"
def TX0 : u_T := fun k => match k with
  | 0 => ("CoinSampler$Estimate", "ranked", "[I", true)
  | 1 => ("CoinSampler$Estimate", "rankedTaint", "[I", true)
  | 2 => ("CoinSampler$Estimate", "ranks", "I", false)
  | 3 => ("CoinSampler$Estimate", "runs", "I", false)
  | 4 => ("CoinSampler$Estimate", "hits", "I", false)
  | 5 => ("CoinSampler$Estimate", "n", "I", false)
  | 6 => ("CoinSampler$Estimate", "risk", "I", false)
  | 7 => ("CoinSampler$Estimate", "ledger", "LCoinSampler$Ledger;", true)
  | 8 => ("CoinSampler$Estimate", "layout", "LCoinSampler$Layout;", true)
  | 9 => ("CoinSampler$Estimate", "walk", "LCoinSampler$Walk;", true)
  | 10 => ("CoinSampler$Estimate", "terms", "LCoinSampler$Terms;", true)
  | _ => ("CoinSampler$Estimate", "factors", "LCoinSampler$Factors;", true)
def tyX0 : Nat → FieldType := fun k => match k with
  | 0 => .array .int
  | 1 => .array .int
  | 2 => .int
  | 3 => .int
  | 4 => .int
  | 5 => .int
  | 6 => .int
  | 7 => .object "CoinSampler$Ledger"
  | 8 => .object "CoinSampler$Layout"
  | 9 => .object "CoinSampler$Walk"
  | 10 => .object "CoinSampler$Terms"
  | _ => .object "CoinSampler$Factors"
theorem nmX0 : ∀ a, a < 12 → ∀ b, b < 12 → a ≠ b → (TX0 a).2.1 ≠ (TX0 b).2.1 := by decide +kernel
theorem tyX0_ok : ∀ k, k < 12 → parseFieldDescriptor (TX0 k).2.2.1 = some (tyX0 k) := by decide +kernel
def RX1 : String := "CoinSampler$Factors"
def TX1 : u_T := fun k => match k with
  | 0 => ("CoinSampler$Factors", "kept", "[I", true)
  | 1 => ("CoinSampler$Factors", "keptN", "I", false)
  | _ => ("CoinSampler$Factors", "keptRisk", "I", false)
def tyX1 : Nat → FieldType := fun k => match k with
  | 0 => .array .int
  | 1 => .int
  | _ => .int
theorem nmX1 : ∀ a, a < 3 → ∀ b, b < 3 → a ≠ b → (TX1 a).2.1 ≠ (TX1 b).2.1 := by decide +kernel
theorem tyX1_ok : ∀ k, k < 3 → parseFieldDescriptor (TX1 k).2.2.1 = some (tyX1 k) := by decide +kernel
def RX2 : String := "CoinSampler$Layout"
def TX2 : u_T := fun k => match k with
  | 0 => ("CoinSampler$Layout", "interval", "I", false)
  | 1 => ("CoinSampler$Layout", "coins", "I", false)
  | 2 => ("CoinSampler$Layout", "certainItems", "I", false)
  | 3 => ("CoinSampler$Layout", "ledger", "LCoinSampler$Ledger;", true)
  | 4 => ("CoinSampler$Layout", "first", "[I", true)
  | _ => ("CoinSampler$Layout", "last", "[I", true)
def tyX2 : Nat → FieldType := fun k => match k with
  | 0 => .int
  | 1 => .int
  | 2 => .int
  | 3 => .object "CoinSampler$Ledger"
  | 4 => .array .int
  | _ => .array .int
theorem nmX2 : ∀ a, a < 6 → ∀ b, b < 6 → a ≠ b → (TX2 a).2.1 ≠ (TX2 b).2.1 := by decide +kernel
theorem tyX2_ok : ∀ k, k < 6 → parseFieldDescriptor (TX2 k).2.2.1 = some (tyX2 k) := by decide +kernel
def RX3 : String := "CoinSampler$Ledger"
def TX3 : u_T := fun k => match k with
  | 0 => ("CoinSampler$Ledger", "account", "[I", true)
  | 1 => ("CoinSampler$Ledger", "voucher", "[I", true)
  | 2 => ("CoinSampler$Ledger", "book", "[I", true)
  | 3 => ("CoinSampler$Ledger", "audited", "[I", true)
  | _ => ("CoinSampler$Ledger", "items", "I", false)
def tyX3 : Nat → FieldType := fun k => match k with
  | 0 => .array .int
  | 1 => .array .int
  | 2 => .array .int
  | 3 => .array .int
  | _ => .int
theorem nmX3 : ∀ a, a < 5 → ∀ b, b < 5 → a ≠ b → (TX3 a).2.1 ≠ (TX3 b).2.1 := by decide +kernel
theorem tyX3_ok : ∀ k, k < 5 → parseFieldDescriptor (TX3 k).2.2.1 = some (tyX3 k) := by decide +kernel
def RX4 : String := "CoinSampler$Line"
def TX4 : u_T := fun k => match k with
  | 0 => ("CoinSampler$Line", "signs", "[C", true)
  | _ => ("CoinSampler$Line", "length", "I", false)
def tyX4 : Nat → FieldType := fun k => match k with
  | 0 => .array .char
  | _ => .int
theorem nmX4 : ∀ a, a < 2 → ∀ b, b < 2 → a ≠ b → (TX4 a).2.1 ≠ (TX4 b).2.1 := by decide +kernel
theorem tyX4_ok : ∀ k, k < 2 → parseFieldDescriptor (TX4 k).2.2.1 = some (tyX4 k) := by decide +kernel
def RX5 : String := "CoinSampler$Reader"
def TX5 : u_T := fun k => match k with
  | 0 => ("CoinSampler$Reader", "told", "LCoinSampler$Ledger;", true)
  | 1 => ("CoinSampler$Reader", "fault", "I", false)
  | 2 => ("CoinSampler$Reader", "place", "I", false)
  | 3 => ("CoinSampler$Reader", "tape", "LCoinSampler$Tape;", true)
  | 4 => ("CoinSampler$Reader", "end", "I", false)
  | _ => ("CoinSampler$Reader", "at", "I", false)
def tyX5 : Nat → FieldType := fun k => match k with
  | 0 => .object "CoinSampler$Ledger"
  | 1 => .int
  | 2 => .int
  | 3 => .object "CoinSampler$Tape"
  | 4 => .int
  | _ => .int
theorem nmX5 : ∀ a, a < 6 → ∀ b, b < 6 → a ≠ b → (TX5 a).2.1 ≠ (TX5 b).2.1 := by decide +kernel
theorem tyX5_ok : ∀ k, k < 6 → parseFieldDescriptor (TX5 k).2.2.1 = some (tyX5 k) := by decide +kernel
def RX6 : String := "CoinSampler$Starts"
def TX6 : u_T := fun k => match k with
  | 0 => ("CoinSampler$Starts", "ledger", "LCoinSampler$Ledger;", true)
  | 1 => ("CoinSampler$Starts", "layout", "LCoinSampler$Layout;", true)
  | 2 => ("CoinSampler$Starts", "marked", "[Z", true)
  | 3 => ("CoinSampler$Starts", "cuts", "[I", true)
  | _ => ("CoinSampler$Starts", "cutCount", "I", false)
def tyX6 : Nat → FieldType := fun k => match k with
  | 0 => .object "CoinSampler$Ledger"
  | 1 => .object "CoinSampler$Layout"
  | 2 => .array .boolean
  | 3 => .array .int
  | _ => .int
theorem nmX6 : ∀ a, a < 5 → ∀ b, b < 5 → a ≠ b → (TX6 a).2.1 ≠ (TX6 b).2.1 := by decide +kernel
theorem tyX6_ok : ∀ k, k < 5 → parseFieldDescriptor (TX6 k).2.2.1 = some (tyX6 k) := by decide +kernel
def RX7 : String := "CoinSampler$Tape"
def TX7 : u_T := fun k => match k with
  | 0 => ("CoinSampler$Tape", "bytes", "[B", true)
  | _ => ("CoinSampler$Tape", "length", "I", false)
def tyX7 : Nat → FieldType := fun k => match k with
  | 0 => .array .byte
  | _ => .int
theorem nmX7 : ∀ a, a < 2 → ∀ b, b < 2 → a ≠ b → (TX7 a).2.1 ≠ (TX7 b).2.1 := by decide +kernel
theorem tyX7_ok : ∀ k, k < 2 → parseFieldDescriptor (TX7 k).2.2.1 = some (tyX7 k) := by decide +kernel
def RX8 : String := "CoinSampler$Terms"
def TX8 : u_T := fun k => match k with
  | _ => ("CoinSampler$Terms", "value", "[I", true)
def tyX8 : Nat → FieldType := fun k => match k with
  | _ => .array .int
theorem nmX8 : ∀ a, a < 1 → ∀ b, b < 1 → a ≠ b → (TX8 a).2.1 ≠ (TX8 b).2.1 := by decide +kernel
theorem tyX8_ok : ∀ k, k < 1 → parseFieldDescriptor (TX8 k).2.2.1 = some (tyX8 k) := by decide +kernel
def RX9 : String := "CoinSampler$Walk"
def TX9 : u_T := fun k => match k with
  | 0 => ("CoinSampler$Walk", "s", "I", false)
  | 1 => ("CoinSampler$Walk", "runs", "I", false)
  | 2 => ("CoinSampler$Walk", "starts", "[I", true)
  | 3 => ("CoinSampler$Walk", "hitItem", "[I", true)
  | 4 => ("CoinSampler$Walk", "hitCoin", "[I", true)
  | 5 => ("CoinSampler$Walk", "hitRun", "[I", true)
  | 6 => ("CoinSampler$Walk", "hitsBehind", "[I", true)
  | _ => ("CoinSampler$Walk", "layout", "LCoinSampler$Layout;", true)
def tyX9 : Nat → FieldType := fun k => match k with
  | 0 => .int
  | 1 => .int
  | 2 => .array .int
  | 3 => .array .int
  | 4 => .array .int
  | 5 => .array .int
  | 6 => .array .int
  | _ => .object "CoinSampler$Layout"
theorem nmX9 : ∀ a, a < 8 → ∀ b, b < 8 → a ≠ b → (TX9 a).2.1 ≠ (TX9 b).2.1 := by decide +kernel
theorem tyX9_ok : ∀ k, k < 8 → parseFieldDescriptor (TX9 k).2.2.1 = some (tyX9 k) := by decide +kernel
def RX10 : String := "CoinSampler"
def TX10 : u_T := fun k => match k with
  | 0 => ("CoinSampler", "tape", "LCoinSampler$Tape;", true)
  | 1 => ("CoinSampler", "ledger", "LCoinSampler$Ledger;", true)
  | 2 => ("CoinSampler", "reader", "LCoinSampler$Reader;", true)
  | 3 => ("CoinSampler", "terms", "LCoinSampler$Terms;", true)
  | 4 => ("CoinSampler", "layout", "LCoinSampler$Layout;", true)
  | 5 => ("CoinSampler", "supposed", "LCoinSampler$Layout;", true)
  | 6 => ("CoinSampler", "walk", "LCoinSampler$Walk;", true)
  | 7 => ("CoinSampler", "factors", "LCoinSampler$Factors;", true)
  | 8 => ("CoinSampler", "estimate", "LCoinSampler$Estimate;", true)
  | 9 => ("CoinSampler", "starts", "LCoinSampler$Starts;", true)
  | _ => ("CoinSampler", "lineText", "LCoinSampler$Line;", true)
def tyX10 : Nat → FieldType := fun k => match k with
  | 0 => .object "CoinSampler$Tape"
  | 1 => .object "CoinSampler$Ledger"
  | 2 => .object "CoinSampler$Reader"
  | 3 => .object "CoinSampler$Terms"
  | 4 => .object "CoinSampler$Layout"
  | 5 => .object "CoinSampler$Layout"
  | 6 => .object "CoinSampler$Walk"
  | 7 => .object "CoinSampler$Factors"
  | 8 => .object "CoinSampler$Estimate"
  | 9 => .object "CoinSampler$Starts"
  | _ => .object "CoinSampler$Line"
theorem nmX10 : ∀ a, a < 11 → ∀ b, b < 11 → a ≠ b → (TX10 a).2.1 ≠ (TX10 b).2.1 := by decide +kernel
theorem tyX10_ok : ∀ k, k < 11 → parseFieldDescriptor (TX10 k).2.2.1 = some (tyX10 k) := by decide +kernel
def RX11 : String := "CoinSamplerModel"
def TX11 : u_T := fun k => match k with
  | 0 => ("CoinSamplerModel", "thrown", "I", false)
  | 1 => ("CoinSamplerModel", "term", "[I", true)
  | 2 => ("CoinSamplerModel", "lowTerm", "[I", true)
  | 3 => ("CoinSamplerModel", "highTerm", "[I", true)
  | 4 => ("CoinSamplerModel", "items", "[I", true)
  | 5 => ("CoinSamplerModel", "read", "[I", true)
  | 6 => ("CoinSamplerModel", "itemMany", "I", false)
  | 7 => ("CoinSamplerModel", "readMany", "I", false)
  | 8 => ("CoinSamplerModel", "starts", "[I", true)
  | 9 => ("CoinSamplerModel", "interval", "I", false)
  | 10 => ("CoinSamplerModel", "runs", "I", false)
  | 11 => ("CoinSamplerModel", "drawnNow", "I", false)
  | 12 => ("CoinSamplerModel", "tape", "[B", true)
  | 13 => ("CoinSamplerModel", "taped", "I", false)
  | 14 => ("CoinSamplerModel", "size", "I", false)
  | 15 => ("CoinSamplerModel", "spot", "I", false)
  | 16 => ("CoinSamplerModel", "wrong", "I", false)
  | 17 => ("CoinSamplerModel", "wrongAt", "I", false)
  | 18 => ("CoinSamplerModel", "words", "[B", true)
  | 19 => ("CoinSamplerModel", "begin", "[I", true)
  | 20 => ("CoinSamplerModel", "restMany", "I", false)
  | 21 => ("CoinSamplerModel", "hitItem", "[I", true)
  | 22 => ("CoinSamplerModel", "hitCoin", "[I", true)
  | 23 => ("CoinSamplerModel", "hitRun", "[I", true)
  | 24 => ("CoinSamplerModel", "often", "[I", true)
  | 25 => ("CoinSamplerModel", "hitMany", "I", false)
  | 26 => ("CoinSamplerModel", "upperBy", "[I", true)
  | 27 => ("CoinSamplerModel", "upperMany", "I", false)
  | 28 => ("CoinSamplerModel", "upperRisk", "I", false)
  | 29 => ("CoinSamplerModel", "told", "[I", true)
  | 30 => ("CoinSamplerModel", "toldLong", "I", false)
  | 31 => ("CoinSamplerModel", "ranked", "[I", true)
  | 32 => ("CoinSamplerModel", "rankedMany", "I", false)
  | 33 => ("CoinSamplerModel", "turns", "[I", true)
  | 34 => ("CoinSamplerModel", "turnMany", "I", false)
  | _ => ("CoinSamplerModel", "wasDrawn", "[Z", true)
def tyX11 : Nat → FieldType := fun k => match k with
  | 0 => .int
  | 1 => .array .int
  | 2 => .array .int
  | 3 => .array .int
  | 4 => .array .int
  | 5 => .array .int
  | 6 => .int
  | 7 => .int
  | 8 => .array .int
  | 9 => .int
  | 10 => .int
  | 11 => .int
  | 12 => .array .byte
  | 13 => .int
  | 14 => .int
  | 15 => .int
  | 16 => .int
  | 17 => .int
  | 18 => .array .byte
  | 19 => .array .int
  | 20 => .int
  | 21 => .array .int
  | 22 => .array .int
  | 23 => .array .int
  | 24 => .array .int
  | 25 => .int
  | 26 => .array .int
  | 27 => .int
  | 28 => .int
  | 29 => .array .int
  | 30 => .int
  | 31 => .array .int
  | 32 => .int
  | 33 => .array .int
  | 34 => .int
  | _ => .array .boolean
theorem nmX11 : ∀ a, a < 36 → ∀ b, b < 36 → a ≠ b → (TX11 a).2.1 ≠ (TX11 b).2.1 := by decide +kernel
theorem tyX11_ok : ∀ k, k < 36 → parseFieldDescriptor (TX11 k).2.2.1 = some (tyX11 k) := by decide +kernel
abbrev vwCl : List vw_C := [(RX0, TX0, 12), (RX1, TX1, 3), (RX2, TX2, 6), (RX3, TX3, 5), (RX4, TX4, 2), (RX5, TX5, 6), (RX6, TX6, 5), (RX7, TX7, 2), (RX8, TX8, 1), (RX9, TX9, 8), (RX10, TX10, 11), (RX11, TX11, 36)]
def UW : List Cond := lw_tbl.filter goodWord
theorem qm_in {w : Cond} (h : w ∈ tables_1) (hg : goodWord w = true) : w ∈ UW := List.mem_filter.mpr ⟨List.mem_append_right _ h, hg⟩
theorem qm_1 {w : Cond} {i : Nat} (h : tables_1_1[i]? = some w) (hg : goodWord w = true) : w ∈ UW := qm_in (List.mem_append_left _ (List.mem_of_getElem? h)) hg
theorem qm_2 {w : Cond} {i : Nat} (h : tables_1_2[i]? = some w) (hg : goodWord w = true) : w ∈ UW := qm_in (List.mem_append_right _ (List.mem_append_left _ (List.mem_of_getElem? h))) hg
theorem qm_3 {w : Cond} {i : Nat} (h : tables_1_3[i]? = some w) (hg : goodWord w = true) : w ∈ UW := qm_in (List.mem_append_right _ (List.mem_append_right _ (List.mem_append_left _ (List.mem_of_getElem? h)))) hg
theorem qm_4 {w : Cond} {i : Nat} (h : tables_1_4[i]? = some w) (hg : goodWord w = true) : w ∈ UW := qm_in (List.mem_append_right _ (List.mem_append_right _ (List.mem_append_right _ (List.mem_append_left _ (List.mem_of_getElem? h))))) hg
theorem qm_5 {w : Cond} {i : Nat} (h : tables_1_5[i]? = some w) (hg : goodWord w = true) : w ∈ UW := qm_in (List.mem_append_right _ (List.mem_append_right _ (List.mem_append_right _ (List.mem_append_right _ (List.mem_append_left _ (List.mem_of_getElem? h)))))) hg
theorem qm_6 {w : Cond} {i : Nat} (h : tables_1_6[i]? = some w) (hg : goodWord w = true) : w ∈ UW := qm_in (List.mem_append_right _ (List.mem_append_right _ (List.mem_append_right _ (List.mem_append_right _ (List.mem_append_right _ (List.mem_append_left _ (List.mem_of_getElem? h))))))) hg
theorem qm_7 {w : Cond} {i : Nat} (h : tables_1_7[i]? = some w) (hg : goodWord w = true) : w ∈ UW := qm_in (List.mem_append_right _ (List.mem_append_right _ (List.mem_append_right _ (List.mem_append_right _ (List.mem_append_right _ (List.mem_append_right _ (List.mem_of_getElem? h))))))) hg
theorem qm_p {q : MethodName × Nat} {i : Nat} (h : lw_privs[i]? = some q) (hg : goodWord (Cond.selects q.1.cls q.1 q.1) = true) : Cond.selects q.1.cls q.1 q.1 ∈ UW := List.mem_filter.mpr ⟨List.mem_append_left _ (List.mem_map.mpr ⟨q, List.mem_of_getElem? h, rfl⟩), hg⟩
theorem uw_good : ∀ w ∈ UW, (w.onTables && w.keeps) = true ∨ ∃ ty, w = .arrayClass ty := fun w h => good_of_word (List.mem_filter.mp h).2
/-- a method: name, code, locals, answer, frames and locals that its calls need -/
abbrev Md : Type := MethodName × ByteArray × Nat × Option FieldType × Nat × Nat
abbrev mn (μ : Md) : MethodName := μ.1
abbrev cd (μ : Md) : ByteArray := μ.2.1
abbrev mL (μ : Md) : Nat := μ.2.2.1
abbrev rt (μ : Md) : Option FieldType := μ.2.2.2.1
abbrev fr (μ : Md) : Nat := μ.2.2.2.2.1
abbrev lo (μ : Md) : Nat := μ.2.2.2.2.2
def MdOK (μ : Md) : Prop := Cond.code (mn μ) (cd μ) (mL μ) (rt μ) ∈ UW ∧ Cond.initialized (mn μ).cls ∈ UW ∧ ((mn μ).cls ≠ "java/lang/invoke/MethodHandle" ∧ (mn μ).cls ≠ "java/lang/invoke/VarHandle") ∧ plainFor (mn μ) = true
def MdV (μ : Md) : Prop := Cond.instanceMethod (mn μ) ∈ UW ∧ Cond.selects (mn μ).cls (mn μ) (mn μ) ∈ UW

def M_Es_init : Md := (⟨"CoinSampler$Estimate", "<init>", "(LCoinSampler$Ledger;LCoinSampler$Layout;LCoinSampler$Walk;LCoinSampler$Terms;LCoinSampler$Factors;)V"⟩, prog_2_method_1_code, 6, none, 0, 0)
theorem ini_CoinSampler_Estimate : Cond.initialized "CoinSampler$Estimate" ∈ UW ∧ (("CoinSampler$Estimate" : String) ≠ "java/lang/invoke/MethodHandle" ∧ ("CoinSampler$Estimate" : String) ≠ "java/lang/invoke/VarHandle") := ⟨(qm_1 (i := 9) rfl rfl), by decide +kernel⟩
theorem np_M_Es_init : (parseMethodDescriptor (mn M_Es_init).desc).map (fun d => d.parameters.length) = some 5 := by decide +kernel
theorem ok_M_Es_init : MdOK M_Es_init := ⟨(qm_1 (i := 208) rfl rfl), ini_CoinSampler_Estimate.1, ini_CoinSampler_Estimate.2, by decide +kernel⟩
theorem okv_M_Es_init : Cond.instanceMethod (mn M_Es_init) ∈ UW := (qm_1 (i := 207) rfl rfl)
def M_Es_supposeNothing : Md := (⟨"CoinSampler$Estimate", "supposeNothing", "()V"⟩, prog_2_method_2_code, 1, none, 3, 65)
theorem np_M_Es_supposeNothing : (parseMethodDescriptor (mn M_Es_supposeNothing).desc).map (fun d => d.parameters.length) = some 0 := by decide +kernel
theorem ok_M_Es_supposeNothing : MdOK M_Es_supposeNothing := ⟨(qm_3 (i := 224) rfl rfl), ini_CoinSampler_Estimate.1, ini_CoinSampler_Estimate.2, by decide +kernel⟩
theorem okv_M_Es_supposeNothing : MdV M_Es_supposeNothing := ⟨(qm_3 (i := 222) rfl rfl), (qm_3 (i := 223) rfl rfl)⟩
def M_Es_suppose : Md := (⟨"CoinSampler$Estimate", "suppose", "(III)V"⟩, prog_2_method_3_code, 4, none, 2, 42)
theorem np_M_Es_suppose : (parseMethodDescriptor (mn M_Es_suppose).desc).map (fun d => d.parameters.length) = some 3 := by decide +kernel
theorem ok_M_Es_suppose : MdOK M_Es_suppose := ⟨(qm_3 (i := 229) rfl rfl), ini_CoinSampler_Estimate.1, ini_CoinSampler_Estimate.2, by decide +kernel⟩
theorem okv_M_Es_suppose : MdV M_Es_suppose := ⟨(qm_3 (i := 227) rfl rfl), (qm_3 (i := 228) rfl rfl)⟩
def M_Es_projectionOfHit : Md := (⟨"CoinSampler$Estimate", "projectionOfHit", "(I)I"⟩, prog_2_method_4_code, 2, some .int, 3, 64)
theorem np_M_Es_projectionOfHit : (parseMethodDescriptor (mn M_Es_projectionOfHit).desc).map (fun d => d.parameters.length) = some 1 := by decide +kernel
theorem ok_M_Es_projectionOfHit : MdOK M_Es_projectionOfHit := ⟨(qm_3 (i := 238) rfl rfl), ini_CoinSampler_Estimate.1, ini_CoinSampler_Estimate.2, by decide +kernel⟩
theorem okv_M_Es_projectionOfHit : MdV M_Es_projectionOfHit := ⟨(qm_3 (i := 236) rfl rfl), (qm_3 (i := 237) rfl rfl)⟩
def M_Es_projection : Md := (⟨"CoinSampler$Estimate", "projection", "(I)I"⟩, prog_2_method_5_code, 4, some .int, 4, 85)
theorem np_M_Es_projection : (parseMethodDescriptor (mn M_Es_projection).desc).map (fun d => d.parameters.length) = some 1 := by decide +kernel
theorem ok_M_Es_projection : MdOK M_Es_projection := ⟨(qm_4 (i := 53) rfl rfl), ini_CoinSampler_Estimate.1, ini_CoinSampler_Estimate.2, by decide +kernel⟩
theorem okv_M_Es_projection : MdV M_Es_projection := ⟨(qm_4 (i := 51) rfl rfl), (qm_4 (i := 52) rfl rfl)⟩
def M_Es_known : Md := (⟨"CoinSampler$Estimate", "known", "(I)I"⟩, prog_2_method_6_code, 4, some .int, 3, 63)
theorem np_M_Es_known : (parseMethodDescriptor (mn M_Es_known).desc).map (fun d => d.parameters.length) = some 1 := by decide +kernel
theorem ok_M_Es_known : MdOK M_Es_known := ⟨(qm_4 (i := 60) rfl rfl), ini_CoinSampler_Estimate.1, ini_CoinSampler_Estimate.2, by decide +kernel⟩
theorem okv_M_Es_known : MdV M_Es_known := ⟨(qm_4 (i := 58) rfl rfl), (qm_4 (i := 59) rfl rfl)⟩
def M_Es_basic : Md := (⟨"CoinSampler$Estimate", "basic", "()I"⟩, prog_2_method_7_code, 1, some .int, 3, 86)
theorem np_M_Es_basic : (parseMethodDescriptor (mn M_Es_basic).desc).map (fun d => d.parameters.length) = some 0 := by decide +kernel
theorem ok_M_Es_basic : MdOK M_Es_basic := ⟨(qm_4 (i := 99) rfl rfl), ini_CoinSampler_Estimate.1, ini_CoinSampler_Estimate.2, by decide +kernel⟩
theorem okv_M_Es_basic : MdV M_Es_basic := ⟨(qm_4 (i := 97) rfl rfl), (qm_4 (i := 98) rfl rfl)⟩
def M_Es_rank : Md := (⟨"CoinSampler$Estimate", "rank", "(I)V"⟩, prog_2_method_8_code, 5, none, 3, 64)
theorem np_M_Es_rank : (parseMethodDescriptor (mn M_Es_rank).desc).map (fun d => d.parameters.length) = some 1 := by decide +kernel
theorem ok_M_Es_rank : MdOK M_Es_rank := ⟨(qm_4 (i := 70) rfl rfl), ini_CoinSampler_Estimate.1, ini_CoinSampler_Estimate.2, by decide +kernel⟩
theorem okv_M_Es_rank : MdV M_Es_rank := ⟨(qm_4 (i := 68) rfl rfl), (qm_4 (i := 69) rfl rfl)⟩
def M_Es_hasRank : Md := (⟨"CoinSampler$Estimate", "hasRank", "(I)Z"⟩, prog_2_method_9_code, 2, some .boolean, 0, 0)
theorem np_M_Es_hasRank : (parseMethodDescriptor (mn M_Es_hasRank).desc).map (fun d => d.parameters.length) = some 1 := by decide +kernel
theorem ok_M_Es_hasRank : MdOK M_Es_hasRank := ⟨(qm_4 (i := 74) rfl rfl), ini_CoinSampler_Estimate.1, ini_CoinSampler_Estimate.2, by decide +kernel⟩
theorem okv_M_Es_hasRank : MdV M_Es_hasRank := ⟨(qm_4 (i := 72) rfl rfl), (qm_4 (i := 73) rfl rfl)⟩
def M_Es_rise : Md := (⟨"CoinSampler$Estimate", "rise", "(I)I"⟩, prog_2_method_10_code, 4, some .int, 3, 86)
theorem np_M_Es_rise : (parseMethodDescriptor (mn M_Es_rise).desc).map (fun d => d.parameters.length) = some 1 := by decide +kernel
theorem ok_M_Es_rise : MdOK M_Es_rise := ⟨(qm_4 (i := 78) rfl rfl), ini_CoinSampler_Estimate.1, ini_CoinSampler_Estimate.2, by decide +kernel⟩
theorem okv_M_Es_rise : MdV M_Es_rise := ⟨(qm_4 (i := 76) rfl rfl), (qm_4 (i := 77) rfl rfl)⟩
def M_Es_rises : Md := (⟨"CoinSampler$Estimate", "rises", "(I)I"⟩, prog_2_method_11_code, 4, some .int, 4, 109)
theorem np_M_Es_rises : (parseMethodDescriptor (mn M_Es_rises).desc).map (fun d => d.parameters.length) = some 1 := by decide +kernel
theorem ok_M_Es_rises : MdOK M_Es_rises := ⟨(qm_4 (i := 104) rfl rfl), ini_CoinSampler_Estimate.1, ini_CoinSampler_Estimate.2, by decide +kernel⟩
theorem okv_M_Es_rises : MdV M_Es_rises := ⟨(qm_4 (i := 102) rfl rfl), (qm_4 (i := 103) rfl rfl)⟩
def M_Es_limit : Md := (⟨"CoinSampler$Estimate", "limit", "(I)I"⟩, prog_2_method_12_code, 3, some .int, 5, 132)
theorem np_M_Es_limit : (parseMethodDescriptor (mn M_Es_limit).desc).map (fun d => d.parameters.length) = some 1 := by decide +kernel
theorem ok_M_Es_limit : MdOK M_Es_limit := ⟨(qm_4 (i := 95) rfl rfl), ini_CoinSampler_Estimate.1, ini_CoinSampler_Estimate.2, by decide +kernel⟩
theorem okv_M_Es_limit : MdV M_Es_limit := ⟨(qm_4 (i := 93) rfl rfl), (qm_4 (i := 94) rfl rfl)⟩
def M_Es_partOf : Md := (⟨"CoinSampler$Estimate", "partOf", "(II)I"⟩, prog_2_method_13_code, 3, some .int, 6, 154)
theorem np_M_Es_partOf : (parseMethodDescriptor (mn M_Es_partOf).desc).map (fun d => d.parameters.length) = some 2 := by decide +kernel
theorem ok_M_Es_partOf : MdOK M_Es_partOf := ⟨(qm_4 (i := 112) rfl rfl), ini_CoinSampler_Estimate.1, ini_CoinSampler_Estimate.2, by decide +kernel⟩
theorem okv_M_Es_partOf : MdV M_Es_partOf := ⟨(qm_4 (i := 110) rfl rfl), (qm_4 (i := 111) rfl rfl)⟩
def M_Es_isAccepted : Md := (⟨"CoinSampler$Estimate", "isAccepted", "()Z"⟩, prog_2_method_14_code, 1, some .boolean, 6, 154)
theorem np_M_Es_isAccepted : (parseMethodDescriptor (mn M_Es_isAccepted).desc).map (fun d => d.parameters.length) = some 0 := by decide +kernel
theorem ok_M_Es_isAccepted : MdOK M_Es_isAccepted := ⟨(qm_4 (i := 131) rfl rfl), ini_CoinSampler_Estimate.1, ini_CoinSampler_Estimate.2, by decide +kernel⟩
theorem okv_M_Es_isAccepted : MdV M_Es_isAccepted := ⟨(qm_4 (i := 129) rfl rfl), (qm_4 (i := 130) rfl rfl)⟩
def M_Fa_init : Md := (⟨"CoinSampler$Factors", "<init>", "()V"⟩, prog_3_method_1_code, 1, none, 0, 0)
theorem ini_CoinSampler_Factors : Cond.initialized "CoinSampler$Factors" ∈ UW ∧ (("CoinSampler$Factors" : String) ≠ "java/lang/invoke/MethodHandle" ∧ ("CoinSampler$Factors" : String) ≠ "java/lang/invoke/VarHandle") := ⟨(qm_1 (i := 8) rfl rfl), by decide +kernel⟩
theorem np_M_Fa_init : (parseMethodDescriptor (mn M_Fa_init).desc).map (fun d => d.parameters.length) = some 0 := by decide +kernel
theorem ok_M_Fa_init : MdOK M_Fa_init := ⟨(qm_1 (i := 192) rfl rfl), ini_CoinSampler_Factors.1, ini_CoinSampler_Factors.2, by decide +kernel⟩
theorem okv_M_Fa_init : Cond.instanceMethod (mn M_Fa_init) ∈ UW := (qm_1 (i := 191) rfl rfl)
def M_Fa_upperOf : Md := (⟨"CoinSampler$Factors", "upperOf", "(III)I"⟩, prog_3_method_2_code, 4, some .int, 2, 63)
theorem np_M_Fa_upperOf : (parseMethodDescriptor (mn M_Fa_upperOf).desc).map (fun d => d.parameters.length) = some 3 := by decide +kernel
theorem ok_M_Fa_upperOf : MdOK M_Fa_upperOf := ⟨(qm_4 (i := 83) rfl rfl), ini_CoinSampler_Factors.1, ini_CoinSampler_Factors.2, by decide +kernel⟩
theorem okv_M_Fa_upperOf : MdV M_Fa_upperOf := ⟨(qm_4 (i := 81) rfl rfl), (qm_4 (i := 82) rfl rfl)⟩
def M_Fa_halved : Md := (⟨"CoinSampler$Factors", "halved", "(III)I"⟩, prog_3_method_3_code, 10, some .int, 1, 34)
theorem np_M_Fa_halved : (parseMethodDescriptor (mn M_Fa_halved).desc).map (fun d => d.parameters.length) = some 3 := by decide +kernel
theorem ok_M_Fa_halved : MdOK M_Fa_halved := ⟨(qm_3 (i := 75) rfl rfl), ini_CoinSampler_Factors.1, ini_CoinSampler_Factors.2, by decide +kernel⟩
theorem okv_M_Fa_halved : MdV M_Fa_halved := ⟨(qm_3 (i := 73) rfl rfl), (qm_3 (i := 74) rfl rfl)⟩
def M_Fa_isWithin : Md := (⟨"CoinSampler$Factors", "isWithin", "(DIII)Z"⟩, prog_3_method_4_code, 15, some .boolean, 0, 0)
theorem np_M_Fa_isWithin : (parseMethodDescriptor (mn M_Fa_isWithin).desc).map (fun d => d.parameters.length) = some 4 := by decide +kernel
theorem ok_M_Fa_isWithin : MdOK M_Fa_isWithin := ⟨(qm_3 (i := 81) rfl rfl), ini_CoinSampler_Factors.1, ini_CoinSampler_Factors.2, by decide +kernel⟩
theorem okv_M_Fa_isWithin : MdV M_Fa_isWithin := ⟨(qm_3 (i := 80) rfl rfl), (qm_p (i := 10) (q := (⟨"CoinSampler$Factors", "isWithin", "(DIII)Z"⟩, _)) rfl rfl)⟩
def M_Fa_leastN : Md := (⟨"CoinSampler$Factors", "leastN", "(IIII)I"⟩, prog_3_method_5_code, 9, some .int, 2, 63)
theorem np_M_Fa_leastN : (parseMethodDescriptor (mn M_Fa_leastN).desc).map (fun d => d.parameters.length) = some 4 := by decide +kernel
theorem ok_M_Fa_leastN : MdOK M_Fa_leastN := ⟨(qm_3 (i := 71) rfl rfl), ini_CoinSampler_Factors.1, ini_CoinSampler_Factors.2, by decide +kernel⟩
theorem okv_M_Fa_leastN : MdV M_Fa_leastN := ⟨(qm_3 (i := 69) rfl rfl), (qm_3 (i := 70) rfl rfl)⟩
def M_La_init : Md := (⟨"CoinSampler$Layout", "<init>", "(LCoinSampler$Ledger;)V"⟩, prog_4_method_1_code, 2, none, 0, 0)
theorem ini_CoinSampler_Layout : Cond.initialized "CoinSampler$Layout" ∈ UW ∧ (("CoinSampler$Layout" : String) ≠ "java/lang/invoke/MethodHandle" ∧ ("CoinSampler$Layout" : String) ≠ "java/lang/invoke/VarHandle") := ⟨(qm_1 (i := 6) rfl rfl), by decide +kernel⟩
theorem np_M_La_init : (parseMethodDescriptor (mn M_La_init).desc).map (fun d => d.parameters.length) = some 1 := by decide +kernel
theorem ok_M_La_init : MdOK M_La_init := ⟨(qm_1 (i := 121) rfl rfl), ini_CoinSampler_Layout.1, ini_CoinSampler_Layout.2, by decide +kernel⟩
theorem okv_M_La_init : Cond.instanceMethod (mn M_La_init) ∈ UW := (qm_1 (i := 120) rfl rfl)
def M_La_lay : Md := (⟨"CoinSampler$Layout", "lay", "(I)V"⟩, prog_4_method_2_code, 3, none, 3, 63)
theorem np_M_La_lay : (parseMethodDescriptor (mn M_La_lay).desc).map (fun d => d.parameters.length) = some 1 := by decide +kernel
theorem ok_M_La_lay : MdOK M_La_lay := ⟨(qm_3 (i := 0) rfl rfl), ini_CoinSampler_Layout.1, ini_CoinSampler_Layout.2, by decide +kernel⟩
theorem okv_M_La_lay : MdV M_La_lay := ⟨(qm_2 (i := 238) rfl rfl), (qm_2 (i := 239) rfl rfl)⟩
def M_La_isCertain : Md := (⟨"CoinSampler$Layout", "isCertain", "(I)Z"⟩, prog_4_method_3_code, 2, some .boolean, 2, 42)
theorem np_M_La_isCertain : (parseMethodDescriptor (mn M_La_isCertain).desc).map (fun d => d.parameters.length) = some 1 := by decide +kernel
theorem ok_M_La_isCertain : MdOK M_La_isCertain := ⟨(qm_3 (i := 4) rfl rfl), ini_CoinSampler_Layout.1, ini_CoinSampler_Layout.2, by decide +kernel⟩
theorem okv_M_La_isCertain : MdV M_La_isCertain := ⟨(qm_3 (i := 2) rfl rfl), (qm_3 (i := 3) rfl rfl)⟩
def M_La_firstCoin : Md := (⟨"CoinSampler$Layout", "firstCoin", "(I)I"⟩, prog_4_method_4_code, 2, some .int, 1, 21)
theorem np_M_La_firstCoin : (parseMethodDescriptor (mn M_La_firstCoin).desc).map (fun d => d.parameters.length) = some 1 := by decide +kernel
theorem ok_M_La_firstCoin : MdOK M_La_firstCoin := ⟨(qm_3 (i := 162) rfl rfl), ini_CoinSampler_Layout.1, ini_CoinSampler_Layout.2, by decide +kernel⟩
theorem okv_M_La_firstCoin : MdV M_La_firstCoin := ⟨(qm_3 (i := 160) rfl rfl), (qm_3 (i := 161) rfl rfl)⟩
def M_La_lastCoin : Md := (⟨"CoinSampler$Layout", "lastCoin", "(I)I"⟩, prog_4_method_5_code, 2, some .int, 1, 21)
theorem np_M_La_lastCoin : (parseMethodDescriptor (mn M_La_lastCoin).desc).map (fun d => d.parameters.length) = some 1 := by decide +kernel
theorem ok_M_La_lastCoin : MdOK M_La_lastCoin := ⟨(qm_3 (i := 170) rfl rfl), ini_CoinSampler_Layout.1, ini_CoinSampler_Layout.2, by decide +kernel⟩
theorem okv_M_La_lastCoin : MdV M_La_lastCoin := ⟨(qm_3 (i := 168) rfl rfl), (qm_3 (i := 169) rfl rfl)⟩
def M_La_ownerOf : Md := (⟨"CoinSampler$Layout", "ownerOf", "(I)I"⟩, prog_4_method_6_code, 3, some .int, 0, 0)
theorem np_M_La_ownerOf : (parseMethodDescriptor (mn M_La_ownerOf).desc).map (fun d => d.parameters.length) = some 1 := by decide +kernel
theorem ok_M_La_ownerOf : MdOK M_La_ownerOf := ⟨(qm_3 (i := 123) rfl rfl), ini_CoinSampler_Layout.1, ini_CoinSampler_Layout.2, by decide +kernel⟩
theorem okv_M_La_ownerOf : MdV M_La_ownerOf := ⟨(qm_3 (i := 121) rfl rfl), (qm_3 (i := 122) rfl rfl)⟩
def M_La_hitsFrom : Md := (⟨"CoinSampler$Layout", "hitsFrom", "(I)I"⟩, prog_4_method_7_code, 2, some .int, 0, 0)
theorem np_M_La_hitsFrom : (parseMethodDescriptor (mn M_La_hitsFrom).desc).map (fun d => d.parameters.length) = some 1 := by decide +kernel
theorem ok_M_La_hitsFrom : MdOK M_La_hitsFrom := ⟨(qm_3 (i := 119) rfl rfl), ini_CoinSampler_Layout.1, ini_CoinSampler_Layout.2, by decide +kernel⟩
theorem okv_M_La_hitsFrom : MdV M_La_hitsFrom := ⟨(qm_3 (i := 117) rfl rfl), (qm_3 (i := 118) rfl rfl)⟩
def M_La_lastHitFrom : Md := (⟨"CoinSampler$Layout", "lastHitFrom", "(I)I"⟩, prog_4_method_8_code, 3, some .int, 1, 21)
theorem np_M_La_lastHitFrom : (parseMethodDescriptor (mn M_La_lastHitFrom).desc).map (fun d => d.parameters.length) = some 1 := by decide +kernel
theorem ok_M_La_lastHitFrom : MdOK M_La_lastHitFrom := ⟨(qm_4 (i := 187) rfl rfl), ini_CoinSampler_Layout.1, ini_CoinSampler_Layout.2, by decide +kernel⟩
theorem okv_M_La_lastHitFrom : MdV M_La_lastHitFrom := ⟨(qm_4 (i := 185) rfl rfl), (qm_4 (i := 186) rfl rfl)⟩
def M_La_strikes : Md := (⟨"CoinSampler$Layout", "strikes", "(II)Z"⟩, prog_4_method_9_code, 4, some .boolean, 2, 42)
theorem np_M_La_strikes : (parseMethodDescriptor (mn M_La_strikes).desc).map (fun d => d.parameters.length) = some 2 := by decide +kernel
theorem ok_M_La_strikes : MdOK M_La_strikes := ⟨(qm_3 (i := 158) rfl rfl), ini_CoinSampler_Layout.1, ini_CoinSampler_Layout.2, by decide +kernel⟩
theorem okv_M_La_strikes : MdV M_La_strikes := ⟨(qm_3 (i := 156) rfl rfl), (qm_3 (i := 157) rfl rfl)⟩
def M_Le_init : Md := (⟨"CoinSampler$Ledger", "<init>", "()V"⟩, prog_5_method_1_code, 1, none, 0, 0)
theorem ini_CoinSampler_Ledger : Cond.initialized "CoinSampler$Ledger" ∈ UW ∧ (("CoinSampler$Ledger" : String) ≠ "java/lang/invoke/MethodHandle" ∧ ("CoinSampler$Ledger" : String) ≠ "java/lang/invoke/VarHandle") := ⟨(qm_1 (i := 3) rfl rfl), by decide +kernel⟩
theorem np_M_Le_init : (parseMethodDescriptor (mn M_Le_init).desc).map (fun d => d.parameters.length) = some 0 := by decide +kernel
theorem ok_M_Le_init : MdOK M_Le_init := ⟨(qm_1 (i := 46) rfl rfl), ini_CoinSampler_Ledger.1, ini_CoinSampler_Ledger.2, by decide +kernel⟩
theorem okv_M_Le_init : Cond.instanceMethod (mn M_Le_init) ∈ UW := (qm_1 (i := 45) rfl rfl)
def M_Le_holds : Md := (⟨"CoinSampler$Ledger", "holds", "(I)Z"⟩, prog_5_method_2_code, 2, some .boolean, 0, 0)
theorem np_M_Le_holds : (parseMethodDescriptor (mn M_Le_holds).desc).map (fun d => d.parameters.length) = some 1 := by decide +kernel
theorem ok_M_Le_holds : MdOK M_Le_holds := ⟨(qm_2 (i := 220) rfl rfl), ini_CoinSampler_Ledger.1, ini_CoinSampler_Ledger.2, by decide +kernel⟩
theorem okv_M_Le_holds : MdV M_Le_holds := ⟨(qm_2 (i := 218) rfl rfl), (qm_2 (i := 219) rfl rfl)⟩
def M_Le_isFull : Md := (⟨"CoinSampler$Ledger", "isFull", "()Z"⟩, prog_5_method_3_code, 1, some .boolean, 0, 0)
theorem np_M_Le_isFull : (parseMethodDescriptor (mn M_Le_isFull).desc).map (fun d => d.parameters.length) = some 0 := by decide +kernel
theorem ok_M_Le_isFull : MdOK M_Le_isFull := ⟨(qm_2 (i := 199) rfl rfl), ini_CoinSampler_Ledger.1, ini_CoinSampler_Ledger.2, by decide +kernel⟩
theorem okv_M_Le_isFull : MdV M_Le_isFull := ⟨(qm_2 (i := 197) rfl rfl), (qm_2 (i := 198) rfl rfl)⟩
def M_Le_append : Md := (⟨"CoinSampler$Ledger", "append", "(III)V"⟩, prog_5_method_4_code, 4, none, 1, 20)
theorem np_M_Le_append : (parseMethodDescriptor (mn M_Le_append).desc).map (fun d => d.parameters.length) = some 3 := by decide +kernel
theorem ok_M_Le_append : MdOK M_Le_append := ⟨(qm_2 (i := 207) rfl rfl), ini_CoinSampler_Ledger.1, ini_CoinSampler_Ledger.2, by decide +kernel⟩
theorem okv_M_Le_append : MdV M_Le_append := ⟨(qm_2 (i := 205) rfl rfl), (qm_2 (i := 206) rfl rfl)⟩
def M_Le_become : Md := (⟨"CoinSampler$Ledger", "become", "(LCoinSampler$Ledger;)V"⟩, prog_5_method_5_code, 3, none, 2, 43)
theorem np_M_Le_become : (parseMethodDescriptor (mn M_Le_become).desc).map (fun d => d.parameters.length) = some 1 := by decide +kernel
theorem ok_M_Le_become : MdOK M_Le_become := ⟨(qm_2 (i := 231) rfl rfl), ini_CoinSampler_Ledger.1, ini_CoinSampler_Ledger.2, by decide +kernel⟩
theorem okv_M_Le_become : MdV M_Le_become := ⟨(qm_2 (i := 229) rfl rfl), (qm_2 (i := 230) rfl rfl)⟩
def M_Le_indexOf : Md := (⟨"CoinSampler$Ledger", "indexOf", "(II)I"⟩, prog_5_method_6_code, 4, some .int, 0, 0)
theorem np_M_Le_indexOf : (parseMethodDescriptor (mn M_Le_indexOf).desc).map (fun d => d.parameters.length) = some 2 := by decide +kernel
theorem ok_M_Le_indexOf : MdOK M_Le_indexOf := ⟨(qm_2 (i := 203) rfl rfl), ini_CoinSampler_Ledger.1, ini_CoinSampler_Ledger.2, by decide +kernel⟩
theorem okv_M_Le_indexOf : MdV M_Le_indexOf := ⟨(qm_2 (i := 201) rfl rfl), (qm_2 (i := 202) rfl rfl)⟩
def M_Le_isFirstOfAccount : Md := (⟨"CoinSampler$Ledger", "isFirstOfAccount", "(I)Z"⟩, prog_5_method_7_code, 3, some .boolean, 1, 21)
theorem np_M_Le_isFirstOfAccount : (parseMethodDescriptor (mn M_Le_isFirstOfAccount).desc).map (fun d => d.parameters.length) = some 1 := by decide +kernel
theorem ok_M_Le_isFirstOfAccount : MdOK M_Le_isFirstOfAccount := ⟨(qm_4 (i := 7) rfl rfl), ini_CoinSampler_Ledger.1, ini_CoinSampler_Ledger.2, by decide +kernel⟩
theorem okv_M_Le_isFirstOfAccount : MdV M_Le_isFirstOfAccount := ⟨(qm_4 (i := 5) rfl rfl), (qm_4 (i := 6) rfl rfl)⟩
def M_Le_coinsOf : Md := (⟨"CoinSampler$Ledger", "coinsOf", "(I)I"⟩, prog_5_method_8_code, 2, some .int, 1, 21)
theorem np_M_Le_coinsOf : (parseMethodDescriptor (mn M_Le_coinsOf).desc).map (fun d => d.parameters.length) = some 1 := by decide +kernel
theorem ok_M_Le_coinsOf : MdOK M_Le_coinsOf := ⟨(qm_2 (i := 216) rfl rfl), ini_CoinSampler_Ledger.1, ini_CoinSampler_Ledger.2, by decide +kernel⟩
theorem okv_M_Le_coinsOf : MdV M_Le_coinsOf := ⟨(qm_2 (i := 214) rfl rfl), (qm_2 (i := 215) rfl rfl)⟩
def M_Le_allCoins : Md := (⟨"CoinSampler$Ledger", "allCoins", "()I"⟩, prog_5_method_9_code, 3, some .int, 2, 42)
theorem np_M_Le_allCoins : (parseMethodDescriptor (mn M_Le_allCoins).desc).map (fun d => d.parameters.length) = some 0 := by decide +kernel
theorem ok_M_Le_allCoins : MdOK M_Le_allCoins := ⟨(qm_3 (i := 66) rfl rfl), ini_CoinSampler_Ledger.1, ini_CoinSampler_Ledger.2, by decide +kernel⟩
theorem okv_M_Le_allCoins : MdV M_Le_allCoins := ⟨(qm_3 (i := 64) rfl rfl), (qm_3 (i := 65) rfl rfl)⟩
def M_Le_mayBeWorth : Md := (⟨"CoinSampler$Ledger", "mayBeWorth", "(II)Z"⟩, prog_5_method_10_code, 3, some .boolean, 1, 21)
theorem np_M_Le_mayBeWorth : (parseMethodDescriptor (mn M_Le_mayBeWorth).desc).map (fun d => d.parameters.length) = some 2 := by decide +kernel
theorem ok_M_Le_mayBeWorth : MdOK M_Le_mayBeWorth := ⟨(qm_2 (i := 227) rfl rfl), ini_CoinSampler_Ledger.1, ini_CoinSampler_Ledger.2, by decide +kernel⟩
theorem okv_M_Le_mayBeWorth : MdV M_Le_mayBeWorth := ⟨(qm_2 (i := 225) rfl rfl), (qm_2 (i := 226) rfl rfl)⟩
def M_Le_isAudited : Md := (⟨"CoinSampler$Ledger", "isAudited", "(I)Z"⟩, prog_5_method_11_code, 2, some .boolean, 0, 0)
theorem np_M_Le_isAudited : (parseMethodDescriptor (mn M_Le_isAudited).desc).map (fun d => d.parameters.length) = some 1 := by decide +kernel
theorem ok_M_Le_isAudited : MdOK M_Le_isAudited := ⟨(qm_3 (i := 143) rfl rfl), ini_CoinSampler_Ledger.1, ini_CoinSampler_Ledger.2, by decide +kernel⟩
theorem okv_M_Le_isAudited : MdV M_Le_isAudited := ⟨(qm_3 (i := 141) rfl rfl), (qm_3 (i := 142) rfl rfl)⟩
def M_Le_auditedItems : Md := (⟨"CoinSampler$Ledger", "auditedItems", "()I"⟩, prog_5_method_12_code, 3, some .int, 1, 21)
theorem np_M_Le_auditedItems : (parseMethodDescriptor (mn M_Le_auditedItems).desc).map (fun d => d.parameters.length) = some 0 := by decide +kernel
theorem ok_M_Le_auditedItems : MdOK M_Le_auditedItems := ⟨(qm_5 (i := 26) rfl rfl), ini_CoinSampler_Ledger.1, ini_CoinSampler_Ledger.2, by decide +kernel⟩
theorem okv_M_Le_auditedItems : MdV M_Le_auditedItems := ⟨(qm_5 (i := 24) rfl rfl), (qm_5 (i := 25) rfl rfl)⟩
def M_Le_errorOf : Md := (⟨"CoinSampler$Ledger", "errorOf", "(I)I"⟩, prog_5_method_13_code, 2, some .int, 1, 21)
theorem np_M_Le_errorOf : (parseMethodDescriptor (mn M_Le_errorOf).desc).map (fun d => d.parameters.length) = some 1 := by decide +kernel
theorem ok_M_Le_errorOf : MdOK M_Le_errorOf := ⟨(qm_3 (i := 139) rfl rfl), ini_CoinSampler_Ledger.1, ini_CoinSampler_Ledger.2, by decide +kernel⟩
theorem okv_M_Le_errorOf : MdV M_Le_errorOf := ⟨(qm_3 (i := 137) rfl rfl), (qm_3 (i := 138) rfl rfl)⟩
def M_Le_taintOf : Md := (⟨"CoinSampler$Ledger", "taintOf", "(I)I"⟩, prog_5_method_14_code, 3, some .int, 2, 42)
theorem np_M_Le_taintOf : (parseMethodDescriptor (mn M_Le_taintOf).desc).map (fun d => d.parameters.length) = some 1 := by decide +kernel
theorem ok_M_Le_taintOf : MdOK M_Le_taintOf := ⟨(qm_3 (i := 147) rfl rfl), ini_CoinSampler_Ledger.1, ini_CoinSampler_Ledger.2, by decide +kernel⟩
theorem okv_M_Le_taintOf : MdV M_Le_taintOf := ⟨(qm_3 (i := 145) rfl rfl), (qm_3 (i := 146) rfl rfl)⟩
def M_Li_init : Md := (⟨"CoinSampler$Line", "<init>", "()V"⟩, prog_6_method_1_code, 1, none, 0, 0)
theorem ini_CoinSampler_Line : Cond.initialized "CoinSampler$Line" ∈ UW ∧ (("CoinSampler$Line" : String) ≠ "java/lang/invoke/MethodHandle" ∧ ("CoinSampler$Line" : String) ≠ "java/lang/invoke/VarHandle") := ⟨(qm_1 (i := 11) rfl rfl), by decide +kernel⟩
theorem np_M_Li_init : (parseMethodDescriptor (mn M_Li_init).desc).map (fun d => d.parameters.length) = some 0 := by decide +kernel
theorem ok_M_Li_init : MdOK M_Li_init := ⟨(qm_2 (i := 36) rfl rfl), ini_CoinSampler_Line.1, ini_CoinSampler_Line.2, by decide +kernel⟩
theorem okv_M_Li_init : Cond.instanceMethod (mn M_Li_init) ∈ UW := (qm_2 (i := 35) rfl rfl)
def M_Li_sign : Md := (⟨"CoinSampler$Line", "sign", "(C)V"⟩, prog_6_method_2_code, 2, none, 0, 0)
theorem np_M_Li_sign : (parseMethodDescriptor (mn M_Li_sign).desc).map (fun d => d.parameters.length) = some 1 := by decide +kernel
theorem ok_M_Li_sign : MdOK M_Li_sign := ⟨(qm_4 (i := 27) rfl rfl), ini_CoinSampler_Line.1, ini_CoinSampler_Line.2, by decide +kernel⟩
theorem okv_M_Li_sign : MdV M_Li_sign := ⟨(qm_4 (i := 25) rfl rfl), (qm_4 (i := 26) rfl rfl)⟩
def M_Li_number : Md := (⟨"CoinSampler$Line", "number", "(I)V"⟩, prog_6_method_3_code, 4, none, 1, 21)
theorem np_M_Li_number : (parseMethodDescriptor (mn M_Li_number).desc).map (fun d => d.parameters.length) = some 1 := by decide +kernel
theorem ok_M_Li_number : MdOK M_Li_number := ⟨(qm_4 (i := 23) rfl rfl), ini_CoinSampler_Line.1, ini_CoinSampler_Line.2, by decide +kernel⟩
theorem okv_M_Li_number : MdV M_Li_number := ⟨(qm_4 (i := 21) rfl rfl), (qm_4 (i := 22) rfl rfl)⟩
def M_Li_signAt : Md := (⟨"CoinSampler$Line", "signAt", "(I)I"⟩, prog_6_method_4_code, 2, some .int, 0, 0)
theorem np_M_Li_signAt : (parseMethodDescriptor (mn M_Li_signAt).desc).map (fun d => d.parameters.length) = some 1 := by decide +kernel
theorem ok_M_Li_signAt : MdOK M_Li_signAt := ⟨(qm_4 (i := 32) rfl rfl), ini_CoinSampler_Line.1, ini_CoinSampler_Line.2, by decide +kernel⟩
theorem okv_M_Li_signAt : MdV M_Li_signAt := ⟨(qm_4 (i := 30) rfl rfl), (qm_4 (i := 31) rfl rfl)⟩
def M_Re_init : Md := (⟨"CoinSampler$Reader", "<init>", "(LCoinSampler$Tape;)V"⟩, prog_7_method_1_code, 2, none, 1, 20)
theorem ini_CoinSampler_Reader : Cond.initialized "CoinSampler$Reader" ∈ UW ∧ (("CoinSampler$Reader" : String) ≠ "java/lang/invoke/MethodHandle" ∧ ("CoinSampler$Reader" : String) ≠ "java/lang/invoke/VarHandle") := ⟨(qm_1 (i := 4) rfl rfl), by decide +kernel⟩
theorem np_M_Re_init : (parseMethodDescriptor (mn M_Re_init).desc).map (fun d => d.parameters.length) = some 1 := by decide +kernel
theorem ok_M_Re_init : MdOK M_Re_init := ⟨(qm_1 (i := 80) rfl rfl), ini_CoinSampler_Reader.1, ini_CoinSampler_Reader.2, by decide +kernel⟩
theorem okv_M_Re_init : Cond.instanceMethod (mn M_Re_init) ∈ UW := (qm_1 (i := 79) rfl rfl)
def M_Re_read : Md := (⟨"CoinSampler$Reader", "read", "(I)V"⟩, prog_7_method_2_code, 3, none, 7, 156)
theorem np_M_Re_read : (parseMethodDescriptor (mn M_Re_read).desc).map (fun d => d.parameters.length) = some 1 := by decide +kernel
theorem ok_M_Re_read : MdOK M_Re_read := ⟨(qm_2 (i := 104) rfl rfl), ini_CoinSampler_Reader.1, ini_CoinSampler_Reader.2, by decide +kernel⟩
theorem okv_M_Re_read : MdV M_Re_read := ⟨(qm_2 (i := 102) rfl rfl), (qm_2 (i := 103) rfl rfl)⟩
def M_Re_readLine : Md := (⟨"CoinSampler$Reader", "readLine", "()V"⟩, prog_7_method_3_code, 8, none, 6, 129)
theorem np_M_Re_readLine : (parseMethodDescriptor (mn M_Re_readLine).desc).map (fun d => d.parameters.length) = some 0 := by decide +kernel
theorem ok_M_Re_readLine : MdOK M_Re_readLine := ⟨(qm_2 (i := 120) rfl rfl), ini_CoinSampler_Reader.1, ini_CoinSampler_Reader.2, by decide +kernel⟩
theorem okv_M_Re_readLine : MdV M_Re_readLine := ⟨(qm_2 (i := 119) rfl rfl), (qm_p (i := 2) (q := (⟨"CoinSampler$Reader", "readLine", "()V"⟩, _)) rfl rfl)⟩
def M_Re_takeItem : Md := (⟨"CoinSampler$Reader", "takeItem", "(III)Z"⟩, prog_7_method_4_code, 4, some .boolean, 2, 43)
theorem np_M_Re_takeItem : (parseMethodDescriptor (mn M_Re_takeItem).desc).map (fun d => d.parameters.length) = some 3 := by decide +kernel
theorem ok_M_Re_takeItem : MdOK M_Re_takeItem := ⟨(qm_2 (i := 195) rfl rfl), ini_CoinSampler_Reader.1, ini_CoinSampler_Reader.2, by decide +kernel⟩
theorem okv_M_Re_takeItem : MdV M_Re_takeItem := ⟨(qm_2 (i := 194) rfl rfl), (qm_p (i := 8) (q := (⟨"CoinSampler$Reader", "takeItem", "(III)Z"⟩, _)) rfl rfl)⟩
def M_Re_takeAudit : Md := (⟨"CoinSampler$Reader", "takeAudit", "(III)Z"⟩, prog_7_method_5_code, 5, some .boolean, 2, 43)
theorem np_M_Re_takeAudit : (parseMethodDescriptor (mn M_Re_takeAudit).desc).map (fun d => d.parameters.length) = some 3 := by decide +kernel
theorem ok_M_Re_takeAudit : MdOK M_Re_takeAudit := ⟨(qm_2 (i := 212) rfl rfl), ini_CoinSampler_Reader.1, ini_CoinSampler_Reader.2, by decide +kernel⟩
theorem okv_M_Re_takeAudit : MdV M_Re_takeAudit := ⟨(qm_2 (i := 211) rfl rfl), (qm_p (i := 9) (q := (⟨"CoinSampler$Reader", "takeAudit", "(III)Z"⟩, _)) rfl rfl)⟩
def M_Re_fail : Md := (⟨"CoinSampler$Reader", "fail", "(II)V"⟩, prog_7_method_6_code, 3, none, 0, 0)
theorem np_M_Re_fail : (parseMethodDescriptor (mn M_Re_fail).desc).map (fun d => d.parameters.length) = some 2 := by decide +kernel
theorem ok_M_Re_fail : MdOK M_Re_fail := ⟨(qm_2 (i := 182) rfl rfl), ini_CoinSampler_Reader.1, ini_CoinSampler_Reader.2, by decide +kernel⟩
theorem okv_M_Re_fail : MdV M_Re_fail := ⟨(qm_2 (i := 181) rfl rfl), (qm_p (i := 5) (q := (⟨"CoinSampler$Reader", "fail", "(II)V"⟩, _)) rfl rfl)⟩
def M_Re_here : Md := (⟨"CoinSampler$Reader", "here", "()I"⟩, prog_7_method_7_code, 1, some .int, 1, 21)
theorem np_M_Re_here : (parseMethodDescriptor (mn M_Re_here).desc).map (fun d => d.parameters.length) = some 0 := by decide +kernel
theorem ok_M_Re_here : MdOK M_Re_here := ⟨(qm_2 (i := 112) rfl rfl), ini_CoinSampler_Reader.1, ini_CoinSampler_Reader.2, by decide +kernel⟩
theorem okv_M_Re_here : MdV M_Re_here := ⟨(qm_2 (i := 111) rfl rfl), (qm_p (i := 1) (q := (⟨"CoinSampler$Reader", "here", "()I"⟩, _)) rfl rfl)⟩
def M_Re_skipBlanks : Md := (⟨"CoinSampler$Reader", "skipBlanks", "()V"⟩, prog_7_method_8_code, 1, none, 2, 41)
theorem np_M_Re_skipBlanks : (parseMethodDescriptor (mn M_Re_skipBlanks).desc).map (fun d => d.parameters.length) = some 0 := by decide +kernel
theorem ok_M_Re_skipBlanks : MdOK M_Re_skipBlanks := ⟨(qm_2 (i := 108) rfl rfl), ini_CoinSampler_Reader.1, ini_CoinSampler_Reader.2, by decide +kernel⟩
theorem okv_M_Re_skipBlanks : MdV M_Re_skipBlanks := ⟨(qm_2 (i := 107) rfl rfl), (qm_p (i := 0) (q := (⟨"CoinSampler$Reader", "skipBlanks", "()V"⟩, _)) rfl rfl)⟩
def M_Re_skipWord : Md := (⟨"CoinSampler$Reader", "skipWord", "()V"⟩, prog_7_method_9_code, 1, none, 2, 41)
theorem np_M_Re_skipWord : (parseMethodDescriptor (mn M_Re_skipWord).desc).map (fun d => d.parameters.length) = some 0 := by decide +kernel
theorem ok_M_Re_skipWord : MdOK M_Re_skipWord := ⟨(qm_2 (i := 124) rfl rfl), ini_CoinSampler_Reader.1, ini_CoinSampler_Reader.2, by decide +kernel⟩
theorem okv_M_Re_skipWord : MdV M_Re_skipWord := ⟨(qm_2 (i := 123) rfl rfl), (qm_p (i := 3) (q := (⟨"CoinSampler$Reader", "skipWord", "()V"⟩, _)) rfl rfl)⟩
def M_Re_isWord : Md := (⟨"CoinSampler$Reader", "isWord", "(ILjava/lang/String;)Z"⟩, prog_7_method_10_code, 4, some .boolean, 5, 106)
theorem np_M_Re_isWord : (parseMethodDescriptor (mn M_Re_isWord).desc).map (fun d => d.parameters.length) = some 2 := by decide +kernel
theorem ok_M_Re_isWord : MdOK M_Re_isWord := ⟨(qm_2 (i := 129) rfl rfl), ini_CoinSampler_Reader.1, ini_CoinSampler_Reader.2, by decide +kernel⟩
theorem okv_M_Re_isWord : MdV M_Re_isWord := ⟨(qm_2 (i := 128) rfl rfl), (qm_p (i := 4) (q := (⟨"CoinSampler$Reader", "isWord", "(ILjava/lang/String;)Z"⟩, _)) rfl rfl)⟩
def M_Re_skipSign : Md := (⟨"CoinSampler$Reader", "skipSign", "(C)Z"⟩, prog_7_method_11_code, 2, some .boolean, 3, 61)
theorem np_M_Re_skipSign : (parseMethodDescriptor (mn M_Re_skipSign).desc).map (fun d => d.parameters.length) = some 1 := by decide +kernel
theorem ok_M_Re_skipSign : MdOK M_Re_skipSign := ⟨(qm_2 (i := 190) rfl rfl), ini_CoinSampler_Reader.1, ini_CoinSampler_Reader.2, by decide +kernel⟩
theorem okv_M_Re_skipSign : MdV M_Re_skipSign := ⟨(qm_2 (i := 189) rfl rfl), (qm_p (i := 7) (q := (⟨"CoinSampler$Reader", "skipSign", "(C)Z"⟩, _)) rfl rfl)⟩
def M_Re_readNumber : Md := (⟨"CoinSampler$Reader", "readNumber", "(I)I"⟩, prog_7_method_12_code, 4, some .int, 3, 61)
theorem np_M_Re_readNumber : (parseMethodDescriptor (mn M_Re_readNumber).desc).map (fun d => d.parameters.length) = some 1 := by decide +kernel
theorem ok_M_Re_readNumber : MdOK M_Re_readNumber := ⟨(qm_2 (i := 186) rfl rfl), ini_CoinSampler_Reader.1, ini_CoinSampler_Reader.2, by decide +kernel⟩
theorem okv_M_Re_readNumber : MdV M_Re_readNumber := ⟨(qm_2 (i := 185) rfl rfl), (qm_p (i := 6) (q := (⟨"CoinSampler$Reader", "readNumber", "(I)I"⟩, _)) rfl rfl)⟩
def M_St_init : Md := (⟨"CoinSampler$Starts", "<init>", "(LCoinSampler$Ledger;LCoinSampler$Layout;)V"⟩, prog_8_method_1_code, 3, none, 0, 0)
theorem ini_CoinSampler_Starts : Cond.initialized "CoinSampler$Starts" ∈ UW ∧ (("CoinSampler$Starts" : String) ≠ "java/lang/invoke/MethodHandle" ∧ ("CoinSampler$Starts" : String) ≠ "java/lang/invoke/VarHandle") := ⟨(qm_1 (i := 10) rfl rfl), by decide +kernel⟩
theorem np_M_St_init : (parseMethodDescriptor (mn M_St_init).desc).map (fun d => d.parameters.length) = some 2 := by decide +kernel
theorem ok_M_St_init : MdOK M_St_init := ⟨(qm_2 (i := 13) rfl rfl), ini_CoinSampler_Starts.1, ini_CoinSampler_Starts.2, by decide +kernel⟩
theorem okv_M_St_init : Cond.instanceMethod (mn M_St_init) ∈ UW := (qm_2 (i := 12) rfl rfl)
def M_St_notAudited : Md := (⟨"CoinSampler$Starts", "notAudited", "(I)I"⟩, prog_8_method_2_code, 4, some .int, 3, 65)
theorem np_M_St_notAudited : (parseMethodDescriptor (mn M_St_notAudited).desc).map (fun d => d.parameters.length) = some 1 := by decide +kernel
theorem ok_M_St_notAudited : MdOK M_St_notAudited := ⟨(qm_4 (i := 174) rfl rfl), ini_CoinSampler_Starts.1, ini_CoinSampler_Starts.2, by decide +kernel⟩
theorem okv_M_St_notAudited : MdV M_St_notAudited := ⟨(qm_4 (i := 172) rfl rfl), (qm_4 (i := 173) rfl rfl)⟩
def M_St_taintsAbove : Md := (⟨"CoinSampler$Starts", "taintsAbove", "(I)I"⟩, prog_8_method_3_code, 4, some .int, 3, 65)
theorem np_M_St_taintsAbove : (parseMethodDescriptor (mn M_St_taintsAbove).desc).map (fun d => d.parameters.length) = some 1 := by decide +kernel
theorem ok_M_St_taintsAbove : MdOK M_St_taintsAbove := ⟨(qm_4 (i := 181) rfl rfl), ini_CoinSampler_Starts.1, ini_CoinSampler_Starts.2, by decide +kernel⟩
theorem okv_M_St_taintsAbove : MdV M_St_taintsAbove := ⟨(qm_4 (i := 179) rfl rfl), (qm_4 (i := 180) rfl rfl)⟩
def M_St_markErrors : Md := (⟨"CoinSampler$Starts", "markErrors", "()V"⟩, prog_8_method_4_code, 2, none, 2, 42)
theorem np_M_St_markErrors : (parseMethodDescriptor (mn M_St_markErrors).desc).map (fun d => d.parameters.length) = some 0 := by decide +kernel
theorem ok_M_St_markErrors : MdOK M_St_markErrors := ⟨(qm_4 (i := 201) rfl rfl), ini_CoinSampler_Starts.1, ini_CoinSampler_Starts.2, by decide +kernel⟩
theorem okv_M_St_markErrors : MdV M_St_markErrors := ⟨(qm_4 (i := 199) rfl rfl), (qm_4 (i := 200) rfl rfl)⟩
def M_St_markTwo : Md := (⟨"CoinSampler$Starts", "markTwo", "(II)V"⟩, prog_8_method_5_code, 4, none, 0, 0)
theorem np_M_St_markTwo : (parseMethodDescriptor (mn M_St_markTwo).desc).map (fun d => d.parameters.length) = some 2 := by decide +kernel
theorem ok_M_St_markTwo : MdOK M_St_markTwo := ⟨(qm_5 (i := 14) rfl rfl), ini_CoinSampler_Starts.1, ini_CoinSampler_Starts.2, by decide +kernel⟩
theorem okv_M_St_markTwo : MdV M_St_markTwo := ⟨(qm_5 (i := 12) rfl rfl), (qm_5 (i := 13) rfl rfl)⟩
def M_St_catching : Md := (⟨"CoinSampler$Starts", "catching", "(I)I"⟩, prog_8_method_6_code, 5, some .int, 4, 88)
theorem np_M_St_catching : (parseMethodDescriptor (mn M_St_catching).desc).map (fun d => d.parameters.length) = some 1 := by decide +kernel
theorem ok_M_St_catching : MdOK M_St_catching := ⟨(qm_4 (i := 207) rfl rfl), ini_CoinSampler_Starts.1, ini_CoinSampler_Starts.2, by decide +kernel⟩
theorem okv_M_St_catching : MdV M_St_catching := ⟨(qm_4 (i := 205) rfl rfl), (qm_4 (i := 206) rfl rfl)⟩
def M_St_withMostTaint : Md := (⟨"CoinSampler$Starts", "withMostTaint", "()I"⟩, prog_8_method_7_code, 5, some .int, 4, 88)
theorem np_M_St_withMostTaint : (parseMethodDescriptor (mn M_St_withMostTaint).desc).map (fun d => d.parameters.length) = some 0 := by decide +kernel
theorem ok_M_St_withMostTaint : MdOK M_St_withMostTaint := ⟨(qm_4 (i := 228) rfl rfl), ini_CoinSampler_Starts.1, ini_CoinSampler_Starts.2, by decide +kernel⟩
theorem okv_M_St_withMostTaint : MdV M_St_withMostTaint := ⟨(qm_4 (i := 226) rfl rfl), (qm_4 (i := 227) rfl rfl)⟩
def M_St_markedHits : Md := (⟨"CoinSampler$Starts", "markedHits", "(I)I"⟩, prog_8_method_8_code, 4, some .int, 3, 65)
theorem np_M_St_markedHits : (parseMethodDescriptor (mn M_St_markedHits).desc).map (fun d => d.parameters.length) = some 1 := by decide +kernel
theorem ok_M_St_markedHits : MdOK M_St_markedHits := ⟨(qm_4 (i := 220) rfl rfl), ini_CoinSampler_Starts.1, ini_CoinSampler_Starts.2, by decide +kernel⟩
theorem okv_M_St_markedHits : MdV M_St_markedHits := ⟨(qm_4 (i := 219) rfl rfl), (qm_p (i := 21) (q := (⟨"CoinSampler$Starts", "markedHits", "(I)I"⟩, _)) rfl rfl)⟩
def M_St_cutUp : Md := (⟨"CoinSampler$Starts", "cutUp", "()V"⟩, prog_8_method_9_code, 2, none, 2, 42)
theorem np_M_St_cutUp : (parseMethodDescriptor (mn M_St_cutUp).desc).map (fun d => d.parameters.length) = some 0 := by decide +kernel
theorem ok_M_St_cutUp : MdOK M_St_cutUp := ⟨(qm_4 (i := 211) rfl rfl), ini_CoinSampler_Starts.1, ini_CoinSampler_Starts.2, by decide +kernel⟩
theorem okv_M_St_cutUp : MdV M_St_cutUp := ⟨(qm_4 (i := 210) rfl rfl), (qm_p (i := 19) (q := (⟨"CoinSampler$Starts", "cutUp", "()V"⟩, _)) rfl rfl)⟩
def M_St_insertCut : Md := (⟨"CoinSampler$Starts", "insertCut", "(I)V"⟩, prog_8_method_10_code, 3, none, 0, 0)
theorem np_M_St_insertCut : (parseMethodDescriptor (mn M_St_insertCut).desc).map (fun d => d.parameters.length) = some 1 := by decide +kernel
theorem ok_M_St_insertCut : MdOK M_St_insertCut := ⟨(qm_4 (i := 215) rfl rfl), ini_CoinSampler_Starts.1, ini_CoinSampler_Starts.2, by decide +kernel⟩
theorem okv_M_St_insertCut : MdV M_St_insertCut := ⟨(qm_4 (i := 214) rfl rfl), (qm_p (i := 20) (q := (⟨"CoinSampler$Starts", "insertCut", "(I)V"⟩, _)) rfl rfl)⟩
def M_Ta_init : Md := (⟨"CoinSampler$Tape", "<init>", "()V"⟩, prog_9_method_1_code, 1, none, 0, 0)
theorem ini_CoinSampler_Tape : Cond.initialized "CoinSampler$Tape" ∈ UW ∧ (("CoinSampler$Tape" : String) ≠ "java/lang/invoke/MethodHandle" ∧ ("CoinSampler$Tape" : String) ≠ "java/lang/invoke/VarHandle") := ⟨(qm_1 (i := 2) rfl rfl), by decide +kernel⟩
theorem np_M_Ta_init : (parseMethodDescriptor (mn M_Ta_init).desc).map (fun d => d.parameters.length) = some 0 := by decide +kernel
theorem ok_M_Ta_init : MdOK M_Ta_init := ⟨(qm_1 (i := 31) rfl rfl), ini_CoinSampler_Tape.1, ini_CoinSampler_Tape.2, by decide +kernel⟩
theorem okv_M_Ta_init : Cond.instanceMethod (mn M_Ta_init) ∈ UW := (qm_1 (i := 30) rfl rfl)
def M_Ta_write : Md := (⟨"CoinSampler$Tape", "write", "(I)V"⟩, prog_9_method_2_code, 3, none, 0, 0)
theorem np_M_Ta_write : (parseMethodDescriptor (mn M_Ta_write).desc).map (fun d => d.parameters.length) = some 1 := by decide +kernel
theorem ok_M_Ta_write : MdOK M_Ta_write := ⟨(qm_2 (i := 96) rfl rfl), ini_CoinSampler_Tape.1, ini_CoinSampler_Tape.2, by decide +kernel⟩
theorem okv_M_Ta_write : MdV M_Ta_write := ⟨(qm_2 (i := 94) rfl rfl), (qm_2 (i := 95) rfl rfl)⟩
def M_Ta_byteAt : Md := (⟨"CoinSampler$Tape", "byteAt", "(I)I"⟩, prog_9_method_3_code, 2, some .int, 0, 0)
theorem np_M_Ta_byteAt : (parseMethodDescriptor (mn M_Ta_byteAt).desc).map (fun d => d.parameters.length) = some 1 := by decide +kernel
theorem ok_M_Ta_byteAt : MdOK M_Ta_byteAt := ⟨(qm_2 (i := 116) rfl rfl), ini_CoinSampler_Tape.1, ini_CoinSampler_Tape.2, by decide +kernel⟩
theorem okv_M_Ta_byteAt : MdV M_Ta_byteAt := ⟨(qm_2 (i := 114) rfl rfl), (qm_2 (i := 115) rfl rfl)⟩
def M_Te_init : Md := (⟨"CoinSampler$Terms", "<init>", "()V"⟩, prog_10_method_1_code, 1, none, 0, 0)
theorem ini_CoinSampler_Terms : Cond.initialized "CoinSampler$Terms" ∈ UW ∧ (("CoinSampler$Terms" : String) ≠ "java/lang/invoke/MethodHandle" ∧ ("CoinSampler$Terms" : String) ≠ "java/lang/invoke/VarHandle") := ⟨(qm_1 (i := 5) rfl rfl), by decide +kernel⟩
theorem np_M_Te_init : (parseMethodDescriptor (mn M_Te_init).desc).map (fun d => d.parameters.length) = some 0 := by decide +kernel
theorem ok_M_Te_init : MdOK M_Te_init := ⟨(qm_1 (i := 110) rfl rfl), ini_CoinSampler_Terms.1, ini_CoinSampler_Terms.2, by decide +kernel⟩
theorem okv_M_Te_init : Cond.instanceMethod (mn M_Te_init) ∈ UW := (qm_1 (i := 109) rfl rfl)
def M_Te_has : Md := (⟨"CoinSampler$Terms", "has", "(I)Z"⟩, prog_10_method_2_code, 2, some .boolean, 0, 0)
theorem np_M_Te_has : (parseMethodDescriptor (mn M_Te_has).desc).map (fun d => d.parameters.length) = some 1 := by decide +kernel
theorem ok_M_Te_has : MdOK M_Te_has := ⟨(qm_2 (i := 54) rfl rfl), ini_CoinSampler_Terms.1, ini_CoinSampler_Terms.2, by decide +kernel⟩
theorem okv_M_Te_has : MdV M_Te_has := ⟨(qm_2 (i := 52) rfl rfl), (qm_2 (i := 53) rfl rfl)⟩
def M_Te_allows : Md := (⟨"CoinSampler$Terms", "allows", "(II)Z"⟩, prog_10_method_3_code, 3, some .boolean, 1, 21)
theorem np_M_Te_allows : (parseMethodDescriptor (mn M_Te_allows).desc).map (fun d => d.parameters.length) = some 2 := by decide +kernel
theorem ok_M_Te_allows : MdOK M_Te_allows := ⟨(qm_3 (i := 18) rfl rfl), ini_CoinSampler_Terms.1, ini_CoinSampler_Terms.2, by decide +kernel⟩
theorem okv_M_Te_allows : MdV M_Te_allows := ⟨(qm_3 (i := 16) rfl rfl), (qm_3 (i := 17) rfl rfl)⟩
def M_Te_greatest : Md := (⟨"CoinSampler$Terms", "greatest", "(I)I"⟩, prog_10_method_4_code, 2, some .int, 1, 21)
theorem np_M_Te_greatest : (parseMethodDescriptor (mn M_Te_greatest).desc).map (fun d => d.parameters.length) = some 1 := by decide +kernel
theorem ok_M_Te_greatest : MdOK M_Te_greatest := ⟨(qm_4 (i := 161) rfl rfl), ini_CoinSampler_Terms.1, ini_CoinSampler_Terms.2, by decide +kernel⟩
theorem okv_M_Te_greatest : MdV M_Te_greatest := ⟨(qm_4 (i := 159) rfl rfl), (qm_4 (i := 160) rfl rfl)⟩
def M_Te_of : Md := (⟨"CoinSampler$Terms", "of", "(I)I"⟩, prog_10_method_5_code, 2, some .int, 1, 21)
theorem np_M_Te_of : (parseMethodDescriptor (mn M_Te_of).desc).map (fun d => d.parameters.length) = some 1 := by decide +kernel
theorem ok_M_Te_of : MdOK M_Te_of := ⟨(qm_2 (i := 50) rfl rfl), ini_CoinSampler_Terms.1, ini_CoinSampler_Terms.2, by decide +kernel⟩
theorem okv_M_Te_of : MdV M_Te_of := ⟨(qm_2 (i := 48) rfl rfl), (qm_2 (i := 49) rfl rfl)⟩
def M_Te_tell : Md := (⟨"CoinSampler$Terms", "tell", "(II)V"⟩, prog_10_method_6_code, 3, none, 1, 21)
theorem np_M_Te_tell : (parseMethodDescriptor (mn M_Te_tell).desc).map (fun d => d.parameters.length) = some 2 := by decide +kernel
theorem ok_M_Te_tell : MdOK M_Te_tell := ⟨(qm_3 (i := 26) rfl rfl), ini_CoinSampler_Terms.1, ini_CoinSampler_Terms.2, by decide +kernel⟩
theorem okv_M_Te_tell : MdV M_Te_tell := ⟨(qm_3 (i := 24) rfl rfl), (qm_3 (i := 25) rfl rfl)⟩
def M_Wa_init : Md := (⟨"CoinSampler$Walk", "<init>", "(LCoinSampler$Layout;)V"⟩, prog_11_method_1_code, 2, none, 0, 0)
theorem ini_CoinSampler_Walk : Cond.initialized "CoinSampler$Walk" ∈ UW ∧ (("CoinSampler$Walk" : String) ≠ "java/lang/invoke/MethodHandle" ∧ ("CoinSampler$Walk" : String) ≠ "java/lang/invoke/VarHandle") := ⟨(qm_1 (i := 7) rfl rfl), by decide +kernel⟩
theorem np_M_Wa_init : (parseMethodDescriptor (mn M_Wa_init).desc).map (fun d => d.parameters.length) = some 1 := by decide +kernel
theorem ok_M_Wa_init : MdOK M_Wa_init := ⟨(qm_1 (i := 153) rfl rfl), ini_CoinSampler_Walk.1, ini_CoinSampler_Walk.2, by decide +kernel⟩
theorem okv_M_Wa_init : Cond.instanceMethod (mn M_Wa_init) ∈ UW := (qm_1 (i := 152) rfl rfl)
def M_Wa_forgetRuns : Md := (⟨"CoinSampler$Walk", "forgetRuns", "()V"⟩, prog_11_method_2_code, 1, none, 0, 0)
theorem np_M_Wa_forgetRuns : (parseMethodDescriptor (mn M_Wa_forgetRuns).desc).map (fun d => d.parameters.length) = some 0 := by decide +kernel
theorem ok_M_Wa_forgetRuns : MdOK M_Wa_forgetRuns := ⟨(qm_2 (i := 236) rfl rfl), ini_CoinSampler_Walk.1, ini_CoinSampler_Walk.2, by decide +kernel⟩
theorem okv_M_Wa_forgetRuns : MdV M_Wa_forgetRuns := ⟨(qm_2 (i := 234) rfl rfl), (qm_2 (i := 235) rfl rfl)⟩
def M_Wa_hasRun : Md := (⟨"CoinSampler$Walk", "hasRun", "(I)Z"⟩, prog_11_method_3_code, 2, some .boolean, 0, 0)
theorem np_M_Wa_hasRun : (parseMethodDescriptor (mn M_Wa_hasRun).desc).map (fun d => d.parameters.length) = some 1 := by decide +kernel
theorem ok_M_Wa_hasRun : MdOK M_Wa_hasRun := ⟨(qm_3 (i := 115) rfl rfl), ini_CoinSampler_Walk.1, ini_CoinSampler_Walk.2, by decide +kernel⟩
theorem okv_M_Wa_hasRun : MdV M_Wa_hasRun := ⟨(qm_3 (i := 113) rfl rfl), (qm_3 (i := 114) rfl rfl)⟩
def M_Wa_hasHit : Md := (⟨"CoinSampler$Walk", "hasHit", "(I)Z"⟩, prog_11_method_4_code, 2, some .boolean, 2, 42)
theorem np_M_Wa_hasHit : (parseMethodDescriptor (mn M_Wa_hasHit).desc).map (fun d => d.parameters.length) = some 1 := by decide +kernel
theorem ok_M_Wa_hasHit : MdOK M_Wa_hasHit := ⟨(qm_3 (i := 188) rfl rfl), ini_CoinSampler_Walk.1, ini_CoinSampler_Walk.2, by decide +kernel⟩
theorem okv_M_Wa_hasHit : MdV M_Wa_hasHit := ⟨(qm_3 (i := 186) rfl rfl), (qm_3 (i := 187) rfl rfl)⟩
def M_Wa_hitsOf : Md := (⟨"CoinSampler$Walk", "hitsOf", "(I)I"⟩, prog_11_method_5_code, 2, some .int, 1, 21)
theorem np_M_Wa_hitsOf : (parseMethodDescriptor (mn M_Wa_hitsOf).desc).map (fun d => d.parameters.length) = some 1 := by decide +kernel
theorem ok_M_Wa_hitsOf : MdOK M_Wa_hitsOf := ⟨(qm_3 (i := 111) rfl rfl), ini_CoinSampler_Walk.1, ini_CoinSampler_Walk.2, by decide +kernel⟩
theorem okv_M_Wa_hitsOf : MdV M_Wa_hitsOf := ⟨(qm_3 (i := 109) rfl rfl), (qm_3 (i := 110) rfl rfl)⟩
def M_Wa_drawStart : Md := (⟨"CoinSampler$Walk", "drawStart", "()I"⟩, prog_11_method_6_code, 3, some .int, 2, 43)
theorem np_M_Wa_drawStart : (parseMethodDescriptor (mn M_Wa_drawStart).desc).map (fun d => d.parameters.length) = some 0 := by decide +kernel
theorem ok_M_Wa_drawStart : MdOK M_Wa_drawStart := ⟨(qm_3 (i := 92) rfl rfl), ini_CoinSampler_Walk.1, ini_CoinSampler_Walk.2, by decide +kernel⟩
theorem okv_M_Wa_drawStart : MdV M_Wa_drawStart := ⟨(qm_3 (i := 90) rfl rfl), (qm_3 (i := 91) rfl rfl)⟩
def M_Wa_isStart : Md := (⟨"CoinSampler$Walk", "isStart", "(I)Z"⟩, prog_11_method_7_code, 3, some .boolean, 0, 0)
theorem np_M_Wa_isStart : (parseMethodDescriptor (mn M_Wa_isStart).desc).map (fun d => d.parameters.length) = some 1 := by decide +kernel
theorem ok_M_Wa_isStart : MdOK M_Wa_isStart := ⟨(qm_3 (i := 99) rfl rfl), ini_CoinSampler_Walk.1, ini_CoinSampler_Walk.2, by decide +kernel⟩
theorem okv_M_Wa_isStart : MdV M_Wa_isStart := ⟨(qm_3 (i := 98) rfl rfl), (qm_p (i := 11) (q := (⟨"CoinSampler$Walk", "isStart", "(I)Z"⟩, _)) rfl rfl)⟩
def M_Wa_lowestFree : Md := (⟨"CoinSampler$Walk", "lowestFree", "()I"⟩, prog_11_method_8_code, 2, some .int, 1, 22)
theorem np_M_Wa_lowestFree : (parseMethodDescriptor (mn M_Wa_lowestFree).desc).map (fun d => d.parameters.length) = some 0 := by decide +kernel
theorem ok_M_Wa_lowestFree : MdOK M_Wa_lowestFree := ⟨(qm_3 (i := 103) rfl rfl), ini_CoinSampler_Walk.1, ini_CoinSampler_Walk.2, by decide +kernel⟩
theorem okv_M_Wa_lowestFree : MdV M_Wa_lowestFree := ⟨(qm_3 (i := 102) rfl rfl), (qm_p (i := 12) (q := (⟨"CoinSampler$Walk", "lowestFree", "()I"⟩, _)) rfl rfl)⟩
def M_Wa_follow : Md := (⟨"CoinSampler$Walk", "follow", "(I)V"⟩, prog_11_method_9_code, 5, none, 2, 42)
theorem np_M_Wa_follow : (parseMethodDescriptor (mn M_Wa_follow).desc).map (fun d => d.parameters.length) = some 1 := by decide +kernel
theorem ok_M_Wa_follow : MdOK M_Wa_follow := ⟨(qm_3 (i := 107) rfl rfl), ini_CoinSampler_Walk.1, ini_CoinSampler_Walk.2, by decide +kernel⟩
theorem okv_M_Wa_follow : MdV M_Wa_follow := ⟨(qm_3 (i := 105) rfl rfl), (qm_3 (i := 106) rfl rfl)⟩
def M_Wa_timesHit : Md := (⟨"CoinSampler$Walk", "timesHit", "(II)I"⟩, prog_11_method_10_code, 5, some .int, 3, 65)
theorem np_M_Wa_timesHit : (parseMethodDescriptor (mn M_Wa_timesHit).desc).map (fun d => d.parameters.length) = some 2 := by decide +kernel
theorem ok_M_Wa_timesHit : MdOK M_Wa_timesHit := ⟨(qm_3 (i := 154) rfl rfl), ini_CoinSampler_Walk.1, ini_CoinSampler_Walk.2, by decide +kernel⟩
theorem okv_M_Wa_timesHit : MdV M_Wa_timesHit := ⟨(qm_3 (i := 152) rfl rfl), (qm_3 (i := 153) rfl rfl)⟩
def M_Wa_timesCoinHit : Md := (⟨"CoinSampler$Walk", "timesCoinHit", "(I)I"⟩, prog_11_method_11_code, 4, some .int, 2, 42)
theorem np_M_Wa_timesCoinHit : (parseMethodDescriptor (mn M_Wa_timesCoinHit).desc).map (fun d => d.parameters.length) = some 1 := by decide +kernel
theorem ok_M_Wa_timesCoinHit : MdOK M_Wa_timesCoinHit := ⟨(qm_3 (i := 180) rfl rfl), ini_CoinSampler_Walk.1, ini_CoinSampler_Walk.2, by decide +kernel⟩
theorem okv_M_Wa_timesCoinHit : MdV M_Wa_timesCoinHit := ⟨(qm_3 (i := 178) rfl rfl), (qm_3 (i := 179) rfl rfl)⟩
def M_Wa_isLookedAt : Md := (⟨"CoinSampler$Walk", "isLookedAt", "(II)Z"⟩, prog_11_method_12_code, 3, some .boolean, 4, 89)
theorem np_M_Wa_isLookedAt : (parseMethodDescriptor (mn M_Wa_isLookedAt).desc).map (fun d => d.parameters.length) = some 2 := by decide +kernel
theorem ok_M_Wa_isLookedAt : MdOK M_Wa_isLookedAt := ⟨(qm_3 (i := 210) rfl rfl), ini_CoinSampler_Walk.1, ini_CoinSampler_Walk.2, by decide +kernel⟩
theorem okv_M_Wa_isLookedAt : MdV M_Wa_isLookedAt := ⟨(qm_3 (i := 208) rfl rfl), (qm_3 (i := 209) rfl rfl)⟩
def M_Wa_lackingBy : Md := (⟨"CoinSampler$Walk", "lackingBy", "(LCoinSampler$Ledger;I)I"⟩, prog_11_method_13_code, 5, some .int, 5, 111)
theorem np_M_Wa_lackingBy : (parseMethodDescriptor (mn M_Wa_lackingBy).desc).map (fun d => d.parameters.length) = some 2 := by decide +kernel
theorem ok_M_Wa_lackingBy : MdOK M_Wa_lackingBy := ⟨(qm_4 (i := 125) rfl rfl), ini_CoinSampler_Walk.1, ini_CoinSampler_Walk.2, by decide +kernel⟩
theorem okv_M_Wa_lackingBy : MdV M_Wa_lackingBy := ⟨(qm_4 (i := 123) rfl rfl), (qm_4 (i := 124) rfl rfl)⟩
def M_Cs_init : Md := (⟨"CoinSampler", "<init>", "()V"⟩, prog_1_method_1_code, 1, none, 2, 42)
theorem ini_CoinSampler : Cond.initialized "CoinSampler" ∈ UW ∧ (("CoinSampler" : String) ≠ "java/lang/invoke/MethodHandle" ∧ ("CoinSampler" : String) ≠ "java/lang/invoke/VarHandle") := ⟨(qm_1 (i := 1) rfl rfl), by decide +kernel⟩
theorem np_M_Cs_init : (parseMethodDescriptor (mn M_Cs_init).desc).map (fun d => d.parameters.length) = some 0 := by decide +kernel
theorem ok_M_Cs_init : MdOK M_Cs_init := ⟨(qm_1 (i := 23) rfl rfl), ini_CoinSampler.1, ini_CoinSampler.2, by decide +kernel⟩
theorem okv_M_Cs_init : Cond.instanceMethod (mn M_Cs_init) ∈ UW := (qm_1 (i := 22) rfl rfl)
def M_Cs_feed : Md := (⟨"CoinSampler", "feed", "(IIIII)I"⟩, prog_1_method_2_code, 6, some .int, 1, 22)
theorem np_M_Cs_feed : (parseMethodDescriptor (mn M_Cs_feed).desc).map (fun d => d.parameters.length) = some 5 := by decide +kernel
theorem ok_M_Cs_feed : MdOK M_Cs_feed := ⟨(qm_2 (i := 92) rfl rfl), ini_CoinSampler.1, ini_CoinSampler.2, by decide +kernel⟩
theorem okv_M_Cs_feed : MdV M_Cs_feed := ⟨(qm_2 (i := 90) rfl rfl), (qm_2 (i := 91) rfl rfl)⟩
def M_Cs_text : Md := (⟨"CoinSampler", "text", "(I)I"⟩, prog_1_method_3_code, 2, some .int, 8, 178)
theorem np_M_Cs_text : (parseMethodDescriptor (mn M_Cs_text).desc).map (fun d => d.parameters.length) = some 1 := by decide +kernel
theorem ok_M_Cs_text : MdOK M_Cs_text := ⟨(qm_2 (i := 100) rfl rfl), ini_CoinSampler.1, ini_CoinSampler.2, by decide +kernel⟩
theorem okv_M_Cs_text : MdV M_Cs_text := ⟨(qm_2 (i := 98) rfl rfl), (qm_2 (i := 99) rfl rfl)⟩
def M_Cs_fault : Md := (⟨"CoinSampler", "fault", "(I)I"⟩, prog_1_method_4_code, 2, some .int, 0, 0)
theorem np_M_Cs_fault : (parseMethodDescriptor (mn M_Cs_fault).desc).map (fun d => d.parameters.length) = some 1 := by decide +kernel
theorem ok_M_Cs_fault : MdOK M_Cs_fault := ⟨(qm_3 (i := 9) rfl rfl), ini_CoinSampler.1, ini_CoinSampler.2, by decide +kernel⟩
theorem okv_M_Cs_fault : MdV M_Cs_fault := ⟨(qm_3 (i := 7) rfl rfl), (qm_3 (i := 8) rfl rfl)⟩
def M_Cs_terms : Md := (⟨"CoinSampler", "terms", "(II)I"⟩, prog_1_method_5_code, 4, some .int, 2, 43)
theorem np_M_Cs_terms : (parseMethodDescriptor (mn M_Cs_terms).desc).map (fun d => d.parameters.length) = some 2 := by decide +kernel
theorem ok_M_Cs_terms : MdOK M_Cs_terms := ⟨(qm_3 (i := 13) rfl rfl), ini_CoinSampler.1, ini_CoinSampler.2, by decide +kernel⟩
theorem okv_M_Cs_terms : MdV M_Cs_terms := ⟨(qm_3 (i := 11) rfl rfl), (qm_3 (i := 12) rfl rfl)⟩
def M_Cs_add : Md := (⟨"CoinSampler", "add", "(III)I"⟩, prog_1_method_6_code, 4, some .int, 4, 85)
theorem np_M_Cs_add : (parseMethodDescriptor (mn M_Cs_add).desc).map (fun d => d.parameters.length) = some 3 := by decide +kernel
theorem ok_M_Cs_add : MdOK M_Cs_add := ⟨(qm_3 (i := 30) rfl rfl), ini_CoinSampler.1, ini_CoinSampler.2, by decide +kernel⟩
theorem okv_M_Cs_add : MdV M_Cs_add := ⟨(qm_3 (i := 28) rfl rfl), (qm_3 (i := 29) rfl rfl)⟩
def M_Cs_post : Md := (⟨"CoinSampler", "post", "(II)I"⟩, prog_1_method_7_code, 4, some .int, 4, 85)
theorem np_M_Cs_post : (parseMethodDescriptor (mn M_Cs_post).desc).map (fun d => d.parameters.length) = some 2 := by decide +kernel
theorem ok_M_Cs_post : MdOK M_Cs_post := ⟨(qm_3 (i := 42) rfl rfl), ini_CoinSampler.1, ini_CoinSampler.2, by decide +kernel⟩
theorem okv_M_Cs_post : MdV M_Cs_post := ⟨(qm_3 (i := 40) rfl rfl), (qm_3 (i := 41) rfl rfl)⟩
def M_Cs_audit : Md := (⟨"CoinSampler", "audit", "(II)I"⟩, prog_1_method_8_code, 4, some .int, 2, 43)
theorem np_M_Cs_audit : (parseMethodDescriptor (mn M_Cs_audit).desc).map (fun d => d.parameters.length) = some 2 := by decide +kernel
theorem ok_M_Cs_audit : MdOK M_Cs_audit := ⟨(qm_3 (i := 48) rfl rfl), ini_CoinSampler.1, ini_CoinSampler.2, by decide +kernel⟩
theorem okv_M_Cs_audit : MdV M_Cs_audit := ⟨(qm_3 (i := 46) rfl rfl), (qm_3 (i := 47) rfl rfl)⟩
def M_Cs_forget : Md := (⟨"CoinSampler", "forget", "(I)I"⟩, prog_1_method_9_code, 3, some .int, 1, 21)
theorem np_M_Cs_forget : (parseMethodDescriptor (mn M_Cs_forget).desc).map (fun d => d.parameters.length) = some 1 := by decide +kernel
theorem ok_M_Cs_forget : MdOK M_Cs_forget := ⟨(qm_3 (i := 54) rfl rfl), ini_CoinSampler.1, ini_CoinSampler.2, by decide +kernel⟩
theorem okv_M_Cs_forget : MdV M_Cs_forget := ⟨(qm_3 (i := 52) rfl rfl), (qm_3 (i := 53) rfl rfl)⟩
def M_Cs_interval : Md := (⟨"CoinSampler", "interval", "(I)I"⟩, prog_1_method_10_code, 2, some .int, 4, 85)
theorem np_M_Cs_interval : (parseMethodDescriptor (mn M_Cs_interval).desc).map (fun d => d.parameters.length) = some 1 := by decide +kernel
theorem ok_M_Cs_interval : MdOK M_Cs_interval := ⟨(qm_3 (i := 58) rfl rfl), ini_CoinSampler.1, ini_CoinSampler.2, by decide +kernel⟩
theorem okv_M_Cs_interval : MdV M_Cs_interval := ⟨(qm_3 (i := 56) rfl rfl), (qm_3 (i := 57) rfl rfl)⟩
def M_Cs_plan : Md := (⟨"CoinSampler", "plan", "()I"⟩, prog_1_method_11_code, 3, some .int, 4, 91)
theorem np_M_Cs_plan : (parseMethodDescriptor (mn M_Cs_plan).desc).map (fun d => d.parameters.length) = some 0 := by decide +kernel
theorem ok_M_Cs_plan : MdOK M_Cs_plan := ⟨(qm_3 (i := 62) rfl rfl), ini_CoinSampler.1, ini_CoinSampler.2, by decide +kernel⟩
theorem okv_M_Cs_plan : MdV M_Cs_plan := ⟨(qm_3 (i := 60) rfl rfl), (qm_3 (i := 61) rfl rfl)⟩
def M_Cs_draw : Md := (⟨"CoinSampler", "draw", "()I"⟩, prog_1_method_12_code, 2, some .int, 3, 66)
theorem np_M_Cs_draw : (parseMethodDescriptor (mn M_Cs_draw).desc).map (fun d => d.parameters.length) = some 0 := by decide +kernel
theorem ok_M_Cs_draw : MdOK M_Cs_draw := ⟨(qm_3 (i := 88) rfl rfl), ini_CoinSampler.1, ini_CoinSampler.2, by decide +kernel⟩
theorem okv_M_Cs_draw : MdV M_Cs_draw := ⟨(qm_3 (i := 86) rfl rfl), (qm_3 (i := 87) rfl rfl)⟩
def M_Cs_clear : Md := (⟨"CoinSampler", "clear", "()I"⟩, prog_1_method_13_code, 2, some .int, 1, 20)
theorem np_M_Cs_clear : (parseMethodDescriptor (mn M_Cs_clear).desc).map (fun d => d.parameters.length) = some 0 := by decide +kernel
theorem ok_M_Cs_clear : MdOK M_Cs_clear := ⟨(qm_3 (i := 127) rfl rfl), ini_CoinSampler.1, ini_CoinSampler.2, by decide +kernel⟩
theorem okv_M_Cs_clear : MdV M_Cs_clear := ⟨(qm_3 (i := 125) rfl rfl), (qm_3 (i := 126) rfl rfl)⟩
def M_Cs_find : Md := (⟨"CoinSampler", "find", "(II)I"⟩, prog_1_method_14_code, 3, some .int, 1, 23)
theorem np_M_Cs_find : (parseMethodDescriptor (mn M_Cs_find).desc).map (fun d => d.parameters.length) = some 2 := by decide +kernel
theorem ok_M_Cs_find : MdOK M_Cs_find := ⟨(qm_3 (i := 131) rfl rfl), ini_CoinSampler.1, ini_CoinSampler.2, by decide +kernel⟩
theorem okv_M_Cs_find : MdV M_Cs_find := ⟨(qm_3 (i := 129) rfl rfl), (qm_3 (i := 130) rfl rfl)⟩
def M_Cs_item : Md := (⟨"CoinSampler", "item", "(II)I"⟩, prog_1_method_15_code, 3, some .int, 4, 89)
theorem np_M_Cs_item : (parseMethodDescriptor (mn M_Cs_item).desc).map (fun d => d.parameters.length) = some 2 := by decide +kernel
theorem ok_M_Cs_item : MdOK M_Cs_item := ⟨(qm_3 (i := 135) rfl rfl), ini_CoinSampler.1, ini_CoinSampler.2, by decide +kernel⟩
theorem okv_M_Cs_item : MdV M_Cs_item := ⟨(qm_3 (i := 133) rfl rfl), (qm_3 (i := 134) rfl rfl)⟩
def M_Cs_coin : Md := (⟨"CoinSampler", "coin", "(II)I"⟩, prog_1_method_16_code, 4, some .int, 3, 65)
theorem np_M_Cs_coin : (parseMethodDescriptor (mn M_Cs_coin).desc).map (fun d => d.parameters.length) = some 2 := by decide +kernel
theorem ok_M_Cs_coin : MdOK M_Cs_coin := ⟨(qm_3 (i := 175) rfl rfl), ini_CoinSampler.1, ini_CoinSampler.2, by decide +kernel⟩
theorem okv_M_Cs_coin : MdV M_Cs_coin := ⟨(qm_3 (i := 173) rfl rfl), (qm_3 (i := 174) rfl rfl)⟩
def M_Cs_hit : Md := (⟨"CoinSampler", "hit", "(II)I"⟩, prog_1_method_17_code, 3, some .int, 3, 64)
theorem np_M_Cs_hit : (parseMethodDescriptor (mn M_Cs_hit).desc).map (fun d => d.parameters.length) = some 2 := by decide +kernel
theorem ok_M_Cs_hit : MdOK M_Cs_hit := ⟨(qm_3 (i := 184) rfl rfl), ini_CoinSampler.1, ini_CoinSampler.2, by decide +kernel⟩
theorem okv_M_Cs_hit : MdV M_Cs_hit := ⟨(qm_3 (i := 182) rfl rfl), (qm_3 (i := 183) rfl rfl)⟩
def M_Cs_start : Md := (⟨"CoinSampler", "start", "(I)I"⟩, prog_1_method_18_code, 2, some .int, 1, 21)
theorem np_M_Cs_start : (parseMethodDescriptor (mn M_Cs_start).desc).map (fun d => d.parameters.length) = some 1 := by decide +kernel
theorem ok_M_Cs_start : MdOK M_Cs_start := ⟨(qm_3 (i := 192) rfl rfl), ini_CoinSampler.1, ini_CoinSampler.2, by decide +kernel⟩
theorem okv_M_Cs_start : MdV M_Cs_start := ⟨(qm_3 (i := 190) rfl rfl), (qm_3 (i := 191) rfl rfl)⟩
def M_Cs_certain : Md := (⟨"CoinSampler", "certain", "(I)I"⟩, prog_1_method_19_code, 2, some .int, 7, 157)
theorem np_M_Cs_certain : (parseMethodDescriptor (mn M_Cs_certain).desc).map (fun d => d.parameters.length) = some 1 := by decide +kernel
theorem ok_M_Cs_certain : MdOK M_Cs_certain := ⟨(qm_3 (i := 197) rfl rfl), ini_CoinSampler.1, ini_CoinSampler.2, by decide +kernel⟩
theorem okv_M_Cs_certain : MdV M_Cs_certain := ⟨(qm_3 (i := 195) rfl rfl), (qm_3 (i := 196) rfl rfl)⟩
def M_Cs_lacking : Md := (⟨"CoinSampler", "lacking", "(I)I"⟩, prog_1_method_20_code, 2, some .int, 7, 157)
theorem np_M_Cs_lacking : (parseMethodDescriptor (mn M_Cs_lacking).desc).map (fun d => d.parameters.length) = some 1 := by decide +kernel
theorem ok_M_Cs_lacking : MdOK M_Cs_lacking := ⟨(qm_3 (i := 216) rfl rfl), ini_CoinSampler.1, ini_CoinSampler.2, by decide +kernel⟩
theorem okv_M_Cs_lacking : MdV M_Cs_lacking := ⟨(qm_3 (i := 214) rfl rfl), (qm_3 (i := 215) rfl rfl)⟩
def M_Cs_account : Md := (⟨"CoinSampler", "account", "(II)I"⟩, prog_1_method_21_code, 5, some .int, 5, 111)
theorem np_M_Cs_account : (parseMethodDescriptor (mn M_Cs_account).desc).map (fun d => d.parameters.length) = some 2 := by decide +kernel
theorem ok_M_Cs_account : MdOK M_Cs_account := ⟨(qm_3 (i := 220) rfl rfl), ini_CoinSampler.1, ini_CoinSampler.2, by decide +kernel⟩
theorem okv_M_Cs_account : MdV M_Cs_account := ⟨(qm_3 (i := 218) rfl rfl), (qm_3 (i := 219) rfl rfl)⟩
def M_Cs_accounts : Md := (⟨"CoinSampler", "accounts", "(I)I"⟩, prog_1_method_22_code, 4, some .int, 2, 43)
theorem np_M_Cs_accounts : (parseMethodDescriptor (mn M_Cs_accounts).desc).map (fun d => d.parameters.length) = some 1 := by decide +kernel
theorem ok_M_Cs_accounts : MdOK M_Cs_accounts := ⟨(qm_4 (i := 3) rfl rfl), ini_CoinSampler.1, ini_CoinSampler.2, by decide +kernel⟩
theorem okv_M_Cs_accounts : MdV M_Cs_accounts := ⟨(qm_4 (i := 1) rfl rfl), (qm_4 (i := 2) rfl rfl)⟩
def M_Cs_drawn : Md := (⟨"CoinSampler", "drawn", "(I)I"⟩, prog_1_method_23_code, 2, some .int, 7, 157)
theorem np_M_Cs_drawn : (parseMethodDescriptor (mn M_Cs_drawn).desc).map (fun d => d.parameters.length) = some 1 := by decide +kernel
theorem ok_M_Cs_drawn : MdOK M_Cs_drawn := ⟨(qm_4 (i := 11) rfl rfl), ini_CoinSampler.1, ini_CoinSampler.2, by decide +kernel⟩
theorem okv_M_Cs_drawn : MdV M_Cs_drawn := ⟨(qm_4 (i := 9) rfl rfl), (qm_4 (i := 10) rfl rfl)⟩
def M_Cs_line : Md := (⟨"CoinSampler", "line", "(II)I"⟩, prog_1_method_24_code, 4, some .int, 7, 157)
theorem np_M_Cs_line : (parseMethodDescriptor (mn M_Cs_line).desc).map (fun d => d.parameters.length) = some 2 := by decide +kernel
theorem ok_M_Cs_line : MdOK M_Cs_line := ⟨(qm_4 (i := 15) rfl rfl), ini_CoinSampler.1, ini_CoinSampler.2, by decide +kernel⟩
theorem okv_M_Cs_line : MdV M_Cs_line := ⟨(qm_4 (i := 13) rfl rfl), (qm_4 (i := 14) rfl rfl)⟩
def M_Cs_upper : Md := (⟨"CoinSampler", "upper", "(II)I"⟩, prog_1_method_25_code, 3, some .int, 2, 63)
theorem np_M_Cs_upper : (parseMethodDescriptor (mn M_Cs_upper).desc).map (fun d => d.parameters.length) = some 2 := by decide +kernel
theorem ok_M_Cs_upper : MdOK M_Cs_upper := ⟨(qm_4 (i := 36) rfl rfl), ini_CoinSampler.1, ini_CoinSampler.2, by decide +kernel⟩
theorem okv_M_Cs_upper : MdV M_Cs_upper := ⟨(qm_4 (i := 34) rfl rfl), (qm_4 (i := 35) rfl rfl)⟩
def M_Cs_size : Md := (⟨"CoinSampler", "size", "(I)I"⟩, prog_1_method_26_code, 2, some .int, 4, 114)
theorem np_M_Cs_size : (parseMethodDescriptor (mn M_Cs_size).desc).map (fun d => d.parameters.length) = some 1 := by decide +kernel
theorem ok_M_Cs_size : MdOK M_Cs_size := ⟨(qm_4 (i := 41) rfl rfl), ini_CoinSampler.1, ini_CoinSampler.2, by decide +kernel⟩
theorem okv_M_Cs_size : MdV M_Cs_size := ⟨(qm_4 (i := 39) rfl rfl), (qm_4 (i := 40) rfl rfl)⟩
def M_Cs_projected : Md := (⟨"CoinSampler", "projected", "(I)I"⟩, prog_1_method_27_code, 2, some .int, 5, 108)
theorem np_M_Cs_projected : (parseMethodDescriptor (mn M_Cs_projected).desc).map (fun d => d.parameters.length) = some 1 := by decide +kernel
theorem ok_M_Cs_projected : MdOK M_Cs_projected := ⟨(qm_4 (i := 49) rfl rfl), ini_CoinSampler.1, ini_CoinSampler.2, by decide +kernel⟩
theorem okv_M_Cs_projected : MdV M_Cs_projected := ⟨(qm_4 (i := 47) rfl rfl), (qm_4 (i := 48) rfl rfl)⟩
def M_Cs_taint : Md := (⟨"CoinSampler", "taint", "(II)I"⟩, prog_1_method_28_code, 3, some .int, 4, 109)
theorem np_M_Cs_taint : (parseMethodDescriptor (mn M_Cs_taint).desc).map (fun d => d.parameters.length) = some 2 := by decide +kernel
theorem ok_M_Cs_taint : MdOK M_Cs_taint := ⟨(qm_4 (i := 66) rfl rfl), ini_CoinSampler.1, ini_CoinSampler.2, by decide +kernel⟩
theorem okv_M_Cs_taint : MdV M_Cs_taint := ⟨(qm_4 (i := 64) rfl rfl), (qm_4 (i := 65) rfl rfl)⟩
def M_Cs_bound : Md := (⟨"CoinSampler", "bound", "(I)I"⟩, prog_1_method_29_code, 2, some .int, 7, 176)
theorem np_M_Cs_bound : (parseMethodDescriptor (mn M_Cs_bound).desc).map (fun d => d.parameters.length) = some 1 := by decide +kernel
theorem ok_M_Cs_bound : MdOK M_Cs_bound := ⟨(qm_4 (i := 91) rfl rfl), ini_CoinSampler.1, ini_CoinSampler.2, by decide +kernel⟩
theorem okv_M_Cs_bound : MdV M_Cs_bound := ⟨(qm_4 (i := 89) rfl rfl), (qm_4 (i := 90) rfl rfl)⟩
def M_Cs_below : Md := (⟨"CoinSampler", "below", "(I)I"⟩, prog_1_method_30_code, 2, some .int, 7, 176)
theorem np_M_Cs_below : (parseMethodDescriptor (mn M_Cs_below).desc).map (fun d => d.parameters.length) = some 1 := by decide +kernel
theorem ok_M_Cs_below : MdOK M_Cs_below := ⟨(qm_4 (i := 117) rfl rfl), ini_CoinSampler.1, ini_CoinSampler.2, by decide +kernel⟩
theorem okv_M_Cs_below : MdV M_Cs_below := ⟨(qm_4 (i := 115) rfl rfl), (qm_4 (i := 116) rfl rfl)⟩
def M_Cs_judged : Md := (⟨"CoinSampler", "judged", "()I"⟩, prog_1_method_31_code, 1, some .int, 7, 174)
theorem np_M_Cs_judged : (parseMethodDescriptor (mn M_Cs_judged).desc).map (fun d => d.parameters.length) = some 0 := by decide +kernel
theorem ok_M_Cs_judged : MdOK M_Cs_judged := ⟨(qm_4 (i := 121) rfl rfl), ini_CoinSampler.1, ini_CoinSampler.2, by decide +kernel⟩
theorem okv_M_Cs_judged : MdV M_Cs_judged := ⟨(qm_4 (i := 119) rfl rfl), (qm_4 (i := 120) rfl rfl)⟩
def M_Cs_would : Md := (⟨"CoinSampler", "would", "(II)I"⟩, prog_1_method_32_code, 3, some .int, 7, 178)
theorem np_M_Cs_would : (parseMethodDescriptor (mn M_Cs_would).desc).map (fun d => d.parameters.length) = some 2 := by decide +kernel
theorem ok_M_Cs_would : MdOK M_Cs_would := ⟨(qm_4 (i := 135) rfl rfl), ini_CoinSampler.1, ini_CoinSampler.2, by decide +kernel⟩
theorem okv_M_Cs_would : MdV M_Cs_would := ⟨(qm_4 (i := 133) rfl rfl), (qm_4 (i := 134) rfl rfl)⟩
def M_Cs_dearest : Md := (⟨"CoinSampler", "dearest", "()I"⟩, prog_1_method_33_code, 5, some .int, 7, 178)
theorem np_M_Cs_dearest : (parseMethodDescriptor (mn M_Cs_dearest).desc).map (fun d => d.parameters.length) = some 0 := by decide +kernel
theorem ok_M_Cs_dearest : MdOK M_Cs_dearest := ⟨(qm_4 (i := 143) rfl rfl), ini_CoinSampler.1, ini_CoinSampler.2, by decide +kernel⟩
theorem okv_M_Cs_dearest : MdV M_Cs_dearest := ⟨(qm_4 (i := 141) rfl rfl), (qm_4 (i := 142) rfl rfl)⟩
def M_Cs_more : Md := (⟨"CoinSampler", "more", "()I"⟩, prog_1_method_34_code, 3, some .int, 7, 174)
theorem np_M_Cs_more : (parseMethodDescriptor (mn M_Cs_more).desc).map (fun d => d.parameters.length) = some 0 := by decide +kernel
theorem ok_M_Cs_more : MdOK M_Cs_more := ⟨(qm_4 (i := 147) rfl rfl), ini_CoinSampler.1, ini_CoinSampler.2, by decide +kernel⟩
theorem okv_M_Cs_more : MdV M_Cs_more := ⟨(qm_4 (i := 145) rfl rfl), (qm_4 (i := 146) rfl rfl)⟩
def M_Cs_step : Md := (⟨"CoinSampler", "step", "(II)I"⟩, prog_1_method_35_code, 3, some .int, 7, 174)
theorem np_M_Cs_step : (parseMethodDescriptor (mn M_Cs_step).desc).map (fun d => d.parameters.length) = some 2 := by decide +kernel
theorem ok_M_Cs_step : MdOK M_Cs_step := ⟨(qm_4 (i := 152) rfl rfl), ini_CoinSampler.1, ini_CoinSampler.2, by decide +kernel⟩
theorem okv_M_Cs_step : MdV M_Cs_step := ⟨(qm_4 (i := 150) rfl rfl), (qm_4 (i := 151) rfl rfl)⟩
def M_Cs_risky : Md := (⟨"CoinSampler", "risky", "()I"⟩, prog_1_method_36_code, 6, some .int, 7, 174)
theorem np_M_Cs_risky : (parseMethodDescriptor (mn M_Cs_risky).desc).map (fun d => d.parameters.length) = some 0 := by decide +kernel
theorem ok_M_Cs_risky : MdOK M_Cs_risky := ⟨(qm_4 (i := 157) rfl rfl), ini_CoinSampler.1, ini_CoinSampler.2, by decide +kernel⟩
theorem okv_M_Cs_risky : MdV M_Cs_risky := ⟨(qm_4 (i := 155) rfl rfl), (qm_4 (i := 156) rfl rfl)⟩
def M_Cs_sizes : Md := (⟨"CoinSampler", "sizes", "(I)I"⟩, prog_1_method_37_code, 2, some .int, 4, 114)
theorem np_M_Cs_sizes : (parseMethodDescriptor (mn M_Cs_sizes).desc).map (fun d => d.parameters.length) = some 1 := by decide +kernel
theorem ok_M_Cs_sizes : MdOK M_Cs_sizes := ⟨(qm_4 (i := 165) rfl rfl), ini_CoinSampler.1, ini_CoinSampler.2, by decide +kernel⟩
theorem okv_M_Cs_sizes : MdV M_Cs_sizes := ⟨(qm_4 (i := 163) rfl rfl), (qm_4 (i := 164) rfl rfl)⟩
def M_Cs_trial : Md := (⟨"CoinSampler", "trial", "(II)I"⟩, prog_1_method_38_code, 3, some .int, 4, 88)
theorem np_M_Cs_trial : (parseMethodDescriptor (mn M_Cs_trial).desc).map (fun d => d.parameters.length) = some 2 := by decide +kernel
theorem ok_M_Cs_trial : MdOK M_Cs_trial := ⟨(qm_4 (i := 169) rfl rfl), ini_CoinSampler.1, ini_CoinSampler.2, by decide +kernel⟩
theorem okv_M_Cs_trial : MdV M_Cs_trial := ⟨(qm_4 (i := 167) rfl rfl), (qm_4 (i := 168) rfl rfl)⟩
def M_Cs_covered : Md := (⟨"CoinSampler", "covered", "()I"⟩, prog_1_method_39_code, 5, some .int, 5, 111)
theorem np_M_Cs_covered : (parseMethodDescriptor (mn M_Cs_covered).desc).map (fun d => d.parameters.length) = some 0 := by decide +kernel
theorem ok_M_Cs_covered : MdOK M_Cs_covered := ⟨(qm_4 (i := 192) rfl rfl), ini_CoinSampler.1, ini_CoinSampler.2, by decide +kernel⟩
theorem okv_M_Cs_covered : MdV M_Cs_covered := ⟨(qm_4 (i := 190) rfl rfl), (qm_4 (i := 191) rfl rfl)⟩
def M_Cs_caught : Md := (⟨"CoinSampler", "caught", "(I)I"⟩, prog_1_method_40_code, 2, some .int, 5, 112)
theorem np_M_Cs_caught : (parseMethodDescriptor (mn M_Cs_caught).desc).map (fun d => d.parameters.length) = some 1 := by decide +kernel
theorem ok_M_Cs_caught : MdOK M_Cs_caught := ⟨(qm_4 (i := 197) rfl rfl), ini_CoinSampler.1, ini_CoinSampler.2, by decide +kernel⟩
theorem okv_M_Cs_caught : MdV M_Cs_caught := ⟨(qm_4 (i := 195) rfl rfl), (qm_4 (i := 196) rfl rfl)⟩
def M_Cs_worst : Md := (⟨"CoinSampler", "worst", "(I)I"⟩, prog_1_method_41_code, 3, some .int, 5, 112)
theorem np_M_Cs_worst : (parseMethodDescriptor (mn M_Cs_worst).desc).map (fun d => d.parameters.length) = some 1 := by decide +kernel
theorem ok_M_Cs_worst : MdOK M_Cs_worst := ⟨(qm_4 (i := 224) rfl rfl), ini_CoinSampler.1, ini_CoinSampler.2, by decide +kernel⟩
theorem okv_M_Cs_worst : MdV M_Cs_worst := ⟨(qm_4 (i := 222) rfl rfl), (qm_4 (i := 223) rfl rfl)⟩
def M_Cs_chance : Md := (⟨"CoinSampler", "chance", "(I)I"⟩, prog_1_method_42_code, 4, some .int, 5, 112)
theorem np_M_Cs_chance : (parseMethodDescriptor (mn M_Cs_chance).desc).map (fun d => d.parameters.length) = some 1 := by decide +kernel
theorem ok_M_Cs_chance : MdOK M_Cs_chance := ⟨(qm_4 (i := 233) rfl rfl), ini_CoinSampler.1, ini_CoinSampler.2, by decide +kernel⟩
theorem okv_M_Cs_chance : MdV M_Cs_chance := ⟨(qm_4 (i := 231) rfl rfl), (qm_4 (i := 232) rfl rfl)⟩
def M_Cs_were : Md := (⟨"CoinSampler", "were", "(III)I"⟩, prog_1_method_43_code, 4, some .int, 6, 134)
theorem np_M_Cs_were : (parseMethodDescriptor (mn M_Cs_were).desc).map (fun d => d.parameters.length) = some 3 := by decide +kernel
theorem ok_M_Cs_were : MdOK M_Cs_were := ⟨(qm_5 (i := 0) rfl rfl), ini_CoinSampler.1, ini_CoinSampler.2, by decide +kernel⟩
theorem okv_M_Cs_were : MdV M_Cs_were := ⟨(qm_4 (i := 238) rfl rfl), (qm_4 (i := 239) rfl rfl)⟩
def M_Cs_both : Md := (⟨"CoinSampler", "both", "(II)I"⟩, prog_1_method_44_code, 3, some .int, 5, 112)
theorem np_M_Cs_both : (parseMethodDescriptor (mn M_Cs_both).desc).map (fun d => d.parameters.length) = some 2 := by decide +kernel
theorem ok_M_Cs_both : MdOK M_Cs_both := ⟨(qm_5 (i := 10) rfl rfl), ini_CoinSampler.1, ini_CoinSampler.2, by decide +kernel⟩
theorem okv_M_Cs_both : MdV M_Cs_both := ⟨(qm_5 (i := 8) rfl rfl), (qm_5 (i := 9) rfl rfl)⟩
def M_Cs_count : Md := (⟨"CoinSampler", "count", "(I)I"⟩, prog_1_method_45_code, 2, some .int, 5, 111)
theorem np_M_Cs_count : (parseMethodDescriptor (mn M_Cs_count).desc).map (fun d => d.parameters.length) = some 1 := by decide +kernel
theorem ok_M_Cs_count : MdOK M_Cs_count := ⟨(qm_5 (i := 18) rfl rfl), ini_CoinSampler.1, ini_CoinSampler.2, by decide +kernel⟩
theorem okv_M_Cs_count : MdV M_Cs_count := ⟨(qm_5 (i := 16) rfl rfl), (qm_5 (i := 17) rfl rfl)⟩
def M_Cs_isBook : Md := (⟨"CoinSampler", "isBook", "(I)Z"⟩, prog_1_method_46_code, 1, some .boolean, 0, 0)
theorem np_M_Cs_isBook : (parseMethodDescriptor (mn M_Cs_isBook).desc).map (fun d => d.parameters.length) = some 1 := by decide +kernel
theorem ok_M_Cs_isBook : MdOK M_Cs_isBook := ⟨(qm_3 (i := 33) rfl rfl), ini_CoinSampler.1, ini_CoinSampler.2, by decide +kernel⟩
theorem oks_M_Cs_isBook : Cond.static (mn M_Cs_isBook) ∈ UW := (qm_3 (i := 32) rfl rfl)
def M_Cs_commonDivisor : Md := (⟨"CoinSampler", "commonDivisor", "(II)I"⟩, prog_1_method_47_code, 6, some .int, 0, 0)
theorem np_M_Cs_commonDivisor : (parseMethodDescriptor (mn M_Cs_commonDivisor).desc).map (fun d => d.parameters.length) = some 2 := by decide +kernel
theorem ok_M_Cs_commonDivisor : MdOK M_Cs_commonDivisor := ⟨(qm_4 (i := 236) rfl rfl), ini_CoinSampler.1, ini_CoinSampler.2, by decide +kernel⟩
theorem oks_M_Cs_commonDivisor : Cond.static (mn M_Cs_commonDivisor) ∈ UW := (qm_4 (i := 235) rfl rfl)
def M_Cs_listed : Md := (⟨"CoinSampler", "listed", "(II)I"⟩, prog_1_method_48_code, 5, some .int, 6, 133)
theorem np_M_Cs_listed : (parseMethodDescriptor (mn M_Cs_listed).desc).map (fun d => d.parameters.length) = some 2 := by decide +kernel
theorem ok_M_Cs_listed : MdOK M_Cs_listed := ⟨(qm_3 (i := 201) rfl rfl), ini_CoinSampler.1, ini_CoinSampler.2, by decide +kernel⟩
theorem okv_M_Cs_listed : MdV M_Cs_listed := ⟨(qm_3 (i := 200) rfl rfl), (qm_p (i := 13) (q := (⟨"CoinSampler", "listed", "(II)I"⟩, _)) rfl rfl)⟩
def M_Cs_isOfKind : Md := (⟨"CoinSampler", "isOfKind", "(II)Z"⟩, prog_1_method_49_code, 3, some .boolean, 5, 111)
theorem np_M_Cs_isOfKind : (parseMethodDescriptor (mn M_Cs_isOfKind).desc).map (fun d => d.parameters.length) = some 2 := by decide +kernel
theorem ok_M_Cs_isOfKind : MdOK M_Cs_isOfKind := ⟨(qm_3 (i := 205) rfl rfl), ini_CoinSampler.1, ini_CoinSampler.2, by decide +kernel⟩
theorem okv_M_Cs_isOfKind : MdV M_Cs_isOfKind := ⟨(qm_3 (i := 204) rfl rfl), (qm_p (i := 14) (q := (⟨"CoinSampler", "isOfKind", "(II)Z"⟩, _)) rfl rfl)⟩
def M_Cs_shareOf : Md := (⟨"CoinSampler", "shareOf", "(II)I"⟩, prog_1_method_50_code, 3, some .int, 4, 89)
theorem np_M_Cs_shareOf : (parseMethodDescriptor (mn M_Cs_shareOf).desc).map (fun d => d.parameters.length) = some 2 := by decide +kernel
theorem ok_M_Cs_shareOf : MdOK M_Cs_shareOf := ⟨(qm_3 (i := 234) rfl rfl), ini_CoinSampler.1, ini_CoinSampler.2, by decide +kernel⟩
theorem okv_M_Cs_shareOf : MdV M_Cs_shareOf := ⟨(qm_3 (i := 233) rfl rfl), (qm_p (i := 15) (q := (⟨"CoinSampler", "shareOf", "(II)I"⟩, _)) rfl rfl)⟩
def M_Cs_writeLine : Md := (⟨"CoinSampler", "writeLine", "(I)V"⟩, prog_1_method_51_code, 2, none, 4, 89)
theorem np_M_Cs_writeLine : (parseMethodDescriptor (mn M_Cs_writeLine).desc).map (fun d => d.parameters.length) = some 1 := by decide +kernel
theorem ok_M_Cs_writeLine : MdOK M_Cs_writeLine := ⟨(qm_4 (i := 19) rfl rfl), ini_CoinSampler.1, ini_CoinSampler.2, by decide +kernel⟩
theorem okv_M_Cs_writeLine : MdV M_Cs_writeLine := ⟨(qm_4 (i := 18) rfl rfl), (qm_p (i := 16) (q := (⟨"CoinSampler", "writeLine", "(I)V"⟩, _)) rfl rfl)⟩
def M_Cs_sizeBy : Md := (⟨"CoinSampler", "sizeBy", "(II)I"⟩, prog_1_method_52_code, 4, some .int, 3, 91)
theorem np_M_Cs_sizeBy : (parseMethodDescriptor (mn M_Cs_sizeBy).desc).map (fun d => d.parameters.length) = some 2 := by decide +kernel
theorem ok_M_Cs_sizeBy : MdOK M_Cs_sizeBy := ⟨(qm_4 (i := 45) rfl rfl), ini_CoinSampler.1, ini_CoinSampler.2, by decide +kernel⟩
theorem okv_M_Cs_sizeBy : MdV M_Cs_sizeBy := ⟨(qm_4 (i := 44) rfl rfl), (qm_p (i := 17) (q := (⟨"CoinSampler", "sizeBy", "(II)I"⟩, _)) rfl rfl)⟩
def M_Cs_boundWere : Md := (⟨"CoinSampler", "boundWere", "(II)I"⟩, prog_1_method_53_code, 5, some .int, 6, 154)
theorem np_M_Cs_boundWere : (parseMethodDescriptor (mn M_Cs_boundWere).desc).map (fun d => d.parameters.length) = some 2 := by decide +kernel
theorem ok_M_Cs_boundWere : MdOK M_Cs_boundWere := ⟨(qm_4 (i := 139) rfl rfl), ini_CoinSampler.1, ini_CoinSampler.2, by decide +kernel⟩
theorem okv_M_Cs_boundWere : MdV M_Cs_boundWere := ⟨(qm_4 (i := 138) rfl rfl), (qm_p (i := 18) (q := (⟨"CoinSampler", "boundWere", "(II)I"⟩, _)) rfl rfl)⟩
def M_Cs_keptBy : Md := (⟨"CoinSampler", "keptBy", "(I)I"⟩, prog_1_method_54_code, 4, some .int, 5, 111)
theorem np_M_Cs_keptBy : (parseMethodDescriptor (mn M_Cs_keptBy).desc).map (fun d => d.parameters.length) = some 1 := by decide +kernel
theorem ok_M_Cs_keptBy : MdOK M_Cs_keptBy := ⟨(qm_5 (i := 5) rfl rfl), ini_CoinSampler.1, ini_CoinSampler.2, by decide +kernel⟩
theorem okv_M_Cs_keptBy : MdV M_Cs_keptBy := ⟨(qm_5 (i := 4) rfl rfl), (qm_p (i := 22) (q := (⟨"CoinSampler", "keptBy", "(I)I"⟩, _)) rfl rfl)⟩
def M_Cs_itemsHit : Md := (⟨"CoinSampler", "itemsHit", "()I"⟩, prog_1_method_55_code, 3, some .int, 4, 89)
theorem np_M_Cs_itemsHit : (parseMethodDescriptor (mn M_Cs_itemsHit).desc).map (fun d => d.parameters.length) = some 0 := by decide +kernel
theorem ok_M_Cs_itemsHit : MdOK M_Cs_itemsHit := ⟨(qm_5 (i := 22) rfl rfl), ini_CoinSampler.1, ini_CoinSampler.2, by decide +kernel⟩
theorem okv_M_Cs_itemsHit : MdV M_Cs_itemsHit := ⟨(qm_5 (i := 21) rfl rfl), (qm_p (i := 23) (q := (⟨"CoinSampler", "itemsHit", "()I"⟩, _)) rfl rfl)⟩
def M_Mo_isIn : Md := (⟨"CoinSamplerModel", "isIn", "(JJJ)Z"⟩, prog_13_method_2_code, 6, some .boolean, 0, 0)
theorem ini_CoinSamplerModel : Cond.initialized "CoinSamplerModel" ∈ UW ∧ (("CoinSamplerModel" : String) ≠ "java/lang/invoke/MethodHandle" ∧ ("CoinSamplerModel" : String) ≠ "java/lang/invoke/VarHandle") := ⟨(qm_1 (i := 12) rfl rfl), by decide +kernel⟩
theorem np_M_Mo_isIn : (parseMethodDescriptor (mn M_Mo_isIn).desc).map (fun d => d.parameters.length) = some 3 := by decide +kernel
theorem ok_M_Mo_isIn : MdOK M_Mo_isIn := ⟨(qm_5 (i := 155) rfl rfl), ini_CoinSamplerModel.1, ini_CoinSamplerModel.2, by decide +kernel⟩
theorem oks_M_Mo_isIn : Cond.static (mn M_Mo_isIn) ∈ UW := (qm_5 (i := 154) rfl rfl)
def M_Mo_init : Md := (⟨"CoinSamplerModel", "<init>", "()V"⟩, prog_13_method_3_code, 1, none, 0, 0)
theorem np_M_Mo_init : (parseMethodDescriptor (mn M_Mo_init).desc).map (fun d => d.parameters.length) = some 0 := by decide +kernel
theorem ok_M_Mo_init : MdOK M_Mo_init := ⟨(qm_5 (i := 31) rfl rfl), ini_CoinSamplerModel.1, ini_CoinSamplerModel.2, by decide +kernel⟩
theorem okv_M_Mo_init : Cond.instanceMethod (mn M_Mo_init) ∈ UW := (qm_5 (i := 30) rfl rfl)
def M_Mo_book : Md := (⟨"CoinSamplerModel", "book", "(I)I"⟩, prog_13_method_4_code, 2, some .int, 0, 0)
theorem np_M_Mo_book : (parseMethodDescriptor (mn M_Mo_book).desc).map (fun d => d.parameters.length) = some 1 := by decide +kernel
theorem ok_M_Mo_book : MdOK M_Mo_book := ⟨(qm_5 (i := 237) rfl rfl), ini_CoinSamplerModel.1, ini_CoinSamplerModel.2, by decide +kernel⟩
theorem okv_M_Mo_book : MdV M_Mo_book := ⟨(qm_5 (i := 236) rfl rfl), (qm_p (i := 36) (q := (⟨"CoinSamplerModel", "book", "(I)I"⟩, _)) rfl rfl)⟩
def M_Mo_audited : Md := (⟨"CoinSamplerModel", "audited", "(I)I"⟩, prog_13_method_5_code, 2, some .int, 0, 0)
theorem np_M_Mo_audited : (parseMethodDescriptor (mn M_Mo_audited).desc).map (fun d => d.parameters.length) = some 1 := by decide +kernel
theorem ok_M_Mo_audited : MdOK M_Mo_audited := ⟨(qm_6 (i := 14) rfl rfl), ini_CoinSamplerModel.1, ini_CoinSamplerModel.2, by decide +kernel⟩
theorem okv_M_Mo_audited : MdV M_Mo_audited := ⟨(qm_6 (i := 13) rfl rfl), (qm_p (i := 39) (q := (⟨"CoinSamplerModel", "audited", "(I)I"⟩, _)) rfl rfl)⟩
def M_Mo_coinsOf : Md := (⟨"CoinSamplerModel", "coinsOf", "(I)I"⟩, prog_13_method_6_code, 2, some .int, 1, 21)
theorem np_M_Mo_coinsOf : (parseMethodDescriptor (mn M_Mo_coinsOf).desc).map (fun d => d.parameters.length) = some 1 := by decide +kernel
theorem ok_M_Mo_coinsOf : MdOK M_Mo_coinsOf := ⟨(qm_6 (i := 10) rfl rfl), ini_CoinSamplerModel.1, ini_CoinSamplerModel.2, by decide +kernel⟩
theorem okv_M_Mo_coinsOf : MdV M_Mo_coinsOf := ⟨(qm_6 (i := 9) rfl rfl), (qm_p (i := 38) (q := (⟨"CoinSamplerModel", "coinsOf", "(I)I"⟩, _)) rfl rfl)⟩
def M_Mo_allCoins : Md := (⟨"CoinSamplerModel", "allCoins", "()I"⟩, prog_13_method_7_code, 3, some .int, 2, 42)
theorem np_M_Mo_allCoins : (parseMethodDescriptor (mn M_Mo_allCoins).desc).map (fun d => d.parameters.length) = some 0 := by decide +kernel
theorem ok_M_Mo_allCoins : MdOK M_Mo_allCoins := ⟨(qm_6 (i := 45) rfl rfl), ini_CoinSamplerModel.1, ini_CoinSamplerModel.2, by decide +kernel⟩
theorem okv_M_Mo_allCoins : MdV M_Mo_allCoins := ⟨(qm_6 (i := 44) rfl rfl), (qm_p (i := 43) (q := (⟨"CoinSamplerModel", "allCoins", "()I"⟩, _)) rfl rfl)⟩
def M_Mo_isItem : Md := (⟨"CoinSamplerModel", "isItem", "(I)Z"⟩, prog_13_method_8_code, 2, some .boolean, 1, 25)
theorem np_M_Mo_isItem : (parseMethodDescriptor (mn M_Mo_isItem).desc).map (fun d => d.parameters.length) = some 1 := by decide +kernel
theorem ok_M_Mo_isItem : MdOK M_Mo_isItem := ⟨(qm_5 (i := 232) rfl rfl), ini_CoinSamplerModel.1, ini_CoinSamplerModel.2, by decide +kernel⟩
theorem okv_M_Mo_isItem : MdV M_Mo_isItem := ⟨(qm_5 (i := 231) rfl rfl), (qm_p (i := 35) (q := (⟨"CoinSamplerModel", "isItem", "(I)Z"⟩, _)) rfl rfl)⟩
def M_Mo_errorOf : Md := (⟨"CoinSamplerModel", "errorOf", "(I)I"⟩, prog_13_method_9_code, 2, some .int, 1, 21)
theorem np_M_Mo_errorOf : (parseMethodDescriptor (mn M_Mo_errorOf).desc).map (fun d => d.parameters.length) = some 1 := by decide +kernel
theorem ok_M_Mo_errorOf : MdOK M_Mo_errorOf := ⟨(qm_6 (i := 104) rfl rfl), ini_CoinSamplerModel.1, ini_CoinSamplerModel.2, by decide +kernel⟩
theorem okv_M_Mo_errorOf : MdV M_Mo_errorOf := ⟨(qm_6 (i := 103) rfl rfl), (qm_p (i := 51) (q := (⟨"CoinSamplerModel", "errorOf", "(I)I"⟩, _)) rfl rfl)⟩
def M_Mo_taintOf : Md := (⟨"CoinSamplerModel", "taintOf", "(I)I"⟩, prog_13_method_10_code, 2, some .int, 2, 42)
theorem np_M_Mo_taintOf : (parseMethodDescriptor (mn M_Mo_taintOf).desc).map (fun d => d.parameters.length) = some 1 := by decide +kernel
theorem ok_M_Mo_taintOf : MdOK M_Mo_taintOf := ⟨(qm_6 (i := 108) rfl rfl), ini_CoinSamplerModel.1, ini_CoinSamplerModel.2, by decide +kernel⟩
theorem okv_M_Mo_taintOf : MdV M_Mo_taintOf := ⟨(qm_6 (i := 107) rfl rfl), (qm_p (i := 52) (q := (⟨"CoinSamplerModel", "taintOf", "(I)I"⟩, _)) rfl rfl)⟩
def M_Mo_placeIn : Md := (⟨"CoinSamplerModel", "placeIn", "([IIII)I"⟩, prog_13_method_11_code, 5, some .int, 0, 0)
theorem np_M_Mo_placeIn : (parseMethodDescriptor (mn M_Mo_placeIn).desc).map (fun d => d.parameters.length) = some 4 := by decide +kernel
theorem ok_M_Mo_placeIn : MdOK M_Mo_placeIn := ⟨(qm_5 (i := 203) rfl rfl), ini_CoinSamplerModel.1, ini_CoinSamplerModel.2, by decide +kernel⟩
theorem oks_M_Mo_placeIn : Cond.static (mn M_Mo_placeIn) ∈ UW := (qm_5 (i := 202) rfl rfl)
def M_Mo_feed : Md := (⟨"CoinSamplerModel", "feed", "(IIIII)I"⟩, prog_13_method_12_code, 8, some .int, 0, 0)
theorem np_M_Mo_feed : (parseMethodDescriptor (mn M_Mo_feed).desc).map (fun d => d.parameters.length) = some 5 := by decide +kernel
theorem ok_M_Mo_feed : MdOK M_Mo_feed := ⟨(qm_5 (i := 148) rfl rfl), ini_CoinSamplerModel.1, ini_CoinSamplerModel.2, by decide +kernel⟩
theorem okv_M_Mo_feed : MdV M_Mo_feed := ⟨(qm_5 (i := 146) rfl rfl), (qm_5 (i := 147) rfl rfl)⟩
def M_Mo_peek : Md := (⟨"CoinSamplerModel", "peek", "()I"⟩, prog_13_method_13_code, 1, some .int, 0, 0)
theorem np_M_Mo_peek : (parseMethodDescriptor (mn M_Mo_peek).desc).map (fun d => d.parameters.length) = some 0 := by decide +kernel
theorem ok_M_Mo_peek : MdOK M_Mo_peek := ⟨(qm_5 (i := 163) rfl rfl), ini_CoinSamplerModel.1, ini_CoinSamplerModel.2, by decide +kernel⟩
theorem okv_M_Mo_peek : MdV M_Mo_peek := ⟨(qm_5 (i := 162) rfl rfl), (qm_p (i := 25) (q := (⟨"CoinSamplerModel", "peek", "()I"⟩, _)) rfl rfl)⟩
def M_Mo_fails : Md := (⟨"CoinSamplerModel", "fails", "(II)V"⟩, prog_13_method_14_code, 3, none, 0, 0)
theorem np_M_Mo_fails : (parseMethodDescriptor (mn M_Mo_fails).desc).map (fun d => d.parameters.length) = some 2 := by decide +kernel
theorem ok_M_Mo_fails : MdOK M_Mo_fails := ⟨(qm_5 (i := 195) rfl rfl), ini_CoinSamplerModel.1, ini_CoinSamplerModel.2, by decide +kernel⟩
theorem okv_M_Mo_fails : MdV M_Mo_fails := ⟨(qm_5 (i := 194) rfl rfl), (qm_p (i := 32) (q := (⟨"CoinSamplerModel", "fails", "(II)V"⟩, _)) rfl rfl)⟩
def M_Mo_isLetter : Md := (⟨"CoinSamplerModel", "isLetter", "()Z"⟩, prog_13_method_15_code, 1, some .boolean, 1, 25)
theorem np_M_Mo_isLetter : (parseMethodDescriptor (mn M_Mo_isLetter).desc).map (fun d => d.parameters.length) = some 0 := by decide +kernel
theorem ok_M_Mo_isLetter : MdOK M_Mo_isLetter := ⟨(qm_5 (i := 171) rfl rfl), ini_CoinSamplerModel.1, ini_CoinSamplerModel.2, by decide +kernel⟩
theorem okv_M_Mo_isLetter : MdV M_Mo_isLetter := ⟨(qm_5 (i := 170) rfl rfl), (qm_p (i := 27) (q := (⟨"CoinSamplerModel", "isLetter", "()Z"⟩, _)) rfl rfl)⟩
def M_Mo_isDigit : Md := (⟨"CoinSamplerModel", "isDigit", "()Z"⟩, prog_13_method_16_code, 1, some .boolean, 1, 25)
theorem np_M_Mo_isDigit : (parseMethodDescriptor (mn M_Mo_isDigit).desc).map (fun d => d.parameters.length) = some 0 := by decide +kernel
theorem ok_M_Mo_isDigit : MdOK M_Mo_isDigit := ⟨(qm_5 (i := 189) rfl rfl), ini_CoinSamplerModel.1, ini_CoinSamplerModel.2, by decide +kernel⟩
theorem okv_M_Mo_isDigit : MdV M_Mo_isDigit := ⟨(qm_5 (i := 188) rfl rfl), (qm_p (i := 31) (q := (⟨"CoinSamplerModel", "isDigit", "()Z"⟩, _)) rfl rfl)⟩
def M_Mo_blanks : Md := (⟨"CoinSamplerModel", "blanks", "()V"⟩, prog_13_method_17_code, 1, none, 1, 20)
theorem np_M_Mo_blanks : (parseMethodDescriptor (mn M_Mo_blanks).desc).map (fun d => d.parameters.length) = some 0 := by decide +kernel
theorem ok_M_Mo_blanks : MdOK M_Mo_blanks := ⟨(qm_5 (i := 159) rfl rfl), ini_CoinSamplerModel.1, ini_CoinSamplerModel.2, by decide +kernel⟩
theorem okv_M_Mo_blanks : MdV M_Mo_blanks := ⟨(qm_5 (i := 158) rfl rfl), (qm_p (i := 24) (q := (⟨"CoinSamplerModel", "blanks", "()V"⟩, _)) rfl rfl)⟩
def M_Mo_passesSign : Md := (⟨"CoinSamplerModel", "passesSign", "(I)Z"⟩, prog_13_method_18_code, 2, some .boolean, 2, 40)
theorem np_M_Mo_passesSign : (parseMethodDescriptor (mn M_Mo_passesSign).desc).map (fun d => d.parameters.length) = some 1 := by decide +kernel
theorem ok_M_Mo_passesSign : MdOK M_Mo_passesSign := ⟨(qm_5 (i := 199) rfl rfl), ini_CoinSamplerModel.1, ini_CoinSamplerModel.2, by decide +kernel⟩
theorem okv_M_Mo_passesSign : MdV M_Mo_passesSign := ⟨(qm_5 (i := 198) rfl rfl), (qm_p (i := 33) (q := (⟨"CoinSamplerModel", "passesSign", "(I)Z"⟩, _)) rfl rfl)⟩
def M_Mo_isWord : Md := (⟨"CoinSamplerModel", "isWord", "(III)Z"⟩, prog_13_method_19_code, 5, some .boolean, 0, 0)
theorem np_M_Mo_isWord : (parseMethodDescriptor (mn M_Mo_isWord).desc).map (fun d => d.parameters.length) = some 3 := by decide +kernel
theorem ok_M_Mo_isWord : MdOK M_Mo_isWord := ⟨(qm_5 (i := 177) rfl rfl), ini_CoinSamplerModel.1, ini_CoinSamplerModel.2, by decide +kernel⟩
theorem okv_M_Mo_isWord : MdV M_Mo_isWord := ⟨(qm_5 (i := 176) rfl rfl), (qm_p (i := 28) (q := (⟨"CoinSamplerModel", "isWord", "(III)Z"⟩, _)) rfl rfl)⟩
def M_Mo_number : Md := (⟨"CoinSamplerModel", "number", "(I)I"⟩, prog_13_method_20_code, 4, some .int, 2, 45)
theorem np_M_Mo_number : (parseMethodDescriptor (mn M_Mo_number).desc).map (fun d => d.parameters.length) = some 1 := by decide +kernel
theorem ok_M_Mo_number : MdOK M_Mo_number := ⟨(qm_5 (i := 185) rfl rfl), ini_CoinSamplerModel.1, ini_CoinSamplerModel.2, by decide +kernel⟩
theorem okv_M_Mo_number : MdV M_Mo_number := ⟨(qm_5 (i := 184) rfl rfl), (qm_p (i := 30) (q := (⟨"CoinSamplerModel", "number", "(I)I"⟩, _)) rfl rfl)⟩
def M_Mo_itemLine : Md := (⟨"CoinSamplerModel", "itemLine", "(I)V"⟩, prog_13_method_21_code, 7, none, 3, 68)
theorem np_M_Mo_itemLine : (parseMethodDescriptor (mn M_Mo_itemLine).desc).map (fun d => d.parameters.length) = some 1 := by decide +kernel
theorem ok_M_Mo_itemLine : MdOK M_Mo_itemLine := ⟨(qm_5 (i := 181) rfl rfl), ini_CoinSamplerModel.1, ini_CoinSamplerModel.2, by decide +kernel⟩
theorem okv_M_Mo_itemLine : MdV M_Mo_itemLine := ⟨(qm_5 (i := 180) rfl rfl), (qm_p (i := 29) (q := (⟨"CoinSamplerModel", "itemLine", "(I)V"⟩, _)) rfl rfl)⟩
def M_Mo_auditLine : Md := (⟨"CoinSamplerModel", "auditLine", "(I)V"⟩, prog_13_method_22_code, 6, none, 3, 68)
theorem np_M_Mo_auditLine : (parseMethodDescriptor (mn M_Mo_auditLine).desc).map (fun d => d.parameters.length) = some 1 := by decide +kernel
theorem ok_M_Mo_auditLine : MdOK M_Mo_auditLine := ⟨(qm_5 (i := 207) rfl rfl), ini_CoinSamplerModel.1, ini_CoinSamplerModel.2, by decide +kernel⟩
theorem okv_M_Mo_auditLine : MdV M_Mo_auditLine := ⟨(qm_5 (i := 206) rfl rfl), (qm_p (i := 34) (q := (⟨"CoinSamplerModel", "auditLine", "(I)V"⟩, _)) rfl rfl)⟩
def M_Mo_line : Md := (⟨"CoinSamplerModel", "line", "()V"⟩, prog_13_method_23_code, 2, none, 4, 94)
theorem np_M_Mo_line : (parseMethodDescriptor (mn M_Mo_line).desc).map (fun d => d.parameters.length) = some 0 := by decide +kernel
theorem ok_M_Mo_line : MdOK M_Mo_line := ⟨(qm_5 (i := 167) rfl rfl), ini_CoinSamplerModel.1, ini_CoinSamplerModel.2, by decide +kernel⟩
theorem okv_M_Mo_line : MdV M_Mo_line := ⟨(qm_5 (i := 166) rfl rfl), (qm_p (i := 26) (q := (⟨"CoinSamplerModel", "line", "()V"⟩, _)) rfl rfl)⟩
def M_Mo_text : Md := (⟨"CoinSamplerModel", "text", "(I)I"⟩, prog_13_method_24_code, 3, some .int, 5, 115)
theorem np_M_Mo_text : (parseMethodDescriptor (mn M_Mo_text).desc).map (fun d => d.parameters.length) = some 1 := by decide +kernel
theorem ok_M_Mo_text : MdOK M_Mo_text := ⟨(qm_5 (i := 152) rfl rfl), ini_CoinSamplerModel.1, ini_CoinSamplerModel.2, by decide +kernel⟩
theorem okv_M_Mo_text : MdV M_Mo_text := ⟨(qm_5 (i := 150) rfl rfl), (qm_5 (i := 151) rfl rfl)⟩
def M_Mo_fault : Md := (⟨"CoinSamplerModel", "fault", "(I)I"⟩, prog_13_method_25_code, 2, some .int, 0, 0)
theorem np_M_Mo_fault : (parseMethodDescriptor (mn M_Mo_fault).desc).map (fun d => d.parameters.length) = some 1 := by decide +kernel
theorem ok_M_Mo_fault : MdOK M_Mo_fault := ⟨(qm_5 (i := 211) rfl rfl), ini_CoinSamplerModel.1, ini_CoinSamplerModel.2, by decide +kernel⟩
theorem okv_M_Mo_fault : MdV M_Mo_fault := ⟨(qm_5 (i := 209) rfl rfl), (qm_5 (i := 210) rfl rfl)⟩
def M_Mo_terms : Md := (⟨"CoinSamplerModel", "terms", "(II)I"⟩, prog_13_method_26_code, 4, some .int, 1, 25)
theorem np_M_Mo_terms : (parseMethodDescriptor (mn M_Mo_terms).desc).map (fun d => d.parameters.length) = some 2 := by decide +kernel
theorem ok_M_Mo_terms : MdOK M_Mo_terms := ⟨(qm_5 (i := 215) rfl rfl), ini_CoinSamplerModel.1, ini_CoinSamplerModel.2, by decide +kernel⟩
theorem okv_M_Mo_terms : MdV M_Mo_terms := ⟨(qm_5 (i := 213) rfl rfl), (qm_5 (i := 214) rfl rfl)⟩
def M_Mo_add : Md := (⟨"CoinSamplerModel", "add", "(III)I"⟩, prog_13_method_27_code, 5, some .int, 1, 25)
theorem np_M_Mo_add : (parseMethodDescriptor (mn M_Mo_add).desc).map (fun d => d.parameters.length) = some 3 := by decide +kernel
theorem ok_M_Mo_add : MdOK M_Mo_add := ⟨(qm_5 (i := 220) rfl rfl), ini_CoinSamplerModel.1, ini_CoinSamplerModel.2, by decide +kernel⟩
theorem okv_M_Mo_add : MdV M_Mo_add := ⟨(qm_5 (i := 218) rfl rfl), (qm_5 (i := 219) rfl rfl)⟩
def M_Mo_post : Md := (⟨"CoinSamplerModel", "post", "(II)I"⟩, prog_13_method_28_code, 4, some .int, 2, 46)
theorem np_M_Mo_post : (parseMethodDescriptor (mn M_Mo_post).desc).map (fun d => d.parameters.length) = some 2 := by decide +kernel
theorem ok_M_Mo_post : MdOK M_Mo_post := ⟨(qm_5 (i := 228) rfl rfl), ini_CoinSamplerModel.1, ini_CoinSamplerModel.2, by decide +kernel⟩
theorem okv_M_Mo_post : MdV M_Mo_post := ⟨(qm_5 (i := 226) rfl rfl), (qm_5 (i := 227) rfl rfl)⟩
def M_Mo_isAudit : Md := (⟨"CoinSamplerModel", "isAudit", "(II)Z"⟩, prog_13_method_29_code, 3, some .boolean, 1, 25)
theorem np_M_Mo_isAudit : (parseMethodDescriptor (mn M_Mo_isAudit).desc).map (fun d => d.parameters.length) = some 2 := by decide +kernel
theorem ok_M_Mo_isAudit : MdOK M_Mo_isAudit := ⟨(qm_6 (i := 5) rfl rfl), ini_CoinSamplerModel.1, ini_CoinSamplerModel.2, by decide +kernel⟩
theorem okv_M_Mo_isAudit : MdV M_Mo_isAudit := ⟨(qm_6 (i := 4) rfl rfl), (qm_p (i := 37) (q := (⟨"CoinSamplerModel", "isAudit", "(II)Z"⟩, _)) rfl rfl)⟩
def M_Mo_audit : Md := (⟨"CoinSamplerModel", "audit", "(II)I"⟩, prog_13_method_30_code, 4, some .int, 2, 47)
theorem np_M_Mo_audit : (parseMethodDescriptor (mn M_Mo_audit).desc).map (fun d => d.parameters.length) = some 2 := by decide +kernel
theorem ok_M_Mo_audit : MdOK M_Mo_audit := ⟨(qm_6 (i := 1) rfl rfl), ini_CoinSamplerModel.1, ini_CoinSamplerModel.2, by decide +kernel⟩
theorem okv_M_Mo_audit : MdV M_Mo_audit := ⟨(qm_5 (i := 239) rfl rfl), (qm_6 (i := 0) rfl rfl)⟩
def M_Mo_forget : Md := (⟨"CoinSamplerModel", "forget", "(I)I"⟩, prog_13_method_31_code, 3, some .int, 2, 46)
theorem np_M_Mo_forget : (parseMethodDescriptor (mn M_Mo_forget).desc).map (fun d => d.parameters.length) = some 1 := by decide +kernel
theorem ok_M_Mo_forget : MdOK M_Mo_forget := ⟨(qm_6 (i := 18) rfl rfl), ini_CoinSamplerModel.1, ini_CoinSamplerModel.2, by decide +kernel⟩
theorem okv_M_Mo_forget : MdV M_Mo_forget := ⟨(qm_6 (i := 16) rfl rfl), (qm_6 (i := 17) rfl rfl)⟩
def M_Mo_isCertainBy : Md := (⟨"CoinSamplerModel", "isCertainBy", "(II)Z"⟩, prog_13_method_32_code, 2, some .boolean, 0, 0)
theorem np_M_Mo_isCertainBy : (parseMethodDescriptor (mn M_Mo_isCertainBy).desc).map (fun d => d.parameters.length) = some 2 := by decide +kernel
theorem ok_M_Mo_isCertainBy : MdOK M_Mo_isCertainBy := ⟨(qm_6 (i := 33) rfl rfl), ini_CoinSamplerModel.1, ini_CoinSamplerModel.2, by decide +kernel⟩
theorem oks_M_Mo_isCertainBy : Cond.static (mn M_Mo_isCertainBy) ∈ UW := (qm_6 (i := 32) rfl rfl)
def M_Mo_isCertain : Md := (⟨"CoinSamplerModel", "isCertain", "(I)Z"⟩, prog_13_method_33_code, 2, some .boolean, 1, 21)
theorem np_M_Mo_isCertain : (parseMethodDescriptor (mn M_Mo_isCertain).desc).map (fun d => d.parameters.length) = some 1 := by decide +kernel
theorem ok_M_Mo_isCertain : MdOK M_Mo_isCertain := ⟨(qm_6 (i := 30) rfl rfl), ini_CoinSamplerModel.1, ini_CoinSamplerModel.2, by decide +kernel⟩
theorem okv_M_Mo_isCertain : MdV M_Mo_isCertain := ⟨(qm_6 (i := 29) rfl rfl), (qm_p (i := 41) (q := (⟨"CoinSamplerModel", "isCertain", "(I)Z"⟩, _)) rfl rfl)⟩
def M_Mo_laysRest : Md := (⟨"CoinSamplerModel", "laysRest", "(I)V"⟩, prog_13_method_34_code, 4, none, 2, 42)
theorem np_M_Mo_laysRest : (parseMethodDescriptor (mn M_Mo_laysRest).desc).map (fun d => d.parameters.length) = some 1 := by decide +kernel
theorem ok_M_Mo_laysRest : MdOK M_Mo_laysRest := ⟨(qm_6 (i := 96) rfl rfl), ini_CoinSamplerModel.1, ini_CoinSamplerModel.2, by decide +kernel⟩
theorem okv_M_Mo_laysRest : MdV M_Mo_laysRest := ⟨(qm_6 (i := 95) rfl rfl), (qm_p (i := 49) (q := (⟨"CoinSamplerModel", "laysRest", "(I)V"⟩, _)) rfl rfl)⟩
def M_Mo_certainMany : Md := (⟨"CoinSamplerModel", "certainMany", "()I"⟩, prog_13_method_35_code, 3, some .int, 2, 42)
theorem np_M_Mo_certainMany : (parseMethodDescriptor (mn M_Mo_certainMany).desc).map (fun d => d.parameters.length) = some 0 := by decide +kernel
theorem ok_M_Mo_certainMany : MdOK M_Mo_certainMany := ⟨(qm_6 (i := 26) rfl rfl), ini_CoinSamplerModel.1, ini_CoinSamplerModel.2, by decide +kernel⟩
theorem okv_M_Mo_certainMany : MdV M_Mo_certainMany := ⟨(qm_6 (i := 25) rfl rfl), (qm_p (i := 40) (q := (⟨"CoinSamplerModel", "certainMany", "()I"⟩, _)) rfl rfl)⟩
def M_Mo_ownerOf : Md := (⟨"CoinSamplerModel", "ownerOf", "(I)I"⟩, prog_13_method_36_code, 3, some .int, 2, 42)
theorem np_M_Mo_ownerOf : (parseMethodDescriptor (mn M_Mo_ownerOf).desc).map (fun d => d.parameters.length) = some 1 := by decide +kernel
theorem ok_M_Mo_ownerOf : MdOK M_Mo_ownerOf := ⟨(qm_6 (i := 100) rfl rfl), ini_CoinSamplerModel.1, ini_CoinSamplerModel.2, by decide +kernel⟩
theorem okv_M_Mo_ownerOf : MdV M_Mo_ownerOf := ⟨(qm_6 (i := 99) rfl rfl), (qm_p (i := 50) (q := (⟨"CoinSamplerModel", "ownerOf", "(I)I"⟩, _)) rfl rfl)⟩
def M_Mo_laysHits : Md := (⟨"CoinSamplerModel", "laysHits", "()V"⟩, prog_13_method_37_code, 4, none, 3, 65)
theorem np_M_Mo_laysHits : (parseMethodDescriptor (mn M_Mo_laysHits).desc).map (fun d => d.parameters.length) = some 0 := by decide +kernel
theorem ok_M_Mo_laysHits : MdOK M_Mo_laysHits := ⟨(qm_6 (i := 92) rfl rfl), ini_CoinSamplerModel.1, ini_CoinSamplerModel.2, by decide +kernel⟩
theorem okv_M_Mo_laysHits : MdV M_Mo_laysHits := ⟨(qm_6 (i := 91) rfl rfl), (qm_p (i := 48) (q := (⟨"CoinSamplerModel", "laysHits", "()V"⟩, _)) rfl rfl)⟩
def M_Mo_isDrawn : Md := (⟨"CoinSamplerModel", "isDrawn", "(I)Z"⟩, prog_13_method_38_code, 2, some .boolean, 2, 42)
theorem np_M_Mo_isDrawn : (parseMethodDescriptor (mn M_Mo_isDrawn).desc).map (fun d => d.parameters.length) = some 1 := by decide +kernel
theorem ok_M_Mo_isDrawn : MdOK M_Mo_isDrawn := ⟨(qm_6 (i := 136) rfl rfl), ini_CoinSamplerModel.1, ini_CoinSamplerModel.2, by decide +kernel⟩
theorem okv_M_Mo_isDrawn : MdV M_Mo_isDrawn := ⟨(qm_6 (i := 135) rfl rfl), (qm_p (i := 55) (q := (⟨"CoinSamplerModel", "isDrawn", "(I)Z"⟩, _)) rfl rfl)⟩
def M_Mo_interval : Md := (⟨"CoinSamplerModel", "interval", "(I)I"⟩, prog_13_method_39_code, 2, some .int, 3, 64)
theorem np_M_Mo_interval : (parseMethodDescriptor (mn M_Mo_interval).desc).map (fun d => d.parameters.length) = some 1 := by decide +kernel
theorem ok_M_Mo_interval : MdOK M_Mo_interval := ⟨(qm_6 (i := 22) rfl rfl), ini_CoinSamplerModel.1, ini_CoinSamplerModel.2, by decide +kernel⟩
theorem okv_M_Mo_interval : MdV M_Mo_interval := ⟨(qm_6 (i := 20) rfl rfl), (qm_6 (i := 21) rfl rfl)⟩
def M_Mo_likely : Md := (⟨"CoinSamplerModel", "likely", "(III)D"⟩, prog_13_method_40_code, 12, some .double, 0, 0)
theorem np_M_Mo_likely : (parseMethodDescriptor (mn M_Mo_likely).desc).map (fun d => d.parameters.length) = some 3 := by decide +kernel
theorem ok_M_Mo_likely : MdOK M_Mo_likely := ⟨(qm_6 (i := 58) rfl rfl), ini_CoinSamplerModel.1, ini_CoinSamplerModel.2, by decide +kernel⟩
theorem oks_M_Mo_likely : Cond.static (mn M_Mo_likely) ∈ UW := (qm_6 (i := 57) rfl rfl)
def M_Mo_halved : Md := (⟨"CoinSamplerModel", "halved", "(II)I"⟩, prog_13_method_41_code, 8, some .int, 1, 31)
theorem np_M_Mo_halved : (parseMethodDescriptor (mn M_Mo_halved).desc).map (fun d => d.parameters.length) = some 2 := by decide +kernel
theorem ok_M_Mo_halved : MdOK M_Mo_halved := ⟨(qm_6 (i := 54) rfl rfl), ini_CoinSamplerModel.1, ini_CoinSamplerModel.2, by decide +kernel⟩
theorem okv_M_Mo_halved : MdV M_Mo_halved := ⟨(qm_6 (i := 53) rfl rfl), (qm_p (i := 45) (q := (⟨"CoinSamplerModel", "halved", "(II)I"⟩, _)) rfl rfl)⟩
def M_Mo_upperOf : Md := (⟨"CoinSamplerModel", "upperOf", "(II)I"⟩, prog_13_method_42_code, 4, some .int, 2, 58)
theorem np_M_Mo_upperOf : (parseMethodDescriptor (mn M_Mo_upperOf).desc).map (fun d => d.parameters.length) = some 2 := by decide +kernel
theorem ok_M_Mo_upperOf : MdOK M_Mo_upperOf := ⟨(qm_6 (i := 49) rfl rfl), ini_CoinSamplerModel.1, ini_CoinSamplerModel.2, by decide +kernel⟩
theorem okv_M_Mo_upperOf : MdV M_Mo_upperOf := ⟨(qm_6 (i := 48) rfl rfl), (qm_p (i := 44) (q := (⟨"CoinSamplerModel", "upperOf", "(II)I"⟩, _)) rfl rfl)⟩
def M_Mo_sizeBy : Md := (⟨"CoinSamplerModel", "sizeBy", "(II)I"⟩, prog_13_method_43_code, 6, some .int, 3, 81)
theorem np_M_Mo_sizeBy : (parseMethodDescriptor (mn M_Mo_sizeBy).desc).map (fun d => d.parameters.length) = some 2 := by decide +kernel
theorem ok_M_Mo_sizeBy : MdOK M_Mo_sizeBy := ⟨(qm_6 (i := 41) rfl rfl), ini_CoinSamplerModel.1, ini_CoinSamplerModel.2, by decide +kernel⟩
theorem okv_M_Mo_sizeBy : MdV M_Mo_sizeBy := ⟨(qm_6 (i := 40) rfl rfl), (qm_p (i := 42) (q := (⟨"CoinSamplerModel", "sizeBy", "(II)I"⟩, _)) rfl rfl)⟩
def M_Mo_plan : Md := (⟨"CoinSamplerModel", "plan", "()I"⟩, prog_13_method_44_code, 2, some .int, 4, 106)
theorem np_M_Mo_plan : (parseMethodDescriptor (mn M_Mo_plan).desc).map (fun d => d.parameters.length) = some 0 := by decide +kernel
theorem ok_M_Mo_plan : MdOK M_Mo_plan := ⟨(qm_6 (i := 37) rfl rfl), ini_CoinSamplerModel.1, ini_CoinSamplerModel.2, by decide +kernel⟩
theorem okv_M_Mo_plan : MdV M_Mo_plan := ⟨(qm_6 (i := 35) rfl rfl), (qm_6 (i := 36) rfl rfl)⟩
def M_Mo_isStart : Md := (⟨"CoinSamplerModel", "isStart", "(I)Z"⟩, prog_13_method_45_code, 3, some .boolean, 0, 0)
theorem np_M_Mo_isStart : (parseMethodDescriptor (mn M_Mo_isStart).desc).map (fun d => d.parameters.length) = some 1 := by decide +kernel
theorem ok_M_Mo_isStart : MdOK M_Mo_isStart := ⟨(qm_6 (i := 75) rfl rfl), ini_CoinSamplerModel.1, ini_CoinSamplerModel.2, by decide +kernel⟩
theorem okv_M_Mo_isStart : MdV M_Mo_isStart := ⟨(qm_6 (i := 74) rfl rfl), (qm_p (i := 47) (q := (⟨"CoinSamplerModel", "isStart", "(I)Z"⟩, _)) rfl rfl)⟩
def M_Mo_drawnStart : Md := (⟨"CoinSamplerModel", "drawnStart", "()I"⟩, prog_13_method_46_code, 3, some .int, 1, 22)
theorem np_M_Mo_drawnStart : (parseMethodDescriptor (mn M_Mo_drawnStart).desc).map (fun d => d.parameters.length) = some 0 := by decide +kernel
theorem ok_M_Mo_drawnStart : MdOK M_Mo_drawnStart := ⟨(qm_6 (i := 68) rfl rfl), ini_CoinSamplerModel.1, ini_CoinSamplerModel.2, by decide +kernel⟩
theorem okv_M_Mo_drawnStart : MdV M_Mo_drawnStart := ⟨(qm_6 (i := 67) rfl rfl), (qm_p (i := 46) (q := (⟨"CoinSamplerModel", "drawnStart", "()I"⟩, _)) rfl rfl)⟩
def M_Mo_draw : Md := (⟨"CoinSamplerModel", "draw", "()I"⟩, prog_13_method_47_code, 1, some .int, 2, 44)
theorem np_M_Mo_draw : (parseMethodDescriptor (mn M_Mo_draw).desc).map (fun d => d.parameters.length) = some 0 := by decide +kernel
theorem ok_M_Mo_draw : MdOK M_Mo_draw := ⟨(qm_6 (i := 64) rfl rfl), ini_CoinSamplerModel.1, ini_CoinSamplerModel.2, by decide +kernel⟩
theorem okv_M_Mo_draw : MdV M_Mo_draw := ⟨(qm_6 (i := 62) rfl rfl), (qm_6 (i := 63) rfl rfl)⟩
def M_Mo_clear : Md := (⟨"CoinSamplerModel", "clear", "()I"⟩, prog_13_method_48_code, 2, some .int, 0, 0)
theorem np_M_Mo_clear : (parseMethodDescriptor (mn M_Mo_clear).desc).map (fun d => d.parameters.length) = some 0 := by decide +kernel
theorem ok_M_Mo_clear : MdOK M_Mo_clear := ⟨(qm_6 (i := 79) rfl rfl), ini_CoinSamplerModel.1, ini_CoinSamplerModel.2, by decide +kernel⟩
theorem okv_M_Mo_clear : MdV M_Mo_clear := ⟨(qm_6 (i := 77) rfl rfl), (qm_6 (i := 78) rfl rfl)⟩
def M_Mo_find : Md := (⟨"CoinSamplerModel", "find", "(II)I"⟩, prog_13_method_49_code, 3, some .int, 1, 24)
theorem np_M_Mo_find : (parseMethodDescriptor (mn M_Mo_find).desc).map (fun d => d.parameters.length) = some 2 := by decide +kernel
theorem ok_M_Mo_find : MdOK M_Mo_find := ⟨(qm_6 (i := 83) rfl rfl), ini_CoinSamplerModel.1, ini_CoinSamplerModel.2, by decide +kernel⟩
theorem okv_M_Mo_find : MdV M_Mo_find := ⟨(qm_6 (i := 81) rfl rfl), (qm_6 (i := 82) rfl rfl)⟩
def M_Mo_item : Md := (⟨"CoinSamplerModel", "item", "(II)I"⟩, prog_13_method_50_code, 3, some .int, 4, 88)
theorem np_M_Mo_item : (parseMethodDescriptor (mn M_Mo_item).desc).map (fun d => d.parameters.length) = some 2 := by decide +kernel
theorem ok_M_Mo_item : MdOK M_Mo_item := ⟨(qm_6 (i := 87) rfl rfl), ini_CoinSamplerModel.1, ini_CoinSamplerModel.2, by decide +kernel⟩
theorem okv_M_Mo_item : MdV M_Mo_item := ⟨(qm_6 (i := 85) rfl rfl), (qm_6 (i := 86) rfl rfl)⟩
def M_Mo_coin : Md := (⟨"CoinSamplerModel", "coin", "(II)I"⟩, prog_13_method_51_code, 5, some .int, 3, 65)
theorem np_M_Mo_coin : (parseMethodDescriptor (mn M_Mo_coin).desc).map (fun d => d.parameters.length) = some 2 := by decide +kernel
theorem ok_M_Mo_coin : MdOK M_Mo_coin := ⟨(qm_6 (i := 112) rfl rfl), ini_CoinSamplerModel.1, ini_CoinSamplerModel.2, by decide +kernel⟩
theorem okv_M_Mo_coin : MdV M_Mo_coin := ⟨(qm_6 (i := 110) rfl rfl), (qm_6 (i := 111) rfl rfl)⟩
def M_Mo_hit : Md := (⟨"CoinSamplerModel", "hit", "(II)I"⟩, prog_13_method_52_code, 3, some .int, 4, 88)
theorem np_M_Mo_hit : (parseMethodDescriptor (mn M_Mo_hit).desc).map (fun d => d.parameters.length) = some 2 := by decide +kernel
theorem ok_M_Mo_hit : MdOK M_Mo_hit := ⟨(qm_6 (i := 116) rfl rfl), ini_CoinSamplerModel.1, ini_CoinSamplerModel.2, by decide +kernel⟩
theorem okv_M_Mo_hit : MdV M_Mo_hit := ⟨(qm_6 (i := 114) rfl rfl), (qm_6 (i := 115) rfl rfl)⟩
def M_Mo_start : Md := (⟨"CoinSamplerModel", "start", "(I)I"⟩, prog_13_method_53_code, 2, some .int, 1, 25)
theorem np_M_Mo_start : (parseMethodDescriptor (mn M_Mo_start).desc).map (fun d => d.parameters.length) = some 1 := by decide +kernel
theorem ok_M_Mo_start : MdOK M_Mo_start := ⟨(qm_6 (i := 120) rfl rfl), ini_CoinSamplerModel.1, ini_CoinSamplerModel.2, by decide +kernel⟩
theorem okv_M_Mo_start : MdV M_Mo_start := ⟨(qm_6 (i := 118) rfl rfl), (qm_6 (i := 119) rfl rfl)⟩
def M_Mo_isSo : Md := (⟨"CoinSamplerModel", "isSo", "(II)Z"⟩, prog_13_method_54_code, 3, some .boolean, 3, 63)
theorem np_M_Mo_isSo : (parseMethodDescriptor (mn M_Mo_isSo).desc).map (fun d => d.parameters.length) = some 2 := by decide +kernel
theorem ok_M_Mo_isSo : MdOK M_Mo_isSo := ⟨(qm_6 (i := 132) rfl rfl), ini_CoinSamplerModel.1, ini_CoinSamplerModel.2, by decide +kernel⟩
theorem okv_M_Mo_isSo : MdV M_Mo_isSo := ⟨(qm_6 (i := 131) rfl rfl), (qm_p (i := 54) (q := (⟨"CoinSamplerModel", "isSo", "(II)Z"⟩, _)) rfl rfl)⟩
def M_Mo_among : Md := (⟨"CoinSamplerModel", "among", "(II)I"⟩, prog_13_method_55_code, 5, some .int, 4, 88)
theorem np_M_Mo_among : (parseMethodDescriptor (mn M_Mo_among).desc).map (fun d => d.parameters.length) = some 2 := by decide +kernel
theorem ok_M_Mo_among : MdOK M_Mo_among := ⟨(qm_6 (i := 128) rfl rfl), ini_CoinSamplerModel.1, ini_CoinSamplerModel.2, by decide +kernel⟩
theorem okv_M_Mo_among : MdV M_Mo_among := ⟨(qm_6 (i := 127) rfl rfl), (qm_p (i := 53) (q := (⟨"CoinSamplerModel", "among", "(II)I"⟩, _)) rfl rfl)⟩
def M_Mo_certain : Md := (⟨"CoinSamplerModel", "certain", "(I)I"⟩, prog_13_method_56_code, 2, some .int, 5, 112)
theorem np_M_Mo_certain : (parseMethodDescriptor (mn M_Mo_certain).desc).map (fun d => d.parameters.length) = some 1 := by decide +kernel
theorem ok_M_Mo_certain : MdOK M_Mo_certain := ⟨(qm_6 (i := 124) rfl rfl), ini_CoinSamplerModel.1, ini_CoinSamplerModel.2, by decide +kernel⟩
theorem okv_M_Mo_certain : MdV M_Mo_certain := ⟨(qm_6 (i := 122) rfl rfl), (qm_6 (i := 123) rfl rfl)⟩
def M_Mo_lacking : Md := (⟨"CoinSamplerModel", "lacking", "(I)I"⟩, prog_13_method_57_code, 2, some .int, 5, 112)
theorem np_M_Mo_lacking : (parseMethodDescriptor (mn M_Mo_lacking).desc).map (fun d => d.parameters.length) = some 1 := by decide +kernel
theorem ok_M_Mo_lacking : MdOK M_Mo_lacking := ⟨(qm_6 (i := 140) rfl rfl), ini_CoinSamplerModel.1, ini_CoinSamplerModel.2, by decide +kernel⟩
theorem okv_M_Mo_lacking : MdV M_Mo_lacking := ⟨(qm_6 (i := 138) rfl rfl), (qm_6 (i := 139) rfl rfl)⟩
def M_Mo_drawn : Md := (⟨"CoinSamplerModel", "drawn", "(I)I"⟩, prog_13_method_58_code, 2, some .int, 5, 112)
theorem np_M_Mo_drawn : (parseMethodDescriptor (mn M_Mo_drawn).desc).map (fun d => d.parameters.length) = some 1 := by decide +kernel
theorem ok_M_Mo_drawn : MdOK M_Mo_drawn := ⟨(qm_6 (i := 144) rfl rfl), ini_CoinSamplerModel.1, ini_CoinSamplerModel.2, by decide +kernel⟩
theorem okv_M_Mo_drawn : MdV M_Mo_drawn := ⟨(qm_6 (i := 142) rfl rfl), (qm_6 (i := 143) rfl rfl)⟩
def M_Mo_tells : Md := (⟨"CoinSamplerModel", "tells", "(I)V"⟩, prog_13_method_59_code, 2, none, 0, 0)
theorem np_M_Mo_tells : (parseMethodDescriptor (mn M_Mo_tells).desc).map (fun d => d.parameters.length) = some 1 := by decide +kernel
theorem ok_M_Mo_tells : MdOK M_Mo_tells := ⟨(qm_6 (i := 156) rfl rfl), ini_CoinSamplerModel.1, ini_CoinSamplerModel.2, by decide +kernel⟩
theorem okv_M_Mo_tells : MdV M_Mo_tells := ⟨(qm_6 (i := 155) rfl rfl), (qm_p (i := 57) (q := (⟨"CoinSamplerModel", "tells", "(I)V"⟩, _)) rfl rfl)⟩
def M_Mo_tellsNumber : Md := (⟨"CoinSamplerModel", "tellsNumber", "(I)V"⟩, prog_13_method_60_code, 3, none, 1, 21)
theorem np_M_Mo_tellsNumber : (parseMethodDescriptor (mn M_Mo_tellsNumber).desc).map (fun d => d.parameters.length) = some 1 := by decide +kernel
theorem ok_M_Mo_tellsNumber : MdOK M_Mo_tellsNumber := ⟨(qm_6 (i := 152) rfl rfl), ini_CoinSamplerModel.1, ini_CoinSamplerModel.2, by decide +kernel⟩
theorem okv_M_Mo_tellsNumber : MdV M_Mo_tellsNumber := ⟨(qm_6 (i := 151) rfl rfl), (qm_p (i := 56) (q := (⟨"CoinSamplerModel", "tellsNumber", "(I)V"⟩, _)) rfl rfl)⟩
def M_Mo_line_ : Md := (⟨"CoinSamplerModel", "line", "(II)I"⟩, prog_13_method_61_code, 4, some .int, 5, 112)
theorem np_M_Mo_line_ : (parseMethodDescriptor (mn M_Mo_line_).desc).map (fun d => d.parameters.length) = some 2 := by decide +kernel
theorem ok_M_Mo_line_ : MdOK M_Mo_line_ := ⟨(qm_6 (i := 148) rfl rfl), ini_CoinSamplerModel.1, ini_CoinSamplerModel.2, by decide +kernel⟩
theorem okv_M_Mo_line_ : MdV M_Mo_line_ := ⟨(qm_6 (i := 146) rfl rfl), (qm_6 (i := 147) rfl rfl)⟩
def M_Mo_partOf : Md := (⟨"CoinSamplerModel", "partOf", "(I)I"⟩, prog_13_method_62_code, 2, some .int, 3, 63)
theorem np_M_Mo_partOf : (parseMethodDescriptor (mn M_Mo_partOf).desc).map (fun d => d.parameters.length) = some 1 := by decide +kernel
theorem ok_M_Mo_partOf : MdOK M_Mo_partOf := ⟨(qm_6 (i := 165) rfl rfl), ini_CoinSamplerModel.1, ini_CoinSamplerModel.2, by decide +kernel⟩
theorem okv_M_Mo_partOf : MdV M_Mo_partOf := ⟨(qm_6 (i := 164) rfl rfl), (qm_p (i := 58) (q := (⟨"CoinSamplerModel", "partOf", "(I)I"⟩, _)) rfl rfl)⟩
def M_Mo_account : Md := (⟨"CoinSamplerModel", "account", "(II)I"⟩, prog_13_method_63_code, 5, some .int, 4, 88)
theorem np_M_Mo_account : (parseMethodDescriptor (mn M_Mo_account).desc).map (fun d => d.parameters.length) = some 2 := by decide +kernel
theorem ok_M_Mo_account : MdOK M_Mo_account := ⟨(qm_6 (i := 160) rfl rfl), ini_CoinSamplerModel.1, ini_CoinSamplerModel.2, by decide +kernel⟩
theorem okv_M_Mo_account : MdV M_Mo_account := ⟨(qm_6 (i := 158) rfl rfl), (qm_6 (i := 159) rfl rfl)⟩
def M_Mo_accounts : Md := (⟨"CoinSamplerModel", "accounts", "(I)I"⟩, prog_13_method_64_code, 7, some .int, 0, 0)
theorem np_M_Mo_accounts : (parseMethodDescriptor (mn M_Mo_accounts).desc).map (fun d => d.parameters.length) = some 1 := by decide +kernel
theorem ok_M_Mo_accounts : MdOK M_Mo_accounts := ⟨(qm_6 (i := 170) rfl rfl), ini_CoinSamplerModel.1, ini_CoinSamplerModel.2, by decide +kernel⟩
theorem okv_M_Mo_accounts : MdV M_Mo_accounts := ⟨(qm_6 (i := 168) rfl rfl), (qm_6 (i := 169) rfl rfl)⟩
def M_Mo_upper : Md := (⟨"CoinSamplerModel", "upper", "(II)I"⟩, prog_13_method_65_code, 3, some .int, 3, 81)
theorem np_M_Mo_upper : (parseMethodDescriptor (mn M_Mo_upper).desc).map (fun d => d.parameters.length) = some 2 := by decide +kernel
theorem ok_M_Mo_upper : MdOK M_Mo_upper := ⟨(qm_6 (i := 174) rfl rfl), ini_CoinSamplerModel.1, ini_CoinSamplerModel.2, by decide +kernel⟩
theorem okv_M_Mo_upper : MdV M_Mo_upper := ⟨(qm_6 (i := 172) rfl rfl), (qm_6 (i := 173) rfl rfl)⟩
def M_Mo_size : Md := (⟨"CoinSamplerModel", "size", "(I)I"⟩, prog_13_method_66_code, 2, some .int, 4, 106)
theorem np_M_Mo_size : (parseMethodDescriptor (mn M_Mo_size).desc).map (fun d => d.parameters.length) = some 1 := by decide +kernel
theorem ok_M_Mo_size : MdOK M_Mo_size := ⟨(qm_6 (i := 179) rfl rfl), ini_CoinSamplerModel.1, ini_CoinSamplerModel.2, by decide +kernel⟩
theorem okv_M_Mo_size : MdV M_Mo_size := ⟨(qm_6 (i := 177) rfl rfl), (qm_6 (i := 178) rfl rfl)⟩
def M_Mo_projectedBy : Md := (⟨"CoinSamplerModel", "projectedBy", "(I)I"⟩, prog_13_method_67_code, 5, some .int, 4, 84)
theorem np_M_Mo_projectedBy : (parseMethodDescriptor (mn M_Mo_projectedBy).desc).map (fun d => d.parameters.length) = some 1 := by decide +kernel
theorem ok_M_Mo_projectedBy : MdOK M_Mo_projectedBy := ⟨(qm_6 (i := 188) rfl rfl), ini_CoinSamplerModel.1, ini_CoinSamplerModel.2, by decide +kernel⟩
theorem okv_M_Mo_projectedBy : MdV M_Mo_projectedBy := ⟨(qm_6 (i := 187) rfl rfl), (qm_p (i := 59) (q := (⟨"CoinSamplerModel", "projectedBy", "(I)I"⟩, _)) rfl rfl)⟩
def M_Mo_knownBy : Md := (⟨"CoinSamplerModel", "knownBy", "(I)I"⟩, prog_13_method_68_code, 4, some .int, 2, 42)
theorem np_M_Mo_knownBy : (parseMethodDescriptor (mn M_Mo_knownBy).desc).map (fun d => d.parameters.length) = some 1 := by decide +kernel
theorem ok_M_Mo_knownBy : MdOK M_Mo_knownBy := ⟨(qm_6 (i := 192) rfl rfl), ini_CoinSamplerModel.1, ini_CoinSamplerModel.2, by decide +kernel⟩
theorem okv_M_Mo_knownBy : MdV M_Mo_knownBy := ⟨(qm_6 (i := 191) rfl rfl), (qm_p (i := 60) (q := (⟨"CoinSamplerModel", "knownBy", "(I)I"⟩, _)) rfl rfl)⟩
def M_Mo_projected : Md := (⟨"CoinSamplerModel", "projected", "(I)I"⟩, prog_13_method_69_code, 2, some .int, 5, 108)
theorem np_M_Mo_projected : (parseMethodDescriptor (mn M_Mo_projected).desc).map (fun d => d.parameters.length) = some 1 := by decide +kernel
theorem ok_M_Mo_projected : MdOK M_Mo_projected := ⟨(qm_6 (i := 184) rfl rfl), ini_CoinSamplerModel.1, ini_CoinSamplerModel.2, by decide +kernel⟩
theorem okv_M_Mo_projected : MdV M_Mo_projected := ⟨(qm_6 (i := 182) rfl rfl), (qm_6 (i := 183) rfl rfl)⟩
def M_Mo_laysRanks : Md := (⟨"CoinSamplerModel", "laysRanks", "(I)V"⟩, prog_13_method_70_code, 5, none, 3, 63)
theorem np_M_Mo_laysRanks : (parseMethodDescriptor (mn M_Mo_laysRanks).desc).map (fun d => d.parameters.length) = some 1 := by decide +kernel
theorem ok_M_Mo_laysRanks : MdOK M_Mo_laysRanks := ⟨(qm_6 (i := 200) rfl rfl), ini_CoinSamplerModel.1, ini_CoinSamplerModel.2, by decide +kernel⟩
theorem okv_M_Mo_laysRanks : MdV M_Mo_laysRanks := ⟨(qm_6 (i := 199) rfl rfl), (qm_p (i := 61) (q := (⟨"CoinSamplerModel", "laysRanks", "(I)V"⟩, _)) rfl rfl)⟩
def M_Mo_riseOf : Md := (⟨"CoinSamplerModel", "riseOf", "(II)I"⟩, prog_13_method_71_code, 6, some .int, 3, 81)
theorem np_M_Mo_riseOf : (parseMethodDescriptor (mn M_Mo_riseOf).desc).map (fun d => d.parameters.length) = some 2 := by decide +kernel
theorem ok_M_Mo_riseOf : MdOK M_Mo_riseOf := ⟨(qm_6 (i := 204) rfl rfl), ini_CoinSamplerModel.1, ini_CoinSamplerModel.2, by decide +kernel⟩
theorem okv_M_Mo_riseOf : MdV M_Mo_riseOf := ⟨(qm_6 (i := 203) rfl rfl), (qm_p (i := 62) (q := (⟨"CoinSamplerModel", "riseOf", "(II)I"⟩, _)) rfl rfl)⟩
def M_Mo_basicBy : Md := (⟨"CoinSamplerModel", "basicBy", "(I)I"⟩, prog_13_method_72_code, 2, some .int, 3, 81)
theorem np_M_Mo_basicBy : (parseMethodDescriptor (mn M_Mo_basicBy).desc).map (fun d => d.parameters.length) = some 1 := by decide +kernel
theorem ok_M_Mo_basicBy : MdOK M_Mo_basicBy := ⟨(qm_6 (i := 213) rfl rfl), ini_CoinSamplerModel.1, ini_CoinSamplerModel.2, by decide +kernel⟩
theorem okv_M_Mo_basicBy : MdV M_Mo_basicBy := ⟨(qm_6 (i := 212) rfl rfl), (qm_p (i := 63) (q := (⟨"CoinSamplerModel", "basicBy", "(I)I"⟩, _)) rfl rfl)⟩
def M_Mo_risesBy : Md := (⟨"CoinSamplerModel", "risesBy", "(II)I"⟩, prog_13_method_73_code, 5, some .int, 4, 106)
theorem np_M_Mo_risesBy : (parseMethodDescriptor (mn M_Mo_risesBy).desc).map (fun d => d.parameters.length) = some 2 := by decide +kernel
theorem ok_M_Mo_risesBy : MdOK M_Mo_risesBy := ⟨(qm_6 (i := 217) rfl rfl), ini_CoinSamplerModel.1, ini_CoinSamplerModel.2, by decide +kernel⟩
theorem okv_M_Mo_risesBy : MdV M_Mo_risesBy := ⟨(qm_6 (i := 216) rfl rfl), (qm_p (i := 64) (q := (⟨"CoinSamplerModel", "risesBy", "(II)I"⟩, _)) rfl rfl)⟩
def M_Mo_boundBy : Md := (⟨"CoinSamplerModel", "boundBy", "(II)I"⟩, prog_13_method_74_code, 4, some .int, 5, 130)
theorem np_M_Mo_boundBy : (parseMethodDescriptor (mn M_Mo_boundBy).desc).map (fun d => d.parameters.length) = some 2 := by decide +kernel
theorem ok_M_Mo_boundBy : MdOK M_Mo_boundBy := ⟨(qm_6 (i := 221) rfl rfl), ini_CoinSamplerModel.1, ini_CoinSamplerModel.2, by decide +kernel⟩
theorem okv_M_Mo_boundBy : MdV M_Mo_boundBy := ⟨(qm_6 (i := 220) rfl rfl), (qm_p (i := 65) (q := (⟨"CoinSamplerModel", "boundBy", "(II)I"⟩, _)) rfl rfl)⟩
def M_Mo_taint : Md := (⟨"CoinSamplerModel", "taint", "(II)I"⟩, prog_13_method_75_code, 3, some .int, 4, 106)
theorem np_M_Mo_taint : (parseMethodDescriptor (mn M_Mo_taint).desc).map (fun d => d.parameters.length) = some 2 := by decide +kernel
theorem ok_M_Mo_taint : MdOK M_Mo_taint := ⟨(qm_6 (i := 196) rfl rfl), ini_CoinSamplerModel.1, ini_CoinSamplerModel.2, by decide +kernel⟩
theorem okv_M_Mo_taint : MdV M_Mo_taint := ⟨(qm_6 (i := 194) rfl rfl), (qm_6 (i := 195) rfl rfl)⟩
def M_Mo_bound : Md := (⟨"CoinSamplerModel", "bound", "(I)I"⟩, prog_13_method_76_code, 2, some .int, 6, 153)
theorem np_M_Mo_bound : (parseMethodDescriptor (mn M_Mo_bound).desc).map (fun d => d.parameters.length) = some 1 := by decide +kernel
theorem ok_M_Mo_bound : MdOK M_Mo_bound := ⟨(qm_6 (i := 209) rfl rfl), ini_CoinSamplerModel.1, ini_CoinSamplerModel.2, by decide +kernel⟩
theorem okv_M_Mo_bound : MdV M_Mo_bound := ⟨(qm_6 (i := 207) rfl rfl), (qm_6 (i := 208) rfl rfl)⟩
def M_Mo_below : Md := (⟨"CoinSamplerModel", "below", "(I)I"⟩, prog_13_method_77_code, 2, some .int, 6, 153)
theorem np_M_Mo_below : (parseMethodDescriptor (mn M_Mo_below).desc).map (fun d => d.parameters.length) = some 1 := by decide +kernel
theorem ok_M_Mo_below : MdOK M_Mo_below := ⟨(qm_6 (i := 225) rfl rfl), ini_CoinSamplerModel.1, ini_CoinSamplerModel.2, by decide +kernel⟩
theorem okv_M_Mo_below : MdV M_Mo_below := ⟨(qm_6 (i := 223) rfl rfl), (qm_6 (i := 224) rfl rfl)⟩
def M_Mo_judged : Md := (⟨"CoinSamplerModel", "judged", "()I"⟩, prog_13_method_78_code, 1, some .int, 6, 153)
theorem np_M_Mo_judged : (parseMethodDescriptor (mn M_Mo_judged).desc).map (fun d => d.parameters.length) = some 0 := by decide +kernel
theorem ok_M_Mo_judged : MdOK M_Mo_judged := ⟨(qm_6 (i := 230) rfl rfl), ini_CoinSamplerModel.1, ini_CoinSamplerModel.2, by decide +kernel⟩
theorem okv_M_Mo_judged : MdV M_Mo_judged := ⟨(qm_6 (i := 228) rfl rfl), (qm_6 (i := 229) rfl rfl)⟩
def M_Mo_boundIf : Md := (⟨"CoinSamplerModel", "boundIf", "(II)I"⟩, prog_13_method_79_code, 5, some .int, 6, 153)
theorem np_M_Mo_boundIf : (parseMethodDescriptor (mn M_Mo_boundIf).desc).map (fun d => d.parameters.length) = some 2 := by decide +kernel
theorem ok_M_Mo_boundIf : MdOK M_Mo_boundIf := ⟨(qm_6 (i := 238) rfl rfl), ini_CoinSamplerModel.1, ini_CoinSamplerModel.2, by decide +kernel⟩
theorem okv_M_Mo_boundIf : MdV M_Mo_boundIf := ⟨(qm_6 (i := 237) rfl rfl), (qm_p (i := 66) (q := (⟨"CoinSamplerModel", "boundIf", "(II)I"⟩, _)) rfl rfl)⟩
def M_Mo_would : Md := (⟨"CoinSamplerModel", "would", "(II)I"⟩, prog_13_method_80_code, 3, some .int, 7, 177)
theorem np_M_Mo_would : (parseMethodDescriptor (mn M_Mo_would).desc).map (fun d => d.parameters.length) = some 2 := by decide +kernel
theorem ok_M_Mo_would : MdOK M_Mo_would := ⟨(qm_6 (i := 234) rfl rfl), ini_CoinSamplerModel.1, ini_CoinSamplerModel.2, by decide +kernel⟩
theorem okv_M_Mo_would : MdV M_Mo_would := ⟨(qm_6 (i := 232) rfl rfl), (qm_6 (i := 233) rfl rfl)⟩
def M_Mo_dearest : Md := (⟨"CoinSamplerModel", "dearest", "()I"⟩, prog_13_method_81_code, 5, some .int, 7, 177)
theorem np_M_Mo_dearest : (parseMethodDescriptor (mn M_Mo_dearest).desc).map (fun d => d.parameters.length) = some 0 := by decide +kernel
theorem ok_M_Mo_dearest : MdOK M_Mo_dearest := ⟨(qm_7 (i := 2) rfl rfl), ini_CoinSamplerModel.1, ini_CoinSamplerModel.2, by decide +kernel⟩
theorem okv_M_Mo_dearest : MdV M_Mo_dearest := ⟨(qm_7 (i := 0) rfl rfl), (qm_7 (i := 1) rfl rfl)⟩
def M_Mo_more : Md := (⟨"CoinSamplerModel", "more", "()I"⟩, prog_13_method_82_code, 2, some .int, 6, 153)
theorem np_M_Mo_more : (parseMethodDescriptor (mn M_Mo_more).desc).map (fun d => d.parameters.length) = some 0 := by decide +kernel
theorem ok_M_Mo_more : MdOK M_Mo_more := ⟨(qm_7 (i := 6) rfl rfl), ini_CoinSamplerModel.1, ini_CoinSamplerModel.2, by decide +kernel⟩
theorem okv_M_Mo_more : MdV M_Mo_more := ⟨(qm_7 (i := 4) rfl rfl), (qm_7 (i := 5) rfl rfl)⟩
def M_Mo_lackingNow : Md := (⟨"CoinSamplerModel", "lackingNow", "()I"⟩, prog_13_method_83_code, 3, some .int, 4, 85)
theorem np_M_Mo_lackingNow : (parseMethodDescriptor (mn M_Mo_lackingNow).desc).map (fun d => d.parameters.length) = some 0 := by decide +kernel
theorem ok_M_Mo_lackingNow : MdOK M_Mo_lackingNow := ⟨(qm_7 (i := 14) rfl rfl), ini_CoinSamplerModel.1, ini_CoinSamplerModel.2, by decide +kernel⟩
theorem okv_M_Mo_lackingNow : MdV M_Mo_lackingNow := ⟨(qm_7 (i := 13) rfl rfl), (qm_p (i := 67) (q := (⟨"CoinSamplerModel", "lackingNow", "()I"⟩, _)) rfl rfl)⟩
def M_Mo_step : Md := (⟨"CoinSamplerModel", "step", "(II)I"⟩, prog_13_method_84_code, 6, some .int, 6, 153)
theorem np_M_Mo_step : (parseMethodDescriptor (mn M_Mo_step).desc).map (fun d => d.parameters.length) = some 2 := by decide +kernel
theorem ok_M_Mo_step : MdOK M_Mo_step := ⟨(qm_7 (i := 10) rfl rfl), ini_CoinSamplerModel.1, ini_CoinSamplerModel.2, by decide +kernel⟩
theorem okv_M_Mo_step : MdV M_Mo_step := ⟨(qm_7 (i := 8) rfl rfl), (qm_7 (i := 9) rfl rfl)⟩
def M_Mo_risky : Md := (⟨"CoinSamplerModel", "risky", "()I"⟩, prog_13_method_85_code, 4, some .int, 6, 153)
theorem np_M_Mo_risky : (parseMethodDescriptor (mn M_Mo_risky).desc).map (fun d => d.parameters.length) = some 0 := by decide +kernel
theorem ok_M_Mo_risky : MdOK M_Mo_risky := ⟨(qm_7 (i := 18) rfl rfl), ini_CoinSamplerModel.1, ini_CoinSamplerModel.2, by decide +kernel⟩
theorem okv_M_Mo_risky : MdV M_Mo_risky := ⟨(qm_7 (i := 16) rfl rfl), (qm_7 (i := 17) rfl rfl)⟩
def M_Mo_sizes : Md := (⟨"CoinSamplerModel", "sizes", "(I)I"⟩, prog_13_method_86_code, 2, some .int, 4, 106)
theorem np_M_Mo_sizes : (parseMethodDescriptor (mn M_Mo_sizes).desc).map (fun d => d.parameters.length) = some 1 := by decide +kernel
theorem ok_M_Mo_sizes : MdOK M_Mo_sizes := ⟨(qm_7 (i := 22) rfl rfl), ini_CoinSamplerModel.1, ini_CoinSamplerModel.2, by decide +kernel⟩
theorem okv_M_Mo_sizes : MdV M_Mo_sizes := ⟨(qm_7 (i := 20) rfl rfl), (qm_7 (i := 21) rfl rfl)⟩
def M_Mo_trial : Md := (⟨"CoinSamplerModel", "trial", "(II)I"⟩, prog_13_method_87_code, 6, some .int, 3, 65)
theorem np_M_Mo_trial : (parseMethodDescriptor (mn M_Mo_trial).desc).map (fun d => d.parameters.length) = some 2 := by decide +kernel
theorem ok_M_Mo_trial : MdOK M_Mo_trial := ⟨(qm_7 (i := 27) rfl rfl), ini_CoinSamplerModel.1, ini_CoinSamplerModel.2, by decide +kernel⟩
theorem okv_M_Mo_trial : MdV M_Mo_trial := ⟨(qm_7 (i := 25) rfl rfl), (qm_7 (i := 26) rfl rfl)⟩
def M_Mo_covered : Md := (⟨"CoinSamplerModel", "covered", "()I"⟩, prog_13_method_88_code, 4, some .int, 4, 88)
theorem np_M_Mo_covered : (parseMethodDescriptor (mn M_Mo_covered).desc).map (fun d => d.parameters.length) = some 0 := by decide +kernel
theorem ok_M_Mo_covered : MdOK M_Mo_covered := ⟨(qm_7 (i := 35) rfl rfl), ini_CoinSamplerModel.1, ini_CoinSamplerModel.2, by decide +kernel⟩
theorem okv_M_Mo_covered : MdV M_Mo_covered := ⟨(qm_7 (i := 33) rfl rfl), (qm_7 (i := 34) rfl rfl)⟩
def M_Mo_laysTurn : Md := (⟨"CoinSamplerModel", "laysTurn", "(I)V"⟩, prog_13_method_89_code, 3, none, 0, 0)
theorem np_M_Mo_laysTurn : (parseMethodDescriptor (mn M_Mo_laysTurn).desc).map (fun d => d.parameters.length) = some 1 := by decide +kernel
theorem ok_M_Mo_laysTurn : MdOK M_Mo_laysTurn := ⟨(qm_7 (i := 48) rfl rfl), ini_CoinSamplerModel.1, ini_CoinSamplerModel.2, by decide +kernel⟩
theorem okv_M_Mo_laysTurn : MdV M_Mo_laysTurn := ⟨(qm_7 (i := 47) rfl rfl), (qm_p (i := 70) (q := (⟨"CoinSamplerModel", "laysTurn", "(I)V"⟩, _)) rfl rfl)⟩
def M_Mo_laysTurns : Md := (⟨"CoinSamplerModel", "laysTurns", "()V"⟩, prog_13_method_90_code, 2, none, 3, 65)
theorem np_M_Mo_laysTurns : (parseMethodDescriptor (mn M_Mo_laysTurns).desc).map (fun d => d.parameters.length) = some 0 := by decide +kernel
theorem ok_M_Mo_laysTurns : MdOK M_Mo_laysTurns := ⟨(qm_7 (i := 44) rfl rfl), ini_CoinSamplerModel.1, ini_CoinSamplerModel.2, by decide +kernel⟩
theorem okv_M_Mo_laysTurns : MdV M_Mo_laysTurns := ⟨(qm_7 (i := 43) rfl rfl), (qm_p (i := 69) (q := (⟨"CoinSamplerModel", "laysTurns", "()V"⟩, _)) rfl rfl)⟩
def M_Mo_turnLong : Md := (⟨"CoinSamplerModel", "turnLong", "(I)I"⟩, prog_13_method_91_code, 2, some .int, 0, 0)
theorem np_M_Mo_turnLong : (parseMethodDescriptor (mn M_Mo_turnLong).desc).map (fun d => d.parameters.length) = some 1 := by decide +kernel
theorem ok_M_Mo_turnLong : MdOK M_Mo_turnLong := ⟨(qm_7 (i := 56) rfl rfl), ini_CoinSamplerModel.1, ini_CoinSamplerModel.2, by decide +kernel⟩
theorem okv_M_Mo_turnLong : MdV M_Mo_turnLong := ⟨(qm_7 (i := 55) rfl rfl), (qm_p (i := 72) (q := (⟨"CoinSamplerModel", "turnLong", "(I)I"⟩, _)) rfl rfl)⟩
def M_Mo_catches : Md := (⟨"CoinSamplerModel", "catches", "(II)Z"⟩, prog_13_method_92_code, 4, some .boolean, 2, 42)
theorem np_M_Mo_catches : (parseMethodDescriptor (mn M_Mo_catches).desc).map (fun d => d.parameters.length) = some 2 := by decide +kernel
theorem ok_M_Mo_catches : MdOK M_Mo_catches := ⟨(qm_7 (i := 31) rfl rfl), ini_CoinSamplerModel.1, ini_CoinSamplerModel.2, by decide +kernel⟩
theorem okv_M_Mo_catches : MdV M_Mo_catches := ⟨(qm_7 (i := 30) rfl rfl), (qm_p (i := 68) (q := (⟨"CoinSamplerModel", "catches", "(II)Z"⟩, _)) rfl rfl)⟩
def M_Mo_caughtBy : Md := (⟨"CoinSamplerModel", "caughtBy", "(I)I"⟩, prog_13_method_93_code, 4, some .int, 3, 65)
theorem np_M_Mo_caughtBy : (parseMethodDescriptor (mn M_Mo_caughtBy).desc).map (fun d => d.parameters.length) = some 1 := by decide +kernel
theorem ok_M_Mo_caughtBy : MdOK M_Mo_caughtBy := ⟨(qm_7 (i := 52) rfl rfl), ini_CoinSamplerModel.1, ini_CoinSamplerModel.2, by decide +kernel⟩
theorem okv_M_Mo_caughtBy : MdV M_Mo_caughtBy := ⟨(qm_7 (i := 51) rfl rfl), (qm_p (i := 71) (q := (⟨"CoinSamplerModel", "caughtBy", "(I)I"⟩, _)) rfl rfl)⟩
def M_Mo_caught : Md := (⟨"CoinSamplerModel", "caught", "(I)I"⟩, prog_13_method_94_code, 4, some .int, 4, 88)
theorem np_M_Mo_caught : (parseMethodDescriptor (mn M_Mo_caught).desc).map (fun d => d.parameters.length) = some 1 := by decide +kernel
theorem ok_M_Mo_caught : MdOK M_Mo_caught := ⟨(qm_7 (i := 40) rfl rfl), ini_CoinSamplerModel.1, ini_CoinSamplerModel.2, by decide +kernel⟩
theorem okv_M_Mo_caught : MdV M_Mo_caught := ⟨(qm_7 (i := 38) rfl rfl), (qm_7 (i := 39) rfl rfl)⟩
def M_Mo_worst : Md := (⟨"CoinSamplerModel", "worst", "(I)I"⟩, prog_13_method_95_code, 7, some .int, 4, 86)
theorem np_M_Mo_worst : (parseMethodDescriptor (mn M_Mo_worst).desc).map (fun d => d.parameters.length) = some 1 := by decide +kernel
theorem ok_M_Mo_worst : MdOK M_Mo_worst := ⟨(qm_7 (i := 60) rfl rfl), ini_CoinSamplerModel.1, ini_CoinSamplerModel.2, by decide +kernel⟩
theorem okv_M_Mo_worst : MdV M_Mo_worst := ⟨(qm_7 (i := 58) rfl rfl), (qm_7 (i := 59) rfl rfl)⟩
def M_Mo_common : Md := (⟨"CoinSamplerModel", "common", "(II)I"⟩, prog_13_method_96_code, 5, some .int, 0, 0)
theorem np_M_Mo_common : (parseMethodDescriptor (mn M_Mo_common).desc).map (fun d => d.parameters.length) = some 2 := by decide +kernel
theorem ok_M_Mo_common : MdOK M_Mo_common := ⟨(qm_7 (i := 67) rfl rfl), ini_CoinSamplerModel.1, ini_CoinSamplerModel.2, by decide +kernel⟩
theorem oks_M_Mo_common : Cond.static (mn M_Mo_common) ∈ UW := (qm_7 (i := 66) rfl rfl)
def M_Mo_chance : Md := (⟨"CoinSamplerModel", "chance", "(I)I"⟩, prog_13_method_97_code, 4, some .int, 4, 88)
theorem np_M_Mo_chance : (parseMethodDescriptor (mn M_Mo_chance).desc).map (fun d => d.parameters.length) = some 1 := by decide +kernel
theorem ok_M_Mo_chance : MdOK M_Mo_chance := ⟨(qm_7 (i := 64) rfl rfl), ini_CoinSamplerModel.1, ini_CoinSamplerModel.2, by decide +kernel⟩
theorem okv_M_Mo_chance : MdV M_Mo_chance := ⟨(qm_7 (i := 62) rfl rfl), (qm_7 (i := 63) rfl rfl)⟩
def M_Mo_were : Md := (⟨"CoinSamplerModel", "were", "(III)I"⟩, prog_13_method_98_code, 8, some .int, 4, 88)
theorem np_M_Mo_were : (parseMethodDescriptor (mn M_Mo_were).desc).map (fun d => d.parameters.length) = some 3 := by decide +kernel
theorem ok_M_Mo_were : MdOK M_Mo_were := ⟨(qm_7 (i := 71) rfl rfl), ini_CoinSamplerModel.1, ini_CoinSamplerModel.2, by decide +kernel⟩
theorem okv_M_Mo_were : MdV M_Mo_were := ⟨(qm_7 (i := 69) rfl rfl), (qm_7 (i := 70) rfl rfl)⟩
def M_Mo_both : Md := (⟨"CoinSamplerModel", "both", "(II)I"⟩, prog_13_method_99_code, 5, some .int, 4, 86)
theorem np_M_Mo_both : (parseMethodDescriptor (mn M_Mo_both).desc).map (fun d => d.parameters.length) = some 2 := by decide +kernel
theorem ok_M_Mo_both : MdOK M_Mo_both := ⟨(qm_7 (i := 75) rfl rfl), ini_CoinSamplerModel.1, ini_CoinSamplerModel.2, by decide +kernel⟩
theorem okv_M_Mo_both : MdV M_Mo_both := ⟨(qm_7 (i := 73) rfl rfl), (qm_7 (i := 74) rfl rfl)⟩
def M_Mo_manyOf : Md := (⟨"CoinSamplerModel", "manyOf", "(I)I"⟩, prog_13_method_100_code, 4, some .int, 1, 21)
theorem np_M_Mo_manyOf : (parseMethodDescriptor (mn M_Mo_manyOf).desc).map (fun d => d.parameters.length) = some 1 := by decide +kernel
theorem ok_M_Mo_manyOf : MdOK M_Mo_manyOf := ⟨(qm_7 (i := 85) rfl rfl), ini_CoinSamplerModel.1, ini_CoinSamplerModel.2, by decide +kernel⟩
theorem okv_M_Mo_manyOf : MdV M_Mo_manyOf := ⟨(qm_7 (i := 84) rfl rfl), (qm_p (i := 73) (q := (⟨"CoinSamplerModel", "manyOf", "(I)I"⟩, _)) rfl rfl)⟩
def M_Mo_count : Md := (⟨"CoinSamplerModel", "count", "(I)I"⟩, prog_13_method_101_code, 2, some .int, 4, 88)
theorem np_M_Mo_count : (parseMethodDescriptor (mn M_Mo_count).desc).map (fun d => d.parameters.length) = some 1 := by decide +kernel
theorem ok_M_Mo_count : MdOK M_Mo_count := ⟨(qm_7 (i := 79) rfl rfl), ini_CoinSamplerModel.1, ini_CoinSamplerModel.2, by decide +kernel⟩
theorem okv_M_Mo_count : MdV M_Mo_count := ⟨(qm_7 (i := 77) rfl rfl), (qm_7 (i := 78) rfl rfl)⟩
def M_Ma_floorMod : Md := (⟨"java/lang/Math", "floorMod", "(II)I"⟩, prog_14_method_50_code, 3, some .int, 0, 0)
theorem ini_java_lang_Math : Cond.initialized "java/lang/Math" ∈ UW ∧ (("java/lang/Math" : String) ≠ "java/lang/invoke/MethodHandle" ∧ ("java/lang/Math" : String) ≠ "java/lang/invoke/VarHandle") := ⟨(qm_1 (i := 17) rfl rfl), by decide +kernel⟩
theorem np_M_Ma_floorMod : (parseMethodDescriptor (mn M_Ma_floorMod).desc).map (fun d => d.parameters.length) = some 2 := by decide +kernel
theorem ok_M_Ma_floorMod : MdOK M_Ma_floorMod := ⟨(qm_3 (i := 166) rfl rfl), ini_java_lang_Math.1, ini_java_lang_Math.2, by decide +kernel⟩
theorem oks_M_Ma_floorMod : Cond.static (mn M_Ma_floorMod) ∈ UW := (qm_3 (i := 165) rfl rfl)
def M_Ma_max : Md := (⟨"java/lang/Math", "max", "(II)I"⟩, prog_14_method_65_code, 2, some .int, 0, 0)
theorem np_M_Ma_max : (parseMethodDescriptor (mn M_Ma_max).desc).map (fun d => d.parameters.length) = some 2 := by decide +kernel
theorem ok_M_Ma_max : MdOK M_Ma_max := ⟨(qm_2 (i := 223) rfl rfl), ini_java_lang_Math.1, ini_java_lang_Math.2, by decide +kernel⟩
theorem oks_M_Ma_max : Cond.static (mn M_Ma_max) ∈ UW := (qm_2 (i := 222) rfl rfl)
def M_Sg_length : Md := (⟨"java/lang/String", "length", "()I"⟩, prog_15_method_54_code, 1, some .int, 1, 20)
theorem ini_java_lang_String : Cond.initialized "java/lang/String" ∈ UW ∧ (("java/lang/String" : String) ≠ "java/lang/invoke/MethodHandle" ∧ ("java/lang/String" : String) ≠ "java/lang/invoke/VarHandle") := ⟨(qm_1 (i := 13) rfl rfl), by decide +kernel⟩
theorem np_M_Sg_length : (parseMethodDescriptor (mn M_Sg_length).desc).map (fun d => d.parameters.length) = some 0 := by decide +kernel
theorem ok_M_Sg_length : MdOK M_Sg_length := ⟨(qm_2 (i := 133) rfl rfl), ini_java_lang_String.1, ini_java_lang_String.2, by decide +kernel⟩
theorem okv_M_Sg_length : MdV M_Sg_length := ⟨(qm_2 (i := 131) rfl rfl), (qm_2 (i := 132) rfl rfl)⟩
def M_Sg_charAt : Md := (⟨"java/lang/String", "charAt", "(I)C"⟩, prog_15_method_56_code, 2, some .char, 4, 85)
theorem np_M_Sg_charAt : (parseMethodDescriptor (mn M_Sg_charAt).desc).map (fun d => d.parameters.length) = some 1 := by decide +kernel
theorem ok_M_Sg_charAt : MdOK M_Sg_charAt := ⟨(qm_2 (i := 143) rfl rfl), ini_java_lang_String.1, ini_java_lang_String.2, by decide +kernel⟩
theorem okv_M_Sg_charAt : MdV M_Sg_charAt := ⟨(qm_2 (i := 141) rfl rfl), (qm_2 (i := 142) rfl rfl)⟩
def M_Sg_coder : Md := (⟨"java/lang/String", "coder", "()B"⟩, prog_15_method_152_code, 1, some .byte, 0, 0)
theorem np_M_Sg_coder : (parseMethodDescriptor (mn M_Sg_coder).desc).map (fun d => d.parameters.length) = some 0 := by decide +kernel
theorem ok_M_Sg_coder : MdOK M_Sg_coder := ⟨(qm_2 (i := 137) rfl rfl), ini_java_lang_String.1, ini_java_lang_String.2, by decide +kernel⟩
theorem okv_M_Sg_coder : MdV M_Sg_coder := ⟨(qm_2 (i := 135) rfl rfl), (qm_2 (i := 136) rfl rfl)⟩
def M_Sg_isLatin1 : Md := (⟨"java/lang/String", "isLatin1", "()Z"⟩, prog_15_method_154_code, 1, some .boolean, 0, 0)
theorem np_M_Sg_isLatin1 : (parseMethodDescriptor (mn M_Sg_isLatin1).desc).map (fun d => d.parameters.length) = some 0 := by decide +kernel
theorem ok_M_Sg_isLatin1 : MdOK M_Sg_isLatin1 := ⟨(qm_2 (i := 147) rfl rfl), ini_java_lang_String.1, ini_java_lang_String.2, by decide +kernel⟩
theorem okv_M_Sg_isLatin1 : MdV M_Sg_isLatin1 := ⟨(qm_2 (i := 145) rfl rfl), (qm_2 (i := 146) rfl rfl)⟩
def M_Sg_checkIndex : Md := (⟨"java/lang/String", "checkIndex", "(II)V"⟩, prog_15_method_155_code, 2, none, 1, 22)
theorem np_M_Sg_checkIndex : (parseMethodDescriptor (mn M_Sg_checkIndex).desc).map (fun d => d.parameters.length) = some 2 := by decide +kernel
theorem ok_M_Sg_checkIndex : MdOK M_Sg_checkIndex := ⟨(qm_2 (i := 153) rfl rfl), ini_java_lang_String.1, ini_java_lang_String.2, by decide +kernel⟩
theorem oks_M_Sg_checkIndex : Cond.static (mn M_Sg_checkIndex) ∈ UW := (qm_2 (i := 152) rfl rfl)
def M_Sl_charAt : Md := (⟨"java/lang/StringLatin1", "charAt", "([BI)C"⟩, prog_16_method_2_code, 2, some .char, 2, 43)
theorem ini_java_lang_StringLatin1 : Cond.initialized "java/lang/StringLatin1" ∈ UW ∧ (("java/lang/StringLatin1" : String) ≠ "java/lang/invoke/MethodHandle" ∧ ("java/lang/StringLatin1" : String) ≠ "java/lang/invoke/VarHandle") := ⟨(qm_1 (i := 14) rfl rfl), by decide +kernel⟩
theorem np_M_Sl_charAt : (parseMethodDescriptor (mn M_Sl_charAt).desc).map (fun d => d.parameters.length) = some 2 := by decide +kernel
theorem ok_M_Sl_charAt : MdOK M_Sl_charAt := ⟨(qm_2 (i := 150) rfl rfl), ini_java_lang_StringLatin1.1, ini_java_lang_StringLatin1.2, by decide +kernel⟩
theorem oks_M_Sl_charAt : Cond.static (mn M_Sl_charAt) ∈ UW := (qm_2 (i := 149) rfl rfl)
def M_Su_getChar : Md := (⟨"java/lang/StringUTF16", "getChar", "([BI)C"⟩, prog_17_method_5_code, 2, some .char, 1, 20)
theorem ini_java_lang_StringUTF16 : Cond.initialized "java/lang/StringUTF16" ∈ UW ∧ (("java/lang/StringUTF16" : String) ≠ "java/lang/invoke/MethodHandle" ∧ ("java/lang/StringUTF16" : String) ≠ "java/lang/invoke/VarHandle") := ⟨(qm_1 (i := 16) rfl rfl), by decide +kernel⟩
theorem np_M_Su_getChar : (parseMethodDescriptor (mn M_Su_getChar).desc).map (fun d => d.parameters.length) = some 2 := by decide +kernel
theorem ok_M_Su_getChar : MdOK M_Su_getChar := ⟨(qm_2 (i := 171) rfl rfl), ini_java_lang_StringUTF16.1, ini_java_lang_StringUTF16.2, by decide +kernel⟩
theorem oks_M_Su_getChar : Cond.static (mn M_Su_getChar) ∈ UW := (qm_2 (i := 170) rfl rfl)
def M_Su_length : Md := (⟨"java/lang/StringUTF16", "length", "([B)I"⟩, prog_17_method_6_code, 1, some .int, 0, 0)
theorem np_M_Su_length : (parseMethodDescriptor (mn M_Su_length).desc).map (fun d => d.parameters.length) = some 1 := by decide +kernel
theorem ok_M_Su_length : MdOK M_Su_length := ⟨(qm_2 (i := 167) rfl rfl), ini_java_lang_StringUTF16.1, ini_java_lang_StringUTF16.2, by decide +kernel⟩
theorem oks_M_Su_length : Cond.static (mn M_Su_length) ∈ UW := (qm_2 (i := 166) rfl rfl)
def M_Su_charAt : Md := (⟨"java/lang/StringUTF16", "charAt", "([BI)C"⟩, prog_17_method_83_code, 2, some .char, 3, 64)
theorem np_M_Su_charAt : (parseMethodDescriptor (mn M_Su_charAt).desc).map (fun d => d.parameters.length) = some 2 := by decide +kernel
theorem ok_M_Su_charAt : MdOK M_Su_charAt := ⟨(qm_2 (i := 161) rfl rfl), ini_java_lang_StringUTF16.1, ini_java_lang_StringUTF16.2, by decide +kernel⟩
theorem oks_M_Su_charAt : Cond.static (mn M_Su_charAt) ∈ UW := (qm_2 (i := 160) rfl rfl)
def M_Su_checkIndex : Md := (⟨"java/lang/StringUTF16", "checkIndex", "(I[B)V"⟩, prog_17_method_91_code, 2, none, 2, 43)
theorem np_M_Su_checkIndex : (parseMethodDescriptor (mn M_Su_checkIndex).desc).map (fun d => d.parameters.length) = some 2 := by decide +kernel
theorem ok_M_Su_checkIndex : MdOK M_Su_checkIndex := ⟨(qm_2 (i := 164) rfl rfl), ini_java_lang_StringUTF16.1, ini_java_lang_StringUTF16.2, by decide +kernel⟩
theorem oks_M_Su_checkIndex : Cond.static (mn M_Su_checkIndex) ∈ UW := (qm_2 (i := 163) rfl rfl)
def M_Ar_fill : Md := (⟨"java/util/Arrays", "fill", "([II)V"⟩, prog_18_method_103_code, 4, none, 0, 0)
theorem ini_java_util_Arrays : Cond.initialized "java/util/Arrays" ∈ UW ∧ (("java/util/Arrays" : String) ≠ "java/lang/invoke/MethodHandle" ∧ ("java/util/Arrays" : String) ≠ "java/lang/invoke/VarHandle") := ⟨(qm_1 (i := 18) rfl rfl), by decide +kernel⟩
theorem np_M_Ar_fill : (parseMethodDescriptor (mn M_Ar_fill).desc).map (fun d => d.parameters.length) = some 2 := by decide +kernel
theorem ok_M_Ar_fill : MdOK M_Ar_fill := ⟨(qm_4 (i := 86) rfl rfl), ini_java_util_Arrays.1, ini_java_util_Arrays.2, by decide +kernel⟩
theorem oks_M_Ar_fill : Cond.static (mn M_Ar_fill) ∈ UW := (qm_4 (i := 85) rfl rfl)
def M_Pc_checkIndex : Md := (⟨"jdk/internal/util/Preconditions", "checkIndex", "(IILjava/util/function/BiFunction;)I"⟩, prog_19_method_11_code, 3, some .int, 0, 0)
theorem ini_jdk_internal_util_Preconditions : Cond.initialized "jdk/internal/util/Preconditions" ∈ UW ∧ (("jdk/internal/util/Preconditions" : String) ≠ "java/lang/invoke/MethodHandle" ∧ ("jdk/internal/util/Preconditions" : String) ≠ "java/lang/invoke/VarHandle") := ⟨(qm_1 (i := 15) rfl rfl), by decide +kernel⟩
theorem np_M_Pc_checkIndex : (parseMethodDescriptor (mn M_Pc_checkIndex).desc).map (fun d => d.parameters.length) = some 3 := by decide +kernel
theorem ok_M_Pc_checkIndex : MdOK M_Pc_checkIndex := ⟨(qm_2 (i := 158) rfl rfl), ini_jdk_internal_util_Preconditions.1, ini_jdk_internal_util_Preconditions.2, by decide +kernel⟩
theorem oks_M_Pc_checkIndex : Cond.static (mn M_Pc_checkIndex) ∈ UW := (qm_2 (i := 157) rfl rfl)
