def RX0 : String := "ThreeBalls$Drawn"
def TX0 : u_T := fun k => match k with
  | 0 => ("ThreeBalls$Stall", "kind", "I", true)
  | 1 => ("ThreeBalls$Stall", "pegX", "I", true)
  | 2 => ("ThreeBalls$Stall", "pegY", "I", true)
  | 3 => ("ThreeBalls$Stall", "size", "I", true)
  | 4 => ("ThreeBalls$Stall", "price", "I", false)
  | 5 => ("ThreeBalls$Stall", "bear", "I", false)
  | 6 => ("ThreeBalls$Stall", "seems", "I", false)
  | _ => ("ThreeBalls$Stall", "boot", "I", false)
def tyX0 : Nat → FieldType := fun k => match k with
  | 0 => .int
  | 1 => .int
  | 2 => .int
  | 3 => .int
  | 4 => .int
  | 5 => .int
  | 6 => .int
  | _ => .int
theorem nmX0 : ∀ a, a < 8 → ∀ b, b < 8 → a ≠ b → (TX0 a).2.1 ≠ (TX0 b).2.1 := by decide +kernel
theorem tyX0_ok : ∀ k, k < 8 → parseFieldDescriptor (TX0 k).2.2.1 = some (tyX0 k) := by decide +kernel
abbrev cX0_init : ByteArray := prog_2_method_1_code
def yX0_init : MethodName := ⟨RX0, "<init>", "(IIII)V"⟩
abbrev cX0_pays : ByteArray := prog_2_method_2_code
def yX0_pays : MethodName := ⟨RX0, "pays", "(III)Z"⟩
abbrev cX0_gaffs : ByteArray := prog_2_method_3_code
def yX0_gaffs : MethodName := ⟨RX0, "gaffs", "()I"⟩
def RX1 : String := "ThreeBalls$Gaffed"
def TX1 : u_T := fun k => match k with
  | 0 => ("ThreeBalls$Stall", "kind", "I", true)
  | 1 => ("ThreeBalls$Stall", "pegX", "I", true)
  | 2 => ("ThreeBalls$Stall", "pegY", "I", true)
  | 3 => ("ThreeBalls$Stall", "size", "I", true)
  | 4 => ("ThreeBalls$Stall", "price", "I", false)
  | 5 => ("ThreeBalls$Stall", "bear", "I", false)
  | 6 => ("ThreeBalls$Stall", "seems", "I", false)
  | _ => ("ThreeBalls$Stall", "boot", "I", false)
def tyX1 : Nat → FieldType := fun k => match k with
  | 0 => .int
  | 1 => .int
  | 2 => .int
  | 3 => .int
  | 4 => .int
  | 5 => .int
  | 6 => .int
  | _ => .int
theorem nmX1 : ∀ a, a < 8 → ∀ b, b < 8 → a ≠ b → (TX1 a).2.1 ≠ (TX1 b).2.1 := by decide +kernel
theorem tyX1_ok : ∀ k, k < 8 → parseFieldDescriptor (TX1 k).2.2.1 = some (tyX1 k) := by decide +kernel
abbrev cX1_init : ByteArray := prog_3_method_1_code
def yX1_init : MethodName := ⟨RX1, "<init>", "(IIII)V"⟩
abbrev cX1_pays : ByteArray := prog_3_method_2_code
def yX1_pays : MethodName := ⟨RX1, "pays", "(III)Z"⟩
abbrev cX1_gaffs : ByteArray := prog_3_method_3_code
def yX1_gaffs : MethodName := ⟨RX1, "gaffs", "()I"⟩
def RX2 : String := "ThreeBalls$Grid"
def TX2 : u_T := fun k => match k with
  | 0 => ("ThreeBalls$Grid", "sums", "[I", true)
  | 1 => ("ThreeBalls$Grid", "pegX", "I", false)
  | _ => ("ThreeBalls$Grid", "pegY", "I", false)
def tyX2 : Nat → FieldType := fun k => match k with
  | 0 => .array .int
  | 1 => .int
  | _ => .int
theorem nmX2 : ∀ a, a < 3 → ∀ b, b < 3 → a ≠ b → (TX2 a).2.1 ≠ (TX2 b).2.1 := by decide +kernel
theorem tyX2_ok : ∀ k, k < 3 → parseFieldDescriptor (TX2 k).2.2.1 = some (tyX2 k) := by decide +kernel
abbrev cX2_init : ByteArray := prog_4_method_1_code
def yX2_init : MethodName := ⟨RX2, "<init>", "()V"⟩
abbrev cX2_fill : ByteArray := prog_4_method_2_code
def yX2_fill : MethodName := ⟨RX2, "fill", "(LThreeBalls$Stall;I)V"⟩
abbrev cX2_winning : ByteArray := prog_4_method_3_code
def yX2_winning : MethodName := ⟨RX2, "winning", "(LThreeBalls$Hand;I)I"⟩
abbrev cX2_bestAim : ByteArray := prog_4_method_4_code
def yX2_bestAim : MethodName := ⟨RX2, "bestAim", "(LThreeBalls$Hand;)I"⟩
abbrev cX2_line : ByteArray := prog_4_method_5_code
def yX2_line : MethodName := ⟨RX2, "line", "(I)I"⟩
abbrev cX2_sum : ByteArray := prog_4_method_6_code
def yX2_sum : MethodName := ⟨RX2, "sum", "(II)I"⟩
def RX3 : String := "ThreeBalls$Hand"
def TX3 : u_T := fun k => match k with
  | 0 => ("ThreeBalls$Hand", "leanX", "I", true)
  | 1 => ("ThreeBalls$Hand", "leanY", "I", true)
  | 2 => ("ThreeBalls$Hand", "scatter", "I", true)
  | 3 => ("ThreeBalls$Hand", "width", "I", true)
  | _ => ("ThreeBalls$Hand", "ways", "I", true)
def tyX3 : Nat → FieldType := fun k => match k with
  | 0 => .int
  | 1 => .int
  | 2 => .int
  | 3 => .int
  | _ => .int
theorem nmX3 : ∀ a, a < 5 → ∀ b, b < 5 → a ≠ b → (TX3 a).2.1 ≠ (TX3 b).2.1 := by decide +kernel
theorem tyX3_ok : ∀ k, k < 5 → parseFieldDescriptor (TX3 k).2.2.1 = some (tyX3 k) := by decide +kernel
abbrev cX3_init : ByteArray := prog_5_method_1_code
def yX3_init : MethodName := ⟨RX3, "<init>", "(III)V"⟩
def RX4 : String := "ThreeBalls$Heavy"
def TX4 : u_T := fun k => match k with
  | 0 => ("ThreeBalls$Stall", "kind", "I", true)
  | 1 => ("ThreeBalls$Stall", "pegX", "I", true)
  | 2 => ("ThreeBalls$Stall", "pegY", "I", true)
  | 3 => ("ThreeBalls$Stall", "size", "I", true)
  | 4 => ("ThreeBalls$Stall", "price", "I", false)
  | 5 => ("ThreeBalls$Stall", "bear", "I", false)
  | 6 => ("ThreeBalls$Stall", "seems", "I", false)
  | _ => ("ThreeBalls$Stall", "boot", "I", false)
def tyX4 : Nat → FieldType := fun k => match k with
  | 0 => .int
  | 1 => .int
  | 2 => .int
  | 3 => .int
  | 4 => .int
  | 5 => .int
  | 6 => .int
  | _ => .int
theorem nmX4 : ∀ a, a < 8 → ∀ b, b < 8 → a ≠ b → (TX4 a).2.1 ≠ (TX4 b).2.1 := by decide +kernel
theorem tyX4_ok : ∀ k, k < 8 → parseFieldDescriptor (TX4 k).2.2.1 = some (tyX4 k) := by decide +kernel
abbrev cX4_init : ByteArray := prog_6_method_1_code
def yX4_init : MethodName := ⟨RX4, "<init>", "(IIII)V"⟩
abbrev cX4_pays : ByteArray := prog_6_method_2_code
def yX4_pays : MethodName := ⟨RX4, "pays", "(III)Z"⟩
abbrev cX4_gaffs : ByteArray := prog_6_method_3_code
def yX4_gaffs : MethodName := ⟨RX4, "gaffs", "()I"⟩
def RX5 : String := "ThreeBalls$Image"
def TX5 : u_T := fun k => match k with
  | 0 => ("ThreeBalls$Image", "isThere", "Z", false)
  | 1 => ("ThreeBalls$Image", "stallCount", "I", false)
  | 2 => ("ThreeBalls$Image", "rule", "I", false)
  | 3 => ("ThreeBalls$Image", "tryCount", "I", false)
  | _ => ("ThreeBalls$Image", "rows", "[I", true)
def tyX5 : Nat → FieldType := fun k => match k with
  | 0 => .boolean
  | 1 => .int
  | 2 => .int
  | 3 => .int
  | _ => .array .int
theorem nmX5 : ∀ a, a < 5 → ∀ b, b < 5 → a ≠ b → (TX5 a).2.1 ≠ (TX5 b).2.1 := by decide +kernel
theorem tyX5_ok : ∀ k, k < 5 → parseFieldDescriptor (TX5 k).2.2.1 = some (tyX5 k) := by decide +kernel
abbrev cX5_init : ByteArray := prog_7_method_1_code
def yX5_init : MethodName := ⟨RX5, "<init>", "()V"⟩
abbrev cX5_keep : ByteArray := prog_7_method_2_code
def yX5_keep : MethodName := ⟨RX5, "keep", "(ILThreeBalls$Stall;)V"⟩
abbrev cX5_layBack : ByteArray := prog_7_method_3_code
def yX5_layBack : MethodName := ⟨RX5, "layBack", "(ILThreeBalls$Stall;)V"⟩
def RX6 : String := "ThreeBalls$Reader"
def TX6 : u_T := fun k => match k with
  | 0 => ("ThreeBalls$Reader", "tape", "[I", true)
  | 1 => ("ThreeBalls$Reader", "size", "I", false)
  | 2 => ("ThreeBalls$Reader", "tokens", "[I", true)
  | 3 => ("ThreeBalls$Reader", "places", "[I", true)
  | 4 => ("ThreeBalls$Reader", "tokenCount", "I", false)
  | 5 => ("ThreeBalls$Reader", "next", "I", false)
  | 6 => ("ThreeBalls$Reader", "code", "[I", true)
  | 7 => ("ThreeBalls$Reader", "codeSize", "I", false)
  | _ => ("ThreeBalls$Reader", "fault", "I", false)
def tyX6 : Nat → FieldType := fun k => match k with
  | 0 => .array .int
  | 1 => .int
  | 2 => .array .int
  | 3 => .array .int
  | 4 => .int
  | 5 => .int
  | 6 => .array .int
  | 7 => .int
  | _ => .int
theorem nmX6 : ∀ a, a < 9 → ∀ b, b < 9 → a ≠ b → (TX6 a).2.1 ≠ (TX6 b).2.1 := by decide +kernel
theorem tyX6_ok : ∀ k, k < 9 → parseFieldDescriptor (TX6 k).2.2.1 = some (tyX6 k) := by decide +kernel
abbrev cX6_init : ByteArray := prog_8_method_1_code
def yX6_init : MethodName := ⟨RX6, "<init>", "()V"⟩
abbrev cX6_put : ByteArray := prog_8_method_2_code
def yX6_put : MethodName := ⟨RX6, "put", "(I)V"⟩
abbrev cX6_spell : ByteArray := prog_8_method_3_code
def yX6_spell : MethodName := ⟨RX6, "spell", "(Ljava/lang/String;)V"⟩
abbrev cX6_read : ByteArray := prog_8_method_4_code
def yX6_read : MethodName := ⟨RX6, "read", "()LThreeBalls$Text;"⟩
abbrev cX6_split : ByteArray := prog_8_method_5_code
def yX6_split : MethodName := ⟨RX6, "split", "()V"⟩
abbrev cX6_splitOne : ByteArray := prog_8_method_6_code
def yX6_splitOne : MethodName := ⟨RX6, "splitOne", "(I)I"⟩
abbrev cX6_addToken : ByteArray := prog_8_method_7_code
def yX6_addToken : MethodName := ⟨RX6, "addToken", "(II)V"⟩
abbrev cX6_endOfDigits : ByteArray := prog_8_method_8_code
def yX6_endOfDigits : MethodName := ⟨RX6, "endOfDigits", "(I)I"⟩
abbrev cX6_endOfLetters : ByteArray := prog_8_method_9_code
def yX6_endOfLetters : MethodName := ⟨RX6, "endOfLetters", "(I)I"⟩
abbrev cX6_numberToken : ByteArray := prog_8_method_10_code
def yX6_numberToken : MethodName := ⟨RX6, "numberToken", "(II)I"⟩
abbrev cX6_wordToken : ByteArray := prog_8_method_11_code
def yX6_wordToken : MethodName := ⟨RX6, "wordToken", "(II)I"⟩
abbrev cX6_isWord : ByteArray := prog_8_method_12_code
def yX6_isWord : MethodName := ⟨RX6, "isWord", "(Ljava/lang/String;II)Z"⟩
abbrev cX6_byteAt : ByteArray := prog_8_method_13_code
def yX6_byteAt : MethodName := ⟨RX6, "byteAt", "(I)I"⟩
abbrev cX6_isDigit : ByteArray := prog_8_method_14_code
def yX6_isDigit : MethodName := ⟨RX6, "isDigit", "(I)Z"⟩
abbrev cX6_isLetter : ByteArray := prog_8_method_15_code
def yX6_isLetter : MethodName := ⟨RX6, "isLetter", "(I)Z"⟩
abbrev cX6_isSign : ByteArray := prog_8_method_16_code
def yX6_isSign : MethodName := ⟨RX6, "isSign", "(I)Z"⟩
abbrev cX6_readPart : ByteArray := prog_8_method_17_code
def yX6_readPart : MethodName := ⟨RX6, "readPart", "(I)V"⟩
abbrev cX6_readAny : ByteArray := prog_8_method_18_code
def yX6_readAny : MethodName := ⟨RX6, "readAny", "(I)V"⟩
abbrev cX6_readEach : ByteArray := prog_8_method_19_code
def yX6_readEach : MethodName := ⟨RX6, "readEach", "(I)V"⟩
abbrev cX6_readNot : ByteArray := prog_8_method_20_code
def yX6_readNot : MethodName := ⟨RX6, "readNot", "(I)V"⟩
abbrev cX6_readSum : ByteArray := prog_8_method_21_code
def yX6_readSum : MethodName := ⟨RX6, "readSum", "(I)V"⟩
abbrev cX6_readTerm : ByteArray := prog_8_method_22_code
def yX6_readTerm : MethodName := ⟨RX6, "readTerm", "(I)V"⟩
abbrev cX6_readOne : ByteArray := prog_8_method_23_code
def yX6_readOne : MethodName := ⟨RX6, "readOne", "(I)V"⟩
abbrev cX6_isValue : ByteArray := prog_8_method_24_code
def yX6_isValue : MethodName := ⟨RX6, "isValue", "(I)Z"⟩
abbrev cX6_token : ByteArray := prog_8_method_25_code
def yX6_token : MethodName := ⟨RX6, "token", "()I"⟩
abbrev cX6_takes : ByteArray := prog_8_method_26_code
def yX6_takes : MethodName := ⟨RX6, "takes", "(I)Z"⟩
abbrev cX6_ask : ByteArray := prog_8_method_27_code
def yX6_ask : MethodName := ⟨RX6, "ask", "(I)V"⟩
abbrev cX6_refuse : ByteArray := prog_8_method_28_code
def yX6_refuse : MethodName := ⟨RX6, "refuse", "()V"⟩
abbrev cX6_write : ByteArray := prog_8_method_29_code
def yX6_write : MethodName := ⟨RX6, "write", "(I)V"⟩
def RX7 : String := "ThreeBalls$Sprung"
def TX7 : u_T := fun k => match k with
  | 0 => ("ThreeBalls$Stall", "kind", "I", true)
  | 1 => ("ThreeBalls$Stall", "pegX", "I", true)
  | 2 => ("ThreeBalls$Stall", "pegY", "I", true)
  | 3 => ("ThreeBalls$Stall", "size", "I", true)
  | 4 => ("ThreeBalls$Stall", "price", "I", false)
  | 5 => ("ThreeBalls$Stall", "bear", "I", false)
  | 6 => ("ThreeBalls$Stall", "seems", "I", false)
  | _ => ("ThreeBalls$Stall", "boot", "I", false)
def tyX7 : Nat → FieldType := fun k => match k with
  | 0 => .int
  | 1 => .int
  | 2 => .int
  | 3 => .int
  | 4 => .int
  | 5 => .int
  | 6 => .int
  | _ => .int
theorem nmX7 : ∀ a, a < 8 → ∀ b, b < 8 → a ≠ b → (TX7 a).2.1 ≠ (TX7 b).2.1 := by decide +kernel
theorem tyX7_ok : ∀ k, k < 8 → parseFieldDescriptor (TX7 k).2.2.1 = some (tyX7 k) := by decide +kernel
abbrev cX7_init : ByteArray := prog_9_method_1_code
def yX7_init : MethodName := ⟨RX7, "<init>", "(IIII)V"⟩
abbrev cX7_pays : ByteArray := prog_9_method_2_code
def yX7_pays : MethodName := ⟨RX7, "pays", "(III)Z"⟩
abbrev cX7_gaffs : ByteArray := prog_9_method_3_code
def yX7_gaffs : MethodName := ⟨RX7, "gaffs", "()I"⟩
def RX8 : String := "ThreeBalls$Stall"
def TX8 : u_T := fun k => match k with
  | 0 => ("ThreeBalls$Stall", "kind", "I", true)
  | 1 => ("ThreeBalls$Stall", "pegX", "I", true)
  | 2 => ("ThreeBalls$Stall", "pegY", "I", true)
  | 3 => ("ThreeBalls$Stall", "size", "I", true)
  | 4 => ("ThreeBalls$Stall", "price", "I", false)
  | 5 => ("ThreeBalls$Stall", "bear", "I", false)
  | 6 => ("ThreeBalls$Stall", "seems", "I", false)
  | _ => ("ThreeBalls$Stall", "boot", "I", false)
def tyX8 : Nat → FieldType := fun k => match k with
  | 0 => .int
  | 1 => .int
  | 2 => .int
  | 3 => .int
  | 4 => .int
  | 5 => .int
  | 6 => .int
  | _ => .int
theorem nmX8 : ∀ a, a < 8 → ∀ b, b < 8 → a ≠ b → (TX8 a).2.1 ≠ (TX8 b).2.1 := by decide +kernel
theorem tyX8_ok : ∀ k, k < 8 → parseFieldDescriptor (TX8 k).2.2.1 = some (tyX8 k) := by decide +kernel
abbrev cX8_init : ByteArray := prog_10_method_1_code
def yX8_init : MethodName := ⟨RX8, "<init>", "(IIII)V"⟩
abbrev cX8_pays : ByteArray := prog_10_method_2_code
def yX8_pays : MethodName := ⟨RX8, "pays", "(III)Z"⟩
abbrev cX8_gaffs : ByteArray := prog_10_method_3_code
def yX8_gaffs : MethodName := ⟨RX8, "gaffs", "()I"⟩
abbrev cX8_isWithin : ByteArray := prog_10_method_4_code
def yX8_isWithin : MethodName := ⟨RX8, "isWithin", "(III)Z"⟩
abbrev cX8_changeable : ByteArray := prog_10_method_5_code
def yX8_changeable : MethodName := ⟨RX8, "changeable", "(I)I"⟩
abbrev cX8_change : ByteArray := prog_10_method_6_code
def yX8_change : MethodName := ⟨RX8, "change", "(II)V"⟩
def RX9 : String := "ThreeBalls$Text"
def TX9 : u_T := fun k => match k with
  | 0 => ("ThreeBalls$Text", "code", "[I", true)
  | 1 => ("ThreeBalls$Text", "stack", "[I", true)
  | 2 => ("ThreeBalls$Text", "skillAt", "I", true)
  | _ => ("ThreeBalls$Text", "leaveAt", "I", true)
def tyX9 : Nat → FieldType := fun k => match k with
  | 0 => .array .int
  | 1 => .array .int
  | 2 => .int
  | _ => .int
theorem nmX9 : ∀ a, a < 4 → ∀ b, b < 4 → a ≠ b → (TX9 a).2.1 ≠ (TX9 b).2.1 := by decide +kernel
theorem tyX9_ok : ∀ k, k < 4 → parseFieldDescriptor (TX9 k).2.2.1 = some (tyX9 k) := by decide +kernel
abbrev cX9_init : ByteArray := prog_11_method_1_code
def yX9_init : MethodName := ⟨RX9, "<init>", "([III)V"⟩
abbrev cX9_comesTo : ByteArray := prog_11_method_2_code
def yX9_comesTo : MethodName := ⟨RX9, "comesTo", "(I[I)I"⟩
abbrev cX9_step : ByteArray := prog_11_method_3_code
def yX9_step : MethodName := ⟨RX9, "step", "(II[I)I"⟩
abbrev cX9_push : ByteArray := prog_11_method_4_code
def yX9_push : MethodName := ⟨RX9, "push", "(II)I"⟩
abbrev cX9_alter : ByteArray := prog_11_method_5_code
def yX9_alter : MethodName := ⟨RX9, "alter", "(II)I"⟩
abbrev cX9_joined : ByteArray := prog_11_method_6_code
def yX9_joined : MethodName := ⟨RX9, "joined", "(III)I"⟩
def RX10 : String := "ThreeBalls$Tight"
def TX10 : u_T := fun k => match k with
  | 0 => ("ThreeBalls$Stall", "kind", "I", true)
  | 1 => ("ThreeBalls$Stall", "pegX", "I", true)
  | 2 => ("ThreeBalls$Stall", "pegY", "I", true)
  | 3 => ("ThreeBalls$Stall", "size", "I", true)
  | 4 => ("ThreeBalls$Stall", "price", "I", false)
  | 5 => ("ThreeBalls$Stall", "bear", "I", false)
  | 6 => ("ThreeBalls$Stall", "seems", "I", false)
  | _ => ("ThreeBalls$Stall", "boot", "I", false)
def tyX10 : Nat → FieldType := fun k => match k with
  | 0 => .int
  | 1 => .int
  | 2 => .int
  | 3 => .int
  | 4 => .int
  | 5 => .int
  | 6 => .int
  | _ => .int
theorem nmX10 : ∀ a, a < 8 → ∀ b, b < 8 → a ≠ b → (TX10 a).2.1 ≠ (TX10 b).2.1 := by decide +kernel
theorem tyX10_ok : ∀ k, k < 8 → parseFieldDescriptor (TX10 k).2.2.1 = some (tyX10 k) := by decide +kernel
abbrev cX10_init : ByteArray := prog_12_method_1_code
def yX10_init : MethodName := ⟨RX10, "<init>", "(IIII)V"⟩
abbrev cX10_pays : ByteArray := prog_12_method_2_code
def yX10_pays : MethodName := ⟨RX10, "pays", "(III)Z"⟩
abbrev cX10_gaffs : ByteArray := prog_12_method_3_code
def yX10_gaffs : MethodName := ⟨RX10, "gaffs", "()I"⟩
def RX11 : String := "ThreeBalls"
def TX11 : u_T := fun k => match k with
  | 0 => ("ThreeBalls", "stalls", "Ljava/util/ArrayList;", true)
  | 1 => ("ThreeBalls", "hands", "Ljava/util/ArrayList;", true)
  | 2 => ("ThreeBalls", "texts", "Ljava/util/ArrayList;", true)
  | 3 => ("ThreeBalls", "rule", "I", false)
  | 4 => ("ThreeBalls", "tryRows", "[I", true)
  | 5 => ("ThreeBalls", "tryCount", "I", false)
  | 6 => ("ThreeBalls", "testHours", "[I", true)
  | 7 => ("ThreeBalls", "testAnswers", "[I", true)
  | 8 => ("ThreeBalls", "testCount", "I", false)
  | 9 => ("ThreeBalls", "reader", "LThreeBalls$Reader;", true)
  | 10 => ("ThreeBalls", "kept", "LThreeBalls$Image;", true)
  | 11 => ("ThreeBalls", "sheets", "[[I", true)
  | 12 => ("ThreeBalls", "sheetSorts", "[I", true)
  | 13 => ("ThreeBalls", "grid", "LThreeBalls$Grid;", true)
  | 14 => ("ThreeBalls", "values", "[I", true)
  | 15 => ("ThreeBalls", "outcome", "[I", true)
  | 16 => ("ThreeBalls", "askedWhether", "[J", true)
  | 17 => ("ThreeBalls", "goingOn", "[J", true)
  | 18 => ("ThreeBalls", "ofStalls", "[I", true)
  | _ => ("ThreeBalls", "fails", "[I", true)
def tyX11 : Nat → FieldType := fun k => match k with
  | 0 => .object "java/util/ArrayList"
  | 1 => .object "java/util/ArrayList"
  | 2 => .object "java/util/ArrayList"
  | 3 => .int
  | 4 => .array .int
  | 5 => .int
  | 6 => .array .int
  | 7 => .array .int
  | 8 => .int
  | 9 => .object "ThreeBalls$Reader"
  | 10 => .object "ThreeBalls$Image"
  | 11 => .array (.array .int)
  | 12 => .array .int
  | 13 => .object "ThreeBalls$Grid"
  | 14 => .array .int
  | 15 => .array .int
  | 16 => .array .long
  | 17 => .array .long
  | 18 => .array .int
  | _ => .array .int
theorem nmX11 : ∀ a, a < 20 → ∀ b, b < 20 → a ≠ b → (TX11 a).2.1 ≠ (TX11 b).2.1 := by decide +kernel
theorem tyX11_ok : ∀ k, k < 20 → parseFieldDescriptor (TX11 k).2.2.1 = some (tyX11 k) := by decide +kernel
abbrev cX11_init : ByteArray := prog_1_method_1_code
def yX11_init : MethodName := ⟨RX11, "<init>", "()V"⟩
abbrev cX11_stall : ByteArray := prog_1_method_2_code
def yX11_stall : MethodName := ⟨RX11, "stall", "(IIII)I"⟩
abbrev cX11_set : ByteArray := prog_1_method_3_code
def yX11_set : MethodName := ⟨RX11, "set", "(III)I"⟩
abbrev cX11_told : ByteArray := prog_1_method_4_code
def yX11_told : MethodName := ⟨RX11, "told", "(II)I"⟩
abbrev cX11_wins : ByteArray := prog_1_method_5_code
def yX11_wins : MethodName := ⟨RX11, "wins", "(III)I"⟩
abbrev cX11_hand : ByteArray := prog_1_method_6_code
def yX11_hand : MethodName := ⟨RX11, "hand", "(III)I"⟩
abbrev cX11_odds : ByteArray := prog_1_method_7_code
def yX11_odds : MethodName := ⟨RX11, "odds", "(IIII)J"⟩
abbrev cX11_best : ByteArray := prog_1_method_8_code
def yX11_best : MethodName := ⟨RX11, "best", "(III)J"⟩
abbrev cX11_newStall : ByteArray := prog_1_method_9_code
def yX11_newStall : MethodName := ⟨RX11, "newStall", "(IIII)LThreeBalls$Stall;"⟩
abbrev cX11_isSettable : ByteArray := prog_1_method_10_code
def yX11_isSettable : MethodName := ⟨RX11, "isSettable", "(II)Z"⟩
abbrev cX11_tried : ByteArray := prog_1_method_11_code
def yX11_tried : MethodName := ⟨RX11, "tried", "(IIII)I"⟩
abbrev cX11_shown : ByteArray := prog_1_method_12_code
def yX11_shown : MethodName := ⟨RX11, "shown", "(IIII)I"⟩
abbrev cX11_tryTold : ByteArray := prog_1_method_13_code
def yX11_tryTold : MethodName := ⟨RX11, "tryTold", "(II)I"⟩
abbrev cX11_setAll : ByteArray := prog_1_method_14_code
def yX11_setAll : MethodName := ⟨RX11, "setAll", "(III)J"⟩
abbrev cX11_isTry : ByteArray := prog_1_method_15_code
def yX11_isTry : MethodName := ⟨RX11, "isTry", "(IIII)Z"⟩
abbrev cX11_keepTry : ByteArray := prog_1_method_16_code
def yX11_keepTry : MethodName := ⟨RX11, "keepTry", "(IIII)V"⟩
abbrev cX11_tryField : ByteArray := prog_1_method_17_code
def yX11_tryField : MethodName := ⟨RX11, "tryField", "(II)I"⟩
abbrev cX11_waysOfTry : ByteArray := prog_1_method_18_code
def yX11_waysOfTry : MethodName := ⟨RX11, "waysOfTry", "(I)I"⟩
abbrev cX11_firstLot : ByteArray := prog_1_method_19_code
def yX11_firstLot : MethodName := ⟨RX11, "firstLot", "(I)J"⟩
abbrev cX11_nextLot : ByteArray := prog_1_method_20_code
def yX11_nextLot : MethodName := ⟨RX11, "nextLot", "(J)J"⟩
abbrev cX11_lands : ByteArray := prog_1_method_21_code
def yX11_lands : MethodName := ⟨RX11, "lands", "(LThreeBalls$Stall;LThreeBalls$Hand;IJ)Z"⟩
abbrev cX11_worth : ByteArray := prog_1_method_22_code
def yX11_worth : MethodName := ⟨RX11, "worth", "(IIIII)J"⟩
abbrev cX11_leaves : ByteArray := prog_1_method_23_code
def yX11_leaves : MethodName := ⟨RX11, "leaves", "(II)J"⟩
abbrev cX11_feed : ByteArray := prog_1_method_24_code
def yX11_feed : MethodName := ⟨RX11, "feed", "(IJ)I"⟩
abbrev cX11_text : ByteArray := prog_1_method_25_code
def yX11_text : MethodName := ⟨RX11, "text", "()I"⟩
abbrev cX11_force : ByteArray := prog_1_method_26_code
def yX11_force : MethodName := ⟨RX11, "force", "(I)I"⟩
abbrev cX11_says : ByteArray := prog_1_method_27_code
def yX11_says : MethodName := ⟨RX11, "says", "(IIIII)J"⟩
abbrev cX11_player : ByteArray := prog_1_method_28_code
def yX11_player : MethodName := ⟨RX11, "player", "(IIIII)J"⟩
abbrev cX11_most : ByteArray := prog_1_method_29_code
def yX11_most : MethodName := ⟨RX11, "most", "(IIIII)I"⟩
abbrev cX11_isPlayer : ByteArray := prog_1_method_30_code
def yX11_isPlayer : MethodName := ⟨RX11, "isPlayer", "(IIII)Z"⟩
abbrev cX11_askPlayer : ByteArray := prog_1_method_31_code
def yX11_askPlayer : MethodName := ⟨RX11, "askPlayer", "(LThreeBalls$Stall;LThreeBalls$Hand;I)V"⟩
abbrev cX11_winningThrows : ByteArray := prog_1_method_32_code
def yX11_winningThrows : MethodName := ⟨RX11, "winningThrows", "(LThreeBalls$Stall;LThreeBalls$Hand;II)J"⟩
abbrev cX11_playOut : ByteArray := prog_1_method_33_code
def yX11_playOut : MethodName := ⟨RX11, "playOut", "(LThreeBalls$Stall;IJ)V"⟩
abbrev cX11_goesOn : ByteArray := prog_1_method_34_code
def yX11_goesOn : MethodName := ⟨RX11, "goesOn", "(II)Z"⟩
abbrev cX11_thousandths : ByteArray := prog_1_method_35_code
def yX11_thousandths : MethodName := ⟨RX11, "thousandths", "(LThreeBalls$Stall;LThreeBalls$Hand;I)I"⟩
abbrev cX11_mostWinning : ByteArray := prog_1_method_36_code
def yX11_mostWinning : MethodName := ⟨RX11, "mostWinning", "(LThreeBalls$Stall;LThreeBalls$Hand;)I"⟩
abbrev cX11_tellValues : ByteArray := prog_1_method_37_code
def yX11_tellValues : MethodName := ⟨RX11, "tellValues", "(LThreeBalls$Stall;I)V"⟩
abbrev cX11_ruleSays : ByteArray := prog_1_method_38_code
def yX11_ruleSays : MethodName := ⟨RX11, "ruleSays", "(III)I"⟩
abbrev cX11_lookHours : ByteArray := prog_1_method_39_code
def yX11_lookHours : MethodName := ⟨RX11, "lookHours", "(LThreeBalls$Stall;)I"⟩
abbrev cX11_test : ByteArray := prog_1_method_40_code
def yX11_test : MethodName := ⟨RX11, "test", "(II)I"⟩
abbrev cX11_find : ByteArray := prog_1_method_41_code
def yX11_find : MethodName := ⟨RX11, "find", "(II)I"⟩
abbrev cX11_year : ByteArray := prog_1_method_42_code
def yX11_year : MethodName := ⟨RX11, "year", "(II)I"⟩
abbrev cX11_make : ByteArray := prog_1_method_43_code
def yX11_make : MethodName := ⟨RX11, "make", "(IIIII)I"⟩
abbrev cX11_walk : ByteArray := prog_1_method_44_code
def yX11_walk : MethodName := ⟨RX11, "walk", "(III)I"⟩
abbrev cX11_image : ByteArray := prog_1_method_45_code
def yX11_image : MethodName := ⟨RX11, "image", "()I"⟩
abbrev cX11_back : ByteArray := prog_1_method_46_code
def yX11_back : MethodName := ⟨RX11, "back", "()I"⟩
abbrev cX11_count : ByteArray := prog_1_method_47_code
def yX11_count : MethodName := ⟨RX11, "count", "(I)I"⟩
abbrev cX11_areAnswers : ByteArray := prog_1_method_48_code
def yX11_areAnswers : MethodName := ⟨RX11, "areAnswers", "(I)Z"⟩
abbrev cX11_answerOf : ByteArray := prog_1_method_49_code
def yX11_answerOf : MethodName := ⟨RX11, "answerOf", "(II)I"⟩
abbrev cX11_allStalls : ByteArray := prog_1_method_50_code
def yX11_allStalls : MethodName := ⟨RX11, "allStalls", "()I"⟩
abbrev cX11_hoursOfTests : ByteArray := prog_1_method_51_code
def yX11_hoursOfTests : MethodName := ⟨RX11, "hoursOfTests", "(I)I"⟩
abbrev cX11_areParted : ByteArray := prog_1_method_52_code
def yX11_areParted : MethodName := ⟨RX11, "areParted", "(II)Z"⟩
abbrev cX11_arePartedKinds : ByteArray := prog_1_method_53_code
def yX11_arePartedKinds : MethodName := ⟨RX11, "arePartedKinds", "(III)Z"⟩
abbrev cX11_hoursOfLooks : ByteArray := prog_1_method_54_code
def yX11_hoursOfLooks : MethodName := ⟨RX11, "hoursOfLooks", "(I)I"⟩
abbrev cX11_gaffsOf : ByteArray := prog_1_method_55_code
def yX11_gaffsOf : MethodName := ⟨RX11, "gaffsOf", "(I)I"⟩
abbrev cX11_leastFail : ByteArray := prog_1_method_56_code
def yX11_leastFail : MethodName := ⟨RX11, "leastFail", "(LThreeBalls$Hand;II)I"⟩
abbrev cX11_failAfter : ByteArray := prog_1_method_57_code
def yX11_failAfter : MethodName := ⟨RX11, "failAfter", "(LThreeBalls$Hand;II)I"⟩
abbrev cX11_firstOfWalk : ByteArray := prog_1_method_58_code
def yX11_firstOfWalk : MethodName := ⟨RX11, "firstOfWalk", "(LThreeBalls$Hand;II)I"⟩
abbrev cX11_triesWon : ByteArray := prog_1_method_59_code
def yX11_triesWon : MethodName := ⟨RX11, "triesWon", "()I"⟩
abbrev cX11_sheet : ByteArray := prog_1_method_60_code
def yX11_sheet : MethodName := ⟨RX11, "sheet", "(III)I"⟩
abbrev cX11_cell : ByteArray := prog_1_method_61_code
def yX11_cell : MethodName := ⟨RX11, "cell", "(III)I"⟩
abbrev cX11_copy : ByteArray := prog_1_method_62_code
def yX11_copy : MethodName := ⟨RX11, "copy", "(IIIII)I"⟩
abbrev cX11_tries : ByteArray := prog_1_method_63_code
def yX11_tries : MethodName := ⟨RX11, "tries", "(IIII)I"⟩
abbrev cX11_taken : ByteArray := prog_1_method_64_code
def yX11_taken : MethodName := ⟨RX11, "taken", "(II)I"⟩
abbrev cX11_isSheet : ByteArray := prog_1_method_65_code
def yX11_isSheet : MethodName := ⟨RX11, "isSheet", "(I)Z"⟩
abbrev cX11_ofSort : ByteArray := prog_1_method_66_code
def yX11_ofSort : MethodName := ⟨RX11, "ofSort", "(II)I"⟩
abbrev cX11_hasItems : ByteArray := prog_1_method_67_code
def yX11_hasItems : MethodName := ⟨RX11, "hasItems", "([III)Z"⟩
abbrev cX11_isUnder : ByteArray := prog_1_method_68_code
def yX11_isUnder : MethodName := ⟨RX11, "isUnder", "(LThreeBalls$Stall;I)Z"⟩
abbrev cX11_stallAt : ByteArray := prog_1_method_69_code
def yX11_stallAt : MethodName := ⟨RX11, "stallAt", "(I)LThreeBalls$Stall;"⟩
abbrev cX11_handAt : ByteArray := prog_1_method_70_code
def yX11_handAt : MethodName := ⟨RX11, "handAt", "(I)LThreeBalls$Hand;"⟩
abbrev cX11_isIn : ByteArray := prog_1_method_71_code
def yX11_isIn : MethodName := ⟨RX11, "isIn", "(III)Z"⟩
abbrev cX11_isPlace : ByteArray := prog_1_method_72_code
def yX11_isPlace : MethodName := ⟨RX11, "isPlace", "(I)Z"⟩
abbrev cX11_isSeed : ByteArray := prog_1_method_73_code
def yX11_isSeed : MethodName := ⟨RX11, "isSeed", "(I)Z"⟩
abbrev cX11_isBit : ByteArray := prog_1_method_74_code
def yX11_isBit : MethodName := ⟨RX11, "isBit", "(I)Z"⟩
abbrev cX11_isOf : ByteArray := prog_1_method_75_code
def yX11_isOf : MethodName := ⟨RX11, "isOf", "(II)Z"⟩
abbrev cX11_asBit : ByteArray := prog_1_method_76_code
def yX11_asBit : MethodName := ⟨RX11, "asBit", "(Z)I"⟩
abbrev cX11_quotient : ByteArray := prog_1_method_77_code
def yX11_quotient : MethodName := ⟨RX11, "quotient", "(JJ)J"⟩
abbrev cX11_remainder : ByteArray := prog_1_method_78_code
def yX11_remainder : MethodName := ⟨RX11, "remainder", "(JJ)J"⟩
abbrev cX11_lowest : ByteArray := prog_1_method_79_code
def yX11_lowest : MethodName := ⟨RX11, "lowest", "(JJI)J"⟩
abbrev cX11_commonDivisor : ByteArray := prog_1_method_80_code
def yX11_commonDivisor : MethodName := ⟨RX11, "commonDivisor", "(JJ)J"⟩
def RX12 : String := "ThreeBallsModel"
def TX12 : u_T := fun k => match k with
  | 0 => ("ThreeBallsModel", "thrown", "I", false)
  | 1 => ("ThreeBallsModel", "texts", "[I", true)
  | 2 => ("ThreeBallsModel", "textSize", "[I", true)
  | 3 => ("ThreeBallsModel", "textCount", "I", false)
  | 4 => ("ThreeBallsModel", "rule", "I", false)
  | 5 => ("ThreeBallsModel", "tape", "[I", true)
  | 6 => ("ThreeBallsModel", "taped", "I", false)
  | 7 => ("ThreeBallsModel", "kind", "[I", true)
  | 8 => ("ThreeBallsModel", "peg", "[I", true)
  | 9 => ("ThreeBallsModel", "sizeOf", "[I", true)
  | 10 => ("ThreeBallsModel", "price", "[I", true)
  | 11 => ("ThreeBallsModel", "bear", "[I", true)
  | 12 => ("ThreeBallsModel", "seems", "[I", true)
  | 13 => ("ThreeBallsModel", "isSet", "[I", true)
  | 14 => ("ThreeBallsModel", "stalls", "I", false)
  | 15 => ("ThreeBallsModel", "leanX", "[I", true)
  | 16 => ("ThreeBallsModel", "leanY", "[I", true)
  | 17 => ("ThreeBallsModel", "scatter", "[I", true)
  | 18 => ("ThreeBallsModel", "hands", "I", false)
  | 19 => ("ThreeBallsModel", "bestAim", "I", false)
  | 20 => ("ThreeBallsModel", "tryStall", "[I", true)
  | 21 => ("ThreeBallsModel", "tryHand", "[I", true)
  | 22 => ("ThreeBallsModel", "tryAim", "[I", true)
  | 23 => ("ThreeBallsModel", "tryWon", "[I", true)
  | 24 => ("ThreeBallsModel", "trySet", "[I", true)
  | 25 => ("ThreeBallsModel", "tryMany", "I", false)
  | 26 => ("ThreeBallsModel", "from", "I", false)
  | 27 => ("ThreeBallsModel", "size", "I", false)
  | 28 => ("ThreeBallsModel", "token", "I", false)
  | 29 => ("ThreeBallsModel", "tokenAt", "I", false)
  | 30 => ("ThreeBallsModel", "tokenWorth", "J", false)
  | 31 => ("ThreeBallsModel", "here", "I", false)
  | 32 => ("ThreeBallsModel", "open", "I", false)
  | 33 => ("ThreeBallsModel", "bad", "Z", false)
  | 34 => ("ThreeBallsModel", "fault", "I", false)
  | 35 => ("ThreeBallsModel", "about", "I", false)
  | 36 => ("ThreeBallsModel", "aboutOdds", "I", false)
  | 37 => ("ThreeBallsModel", "aboutWon", "I", false)
  | 38 => ("ThreeBallsModel", "aboutTries", "I", false)
  | 39 => ("ThreeBallsModel", "had", "I", false)
  | 40 => ("ThreeBallsModel", "won", "I", false)
  | 41 => ("ThreeBallsModel", "coinLeft", "I", false)
  | 42 => ("ThreeBallsModel", "testHours", "[I", true)
  | 43 => ("ThreeBallsModel", "answers", "[I", true)
  | 44 => ("ThreeBallsModel", "tests", "I", false)
  | 45 => ("ThreeBallsModel", "hoursAt", "[I", true)
  | 46 => ("ThreeBallsModel", "bestWins", "[I", true)
  | 47 => ("ThreeBallsModel", "failAt", "[I", true)
  | 48 => ("ThreeBallsModel", "image", "[I", true)
  | 49 => ("ThreeBallsModel", "hasImage", "Z", false)
  | 50 => ("ThreeBallsModel", "imageStalls", "I", false)
  | 51 => ("ThreeBallsModel", "imageRule", "I", false)
  | 52 => ("ThreeBallsModel", "imageTries", "I", false)
  | 53 => ("ThreeBallsModel", "isThere", "[Z", true)
  | 54 => ("ThreeBallsModel", "sorts", "[I", true)
  | 55 => ("ThreeBallsModel", "sheetSize", "[I", true)
  | _ => ("ThreeBallsModel", "items", "[I", true)
def tyX12 : Nat → FieldType := fun k => match k with
  | 0 => .int
  | 1 => .array .int
  | 2 => .array .int
  | 3 => .int
  | 4 => .int
  | 5 => .array .int
  | 6 => .int
  | 7 => .array .int
  | 8 => .array .int
  | 9 => .array .int
  | 10 => .array .int
  | 11 => .array .int
  | 12 => .array .int
  | 13 => .array .int
  | 14 => .int
  | 15 => .array .int
  | 16 => .array .int
  | 17 => .array .int
  | 18 => .int
  | 19 => .int
  | 20 => .array .int
  | 21 => .array .int
  | 22 => .array .int
  | 23 => .array .int
  | 24 => .array .int
  | 25 => .int
  | 26 => .int
  | 27 => .int
  | 28 => .int
  | 29 => .int
  | 30 => .long
  | 31 => .int
  | 32 => .int
  | 33 => .boolean
  | 34 => .int
  | 35 => .int
  | 36 => .int
  | 37 => .int
  | 38 => .int
  | 39 => .int
  | 40 => .int
  | 41 => .int
  | 42 => .array .int
  | 43 => .array .int
  | 44 => .int
  | 45 => .array .int
  | 46 => .array .int
  | 47 => .array .int
  | 48 => .array .int
  | 49 => .boolean
  | 50 => .int
  | 51 => .int
  | 52 => .int
  | 53 => .array .boolean
  | 54 => .array .int
  | 55 => .array .int
  | _ => .array .int
theorem nmX12 : ∀ a, a < 57 → ∀ b, b < 57 → a ≠ b → (TX12 a).2.1 ≠ (TX12 b).2.1 := by decide +kernel
theorem tyX12_ok : ∀ k, k < 57 → parseFieldDescriptor (TX12 k).2.2.1 = some (tyX12 k) := by decide +kernel
abbrev cX12_in : ByteArray := prog_14_method_2_code
def yX12_in : MethodName := ⟨RX12, "in", "(JJJ)Z"⟩
abbrev cX12_init : ByteArray := prog_14_method_3_code
def yX12_init : MethodName := ⟨RX12, "<init>", "()V"⟩
abbrev cX12_spell : ByteArray := prog_14_method_4_code
def yX12_spell : MethodName := ⟨RX12, "spell", "(IJ)V"⟩
abbrev cX12_isStall : ByteArray := prog_14_method_5_code
def yX12_isStall : MethodName := ⟨RX12, "isStall", "(I)Z"⟩
abbrev cX12_isHand : ByteArray := prog_14_method_6_code
def yX12_isHand : MethodName := ⟨RX12, "isHand", "(I)Z"⟩
abbrev cX12_isPlace : ByteArray := prog_14_method_7_code
def yX12_isPlace : MethodName := ⟨RX12, "isPlace", "(I)Z"⟩
abbrev cX12_stall : ByteArray := prog_14_method_8_code
def yX12_stall : MethodName := ⟨RX12, "stall", "(IIII)I"⟩
abbrev cX12_set : ByteArray := prog_14_method_9_code
def yX12_set : MethodName := ⟨RX12, "set", "(III)I"⟩
abbrev cX12_seenOf : ByteArray := prog_14_method_10_code
def yX12_seenOf : MethodName := ⟨RX12, "seenOf", "(I)I"⟩
abbrev cX12_hoursOf : ByteArray := prog_14_method_11_code
def yX12_hoursOf : MethodName := ⟨RX12, "hoursOf", "(I)I"⟩
abbrev cX12_told : ByteArray := prog_14_method_12_code
def yX12_told : MethodName := ⟨RX12, "told", "(II)I"⟩
abbrev cX12_plain : ByteArray := prog_14_method_13_code
def yX12_plain : MethodName := ⟨RX12, "plain", "(I)I"⟩
abbrev cX12_isIn : ByteArray := prog_14_method_14_code
def yX12_isIn : MethodName := ⟨RX12, "isIn", "(III)Z"⟩
abbrev cX12_isWon : ByteArray := prog_14_method_15_code
def yX12_isWon : MethodName := ⟨RX12, "isWon", "(IIIII)Z"⟩
abbrev cX12_wins : ByteArray := prog_14_method_16_code
def yX12_wins : MethodName := ⟨RX12, "wins", "(III)I"⟩
abbrev cX12_hand : ByteArray := prog_14_method_17_code
def yX12_hand : MethodName := ⟨RX12, "hand", "(III)I"⟩
abbrev cX12_allOf : ByteArray := prog_14_method_18_code
def yX12_allOf : MethodName := ⟨RX12, "allOf", "(I)I"⟩
abbrev cX12_winsOf : ByteArray := prog_14_method_19_code
def yX12_winsOf : MethodName := ⟨RX12, "winsOf", "(IIIIII)I"⟩
abbrev cX12_winsAt : ByteArray := prog_14_method_20_code
def yX12_winsAt : MethodName := ⟨RX12, "winsAt", "(III)I"⟩
abbrev cX12_common : ByteArray := prog_14_method_21_code
def yX12_common : MethodName := ⟨RX12, "common", "(JJ)J"⟩
abbrev cX12_lowest : ByteArray := prog_14_method_22_code
def yX12_lowest : MethodName := ⟨RX12, "lowest", "(JJI)J"⟩
abbrev cX12_isPart : ByteArray := prog_14_method_23_code
def yX12_isPart : MethodName := ⟨RX12, "isPart", "(I)Z"⟩
abbrev cX12_odds : ByteArray := prog_14_method_24_code
def yX12_odds : MethodName := ⟨RX12, "odds", "(IIII)J"⟩
abbrev cX12_bestOf : ByteArray := prog_14_method_25_code
def yX12_bestOf : MethodName := ⟨RX12, "bestOf", "(IIIII)I"⟩
abbrev cX12_bestAt : ByteArray := prog_14_method_26_code
def yX12_bestAt : MethodName := ⟨RX12, "bestAt", "(II)I"⟩
abbrev cX12_best : ByteArray := prog_14_method_27_code
def yX12_best : MethodName := ⟨RX12, "best", "(III)J"⟩
abbrev cX12_lotOf : ByteArray := prog_14_method_28_code
def yX12_lotOf : MethodName := ⟨RX12, "lotOf", "(J)J"⟩
abbrev cX12_wonBy : ByteArray := prog_14_method_29_code
def yX12_wonBy : MethodName := ⟨RX12, "wonBy", "(IIIJ)I"⟩
abbrev cX12_keeps : ByteArray := prog_14_method_30_code
def yX12_keeps : MethodName := ⟨RX12, "keeps", "(IIII)I"⟩
abbrev cX12_tried : ByteArray := prog_14_method_31_code
def yX12_tried : MethodName := ⟨RX12, "tried", "(IIII)I"⟩
abbrev cX12_shown : ByteArray := prog_14_method_32_code
def yX12_shown : MethodName := ⟨RX12, "shown", "(IIII)I"⟩
abbrev cX12_tryTold : ByteArray := prog_14_method_33_code
def yX12_tryTold : MethodName := ⟨RX12, "tryTold", "(II)I"⟩
abbrev cX12_setAll : ByteArray := prog_14_method_34_code
def yX12_setAll : MethodName := ⟨RX12, "setAll", "(III)J"⟩
abbrev cX12_worth : ByteArray := prog_14_method_35_code
def yX12_worth : MethodName := ⟨RX12, "worth", "(IIIII)J"⟩
abbrev cX12_leaves : ByteArray := prog_14_method_36_code
def yX12_leaves : MethodName := ⟨RX12, "leaves", "(II)J"⟩
abbrev cX12_feed : ByteArray := prog_14_method_37_code
def yX12_feed : MethodName := ⟨RX12, "feed", "(IJ)I"⟩
abbrev cX12_byteAt : ByteArray := prog_14_method_38_code
def yX12_byteAt : MethodName := ⟨RX12, "byteAt", "(I)I"⟩
abbrev cX12_next : ByteArray := prog_14_method_39_code
def yX12_next : MethodName := ⟨RX12, "next", "()V"⟩
abbrev cX12_fail : ByteArray := prog_14_method_40_code
def yX12_fail : MethodName := ⟨RX12, "fail", "()V"⟩
abbrev cX12_isWord : ByteArray := prog_14_method_41_code
def yX12_isWord : MethodName := ⟨RX12, "isWord", "(J)Z"⟩
abbrev cX12_isSign : ByteArray := prog_14_method_42_code
def yX12_isSign : MethodName := ⟨RX12, "isSign", "(I)Z"⟩
abbrev cX12_opens : ByteArray := prog_14_method_43_code
def yX12_opens : MethodName := ⟨RX12, "opens", "()Z"⟩
abbrev cX12_name : ByteArray := prog_14_method_44_code
def yX12_name : MethodName := ⟨RX12, "name", "()I"⟩
abbrev cX12_one : ByteArray := prog_14_method_45_code
def yX12_one : MethodName := ⟨RX12, "one", "()I"⟩
abbrev cX12_term : ByteArray := prog_14_method_46_code
def yX12_term : MethodName := ⟨RX12, "term", "()I"⟩
abbrev cX12_added : ByteArray := prog_14_method_47_code
def yX12_added : MethodName := ⟨RX12, "added", "()I"⟩
abbrev cX12_not : ByteArray := prog_14_method_48_code
def yX12_not : MethodName := ⟨RX12, "not", "()I"⟩
abbrev cX12_both : ByteArray := prog_14_method_49_code
def yX12_both : MethodName := ⟨RX12, "both", "()I"⟩
abbrev cX12_either : ByteArray := prog_14_method_50_code
def yX12_either : MethodName := ⟨RX12, "either", "()I"⟩
abbrev cX12_part : ByteArray := prog_14_method_51_code
def yX12_part : MethodName := ⟨RX12, "part", "(J)I"⟩
abbrev cX12_read : ByteArray := prog_14_method_52_code
def yX12_read : MethodName := ⟨RX12, "read", "(IIIIII)I"⟩
abbrev cX12_text : ByteArray := prog_14_method_53_code
def yX12_text : MethodName := ⟨RX12, "text", "()I"⟩
abbrev cX12_force : ByteArray := prog_14_method_54_code
def yX12_force : MethodName := ⟨RX12, "force", "(I)I"⟩
abbrev cX12_thousandths : ByteArray := prog_14_method_55_code
def yX12_thousandths : MethodName := ⟨RX12, "thousandths", "(III)I"⟩
abbrev cX12_says : ByteArray := prog_14_method_56_code
def yX12_says : MethodName := ⟨RX12, "says", "(IIIII)J"⟩
abbrev cX12_plays : ByteArray := prog_14_method_57_code
def yX12_plays : MethodName := ⟨RX12, "plays", "(IIIIII)V"⟩
abbrev cX12_isPlayer : ByteArray := prog_14_method_58_code
def yX12_isPlayer : MethodName := ⟨RX12, "isPlayer", "(IIII)Z"⟩
abbrev cX12_player : ByteArray := prog_14_method_59_code
def yX12_player : MethodName := ⟨RX12, "player", "(IIIII)J"⟩
abbrev cX12_bitsOf : ByteArray := prog_14_method_60_code
def yX12_bitsOf : MethodName := ⟨RX12, "bitsOf", "(I)I"⟩
abbrev cX12_most : ByteArray := prog_14_method_61_code
def yX12_most : MethodName := ⟨RX12, "most", "(IIIII)I"⟩
abbrev cX12_test : ByteArray := prog_14_method_62_code
def yX12_test : MethodName := ⟨RX12, "test", "(II)I"⟩
abbrev cX12_isParted : ByteArray := prog_14_method_63_code
def yX12_isParted : MethodName := ⟨RX12, "isParted", "(III)Z"⟩
abbrev cX12_parts : ByteArray := prog_14_method_64_code
def yX12_parts : MethodName := ⟨RX12, "parts", "(II)Z"⟩
abbrev cX12_find : ByteArray := prog_14_method_65_code
def yX12_find : MethodName := ⟨RX12, "find", "(II)I"⟩
abbrev cX12_year : ByteArray := prog_14_method_66_code
def yX12_year : MethodName := ⟨RX12, "year", "(II)I"⟩
abbrev cX12_make : ByteArray := prog_14_method_67_code
def yX12_make : MethodName := ⟨RX12, "make", "(IIIII)I"⟩
abbrev cX12_fails : ByteArray := prog_14_method_68_code
def yX12_fails : MethodName := ⟨RX12, "fails", "(III)I"⟩
abbrev cX12_goes : ByteArray := prog_14_method_69_code
def yX12_goes : MethodName := ⟨RX12, "goes", "(III)I"⟩
abbrev cX12_walk : ByteArray := prog_14_method_70_code
def yX12_walk : MethodName := ⟨RX12, "walk", "(III)I"⟩
abbrev cX12_image : ByteArray := prog_14_method_71_code
def yX12_image : MethodName := ⟨RX12, "image", "()I"⟩
abbrev cX12_back : ByteArray := prog_14_method_72_code
def yX12_back : MethodName := ⟨RX12, "back", "()I"⟩
abbrev cX12_count : ByteArray := prog_14_method_73_code
def yX12_count : MethodName := ⟨RX12, "count", "(I)I"⟩
abbrev cX12_isSheet : ByteArray := prog_14_method_74_code
def yX12_isSheet : MethodName := ⟨RX12, "isSheet", "(I)Z"⟩
abbrev cX12_sheet : ByteArray := prog_14_method_75_code
def yX12_sheet : MethodName := ⟨RX12, "sheet", "(III)I"⟩
abbrev cX12_cell : ByteArray := prog_14_method_76_code
def yX12_cell : MethodName := ⟨RX12, "cell", "(III)I"⟩
abbrev cX12_copy : ByteArray := prog_14_method_77_code
def yX12_copy : MethodName := ⟨RX12, "copy", "(IIIII)I"⟩
abbrev cX12_tries : ByteArray := prog_14_method_78_code
def yX12_tries : MethodName := ⟨RX12, "tries", "(IIII)I"⟩
abbrev cX12_over : ByteArray := prog_14_method_79_code
def yX12_over : MethodName := ⟨RX12, "over", "(I)I"⟩
abbrev cX12_taken : ByteArray := prog_14_method_80_code
def yX12_taken : MethodName := ⟨RX12, "taken", "(II)I"⟩
def RJx145de : String := "java/io/Serializable"
def TJx145de : u_T := fun k => match k with
  | _ => ("", "", "", false)
def tyJx145de : Nat → FieldType := fun k => match k with
  | _ => .int
theorem nmJx145de : ∀ a, a < 0 → ∀ b, b < 0 → a ≠ b → (TJx145de a).2.1 ≠ (TJx145de b).2.1 := by decide +kernel
theorem tyJx145de_ok : ∀ k, k < 0 → parseFieldDescriptor (TJx145de k).2.2.1 = some (tyJx145de k) := by decide +kernel
def RJx9f9b0 : String := "java/lang/CharSequence"
def TJx9f9b0 : u_T := fun k => match k with
  | _ => ("", "", "", false)
def tyJx9f9b0 : Nat → FieldType := fun k => match k with
  | _ => .int
theorem nmJx9f9b0 : ∀ a, a < 0 → ∀ b, b < 0 → a ≠ b → (TJx9f9b0 a).2.1 ≠ (TJx9f9b0 b).2.1 := by decide +kernel
theorem tyJx9f9b0_ok : ∀ k, k < 0 → parseFieldDescriptor (TJx9f9b0 k).2.2.1 = some (tyJx9f9b0 k) := by decide +kernel
def RJx8e188 : String := "java/lang/Cloneable"
def TJx8e188 : u_T := fun k => match k with
  | _ => ("", "", "", false)
def tyJx8e188 : Nat → FieldType := fun k => match k with
  | _ => .int
theorem nmJx8e188 : ∀ a, a < 0 → ∀ b, b < 0 → a ≠ b → (TJx8e188 a).2.1 ≠ (TJx8e188 b).2.1 := by decide +kernel
theorem tyJx8e188_ok : ∀ k, k < 0 → parseFieldDescriptor (TJx8e188 k).2.2.1 = some (tyJx8e188 k) := by decide +kernel
def RJxb160c : String := "java/lang/Comparable"
def TJxb160c : u_T := fun k => match k with
  | _ => ("", "", "", false)
def tyJxb160c : Nat → FieldType := fun k => match k with
  | _ => .int
theorem nmJxb160c : ∀ a, a < 0 → ∀ b, b < 0 → a ≠ b → (TJxb160c a).2.1 ≠ (TJxb160c b).2.1 := by decide +kernel
theorem tyJxb160c_ok : ∀ k, k < 0 → parseFieldDescriptor (TJxb160c k).2.2.1 = some (tyJxb160c k) := by decide +kernel
def RJ6 : String := "java/lang/Integer"
def TJ6 : u_T := fun k => match k with
  | _ => ("", "", "", false)
def tyJ6 : Nat → FieldType := fun k => match k with
  | _ => .int
theorem nmJ6 : ∀ a, a < 0 → ∀ b, b < 0 → a ≠ b → (TJ6 a).2.1 ≠ (TJ6 b).2.1 := by decide +kernel
theorem tyJ6_ok : ∀ k, k < 0 → parseFieldDescriptor (TJ6 k).2.2.1 = some (tyJ6 k) := by decide +kernel
abbrev cJ6_bitCount_0f7a4 : ByteArray := prog_19_method_49_code
def yJ6_bitCount_0f7a4 : MethodName := ⟨RJ6, "bitCount", "(I)I"⟩
def RJxab1ab : String := "java/lang/Iterable"
def TJxab1ab : u_T := fun k => match k with
  | _ => ("", "", "", false)
def tyJxab1ab : Nat → FieldType := fun k => match k with
  | _ => .int
theorem nmJxab1ab : ∀ a, a < 0 → ∀ b, b < 0 → a ≠ b → (TJxab1ab a).2.1 ≠ (TJxab1ab b).2.1 := by decide +kernel
theorem tyJxab1ab_ok : ∀ k, k < 0 → parseFieldDescriptor (TJxab1ab k).2.2.1 = some (tyJxab1ab k) := by decide +kernel
def RJ9 : String := "java/lang/Math"
def TJ9 : u_T := fun k => match k with
  | _ => ("", "", "", false)
def tyJ9 : Nat → FieldType := fun k => match k with
  | _ => .int
theorem nmJ9 : ∀ a, a < 0 → ∀ b, b < 0 → a ≠ b → (TJ9 a).2.1 ≠ (TJ9 b).2.1 := by decide +kernel
theorem tyJ9_ok : ∀ k, k < 0 → parseFieldDescriptor (TJ9 k).2.2.1 = some (tyJ9 k) := by decide +kernel
abbrev cJ9_abs_067f4 : ByteArray := prog_21_method_61_code
def yJ9_abs_067f4 : MethodName := ⟨RJ9, "abs", "(J)J"⟩
abbrev cJ9_max_7cf53 : ByteArray := prog_21_method_65_code
def yJ9_max_7cf53 : MethodName := ⟨RJ9, "max", "(II)I"⟩
abbrev cJ9_min_7cf53 : ByteArray := prog_21_method_69_code
def yJ9_min_7cf53 : MethodName := ⟨RJ9, "min", "(II)I"⟩
def RJ0 : String := "java/lang/String"
def TJ0 : u_T := fun k => match k with
  | _ => ("", "", "", false)
def tyJ0 : Nat → FieldType := fun k => match k with
  | _ => .int
theorem nmJ0 : ∀ a, a < 0 → ∀ b, b < 0 → a ≠ b → (TJ0 a).2.1 ≠ (TJ0 b).2.1 := by decide +kernel
theorem tyJ0_ok : ∀ k, k < 0 → parseFieldDescriptor (TJ0 k).2.2.1 = some (tyJ0 k) := by decide +kernel
abbrev cJ0_length_8abf5 : ByteArray := prog_22_method_54_code
def yJ0_length_8abf5 : MethodName := ⟨RJ0, "length", "()I"⟩
abbrev cJ0_charAt_5068e : ByteArray := prog_22_method_56_code
def yJ0_charAt_5068e : MethodName := ⟨RJ0, "charAt", "(I)C"⟩
abbrev cJ0_coder_7d493 : ByteArray := prog_22_method_152_code
def yJ0_coder_7d493 : MethodName := ⟨RJ0, "coder", "()B"⟩
abbrev cJ0_isLatin1_aae02 : ByteArray := prog_22_method_154_code
def yJ0_isLatin1_aae02 : MethodName := ⟨RJ0, "isLatin1", "()Z"⟩
abbrev cJ0_checkIndex_df160 : ByteArray := prog_22_method_155_code
def yJ0_checkIndex_df160 : MethodName := ⟨RJ0, "checkIndex", "(II)V"⟩
def RJ1 : String := "java/lang/StringLatin1"
def TJ1 : u_T := fun k => match k with
  | _ => ("", "", "", false)
def tyJ1 : Nat → FieldType := fun k => match k with
  | _ => .int
theorem nmJ1 : ∀ a, a < 0 → ∀ b, b < 0 → a ≠ b → (TJ1 a).2.1 ≠ (TJ1 b).2.1 := by decide +kernel
theorem tyJ1_ok : ∀ k, k < 0 → parseFieldDescriptor (TJ1 k).2.2.1 = some (tyJ1 k) := by decide +kernel
abbrev cJ1_charAt_3b067 : ByteArray := prog_23_method_2_code
def yJ1_charAt_3b067 : MethodName := ⟨RJ1, "charAt", "([BI)C"⟩
def RJ2 : String := "java/lang/StringUTF16"
def TJ2 : u_T := fun k => match k with
  | _ => ("", "", "", false)
def tyJ2 : Nat → FieldType := fun k => match k with
  | _ => .int
theorem nmJ2 : ∀ a, a < 0 → ∀ b, b < 0 → a ≠ b → (TJ2 a).2.1 ≠ (TJ2 b).2.1 := by decide +kernel
theorem tyJ2_ok : ∀ k, k < 0 → parseFieldDescriptor (TJ2 k).2.2.1 = some (tyJ2 k) := by decide +kernel
abbrev cJ2_getChar_3b067 : ByteArray := prog_24_method_5_code
def yJ2_getChar_3b067 : MethodName := ⟨RJ2, "getChar", "([BI)C"⟩
abbrev cJ2_length_9d52b : ByteArray := prog_24_method_6_code
def yJ2_length_9d52b : MethodName := ⟨RJ2, "length", "([B)I"⟩
abbrev cJ2_charAt_3b067 : ByteArray := prog_24_method_83_code
def yJ2_charAt_3b067 : MethodName := ⟨RJ2, "charAt", "([BI)C"⟩
abbrev cJ2_checkIndex_2214a : ByteArray := prog_24_method_91_code
def yJ2_checkIndex_2214a : MethodName := ⟨RJ2, "checkIndex", "(I[B)V"⟩
def RJ10 : String := "java/lang/System"
def TJ10 : u_T := fun k => match k with
  | _ => ("", "", "", false)
def tyJ10 : Nat → FieldType := fun k => match k with
  | _ => .int
theorem nmJ10 : ∀ a, a < 0 → ∀ b, b < 0 → a ≠ b → (TJ10 a).2.1 ≠ (TJ10 b).2.1 := by decide +kernel
theorem tyJ10_ok : ∀ k, k < 0 → parseFieldDescriptor (TJ10 k).2.2.1 = some (tyJ10 k) := by decide +kernel
def RJxfd54e : String := "java/lang/constant/Constable"
def TJxfd54e : u_T := fun k => match k with
  | _ => ("", "", "", false)
def tyJxfd54e : Nat → FieldType := fun k => match k with
  | _ => .int
theorem nmJxfd54e : ∀ a, a < 0 → ∀ b, b < 0 → a ≠ b → (TJxfd54e a).2.1 ≠ (TJxfd54e b).2.1 := by decide +kernel
theorem tyJxfd54e_ok : ∀ k, k < 0 → parseFieldDescriptor (TJxfd54e k).2.2.1 = some (tyJxfd54e k) := by decide +kernel
def RJx3cf43 : String := "java/lang/constant/ConstantDesc"
def TJx3cf43 : u_T := fun k => match k with
  | _ => ("", "", "", false)
def tyJx3cf43 : Nat → FieldType := fun k => match k with
  | _ => .int
theorem nmJx3cf43 : ∀ a, a < 0 → ∀ b, b < 0 → a ≠ b → (TJx3cf43 a).2.1 ≠ (TJx3cf43 b).2.1 := by decide +kernel
theorem tyJx3cf43_ok : ∀ k, k < 0 → parseFieldDescriptor (TJx3cf43 k).2.2.1 = some (tyJx3cf43 k) := by decide +kernel
def RJxa1e45 : String := "java/util/AbstractCollection"
def TJxa1e45 : u_T := fun k => match k with
  | _ => ("", "", "", false)
def tyJxa1e45 : Nat → FieldType := fun k => match k with
  | _ => .int
theorem nmJxa1e45 : ∀ a, a < 0 → ∀ b, b < 0 → a ≠ b → (TJxa1e45 a).2.1 ≠ (TJxa1e45 b).2.1 := by decide +kernel
theorem tyJxa1e45_ok : ∀ k, k < 0 → parseFieldDescriptor (TJxa1e45 k).2.2.1 = some (tyJxa1e45 k) := by decide +kernel
abbrev cJxa1e45_init_da8c8 : ByteArray := prog_28_method_1_code
def yJxa1e45_init_da8c8 : MethodName := ⟨RJxa1e45, "<init>", "()V"⟩
def RJxc12de : String := "java/util/AbstractList"
def TJxc12de : u_T := fun k => match k with
  | _ => ("", "", "", false)
def tyJxc12de : Nat → FieldType := fun k => match k with
  | _ => .int
theorem nmJxc12de : ∀ a, a < 0 → ∀ b, b < 0 → a ≠ b → (TJxc12de a).2.1 ≠ (TJxc12de b).2.1 := by decide +kernel
theorem tyJxc12de_ok : ∀ k, k < 0 → parseFieldDescriptor (TJxc12de k).2.2.1 = some (tyJxc12de k) := by decide +kernel
abbrev cJxc12de_init_da8c8 : ByteArray := prog_29_method_1_code
def yJxc12de_init_da8c8 : MethodName := ⟨RJxc12de, "<init>", "()V"⟩
def RJx4a65c : String := "java/util/ArrayList"
def TJx4a65c : u_T := fun k => match k with
  | 0 => ("java/util/AbstractList", "modCount", "I", false)
  | 1 => ("java/util/ArrayList", "elementData", "[Ljava/lang/Object;", false)
  | _ => ("java/util/ArrayList", "size", "I", false)
def tyJx4a65c : Nat → FieldType := fun k => match k with
  | 0 => .int
  | 1 => .array (.object "java/lang/Object")
  | _ => .int
theorem nmJx4a65c : ∀ a, a < 3 → ∀ b, b < 3 → a ≠ b → (TJx4a65c a).2.1 ≠ (TJx4a65c b).2.1 := by decide +kernel
theorem tyJx4a65c_ok : ∀ k, k < 3 → parseFieldDescriptor (TJx4a65c k).2.2.1 = some (tyJx4a65c k) := by decide +kernel
abbrev cJx4a65c_init_da8c8 : ByteArray := prog_30_method_2_code
def yJx4a65c_init_da8c8 : MethodName := ⟨RJx4a65c, "<init>", "()V"⟩
abbrev cJx4a65c_grow_92f84 : ByteArray := prog_30_method_6_code
def yJx4a65c_grow_92f84 : MethodName := ⟨RJx4a65c, "grow", "(I)[Ljava/lang/Object;"⟩
abbrev cJx4a65c_grow_d5877 : ByteArray := prog_30_method_7_code
def yJx4a65c_grow_d5877 : MethodName := ⟨RJx4a65c, "grow", "()[Ljava/lang/Object;"⟩
abbrev cJx4a65c_size_8abf5 : ByteArray := prog_30_method_8_code
def yJx4a65c_size_8abf5 : MethodName := ⟨RJx4a65c, "size", "()I"⟩
abbrev cJx4a65c_elementData_915e3 : ByteArray := prog_30_method_18_code
def yJx4a65c_elementData_915e3 : MethodName := ⟨RJx4a65c, "elementData", "(I)Ljava/lang/Object;"⟩
abbrev cJx4a65c_get_915e3 : ByteArray := prog_30_method_20_code
def yJx4a65c_get_915e3 : MethodName := ⟨RJx4a65c, "get", "(I)Ljava/lang/Object;"⟩
abbrev cJx4a65c_add_72be8 : ByteArray := prog_30_method_24_code
def yJx4a65c_add_72be8 : MethodName := ⟨RJx4a65c, "add", "(Ljava/lang/Object;[Ljava/lang/Object;I)V"⟩
abbrev cJx4a65c_add_9ea2d : ByteArray := prog_30_method_25_code
def yJx4a65c_add_9ea2d : MethodName := ⟨RJx4a65c, "add", "(Ljava/lang/Object;)Z"⟩
def RJ7 : String := "java/util/Arrays"
def TJ7 : u_T := fun k => match k with
  | _ => ("", "", "", false)
def tyJ7 : Nat → FieldType := fun k => match k with
  | _ => .int
theorem nmJ7 : ∀ a, a < 0 → ∀ b, b < 0 → a ≠ b → (TJ7 a).2.1 ≠ (TJ7 b).2.1 := by decide +kernel
theorem tyJ7_ok : ∀ k, k < 0 → parseFieldDescriptor (TJ7 k).2.2.1 = some (tyJ7 k) := by decide +kernel
abbrev cJ7_fill_d0a16 : ByteArray := prog_31_method_101_code
def yJ7_fill_d0a16 : MethodName := ⟨RJ7, "fill", "([JJ)V"⟩
abbrev cJ7_copyOf_1904c : ByteArray := prog_31_method_119_code
def yJ7_copyOf_1904c : MethodName := ⟨RJ7, "copyOf", "([Ljava/lang/Object;I)[Ljava/lang/Object;"⟩
abbrev cJ7_copyOf_6403c : ByteArray := prog_31_method_120_code
def yJ7_copyOf_6403c : MethodName := ⟨RJ7, "copyOf", "([Ljava/lang/Object;ILjava/lang/Class;)[Ljava/lang/Object;"⟩
abbrev cJ7_copyOf_59c91 : ByteArray := prog_31_method_123_code
def yJ7_copyOf_59c91 : MethodName := ⟨RJ7, "copyOf", "([II)[I"⟩
def RJx5ef63 : String := "java/util/Collection"
def TJx5ef63 : u_T := fun k => match k with
  | _ => ("", "", "", false)
def tyJx5ef63 : Nat → FieldType := fun k => match k with
  | _ => .int
theorem nmJx5ef63 : ∀ a, a < 0 → ∀ b, b < 0 → a ≠ b → (TJx5ef63 a).2.1 ≠ (TJx5ef63 b).2.1 := by decide +kernel
theorem tyJx5ef63_ok : ∀ k, k < 0 → parseFieldDescriptor (TJx5ef63 k).2.2.1 = some (tyJx5ef63 k) := by decide +kernel
def RJxbd725 : String := "java/util/List"
def TJxbd725 : u_T := fun k => match k with
  | _ => ("", "", "", false)
def tyJxbd725 : Nat → FieldType := fun k => match k with
  | _ => .int
theorem nmJxbd725 : ∀ a, a < 0 → ∀ b, b < 0 → a ≠ b → (TJxbd725 a).2.1 ≠ (TJxbd725 b).2.1 := by decide +kernel
theorem tyJxbd725_ok : ∀ k, k < 0 → parseFieldDescriptor (TJxbd725 k).2.2.1 = some (tyJxbd725 k) := by decide +kernel
def RJ15 : String := "java/util/Objects"
def TJ15 : u_T := fun k => match k with
  | _ => ("", "", "", false)
def tyJ15 : Nat → FieldType := fun k => match k with
  | _ => .int
theorem nmJ15 : ∀ a, a < 0 → ∀ b, b < 0 → a ≠ b → (TJ15 a).2.1 ≠ (TJ15 b).2.1 := by decide +kernel
theorem tyJ15_ok : ∀ k, k < 0 → parseFieldDescriptor (TJ15 k).2.2.1 = some (tyJ15 k) := by decide +kernel
abbrev cJ15_checkIndex_7cf53 : ByteArray := prog_34_method_17_code
def yJ15_checkIndex_7cf53 : MethodName := ⟨RJ15, "checkIndex", "(II)I"⟩
def RJxf0a74 : String := "java/util/RandomAccess"
def TJxf0a74 : u_T := fun k => match k with
  | _ => ("", "", "", false)
def tyJxf0a74 : Nat → FieldType := fun k => match k with
  | _ => .int
theorem nmJxf0a74 : ∀ a, a < 0 → ∀ b, b < 0 → a ≠ b → (TJxf0a74 a).2.1 ≠ (TJxf0a74 b).2.1 := by decide +kernel
theorem tyJxf0a74_ok : ∀ k, k < 0 → parseFieldDescriptor (TJxf0a74 k).2.2.1 = some (tyJxf0a74 k) := by decide +kernel
def RJxa66e6 : String := "java/util/SequencedCollection"
def TJxa66e6 : u_T := fun k => match k with
  | _ => ("", "", "", false)
def tyJxa66e6 : Nat → FieldType := fun k => match k with
  | _ => .int
theorem nmJxa66e6 : ∀ a, a < 0 → ∀ b, b < 0 → a ≠ b → (TJxa66e6 a).2.1 ≠ (TJxa66e6 b).2.1 := by decide +kernel
theorem tyJxa66e6_ok : ∀ k, k < 0 → parseFieldDescriptor (TJxa66e6 k).2.2.1 = some (tyJxa66e6 k) := by decide +kernel
def RJ8 : String := "jdk/internal/util/ArraysSupport"
def TJ8 : u_T := fun k => match k with
  | _ => ("", "", "", false)
def tyJ8 : Nat → FieldType := fun k => match k with
  | _ => .int
theorem nmJ8 : ∀ a, a < 0 → ∀ b, b < 0 → a ≠ b → (TJ8 a).2.1 ≠ (TJ8 b).2.1 := by decide +kernel
theorem tyJ8_ok : ∀ k, k < 0 → parseFieldDescriptor (TJ8 k).2.2.1 = some (tyJ8 k) := by decide +kernel
abbrev cJ8_newLength_cabcc : ByteArray := prog_37_method_27_code
def yJ8_newLength_cabcc : MethodName := ⟨RJ8, "newLength", "(III)I"⟩
abbrev cJ8_hugeLength_7cf53 : ByteArray := prog_37_method_28_code
def yJ8_hugeLength_7cf53 : MethodName := ⟨RJ8, "hugeLength", "(II)I"⟩
def RJ3 : String := "jdk/internal/util/Preconditions"
def TJ3 : u_T := fun k => match k with
  | _ => ("", "", "", false)
def tyJ3 : Nat → FieldType := fun k => match k with
  | _ => .int
theorem nmJ3 : ∀ a, a < 0 → ∀ b, b < 0 → a ≠ b → (TJ3 a).2.1 ≠ (TJ3 b).2.1 := by decide +kernel
theorem tyJ3_ok : ∀ k, k < 0 → parseFieldDescriptor (TJ3 k).2.2.1 = some (tyJ3 k) := by decide +kernel
abbrev cJ3_checkIndex_8e157 : ByteArray := prog_38_method_11_code
def yJ3_checkIndex_8e157 : MethodName := ⟨RJ3, "checkIndex", "(IILjava/util/function/BiFunction;)I"⟩
def RL : String := "ThreeBallsLaw"
abbrev cL_law : ByteArray := code
def yL_law : MethodName := ⟨RL, "law", "([I)Z"⟩
abbrev vwCl : List vw_C := [(RJx4a65c, TJx4a65c, 3), (RX0, TX0, 8), (RX1, TX1, 8), (RX2, TX2, 3), (RX3, TX3, 5), (RX4, TX4, 8), (RX5, TX5, 5), (RX6, TX6, 9), (RX7, TX7, 8), (RX8, TX8, 8), (RX9, TX9, 4), (RX10, TX10, 8), (RX11, TX11, 20), (RX12, TX12, 57)]
