/-! ===== BEGIN words of one list among another's, by their places ===== -/
theorem goodIn_r {big : List Cond} (ws : List Cond) (ps : List Nat) (hp : ws = ps.filterMap (fun i => big[i]?)) (h : ws.all goodWord = true) : GoodIn big ws := by
  intro w hw
  have h1 := List.all_eq_true.mp h w hw
  rw [hp] at hw
  obtain ⟨i, -, hi⟩ := List.mem_filterMap.mp hw
  have hm : w ∈ big := by first | exact List.mem_of_getElem? hi | exact List.getElem?_mem hi
  exact ⟨hm, good_of_word h1⟩
theorem goodIn_app {big a b : List Cond} (ha : GoodIn big a) (hb : GoodIn big b) : GoodIn big (a ++ b) := fun w h => (List.mem_append.mp h).elim (ha w) (hb w)
theorem goodIn_ca {big a b : List Cond} {c : Cond} (ha : GoodIn big (c :: a)) (hb : GoodIn big b) : GoodIn big (c :: (a ++ b)) := fun w h => (List.mem_cons.mp h).elim (fun e => ha w (List.mem_cons.mpr (Or.inl e))) (fun h => (List.mem_append.mp h).elim (fun h => ha w (List.mem_cons.mpr (Or.inr h))) (hb w))
theorem goodIn_sub {big ws : List Cond} (hm : ∀ w ∈ ws, w ∈ big) (h : ws.all goodWord = true) : GoodIn big ws := fun w hw => ⟨hm w hw, good_of_word (List.all_eq_true.mp h w hw)⟩
/-! ===== END ===== -/

/-! ===== BEGIN printed: names, fields, word lists, decode rows ===== -/
def RX0 : String := "LightYearsAreOwed$Bill"
def TX0 : u_T := fun k => match k with
  | 0 => ("LightYearsAreOwed$Bill", "clouds", "I", false)
  | 1 => ("LightYearsAreOwed$Bill", "rule", "LLightYearsAreOwed$Rule;", false)
  | 2 => ("LightYearsAreOwed$Bill", "kinds", "[I", true)
  | 3 => ("LightYearsAreOwed$Bill", "numbers", "[I", true)
  | 4 => ("LightYearsAreOwed$Bill", "years", "[I", true)
  | 5 => ("LightYearsAreOwed$Bill", "seen", "[I", true)
  | 6 => ("LightYearsAreOwed$Bill", "lightCount", "I", false)
  | 7 => ("LightYearsAreOwed$Bill", "names", "[I", true)
  | _ => ("LightYearsAreOwed$Bill", "stack", "[I", true)
def tyX0 : Nat → FieldType := fun k => match k with
  | 0 => .int
  | 1 => .object "LightYearsAreOwed$Rule"
  | 2 => .array .int
  | 3 => .array .int
  | 4 => .array .int
  | 5 => .array .int
  | 6 => .int
  | 7 => .array .int
  | _ => .array .int
abbrev wsX00 : List Cond := u_ws RX0 TX0 9
theorem nmX0 : ∀ a, a < 9 → ∀ b, b < 9 → a ≠ b → (TX0 a).2.1 ≠ (TX0 b).2.1 := by decide +kernel
theorem tyX0_ok : ∀ k, k < 9 → parseFieldDescriptor (TX0 k).2.2.1 = some (tyX0 k) := by decide +kernel
abbrev cX0_init : ByteArray := prog_2_method_1_code
def yX0_init : MethodName := ⟨RX0, "<init>", "(LLightYearsAreOwed$Rule;)V"⟩
abbrev cX0_open : ByteArray := prog_2_method_2_code
def yX0_open : MethodName := ⟨RX0, "open", "(LLightYearsAreOwed$Sky;ILLightYearsAreOwed$Rule;)V"⟩
abbrev cX0_keepNights : ByteArray := prog_2_method_3_code
def yX0_keepNights : MethodName := ⟨RX0, "keepNights", "(I)V"⟩
abbrev cX0_lightsSeen : ByteArray := prog_2_method_4_code
def yX0_lightsSeen : MethodName := ⟨RX0, "lightsSeen", "()I"⟩
abbrev cX0_nightsOf : ByteArray := prog_2_method_5_code
def yX0_nightsOf : MethodName := ⟨RX0, "nightsOf", "(I)I"⟩
abbrev cX0_sum : ByteArray := prog_2_method_6_code
def yX0_sum : MethodName := ⟨RX0, "sum", "()I"⟩
abbrev cX0_firstOtherwise : ByteArray := prog_2_method_7_code
def yX0_firstOtherwise : MethodName := ⟨RX0, "firstOtherwise", "(LLightYearsAreOwed$Row;I)I"⟩
abbrev cX0_owed : ByteArray := prog_2_method_8_code
def yX0_owed : MethodName := ⟨RX0, "owed", "(I)I"⟩
abbrev cX0_dueFor : ByteArray := prog_2_method_9_code
def yX0_dueFor : MethodName := ⟨RX0, "dueFor", "(II)I"⟩
abbrev cX0_giveNames : ByteArray := prog_2_method_10_code
def yX0_giveNames : MethodName := ⟨RX0, "giveNames", "(I)I"⟩
abbrev cX0_due : ByteArray := prog_2_method_11_code
def yX0_due : MethodName := ⟨RX0, "due", "(III)I"⟩
abbrev cX0_off : ByteArray := prog_2_method_12_code
def yX0_off : MethodName := ⟨RX0, "off", "(II)I"⟩
abbrev cX0_extra : ByteArray := prog_2_method_13_code
def yX0_extra : MethodName := ⟨RX0, "extra", "(III)I"⟩
abbrev cX0_bounded : ByteArray := prog_2_method_14_code
def yX0_bounded : MethodName := ⟨RX0, "bounded", "(II)I"⟩
def RX1 : String := "LightYearsAreOwed$Purse"
def TX1 : u_T := fun k => match k with
  | 0 => ("LightYearsAreOwed$Purse", "fewest", "I", false)
  | 1 => ("LightYearsAreOwed$Purse", "shortBy", "I", false)
  | _ => ("LightYearsAreOwed$Purse", "way", "[I", true)
def tyX1 : Nat → FieldType := fun k => match k with
  | 0 => .int
  | 1 => .int
  | _ => .array .int
abbrev wsX10 : List Cond := u_ws RX1 TX1 3
theorem nmX1 : ∀ a, a < 3 → ∀ b, b < 3 → a ≠ b → (TX1 a).2.1 ≠ (TX1 b).2.1 := by decide +kernel
theorem tyX1_ok : ∀ k, k < 3 → parseFieldDescriptor (TX1 k).2.2.1 = some (tyX1 k) := by decide +kernel
abbrev cX1_init : ByteArray := prog_3_method_1_code
def yX1_init : MethodName := ⟨RX1, "<init>", "()V"⟩
abbrev cX1_seek : ByteArray := prog_3_method_2_code
def yX1_seek : MethodName := ⟨RX1, "seek", "(I[I[I)V"⟩
abbrev cX1_keep : ByteArray := prog_3_method_3_code
def yX1_keep : MethodName := ⟨RX1, "keep", "(IIII)V"⟩
abbrev cX1_most : ByteArray := prog_3_method_4_code
def yX1_most : MethodName := ⟨RX1, "most", "(II[I[I)I"⟩
def RX2 : String := "LightYearsAreOwed$Reader"
def TX2 : u_T := fun k => match k with
  | 0 => ("LightYearsAreOwed$Reader", "size", "I", false)
  | 1 => ("LightYearsAreOwed$Reader", "tape", "[I", true)
  | 2 => ("LightYearsAreOwed$Reader", "rule", "LLightYearsAreOwed$Rule;", false)
  | 3 => ("LightYearsAreOwed$Reader", "fault", "I", false)
  | 4 => ("LightYearsAreOwed$Reader", "place", "I", false)
  | 5 => ("LightYearsAreOwed$Reader", "next", "I", false)
  | 6 => ("LightYearsAreOwed$Reader", "token", "I", false)
  | _ => ("LightYearsAreOwed$Reader", "value", "I", false)
def tyX2 : Nat → FieldType := fun k => match k with
  | 0 => .int
  | 1 => .array .int
  | 2 => .object "LightYearsAreOwed$Rule"
  | 3 => .int
  | 4 => .int
  | 5 => .int
  | 6 => .int
  | _ => .int
abbrev wsX20 : List Cond := u_ws RX2 TX2 8
theorem nmX2 : ∀ a, a < 8 → ∀ b, b < 8 → a ≠ b → (TX2 a).2.1 ≠ (TX2 b).2.1 := by decide +kernel
theorem tyX2_ok : ∀ k, k < 8 → parseFieldDescriptor (TX2 k).2.2.1 = some (tyX2 k) := by decide +kernel
abbrev cX2_init : ByteArray := prog_4_method_1_code
def yX2_init : MethodName := ⟨RX2, "<init>", "(LLightYearsAreOwed$Rule;)V"⟩
abbrev cX2_append : ByteArray := prog_4_method_2_code
def yX2_append : MethodName := ⟨RX2, "append", "(I)V"⟩
abbrev cX2_empty : ByteArray := prog_4_method_3_code
def yX2_empty : MethodName := ⟨RX2, "empty", "()V"⟩
abbrev cX2_read : ByteArray := prog_4_method_4_code
def yX2_read : MethodName := ⟨RX2, "read", "(LLightYearsAreOwed$Rule;)I"⟩
abbrev cX2_readEither : ByteArray := prog_4_method_5_code
def yX2_readEither : MethodName := ⟨RX2, "readEither", "(I)V"⟩
abbrev cX2_readBoth : ByteArray := prog_4_method_6_code
def yX2_readBoth : MethodName := ⟨RX2, "readBoth", "(I)V"⟩
abbrev cX2_readNot : ByteArray := prog_4_method_7_code
def yX2_readNot : MethodName := ⟨RX2, "readNot", "(I)V"⟩
abbrev cX2_readSum : ByteArray := prog_4_method_8_code
def yX2_readSum : MethodName := ⟨RX2, "readSum", "(I)V"⟩
abbrev cX2_readTerm : ByteArray := prog_4_method_9_code
def yX2_readTerm : MethodName := ⟨RX2, "readTerm", "(I)V"⟩
abbrev cX2_readOne : ByteArray := prog_4_method_10_code
def yX2_readOne : MethodName := ⟨RX2, "readOne", "(I)V"⟩
abbrev cX2_opens : ByteArray := prog_4_method_11_code
def yX2_opens : MethodName := ⟨RX2, "opens", "(I)Z"⟩
abbrev cX2_expect : ByteArray := prog_4_method_12_code
def yX2_expect : MethodName := ⟨RX2, "expect", "(I)V"⟩
abbrev cX2_fail : ByteArray := prog_4_method_13_code
def yX2_fail : MethodName := ⟨RX2, "fail", "()V"⟩
abbrev cX2_advance : ByteArray := prog_4_method_14_code
def yX2_advance : MethodName := ⟨RX2, "advance", "()V"⟩
abbrev cX2_readNumber : ByteArray := prog_4_method_15_code
def yX2_readNumber : MethodName := ⟨RX2, "readNumber", "()V"⟩
abbrev cX2_readWord : ByteArray := prog_4_method_16_code
def yX2_readWord : MethodName := ⟨RX2, "readWord", "()V"⟩
abbrev cX2_isWord : ByteArray := prog_4_method_17_code
def yX2_isWord : MethodName := ⟨RX2, "isWord", "(II)Z"⟩
abbrev cX2_byteAt : ByteArray := prog_4_method_18_code
def yX2_byteAt : MethodName := ⟨RX2, "byteAt", "(I)I"⟩
abbrev cX2_isLetter : ByteArray := prog_4_method_19_code
def yX2_isLetter : MethodName := ⟨RX2, "isLetter", "(I)Z"⟩
abbrev cX2_isDigit : ByteArray := prog_4_method_20_code
def yX2_isDigit : MethodName := ⟨RX2, "isDigit", "(I)Z"⟩
abbrev cX2_isSign : ByteArray := prog_4_method_21_code
def yX2_isSign : MethodName := ⟨RX2, "isSign", "(I)Z"⟩
def RX3 : String := "LightYearsAreOwed$Row"
def TX3 : u_T := fun k => match k with
  | 0 => ("LightYearsAreOwed$Row", "sort", "I", false)
  | 1 => ("LightYearsAreOwed$Row", "size", "I", false)
  | _ => ("LightYearsAreOwed$Row", "items", "[I", true)
def tyX3 : Nat → FieldType := fun k => match k with
  | 0 => .int
  | 1 => .int
  | _ => .array .int
abbrev wsX30 : List Cond := u_ws RX3 TX3 3
theorem nmX3 : ∀ a, a < 3 → ∀ b, b < 3 → a ≠ b → (TX3 a).2.1 ≠ (TX3 b).2.1 := by decide +kernel
theorem tyX3_ok : ∀ k, k < 3 → parseFieldDescriptor (TX3 k).2.2.1 = some (tyX3 k) := by decide +kernel
abbrev cX3_init : ByteArray := prog_5_method_1_code
def yX3_init : MethodName := ⟨RX3, "<init>", "()V"⟩
abbrev cX3_become : ByteArray := prog_5_method_2_code
def yX3_become : MethodName := ⟨RX3, "become", "(II)V"⟩
abbrev cX3_has : ByteArray := prog_5_method_3_code
def yX3_has : MethodName := ⟨RX3, "has", "(II)Z"⟩
abbrev cX3_item : ByteArray := prog_5_method_4_code
def yX3_item : MethodName := ⟨RX3, "item", "(I)I"⟩
abbrev cX3_put : ByteArray := prog_5_method_5_code
def yX3_put : MethodName := ⟨RX3, "put", "(II)V"⟩
def RX4 : String := "LightYearsAreOwed$Rule"
def TX4 : u_T := fun k => match k with
  | 0 => ("LightYearsAreOwed$Rule", "namesNight", "Z", false)
  | 1 => ("LightYearsAreOwed$Rule", "code", "[I", true)
  | 2 => ("LightYearsAreOwed$Rule", "ends", "[I", true)
  | _ => ("LightYearsAreOwed$Rule", "size", "I", false)
def tyX4 : Nat → FieldType := fun k => match k with
  | 0 => .boolean
  | 1 => .array .int
  | 2 => .array .int
  | _ => .int
abbrev wsX40 : List Cond := u_ws RX4 TX4 4
theorem nmX4 : ∀ a, a < 4 → ∀ b, b < 4 → a ≠ b → (TX4 a).2.1 ≠ (TX4 b).2.1 := by decide +kernel
theorem tyX4_ok : ∀ k, k < 4 → parseFieldDescriptor (TX4 k).2.2.1 = some (tyX4 k) := by decide +kernel
abbrev cX4_init : ByteArray := prog_6_method_1_code
def yX4_init : MethodName := ⟨RX4, "<init>", "()V"⟩
abbrev cX4_empty : ByteArray := prog_6_method_2_code
def yX4_empty : MethodName := ⟨RX4, "empty", "()V"⟩
abbrev cX4_add : ByteArray := prog_6_method_3_code
def yX4_add : MethodName := ⟨RX4, "add", "(I)V"⟩
abbrev cX4_addName : ByteArray := prog_6_method_4_code
def yX4_addName : MethodName := ⟨RX4, "addName", "(I)V"⟩
abbrev cX4_addSign : ByteArray := prog_6_method_5_code
def yX4_addSign : MethodName := ⟨RX4, "addSign", "(I)V"⟩
abbrev cX4_endPart : ByteArray := prog_6_method_6_code
def yX4_endPart : MethodName := ⟨RX4, "endPart", "(I)V"⟩
abbrev cX4_tell : ByteArray := prog_6_method_7_code
def yX4_tell : MethodName := ⟨RX4, "tell", "(I[I[I)I"⟩
abbrev cX4_joined : ByteArray := prog_6_method_8_code
def yX4_joined : MethodName := ⟨RX4, "joined", "(III)I"⟩
def RX5 : String := "LightYearsAreOwed$Sky"
def TX5 : u_T := fun k => match k with
  | 0 => ("LightYearsAreOwed$Sky", "clouds", "I", false)
  | 1 => ("LightYearsAreOwed$Sky", "rule", "I", false)
  | 2 => ("LightYearsAreOwed$Sky", "lightCount", "I", false)
  | 3 => ("LightYearsAreOwed$Sky", "kinds", "[I", true)
  | 4 => ("LightYearsAreOwed$Sky", "numbers", "[I", true)
  | 5 => ("LightYearsAreOwed$Sky", "years", "[I", true)
  | 6 => ("LightYearsAreOwed$Sky", "seen", "[I", true)
  | 7 => ("LightYearsAreOwed$Sky", "miles", "[I", true)
  | 8 => ("LightYearsAreOwed$Sky", "paid", "[I", true)
  | 9 => ("LightYearsAreOwed$Sky", "bright", "[I", true)
  | _ => ("LightYearsAreOwed$Sky", "many", "[I", true)
def tyX5 : Nat → FieldType := fun k => match k with
  | 0 => .int
  | 1 => .int
  | 2 => .int
  | 3 => .array .int
  | 4 => .array .int
  | 5 => .array .int
  | 6 => .array .int
  | 7 => .array .int
  | 8 => .array .int
  | 9 => .array .int
  | _ => .array .int
abbrev wsX50 : List Cond := u_ws RX5 TX5 11
theorem nmX5 : ∀ a, a < 11 → ∀ b, b < 11 → a ≠ b → (TX5 a).2.1 ≠ (TX5 b).2.1 := by decide +kernel
theorem tyX5_ok : ∀ k, k < 11 → parseFieldDescriptor (TX5 k).2.2.1 = some (tyX5 k) := by decide +kernel
abbrev cX5_init : ByteArray := prog_7_method_1_code
def yX5_init : MethodName := ⟨RX5, "<init>", "()V"⟩
abbrev cX5_become : ByteArray := prog_7_method_2_code
def yX5_become : MethodName := ⟨RX5, "become", "(LLightYearsAreOwed$Sky;)V"⟩
abbrev cX5_addLight : ByteArray := prog_7_method_3_code
def yX5_addLight : MethodName := ⟨RX5, "addLight", "(III)I"⟩
abbrev cX5_pieceCount : ByteArray := prog_7_method_4_code
def yX5_pieceCount : MethodName := ⟨RX5, "pieceCount", "()I"⟩
abbrev cX5_worth : ByteArray := prog_7_method_5_code
def yX5_worth : MethodName := ⟨RX5, "worth", "()I"⟩
def RX6 : String := "LightYearsAreOwed"
def TX6 : u_T := fun k => match k with
  | 0 => ("LightYearsAreOwed", "sky", "LLightYearsAreOwed$Sky;", true)
  | 1 => ("LightYearsAreOwed", "kept", "LLightYearsAreOwed$Sky;", true)
  | 2 => ("LightYearsAreOwed", "hasImage", "Z", false)
  | 3 => ("LightYearsAreOwed", "rules", "[LLightYearsAreOwed$Rule;", true)
  | 4 => ("LightYearsAreOwed", "ruleCount", "I", false)
  | 5 => ("LightYearsAreOwed", "reader", "LLightYearsAreOwed$Reader;", true)
  | 6 => ("LightYearsAreOwed", "bill", "LLightYearsAreOwed$Bill;", true)
  | 7 => ("LightYearsAreOwed", "purse", "LLightYearsAreOwed$Purse;", true)
  | _ => ("LightYearsAreOwed", "rows", "[LLightYearsAreOwed$Row;", true)
def tyX6 : Nat → FieldType := fun k => match k with
  | 0 => .object "LightYearsAreOwed$Sky"
  | 1 => .object "LightYearsAreOwed$Sky"
  | 2 => .boolean
  | 3 => .array (.object "LightYearsAreOwed$Rule")
  | 4 => .int
  | 5 => .object "LightYearsAreOwed$Reader"
  | 6 => .object "LightYearsAreOwed$Bill"
  | 7 => .object "LightYearsAreOwed$Purse"
  | _ => .array (.object "LightYearsAreOwed$Row")
abbrev wsX60 : List Cond := u_ws RX6 TX6 9
theorem nmX6 : ∀ a, a < 9 → ∀ b, b < 9 → a ≠ b → (TX6 a).2.1 ≠ (TX6 b).2.1 := by decide +kernel
theorem tyX6_ok : ∀ k, k < 9 → parseFieldDescriptor (TX6 k).2.2.1 = some (tyX6 k) := by decide +kernel
abbrev cX6_init : ByteArray := prog_1_method_1_code
def yX6_init : MethodName := ⟨RX6, "<init>", "()V"⟩
abbrev cX6_set : ByteArray := prog_1_method_2_code
def yX6_set : MethodName := ⟨RX6, "set", "(III)I"⟩
abbrev cX6_light : ByteArray := prog_1_method_3_code
def yX6_light : MethodName := ⟨RX6, "light", "(III)I"⟩
abbrev cX6_look : ByteArray := prog_1_method_4_code
def yX6_look : MethodName := ⟨RX6, "look", "(III)I"⟩
abbrev cX6_told : ByteArray := prog_1_method_5_code
def yX6_told : MethodName := ⟨RX6, "told", "(II)I"⟩
abbrev cX6_toldOfLooker : ByteArray := prog_1_method_6_code
def yX6_toldOfLooker : MethodName := ⟨RX6, "toldOfLooker", "(II)I"⟩
abbrev cX6_placesOf : ByteArray := prog_1_method_7_code
def yX6_placesOf : MethodName := ⟨RX6, "placesOf", "(I)[I"⟩
abbrev cX6_placeCount : ByteArray := prog_1_method_8_code
def yX6_placeCount : MethodName := ⟨RX6, "placeCount", "(I)I"⟩
abbrev cX6_feed : ByteArray := prog_1_method_9_code
def yX6_feed : MethodName := ⟨RX6, "feed", "(I)I"⟩
abbrev cX6_text : ByteArray := prog_1_method_10_code
def yX6_text : MethodName := ⟨RX6, "text", "()I"⟩
abbrev cX6_force : ByteArray := prog_1_method_11_code
def yX6_force : MethodName := ⟨RX6, "force", "(I)I"⟩
abbrev cX6_owes : ByteArray := prog_1_method_12_code
def yX6_owes : MethodName := ⟨RX6, "owes", "(III)I"⟩
abbrev cX6_all : ByteArray := prog_1_method_13_code
def yX6_all : MethodName := ⟨RX6, "all", "(I)I"⟩
abbrev cX6_pieces : ByteArray := prog_1_method_14_code
def yX6_pieces : MethodName := ⟨RX6, "pieces", "(II)I"⟩
abbrev cX6_pay : ByteArray := prog_1_method_15_code
def yX6_pay : MethodName := ⟨RX6, "pay", "(I)I"⟩
abbrev cX6_whoOwesMost : ByteArray := prog_1_method_16_code
def yX6_whoOwesMost : MethodName := ⟨RX6, "whoOwesMost", "()I"⟩
abbrev cX6_cheapest : ByteArray := prog_1_method_17_code
def yX6_cheapest : MethodName := ⟨RX6, "cheapest", "(III)I"⟩
abbrev cX6_leave : ByteArray := prog_1_method_18_code
def yX6_leave : MethodName := ⟨RX6, "leave", "(II)I"⟩
abbrev cX6_farm : ByteArray := prog_1_method_19_code
def yX6_farm : MethodName := ⟨RX6, "farm", "(II)I"⟩
abbrev cX6_walk : ByteArray := prog_1_method_20_code
def yX6_walk : MethodName := ⟨RX6, "walk", "(III)I"⟩
abbrev cX6_whoOwe : ByteArray := prog_1_method_21_code
def yX6_whoOwe : MethodName := ⟨RX6, "whoOwe", "(I)I"⟩
abbrev cX6_firstAt : ByteArray := prog_1_method_22_code
def yX6_firstAt : MethodName := ⟨RX6, "firstAt", "(II)I"⟩
abbrev cX6_tells : ByteArray := prog_1_method_23_code
def yX6_tells : MethodName := ⟨RX6, "tells", "(III)I"⟩
abbrev cX6_textsThatFit : ByteArray := prog_1_method_24_code
def yX6_textsThatFit : MethodName := ⟨RX6, "textsThatFit", "(LLightYearsAreOwed$Row;)I"⟩
abbrev cX6_cloudsThatFit : ByteArray := prog_1_method_25_code
def yX6_cloudsThatFit : MethodName := ⟨RX6, "cloudsThatFit", "(LLightYearsAreOwed$Row;)I"⟩
abbrev cX6_traitsThatFit : ByteArray := prog_1_method_26_code
def yX6_traitsThatFit : MethodName := ⟨RX6, "traitsThatFit", "(LLightYearsAreOwed$Row;II)I"⟩
abbrev cX6_film : ByteArray := prog_1_method_27_code
def yX6_film : MethodName := ⟨RX6, "film", "(II)I"⟩
abbrev cX6_drawn : ByteArray := prog_1_method_28_code
def yX6_drawn : MethodName := ⟨RX6, "drawn", "(I)I"⟩
abbrev cX6_chance : ByteArray := prog_1_method_29_code
def yX6_chance : MethodName := ⟨RX6, "chance", "(IIII)J"⟩
abbrev cX6_cloudsBy : ByteArray := prog_1_method_30_code
def yX6_cloudsBy : MethodName := ⟨RX6, "cloudsBy", "(I)I"⟩
abbrev cX6_lowest : ByteArray := prog_1_method_31_code
def yX6_lowest : MethodName := ⟨RX6, "lowest", "(II)I"⟩
abbrev cX6_image : ByteArray := prog_1_method_32_code
def yX6_image : MethodName := ⟨RX6, "image", "()I"⟩
abbrev cX6_back : ByteArray := prog_1_method_33_code
def yX6_back : MethodName := ⟨RX6, "back", "()I"⟩
abbrev cX6_count : ByteArray := prog_1_method_34_code
def yX6_count : MethodName := ⟨RX6, "count", "(I)I"⟩
abbrev cX6_sheet : ByteArray := prog_1_method_35_code
def yX6_sheet : MethodName := ⟨RX6, "sheet", "(III)I"⟩
abbrev cX6_cell : ByteArray := prog_1_method_36_code
def yX6_cell : MethodName := ⟨RX6, "cell", "(III)I"⟩
abbrev cX6_copy : ByteArray := prog_1_method_37_code
def yX6_copy : MethodName := ⟨RX6, "copy", "(IIIII)I"⟩
abbrev cX6_lights : ByteArray := prog_1_method_38_code
def yX6_lights : MethodName := ⟨RX6, "lights", "(IIII)I"⟩
abbrev cX6_taken : ByteArray := prog_1_method_39_code
def yX6_taken : MethodName := ⟨RX6, "taken", "(II)I"⟩
abbrev cX6_between : ByteArray := prog_1_method_40_code
def yX6_between : MethodName := ⟨RX6, "between", "(III)Z"⟩
abbrev cX6_isLooker : ByteArray := prog_1_method_41_code
def yX6_isLooker : MethodName := ⟨RX6, "isLooker", "(I)Z"⟩
abbrev cX6_isSheet : ByteArray := prog_1_method_42_code
def yX6_isSheet : MethodName := ⟨RX6, "isSheet", "(I)Z"⟩
abbrev cX6_isLight : ByteArray := prog_1_method_43_code
def yX6_isLight : MethodName := ⟨RX6, "isLight", "(I)Z"⟩
abbrev cX6_ruleOf : ByteArray := prog_1_method_44_code
def yX6_ruleOf : MethodName := ⟨RX6, "ruleOf", "(I)LLightYearsAreOwed$Rule;"⟩
abbrev cX6_openBill : ByteArray := prog_1_method_45_code
def yX6_openBill : MethodName := ⟨RX6, "openBill", "(I)V"⟩
abbrev cX6_allOf : ByteArray := prog_1_method_46_code
def yX6_allOf : MethodName := ⟨RX6, "allOf", "(II)I"⟩
abbrev cX6_allTogether : ByteArray := prog_1_method_47_code
def yX6_allTogether : MethodName := ⟨RX6, "allTogether", "(I)I"⟩
def RX7 : String := "LightYearsAreOwedModel"
def TX7 : u_T := fun k => match k with
  | 0 => ("LightYearsAreOwedModel", "thrown", "I", false)
  | 1 => ("LightYearsAreOwedModel", "texts", "[I", true)
  | 2 => ("LightYearsAreOwedModel", "textSize", "[I", true)
  | 3 => ("LightYearsAreOwedModel", "textCount", "I", false)
  | 4 => ("LightYearsAreOwedModel", "rule", "I", false)
  | 5 => ("LightYearsAreOwedModel", "tape", "[I", true)
  | 6 => ("LightYearsAreOwedModel", "taped", "I", false)
  | 7 => ("LightYearsAreOwedModel", "clouds", "I", false)
  | 8 => ("LightYearsAreOwedModel", "kinds", "[I", true)
  | 9 => ("LightYearsAreOwedModel", "numbers", "[I", true)
  | 10 => ("LightYearsAreOwedModel", "ages", "[I", true)
  | 11 => ("LightYearsAreOwedModel", "many", "I", false)
  | 12 => ("LightYearsAreOwedModel", "looked", "[I", true)
  | 13 => ("LightYearsAreOwedModel", "miles", "[I", true)
  | 14 => ("LightYearsAreOwedModel", "paid", "[I", true)
  | 15 => ("LightYearsAreOwedModel", "bright", "[I", true)
  | 16 => ("LightYearsAreOwedModel", "stock", "[I", true)
  | 17 => ("LightYearsAreOwedModel", "ofYears", "I", false)
  | 18 => ("LightYearsAreOwedModel", "ofNights", "I", false)
  | 19 => ("LightYearsAreOwedModel", "ofNumber", "I", false)
  | 20 => ("LightYearsAreOwedModel", "ofNight", "I", false)
  | 21 => ("LightYearsAreOwedModel", "ofCloudy", "I", false)
  | 22 => ("LightYearsAreOwedModel", "ofLights", "I", false)
  | 23 => ("LightYearsAreOwedModel", "from", "I", false)
  | 24 => ("LightYearsAreOwedModel", "size", "I", false)
  | 25 => ("LightYearsAreOwedModel", "here", "I", false)
  | 26 => ("LightYearsAreOwedModel", "token", "I", false)
  | 27 => ("LightYearsAreOwedModel", "tokenAt", "I", false)
  | 28 => ("LightYearsAreOwedModel", "tokenWorth", "J", false)
  | 29 => ("LightYearsAreOwedModel", "open", "I", false)
  | 30 => ("LightYearsAreOwedModel", "bad", "Z", false)
  | 31 => ("LightYearsAreOwedModel", "fault", "I", false)
  | 32 => ("LightYearsAreOwedModel", "fewest", "[I", true)
  | 33 => ("LightYearsAreOwedModel", "found1", "I", false)
  | 34 => ("LightYearsAreOwedModel", "value1", "I", false)
  | 35 => ("LightYearsAreOwedModel", "lookedWas", "[I", true)
  | 36 => ("LightYearsAreOwedModel", "numbersKept", "[I", true)
  | 37 => ("LightYearsAreOwedModel", "agesKept", "[I", true)
  | 38 => ("LightYearsAreOwedModel", "lookedKept", "[I", true)
  | 39 => ("LightYearsAreOwedModel", "milesKept", "[I", true)
  | 40 => ("LightYearsAreOwedModel", "paidKept", "[I", true)
  | 41 => ("LightYearsAreOwedModel", "brightKept", "[I", true)
  | 42 => ("LightYearsAreOwedModel", "stockKept", "[I", true)
  | 43 => ("LightYearsAreOwedModel", "manyKept", "I", false)
  | 44 => ("LightYearsAreOwedModel", "cloudsKept", "I", false)
  | 45 => ("LightYearsAreOwedModel", "ruleKept", "I", false)
  | 46 => ("LightYearsAreOwedModel", "isThere", "[Z", true)
  | 47 => ("LightYearsAreOwedModel", "sorts", "[I", true)
  | 48 => ("LightYearsAreOwedModel", "sheetSize", "[I", true)
  | _ => ("LightYearsAreOwedModel", "items", "[I", true)
def tyX7 : Nat → FieldType := fun k => match k with
  | 0 => .int
  | 1 => .array .int
  | 2 => .array .int
  | 3 => .int
  | 4 => .int
  | 5 => .array .int
  | 6 => .int
  | 7 => .int
  | 8 => .array .int
  | 9 => .array .int
  | 10 => .array .int
  | 11 => .int
  | 12 => .array .int
  | 13 => .array .int
  | 14 => .array .int
  | 15 => .array .int
  | 16 => .array .int
  | 17 => .int
  | 18 => .int
  | 19 => .int
  | 20 => .int
  | 21 => .int
  | 22 => .int
  | 23 => .int
  | 24 => .int
  | 25 => .int
  | 26 => .int
  | 27 => .int
  | 28 => .long
  | 29 => .int
  | 30 => .boolean
  | 31 => .int
  | 32 => .array .int
  | 33 => .int
  | 34 => .int
  | 35 => .array .int
  | 36 => .array .int
  | 37 => .array .int
  | 38 => .array .int
  | 39 => .array .int
  | 40 => .array .int
  | 41 => .array .int
  | 42 => .array .int
  | 43 => .int
  | 44 => .int
  | 45 => .int
  | 46 => .array .boolean
  | 47 => .array .int
  | 48 => .array .int
  | _ => .array .int
abbrev wsX70 : List Cond := u_ws RX7 TX7 50
theorem nmX7 : ∀ a, a < 50 → ∀ b, b < 50 → a ≠ b → (TX7 a).2.1 ≠ (TX7 b).2.1 := by decide +kernel
theorem tyX7_ok : ∀ k, k < 50 → parseFieldDescriptor (TX7 k).2.2.1 = some (tyX7 k) := by decide +kernel
abbrev cX7_in : ByteArray := prog_9_method_2_code
def yX7_in : MethodName := ⟨RX7, "in", "(JJJ)Z"⟩
abbrev cX7_within : ByteArray := prog_9_method_3_code
def yX7_within : MethodName := ⟨RX7, "within", "(III)I"⟩
abbrev cX7_apart : ByteArray := prog_9_method_4_code
def yX7_apart : MethodName := ⟨RX7, "apart", "(II)I"⟩
abbrev cX7_init : ByteArray := prog_9_method_5_code
def yX7_init : MethodName := ⟨RX7, "<init>", "()V"⟩
abbrev cX7_spell : ByteArray := prog_9_method_6_code
def yX7_spell : MethodName := ⟨RX7, "spell", "(IIIIIIIII)V"⟩
abbrev cX7_isLight : ByteArray := prog_9_method_7_code
def yX7_isLight : MethodName := ⟨RX7, "isLight", "(I)Z"⟩
abbrev cX7_isLooker : ByteArray := prog_9_method_8_code
def yX7_isLooker : MethodName := ⟨RX7, "isLooker", "(I)Z"⟩
abbrev cX7_isOf : ByteArray := prog_9_method_9_code
def yX7_isOf : MethodName := ⟨RX7, "isOf", "(II)Z"⟩
abbrev cX7_mostOf : ByteArray := prog_9_method_10_code
def yX7_mostOf : MethodName := ⟨RX7, "mostOf", "(I)I"⟩
abbrev cX7_set : ByteArray := prog_9_method_11_code
def yX7_set : MethodName := ⟨RX7, "set", "(III)I"⟩
abbrev cX7_lays : ByteArray := prog_9_method_12_code
def yX7_lays : MethodName := ⟨RX7, "lays", "(III)V"⟩
abbrev cX7_light : ByteArray := prog_9_method_13_code
def yX7_light : MethodName := ⟨RX7, "light", "(III)I"⟩
abbrev cX7_look : ByteArray := prog_9_method_14_code
def yX7_look : MethodName := ⟨RX7, "look", "(III)I"⟩
abbrev cX7_told : ByteArray := prog_9_method_15_code
def yX7_told : MethodName := ⟨RX7, "told", "(II)I"⟩
abbrev cX7_feed : ByteArray := prog_9_method_16_code
def yX7_feed : MethodName := ⟨RX7, "feed", "(I)I"⟩
abbrev cX7_byteAt : ByteArray := prog_9_method_17_code
def yX7_byteAt : MethodName := ⟨RX7, "byteAt", "(I)I"⟩
abbrev cX7_next : ByteArray := prog_9_method_18_code
def yX7_next : MethodName := ⟨RX7, "next", "()V"⟩
abbrev cX7_fail : ByteArray := prog_9_method_19_code
def yX7_fail : MethodName := ⟨RX7, "fail", "()V"⟩
abbrev cX7_isLetter : ByteArray := prog_9_method_20_code
def yX7_isLetter : MethodName := ⟨RX7, "isLetter", "(II)Z"⟩
abbrev cX7_isWord : ByteArray := prog_9_method_21_code
def yX7_isWord : MethodName := ⟨RX7, "isWord", "(IIIIIIII)Z"⟩
abbrev cX7_isSign : ByteArray := prog_9_method_22_code
def yX7_isSign : MethodName := ⟨RX7, "isSign", "(I)Z"⟩
abbrev cX7_opens : ByteArray := prog_9_method_23_code
def yX7_opens : MethodName := ⟨RX7, "opens", "()Z"⟩
abbrev cX7_name : ByteArray := prog_9_method_24_code
def yX7_name : MethodName := ⟨RX7, "name", "()I"⟩
abbrev cX7_atom5 : ByteArray := prog_9_method_25_code
def yX7_atom5 : MethodName := ⟨RX7, "atom5", "()I"⟩
abbrev cX7_term5 : ByteArray := prog_9_method_26_code
def yX7_term5 : MethodName := ⟨RX7, "term5", "()I"⟩
abbrev cX7_added5 : ByteArray := prog_9_method_27_code
def yX7_added5 : MethodName := ⟨RX7, "added5", "()I"⟩
abbrev cX7_not5 : ByteArray := prog_9_method_28_code
def yX7_not5 : MethodName := ⟨RX7, "not5", "()I"⟩
abbrev cX7_both5 : ByteArray := prog_9_method_29_code
def yX7_both5 : MethodName := ⟨RX7, "both5", "()I"⟩
abbrev cX7_either5 : ByteArray := prog_9_method_30_code
def yX7_either5 : MethodName := ⟨RX7, "either5", "()I"⟩
abbrev cX7_atom4 : ByteArray := prog_9_method_31_code
def yX7_atom4 : MethodName := ⟨RX7, "atom4", "()I"⟩
abbrev cX7_term4 : ByteArray := prog_9_method_32_code
def yX7_term4 : MethodName := ⟨RX7, "term4", "()I"⟩
abbrev cX7_added4 : ByteArray := prog_9_method_33_code
def yX7_added4 : MethodName := ⟨RX7, "added4", "()I"⟩
abbrev cX7_not4 : ByteArray := prog_9_method_34_code
def yX7_not4 : MethodName := ⟨RX7, "not4", "()I"⟩
abbrev cX7_both4 : ByteArray := prog_9_method_35_code
def yX7_both4 : MethodName := ⟨RX7, "both4", "()I"⟩
abbrev cX7_either4 : ByteArray := prog_9_method_36_code
def yX7_either4 : MethodName := ⟨RX7, "either4", "()I"⟩
abbrev cX7_atom3 : ByteArray := prog_9_method_37_code
def yX7_atom3 : MethodName := ⟨RX7, "atom3", "()I"⟩
abbrev cX7_term3 : ByteArray := prog_9_method_38_code
def yX7_term3 : MethodName := ⟨RX7, "term3", "()I"⟩
abbrev cX7_added3 : ByteArray := prog_9_method_39_code
def yX7_added3 : MethodName := ⟨RX7, "added3", "()I"⟩
abbrev cX7_not3 : ByteArray := prog_9_method_40_code
def yX7_not3 : MethodName := ⟨RX7, "not3", "()I"⟩
abbrev cX7_both3 : ByteArray := prog_9_method_41_code
def yX7_both3 : MethodName := ⟨RX7, "both3", "()I"⟩
abbrev cX7_either3 : ByteArray := prog_9_method_42_code
def yX7_either3 : MethodName := ⟨RX7, "either3", "()I"⟩
abbrev cX7_atom2 : ByteArray := prog_9_method_43_code
def yX7_atom2 : MethodName := ⟨RX7, "atom2", "()I"⟩
abbrev cX7_term2 : ByteArray := prog_9_method_44_code
def yX7_term2 : MethodName := ⟨RX7, "term2", "()I"⟩
abbrev cX7_added2 : ByteArray := prog_9_method_45_code
def yX7_added2 : MethodName := ⟨RX7, "added2", "()I"⟩
abbrev cX7_not2 : ByteArray := prog_9_method_46_code
def yX7_not2 : MethodName := ⟨RX7, "not2", "()I"⟩
abbrev cX7_both2 : ByteArray := prog_9_method_47_code
def yX7_both2 : MethodName := ⟨RX7, "both2", "()I"⟩
abbrev cX7_either2 : ByteArray := prog_9_method_48_code
def yX7_either2 : MethodName := ⟨RX7, "either2", "()I"⟩
abbrev cX7_atom1 : ByteArray := prog_9_method_49_code
def yX7_atom1 : MethodName := ⟨RX7, "atom1", "()I"⟩
abbrev cX7_term1 : ByteArray := prog_9_method_50_code
def yX7_term1 : MethodName := ⟨RX7, "term1", "()I"⟩
abbrev cX7_added1 : ByteArray := prog_9_method_51_code
def yX7_added1 : MethodName := ⟨RX7, "added1", "()I"⟩
abbrev cX7_not1 : ByteArray := prog_9_method_52_code
def yX7_not1 : MethodName := ⟨RX7, "not1", "()I"⟩
abbrev cX7_both1 : ByteArray := prog_9_method_53_code
def yX7_both1 : MethodName := ⟨RX7, "both1", "()I"⟩
abbrev cX7_either1 : ByteArray := prog_9_method_54_code
def yX7_either1 : MethodName := ⟨RX7, "either1", "()I"⟩
abbrev cX7_atom0 : ByteArray := prog_9_method_55_code
def yX7_atom0 : MethodName := ⟨RX7, "atom0", "()I"⟩
abbrev cX7_term0 : ByteArray := prog_9_method_56_code
def yX7_term0 : MethodName := ⟨RX7, "term0", "()I"⟩
abbrev cX7_added0 : ByteArray := prog_9_method_57_code
def yX7_added0 : MethodName := ⟨RX7, "added0", "()I"⟩
abbrev cX7_not0 : ByteArray := prog_9_method_58_code
def yX7_not0 : MethodName := ⟨RX7, "not0", "()I"⟩
abbrev cX7_both0 : ByteArray := prog_9_method_59_code
def yX7_both0 : MethodName := ⟨RX7, "both0", "()I"⟩
abbrev cX7_either0 : ByteArray := prog_9_method_60_code
def yX7_either0 : MethodName := ⟨RX7, "either0", "()I"⟩
abbrev cX7_part : ByteArray := prog_9_method_61_code
def yX7_part : MethodName := ⟨RX7, "part", "(Z)I"⟩
abbrev cX7_read : ByteArray := prog_9_method_62_code
def yX7_read : MethodName := ⟨RX7, "read", "(II)I"⟩
abbrev cX7_text : ByteArray := prog_9_method_63_code
def yX7_text : MethodName := ⟨RX7, "text", "()I"⟩
abbrev cX7_force : ByteArray := prog_9_method_64_code
def yX7_force : MethodName := ⟨RX7, "force", "(I)I"⟩
abbrev cX7_bitsOf : ByteArray := prog_9_method_65_code
def yX7_bitsOf : MethodName := ⟨RX7, "bitsOf", "(I)I"⟩
abbrev cX7_nightsOf : ByteArray := prog_9_method_66_code
def yX7_nightsOf : MethodName := ⟨RX7, "nightsOf", "(II)I"⟩
abbrev cX7_lightMany : ByteArray := prog_9_method_67_code
def yX7_lightMany : MethodName := ⟨RX7, "lightMany", "(I)I"⟩
abbrev cX7_asks : ByteArray := prog_9_method_68_code
def yX7_asks : MethodName := ⟨RX7, "asks", "(IIII)I"⟩
abbrev cX7_dueOf : ByteArray := prog_9_method_69_code
def yX7_dueOf : MethodName := ⟨RX7, "dueOf", "(III)I"⟩
abbrev cX7_offOf : ByteArray := prog_9_method_70_code
def yX7_offOf : MethodName := ⟨RX7, "offOf", "(II)I"⟩
abbrev cX7_extraOf : ByteArray := prog_9_method_71_code
def yX7_extraOf : MethodName := ⟨RX7, "extraOf", "(II)I"⟩
abbrev cX7_owesFor : ByteArray := prog_9_method_72_code
def yX7_owesFor : MethodName := ⟨RX7, "owesFor", "(II)I"⟩
abbrev cX7_owes : ByteArray := prog_9_method_73_code
def yX7_owes : MethodName := ⟨RX7, "owes", "(III)I"⟩
abbrev cX7_plainOf : ByteArray := prog_9_method_74_code
def yX7_plainOf : MethodName := ⟨RX7, "plainOf", "(I)I"⟩
abbrev cX7_allOf : ByteArray := prog_9_method_75_code
def yX7_allOf : MethodName := ⟨RX7, "allOf", "(I)I"⟩
abbrev cX7_allSum : ByteArray := prog_9_method_76_code
def yX7_allSum : MethodName := ⟨RX7, "allSum", "()I"⟩
abbrev cX7_all : ByteArray := prog_9_method_77_code
def yX7_all : MethodName := ⟨RX7, "all", "(I)I"⟩
abbrev cX7_sums : ByteArray := prog_9_method_78_code
def yX7_sums : MethodName := ⟨RX7, "sums", "()V"⟩
abbrev cX7_fewestFor : ByteArray := prog_9_method_79_code
def yX7_fewestFor : MethodName := ⟨RX7, "fewestFor", "(I)I"⟩
abbrev cX7_pieces : ByteArray := prog_9_method_80_code
def yX7_pieces : MethodName := ⟨RX7, "pieces", "(II)I"⟩
abbrev cX7_pay : ByteArray := prog_9_method_81_code
def yX7_pay : MethodName := ⟨RX7, "pay", "(I)I"⟩
abbrev cX7_cheapest : ByteArray := prog_9_method_82_code
def yX7_cheapest : MethodName := ⟨RX7, "cheapest", "(III)I"⟩
abbrev cX7_leave : ByteArray := prog_9_method_83_code
def yX7_leave : MethodName := ⟨RX7, "leave", "(II)I"⟩
abbrev cX7_farm : ByteArray := prog_9_method_84_code
def yX7_farm : MethodName := ⟨RX7, "farm", "(II)I"⟩
abbrev cX7_walk : ByteArray := prog_9_method_85_code
def yX7_walk : MethodName := ⟨RX7, "walk", "(III)I"⟩
abbrev cX7_firstOther : ByteArray := prog_9_method_86_code
def yX7_firstOther : MethodName := ⟨RX7, "firstOther", "(II)I"⟩
abbrev cX7_cloudsBy : ByteArray := prog_9_method_87_code
def yX7_cloudsBy : MethodName := ⟨RX7, "cloudsBy", "(II)I"⟩
abbrev cX7_tells : ByteArray := prog_9_method_88_code
def yX7_tells : MethodName := ⟨RX7, "tells", "(III)I"⟩
abbrev cX7_film : ByteArray := prog_9_method_89_code
def yX7_film : MethodName := ⟨RX7, "film", "(II)I"⟩
abbrev cX7_allBy : ByteArray := prog_9_method_90_code
def yX7_allBy : MethodName := ⟨RX7, "allBy", "(I)I"⟩
abbrev cX7_drawn : ByteArray := prog_9_method_91_code
def yX7_drawn : MethodName := ⟨RX7, "drawn", "(I)I"⟩
abbrev cX7_chance : ByteArray := prog_9_method_92_code
def yX7_chance : MethodName := ⟨RX7, "chance", "(IIII)J"⟩
abbrev cX7_image : ByteArray := prog_9_method_93_code
def yX7_image : MethodName := ⟨RX7, "image", "()I"⟩
abbrev cX7_back : ByteArray := prog_9_method_94_code
def yX7_back : MethodName := ⟨RX7, "back", "()I"⟩
abbrev cX7_count : ByteArray := prog_9_method_95_code
def yX7_count : MethodName := ⟨RX7, "count", "(I)I"⟩
abbrev cX7_isSheet : ByteArray := prog_9_method_96_code
def yX7_isSheet : MethodName := ⟨RX7, "isSheet", "(I)Z"⟩
abbrev cX7_sheet : ByteArray := prog_9_method_97_code
def yX7_sheet : MethodName := ⟨RX7, "sheet", "(III)I"⟩
abbrev cX7_cell : ByteArray := prog_9_method_98_code
def yX7_cell : MethodName := ⟨RX7, "cell", "(III)I"⟩
abbrev cX7_copy : ByteArray := prog_9_method_99_code
def yX7_copy : MethodName := ⟨RX7, "copy", "(IIIII)I"⟩
abbrev cX7_lights : ByteArray := prog_9_method_100_code
def yX7_lights : MethodName := ⟨RX7, "lights", "(IIII)I"⟩
abbrev cX7_over : ByteArray := prog_9_method_101_code
def yX7_over : MethodName := ⟨RX7, "over", "(I)I"⟩
abbrev cX7_taken : ByteArray := prog_9_method_102_code
def yX7_taken : MethodName := ⟨RX7, "taken", "(II)I"⟩
def RJ6 : String := "java/lang/Integer"
def TJ6 : u_T := fun k => match k with
  | _ => ("", "", "", false)
def tyJ6 : Nat → FieldType := fun k => match k with
  | _ => .int
abbrev wsJ60 : List Cond := u_ws RJ6 TJ6 0
theorem nmJ6 : ∀ a, a < 0 → ∀ b, b < 0 → a ≠ b → (TJ6 a).2.1 ≠ (TJ6 b).2.1 := by decide +kernel
theorem tyJ6_ok : ∀ k, k < 0 → parseFieldDescriptor (TJ6 k).2.2.1 = some (tyJ6 k) := by decide +kernel
abbrev cJ6_bitCount_0f7a4 : ByteArray := prog_10_method_49_code
def yJ6_bitCount_0f7a4 : MethodName := ⟨RJ6, "bitCount", "(I)I"⟩
def RJ9 : String := "java/lang/Math"
def TJ9 : u_T := fun k => match k with
  | _ => ("", "", "", false)
def tyJ9 : Nat → FieldType := fun k => match k with
  | _ => .int
abbrev wsJ90 : List Cond := u_ws RJ9 TJ9 0
theorem nmJ9 : ∀ a, a < 0 → ∀ b, b < 0 → a ≠ b → (TJ9 a).2.1 ≠ (TJ9 b).2.1 := by decide +kernel
theorem tyJ9_ok : ∀ k, k < 0 → parseFieldDescriptor (TJ9 k).2.2.1 = some (tyJ9 k) := by decide +kernel
abbrev cJ9_abs_0f7a4 : ByteArray := prog_11_method_59_code
def yJ9_abs_0f7a4 : MethodName := ⟨RJ9, "abs", "(I)I"⟩
abbrev cJ9_max_7cf53 : ByteArray := prog_11_method_65_code
def yJ9_max_7cf53 : MethodName := ⟨RJ9, "max", "(II)I"⟩
abbrev cJ9_min_7cf53 : ByteArray := prog_11_method_69_code
def yJ9_min_7cf53 : MethodName := ⟨RJ9, "min", "(II)I"⟩
def RJ0 : String := "java/lang/String"
def TJ0 : u_T := fun k => match k with
  | _ => ("", "", "", false)
def tyJ0 : Nat → FieldType := fun k => match k with
  | _ => .int
abbrev wsJ00 : List Cond := u_ws RJ0 TJ0 0
theorem nmJ0 : ∀ a, a < 0 → ∀ b, b < 0 → a ≠ b → (TJ0 a).2.1 ≠ (TJ0 b).2.1 := by decide +kernel
theorem tyJ0_ok : ∀ k, k < 0 → parseFieldDescriptor (TJ0 k).2.2.1 = some (tyJ0 k) := by decide +kernel
abbrev cJ0_length_8abf5 : ByteArray := prog_12_method_54_code
def yJ0_length_8abf5 : MethodName := ⟨RJ0, "length", "()I"⟩
abbrev cJ0_charAt_5068e : ByteArray := prog_12_method_56_code
def yJ0_charAt_5068e : MethodName := ⟨RJ0, "charAt", "(I)C"⟩
abbrev cJ0_coder_7d493 : ByteArray := prog_12_method_152_code
def yJ0_coder_7d493 : MethodName := ⟨RJ0, "coder", "()B"⟩
abbrev cJ0_isLatin1_aae02 : ByteArray := prog_12_method_154_code
def yJ0_isLatin1_aae02 : MethodName := ⟨RJ0, "isLatin1", "()Z"⟩
abbrev cJ0_checkIndex_df160 : ByteArray := prog_12_method_155_code
def yJ0_checkIndex_df160 : MethodName := ⟨RJ0, "checkIndex", "(II)V"⟩
def RJ1 : String := "java/lang/StringLatin1"
def TJ1 : u_T := fun k => match k with
  | _ => ("", "", "", false)
def tyJ1 : Nat → FieldType := fun k => match k with
  | _ => .int
abbrev wsJ10 : List Cond := u_ws RJ1 TJ1 0
theorem nmJ1 : ∀ a, a < 0 → ∀ b, b < 0 → a ≠ b → (TJ1 a).2.1 ≠ (TJ1 b).2.1 := by decide +kernel
theorem tyJ1_ok : ∀ k, k < 0 → parseFieldDescriptor (TJ1 k).2.2.1 = some (tyJ1 k) := by decide +kernel
abbrev cJ1_charAt_3b067 : ByteArray := prog_13_method_2_code
def yJ1_charAt_3b067 : MethodName := ⟨RJ1, "charAt", "([BI)C"⟩
def RJ2 : String := "java/lang/StringUTF16"
def TJ2 : u_T := fun k => match k with
  | _ => ("", "", "", false)
def tyJ2 : Nat → FieldType := fun k => match k with
  | _ => .int
abbrev wsJ20 : List Cond := u_ws RJ2 TJ2 0
theorem nmJ2 : ∀ a, a < 0 → ∀ b, b < 0 → a ≠ b → (TJ2 a).2.1 ≠ (TJ2 b).2.1 := by decide +kernel
theorem tyJ2_ok : ∀ k, k < 0 → parseFieldDescriptor (TJ2 k).2.2.1 = some (tyJ2 k) := by decide +kernel
abbrev cJ2_getChar_3b067 : ByteArray := prog_14_method_5_code
def yJ2_getChar_3b067 : MethodName := ⟨RJ2, "getChar", "([BI)C"⟩
abbrev cJ2_length_9d52b : ByteArray := prog_14_method_6_code
def yJ2_length_9d52b : MethodName := ⟨RJ2, "length", "([B)I"⟩
abbrev cJ2_charAt_3b067 : ByteArray := prog_14_method_83_code
def yJ2_charAt_3b067 : MethodName := ⟨RJ2, "charAt", "([BI)C"⟩
abbrev cJ2_checkIndex_2214a : ByteArray := prog_14_method_91_code
def yJ2_checkIndex_2214a : MethodName := ⟨RJ2, "checkIndex", "(I[B)V"⟩
def RJ10 : String := "java/lang/System"
def TJ10 : u_T := fun k => match k with
  | _ => ("", "", "", false)
def tyJ10 : Nat → FieldType := fun k => match k with
  | _ => .int
abbrev wsJ100 : List Cond := u_ws RJ10 TJ10 0
theorem nmJ10 : ∀ a, a < 0 → ∀ b, b < 0 → a ≠ b → (TJ10 a).2.1 ≠ (TJ10 b).2.1 := by decide +kernel
theorem tyJ10_ok : ∀ k, k < 0 → parseFieldDescriptor (TJ10 k).2.2.1 = some (tyJ10 k) := by decide +kernel
def RJ3 : String := "jdk/internal/util/Preconditions"
def TJ3 : u_T := fun k => match k with
  | _ => ("", "", "", false)
def tyJ3 : Nat → FieldType := fun k => match k with
  | _ => .int
abbrev wsJ30 : List Cond := u_ws RJ3 TJ3 0
theorem nmJ3 : ∀ a, a < 0 → ∀ b, b < 0 → a ≠ b → (TJ3 a).2.1 ≠ (TJ3 b).2.1 := by decide +kernel
theorem tyJ3_ok : ∀ k, k < 0 → parseFieldDescriptor (TJ3 k).2.2.1 = some (tyJ3 k) := by decide +kernel
abbrev cJ3_checkIndex_8e157 : ByteArray := prog_16_method_11_code
def yJ3_checkIndex_8e157 : MethodName := ⟨RJ3, "checkIndex", "(IILjava/util/function/BiFunction;)I"⟩
def RL : String := "LightYearsAreOwedLaw"
abbrev cL_law : ByteArray := code
def yL_law : MethodName := ⟨RL, "law", "([I)Z"⟩
def wsL_law_r1 : List Cond := [Cond.classLink RL 7 RX6, Cond.instantiable RX6 9, Cond.initialized RX6, Cond.classLink RL 10 RX7, Cond.instantiable RX7 50, Cond.initialized RX7, Cond.methodLink RL 9 yX6_init, Cond.instanceMethod yX6_init, Cond.code yX6_init cX6_init 2 none, Cond.methodLink RX6 1 objectInit, Cond.instanceMethod objectInit, Cond.code objectInit ⟨#[0xb1]⟩ 1 none, Cond.classLink RX6 7 RX5, Cond.instantiable RX5 11, Cond.initialized RX5, Cond.fieldLink RX6 10 "LightYearsAreOwed" "sky" "LLightYearsAreOwed$Sky;", Cond.fieldLink RX6 16 "LightYearsAreOwed" "kept" "LLightYearsAreOwed$Sky;", Cond.classLink RX6 19 RX4, Cond.fieldLink RX6 21 "LightYearsAreOwed" "rules" "[LLightYearsAreOwed$Rule;", Cond.classLink RX6 25 RX1, Cond.instantiable RX1 3, Cond.initialized RX1, Cond.fieldLink RX6 28 "LightYearsAreOwed" "purse" "LLightYearsAreOwed$Purse;", Cond.classLink RX6 32 RX3]
def wsL_law_r2 : List Cond := [Cond.fieldLink RX6 34 "LightYearsAreOwed" "rows" "[LLightYearsAreOwed$Row;", Cond.instantiable RX4 4, Cond.initialized RX4, Cond.instantiable RX3 3, Cond.initialized RX3, Cond.fieldLink RX6 40 "LightYearsAreOwed$Sky" "bright" "[I", Cond.classLink RX6 44 RX2, Cond.instantiable RX2 8, Cond.initialized RX2, Cond.fieldLink RX6 49 "LightYearsAreOwed" "reader" "LLightYearsAreOwed$Reader;", Cond.classLink RX6 53 RX0, Cond.instantiable RX0 9, Cond.initialized RX0, Cond.fieldLink RX6 56 "LightYearsAreOwed" "bill" "LLightYearsAreOwed$Bill;", Cond.fieldLink RX6 83 "LightYearsAreOwed" "ruleCount" "I", Cond.instanceMethod yX5_init, Cond.code yX5_init cX5_init 1 none, Cond.methodLink RX5 3 objectInit, Cond.arrayClass .int, Cond.fieldLink RX5 9 "LightYearsAreOwed$Sky" "kinds" "[I", Cond.fieldLink RX5 15 "LightYearsAreOwed$Sky" "numbers" "[I", Cond.fieldLink RX5 18 "LightYearsAreOwed$Sky" "years" "[I", Cond.fieldLink RX5 21 "LightYearsAreOwed$Sky" "seen" "[I", Cond.fieldLink RX5 24 "LightYearsAreOwed$Sky" "miles" "[I"]
def wsL_law_r3 : List Cond := [Cond.fieldLink RX5 27 "LightYearsAreOwed$Sky" "paid" "[I", Cond.fieldLink RX5 30 "LightYearsAreOwed$Sky" "bright" "[I", Cond.fieldLink RX5 33 "LightYearsAreOwed$Sky" "many" "[I", Cond.instanceMethod yX1_init, Cond.code yX1_init cX1_init 1 none, Cond.methodLink RX1 3 objectInit, Cond.fieldLink RX1 9 "LightYearsAreOwed$Purse" "way" "[I", Cond.instanceMethod yX4_init, Cond.code yX4_init cX4_init 1 none, Cond.methodLink RX4 3 objectInit, Cond.fieldLink RX4 9 "LightYearsAreOwed$Rule" "code" "[I", Cond.fieldLink RX4 15 "LightYearsAreOwed$Rule" "ends" "[I", Cond.instanceMethod yX3_init, Cond.code yX3_init cX3_init 1 none, Cond.methodLink RX3 3 objectInit, Cond.fieldLink RX3 9 "LightYearsAreOwed$Row" "sort" "I", Cond.fieldLink RX3 15 "LightYearsAreOwed$Row" "items" "[I", Cond.methodLink RX6 46 yX2_init, Cond.instanceMethod yX2_init, Cond.code yX2_init cX2_init 2 none, Cond.methodLink RX2 3 objectInit, Cond.fieldLink RX2 9 "LightYearsAreOwed$Reader" "tape" "[I", Cond.fieldLink RX2 15 "LightYearsAreOwed$Reader" "rule" "LLightYearsAreOwed$Rule;", Cond.methodLink RX6 55 yX0_init]
def wsL_law_r4 : List Cond := [Cond.instanceMethod yX0_init, Cond.code yX0_init cX0_init 2 none, Cond.methodLink RX0 3 objectInit, Cond.fieldLink RX0 9 "LightYearsAreOwed$Bill" "kinds" "[I", Cond.fieldLink RX0 15 "LightYearsAreOwed$Bill" "numbers" "[I", Cond.fieldLink RX0 18 "LightYearsAreOwed$Bill" "years" "[I", Cond.fieldLink RX0 21 "LightYearsAreOwed$Bill" "seen" "[I", Cond.fieldLink RX0 24 "LightYearsAreOwed$Bill" "names" "[I", Cond.fieldLink RX0 27 "LightYearsAreOwed$Bill" "stack" "[I", Cond.fieldLink RX0 30 "LightYearsAreOwed$Bill" "rule" "LLightYearsAreOwed$Rule;", Cond.methodLink RX6 62 yJ0_length_8abf5, Cond.instanceMethod yJ0_length_8abf5, Cond.selects RJ0 yJ0_length_8abf5 yJ0_length_8abf5, Cond.initialized RJ0, Cond.code yJ0_length_8abf5 cJ0_length_8abf5 1 (some .int), Cond.fieldLink RJ0 9 "java/lang/String" "value" "[B", Cond.methodLink RJ0 335 yJ0_coder_7d493, Cond.instanceMethod yJ0_coder_7d493, Cond.selects RJ0 yJ0_coder_7d493 yJ0_coder_7d493, Cond.code yJ0_coder_7d493 cJ0_coder_7d493 1 (some .byte), Cond.fieldLink RJ0 38 "java/lang/String" "COMPACT_STRINGS" "Z", Cond.fieldLink RJ0 15 "java/lang/String" "coder" "B", Cond.methodLink RX6 68 yJ0_charAt_5068e, Cond.instanceMethod yJ0_charAt_5068e]
def wsL_law_r5 : List Cond := [Cond.selects RJ0 yJ0_charAt_5068e yJ0_charAt_5068e, Cond.code yJ0_charAt_5068e cJ0_charAt_5068e 2 (some .char), Cond.methodLink RJ0 492 yJ0_isLatin1_aae02, Cond.instanceMethod yJ0_isLatin1_aae02, Cond.selects RJ0 yJ0_isLatin1_aae02 yJ0_isLatin1_aae02, Cond.code yJ0_isLatin1_aae02 cJ0_isLatin1_aae02 1 (some .boolean), Cond.methodLink RJ0 495 yJ1_charAt_3b067, Cond.static yJ1_charAt_3b067, Cond.initialized RJ1, Cond.code yJ1_charAt_3b067 cJ1_charAt_3b067 2 (some .char), Cond.methodLink RJ1 9 yJ0_checkIndex_df160, Cond.static yJ0_checkIndex_df160, Cond.code yJ0_checkIndex_df160 cJ0_checkIndex_df160 2 none, Cond.fieldLink RJ0 1053 "jdk/internal/util/Preconditions" "SIOOBE_FORMATTER" "Ljava/util/function/BiFunction;", Cond.methodLink RJ0 1059 yJ3_checkIndex_8e157, Cond.static yJ3_checkIndex_8e157, Cond.initialized RJ3, Cond.code yJ3_checkIndex_8e157 cJ3_checkIndex_8e157 3 (some .int), Cond.methodLink RJ0 498 yJ2_charAt_3b067, Cond.static yJ2_charAt_3b067, Cond.initialized RJ2, Cond.code yJ2_charAt_3b067 cJ2_charAt_3b067 2 (some .char), Cond.methodLink RJ2 67 yJ2_checkIndex_2214a, Cond.static yJ2_checkIndex_2214a]
def wsL_law_r6 : List Cond := [Cond.code yJ2_checkIndex_2214a cJ2_checkIndex_2214a 2 none, Cond.methodLink RJ2 48 yJ2_length_9d52b, Cond.static yJ2_length_9d52b, Cond.code yJ2_length_9d52b cJ2_length_9d52b 1 (some .int), Cond.methodLink RJ2 414 yJ0_checkIndex_df160, Cond.methodLink RJ2 71 yJ2_getChar_3b067, Cond.static yJ2_getChar_3b067, Cond.code yJ2_getChar_3b067 cJ2_getChar_3b067 2 (some .char), Cond.fieldLink RJ2 44 "java/lang/StringUTF16" "$assertionsDisabled" "Z", Cond.fieldLink RJ2 59 "java/lang/StringUTF16" "HI_BYTE_SHIFT" "I", Cond.fieldLink RJ2 63 "java/lang/StringUTF16" "LO_BYTE_SHIFT" "I", Cond.methodLink RX6 72 yX2_append, Cond.instanceMethod yX2_append, Cond.selects RX2 yX2_append yX2_append, Cond.code yX2_append cX2_append 2 none, Cond.fieldLink RX2 19 "LightYearsAreOwed$Reader" "size" "I", Cond.methodLink RX6 76 yX2_read, Cond.instanceMethod yX2_read, Cond.selects RX2 yX2_read yX2_read, Cond.code yX2_read cX2_read 3 (some .int), Cond.fieldLink RX2 28 "LightYearsAreOwed$Reader" "fault" "I", Cond.fieldLink RX2 31 "LightYearsAreOwed$Reader" "next" "I", Cond.fieldLink RX2 47 "LightYearsAreOwed$Reader" "token" "I", Cond.methodLink RX2 23 yX4_empty]
def wsL_law_r7 : List Cond := [Cond.instanceMethod yX4_empty, Cond.selects RX4 yX4_empty yX4_empty, Cond.code yX4_empty cX4_empty 1 none, Cond.fieldLink RX4 18 "LightYearsAreOwed$Rule" "size" "I", Cond.fieldLink RX4 22 "LightYearsAreOwed$Rule" "namesNight" "Z", Cond.methodLink RX2 34 yX2_advance, Cond.instanceMethod yX2_advance, Cond.selects RX2 yX2_advance yX2_advance, Cond.code yX2_advance cX2_advance 2 none, Cond.fieldLink RX2 84 "LightYearsAreOwed$Reader" "place" "I", Cond.methodLink RX2 87 yX2_byteAt, Cond.instanceMethod yX2_byteAt, Cond.selects RX2 yX2_byteAt yX2_byteAt, Cond.code yX2_byteAt cX2_byteAt 2 (some .int), Cond.methodLink RX2 91 yX2_isLetter, Cond.static yX2_isLetter, Cond.code yX2_isLetter cX2_isLetter 1 (some .boolean), Cond.methodLink RX2 94 yX2_readWord, Cond.instanceMethod yX2_readWord, Cond.selects RX2 yX2_readWord yX2_readWord, Cond.code yX2_readWord cX2_readWord 3 none, Cond.fieldLink RX2 75 "LightYearsAreOwed$Reader" "value" "I", Cond.methodLink RX2 108 yJ0_length_8abf5, Cond.methodLink RX2 114 yJ0_charAt_5068e]
def wsL_law_r8 : List Cond := [Cond.methodLink RX2 118 yX2_isWord, Cond.instanceMethod yX2_isWord, Cond.selects RX2 yX2_isWord yX2_isWord, Cond.code yX2_isWord cX2_isWord 4 (some .boolean), Cond.methodLink RX2 97 yX2_isDigit, Cond.static yX2_isDigit, Cond.code yX2_isDigit cX2_isDigit 1 (some .boolean), Cond.methodLink RX2 100 yX2_readNumber, Cond.instanceMethod yX2_readNumber, Cond.selects RX2 yX2_readNumber yX2_readNumber, Cond.code yX2_readNumber cX2_readNumber 1 none, Cond.methodLink RX2 103 yX2_isSign, Cond.static yX2_isSign, Cond.code yX2_isSign cX2_isSign 1 (some .boolean), Cond.methodLink RX2 37 yX2_expect, Cond.instanceMethod yX2_expect, Cond.selects RX2 yX2_expect yX2_expect, Cond.code yX2_expect cX2_expect 2 none, Cond.methodLink RX2 50 yX2_fail, Cond.instanceMethod yX2_fail, Cond.selects RX2 yX2_fail yX2_fail, Cond.code yX2_fail cX2_fail 1 none, Cond.methodLink RX2 41 yX2_readEither, Cond.instanceMethod yX2_readEither]
def wsL_law_r9 : List Cond := [Cond.selects RX2 yX2_readEither yX2_readEither, Cond.code yX2_readEither cX2_readEither 3 none, Cond.methodLink RX2 53 yX2_readBoth, Cond.instanceMethod yX2_readBoth, Cond.selects RX2 yX2_readBoth yX2_readBoth, Cond.methodLink RX2 56 yX4_addSign, Cond.instanceMethod yX4_addSign, Cond.selects RX4 yX4_addSign yX4_addSign, Cond.code yX4_addSign cX4_addSign 2 none, Cond.methodLink RX4 26 yX4_add, Cond.instanceMethod yX4_add, Cond.selects RX4 yX4_add yX4_add, Cond.code yX4_add cX4_add 2 none, Cond.code yX2_readBoth cX2_readBoth 3 none, Cond.methodLink RX2 59 yX2_readNot, Cond.instanceMethod yX2_readNot, Cond.selects RX2 yX2_readNot yX2_readNot, Cond.code yX2_readNot cX2_readNot 3 none, Cond.methodLink RX2 62 yX2_opens, Cond.instanceMethod yX2_opens, Cond.selects RX2 yX2_opens yX2_opens, Cond.code yX2_opens cX2_opens 2 (some .boolean), Cond.methodLink RX2 66 yX2_readSum, Cond.instanceMethod yX2_readSum]
def wsL_law_r10 : List Cond := [Cond.selects RX2 yX2_readSum yX2_readSum, Cond.code yX2_readOne cX2_readOne 2 none, Cond.methodLink RX2 78 yX4_add, Cond.methodLink RX2 81 yX4_addName, Cond.instanceMethod yX4_addName, Cond.selects RX4 yX4_addName yX4_addName, Cond.code yX4_addName cX4_addName 2 none, Cond.methodLink RX2 72 yX2_readOne, Cond.instanceMethod yX2_readOne, Cond.selects RX2 yX2_readOne yX2_readOne, Cond.code yX2_readSum cX2_readSum 4 none, Cond.methodLink RX2 69 yX2_readTerm, Cond.instanceMethod yX2_readTerm, Cond.selects RX2 yX2_readTerm yX2_readTerm, Cond.code yX2_readTerm cX2_readTerm 3 none, Cond.methodLink RX2 44 yX4_endPart, Cond.instanceMethod yX4_endPart, Cond.selects RX4 yX4_endPart yX4_endPart, Cond.code yX4_endPart cX4_endPart 2 none, Cond.methodLink RX6 80 yX2_empty, Cond.instanceMethod yX2_empty, Cond.selects RX2 yX2_empty yX2_empty, Cond.code yX2_empty cX2_empty 1 none, Cond.methodLink RL 12 yX7_init]
def wsL_law_r11 : List Cond := [Cond.instanceMethod yX7_init, Cond.code yX7_init cX7_init 1 none, Cond.methodLink RX7 7 objectInit, Cond.fieldLink RX7 13 "LightYearsAreOwedModel" "texts" "[I", Cond.fieldLink RX7 17 "LightYearsAreOwedModel" "textSize" "[I", Cond.fieldLink RX7 20 "LightYearsAreOwedModel" "tape" "[I", Cond.fieldLink RX7 23 "LightYearsAreOwedModel" "kinds" "[I", Cond.fieldLink RX7 26 "LightYearsAreOwedModel" "numbers" "[I", Cond.fieldLink RX7 29 "LightYearsAreOwedModel" "ages" "[I", Cond.fieldLink RX7 32 "LightYearsAreOwedModel" "looked" "[I", Cond.fieldLink RX7 35 "LightYearsAreOwedModel" "miles" "[I", Cond.fieldLink RX7 38 "LightYearsAreOwedModel" "paid" "[I", Cond.fieldLink RX7 41 "LightYearsAreOwedModel" "bright" "[I", Cond.fieldLink RX7 44 "LightYearsAreOwedModel" "stock" "[I", Cond.fieldLink RX7 47 "LightYearsAreOwedModel" "fewest" "[I", Cond.fieldLink RX7 50 "LightYearsAreOwedModel" "lookedWas" "[I", Cond.fieldLink RX7 53 "LightYearsAreOwedModel" "numbersKept" "[I", Cond.fieldLink RX7 56 "LightYearsAreOwedModel" "agesKept" "[I", Cond.fieldLink RX7 59 "LightYearsAreOwedModel" "lookedKept" "[I", Cond.fieldLink RX7 62 "LightYearsAreOwedModel" "milesKept" "[I", Cond.fieldLink RX7 65 "LightYearsAreOwedModel" "paidKept" "[I", Cond.fieldLink RX7 68 "LightYearsAreOwedModel" "brightKept" "[I", Cond.fieldLink RX7 71 "LightYearsAreOwedModel" "stockKept" "[I", Cond.fieldLink RX7 74 "LightYearsAreOwedModel" "manyKept" "I"]
def wsL_law_r12 : List Cond := [Cond.arrayClass .boolean, Cond.fieldLink RX7 77 "LightYearsAreOwedModel" "isThere" "[Z", Cond.fieldLink RX7 81 "LightYearsAreOwedModel" "sorts" "[I", Cond.fieldLink RX7 84 "LightYearsAreOwedModel" "sheetSize" "[I", Cond.fieldLink RX7 87 "LightYearsAreOwedModel" "items" "[I", Cond.fieldLink RX7 94 "LightYearsAreOwedModel" "textCount" "I", Cond.methodLink RX7 90 yX7_spell, Cond.instanceMethod yX7_spell, Cond.selects RX7 yX7_spell yX7_spell, Cond.code yX7_spell cX7_spell 10 none, Cond.methodLink RL 13 yX6_set, Cond.instanceMethod yX6_set, Cond.selects RX6 yX6_set yX6_set, Cond.code yX6_set cX6_set 6 (some .int), Cond.fieldLink RX6 87 "LightYearsAreOwed" "MOST" "[I", Cond.fieldLink RX6 90 "LightYearsAreOwed" "LEAST" "[I", Cond.fieldLink RX6 93 "LightYearsAreOwed$Sky" "clouds" "I", Cond.methodLink RX6 96 yX6_placesOf, Cond.instanceMethod yX6_placesOf, Cond.selects RX6 yX6_placesOf yX6_placesOf, Cond.code yX6_placesOf cX6_placesOf 2 (some (.array .int)), Cond.fieldLink RX6 138 "LightYearsAreOwed$Sky" "numbers" "[I", Cond.fieldLink RX6 141 "LightYearsAreOwed$Sky" "years" "[I", Cond.fieldLink RX6 144 "LightYearsAreOwed$Sky" "miles" "[I"]
def wsL_law_r13 : List Cond := [Cond.fieldLink RX6 147 "LightYearsAreOwed$Sky" "many" "[I", Cond.fieldLink RX6 150 "LightYearsAreOwed$Sky" "kinds" "[I", Cond.methodLink RX6 100 yX6_placeCount, Cond.instanceMethod yX6_placeCount, Cond.selects RX6 yX6_placeCount yX6_placeCount, Cond.code yX6_placeCount cX6_placeCount 2 (some .int), Cond.fieldLink RX6 153 "LightYearsAreOwed$Sky" "lightCount" "I", Cond.methodLink RL 17 yX7_set, Cond.instanceMethod yX7_set, Cond.selects RX7 yX7_set yX7_set, Cond.code yX7_set cX7_set 5 (some .int), Cond.constantLong RX7 115 (5), Cond.methodLink RX7 100 yX7_in, Cond.static yX7_in, Cond.code yX7_in cX7_in 6 (some .boolean), Cond.methodLink RX7 117 yX7_isOf, Cond.instanceMethod yX7_isOf, Cond.selects RX7 yX7_isOf yX7_isOf, Cond.code yX7_isOf cX7_isOf 3 (some .boolean), Cond.constantLong RX7 110 (3), Cond.methodLink RX7 106 yX7_isLight, Cond.instanceMethod yX7_isLight, Cond.selects RX7 yX7_isLight yX7_isLight, Cond.code yX7_isLight cX7_isLight 2 (some .boolean)]
def wsL_law_r14 : List Cond := [Cond.fieldLink RX7 97 "LightYearsAreOwedModel" "many" "I", Cond.methodLink RX7 112 yX7_isLooker, Cond.static yX7_isLooker, Cond.code yX7_isLooker cX7_isLooker 1 (some .boolean), Cond.constantLong RX7 104 (4), Cond.methodLink RX7 121 yX7_mostOf, Cond.static yX7_mostOf, Cond.code yX7_mostOf cX7_mostOf 1 (some .int), Cond.methodLink RX7 125 yX7_told, Cond.instanceMethod yX7_told, Cond.selects RX7 yX7_told yX7_told, Cond.code yX7_told cX7_told 3 (some .int), Cond.constantLong RX7 139 (9), Cond.fieldLink RX7 133 "LightYearsAreOwedModel" "clouds" "I", Cond.methodLink RX7 145 yX7_allOf, Cond.instanceMethod yX7_allOf, Cond.selects RX7 yX7_allOf yX7_allOf, Cond.code yX7_allOf cX7_allOf 2 (some .int), Cond.constant RX7 390 (999999), Cond.methodLink RX7 387 yX7_plainOf, Cond.instanceMethod yX7_plainOf, Cond.selects RX7 yX7_plainOf yX7_plainOf, Cond.code yX7_plainOf cX7_plainOf 4 (some .int), Cond.methodLink RX7 384 yX7_owesFor]
def wsL_law_r15 : List Cond := [Cond.instanceMethod yX7_owesFor, Cond.selects RX7 yX7_owesFor yX7_owesFor, Cond.code yX7_owesFor cX7_owesFor 6 (some .int), Cond.methodLink RX7 362 yX7_nightsOf, Cond.instanceMethod yX7_nightsOf, Cond.selects RX7 yX7_nightsOf yX7_nightsOf, Cond.code yX7_nightsOf cX7_nightsOf 3 (some .int), Cond.methodLink RX7 359 yX7_bitsOf, Cond.static yX7_bitsOf, Cond.code yX7_bitsOf cX7_bitsOf 3 (some .int), Cond.methodLink RX7 373 yX7_extraOf, Cond.instanceMethod yX7_extraOf, Cond.selects RX7 yX7_extraOf yX7_extraOf, Cond.code yX7_extraOf cX7_extraOf 5 (some .int), Cond.methodLink RX7 369 yX7_asks, Cond.instanceMethod yX7_asks, Cond.selects RX7 yX7_asks yX7_asks, Cond.code yX7_asks cX7_asks 5 (some .int), Cond.fieldLink RX7 211 "LightYearsAreOwedModel" "ofYears" "I", Cond.fieldLink RX7 214 "LightYearsAreOwedModel" "ofNights" "I", Cond.fieldLink RX7 217 "LightYearsAreOwedModel" "ofNumber" "I", Cond.fieldLink RX7 220 "LightYearsAreOwedModel" "ofNight" "I", Cond.fieldLink RX7 223 "LightYearsAreOwedModel" "ofCloudy" "I", Cond.fieldLink RX7 226 "LightYearsAreOwedModel" "ofLights" "I"]
def wsL_law_r16 : List Cond := [Cond.fieldLink RX7 136 "LightYearsAreOwedModel" "rule" "I", Cond.methodLink RX7 148 yX7_lightMany, Cond.instanceMethod yX7_lightMany, Cond.selects RX7 yX7_lightMany yX7_lightMany, Cond.code yX7_lightMany cX7_lightMany 4 (some .int), Cond.methodLink RX7 356 yX7_read, Cond.instanceMethod yX7_read, Cond.selects RX7 yX7_read yX7_read, Cond.code yX7_read cX7_read 6 (some .int), Cond.fieldLink RX7 159 "LightYearsAreOwedModel" "from" "I", Cond.fieldLink RX7 156 "LightYearsAreOwedModel" "size" "I", Cond.fieldLink RX7 162 "LightYearsAreOwedModel" "here" "I", Cond.fieldLink RX7 198 "LightYearsAreOwedModel" "open" "I", Cond.fieldLink RX7 188 "LightYearsAreOwedModel" "bad" "Z", Cond.fieldLink RX7 171 "LightYearsAreOwedModel" "token" "I", Cond.methodLink RX7 204 yX7_next, Cond.instanceMethod yX7_next, Cond.selects RX7 yX7_next yX7_next, Cond.code yX7_next cX7_next 3 none, Cond.fieldLink RX7 168 "LightYearsAreOwedModel" "tokenAt" "I", Cond.constantLong RX7 174 (97), Cond.constantLong RX7 176 (122), Cond.constantLong RX7 178 (48), Cond.constantLong RX7 180 (57)]
def wsL_law_r17 : List Cond := [Cond.fieldLink RX7 182 "LightYearsAreOwedModel" "tokenWorth" "J", Cond.constantLong RX7 186 (10), Cond.methodLink RX7 165 yX7_byteAt, Cond.instanceMethod yX7_byteAt, Cond.selects RX7 yX7_byteAt yX7_byteAt, Cond.code yX7_byteAt cX7_byteAt 2 (some .int), Cond.methodLink RX7 207 yX7_isWord, Cond.instanceMethod yX7_isWord, Cond.selects RX7 yX7_isWord yX7_isWord, Cond.code yX7_isWord cX7_isWord 9 (some .boolean), Cond.methodLink RX7 195 yX7_isLetter, Cond.instanceMethod yX7_isLetter, Cond.selects RX7 yX7_isLetter yX7_isLetter, Cond.code yX7_isLetter cX7_isLetter 3 (some .boolean), Cond.methodLink RX7 352 yX7_part, Cond.instanceMethod yX7_part, Cond.selects RX7 yX7_part yX7_part, Cond.code yX7_part cX7_part 3 (some .int), Cond.methodLink RX7 201 yX7_fail, Cond.instanceMethod yX7_fail, Cond.selects RX7 yX7_fail yX7_fail, Cond.code yX7_fail cX7_fail 1 none, Cond.fieldLink RX7 192 "LightYearsAreOwedModel" "fault" "I", Cond.methodLink RX7 349 yX7_either0]
def wsL_law_r18 : List Cond := [Cond.instanceMethod yX7_either0, Cond.selects RX7 yX7_either0 yX7_either0, Cond.code yX7_either0 cX7_either0 3 (some .int), Cond.methodLink RX7 346 yX7_both0, Cond.instanceMethod yX7_both0, Cond.selects RX7 yX7_both0 yX7_both0, Cond.code yX7_both0 cX7_both0 3 (some .int), Cond.methodLink RX7 343 yX7_not0, Cond.instanceMethod yX7_not0, Cond.selects RX7 yX7_not0 yX7_not0, Cond.code yX7_not0 cX7_not0 4 (some .int), Cond.constantLong RX7 251 (60), Cond.methodLink RX7 232 yX7_opens, Cond.instanceMethod yX7_opens, Cond.selects RX7 yX7_opens yX7_opens, Cond.code yX7_opens cX7_opens 1 (some .boolean), Cond.methodLink RX7 325 yX7_not1, Cond.instanceMethod yX7_not1, Cond.selects RX7 yX7_not1 yX7_not1, Cond.code yX7_not1 cX7_not1 4 (some .int), Cond.methodLink RX7 307 yX7_not2, Cond.instanceMethod yX7_not2, Cond.selects RX7 yX7_not2 yX7_not2, Cond.code yX7_not2 cX7_not2 4 (some .int)]
def wsL_law_r19 : List Cond := [Cond.methodLink RX7 289 yX7_not3, Cond.instanceMethod yX7_not3, Cond.selects RX7 yX7_not3 yX7_not3, Cond.code yX7_not3 cX7_not3 4 (some .int), Cond.methodLink RX7 271 yX7_not4, Cond.instanceMethod yX7_not4, Cond.selects RX7 yX7_not4 yX7_not4, Cond.code yX7_not4 cX7_not4 4 (some .int), Cond.methodLink RX7 253 yX7_not5, Cond.instanceMethod yX7_not5, Cond.selects RX7 yX7_not5 yX7_not5, Cond.code yX7_not5 cX7_not5 4 (some .int), Cond.methodLink RX7 248 yX7_added5, Cond.instanceMethod yX7_added5, Cond.selects RX7 yX7_added5 yX7_added5, Cond.code yX7_added5 cX7_added5 4 (some .int), Cond.constantLong RX7 246 (43), Cond.methodLink RX7 243 yX7_term5, Cond.instanceMethod yX7_term5, Cond.selects RX7 yX7_term5 yX7_term5, Cond.code yX7_term5 cX7_term5 2 (some .int), Cond.methodLink RX7 240 yX7_atom5, Cond.instanceMethod yX7_atom5, Cond.selects RX7 yX7_atom5 yX7_atom5]
def wsL_law_r20 : List Cond := [Cond.code yX7_atom5 cX7_atom5 2 (some .int), Cond.methodLink RX7 229 yX7_isSign, Cond.instanceMethod yX7_isSign, Cond.selects RX7 yX7_isSign yX7_isSign, Cond.code yX7_isSign cX7_isSign 2 (some .boolean), Cond.methodLink RX7 236 yX7_name, Cond.instanceMethod yX7_name, Cond.selects RX7 yX7_name yX7_name, Cond.code yX7_name cX7_name 1 (some .int), Cond.methodLink RX7 268 yX7_added4, Cond.instanceMethod yX7_added4, Cond.selects RX7 yX7_added4 yX7_added4, Cond.code yX7_added4 cX7_added4 4 (some .int), Cond.methodLink RX7 265 yX7_term4, Cond.instanceMethod yX7_term4, Cond.selects RX7 yX7_term4 yX7_term4, Cond.code yX7_term4 cX7_term4 2 (some .int), Cond.methodLink RX7 262 yX7_atom4, Cond.instanceMethod yX7_atom4, Cond.selects RX7 yX7_atom4 yX7_atom4, Cond.code yX7_atom4 cX7_atom4 2 (some .int), Cond.methodLink RX7 259 yX7_either5, Cond.instanceMethod yX7_either5, Cond.selects RX7 yX7_either5 yX7_either5]
def wsL_law_r21 : List Cond := [Cond.code yX7_either5 cX7_either5 3 (some .int), Cond.methodLink RX7 256 yX7_both5, Cond.instanceMethod yX7_both5, Cond.selects RX7 yX7_both5 yX7_both5, Cond.code yX7_both5 cX7_both5 3 (some .int), Cond.methodLink RX7 286 yX7_added3, Cond.instanceMethod yX7_added3, Cond.selects RX7 yX7_added3 yX7_added3, Cond.code yX7_added3 cX7_added3 4 (some .int), Cond.methodLink RX7 283 yX7_term3, Cond.instanceMethod yX7_term3, Cond.selects RX7 yX7_term3 yX7_term3, Cond.code yX7_term3 cX7_term3 2 (some .int), Cond.methodLink RX7 280 yX7_atom3, Cond.instanceMethod yX7_atom3, Cond.selects RX7 yX7_atom3 yX7_atom3, Cond.code yX7_atom3 cX7_atom3 2 (some .int), Cond.methodLink RX7 277 yX7_either4, Cond.instanceMethod yX7_either4, Cond.selects RX7 yX7_either4 yX7_either4, Cond.code yX7_either4 cX7_either4 3 (some .int), Cond.methodLink RX7 274 yX7_both4, Cond.instanceMethod yX7_both4, Cond.selects RX7 yX7_both4 yX7_both4]
def wsL_law_r22 : List Cond := [Cond.code yX7_both4 cX7_both4 3 (some .int), Cond.methodLink RX7 304 yX7_added2, Cond.instanceMethod yX7_added2, Cond.selects RX7 yX7_added2 yX7_added2, Cond.code yX7_added2 cX7_added2 4 (some .int), Cond.methodLink RX7 301 yX7_term2, Cond.instanceMethod yX7_term2, Cond.selects RX7 yX7_term2 yX7_term2, Cond.code yX7_term2 cX7_term2 2 (some .int), Cond.methodLink RX7 298 yX7_atom2, Cond.instanceMethod yX7_atom2, Cond.selects RX7 yX7_atom2 yX7_atom2, Cond.code yX7_atom2 cX7_atom2 2 (some .int), Cond.methodLink RX7 295 yX7_either3, Cond.instanceMethod yX7_either3, Cond.selects RX7 yX7_either3 yX7_either3, Cond.code yX7_either3 cX7_either3 3 (some .int), Cond.methodLink RX7 292 yX7_both3, Cond.instanceMethod yX7_both3, Cond.selects RX7 yX7_both3 yX7_both3, Cond.code yX7_both3 cX7_both3 3 (some .int), Cond.methodLink RX7 322 yX7_added1, Cond.instanceMethod yX7_added1, Cond.selects RX7 yX7_added1 yX7_added1]
def wsL_law_r23 : List Cond := [Cond.code yX7_added1 cX7_added1 4 (some .int), Cond.methodLink RX7 319 yX7_term1, Cond.instanceMethod yX7_term1, Cond.selects RX7 yX7_term1 yX7_term1, Cond.code yX7_term1 cX7_term1 2 (some .int), Cond.methodLink RX7 316 yX7_atom1, Cond.instanceMethod yX7_atom1, Cond.selects RX7 yX7_atom1 yX7_atom1, Cond.code yX7_atom1 cX7_atom1 2 (some .int), Cond.methodLink RX7 313 yX7_either2, Cond.instanceMethod yX7_either2, Cond.selects RX7 yX7_either2 yX7_either2, Cond.code yX7_either2 cX7_either2 3 (some .int), Cond.methodLink RX7 310 yX7_both2, Cond.instanceMethod yX7_both2, Cond.selects RX7 yX7_both2 yX7_both2, Cond.code yX7_both2 cX7_both2 3 (some .int), Cond.methodLink RX7 340 yX7_added0, Cond.instanceMethod yX7_added0, Cond.selects RX7 yX7_added0 yX7_added0, Cond.code yX7_added0 cX7_added0 4 (some .int), Cond.methodLink RX7 337 yX7_term0, Cond.instanceMethod yX7_term0, Cond.selects RX7 yX7_term0 yX7_term0]
def wsL_law_r24 : List Cond := [Cond.code yX7_term0 cX7_term0 2 (some .int), Cond.methodLink RX7 334 yX7_atom0, Cond.instanceMethod yX7_atom0, Cond.selects RX7 yX7_atom0 yX7_atom0, Cond.code yX7_atom0 cX7_atom0 2 (some .int), Cond.methodLink RX7 331 yX7_either1, Cond.instanceMethod yX7_either1, Cond.selects RX7 yX7_either1 yX7_either1, Cond.code yX7_either1 cX7_either1 3 (some .int), Cond.methodLink RX7 328 yX7_both1, Cond.instanceMethod yX7_both1, Cond.selects RX7 yX7_both1 yX7_both1, Cond.code yX7_both1 cX7_both1 3 (some .int), Cond.methodLink RX7 365 yX7_within, Cond.static yX7_within, Cond.code yX7_within cX7_within 3 (some .int), Cond.methodLink RX7 376 yX7_offOf, Cond.instanceMethod yX7_offOf, Cond.selects RX7 yX7_offOf yX7_offOf, Cond.code yX7_offOf cX7_offOf 5 (some .int), Cond.methodLink RX7 379 yX7_dueOf, Cond.instanceMethod yX7_dueOf, Cond.selects RX7 yX7_dueOf yX7_dueOf, Cond.code yX7_dueOf cX7_dueOf 7 (some .int)]
def wsL_law_r25 : List Cond := [Cond.methodLink RX7 129 yX7_lays, Cond.instanceMethod yX7_lays, Cond.selects RX7 yX7_lays yX7_lays, Cond.code yX7_lays cX7_lays 4 none, Cond.methodLink RL 18 yX6_light, Cond.instanceMethod yX6_light, Cond.selects RX6 yX6_light yX6_light, Cond.code yX6_light cX6_light 4 (some .int), Cond.methodLink RX6 104 yX6_between, Cond.static yX6_between, Cond.code yX6_between cX6_between 3 (some .boolean), Cond.methodLink RX6 108 yX5_addLight, Cond.instanceMethod yX5_addLight, Cond.selects RX5 yX5_addLight yX5_addLight, Cond.code yX5_addLight cX5_addLight 6 (some .int), Cond.fieldLink RX5 43 "LightYearsAreOwed$Sky" "lightCount" "I", Cond.methodLink RL 21 yX7_light, Cond.instanceMethod yX7_light, Cond.selects RX7 yX7_light yX7_light, Cond.code yX7_light cX7_light 5 (some .int), Cond.constantLong RX7 141 (999), Cond.methodLink RL 22 yX6_look, Cond.instanceMethod yX6_look, Cond.selects RX6 yX6_look yX6_look]
def wsL_law_r26 : List Cond := [Cond.code yX6_look cX6_look 6 (some .int), Cond.fieldLink RX6 119 "LightYearsAreOwed$Sky" "seen" "[I", Cond.methodLink RX6 112 yX6_isLooker, Cond.static yX6_isLooker, Cond.code yX6_isLooker cX6_isLooker 1 (some .boolean), Cond.methodLink RX6 116 yX6_isLight, Cond.instanceMethod yX6_isLight, Cond.selects RX6 yX6_isLight yX6_isLight, Cond.code yX6_isLight cX6_isLight 2 (some .boolean), Cond.methodLink RL 25 yX7_look, Cond.instanceMethod yX7_look, Cond.selects RX7 yX7_look yX7_look, Cond.code yX7_look cX7_look 5 (some .int), Cond.constantLong RX7 143 (4095), Cond.methodLink RL 26 yX6_told, Cond.instanceMethod yX6_told, Cond.selects RX6 yX6_told yX6_told, Cond.code yX6_told cX6_told 4 (some .int), Cond.methodLink RX6 122 yX6_toldOfLooker, Cond.instanceMethod yX6_toldOfLooker, Cond.selects RX6 yX6_toldOfLooker yX6_toldOfLooker, Cond.code yX6_toldOfLooker cX6_toldOfLooker 3 (some .int), Cond.fieldLink RX6 126 "LightYearsAreOwed$Sky" "paid" "[I", Cond.methodLink RX6 129 yX6_allOf]
def wsL_law_r27 : List Cond := [Cond.instanceMethod yX6_allOf, Cond.selects RX6 yX6_allOf yX6_allOf, Cond.code yX6_allOf cX6_allOf 3 (some .int), Cond.fieldLink RX6 194 "LightYearsAreOwed$Bill" "clouds" "I", Cond.methodLink RX6 215 Lib.Math.max.name, Cond.static Lib.Math.max.name, Cond.initialized "java/lang/Math", Cond.code Lib.Math.max.name Lib.Math.max.code 2 (some .int), Cond.methodLink RX6 132 yX6_openBill, Cond.instanceMethod yX6_openBill, Cond.selects RX6 yX6_openBill yX6_openBill, Cond.code yX6_openBill cX6_openBill 2 none, Cond.fieldLink RX6 159 "LightYearsAreOwed$Sky" "rule" "I", Cond.methodLink RX6 246 yX6_ruleOf, Cond.instanceMethod yX6_ruleOf, Cond.selects RX6 yX6_ruleOf yX6_ruleOf, Cond.code yX6_ruleOf cX6_ruleOf 2 (some (.object "LightYearsAreOwed$Rule")), Cond.methodLink RX6 304 yX0_open, Cond.instanceMethod yX0_open, Cond.selects RX0 yX0_open yX0_open, Cond.code yX0_open cX0_open 6 none, Cond.fieldLink RX0 34 "LightYearsAreOwed$Sky" "clouds" "I", Cond.fieldLink RX0 40 "LightYearsAreOwed$Bill" "clouds" "I", Cond.fieldLink RX0 41 "LightYearsAreOwed$Sky" "lightCount" "I"]
def wsL_law_r28 : List Cond := [Cond.methodLink RX0 44 Lib.Math.min.name, Cond.static Lib.Math.min.name, Cond.code Lib.Math.min.name Lib.Math.min.code 2 (some .int), Cond.fieldLink RX0 50 "LightYearsAreOwed$Bill" "lightCount" "I", Cond.fieldLink RX0 51 "LightYearsAreOwed$Sky" "kinds" "[I", Cond.fieldLink RX0 52 "LightYearsAreOwed$Sky" "numbers" "[I", Cond.fieldLink RX0 53 "LightYearsAreOwed$Sky" "years" "[I", Cond.fieldLink RX0 54 "LightYearsAreOwed$Sky" "seen" "[I", Cond.methodLink RX6 195 yX0_sum, Cond.instanceMethod yX0_sum, Cond.selects RX0 yX0_sum yX0_sum, Cond.code yX0_sum cX0_sum 3 (some .int), Cond.methodLink RX0 61 yX0_owed, Cond.instanceMethod yX0_owed, Cond.selects RX0 yX0_owed yX0_owed, Cond.code yX0_owed cX0_owed 7 (some .int), Cond.fieldLink RX0 72 "LightYearsAreOwed$Rule" "namesNight" "Z", Cond.methodLink RX0 92 Lib.Math.max.name, Cond.methodLink RX0 69 yX0_giveNames, Cond.instanceMethod yX0_giveNames, Cond.selects RX0 yX0_giveNames yX0_giveNames, Cond.code yX0_giveNames cX0_giveNames 3 (some .int), Cond.methodLink RX0 55 yJ6_bitCount_0f7a4, Cond.static yJ6_bitCount_0f7a4]
def wsL_law_r29 : List Cond := [Cond.initialized RJ6, Cond.code yJ6_bitCount_0f7a4 cJ6_bitCount_0f7a4 1 (some .int), Cond.constant RJ6 265 (1431655765), Cond.constant RJ6 266 (858993459), Cond.constant RJ6 267 (252645135), Cond.methodLink RX0 95 yX0_lightsSeen, Cond.instanceMethod yX0_lightsSeen, Cond.selects RX0 yX0_lightsSeen yX0_lightsSeen, Cond.code yX0_lightsSeen cX0_lightsSeen 3 (some .int), Cond.methodLink RX0 78 yX4_tell, Cond.instanceMethod yX4_tell, Cond.selects RX4 yX4_tell yX4_tell, Cond.code yX4_tell cX4_tell 7 (some .int), Cond.methodLink RX4 30 yX4_joined, Cond.static yX4_joined, Cond.code yX4_joined cX4_joined 3 (some .int), Cond.methodLink RX0 82 yX0_due, Cond.instanceMethod yX0_due, Cond.selects RX0 yX0_due yX0_due, Cond.code yX0_due cX0_due 5 (some .int), Cond.methodLink RX0 99 yX0_bounded, Cond.static yX0_bounded, Cond.code yX0_bounded cX0_bounded 2 (some .int), Cond.methodLink RX0 86 yX0_extra]
def wsL_law_r30 : List Cond := [Cond.instanceMethod yX0_extra, Cond.selects RX0 yX0_extra yX0_extra, Cond.code yX0_extra cX0_extra 5 (some .int), Cond.methodLink RX0 89 yX0_off, Cond.instanceMethod yX0_off, Cond.selects RX0 yX0_off yX0_off, Cond.code yX0_off cX0_off 4 (some .int), Cond.methodLink RX6 135 yX0_lightsSeen, Cond.methodLink RL 30 yX7_told, Cond.methodLink RL 31 yX6_feed, Cond.instanceMethod yX6_feed, Cond.selects RX6 yX6_feed yX6_feed, Cond.code yX6_feed cX6_feed 2 (some .int), Cond.fieldLink RX6 156 "LightYearsAreOwed$Reader" "size" "I", Cond.methodLink RL 35 yX7_feed, Cond.instanceMethod yX7_feed, Cond.selects RX7 yX7_feed yX7_feed, Cond.code yX7_feed cX7_feed 2 (some .int), Cond.constantLong RX7 151 (255), Cond.fieldLink RX7 153 "LightYearsAreOwedModel" "taped" "I", Cond.methodLink RL 36 yX6_text, Cond.instanceMethod yX6_text, Cond.selects RX6 yX6_text yX6_text, Cond.code yX6_text cX6_text 2 (some .int)]
def wsL_law_r31 : List Cond := [Cond.methodLink RL 40 yX7_text, Cond.instanceMethod yX7_text, Cond.selects RX7 yX7_text yX7_text, Cond.code yX7_text cX7_text 2 (some .int), Cond.methodLink RL 41 yX6_force, Cond.instanceMethod yX6_force, Cond.selects RX6 yX6_force yX6_force, Cond.code yX6_force cX6_force 3 (some .int), Cond.methodLink RL 44 yX7_force, Cond.instanceMethod yX7_force, Cond.selects RX7 yX7_force yX7_force, Cond.code yX7_force cX7_force 3 (some .int), Cond.methodLink RL 45 yX6_owes, Cond.instanceMethod yX6_owes, Cond.selects RX6 yX6_owes yX6_owes, Cond.code yX6_owes cX6_owes 4 (some .int), Cond.methodLink RX6 162 yX0_owed, Cond.methodLink RX6 165 yX0_nightsOf, Cond.instanceMethod yX0_nightsOf, Cond.selects RX0 yX0_nightsOf yX0_nightsOf, Cond.code yX0_nightsOf cX0_nightsOf 2 (some .int), Cond.methodLink RX6 168 yX0_dueFor, Cond.instanceMethod yX0_dueFor, Cond.selects RX0 yX0_dueFor yX0_dueFor]
def wsL_law_r32 : List Cond := [Cond.code yX0_dueFor cX0_dueFor 4 (some .int), Cond.methodLink RL 48 yX7_owes, Cond.instanceMethod yX7_owes, Cond.selects RX7 yX7_owes yX7_owes, Cond.code yX7_owes cX7_owes 4 (some .int), Cond.constantLong RX7 382 (21), Cond.methodLink RL 49 yX6_all, Cond.instanceMethod yX6_all, Cond.selects RX6 yX6_all yX6_all, Cond.code yX6_all cX6_all 2 (some .int), Cond.methodLink RX6 171 yX6_allTogether, Cond.instanceMethod yX6_allTogether, Cond.selects RX6 yX6_allTogether yX6_allTogether, Cond.code yX6_allTogether cX6_allTogether 4 (some .int), Cond.methodLink RX6 174 yX6_whoOwesMost, Cond.instanceMethod yX6_whoOwesMost, Cond.selects RX6 yX6_whoOwesMost yX6_whoOwesMost, Cond.code yX6_whoOwesMost cX6_whoOwesMost 5 (some .int), Cond.methodLink RX6 177 yX5_worth, Cond.instanceMethod yX5_worth, Cond.selects RX5 yX5_worth yX5_worth, Cond.code yX5_worth cX5_worth 3 (some .int), Cond.methodLink RL 52 yX7_all, Cond.instanceMethod yX7_all]
def wsL_law_r33 : List Cond := [Cond.selects RX7 yX7_all yX7_all, Cond.code yX7_all cX7_all 6 (some .int), Cond.constantLong RX7 391 (2), Cond.methodLink RX7 393 yX7_allSum, Cond.instanceMethod yX7_allSum, Cond.selects RX7 yX7_allSum yX7_allSum, Cond.code yX7_allSum cX7_allSum 3 (some .int), Cond.methodLink RL 53 yX6_pieces, Cond.instanceMethod yX6_pieces, Cond.selects RX6 yX6_pieces yX6_pieces, Cond.code yX6_pieces cX6_pieces 3 (some .int), Cond.fieldLink RX6 184 "LightYearsAreOwed$Purse" "fewest" "I", Cond.fieldLink RX6 187 "LightYearsAreOwed$Purse" "shortBy" "I", Cond.methodLink RX6 180 yX1_seek, Cond.instanceMethod yX1_seek, Cond.selects RX1 yX1_seek yX1_seek, Cond.code yX1_seek cX1_seek 12 none, Cond.fieldLink RX1 15 "LightYearsAreOwed$Purse" "fewest" "I", Cond.fieldLink RX1 19 "LightYearsAreOwed$Purse" "shortBy" "I", Cond.methodLink RX1 26 Lib.Math.min.name, Cond.methodLink RX1 22 yX1_most, Cond.static yX1_most, Cond.code yX1_most cX1_most 4 (some .int), Cond.methodLink RX1 32 yX1_keep]
def wsL_law_r34 : List Cond := [Cond.instanceMethod yX1_keep, Cond.selects RX1 yX1_keep yX1_keep, Cond.code yX1_keep cX1_keep 5 none, Cond.methodLink RL 56 yX7_pieces, Cond.instanceMethod yX7_pieces, Cond.selects RX7 yX7_pieces yX7_pieces, Cond.code yX7_pieces cX7_pieces 5 (some .int), Cond.constant RX7 396 (1000000), Cond.methodLink RX7 397 yX7_sums, Cond.instanceMethod yX7_sums, Cond.selects RX7 yX7_sums yX7_sums, Cond.code yX7_sums cX7_sums 7 none, Cond.methodLink RX7 400 yX7_fewestFor, Cond.instanceMethod yX7_fewestFor, Cond.selects RX7 yX7_fewestFor yX7_fewestFor, Cond.code yX7_fewestFor cX7_fewestFor 2 (some .int), Cond.methodLink RL 57 yX6_pay, Cond.instanceMethod yX6_pay, Cond.selects RX6 yX6_pay yX6_pay, Cond.code yX6_pay cX6_pay 4 (some .int), Cond.fieldLink RX6 190 "LightYearsAreOwed$Purse" "way" "[I", Cond.methodLink RL 60 yX7_pay, Cond.instanceMethod yX7_pay, Cond.selects RX7 yX7_pay yX7_pay]
def wsL_law_r35 : List Cond := [Cond.code yX7_pay cX7_pay 8 (some .int), Cond.methodLink RL 61 yX6_cheapest, Cond.instanceMethod yX6_cheapest, Cond.selects RX6 yX6_cheapest yX6_cheapest, Cond.code yX6_cheapest cX6_cheapest 10 (some .int), Cond.fieldLink RX6 193 "LightYearsAreOwed$Bill" "seen" "[I", Cond.methodLink RL 64 yX7_cheapest, Cond.instanceMethod yX7_cheapest, Cond.selects RX7 yX7_cheapest yX7_cheapest, Cond.code yX7_cheapest cX7_cheapest 8 (some .int), Cond.fieldLink RX7 403 "LightYearsAreOwedModel" "found1" "I", Cond.fieldLink RX7 406 "LightYearsAreOwedModel" "value1" "I", Cond.methodLink RL 65 yX6_leave, Cond.instanceMethod yX6_leave, Cond.selects RX6 yX6_leave yX6_leave, Cond.code yX6_leave cX6_leave 8 (some .int), Cond.methodLink RL 68 yX7_leave, Cond.instanceMethod yX7_leave, Cond.selects RX7 yX7_leave yX7_leave, Cond.code yX7_leave cX7_leave 6 (some .int), Cond.methodLink RL 69 yX6_farm, Cond.instanceMethod yX6_farm, Cond.selects RX6 yX6_farm yX6_farm, Cond.code yX6_farm cX6_farm 4 (some .int)]
def wsL_law_r36 : List Cond := [Cond.constant RX6 198 (99999), Cond.methodLink RX6 199 yX0_keepNights, Cond.instanceMethod yX0_keepNights, Cond.selects RX0 yX0_keepNights yX0_keepNights, Cond.code yX0_keepNights cX0_keepNights 3 none, Cond.methodLink RL 72 yX7_farm, Cond.instanceMethod yX7_farm, Cond.selects RX7 yX7_farm yX7_farm, Cond.code yX7_farm cX7_farm 6 (some .int), Cond.constantLong RX7 409 (99999), Cond.methodLink RL 73 yX6_walk, Cond.instanceMethod yX6_walk, Cond.selects RX6 yX6_walk yX6_walk, Cond.code yX6_walk cX6_walk 9 (some .int), Cond.methodLink RX6 210 Lib.Math.min.name, Cond.methodLink RX6 218 Lib.Math.abs.name, Cond.static Lib.Math.abs.name, Cond.code Lib.Math.abs.name Lib.Math.abs.code 1 (some .int), Cond.methodLink RX6 202 yX6_whoOwe, Cond.instanceMethod yX6_whoOwe, Cond.selects RX6 yX6_whoOwe yX6_whoOwe, Cond.code yX6_whoOwe cX6_whoOwe 4 (some .int), Cond.methodLink RX6 205 yJ6_bitCount_0f7a4, Cond.methodLink RX6 221 yX6_firstAt]
def wsL_law_r37 : List Cond := [Cond.instanceMethod yX6_firstAt, Cond.selects RX6 yX6_firstAt yX6_firstAt, Cond.code yX6_firstAt cX6_firstAt 4 (some .int), Cond.methodLink RL 76 yX7_walk, Cond.instanceMethod yX7_walk, Cond.selects RX7 yX7_walk yX7_walk, Cond.code yX7_walk cX7_walk 9 (some .int), Cond.constantLong RX7 411 (99), Cond.methodLink RX7 413 yX7_apart, Cond.static yX7_apart, Cond.code yX7_apart cX7_apart 2 (some .int), Cond.methodLink RL 77 yX6_tells, Cond.instanceMethod yX6_tells, Cond.selects RX6 yX6_tells yX6_tells, Cond.code yX6_tells cX6_tells 6 (some .int), Cond.fieldLink RX6 227 "LightYearsAreOwed$Row" "sort" "I", Cond.fieldLink RX6 230 "LightYearsAreOwed$Row" "size" "I", Cond.methodLink RX6 224 yX6_isSheet, Cond.static yX6_isSheet, Cond.code yX6_isSheet cX6_isSheet 1 (some .boolean), Cond.methodLink RX6 231 yX0_firstOtherwise, Cond.instanceMethod yX0_firstOtherwise, Cond.selects RX0 yX0_firstOtherwise yX0_firstOtherwise, Cond.code yX0_firstOtherwise cX0_firstOtherwise 4 (some .int)]
def wsL_law_r38 : List Cond := [Cond.methodLink RX0 64 yX3_item, Cond.instanceMethod yX3_item, Cond.selects RX3 yX3_item yX3_item, Cond.code yX3_item cX3_item 2 (some .int), Cond.fieldLink RX3 28 "LightYearsAreOwed$Row" "size" "I", Cond.methodLink RX6 235 yX6_textsThatFit, Cond.instanceMethod yX6_textsThatFit, Cond.selects RX6 yX6_textsThatFit yX6_textsThatFit, Cond.code yX6_textsThatFit cX6_textsThatFit 4 (some .int), Cond.fieldLink RX6 250 "LightYearsAreOwed$Bill" "rule" "LLightYearsAreOwed$Rule;", Cond.methodLink RX6 239 yX6_cloudsThatFit, Cond.instanceMethod yX6_cloudsThatFit, Cond.selects RX6 yX6_cloudsThatFit yX6_cloudsThatFit, Cond.code yX6_cloudsThatFit cX6_cloudsThatFit 4 (some .int), Cond.methodLink RX6 242 yX6_traitsThatFit, Cond.instanceMethod yX6_traitsThatFit, Cond.selects RX6 yX6_traitsThatFit yX6_traitsThatFit, Cond.code yX6_traitsThatFit cX6_traitsThatFit 12 (some .int), Cond.fieldLink RX6 253 "LightYearsAreOwed$Bill" "kinds" "[I", Cond.fieldLink RX6 254 "LightYearsAreOwed$Bill" "numbers" "[I", Cond.fieldLink RX6 255 "LightYearsAreOwed$Bill" "years" "[I", Cond.methodLink RX6 256 yX3_item, Cond.methodLink RL 80 yX7_tells, Cond.instanceMethod yX7_tells]
def wsL_law_r39 : List Cond := [Cond.selects RX7 yX7_tells yX7_tells, Cond.code yX7_tells cX7_tells 13 (some .int), Cond.constantLong RX7 419 (49), Cond.methodLink RX7 421 yX7_isSheet, Cond.static yX7_isSheet, Cond.code yX7_isSheet cX7_isSheet 1 (some .boolean), Cond.methodLink RX7 416 yX7_firstOther, Cond.instanceMethod yX7_firstOther, Cond.selects RX7 yX7_firstOther yX7_firstOther, Cond.code yX7_firstOther cX7_firstOther 4 (some .int), Cond.methodLink RX7 424 yX7_cloudsBy, Cond.instanceMethod yX7_cloudsBy, Cond.selects RX7 yX7_cloudsBy yX7_cloudsBy, Cond.code yX7_cloudsBy cX7_cloudsBy 6 (some .int), Cond.methodLink RL 81 yX6_film, Cond.instanceMethod yX6_film, Cond.selects RX6 yX6_film yX6_film, Cond.code yX6_film cX6_film 5 (some .int), Cond.methodLink RX6 259 yX3_become, Cond.instanceMethod yX3_become, Cond.selects RX3 yX3_become yX3_become, Cond.code yX3_become cX3_become 4 none, Cond.methodLink RX3 19 Lib.Math.min.name, Cond.methodLink RX3 25 Lib.Math.max.name]
def wsL_law_r40 : List Cond := [Cond.methodLink RX6 263 yX3_put, Cond.instanceMethod yX3_put, Cond.selects RX3 yX3_put yX3_put, Cond.code yX3_put cX3_put 3 none, Cond.methodLink RL 84 yX7_film, Cond.instanceMethod yX7_film, Cond.selects RX7 yX7_film yX7_film, Cond.code yX7_film cX7_film 4 (some .int), Cond.methodLink RX7 427 yX7_sheet, Cond.instanceMethod yX7_sheet, Cond.selects RX7 yX7_sheet yX7_sheet, Cond.code yX7_sheet cX7_sheet 5 (some .int), Cond.constantLong RX7 444 (-1), Cond.methodLink RL 85 yX6_drawn, Cond.instanceMethod yX6_drawn, Cond.selects RX6 yX6_drawn yX6_drawn, Cond.code yX6_drawn cX6_drawn 2 (some .int), Cond.methodLink RX6 266 yX6_cloudsBy, Cond.static yX6_cloudsBy, Cond.code yX6_cloudsBy cX6_cloudsBy 4 (some .int), Cond.constant RX6 274 (1103515245), Cond.methodLink RL 88 yX7_drawn, Cond.instanceMethod yX7_drawn, Cond.selects RX7 yX7_drawn yX7_drawn]
def wsL_law_r41 : List Cond := [Cond.code yX7_drawn cX7_drawn 2 (some .int), Cond.methodLink RX7 431 yX7_allBy, Cond.instanceMethod yX7_allBy, Cond.selects RX7 yX7_allBy yX7_allBy, Cond.code yX7_allBy cX7_allBy 5 (some .int), Cond.constant RX7 430 (1103515245), Cond.methodLink RL 89 yX6_chance, Cond.instanceMethod yX6_chance, Cond.selects RX6 yX6_chance yX6_chance, Cond.code yX6_chance cX6_chance 7 (some .long), Cond.constantLong RX6 269 (-4611686018427387904), Cond.methodLink RX6 271 yX6_lowest, Cond.static yX6_lowest, Cond.code yX6_lowest cX6_lowest 3 (some .int), Cond.methodLink RL 93 yX7_chance, Cond.instanceMethod yX7_chance, Cond.selects RX7 yX7_chance yX7_chance, Cond.code yX7_chance cX7_chance 13 (some .long), Cond.constantLong RX7 434 (20), Cond.constantLong RX7 436 (-4611686018427387904), Cond.methodLink RL 94 yX6_image, Cond.instanceMethod yX6_image, Cond.selects RX6 yX6_image yX6_image, Cond.code yX6_image cX6_image 1 (some .int)]
def wsL_law_r42 : List Cond := [Cond.fieldLink RX6 278 "LightYearsAreOwed" "hasImage" "Z", Cond.methodLink RX6 275 yX5_become, Cond.instanceMethod yX5_become, Cond.selects RX5 yX5_become yX5_become, Cond.code yX5_become cX5_become 2 none, Cond.fieldLink RX5 36 "LightYearsAreOwed$Sky" "clouds" "I", Cond.fieldLink RX5 40 "LightYearsAreOwed$Sky" "rule" "I", Cond.methodLink RX5 46 arraycopyName, Cond.native arraycopyName, Cond.static arraycopyName, Cond.initialized "java/lang/System", Cond.methodLink RL 97 yX7_image, Cond.instanceMethod yX7_image, Cond.selects RX7 yX7_image yX7_image, Cond.code yX7_image cX7_image 2 (some .int), Cond.fieldLink RX7 438 "LightYearsAreOwedModel" "cloudsKept" "I", Cond.fieldLink RX7 441 "LightYearsAreOwedModel" "ruleKept" "I", Cond.methodLink RL 98 yX6_back, Cond.instanceMethod yX6_back, Cond.selects RX6 yX6_back yX6_back, Cond.code yX6_back cX6_back 1 (some .int), Cond.methodLink RL 101 yX7_back, Cond.instanceMethod yX7_back, Cond.selects RX7 yX7_back yX7_back]
def wsL_law_r43 : List Cond := [Cond.code yX7_back cX7_back 2 (some .int), Cond.methodLink RL 102 yX6_count, Cond.instanceMethod yX6_count, Cond.selects RX6 yX6_count yX6_count, Cond.code yX6_count cX6_count 2 (some .int), Cond.methodLink RX6 282 yX5_pieceCount, Cond.instanceMethod yX5_pieceCount, Cond.selects RX5 yX5_pieceCount yX5_pieceCount, Cond.code yX5_pieceCount cX5_pieceCount 3 (some .int), Cond.methodLink RL 105 yX7_count, Cond.instanceMethod yX7_count, Cond.selects RX7 yX7_count yX7_count, Cond.code yX7_count cX7_count 2 (some .int), Cond.methodLink RL 106 yX6_sheet, Cond.instanceMethod yX6_sheet, Cond.selects RX6 yX6_sheet yX6_sheet, Cond.code yX6_sheet cX6_sheet 4 (some .int), Cond.methodLink RL 109 yX7_sheet, Cond.methodLink RL 110 yX6_cell, Cond.instanceMethod yX6_cell, Cond.selects RX6 yX6_cell yX6_cell, Cond.code yX6_cell cX6_cell 5 (some .int), Cond.methodLink RL 113 yX7_cell, Cond.instanceMethod yX7_cell]
def wsL_law_r44 : List Cond := [Cond.selects RX7 yX7_cell yX7_cell, Cond.code yX7_cell cX7_cell 4 (some .int), Cond.methodLink RL 114 yX6_copy, Cond.instanceMethod yX6_copy, Cond.selects RX6 yX6_copy yX6_copy, Cond.code yX6_copy cX6_copy 8 (some .int), Cond.fieldLink RX6 289 "LightYearsAreOwed$Row" "items" "[I", Cond.methodLink RX6 292 arraycopyName, Cond.methodLink RX6 285 yX3_has, Cond.instanceMethod yX3_has, Cond.selects RX3 yX3_has yX3_has, Cond.code yX3_has cX3_has 3 (some .boolean), Cond.methodLink RL 118 yX7_copy, Cond.instanceMethod yX7_copy, Cond.selects RX7 yX7_copy yX7_copy, Cond.code yX7_copy cX7_copy 9 (some .int), Cond.methodLink RL 119 yX6_lights, Cond.instanceMethod yX6_lights, Cond.selects RX6 yX6_lights yX6_lights, Cond.code yX6_lights cX6_lights 9 (some .int), Cond.methodLink RX6 298 yX6_light, Cond.methodLink RL 123 yX7_lights, Cond.instanceMethod yX7_lights, Cond.selects RX7 yX7_lights yX7_lights]
def wsL_law_r45 : List Cond := [Cond.code yX7_lights cX7_lights 8 (some .int), Cond.constantLong RX7 446 (6), Cond.methodLink RX7 448 yX7_light, Cond.methodLink RL 124 yX6_taken, Cond.instanceMethod yX6_taken, Cond.selects RX6 yX6_taken yX6_taken, Cond.code yX6_taken cX6_taken 5 (some .int), Cond.fieldLink RX6 301 "LightYearsAreOwed" "UNDER" "[I", Cond.methodLink RL 127 yX7_taken, Cond.instanceMethod yX7_taken, Cond.selects RX7 yX7_taken yX7_taken, Cond.code yX7_taken cX7_taken 4 (some .int), Cond.methodLink RX7 451 yX7_over, Cond.static yX7_over, Cond.code yX7_over cX7_over 1 (some .int)]
def wsL_law : List Cond := (wsL_law_r1 ++ (wsL_law_r2 ++ (wsL_law_r3 ++ (wsL_law_r4 ++ (wsL_law_r5 ++ (wsL_law_r6 ++ (wsL_law_r7 ++ (wsL_law_r8 ++ (wsL_law_r9 ++ (wsL_law_r10 ++ (wsL_law_r11 ++ (wsL_law_r12 ++ (wsL_law_r13 ++ (wsL_law_r14 ++ (wsL_law_r15 ++ (wsL_law_r16 ++ (wsL_law_r17 ++ (wsL_law_r18 ++ (wsL_law_r19 ++ (wsL_law_r20 ++ (wsL_law_r21 ++ (wsL_law_r22 ++ (wsL_law_r23 ++ (wsL_law_r24 ++ (wsL_law_r25 ++ (wsL_law_r26 ++ (wsL_law_r27 ++ (wsL_law_r28 ++ (wsL_law_r29 ++ (wsL_law_r30 ++ (wsL_law_r31 ++ (wsL_law_r32 ++ (wsL_law_r33 ++ (wsL_law_r34 ++ (wsL_law_r35 ++ (wsL_law_r36 ++ (wsL_law_r37 ++ (wsL_law_r38 ++ (wsL_law_r39 ++ (wsL_law_r40 ++ (wsL_law_r41 ++ (wsL_law_r42 ++ (wsL_law_r43 ++ (wsL_law_r44 ++ wsL_law_r45)))))))))))))))))))))))))))))))))))))))))))) ++ wsX60 ++ wsX70 ++ wsX50 ++ wsX10 ++ wsX40 ++ wsX30 ++ wsX20 ++ wsX00 ++ ([] : List Cond)
def vz (big : List Cond) : List Cond → List Nat → Bool
  | [], _ => true
  | w :: l, q :: r => decide (big[q]? = some w) && goodWord w && vz big l r
  | _ :: _, [] => false
theorem goodIn_z {big : List Cond} (ws : List Cond) (ps qs : List Nat) (hp : ws.filter k2_isCode = ps.filterMap (fun i => big[i]?)) (h : vz big (ws.filter (fun w => !k2_isCode w)) qs = true) : GoodIn big ws := by
  have key : ∀ (l : List Cond) (r : List Nat), vz big l r = true → ∀ w ∈ l, w ∈ big ∧ goodWord w = true := by
    intro l
    induction l with
    | nil => intro r _ w hw; cases hw
    | cons a l ih =>
      intro r hr w hw
      cases r with
      | nil => simp [vz] at hr
      | cons q r =>
        simp only [vz, Bool.and_eq_true, decide_eq_true_eq] at hr
        rcases List.mem_cons.mp hw with rfl | hw
        · exact ⟨List.mem_of_getElem? hr.1.1, hr.1.2⟩
        · exact ih r hr.2 w hw
  intro w hw
  by_cases hc : k2_isCode w = true
  · have h1 : w ∈ ws.filter k2_isCode := List.mem_filter.mpr ⟨hw, hc⟩
    rw [hp] at h1
    obtain ⟨i, -, hi⟩ := List.mem_filterMap.mp h1
    refine ⟨List.mem_of_getElem? hi, ?_⟩
    cases w <;> first | (simp [k2_isCode] at hc; done) | exact Or.inl rfl
  · obtain ⟨h1, h2⟩ := key _ _ h w (List.mem_filter.mpr ⟨hw, by simpa using hc⟩)
    exact ⟨h1, good_of_word h2⟩
theorem goodIn_ap {big a b : List Cond} (ha : GoodIn big a) (hb : GoodIn big b) : GoodIn big (a ++ b) := fun w h => (List.mem_append.mp h).elim (ha w) (hb w)
set_option maxRecDepth 20000 in
theorem wr_1 : GoodIn lw_tbl wsL_law_r1 := goodIn_z _ [118, 121] [114, 115, 99, 809, 810, 110, 116, 117, 119, 120, 122, 123, 100, 462, 463, 180, 465, 182, 183, 101, 469, 201] rfl (by decide +kernel)
set_option maxRecDepth 20000 in
theorem wr_2 : GoodIn lw_tbl wsL_law_r2 := goodIn_z _ [126] [470, 203, 102, 222, 103, 153, 240, 241, 104, 467, 272, 273, 105, 468, 466, 125, 127, 179, 136, 139, 142, 145, 148] rfl (by decide +kernel)
set_option maxRecDepth 20000 in
theorem wr_3 : GoodIn lw_tbl wsL_law_r3 := goodIn_z _ [186, 206, 225, 244] [150, 152, 154, 185, 187, 192, 205, 207, 210, 211, 224, 226, 227, 231, 242, 243, 245, 248, 249, 274] rfl (by decide +kernel)
set_option maxRecDepth 20000 in
theorem wr_4 : GoodIn lw_tbl wsL_law_r4 := goodIn_z _ [276, 316, 320] [275, 277, 282, 284, 286, 288, 291, 292, 280, 313, 314, 315, 106, 1387, 317, 318, 319, 321, 1388, 323, 324] rfl (by decide +kernel)
set_option maxRecDepth 20000 in
theorem wr_5 : GoodIn lw_tbl wsL_law_r5 := goodIn_z _ [326, 330, 333, 336, 341, 344] [325, 327, 328, 329, 331, 332, 107, 334, 335, 337, 339, 340, 108, 342, 343, 109, 345, 346] rfl (by decide +kernel)
set_option maxRecDepth 20000 in
theorem wr_6 : GoodIn lw_tbl wsL_law_r6 := goodIn_z _ [347, 350, 354, 364, 368] [348, 349, 351, 352, 353, 355, 357, 359, 361, 362, 363, 246, 365, 366, 367, 250, 252, 253, 369] rfl (by decide +kernel)
set_option maxRecDepth 20000 in
theorem wr_7 : GoodIn lw_tbl wsL_law_r7 := goodIn_z _ [372, 376, 380, 383, 387] [370, 371, 212, 208, 373, 375, 0, 251, 377, 379, 1, 381, 382, 384, 386, 2, 254, 389, 390] rfl (by decide +kernel)
set_option maxRecDepth 20000 in
theorem wr_8 : GoodIn lw_tbl wsL_law_r8 := goodIn_z _ [394, 397, 401, 404, 408, 412] [391, 393, 3, 395, 396, 398, 400, 4, 402, 403, 405, 407, 5, 409, 411, 6, 413, 415] rfl (by decide +kernel)
set_option maxRecDepth 20000 in
theorem wr_9 : GoodIn lw_tbl wsL_law_r9 := goodIn_z _ [416, 432, 436, 420, 424, 428] [7, 417, 419, 8, 429, 430, 431, 433, 434, 435, 421, 423, 9, 425, 427, 10, 437, 439] rfl (by decide +kernel)
set_option maxRecDepth 20000 in
theorem wr_10 : GoodIn lw_tbl wsL_law_r10 := goodIn_z _ [448, 453, 440, 444, 457, 461] [11, 449, 450, 451, 452, 445, 447, 13, 441, 443, 12, 454, 455, 456, 458, 459, 460, 811] rfl (by decide +kernel)
set_option maxRecDepth 20000 in
theorem wr_11 : GoodIn lw_tbl wsL_law_r11 := goodIn_z _ [813] [812, 814, 819, 820, 823, 826, 827, 828, 830, 831, 832, 833, 834, 850, 853, 854, 855, 856, 857, 858, 859, 860, 861] rfl (by decide +kernel)
set_option maxRecDepth 20000 in
theorem wr_12 : GoodIn lw_tbl wsL_law_r12 := goodIn_z _ [818, 494, 502] [969, 864, 865, 866, 867, 821, 815, 817, 33, 491, 492, 493, 495, 497, 130, 499, 501, 14, 141, 144, 149] rfl (by decide +kernel)
set_option maxRecDepth 20000 in
theorem wr_13 : GoodIn lw_tbl wsL_law_r13 := goodIn_z _ [506, 973, 977, 981, 985] [155, 138, 503, 505, 15, 135, 970, 971, 972, 974, 975, 976, 978, 980, 34, 986, 982, 984, 35] rfl (by decide +kernel)
set_option maxRecDepth 20000 in
theorem wr_14 : GoodIn lw_tbl wsL_law_r14 := goodIn_z _ [989, 993, 997, 1002, 1006] [829, 987, 988, 990, 991, 992, 994, 995, 996, 998, 825, 999, 1001, 36, 1232, 1003, 1005, 37, 1007] rfl (by decide +kernel)
set_option maxRecDepth 20000 in
theorem wr_15 : GoodIn lw_tbl wsL_law_r15 := goodIn_z _ [1010, 1014, 1017, 1021, 1025] [1009, 38, 1011, 1013, 39, 1015, 1016, 1018, 1020, 40, 1022, 1024, 41, 835, 836, 837, 838, 839, 840] rfl (by decide +kernel)
set_option maxRecDepth 20000 in
theorem wr_16 : GoodIn lw_tbl wsL_law_r16 := goodIn_z _ [1029, 1033, 1037] [822, 1026, 1028, 42, 1030, 1032, 43, 841, 842, 843, 847, 848, 844, 1034, 1036, 44, 845, 1042, 1043, 1044, 1045] rfl (by decide +kernel)
set_option maxRecDepth 20000 in
theorem wr_17 : GoodIn lw_tbl wsL_law_r17 := goodIn_z _ [1041, 1050, 1054, 1058, 1062] [846, 1046, 1038, 1040, 45, 1047, 1049, 46, 1051, 1053, 47, 1055, 1057, 48, 1059, 1061, 49, 849, 1063] rfl (by decide +kernel)
set_option maxRecDepth 20000 in
theorem wr_18 : GoodIn lw_tbl wsL_law_r18 := goodIn_z _ [1066, 1070, 1074, 1078, 1082, 1086] [1065, 50, 1067, 1069, 51, 1071, 1073, 52, 1120, 1075, 1077, 53, 1079, 1081, 54, 1083, 1085, 55] rfl (by decide +kernel)
set_option maxRecDepth 20000 in
theorem wr_19 : GoodIn lw_tbl wsL_law_r19 := goodIn_z _ [1090, 1094, 1098, 1102, 1106] [1087, 1089, 56, 1091, 1093, 57, 1095, 1097, 58, 1099, 1101, 59, 1119, 1103, 1105, 60, 1107, 1109, 61] rfl (by decide +kernel)
set_option maxRecDepth 20000 in
theorem wr_20 : GoodIn lw_tbl wsL_law_r20 := goodIn_z _ [1110, 1114, 1118, 1124, 1128, 1132] [1111, 1113, 62, 1115, 1117, 63, 1121, 1123, 64, 1125, 1127, 65, 1129, 1131, 66, 1133, 1135, 67] rfl (by decide +kernel)
set_option maxRecDepth 20000 in
theorem wr_21 : GoodIn lw_tbl wsL_law_r21 := goodIn_z _ [1136, 1140, 1144, 1148, 1152, 1156] [1137, 1139, 68, 1141, 1143, 69, 1145, 1147, 70, 1149, 1151, 71, 1153, 1155, 72, 1157, 1159, 73] rfl (by decide +kernel)
set_option maxRecDepth 20000 in
theorem wr_22 : GoodIn lw_tbl wsL_law_r22 := goodIn_z _ [1160, 1164, 1168, 1172, 1176, 1180] [1161, 1163, 74, 1165, 1167, 75, 1169, 1171, 76, 1173, 1175, 77, 1177, 1179, 78, 1181, 1183, 79] rfl (by decide +kernel)
set_option maxRecDepth 20000 in
theorem wr_23 : GoodIn lw_tbl wsL_law_r23 := goodIn_z _ [1184, 1188, 1192, 1196, 1200, 1204] [1185, 1187, 80, 1189, 1191, 81, 1193, 1195, 82, 1197, 1199, 83, 1201, 1203, 84, 1205, 1207, 85] rfl (by decide +kernel)
set_option maxRecDepth 20000 in
theorem wr_24 : GoodIn lw_tbl wsL_law_r24 := goodIn_z _ [1208, 1212, 1216, 1220, 1223, 1227, 1231] [1209, 1211, 86, 1213, 1215, 87, 1217, 1219, 88, 1221, 1222, 1224, 1226, 89, 1228, 1230, 90] rfl (by decide +kernel)
set_option maxRecDepth 20000 in
theorem wr_25 : GoodIn lw_tbl wsL_law_r25 := goodIn_z _ [1236, 510, 513, 517, 1240] [1233, 1235, 91, 507, 508, 509, 511, 512, 514, 515, 516, 134, 1237, 1238, 1239, 1241, 518, 519, 520] rfl (by decide +kernel)
set_option maxRecDepth 20000 in
theorem wr_26 : GoodIn lw_tbl wsL_law_r26 := goodIn_z _ [521, 524, 528, 1245, 532, 536] [147, 522, 523, 525, 527, 16, 1242, 1243, 1244, 1246, 529, 530, 531, 533, 535, 17, 151, 537] rfl (by decide +kernel)
set_option maxRecDepth 20000 in
theorem wr_27 : GoodIn lw_tbl wsL_law_r27 := goodIn_z _ [540, 602, 544, 548, 552] [539, 18, 279, 603, 601, 111, 541, 543, 19, 132, 545, 547, 20, 549, 550, 551, 128, 278, 133] rfl (by decide +kernel)
set_option maxRecDepth 20000 in
theorem wr_28 : GoodIn lw_tbl wsL_law_r28 := goodIn_z _ [555, 559, 563, 567] [553, 554, 290, 137, 140, 143, 146, 556, 557, 558, 560, 561, 562, 209, 600, 564, 566, 21, 568, 569] rfl (by decide +kernel)
set_option maxRecDepth 20000 in
theorem wr_29 : GoodIn lw_tbl wsL_law_r29 := goodIn_z _ [570, 577, 581, 584, 588, 591] [112, 571, 572, 573, 574, 575, 576, 578, 579, 580, 582, 583, 585, 587, 22, 589, 590, 592] rfl (by decide +kernel)
set_option maxRecDepth 20000 in
theorem wr_30 : GoodIn lw_tbl wsL_law_r30 := goodIn_z _ [595, 599, 608, 1251, 612] [594, 23, 596, 598, 24, 604, 1247, 605, 606, 607, 247, 1248, 1249, 1250, 1252, 824, 609, 610, 611] rfl (by decide +kernel)
set_option maxRecDepth 20000 in
theorem wr_31 : GoodIn lw_tbl wsL_law_r31 := goodIn_z _ [1256, 616, 1260, 620, 625] [1253, 1254, 1255, 613, 614, 615, 1257, 1258, 1259, 617, 618, 619, 621, 622, 623, 624, 626, 627, 628] rfl (by decide +kernel)
set_option maxRecDepth 20000 in
theorem wr_32 : GoodIn lw_tbl wsL_law_r32 := goodIn_z _ [629, 1264, 633, 637, 641, 645] [1261, 1262, 1263, 1265, 630, 631, 632, 634, 636, 25, 638, 640, 26, 642, 643, 644, 1266, 1267] rfl (by decide +kernel)
set_option maxRecDepth 20000 in
theorem wr_33 : GoodIn lw_tbl wsL_law_r33 := goodIn_z _ [1269, 1274, 649, 653, 656] [1268, 1270, 1271, 1273, 92, 646, 647, 648, 189, 191, 650, 651, 652, 188, 190, 657, 654, 655, 658] rfl (by decide +kernel)
set_option maxRecDepth 20000 in
theorem wr_34 : GoodIn lw_tbl wsL_law_r34 := goodIn_z _ [661, 1278, 1282, 1287, 665] [660, 27, 1275, 1276, 1277, 1283, 1279, 1281, 93, 1284, 1286, 94, 662, 663, 664, 193, 1288, 1289, 1290] rfl (by decide +kernel)
set_option maxRecDepth 20000 in
theorem wr_35 : GoodIn lw_tbl wsL_law_r35 := goodIn_z _ [1291, 669, 1295, 673, 1299, 677] [666, 667, 668, 289, 1292, 1293, 1294, 851, 852, 670, 671, 672, 1296, 1297, 1298, 674, 675, 676] rfl (by decide +kernel)
set_option maxRecDepth 20000 in
theorem wr_36 : GoodIn lw_tbl wsL_law_r36 := goodIn_z _ [682, 1303, 686, 695, 690] [678, 679, 680, 681, 1300, 1301, 1302, 1304, 683, 684, 685, 692, 693, 694, 687, 689, 28, 691, 696] rfl (by decide +kernel)
set_option maxRecDepth 20000 in
theorem wr_37 : GoodIn lw_tbl wsL_law_r37 := goodIn_z _ [699, 1308, 1312, 703, 706, 710] [698, 29, 1305, 1306, 1307, 1309, 1310, 1311, 700, 701, 702, 228, 230, 704, 705, 707, 708, 709] rfl (by decide +kernel)
set_option maxRecDepth 20000 in
theorem wr_38 : GoodIn lw_tbl wsL_law_r38 := goodIn_z _ [714, 718, 722, 726] [711, 712, 713, 229, 715, 717, 30, 281, 719, 721, 31, 723, 725, 32, 283, 285, 287, 727, 1313, 1314] rfl (by decide +kernel)
set_option maxRecDepth 20000 in
theorem wr_39 : GoodIn lw_tbl wsL_law_r39 := goodIn_z _ [1316, 1320, 1324, 1328, 731, 735] [1315, 1317, 1318, 1319, 1321, 1323, 95, 1325, 1327, 96, 728, 729, 730, 732, 733, 734, 736, 737] rfl (by decide +kernel)
set_option maxRecDepth 20000 in
theorem wr_40 : GoodIn lw_tbl wsL_law_r40 := goodIn_z _ [741, 1332, 1336, 745, 748] [738, 739, 740, 1329, 1330, 1331, 1333, 1334, 1335, 1337, 742, 743, 744, 746, 747, 749, 1338, 1339, 1340] rfl (by decide +kernel)
set_option maxRecDepth 20000 in
theorem wr_41 : GoodIn lw_tbl wsL_law_r41 := goodIn_z _ [1341, 1345, 753, 757, 1350, 761] [1342, 1344, 97, 1346, 750, 751, 752, 754, 755, 756, 1347, 1348, 1349, 1351, 1352, 758, 759, 760] rfl (by decide +kernel)
set_option maxRecDepth 20000 in
theorem wr_42 : GoodIn lw_tbl wsL_law_r42 := goodIn_z _ [765, 1356, 772] [464, 762, 763, 764, 129, 131, 766, 768, 767, 113, 1353, 1354, 1355, 862, 863, 769, 770, 771, 1357, 1358, 1359] rfl (by decide +kernel)
set_option maxRecDepth 20000 in
theorem wr_43 : GoodIn lw_tbl wsL_law_r43 := goodIn_z _ [1360, 776, 780, 1364, 784, 788] [773, 774, 775, 777, 778, 779, 1361, 1362, 1363, 781, 782, 783, 1365, 785, 786, 787, 1366, 1367] rfl (by decide +kernel)
set_option maxRecDepth 20000 in
theorem wr_44 : GoodIn lw_tbl wsL_law_r44 := goodIn_z _ [1369, 792, 796, 1373, 801] [1368, 789, 790, 791, 232, 797, 793, 794, 795, 1370, 1371, 1372, 798, 799, 800, 802, 1374, 1375, 1376] rfl (by decide +kernel)
set_option maxRecDepth 20000 in
theorem wr_45 : GoodIn lw_tbl wsL_law_r45 := goodIn_z _ [1377, 806, 1383, 1386] [1378, 1379, 803, 804, 805, 807, 1380, 1381, 1382, 1384, 1385] rfl (by decide +kernel)
set_option maxRecDepth 20000 in
theorem wx_0 : GoodIn lw_tbl wsX00 := goodIn_z _ [] [293, 295, 297, 299, 301, 303, 305, 307, 309] rfl (by decide +kernel)
set_option maxRecDepth 20000 in
theorem wx_1 : GoodIn lw_tbl wsX10 := goodIn_z _ [] [194, 196, 198] rfl (by decide +kernel)
set_option maxRecDepth 20000 in
theorem wx_2 : GoodIn lw_tbl wsX20 := goodIn_z _ [] [255, 257, 259, 261, 263, 265, 267, 269] rfl (by decide +kernel)
set_option maxRecDepth 20000 in
theorem wx_3 : GoodIn lw_tbl wsX30 := goodIn_z _ [] [233, 235, 237] rfl (by decide +kernel)
set_option maxRecDepth 20000 in
theorem wx_4 : GoodIn lw_tbl wsX40 := goodIn_z _ [] [213, 215, 217, 219] rfl (by decide +kernel)
set_option maxRecDepth 20000 in
theorem wx_5 : GoodIn lw_tbl wsX50 := goodIn_z _ [] [156, 158, 160, 162, 164, 166, 168, 170, 172, 174, 176] rfl (by decide +kernel)
set_option maxRecDepth 20000 in
theorem wx_6 : GoodIn lw_tbl wsX60 := goodIn_z _ [] [471, 473, 475, 477, 479, 481, 483, 485, 487] rfl (by decide +kernel)
set_option maxRecDepth 20000 in
theorem wx_7 : GoodIn lw_tbl wsX70 := goodIn_z _ [] [868, 870, 872, 874, 876, 878, 880, 882, 884, 886, 888, 890, 892, 894, 896, 898, 900, 902, 904, 906, 908, 910, 912, 914, 916, 918, 920, 922, 924, 926, 928, 930, 932, 934, 936, 938, 940, 942, 944, 946, 948, 950, 952, 954, 956, 958, 960, 962, 964, 966] rfl (by decide +kernel)
theorem wsL_law_good : GoodIn lw_tbl wsL_law := goodIn_ap (goodIn_ap (goodIn_ap (goodIn_ap (goodIn_ap (goodIn_ap (goodIn_ap (goodIn_ap (goodIn_ap (goodIn_ap wr_1 (goodIn_ap wr_2 (goodIn_ap wr_3 (goodIn_ap wr_4 (goodIn_ap wr_5 (goodIn_ap wr_6 (goodIn_ap wr_7 (goodIn_ap wr_8 (goodIn_ap wr_9 (goodIn_ap wr_10 (goodIn_ap wr_11 (goodIn_ap wr_12 (goodIn_ap wr_13 (goodIn_ap wr_14 (goodIn_ap wr_15 (goodIn_ap wr_16 (goodIn_ap wr_17 (goodIn_ap wr_18 (goodIn_ap wr_19 (goodIn_ap wr_20 (goodIn_ap wr_21 (goodIn_ap wr_22 (goodIn_ap wr_23 (goodIn_ap wr_24 (goodIn_ap wr_25 (goodIn_ap wr_26 (goodIn_ap wr_27 (goodIn_ap wr_28 (goodIn_ap wr_29 (goodIn_ap wr_30 (goodIn_ap wr_31 (goodIn_ap wr_32 (goodIn_ap wr_33 (goodIn_ap wr_34 (goodIn_ap wr_35 (goodIn_ap wr_36 (goodIn_ap wr_37 (goodIn_ap wr_38 (goodIn_ap wr_39 (goodIn_ap wr_40 (goodIn_ap wr_41 (goodIn_ap wr_42 (goodIn_ap wr_43 (goodIn_ap wr_44 (wr_45))))))))))))))))))))))))))))))))))))))))))))) wx_6) wx_7) wx_5) wx_1) wx_4) wx_3) wx_2) wx_0) (fun _ h => absurd h List.not_mem_nil)
theorem wsL_law_in : ∀ w ∈ wsL_law, w ∈ lw_tbl := fun w h => (wsL_law_good w h).1
theorem inlX0 : ∀ w ∈ wsX00, w ∈ wsL_law := fun _ h => List.mem_append_left _ (List.mem_append_right _ h)
theorem inlX1 : ∀ w ∈ wsX10, w ∈ wsL_law := fun _ h => List.mem_append_left _ (List.mem_append_left _ (List.mem_append_left _ (List.mem_append_left _ (List.mem_append_left _ (List.mem_append_right _ h)))))
theorem inlX2 : ∀ w ∈ wsX20, w ∈ wsL_law := fun _ h => List.mem_append_left _ (List.mem_append_left _ (List.mem_append_right _ h))
theorem inlX3 : ∀ w ∈ wsX30, w ∈ wsL_law := fun _ h => List.mem_append_left _ (List.mem_append_left _ (List.mem_append_left _ (List.mem_append_right _ h)))
theorem inlX4 : ∀ w ∈ wsX40, w ∈ wsL_law := fun _ h => List.mem_append_left _ (List.mem_append_left _ (List.mem_append_left _ (List.mem_append_left _ (List.mem_append_right _ h))))
theorem inlX5 : ∀ w ∈ wsX50, w ∈ wsL_law := fun _ h => List.mem_append_left _ (List.mem_append_left _ (List.mem_append_left _ (List.mem_append_left _ (List.mem_append_left _ (List.mem_append_left _ (List.mem_append_right _ h))))))
theorem inlX6 : ∀ w ∈ wsX60, w ∈ wsL_law := fun _ h => List.mem_append_left _ (List.mem_append_left _ (List.mem_append_left _ (List.mem_append_left _ (List.mem_append_left _ (List.mem_append_left _ (List.mem_append_left _ (List.mem_append_left _ (List.mem_append_right _ h))))))))
theorem inlX7 : ∀ w ∈ wsX70, w ∈ wsL_law := fun _ h => List.mem_append_left _ (List.mem_append_left _ (List.mem_append_left _ (List.mem_append_left _ (List.mem_append_left _ (List.mem_append_left _ (List.mem_append_left _ (List.mem_append_right _ h)))))))
abbrev vwCl : List vw_C := [(RX0, TX0, 9), (RX1, TX1, 3), (RX2, TX2, 8), (RX3, TX3, 3), (RX4, TX4, 4), (RX5, TX5, 11), (RX6, TX6, 9), (RX7, TX7, 50)]
