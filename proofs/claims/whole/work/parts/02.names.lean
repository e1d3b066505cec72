def RX0 : String := "ThreeBreaths$Board"
def TX0 : u_T := fun k => match k with
  | 0 => ("ThreeBreaths$Board", "cake", "LThreeBreaths$Cake;", false)
  | 1 => ("ThreeBreaths$Board", "laid", "I", false)
  | 2 => ("ThreeBreaths$Board", "breaths", "I", false)
  | 3 => ("ThreeBreaths$Board", "fanOf", "[I", true)
  | 4 => ("ThreeBreaths$Board", "unlikeOf", "[I", true)
  | 5 => ("ThreeBreaths$Board", "unlike", "[I", true)
  | 6 => ("ThreeBreaths$Board", "sharers", "[I", true)
  | 7 => ("ThreeBreaths$Board", "unlikeCount", "I", false)
  | 8 => ("ThreeBreaths$Board", "unlikeBySet", "[I", true)
  | 9 => ("ThreeBreaths$Board", "lit", "[I", true)
  | 10 => ("ThreeBreaths$Board", "trickBits", "[I", true)
  | 11 => ("ThreeBreaths$Board", "tricks", "I", false)
  | 12 => ("ThreeBreaths$Board", "dazes", "[I", true)
  | 13 => ("ThreeBreaths$Board", "missing", "I", false)
  | _ => ("ThreeBreaths$Board", "guestLights", "I", false)
def tyX0 : Nat → FieldType := fun k => match k with
  | 0 => .object "ThreeBreaths$Cake"
  | 1 => .int
  | 2 => .int
  | 3 => .array .int
  | 4 => .array .int
  | 5 => .array .int
  | 6 => .array .int
  | 7 => .int
  | 8 => .array .int
  | 9 => .array .int
  | 10 => .array .int
  | 11 => .int
  | 12 => .array .int
  | 13 => .int
  | _ => .int
abbrev wsX00 : List Cond := u_ws RX0 TX0 15
theorem nmX0 : ∀ a, a < 15 → ∀ b, b < 15 → a ≠ b → (TX0 a).2.1 ≠ (TX0 b).2.1 := by decide +kernel
theorem tyX0_ok : ∀ k, k < 15 → parseFieldDescriptor (TX0 k).2.2.1 = some (tyX0 k) := by decide +kernel
abbrev cX0_init : ByteArray := prog_2_method_1_code
def yX0_init : MethodName := ⟨RX0, "<init>", "()V"⟩
abbrev cX0_lay : ByteArray := prog_2_method_2_code
def yX0_lay : MethodName := ⟨RX0, "lay", "(LThreeBreaths$Cake;)V"⟩
abbrev cX0_findFans : ByteArray := prog_2_method_3_code
def yX0_findFans : MethodName := ⟨RX0, "findFans", "()V"⟩
abbrev cX0_isIn : ByteArray := prog_2_method_4_code
def yX0_isIn : MethodName := ⟨RX0, "isIn", "(IIIZ)Z"⟩
abbrev cX0_findUnlikeFans : ByteArray := prog_2_method_5_code
def yX0_findUnlikeFans : MethodName := ⟨RX0, "findUnlikeFans", "()V"⟩
abbrev cX0_findTricks : ByteArray := prog_2_method_6_code
def yX0_findTricks : MethodName := ⟨RX0, "findTricks", "()V"⟩
abbrev cX0_findLit : ByteArray := prog_2_method_7_code
def yX0_findLit : MethodName := ⟨RX0, "findLit", "()V"⟩
abbrev cX0_litBy : ByteArray := prog_2_method_8_code
def yX0_litBy : MethodName := ⟨RX0, "litBy", "(I)I"⟩
abbrev cX0_isNear : ByteArray := prog_2_method_9_code
def yX0_isNear : MethodName := ⟨RX0, "isNear", "(III)Z"⟩
abbrev cX0_lightersOf : ByteArray := prog_2_method_10_code
def yX0_lightersOf : MethodName := ⟨RX0, "lightersOf", "(I)I"⟩
abbrev cX0_breathBy : ByteArray := prog_2_method_11_code
def yX0_breathBy : MethodName := ⟨RX0, "breathBy", "(III)I"⟩
abbrev cX0_wayOf : ByteArray := prog_2_method_12_code
def yX0_wayOf : MethodName := ⟨RX0, "wayOf", "(I)I"⟩
abbrev cX0_placeOf : ByteArray := prog_2_method_13_code
def yX0_placeOf : MethodName := ⟨RX0, "placeOf", "(I)I"⟩
abbrev cX0_personOf : ByteArray := prog_2_method_14_code
def yX0_personOf : MethodName := ⟨RX0, "personOf", "(I)I"⟩
abbrev cX0_unlikeFansWithCandles : ByteArray := prog_2_method_15_code
def yX0_unlikeFansWithCandles : MethodName := ⟨RX0, "unlikeFansWithCandles", "()I"⟩
abbrev cX0_outOfAllFans : ByteArray := prog_2_method_16_code
def yX0_outOfAllFans : MethodName := ⟨RX0, "outOfAllFans", "()I"⟩
abbrev cX0_allCandles : ByteArray := prog_2_method_17_code
def yX0_allCandles : MethodName := ⟨RX0, "allCandles", "()I"⟩
abbrev cX0_allBurning : ByteArray := prog_2_method_18_code
def yX0_allBurning : MethodName := ⟨RX0, "allBurning", "()I"⟩
abbrev cX0_burningIn : ByteArray := prog_2_method_19_code
def yX0_burningIn : MethodName := ⟨RX0, "burningIn", "(I)I"⟩
abbrev cX0_countIn : ByteArray := prog_2_method_20_code
def yX0_countIn : MethodName := ⟨RX0, "countIn", "(I)I"⟩
abbrev cX0_dazedIn : ByteArray := prog_2_method_21_code
def yX0_dazedIn : MethodName := ⟨RX0, "dazedIn", "(I)I"⟩
abbrev cX0_burns : ByteArray := prog_2_method_22_code
def yX0_burns : MethodName := ⟨RX0, "burns", "(II)Z"⟩
abbrev cX0_withLit : ByteArray := prog_2_method_23_code
def yX0_withLit : MethodName := ⟨RX0, "withLit", "(II)I"⟩
abbrev cX0_without : ByteArray := prog_2_method_24_code
def yX0_without : MethodName := ⟨RX0, "without", "(II)I"⟩
abbrev cX0_moment : ByteArray := prog_2_method_25_code
def yX0_moment : MethodName := ⟨RX0, "moment", "(II)I"⟩
abbrev cX0_behind : ByteArray := prog_2_method_26_code
def yX0_behind : MethodName := ⟨RX0, "behind", "(II)I"⟩
abbrev cX0_gainOf : ByteArray := prog_2_method_27_code
def yX0_gainOf : MethodName := ⟨RX0, "gainOf", "(II)I"⟩
abbrev cX0_greediest : ByteArray := prog_2_method_28_code
def yX0_greediest : MethodName := ⟨RX0, "greediest", "(I)I"⟩
abbrev cX0_behindGreed : ByteArray := prog_2_method_29_code
def yX0_behindGreed : MethodName := ⟨RX0, "behindGreed", "(I)I"⟩
abbrev cX0_seatGuest : ByteArray := prog_2_method_30_code
def yX0_seatGuest : MethodName := ⟨RX0, "seatGuest", "(I)V"⟩
abbrev cX0_fanWithGuest : ByteArray := prog_2_method_31_code
def yX0_fanWithGuest : MethodName := ⟨RX0, "fanWithGuest", "(II)I"⟩
abbrev cX0_wayBetween : ByteArray := prog_2_method_32_code
def yX0_wayBetween : MethodName := ⟨RX0, "wayBetween", "(II)I"⟩
def RX1 : String := "ThreeBreaths$Cake"
def TX1 : u_T := fun k => match k with
  | 0 => ("ThreeBreaths$Cake", "candles", "LThreeBreaths$Points;", true)
  | 1 => ("ThreeBreaths$Cake", "kinds", "[I", true)
  | 2 => ("ThreeBreaths$Cake", "places", "LThreeBreaths$Points;", true)
  | 3 => ("ThreeBreaths$Cake", "spots", "LThreeBreaths$Points;", true)
  | 4 => ("ThreeBreaths$Cake", "reach", "[I", true)
  | 5 => ("ThreeBreaths$Cake", "spread", "[I", true)
  | 6 => ("ThreeBreaths$Cake", "people", "I", false)
  | 7 => ("ThreeBreaths$Cake", "near", "I", false)
  | 8 => ("ThreeBreaths$Cake", "wax", "I", false)
  | 9 => ("ThreeBreaths$Cake", "shaky", "[I", true)
  | 10 => ("ThreeBreaths$Cake", "shakyTold", "Z", false)
  | _ => ("ThreeBreaths$Cake", "left", "I", false)
def tyX1 : Nat → FieldType := fun k => match k with
  | 0 => .object "ThreeBreaths$Points"
  | 1 => .array .int
  | 2 => .object "ThreeBreaths$Points"
  | 3 => .object "ThreeBreaths$Points"
  | 4 => .array .int
  | 5 => .array .int
  | 6 => .int
  | 7 => .int
  | 8 => .int
  | 9 => .array .int
  | 10 => .boolean
  | _ => .int
abbrev wsX10 : List Cond := u_ws RX1 TX1 12
theorem nmX1 : ∀ a, a < 12 → ∀ b, b < 12 → a ≠ b → (TX1 a).2.1 ≠ (TX1 b).2.1 := by decide +kernel
theorem tyX1_ok : ∀ k, k < 12 → parseFieldDescriptor (TX1 k).2.2.1 = some (tyX1 k) := by decide +kernel
abbrev cX1_init : ByteArray := prog_3_method_1_code
def yX1_init : MethodName := ⟨RX1, "<init>", "()V"⟩
abbrev cX1_clear : ByteArray := prog_3_method_2_code
def yX1_clear : MethodName := ⟨RX1, "clear", "()V"⟩
abbrev cX1_lacks : ByteArray := prog_3_method_3_code
def yX1_lacks : MethodName := ⟨RX1, "lacks", "()Z"⟩
abbrev cX1_trickCount : ByteArray := prog_3_method_4_code
def yX1_trickCount : MethodName := ⟨RX1, "trickCount", "()I"⟩
def RX2 : String := "ThreeBreaths$FanList"
def TX2 : u_T := fun k => match k with
  | 0 => ("ThreeBreaths$FanList", "board", "LThreeBreaths$Board;", true)
  | 1 => ("ThreeBreaths$FanList", "fans", "[I", true)
  | 2 => ("ThreeBreaths$FanList", "firsts", "[I", true)
  | 3 => ("ThreeBreaths$FanList", "count", "I", false)
  | 4 => ("ThreeBreaths$FanList", "listedIn", "[I", true)
  | _ => ("ThreeBreaths$FanList", "listings", "I", false)
def tyX2 : Nat → FieldType := fun k => match k with
  | 0 => .object "ThreeBreaths$Board"
  | 1 => .array .int
  | 2 => .array .int
  | 3 => .int
  | 4 => .array .int
  | _ => .int
abbrev wsX20 : List Cond := u_ws RX2 TX2 6
theorem nmX2 : ∀ a, a < 6 → ∀ b, b < 6 → a ≠ b → (TX2 a).2.1 ≠ (TX2 b).2.1 := by decide +kernel
theorem tyX2_ok : ∀ k, k < 6 → parseFieldDescriptor (TX2 k).2.2.1 = some (tyX2 k) := by decide +kernel
abbrev cX2_init : ByteArray := prog_4_method_1_code
def yX2_init : MethodName := ⟨RX2, "<init>", "(LThreeBreaths$Board;)V"⟩
abbrev cX2_start : ByteArray := prog_4_method_2_code
def yX2_start : MethodName := ⟨RX2, "start", "()V"⟩
abbrev cX2_add : ByteArray := prog_4_method_3_code
def yX2_add : MethodName := ⟨RX2, "add", "(II)V"⟩
abbrev cX2_list : ByteArray := prog_4_method_4_code
def yX2_list : MethodName := ⟨RX2, "list", "(IIZ)V"⟩
abbrev cX2_listWithGuest : ByteArray := prog_4_method_5_code
def yX2_listWithGuest : MethodName := ⟨RX2, "listWithGuest", "(I)V"⟩
def RX3 : String := "ThreeBreaths$Odds"
def TX3 : u_T := fun k => match k with
  | 0 => ("ThreeBreaths$Odds", "board", "LThreeBreaths$Board;", true)
  | 1 => ("ThreeBreaths$Odds", "laid", "I", false)
  | 2 => ("ThreeBreaths$Odds", "chances", "[[I", true)
  | 3 => ("ThreeBreaths$Odds", "means", "[[I", true)
  | 4 => ("ThreeBreaths$Odds", "worth", "[[I", true)
  | 5 => ("ThreeBreaths$Odds", "goesBack", "[I", true)
  | 6 => ("ThreeBreaths$Odds", "goesStraight", "[I", true)
  | 7 => ("ThreeBreaths$Odds", "goesOn", "[I", true)
  | 8 => ("ThreeBreaths$Odds", "firsts", "[I", true)
  | 9 => ("ThreeBreaths$Odds", "choices", "I", false)
  | 10 => ("ThreeBreaths$Odds", "backWeight", "I", false)
  | 11 => ("ThreeBreaths$Odds", "straightWeight", "I", false)
  | _ => ("ThreeBreaths$Odds", "onWeight", "I", false)
def tyX3 : Nat → FieldType := fun k => match k with
  | 0 => .object "ThreeBreaths$Board"
  | 1 => .int
  | 2 => .array (.array .int)
  | 3 => .array (.array .int)
  | 4 => .array (.array .int)
  | 5 => .array .int
  | 6 => .array .int
  | 7 => .array .int
  | 8 => .array .int
  | 9 => .int
  | 10 => .int
  | 11 => .int
  | _ => .int
abbrev wsX30 : List Cond := u_ws RX3 TX3 13
theorem nmX3 : ∀ a, a < 13 → ∀ b, b < 13 → a ≠ b → (TX3 a).2.1 ≠ (TX3 b).2.1 := by decide +kernel
theorem tyX3_ok : ∀ k, k < 13 → parseFieldDescriptor (TX3 k).2.2.1 = some (tyX3 k) := by decide +kernel
abbrev cX3_init : ByteArray := prog_5_method_1_code
def yX3_init : MethodName := ⟨RX3, "<init>", "(LThreeBreaths$Board;)V"⟩
abbrev cX3_outOf : ByteArray := prog_5_method_2_code
def yX3_outOf : MethodName := ⟨RX3, "outOf", "(I)I"⟩
abbrev cX3_likeliness : ByteArray := prog_5_method_3_code
def yX3_likeliness : MethodName := ⟨RX3, "likeliness", "(II)I"⟩
abbrev cX3_meanLeft : ByteArray := prog_5_method_4_code
def yX3_meanLeft : MethodName := ⟨RX3, "meanLeft", "(II)I"⟩
abbrev cX3_likeliestBreath : ByteArray := prog_5_method_5_code
def yX3_likeliestBreath : MethodName := ⟨RX3, "likeliestBreath", "(II)I"⟩
abbrev cX3_prepare : ByteArray := prog_5_method_6_code
def yX3_prepare : MethodName := ⟨RX3, "prepare", "()V"⟩
abbrev cX3_findChoices : ByteArray := prog_5_method_7_code
def yX3_findChoices : MethodName := ⟨RX3, "findChoices", "()V"⟩
abbrev cX3_isNewChoice : ByteArray := prog_5_method_8_code
def yX3_isNewChoice : MethodName := ⟨RX3, "isNewChoice", "()Z"⟩
abbrev cX3_partsIn : ByteArray := prog_5_method_9_code
def yX3_partsIn : MethodName := ⟨RX3, "partsIn", "(I)I"⟩
abbrev cX3_total : ByteArray := prog_5_method_10_code
def yX3_total : MethodName := ⟨RX3, "total", "(II)I"⟩
abbrev cX3_likelinessOf : ByteArray := prog_5_method_11_code
def yX3_likelinessOf : MethodName := ⟨RX3, "likelinessOf", "(II)I"⟩
abbrev cX3_weighChances : ByteArray := prog_5_method_12_code
def yX3_weighChances : MethodName := ⟨RX3, "weighChances", "(II)V"⟩
abbrev cX3_meanOf : ByteArray := prog_5_method_13_code
def yX3_meanOf : MethodName := ⟨RX3, "meanOf", "(II)I"⟩
abbrev cX3_weighMeans : ByteArray := prog_5_method_14_code
def yX3_weighMeans : MethodName := ⟨RX3, "weighMeans", "(II)V"⟩
def RX4 : String := "ThreeBreaths$Past"
def TX4 : u_T := fun k => match k with
  | 0 => ("ThreeBreaths$Past", "now", "I", false)
  | 1 => ("ThreeBreaths$Past", "before", "[I", true)
  | 2 => ("ThreeBreaths$Past", "acts", "I", false)
  | 3 => ("ThreeBreaths$Past", "images", "[I", true)
  | _ => ("ThreeBreaths$Past", "imageCount", "I", false)
def tyX4 : Nat → FieldType := fun k => match k with
  | 0 => .int
  | 1 => .array .int
  | 2 => .int
  | 3 => .array .int
  | _ => .int
abbrev wsX40 : List Cond := u_ws RX4 TX4 5
theorem nmX4 : ∀ a, a < 5 → ∀ b, b < 5 → a ≠ b → (TX4 a).2.1 ≠ (TX4 b).2.1 := by decide +kernel
theorem tyX4_ok : ∀ k, k < 5 → parseFieldDescriptor (TX4 k).2.2.1 = some (tyX4 k) := by decide +kernel
abbrev cX4_init : ByteArray := prog_6_method_1_code
def yX4_init : MethodName := ⟨RX4, "<init>", "()V"⟩
abbrev cX4_begin : ByteArray := prog_6_method_2_code
def yX4_begin : MethodName := ⟨RX4, "begin", "(I)V"⟩
abbrev cX4_act : ByteArray := prog_6_method_3_code
def yX4_act : MethodName := ⟨RX4, "act", "(I)V"⟩
abbrev cX4_takeBack : ByteArray := prog_6_method_4_code
def yX4_takeBack : MethodName := ⟨RX4, "takeBack", "()Z"⟩
abbrev cX4_keepImage : ByteArray := prog_6_method_5_code
def yX4_keepImage : MethodName := ⟨RX4, "keepImage", "()I"⟩
abbrev cX4_returnTo : ByteArray := prog_6_method_6_code
def yX4_returnTo : MethodName := ⟨RX4, "returnTo", "(I)Z"⟩
def RX5 : String := "ThreeBreaths$Points"
def TX5 : u_T := fun k => match k with
  | 0 => ("ThreeBreaths$Points", "most", "I", true)
  | 1 => ("ThreeBreaths$Points", "x", "[I", true)
  | 2 => ("ThreeBreaths$Points", "y", "[I", true)
  | _ => ("ThreeBreaths$Points", "count", "I", false)
def tyX5 : Nat → FieldType := fun k => match k with
  | 0 => .int
  | 1 => .array .int
  | 2 => .array .int
  | _ => .int
abbrev wsX50 : List Cond := u_ws RX5 TX5 4
theorem nmX5 : ∀ a, a < 4 → ∀ b, b < 4 → a ≠ b → (TX5 a).2.1 ≠ (TX5 b).2.1 := by decide +kernel
theorem tyX5_ok : ∀ k, k < 4 → parseFieldDescriptor (TX5 k).2.2.1 = some (tyX5 k) := by decide +kernel
abbrev cX5_init : ByteArray := prog_7_method_1_code
def yX5_init : MethodName := ⟨RX5, "<init>", "(I)V"⟩
abbrev cX5_isFull : ByteArray := prog_7_method_2_code
def yX5_isFull : MethodName := ⟨RX5, "isFull", "()Z"⟩
abbrev cX5_add : ByteArray := prog_7_method_3_code
def yX5_add : MethodName := ⟨RX5, "add", "(II)V"⟩
def RX6 : String := "ThreeBreaths$Reader"
def TX6 : u_T := fun k => match k with
  | 0 => ("ThreeBreaths$Reader", "text", "[B", true)
  | 1 => ("ThreeBreaths$Reader", "fed", "I", false)
  | 2 => ("ThreeBreaths$Reader", "length", "I", false)
  | 3 => ("ThreeBreaths$Reader", "token", "I", false)
  | 4 => ("ThreeBreaths$Reader", "at", "I", false)
  | 5 => ("ThreeBreaths$Reader", "end", "I", false)
  | 6 => ("ThreeBreaths$Reader", "word", "J", false)
  | 7 => ("ThreeBreaths$Reader", "value", "I", false)
  | 8 => ("ThreeBreaths$Reader", "number", "I", false)
  | 9 => ("ThreeBreaths$Reader", "names", "[J", true)
  | 10 => ("ThreeBreaths$Reader", "sorts", "[I", true)
  | 11 => ("ThreeBreaths$Reader", "numbers", "[I", true)
  | 12 => ("ThreeBreaths$Reader", "named", "I", false)
  | 13 => ("ThreeBreaths$Reader", "draft", "LThreeBreaths$Cake;", false)
  | _ => ("ThreeBreaths$Reader", "fault", "I", false)
def tyX6 : Nat → FieldType := fun k => match k with
  | 0 => .array .byte
  | 1 => .int
  | 2 => .int
  | 3 => .int
  | 4 => .int
  | 5 => .int
  | 6 => .long
  | 7 => .int
  | 8 => .int
  | 9 => .array .long
  | 10 => .array .int
  | 11 => .array .int
  | 12 => .int
  | 13 => .object "ThreeBreaths$Cake"
  | _ => .int
abbrev wsX60 : List Cond := u_ws RX6 TX6 15
theorem nmX6 : ∀ a, a < 15 → ∀ b, b < 15 → a ≠ b → (TX6 a).2.1 ≠ (TX6 b).2.1 := by decide +kernel
theorem tyX6_ok : ∀ k, k < 15 → parseFieldDescriptor (TX6 k).2.2.1 = some (tyX6 k) := by decide +kernel
abbrev cX6_init : ByteArray := prog_8_method_1_code
def yX6_init : MethodName := ⟨RX6, "<init>", "()V"⟩
abbrev cX6_hasRoom : ByteArray := prog_8_method_2_code
def yX6_hasRoom : MethodName := ⟨RX6, "hasRoom", "()Z"⟩
abbrev cX6_append : ByteArray := prog_8_method_3_code
def yX6_append : MethodName := ⟨RX6, "append", "(I)V"⟩
abbrev cX6_read : ByteArray := prog_8_method_4_code
def yX6_read : MethodName := ⟨RX6, "read", "(I)I"⟩
abbrev cX6_place : ByteArray := prog_8_method_5_code
def yX6_place : MethodName := ⟨RX6, "place", "()I"⟩
abbrev cX6_fails : ByteArray := prog_8_method_6_code
def yX6_fails : MethodName := ⟨RX6, "fails", "(I)Z"⟩
abbrev cX6_takeLine : ByteArray := prog_8_method_7_code
def yX6_takeLine : MethodName := ⟨RX6, "takeLine", "()Z"⟩
abbrev cX6_takeCake : ByteArray := prog_8_method_8_code
def yX6_takeCake : MethodName := ⟨RX6, "takeCake", "()Z"⟩
abbrev cX6_takePoint : ByteArray := prog_8_method_9_code
def yX6_takePoint : MethodName := ⟨RX6, "takePoint", "(LThreeBreaths$Points;I)Z"⟩
abbrev cX6_takeKind : ByteArray := prog_8_method_10_code
def yX6_takeKind : MethodName := ⟨RX6, "takeKind", "()Z"⟩
abbrev cX6_kindSaid : ByteArray := prog_8_method_11_code
def yX6_kindSaid : MethodName := ⟨RX6, "kindSaid", "()I"⟩
abbrev cX6_takePerson : ByteArray := prog_8_method_12_code
def yX6_takePerson : MethodName := ⟨RX6, "takePerson", "()Z"⟩
abbrev cX6_takeShaky : ByteArray := prog_8_method_13_code
def yX6_takeShaky : MethodName := ⟨RX6, "takeShaky", "()Z"⟩
abbrev cX6_takeLeft : ByteArray := prog_8_method_14_code
def yX6_takeLeft : MethodName := ⟨RX6, "takeLeft", "()Z"⟩
abbrev cX6_takeCandleLeft : ByteArray := prog_8_method_15_code
def yX6_takeCandleLeft : MethodName := ⟨RX6, "takeCandleLeft", "()Z"⟩
abbrev cX6_takeNewName : ByteArray := prog_8_method_16_code
def yX6_takeNewName : MethodName := ⟨RX6, "takeNewName", "(II)Z"⟩
abbrev cX6_find : ByteArray := prog_8_method_17_code
def yX6_find : MethodName := ⟨RX6, "find", "(J)I"⟩
abbrev cX6_isName : ByteArray := prog_8_method_18_code
def yX6_isName : MethodName := ⟨RX6, "isName", "()Z"⟩
abbrev cX6_says : ByteArray := prog_8_method_19_code
def yX6_says : MethodName := ⟨RX6, "says", "(Ljava/lang/String;)Z"⟩
abbrev cX6_takeWord : ByteArray := prog_8_method_20_code
def yX6_takeWord : MethodName := ⟨RX6, "takeWord", "(Ljava/lang/String;)Z"⟩
abbrev cX6_takeWhole : ByteArray := prog_8_method_21_code
def yX6_takeWhole : MethodName := ⟨RX6, "takeWhole", "(II)Z"⟩
abbrev cX6_takeSign : ByteArray := prog_8_method_22_code
def yX6_takeSign : MethodName := ⟨RX6, "takeSign", "(I)Z"⟩
abbrev cX6_advance : ByteArray := prog_8_method_23_code
def yX6_advance : MethodName := ⟨RX6, "advance", "()V"⟩
abbrev cX6_readWord : ByteArray := prog_8_method_24_code
def yX6_readWord : MethodName := ⟨RX6, "readWord", "()V"⟩
abbrev cX6_readWhole : ByteArray := prog_8_method_25_code
def yX6_readWhole : MethodName := ⟨RX6, "readWhole", "()V"⟩
abbrev cX6_isLetter : ByteArray := prog_8_method_26_code
def yX6_isLetter : MethodName := ⟨RX6, "isLetter", "(I)Z"⟩
abbrev cX6_isDigit : ByteArray := prog_8_method_27_code
def yX6_isDigit : MethodName := ⟨RX6, "isDigit", "(I)Z"⟩
def RX7 : String := "ThreeBreaths$Search"
def TX7 : u_T := fun k => match k with
  | 0 => ("ThreeBreaths$Search", "board", "LThreeBreaths$Board;", true)
  | 1 => ("ThreeBreaths$Search", "list", "LThreeBreaths$FanList;", true)
  | 2 => ("ThreeBreaths$Search", "seen", "[I", true)
  | 3 => ("ThreeBreaths$Search", "queue", "[I", true)
  | 4 => ("ThreeBreaths$Search", "depth", "[I", true)
  | 5 => ("ThreeBreaths$Search", "tail", "I", false)
  | 6 => ("ThreeBreaths$Search", "toGo", "[I", true)
  | 7 => ("ThreeBreaths$Search", "byNext", "[I", true)
  | 8 => ("ThreeBreaths$Search", "row", "[I", true)
  | 9 => ("ThreeBreaths$Search", "askedLaid", "I", false)
  | 10 => ("ThreeBreaths$Search", "askedMoment", "I", false)
  | 11 => ("ThreeBreaths$Search", "fewestAsked", "I", false)
  | 12 => ("ThreeBreaths$Search", "teamAsked", "I", false)
  | _ => ("ThreeBreaths$Search", "rowAsked", "Z", false)
def tyX7 : Nat → FieldType := fun k => match k with
  | 0 => .object "ThreeBreaths$Board"
  | 1 => .object "ThreeBreaths$FanList"
  | 2 => .array .int
  | 3 => .array .int
  | 4 => .array .int
  | 5 => .int
  | 6 => .array .int
  | 7 => .array .int
  | 8 => .array .int
  | 9 => .int
  | 10 => .int
  | 11 => .int
  | 12 => .int
  | _ => .boolean
abbrev wsX70 : List Cond := u_ws RX7 TX7 14
theorem nmX7 : ∀ a, a < 14 → ∀ b, b < 14 → a ≠ b → (TX7 a).2.1 ≠ (TX7 b).2.1 := by decide +kernel
theorem tyX7_ok : ∀ k, k < 14 → parseFieldDescriptor (TX7 k).2.2.1 = some (tyX7 k) := by decide +kernel
abbrev cX7_init : ByteArray := prog_9_method_1_code
def yX7_init : MethodName := ⟨RX7, "<init>", "(LThreeBreaths$Board;)V"⟩
abbrev cX7_turnTo : ByteArray := prog_9_method_2_code
def yX7_turnTo : MethodName := ⟨RX7, "turnTo", "(I)V"⟩
abbrev cX7_fewestFrom : ByteArray := prog_9_method_3_code
def yX7_fewestFrom : MethodName := ⟨RX7, "fewestFrom", "(I)I"⟩
abbrev cX7_fewestOf : ByteArray := prog_9_method_4_code
def yX7_fewestOf : MethodName := ⟨RX7, "fewestOf", "(III)I"⟩
abbrev cX7_fewestWithout : ByteArray := prog_9_method_5_code
def yX7_fewestWithout : MethodName := ⟨RX7, "fewestWithout", "(III)I"⟩
abbrev cX7_fewestWithoutCandle : ByteArray := prog_9_method_6_code
def yX7_fewestWithoutCandle : MethodName := ⟨RX7, "fewestWithoutCandle", "(II)I"⟩
abbrev cX7_fewestWithGuest : ByteArray := prog_9_method_7_code
def yX7_fewestWithGuest : MethodName := ⟨RX7, "fewestWithGuest", "(II)I"⟩
abbrev cX7_soonestOut : ByteArray := prog_9_method_8_code
def yX7_soonestOut : MethodName := ⟨RX7, "soonestOut", "(II)I"⟩
abbrev cX7_distance : ByteArray := prog_9_method_9_code
def yX7_distance : MethodName := ⟨RX7, "distance", "(II)I"⟩
abbrev cX7_forget : ByteArray := prog_9_method_10_code
def yX7_forget : MethodName := ⟨RX7, "forget", "()V"⟩
abbrev cX7_note : ByteArray := prog_9_method_11_code
def yX7_note : MethodName := ⟨RX7, "note", "(II)V"⟩
abbrev cX7_rowAt : ByteArray := prog_9_method_12_code
def yX7_rowAt : MethodName := ⟨RX7, "rowAt", "(II)I"⟩
abbrev cX7_findRow : ByteArray := prog_9_method_13_code
def yX7_findRow : MethodName := ⟨RX7, "findRow", "(I)V"⟩
abbrev cX7_markWays : ByteArray := prog_9_method_14_code
def yX7_markWays : MethodName := ⟨RX7, "markWays", "(I)V"⟩
abbrev cX7_firstOnWay : ByteArray := prog_9_method_15_code
def yX7_firstOnWay : MethodName := ⟨RX7, "firstOnWay", "(I)I"⟩
abbrev cX7_leastWay : ByteArray := prog_9_method_16_code
def yX7_leastWay : MethodName := ⟨RX7, "leastWay", "(III)I"⟩
abbrev cX7_setWaysFrom : ByteArray := prog_9_method_17_code
def yX7_setWaysFrom : MethodName := ⟨RX7, "setWaysFrom", "(II)V"⟩
abbrev cX7_findWaysFrom : ByteArray := prog_9_method_18_code
def yX7_findWaysFrom : MethodName := ⟨RX7, "findWaysFrom", "(II)V"⟩
abbrev cX7_leastWayBehind : ByteArray := prog_9_method_19_code
def yX7_leastWayBehind : MethodName := ⟨RX7, "leastWayBehind", "(III)I"⟩
abbrev cX7_teamFrom : ByteArray := prog_9_method_20_code
def yX7_teamFrom : MethodName := ⟨RX7, "teamFrom", "(I)I"⟩
abbrev cX7_findTeam : ByteArray := prog_9_method_21_code
def yX7_findTeam : MethodName := ⟨RX7, "findTeam", "(I)I"⟩
abbrev cX7_canPutOut : ByteArray := prog_9_method_22_code
def yX7_canPutOut : MethodName := ⟨RX7, "canPutOut", "(I)Z"⟩
abbrev cX7_blowLast : ByteArray := prog_9_method_23_code
def yX7_blowLast : MethodName := ⟨RX7, "blowLast", "(II)V"⟩
abbrev cX7_fewestBurning : ByteArray := prog_9_method_24_code
def yX7_fewestBurning : MethodName := ⟨RX7, "fewestBurning", "(II)I"⟩
abbrev cX7_nextRound : ByteArray := prog_9_method_25_code
def yX7_nextRound : MethodName := ⟨RX7, "nextRound", "([II[II)I"⟩
def RX8 : String := "ThreeBreaths$Traces"
def TX8 : u_T := fun k => match k with
  | 0 => ("ThreeBreaths$Traces", "board", "LThreeBreaths$Board;", true)
  | _ => ("ThreeBreaths$Traces", "rows", "[I", true)
def tyX8 : Nat → FieldType := fun k => match k with
  | 0 => .object "ThreeBreaths$Board"
  | _ => .array .int
abbrev wsX80 : List Cond := u_ws RX8 TX8 2
theorem nmX8 : ∀ a, a < 2 → ∀ b, b < 2 → a ≠ b → (TX8 a).2.1 ≠ (TX8 b).2.1 := by decide +kernel
theorem tyX8_ok : ∀ k, k < 2 → parseFieldDescriptor (TX8 k).2.2.1 = some (tyX8 k) := by decide +kernel
abbrev cX8_init : ByteArray := prog_10_method_1_code
def yX8_init : MethodName := ⟨RX8, "<init>", "(LThreeBreaths$Board;)V"⟩
abbrev cX8_count : ByteArray := prog_10_method_2_code
def yX8_count : MethodName := ⟨RX8, "count", "(I)I"⟩
abbrev cX8_firstBreath : ByteArray := prog_10_method_3_code
def yX8_firstBreath : MethodName := ⟨RX8, "firstBreath", "(II)I"⟩
abbrev cX8_findRows : ByteArray := prog_10_method_4_code
def yX8_findRows : MethodName := ⟨RX8, "findRows", "(I)V"⟩
abbrev cX8_countLast : ByteArray := prog_10_method_5_code
def yX8_countLast : MethodName := ⟨RX8, "countLast", "(I)I"⟩
abbrev cX8_isLeft : ByteArray := prog_10_method_6_code
def yX8_isLeft : MethodName := ⟨RX8, "isLeft", "(I)I"⟩
def RX9 : String := "ThreeBreaths"
def TX9 : u_T := fun k => match k with
  | 0 => ("ThreeBreaths", "reader", "LThreeBreaths$Reader;", true)
  | 1 => ("ThreeBreaths", "told", "Z", false)
  | 2 => ("ThreeBreaths", "board", "LThreeBreaths$Board;", true)
  | 3 => ("ThreeBreaths", "past", "LThreeBreaths$Past;", true)
  | 4 => ("ThreeBreaths", "search", "LThreeBreaths$Search;", false)
  | 5 => ("ThreeBreaths", "odds", "LThreeBreaths$Odds;", false)
  | 6 => ("ThreeBreaths", "traces", "LThreeBreaths$Traces;", false)
  | 7 => ("ThreeBreaths", "trouble", "I", false)
  | 8 => ("ThreeBreaths", "fault", "I", false)
  | _ => ("ThreeBreaths", "faultPlace", "I", false)
def tyX9 : Nat → FieldType := fun k => match k with
  | 0 => .object "ThreeBreaths$Reader"
  | 1 => .boolean
  | 2 => .object "ThreeBreaths$Board"
  | 3 => .object "ThreeBreaths$Past"
  | 4 => .object "ThreeBreaths$Search"
  | 5 => .object "ThreeBreaths$Odds"
  | 6 => .object "ThreeBreaths$Traces"
  | 7 => .int
  | 8 => .int
  | _ => .int
abbrev wsX90 : List Cond := u_ws RX9 TX9 10
theorem nmX9 : ∀ a, a < 10 → ∀ b, b < 10 → a ≠ b → (TX9 a).2.1 ≠ (TX9 b).2.1 := by decide +kernel
theorem tyX9_ok : ∀ k, k < 10 → parseFieldDescriptor (TX9 k).2.2.1 = some (tyX9 k) := by decide +kernel
abbrev cX9_init : ByteArray := prog_1_method_1_code
def yX9_init : MethodName := ⟨RX9, "<init>", "()V"⟩
abbrev cX9_feed : ByteArray := prog_1_method_2_code
def yX9_feed : MethodName := ⟨RX9, "feed", "(IIIII)I"⟩
abbrev cX9_cake : ByteArray := prog_1_method_3_code
def yX9_cake : MethodName := ⟨RX9, "cake", "(I)I"⟩
abbrev cX9_fault : ByteArray := prog_1_method_4_code
def yX9_fault : MethodName := ⟨RX9, "fault", "()I"⟩
abbrev cX9_where : ByteArray := prog_1_method_5_code
def yX9_where : MethodName := ⟨RX9, "where", "()I"⟩
abbrev cX9_candle : ByteArray := prog_1_method_6_code
def yX9_candle : MethodName := ⟨RX9, "candle", "(II)I"⟩
abbrev cX9_fan : ByteArray := prog_1_method_7_code
def yX9_fan : MethodName := ⟨RX9, "fan", "(I)I"⟩
abbrev cX9_breath : ByteArray := prog_1_method_8_code
def yX9_breath : MethodName := ⟨RX9, "breath", "(III)I"⟩
abbrev cX9_breathOf : ByteArray := prog_1_method_9_code
def yX9_breathOf : MethodName := ⟨RX9, "breathOf", "(II)I"⟩
abbrev cX9_fans : ByteArray := prog_1_method_10_code
def yX9_fans : MethodName := ⟨RX9, "fans", "()I"⟩
abbrev cX9_spared : ByteArray := prog_1_method_11_code
def yX9_spared : MethodName := ⟨RX9, "spared", "()I"⟩
abbrev cX9_lights : ByteArray := prog_1_method_12_code
def yX9_lights : MethodName := ⟨RX9, "lights", "(IZ)I"⟩
abbrev cX9_burning : ByteArray := prog_1_method_13_code
def yX9_burning : MethodName := ⟨RX9, "burning", "()I"⟩
abbrev cX9_dazed : ByteArray := prog_1_method_14_code
def yX9_dazed : MethodName := ⟨RX9, "dazed", "()I"⟩
abbrev cX9_gain : ByteArray := prog_1_method_15_code
def yX9_gain : MethodName := ⟨RX9, "gain", "(I)I"⟩
abbrev cX9_greedy : ByteArray := prog_1_method_16_code
def yX9_greedy : MethodName := ⟨RX9, "greedy", "()I"⟩
abbrev cX9_blow : ByteArray := prog_1_method_17_code
def yX9_blow : MethodName := ⟨RX9, "blow", "(I)I"⟩
abbrev cX9_light : ByteArray := prog_1_method_18_code
def yX9_light : MethodName := ⟨RX9, "light", "(I)Z"⟩
abbrev cX9_all : ByteArray := prog_1_method_19_code
def yX9_all : MethodName := ⟨RX9, "all", "()Z"⟩
abbrev cX9_undo : ByteArray := prog_1_method_20_code
def yX9_undo : MethodName := ⟨RX9, "undo", "()Z"⟩
abbrev cX9_fewest : ByteArray := prog_1_method_21_code
def yX9_fewest : MethodName := ⟨RX9, "fewest", "()I"⟩
abbrev cX9_row : ByteArray := prog_1_method_22_code
def yX9_row : MethodName := ⟨RX9, "row", "(I)I"⟩
abbrev cX9_from : ByteArray := prog_1_method_23_code
def yX9_from : MethodName := ⟨RX9, "from", "(I)I"⟩
abbrev cX9_by : ByteArray := prog_1_method_24_code
def yX9_by : MethodName := ⟨RX9, "by", "(I)I"⟩
abbrev cX9_inTime : ByteArray := prog_1_method_25_code
def yX9_inTime : MethodName := ⟨RX9, "inTime", "()I"⟩
abbrev cX9_walk : ByteArray := prog_1_method_26_code
def yX9_walk : MethodName := ⟨RX9, "walk", "(II)I"⟩
abbrev cX9_each : ByteArray := prog_1_method_27_code
def yX9_each : MethodName := ⟨RX9, "each", "()I"⟩
abbrev cX9_team : ByteArray := prog_1_method_28_code
def yX9_team : MethodName := ⟨RX9, "team", "()I"⟩
abbrev cX9_greedyEnd : ByteArray := prog_1_method_29_code
def yX9_greedyEnd : MethodName := ⟨RX9, "greedyEnd", "()I"⟩
abbrev cX9_soonest : ByteArray := prog_1_method_30_code
def yX9_soonest : MethodName := ⟨RX9, "soonest", "(I)I"⟩
abbrev cX9_few : ByteArray := prog_1_method_31_code
def yX9_few : MethodName := ⟨RX9, "few", "(I)I"⟩
abbrev cX9_chance : ByteArray := prog_1_method_32_code
def yX9_chance : MethodName := ⟨RX9, "chance", "(IZ)J"⟩
abbrev cX9_best : ByteArray := prog_1_method_33_code
def yX9_best : MethodName := ⟨RX9, "best", "(I)I"⟩
abbrev cX9_content : ByteArray := prog_1_method_34_code
def yX9_content : MethodName := ⟨RX9, "content", "(IZ)J"⟩
abbrev cX9_fits : ByteArray := prog_1_method_35_code
def yX9_fits : MethodName := ⟨RX9, "fits", "(I)I"⟩
abbrev cX9_fitAt : ByteArray := prog_1_method_36_code
def yX9_fitAt : MethodName := ⟨RX9, "fitAt", "(II)I"⟩
abbrev cX9_more : ByteArray := prog_1_method_37_code
def yX9_more : MethodName := ⟨RX9, "more", "(I)I"⟩
abbrev cX9_less : ByteArray := prog_1_method_38_code
def yX9_less : MethodName := ⟨RX9, "less", "(II)I"⟩
abbrev cX9_image : ByteArray := prog_1_method_39_code
def yX9_image : MethodName := ⟨RX9, "image", "()I"⟩
abbrev cX9_back : ByteArray := prog_1_method_40_code
def yX9_back : MethodName := ⟨RX9, "back", "(I)Z"⟩
abbrev cX9_led : ByteArray := prog_1_method_41_code
def yX9_led : MethodName := ⟨RX9, "led", "(I)I"⟩
abbrev cX9_size : ByteArray := prog_1_method_42_code
def yX9_size : MethodName := ⟨RX9, "size", "(I)I"⟩
abbrev cX9_trouble : ByteArray := prog_1_method_43_code
def yX9_trouble : MethodName := ⟨RX9, "trouble", "()I"⟩
abbrev cX9_sizeOfCake : ByteArray := prog_1_method_44_code
def yX9_sizeOfCake : MethodName := ⟨RX9, "sizeOfCake", "(I)I"⟩
abbrev cX9_isCandle : ByteArray := prog_1_method_45_code
def yX9_isCandle : MethodName := ⟨RX9, "isCandle", "(I)Z"⟩
abbrev cX9_isPlace : ByteArray := prog_1_method_46_code
def yX9_isPlace : MethodName := ⟨RX9, "isPlace", "(I)Z"⟩
abbrev cX9_isPerson : ByteArray := prog_1_method_47_code
def yX9_isPerson : MethodName := ⟨RX9, "isPerson", "(I)Z"⟩
abbrev cX9_isBreath : ByteArray := prog_1_method_48_code
def yX9_isBreath : MethodName := ⟨RX9, "isBreath", "(I)Z"⟩
abbrev cX9_isRefused : ByteArray := prog_1_method_49_code
def yX9_isRefused : MethodName := ⟨RX9, "isRefused", "(II)Z"⟩
abbrev cX9_isFitRefused : ByteArray := prog_1_method_50_code
def yX9_isFitRefused : MethodName := ⟨RX9, "isFitRefused", "(I)Z"⟩
abbrev cX9_refuse : ByteArray := prog_1_method_51_code
def yX9_refuse : MethodName := ⟨RX9, "refuse", "(I)I"⟩
abbrev cX9_answer : ByteArray := prog_1_method_52_code
def yX9_answer : MethodName := ⟨RX9, "answer", "(I)I"⟩
abbrev cX9_deny : ByteArray := prog_1_method_53_code
def yX9_deny : MethodName := ⟨RX9, "deny", "(I)Z"⟩
abbrev cX9_grant : ByteArray := prog_1_method_54_code
def yX9_grant : MethodName := ⟨RX9, "grant", "()Z"⟩
abbrev cX9_inLowestTerms : ByteArray := prog_1_method_55_code
def yX9_inLowestTerms : MethodName := ⟨RX9, "inLowestTerms", "(JJZ)J"⟩
abbrev cX9_commonMeasure : ByteArray := prog_1_method_56_code
def yX9_commonMeasure : MethodName := ⟨RX9, "commonMeasure", "(JJ)J"⟩
abbrev cX9_searching : ByteArray := prog_1_method_57_code
def yX9_searching : MethodName := ⟨RX9, "searching", "()LThreeBreaths$Search;"⟩
abbrev cX9_reckoning : ByteArray := prog_1_method_58_code
def yX9_reckoning : MethodName := ⟨RX9, "reckoning", "()LThreeBreaths$Odds;"⟩
abbrev cX9_tracing : ByteArray := prog_1_method_59_code
def yX9_tracing : MethodName := ⟨RX9, "tracing", "()LThreeBreaths$Traces;"⟩
def RX10 : String := "ThreeBreathsModel"
def TX10 : u_T := fun k => match k with
  | 0 => ("ThreeBreathsModel", "thrown", "I", false)
  | 1 => ("ThreeBreathsModel", "tape", "[I", true)
  | 2 => ("ThreeBreathsModel", "taped", "I", false)
  | 3 => ("ThreeBreathsModel", "size", "I", false)
  | 4 => ("ThreeBreathsModel", "at", "I", false)
  | 5 => ("ThreeBreathsModel", "end", "I", false)
  | 6 => ("ThreeBreathsModel", "token", "I", false)
  | 7 => ("ThreeBreathsModel", "whole", "I", false)
  | 8 => ("ThreeBreathsModel", "nameSize", "I", false)
  | 9 => ("ThreeBreathsModel", "fault", "I", false)
  | 10 => ("ThreeBreathsModel", "place", "I", false)
  | 11 => ("ThreeBreathsModel", "trouble", "I", false)
  | 12 => ("ThreeBreathsModel", "letters", "[I", true)
  | 13 => ("ThreeBreathsModel", "failed", "Z", false)
  | 14 => ("ThreeBreathsModel", "hasCake", "Z", false)
  | 15 => ("ThreeBreathsModel", "\x72", "[I", true)
  | 16 => ("ThreeBreathsModel", "fresh", "[I", true)
  | 17 => ("ThreeBreathsModel", "burns", "I", false)
  | 18 => ("ThreeBreathsModel", "dazed", "I", false)
  | 19 => ("ThreeBreathsModel", "undos", "I", false)
  | 20 => ("ThreeBreathsModel", "images", "I", false)
  | 21 => ("ThreeBreathsModel", "undone", "[I", true)
  | 22 => ("ThreeBreathsModel", "kept", "[I", true)
  | 23 => ("ThreeBreathsModel", "fans", "[I", true)
  | 24 => ("ThreeBreathsModel", "near", "[I", true)
  | 25 => ("ThreeBreathsModel", "wayX", "[I", true)
  | 26 => ("ThreeBreathsModel", "wayY", "[I", true)
  | 27 => ("ThreeBreathsModel", "there", "I", false)
  | 28 => ("ThreeBreathsModel", "allowed", "[I", true)
  | 29 => ("ThreeBreathsModel", "level", "[I", true)
  | 30 => ("ThreeBreathsModel", "queue", "[I", true)
  | 31 => ("ThreeBreathsModel", "leads", "[Z", true)
  | 32 => ("ThreeBreathsModel", "many", "I", false)
  | 33 => ("ThreeBreathsModel", "stands", "I", false)
  | 34 => ("ThreeBreathsModel", "from", "I", false)
  | 35 => ("ThreeBreathsModel", "least", "I", false)
  | 36 => ("ThreeBreathsModel", "way", "[I", true)
  | 37 => ("ThreeBreathsModel", "reached", "[Z", true)
  | 38 => ("ThreeBreathsModel", "inOne", "[J", true)
  | _ => ("ThreeBreathsModel", "inTwo", "[J", true)
def tyX10 : Nat → FieldType := fun k => match k with
  | 0 => .int
  | 1 => .array .int
  | 2 => .int
  | 3 => .int
  | 4 => .int
  | 5 => .int
  | 6 => .int
  | 7 => .int
  | 8 => .int
  | 9 => .int
  | 10 => .int
  | 11 => .int
  | 12 => .array .int
  | 13 => .boolean
  | 14 => .boolean
  | 15 => .array .int
  | 16 => .array .int
  | 17 => .int
  | 18 => .int
  | 19 => .int
  | 20 => .int
  | 21 => .array .int
  | 22 => .array .int
  | 23 => .array .int
  | 24 => .array .int
  | 25 => .array .int
  | 26 => .array .int
  | 27 => .int
  | 28 => .array .int
  | 29 => .array .int
  | 30 => .array .int
  | 31 => .array .boolean
  | 32 => .int
  | 33 => .int
  | 34 => .int
  | 35 => .int
  | 36 => .array .int
  | 37 => .array .boolean
  | 38 => .array .long
  | _ => .array .long
abbrev wsX100 : List Cond := u_ws RX10 TX10 40
theorem nmX10 : ∀ a, a < 40 → ∀ b, b < 40 → a ≠ b → (TX10 a).2.1 ≠ (TX10 b).2.1 := by decide +kernel
theorem tyX10_ok : ∀ k, k < 40 → parseFieldDescriptor (TX10 k).2.2.1 = some (tyX10 k) := by decide +kernel
abbrev cX10_init : ByteArray := prog_12_method_1_code
def yX10_init : MethodName := ⟨RX10, "<init>", "()V"⟩
abbrev cX10_thrown : ByteArray := prog_12_method_2_code
def yX10_thrown : MethodName := ⟨RX10, "thrown", "()I"⟩
abbrev cX10_good : ByteArray := prog_12_method_3_code
def yX10_good : MethodName := ⟨RX10, "good", "()V"⟩
abbrev cX10_no : ByteArray := prog_12_method_4_code
def yX10_no : MethodName := ⟨RX10, "no", "(I)I"⟩
abbrev cX10_isNot : ByteArray := prog_12_method_5_code
def yX10_isNot : MethodName := ⟨RX10, "isNot", "(I)Z"⟩
abbrev cX10_within : ByteArray := prog_12_method_6_code
def yX10_within : MethodName := ⟨RX10, "within", "(III)Z"⟩
abbrev cX10_has : ByteArray := prog_12_method_7_code
def yX10_has : MethodName := ⟨RX10, "has", "(II)Z"⟩
abbrev cX10_bits : ByteArray := prog_12_method_8_code
def yX10_bits : MethodName := ⟨RX10, "bits", "(I)I"⟩
abbrev cX10_feed : ByteArray := prog_12_method_9_code
def yX10_feed : MethodName := ⟨RX10, "feed", "(IIIII)I"⟩
abbrev cX10_look : ByteArray := prog_12_method_10_code
def yX10_look : MethodName := ⟨RX10, "look", "(I)I"⟩
abbrev cX10_isSmall : ByteArray := prog_12_method_11_code
def yX10_isSmall : MethodName := ⟨RX10, "isSmall", "(I)Z"⟩
abbrev cX10_isDigit : ByteArray := prog_12_method_12_code
def yX10_isDigit : MethodName := ⟨RX10, "isDigit", "(I)Z"⟩
abbrev cX10_next : ByteArray := prog_12_method_13_code
def yX10_next : MethodName := ⟨RX10, "next", "()V"⟩
abbrev cX10_wrong : ByteArray := prog_12_method_14_code
def yX10_wrong : MethodName := ⟨RX10, "wrong", "(II)V"⟩
abbrev cX10_isWord : ByteArray := prog_12_method_15_code
def yX10_isWord : MethodName := ⟨RX10, "isWord", "(Ljava/lang/String;)Z"⟩
abbrev cX10_takes : ByteArray := prog_12_method_16_code
def yX10_takes : MethodName := ⟨RX10, "takes", "(Ljava/lang/String;)Z"⟩
abbrev cX10_must : ByteArray := prog_12_method_17_code
def yX10_must : MethodName := ⟨RX10, "must", "(Ljava/lang/String;)V"⟩
abbrev cX10_mustName : ByteArray := prog_12_method_18_code
def yX10_mustName : MethodName := ⟨RX10, "mustName", "()V"⟩
abbrev cX10_find : ByteArray := prog_12_method_19_code
def yX10_find : MethodName := ⟨RX10, "find", "()I"⟩
abbrev cX10_newName : ByteArray := prog_12_method_20_code
def yX10_newName : MethodName := ⟨RX10, "newName", "(I)V"⟩
abbrev cX10_number : ByteArray := prog_12_method_21_code
def yX10_number : MethodName := ⟨RX10, "number", "(II)I"⟩
abbrev cX10_told : ByteArray := prog_12_method_22_code
def yX10_told : MethodName := ⟨RX10, "told", "(Ljava/lang/String;II)I"⟩
abbrev cX10_comma : ByteArray := prog_12_method_23_code
def yX10_comma : MethodName := ⟨RX10, "comma", "()Z"⟩
abbrev cX10_mustComma : ByteArray := prog_12_method_24_code
def yX10_mustComma : MethodName := ⟨RX10, "mustComma", "()V"⟩
abbrev cX10_cake : ByteArray := prog_12_method_25_code
def yX10_cake : MethodName := ⟨RX10, "cake", "(I)I"⟩
abbrev cX10_begins : ByteArray := prog_12_method_26_code
def yX10_begins : MethodName := ⟨RX10, "begins", "(Ljava/lang/String;ZI)Z"⟩
abbrev cX10_readLine : ByteArray := prog_12_method_27_code
def yX10_readLine : MethodName := ⟨RX10, "readLine", "()V"⟩
abbrev cX10_cakeLine : ByteArray := prog_12_method_28_code
def yX10_cakeLine : MethodName := ⟨RX10, "cakeLine", "()V"⟩
abbrev cX10_spot : ByteArray := prog_12_method_29_code
def yX10_spot : MethodName := ⟨RX10, "spot", "(II)V"⟩
abbrev cX10_candleLine : ByteArray := prog_12_method_30_code
def yX10_candleLine : MethodName := ⟨RX10, "candleLine", "()V"⟩
abbrev cX10_placeLine : ByteArray := prog_12_method_31_code
def yX10_placeLine : MethodName := ⟨RX10, "placeLine", "()V"⟩
abbrev cX10_spotLine : ByteArray := prog_12_method_32_code
def yX10_spotLine : MethodName := ⟨RX10, "spotLine", "()V"⟩
abbrev cX10_personLine : ByteArray := prog_12_method_33_code
def yX10_personLine : MethodName := ⟨RX10, "personLine", "()V"⟩
abbrev cX10_shakyLine : ByteArray := prog_12_method_34_code
def yX10_shakyLine : MethodName := ⟨RX10, "shakyLine", "()V"⟩
abbrev cX10_leftLine : ByteArray := prog_12_method_35_code
def yX10_leftLine : MethodName := ⟨RX10, "leftLine", "()V"⟩
abbrev cX10_fault : ByteArray := prog_12_method_36_code
def yX10_fault : MethodName := ⟨RX10, "fault", "()I"⟩
abbrev cX10_where : ByteArray := prog_12_method_37_code
def yX10_where : MethodName := ⟨RX10, "where", "()I"⟩
abbrev cX10_isCandle : ByteArray := prog_12_method_38_code
def yX10_isCandle : MethodName := ⟨RX10, "isCandle", "(I)Z"⟩
abbrev cX10_isPlace : ByteArray := prog_12_method_39_code
def yX10_isPlace : MethodName := ⟨RX10, "isPlace", "(I)Z"⟩
abbrev cX10_isPerson : ByteArray := prog_12_method_40_code
def yX10_isPerson : MethodName := ⟨RX10, "isPerson", "(I)Z"⟩
abbrev cX10_isBreath : ByteArray := prog_12_method_41_code
def yX10_isBreath : MethodName := ⟨RX10, "isBreath", "(I)Z"⟩
abbrev cX10_allCandles : ByteArray := prog_12_method_42_code
def yX10_allCandles : MethodName := ⟨RX10, "allCandles", "()I"⟩
abbrev cX10_breathMany : ByteArray := prog_12_method_43_code
def yX10_breathMany : MethodName := ⟨RX10, "breathMany", "()I"⟩
abbrev cX10_personOf : ByteArray := prog_12_method_44_code
def yX10_personOf : MethodName := ⟨RX10, "personOf", "(I)I"⟩
abbrev cX10_placeOf : ByteArray := prog_12_method_45_code
def yX10_placeOf : MethodName := ⟨RX10, "placeOf", "(I)I"⟩
abbrev cX10_isIn : ByteArray := prog_12_method_46_code
def yX10_isIn : MethodName := ⟨RX10, "isIn", "(II)Z"⟩
abbrev cX10_layFans : ByteArray := prog_12_method_47_code
def yX10_layFans : MethodName := ⟨RX10, "layFans", "()V"⟩
abbrev cX10_ofKind : ByteArray := prog_12_method_48_code
def yX10_ofKind : MethodName := ⟨RX10, "ofKind", "(I)I"⟩
abbrev cX10_blown : ByteArray := prog_12_method_49_code
def yX10_blown : MethodName := ⟨RX10, "blown", "(III)I"⟩
abbrev cX10_burnOf : ByteArray := prog_12_method_50_code
def yX10_burnOf : MethodName := ⟨RX10, "burnOf", "(I)I"⟩
abbrev cX10_dazeOf : ByteArray := prog_12_method_51_code
def yX10_dazeOf : MethodName := ⟨RX10, "dazeOf", "(I)I"⟩
abbrev cX10_candle : ByteArray := prog_12_method_52_code
def yX10_candle : MethodName := ⟨RX10, "candle", "(II)I"⟩
abbrev cX10_fan : ByteArray := prog_12_method_53_code
def yX10_fan : MethodName := ⟨RX10, "fan", "(I)I"⟩
abbrev cX10_breath : ByteArray := prog_12_method_54_code
def yX10_breath : MethodName := ⟨RX10, "breath", "(III)I"⟩
abbrev cX10_breathOf : ByteArray := prog_12_method_55_code
def yX10_breathOf : MethodName := ⟨RX10, "breathOf", "(II)I"⟩
abbrev cX10_fans : ByteArray := prog_12_method_56_code
def yX10_fans : MethodName := ⟨RX10, "fans", "()I"⟩
abbrev cX10_spared : ByteArray := prog_12_method_57_code
def yX10_spared : MethodName := ⟨RX10, "spared", "()I"⟩
abbrev cX10_lights : ByteArray := prog_12_method_58_code
def yX10_lights : MethodName := ⟨RX10, "lights", "(IZ)I"⟩
abbrev cX10_burning : ByteArray := prog_12_method_59_code
def yX10_burning : MethodName := ⟨RX10, "burning", "()I"⟩
abbrev cX10_dazed : ByteArray := prog_12_method_60_code
def yX10_dazed : MethodName := ⟨RX10, "dazed", "()I"⟩
abbrev cX10_allThere : ByteArray := prog_12_method_61_code
def yX10_allThere : MethodName := ⟨RX10, "allThere", "()V"⟩
abbrev cX10_gainOf : ByteArray := prog_12_method_62_code
def yX10_gainOf : MethodName := ⟨RX10, "gainOf", "(I)I"⟩
abbrev cX10_gain : ByteArray := prog_12_method_63_code
def yX10_gain : MethodName := ⟨RX10, "gain", "(I)I"⟩
abbrev cX10_greediest : ByteArray := prog_12_method_64_code
def yX10_greediest : MethodName := ⟨RX10, "greediest", "()I"⟩
abbrev cX10_greedy : ByteArray := prog_12_method_65_code
def yX10_greedy : MethodName := ⟨RX10, "greedy", "()I"⟩
abbrev cX10_note : ByteArray := prog_12_method_66_code
def yX10_note : MethodName := ⟨RX10, "note", "()V"⟩
abbrev cX10_blow : ByteArray := prog_12_method_67_code
def yX10_blow : MethodName := ⟨RX10, "blow", "(I)I"⟩
abbrev cX10_light : ByteArray := prog_12_method_68_code
def yX10_light : MethodName := ⟨RX10, "light", "(I)Z"⟩
abbrev cX10_all : ByteArray := prog_12_method_69_code
def yX10_all : MethodName := ⟨RX10, "all", "()Z"⟩
abbrev cX10_undo : ByteArray := prog_12_method_70_code
def yX10_undo : MethodName := ⟨RX10, "undo", "()Z"⟩
abbrev cX10_allow : ByteArray := prog_12_method_71_code
def yX10_allow : MethodName := ⟨RX10, "allow", "(IIIIZ)V"⟩
abbrev cX10_standOf : ByteArray := prog_12_method_72_code
def yX10_standOf : MethodName := ⟨RX10, "standOf", "(II)I"⟩
abbrev cX10_dazeIn : ByteArray := prog_12_method_73_code
def yX10_dazeIn : MethodName := ⟨RX10, "dazeIn", "(I)I"⟩
abbrev cX10_burnIn : ByteArray := prog_12_method_74_code
def yX10_burnIn : MethodName := ⟨RX10, "burnIn", "(I)I"⟩
abbrev cX10_behind : ByteArray := prog_12_method_75_code
def yX10_behind : MethodName := ⟨RX10, "behind", "(II)I"⟩
abbrev cX10_search : ByteArray := prog_12_method_76_code
def yX10_search : MethodName := ⟨RX10, "search", "(II)I"⟩
abbrev cX10_searchNow : ByteArray := prog_12_method_77_code
def yX10_searchNow : MethodName := ⟨RX10, "searchNow", "()I"⟩
abbrev cX10_fewest : ByteArray := prog_12_method_78_code
def yX10_fewest : MethodName := ⟨RX10, "fewest", "()I"⟩
abbrev cX10_row : ByteArray := prog_12_method_79_code
def yX10_row : MethodName := ⟨RX10, "row", "(I)I"⟩
abbrev cX10_isOn : ByteArray := prog_12_method_80_code
def yX10_isOn : MethodName := ⟨RX10, "isOn", "(II)Z"⟩
abbrev cX10_from : ByteArray := prog_12_method_81_code
def yX10_from : MethodName := ⟨RX10, "from", "(I)I"⟩
abbrev cX10_by : ByteArray := prog_12_method_82_code
def yX10_by : MethodName := ⟨RX10, "by", "(I)I"⟩
abbrev cX10_soonest : ByteArray := prog_12_method_83_code
def yX10_soonest : MethodName := ⟨RX10, "soonest", "(I)I"⟩
abbrev cX10_few : ByteArray := prog_12_method_84_code
def yX10_few : MethodName := ⟨RX10, "few", "(I)I"⟩
abbrev cX10_inTime : ByteArray := prog_12_method_85_code
def yX10_inTime : MethodName := ⟨RX10, "inTime", "()I"⟩
abbrev cX10_far : ByteArray := prog_12_method_86_code
def yX10_far : MethodName := ⟨RX10, "far", "(II)I"⟩
abbrev cX10_walk : ByteArray := prog_12_method_87_code
def yX10_walk : MethodName := ⟨RX10, "walk", "(II)I"⟩
abbrev cX10_teamOf : ByteArray := prog_12_method_88_code
def yX10_teamOf : MethodName := ⟨RX10, "teamOf", "()I"⟩
abbrev cX10_each : ByteArray := prog_12_method_89_code
def yX10_each : MethodName := ⟨RX10, "each", "()I"⟩
abbrev cX10_team : ByteArray := prog_12_method_90_code
def yX10_team : MethodName := ⟨RX10, "team", "()I"⟩
abbrev cX10_greedyEnd : ByteArray := prog_12_method_91_code
def yX10_greedyEnd : MethodName := ⟨RX10, "greedyEnd", "()I"⟩
abbrev cX10_weight : ByteArray := prog_12_method_92_code
def yX10_weight : MethodName := ⟨RX10, "weight", "(I)I"⟩
abbrev cX10_weights : ByteArray := prog_12_method_93_code
def yX10_weights : MethodName := ⟨RX10, "weights", "(I)J"⟩
abbrev cX10_chanceBy : ByteArray := prog_12_method_94_code
def yX10_chanceBy : MethodName := ⟨RX10, "chanceBy", "(III)J"⟩
abbrev cX10_chanceOf : ByteArray := prog_12_method_95_code
def yX10_chanceOf : MethodName := ⟨RX10, "chanceOf", "(II)J"⟩
abbrev cX10_forget : ByteArray := prog_12_method_96_code
def yX10_forget : MethodName := ⟨RX10, "forget", "()V"⟩
abbrev cX10_common : ByteArray := prog_12_method_97_code
def yX10_common : MethodName := ⟨RX10, "common", "(JJ)J"⟩
abbrev cX10_countWhy : ByteArray := prog_12_method_98_code
def yX10_countWhy : MethodName := ⟨RX10, "countWhy", "(II)I"⟩
abbrev cX10_chance : ByteArray := prog_12_method_99_code
def yX10_chance : MethodName := ⟨RX10, "chance", "(IZ)J"⟩
abbrev cX10_contentBy : ByteArray := prog_12_method_100_code
def yX10_contentBy : MethodName := ⟨RX10, "contentBy", "(III)J"⟩
abbrev cX10_contentOf : ByteArray := prog_12_method_101_code
def yX10_contentOf : MethodName := ⟨RX10, "contentOf", "(II)J"⟩
abbrev cX10_content : ByteArray := prog_12_method_102_code
def yX10_content : MethodName := ⟨RX10, "content", "(IZ)J"⟩
abbrev cX10_best : ByteArray := prog_12_method_103_code
def yX10_best : MethodName := ⟨RX10, "best", "(I)I"⟩
abbrev cX10_fitWhy : ByteArray := prog_12_method_104_code
def yX10_fitWhy : MethodName := ⟨RX10, "fitWhy", "(I)I"⟩
abbrev cX10_fitOf : ByteArray := prog_12_method_105_code
def yX10_fitOf : MethodName := ⟨RX10, "fitOf", "(II)I"⟩
abbrev cX10_fits : ByteArray := prog_12_method_106_code
def yX10_fits : MethodName := ⟨RX10, "fits", "(I)I"⟩
abbrev cX10_fitAt : ByteArray := prog_12_method_107_code
def yX10_fitAt : MethodName := ⟨RX10, "fitAt", "(II)I"⟩
abbrev cX10_more : ByteArray := prog_12_method_108_code
def yX10_more : MethodName := ⟨RX10, "more", "(I)I"⟩
abbrev cX10_less : ByteArray := prog_12_method_109_code
def yX10_less : MethodName := ⟨RX10, "less", "(II)I"⟩
abbrev cX10_image : ByteArray := prog_12_method_110_code
def yX10_image : MethodName := ⟨RX10, "image", "()I"⟩
abbrev cX10_back : ByteArray := prog_12_method_111_code
def yX10_back : MethodName := ⟨RX10, "back", "(I)Z"⟩
abbrev cX10_led : ByteArray := prog_12_method_112_code
def yX10_led : MethodName := ⟨RX10, "led", "(I)I"⟩
abbrev cX10_size : ByteArray := prog_12_method_113_code
def yX10_size : MethodName := ⟨RX10, "size", "(I)I"⟩
abbrev cX10_trouble : ByteArray := prog_12_method_114_code
def yX10_trouble : MethodName := ⟨RX10, "trouble", "()I"⟩
def RJx145de : String := "java/io/Serializable"
def TJx145de : u_T := fun k => match k with
  | _ => ("", "", "", false)
def tyJx145de : Nat → FieldType := fun k => match k with
  | _ => .int
abbrev wsJx145de0 : List Cond := u_ws RJx145de TJx145de 0
theorem nmJx145de : ∀ a, a < 0 → ∀ b, b < 0 → a ≠ b → (TJx145de a).2.1 ≠ (TJx145de b).2.1 := by decide +kernel
theorem tyJx145de_ok : ∀ k, k < 0 → parseFieldDescriptor (TJx145de k).2.2.1 = some (tyJx145de k) := by decide +kernel
def RJx9f9b0 : String := "java/lang/CharSequence"
def TJx9f9b0 : u_T := fun k => match k with
  | _ => ("", "", "", false)
def tyJx9f9b0 : Nat → FieldType := fun k => match k with
  | _ => .int
abbrev wsJx9f9b00 : List Cond := u_ws RJx9f9b0 TJx9f9b0 0
theorem nmJx9f9b0 : ∀ a, a < 0 → ∀ b, b < 0 → a ≠ b → (TJx9f9b0 a).2.1 ≠ (TJx9f9b0 b).2.1 := by decide +kernel
theorem tyJx9f9b0_ok : ∀ k, k < 0 → parseFieldDescriptor (TJx9f9b0 k).2.2.1 = some (tyJx9f9b0 k) := by decide +kernel
def RJxb160c : String := "java/lang/Comparable"
def TJxb160c : u_T := fun k => match k with
  | _ => ("", "", "", false)
def tyJxb160c : Nat → FieldType := fun k => match k with
  | _ => .int
abbrev wsJxb160c0 : List Cond := u_ws RJxb160c TJxb160c 0
theorem nmJxb160c : ∀ a, a < 0 → ∀ b, b < 0 → a ≠ b → (TJxb160c a).2.1 ≠ (TJxb160c b).2.1 := by decide +kernel
theorem tyJxb160c_ok : ∀ k, k < 0 → parseFieldDescriptor (TJxb160c k).2.2.1 = some (tyJxb160c k) := by decide +kernel
def RJ6 : String := "java/lang/Integer"
def TJ6 : u_T := fun k => match k with
  | _ => ("", "", "", false)
def tyJ6 : Nat → FieldType := fun k => match k with
  | _ => .int
abbrev wsJ60 : List Cond := u_ws RJ6 TJ6 0
theorem nmJ6 : ∀ a, a < 0 → ∀ b, b < 0 → a ≠ b → (TJ6 a).2.1 ≠ (TJ6 b).2.1 := by decide +kernel
theorem tyJ6_ok : ∀ k, k < 0 → parseFieldDescriptor (TJ6 k).2.2.1 = some (tyJ6 k) := by decide +kernel
abbrev cJ6_bitCount_0f7a4 : ByteArray := prog_17_method_49_code
def yJ6_bitCount_0f7a4 : MethodName := ⟨RJ6, "bitCount", "(I)I"⟩
def RJ9 : String := "java/lang/Math"
def TJ9 : u_T := fun k => match k with
  | _ => ("", "", "", false)
def tyJ9 : Nat → FieldType := fun k => match k with
  | _ => .int
abbrev wsJ90 : List Cond := u_ws RJ9 TJ9 0
theorem nmJ9 : ∀ a, a < 0 → ∀ b, b < 0 → a ≠ b → (TJ9 a).2.1 ≠ (TJ9 b).2.1 := by decide +kernel
theorem tyJ9_ok : ∀ k, k < 0 → parseFieldDescriptor (TJ9 k).2.2.1 = some (tyJ9 k) := by decide +kernel
abbrev cJ9_abs_0f7a4 : ByteArray := prog_18_method_59_code
def yJ9_abs_0f7a4 : MethodName := ⟨RJ9, "abs", "(I)I"⟩
abbrev cJ9_max_7cf53 : ByteArray := prog_18_method_65_code
def yJ9_max_7cf53 : MethodName := ⟨RJ9, "max", "(II)I"⟩
abbrev cJ9_min_7cf53 : ByteArray := prog_18_method_69_code
def yJ9_min_7cf53 : MethodName := ⟨RJ9, "min", "(II)I"⟩
def RJ0 : String := "java/lang/String"
def TJ0 : u_T := fun k => match k with
  | _ => ("", "", "", false)
def tyJ0 : Nat → FieldType := fun k => match k with
  | _ => .int
abbrev wsJ00 : List Cond := u_ws RJ0 TJ0 0
theorem nmJ0 : ∀ a, a < 0 → ∀ b, b < 0 → a ≠ b → (TJ0 a).2.1 ≠ (TJ0 b).2.1 := by decide +kernel
theorem tyJ0_ok : ∀ k, k < 0 → parseFieldDescriptor (TJ0 k).2.2.1 = some (tyJ0 k) := by decide +kernel
abbrev cJ0_length_8abf5 : ByteArray := prog_20_method_54_code
def yJ0_length_8abf5 : MethodName := ⟨RJ0, "length", "()I"⟩
abbrev cJ0_charAt_5068e : ByteArray := prog_20_method_56_code
def yJ0_charAt_5068e : MethodName := ⟨RJ0, "charAt", "(I)C"⟩
abbrev cJ0_coder_7d493 : ByteArray := prog_20_method_152_code
def yJ0_coder_7d493 : MethodName := ⟨RJ0, "coder", "()B"⟩
abbrev cJ0_isLatin1_aae02 : ByteArray := prog_20_method_154_code
def yJ0_isLatin1_aae02 : MethodName := ⟨RJ0, "isLatin1", "()Z"⟩
abbrev cJ0_checkIndex_df160 : ByteArray := prog_20_method_155_code
def yJ0_checkIndex_df160 : MethodName := ⟨RJ0, "checkIndex", "(II)V"⟩
def RJ1 : String := "java/lang/StringLatin1"
def TJ1 : u_T := fun k => match k with
  | _ => ("", "", "", false)
def tyJ1 : Nat → FieldType := fun k => match k with
  | _ => .int
abbrev wsJ10 : List Cond := u_ws RJ1 TJ1 0
theorem nmJ1 : ∀ a, a < 0 → ∀ b, b < 0 → a ≠ b → (TJ1 a).2.1 ≠ (TJ1 b).2.1 := by decide +kernel
theorem tyJ1_ok : ∀ k, k < 0 → parseFieldDescriptor (TJ1 k).2.2.1 = some (tyJ1 k) := by decide +kernel
abbrev cJ1_charAt_3b067 : ByteArray := prog_21_method_2_code
def yJ1_charAt_3b067 : MethodName := ⟨RJ1, "charAt", "([BI)C"⟩
def RJ2 : String := "java/lang/StringUTF16"
def TJ2 : u_T := fun k => match k with
  | _ => ("", "", "", false)
def tyJ2 : Nat → FieldType := fun k => match k with
  | _ => .int
abbrev wsJ20 : List Cond := u_ws RJ2 TJ2 0
theorem nmJ2 : ∀ a, a < 0 → ∀ b, b < 0 → a ≠ b → (TJ2 a).2.1 ≠ (TJ2 b).2.1 := by decide +kernel
theorem tyJ2_ok : ∀ k, k < 0 → parseFieldDescriptor (TJ2 k).2.2.1 = some (tyJ2 k) := by decide +kernel
abbrev cJ2_getChar_3b067 : ByteArray := prog_22_method_5_code
def yJ2_getChar_3b067 : MethodName := ⟨RJ2, "getChar", "([BI)C"⟩
abbrev cJ2_length_9d52b : ByteArray := prog_22_method_6_code
def yJ2_length_9d52b : MethodName := ⟨RJ2, "length", "([B)I"⟩
abbrev cJ2_charAt_3b067 : ByteArray := prog_22_method_83_code
def yJ2_charAt_3b067 : MethodName := ⟨RJ2, "charAt", "([BI)C"⟩
abbrev cJ2_checkIndex_2214a : ByteArray := prog_22_method_91_code
def yJ2_checkIndex_2214a : MethodName := ⟨RJ2, "checkIndex", "(I[B)V"⟩
def RJ10 : String := "java/lang/System"
def TJ10 : u_T := fun k => match k with
  | _ => ("", "", "", false)
def tyJ10 : Nat → FieldType := fun k => match k with
  | _ => .int
abbrev wsJ100 : List Cond := u_ws RJ10 TJ10 0
theorem nmJ10 : ∀ a, a < 0 → ∀ b, b < 0 → a ≠ b → (TJ10 a).2.1 ≠ (TJ10 b).2.1 := by decide +kernel
theorem tyJ10_ok : ∀ k, k < 0 → parseFieldDescriptor (TJ10 k).2.2.1 = some (tyJ10 k) := by decide +kernel
def RJxfd54e : String := "java/lang/constant/Constable"
def TJxfd54e : u_T := fun k => match k with
  | _ => ("", "", "", false)
def tyJxfd54e : Nat → FieldType := fun k => match k with
  | _ => .int
abbrev wsJxfd54e0 : List Cond := u_ws RJxfd54e TJxfd54e 0
theorem nmJxfd54e : ∀ a, a < 0 → ∀ b, b < 0 → a ≠ b → (TJxfd54e a).2.1 ≠ (TJxfd54e b).2.1 := by decide +kernel
theorem tyJxfd54e_ok : ∀ k, k < 0 → parseFieldDescriptor (TJxfd54e k).2.2.1 = some (tyJxfd54e k) := by decide +kernel
def RJx3cf43 : String := "java/lang/constant/ConstantDesc"
def TJx3cf43 : u_T := fun k => match k with
  | _ => ("", "", "", false)
def tyJx3cf43 : Nat → FieldType := fun k => match k with
  | _ => .int
abbrev wsJx3cf430 : List Cond := u_ws RJx3cf43 TJx3cf43 0
theorem nmJx3cf43 : ∀ a, a < 0 → ∀ b, b < 0 → a ≠ b → (TJx3cf43 a).2.1 ≠ (TJx3cf43 b).2.1 := by decide +kernel
theorem tyJx3cf43_ok : ∀ k, k < 0 → parseFieldDescriptor (TJx3cf43 k).2.2.1 = some (tyJx3cf43 k) := by decide +kernel
def RJ7 : String := "java/util/Arrays"
def TJ7 : u_T := fun k => match k with
  | _ => ("", "", "", false)
def tyJ7 : Nat → FieldType := fun k => match k with
  | _ => .int
abbrev wsJ70 : List Cond := u_ws RJ7 TJ7 0
theorem nmJ7 : ∀ a, a < 0 → ∀ b, b < 0 → a ≠ b → (TJ7 a).2.1 ≠ (TJ7 b).2.1 := by decide +kernel
theorem tyJ7_ok : ∀ k, k < 0 → parseFieldDescriptor (TJ7 k).2.2.1 = some (tyJ7 k) := by decide +kernel
abbrev cJ7_fill_53178 : ByteArray := prog_27_method_103_code
def yJ7_fill_53178 : MethodName := ⟨RJ7, "fill", "([II)V"⟩
def RJ3 : String := "jdk/internal/util/Preconditions"
def TJ3 : u_T := fun k => match k with
  | _ => ("", "", "", false)
def tyJ3 : Nat → FieldType := fun k => match k with
  | _ => .int
abbrev wsJ30 : List Cond := u_ws RJ3 TJ3 0
theorem nmJ3 : ∀ a, a < 0 → ∀ b, b < 0 → a ≠ b → (TJ3 a).2.1 ≠ (TJ3 b).2.1 := by decide +kernel
theorem tyJ3_ok : ∀ k, k < 0 → parseFieldDescriptor (TJ3 k).2.2.1 = some (tyJ3 k) := by decide +kernel
abbrev cJ3_checkIndex_8e157 : ByteArray := prog_29_method_11_code
def yJ3_checkIndex_8e157 : MethodName := ⟨RJ3, "checkIndex", "(IILjava/util/function/BiFunction;)I"⟩
def RL : String := "ThreeBreathsLaw"
abbrev cL_led : ByteArray := method_3_code
def yL_led : MethodName := ⟨RL, "led", "(LThreeBreaths;I[J)I"⟩
abbrev cL_law : ByteArray := code
def yL_law : MethodName := ⟨RL, "law", "([I)Z"⟩

abbrev vwCl : List vw_C := [(RX0, TX0, 15), (RX1, TX1, 12), (RX2, TX2, 6), (RX3, TX3, 13), (RX4, TX4, 5), (RX5, TX5, 4), (RX6, TX6, 15), (RX7, TX7, 14), (RX8, TX8, 2), (RX9, TX9, 10), (RX10, TX10, 40)]
/-- the first cells of the two cakes -/
def mm_cA : Nat := 18
def mm_cB : Nat := 32
/-- the cells: region, kind, length, the cells that it points to -/
def mm_T : List (Nat × Nat × Nat × List Nat) := [
  /- 0 x -/ (0, 9, 0, [1, 0, 6, 15, 70, 81, 96, 0, 0, 0]),
  /- 1 rd -/ (0, 6, 0, [2, 0, 0, 0, 0, 0, 0, 0, 0, 3, 4, 5, 0, 0, 0]),
  /- 2 rd.text -/ (0, 22, 900, []),
  /- 3 rd.names -/ (0, 21, 23, []),
  /- 4 rd.sorts -/ (0, 20, 23, []),
  /- 5 rd.numbers -/ (0, 20, 23, []),
  /- 6 bd -/ (0, 0, 0, [0, 0, 0, 7, 8, 9, 10, 0, 11, 12, 13, 0, 14, 0, 0]),
  /- 7 bd.fanOf -/ (0, 20, 320, []),
  /- 8 bd.unlikeOf -/ (0, 20, 320, []),
  /- 9 bd.unlike -/ (0, 20, 320, []),
  /- 10 bd.sharers -/ (0, 20, 320, []),
  /- 11 bd.unlikeBySet -/ (0, 20, 1024, []),
  /- 12 bd.lit -/ (0, 20, 1024, []),
  /- 13 bd.trickBits -/ (0, 20, 3, []),
  /- 14 bd.dazes -/ (0, 20, 8, []),
  /- 15 pa -/ (0, 4, 0, [0, 16, 0, 17, 0]),
  /- 16 pa.before -/ (0, 20, 20, []),
  /- 17 pa.images -/ (0, 20, 3, []),
  /- 18 A -/ (0, 1, 0, [19, 22, 23, 26, 29, 30, 0, 0, 0, 31, 0, 0]),
  /- 19 A.candles -/ (0, 5, 0, [0, 20, 21, 0]),
  /- 20 A.candles.x -/ (0, 20, 10, []),
  /- 21 A.candles.y -/ (0, 20, 10, []),
  /- 22 A.kinds -/ (0, 20, 10, []),
  /- 23 A.places -/ (0, 5, 0, [0, 24, 25, 0]),
  /- 24 A.places.x -/ (0, 20, 10, []),
  /- 25 A.places.y -/ (0, 20, 10, []),
  /- 26 A.spots -/ (0, 5, 0, [0, 27, 28, 0]),
  /- 27 A.spots.x -/ (0, 20, 10, []),
  /- 28 A.spots.y -/ (0, 20, 10, []),
  /- 29 A.reach -/ (0, 20, 4, []),
  /- 30 A.spread -/ (0, 20, 4, []),
  /- 31 A.shaky -/ (0, 20, 3, []),
  /- 32 B -/ (0, 1, 0, [33, 36, 37, 40, 43, 44, 0, 0, 0, 45, 0, 0]),
  /- 33 B.candles -/ (0, 5, 0, [0, 34, 35, 0]),
  /- 34 B.candles.x -/ (0, 20, 10, []),
  /- 35 B.candles.y -/ (0, 20, 10, []),
  /- 36 B.kinds -/ (0, 20, 10, []),
  /- 37 B.places -/ (0, 5, 0, [0, 38, 39, 0]),
  /- 38 B.places.x -/ (0, 20, 10, []),
  /- 39 B.places.y -/ (0, 20, 10, []),
  /- 40 B.spots -/ (0, 5, 0, [0, 41, 42, 0]),
  /- 41 B.spots.x -/ (0, 20, 10, []),
  /- 42 B.spots.y -/ (0, 20, 10, []),
  /- 43 B.reach -/ (0, 20, 4, []),
  /- 44 B.spread -/ (0, 20, 4, []),
  /- 45 B.shaky -/ (0, 20, 3, []),
  /- 46 m -/ (0, 10, 0, [0, 47, 0, 0, 0, 0, 0, 0, 0, 0, 0, 0, 48, 0, 0, 49, 50, 0, 0, 0, 0, 51, 52, 53, 54, 55, 56, 0, 57, 58, 59, 60, 0, 0, 0, 0, 61, 62, 63, 64]),
  /- 47 m.tape -/ (0, 20, 900, []),
  /- 48 m.letters -/ (0, 20, 8, []),
  /- 49 m.r -/ (0, 20, 279, []),
  /- 50 m.fresh -/ (0, 20, 279, []),
  /- 51 m.undone -/ (0, 20, 40, []),
  /- 52 m.kept -/ (0, 20, 6, []),
  /- 53 m.fans -/ (0, 20, 320, []),
  /- 54 m.near -/ (0, 20, 11, []),
  /- 55 m.wayX -/ (0, 20, 16, []),
  /- 56 m.wayY -/ (0, 20, 16, []),
  /- 57 m.allowed -/ (0, 20, 320, []),
  /- 58 m.level -/ (0, 20, 16384, []),
  /- 59 m.queue -/ (0, 20, 16384, []),
  /- 60 m.leads -/ (0, 23, 16384, []),
  /- 61 m.way -/ (0, 20, 81920, []),
  /- 62 m.reached -/ (0, 23, 262144, []),
  /- 63 m.inOne -/ (0, 21, 16384, []),
  /- 64 m.inTwo -/ (0, 21, 16384, []),
  /- 65 out -/ (0, 21, 1, []),
  /- 66 WAY_X -/ (0, 30, 16, []),
  /- 67 WAY_Y -/ (0, 30, 16, []),
  /- 68 script -/ (0, 31, 0, []),
  /- 69 scriptLen -/ (0, 99, 0, []),
  /- 70 se -/ (1, 7, 0, [6, 77, 71, 72, 73, 0, 74, 75, 76, 0, 0, 0, 0, 0]),
  /- 71 se.seen -/ (1, 20, 16384, []),
  /- 72 se.queue -/ (1, 20, 6912, []),
  /- 73 se.depth -/ (1, 20, 6912, []),
  /- 74 se.toGo -/ (1, 20, 17280, []),
  /- 75 se.byNext -/ (1, 20, 5, []),
  /- 76 se.row -/ (1, 20, 3456, []),
  /- 77 fl -/ (1, 2, 0, [6, 78, 79, 0, 80, 0]),
  /- 78 fl.fans -/ (1, 20, 320, []),
  /- 79 fl.firsts -/ (1, 20, 320, []),
  /- 80 fl.listedIn -/ (1, 20, 2048, []),
  /- 81 od -/ (2, 3, 0, [6, 0, 82, 85, 88, 92, 93, 94, 95, 0, 0, 0, 0]),
  /- 82 od.chances -/ (2, 24, 2, [83, 84]),
  /- 83 od.chances.0 -/ (2, 20, 8192, []),
  /- 84 od.chances.1 -/ (2, 20, 8192, []),
  /- 85 od.means -/ (2, 24, 2, [86, 87]),
  /- 86 od.means.0 -/ (2, 20, 8192, []),
  /- 87 od.means.1 -/ (2, 20, 8192, []),
  /- 88 od.worth -/ (2, 24, 3, [89, 90, 91]),
  /- 89 od.worth.0 -/ (2, 20, 320, []),
  /- 90 od.worth.1 -/ (2, 20, 320, []),
  /- 91 od.worth.2 -/ (2, 20, 320, []),
  /- 92 od.goesBack -/ (2, 20, 320, []),
  /- 93 od.goesStraight -/ (2, 20, 320, []),
  /- 94 od.goesOn -/ (2, 20, 320, []),
  /- 95 od.firsts -/ (2, 20, 320, []),
  /- 96 tr -/ (3, 8, 0, [6, 97]),
  /- 97 tr.rows -/ (3, 20, 320, []),
  /- 98 'cake' -/ (0, 40, 4, []),
  /- 99 'near' -/ (0, 40, 4, []),
  /- 100 'wax' -/ (0, 40, 3, []),
  /- 101 'candle' -/ (0, 40, 6, []),
  /- 102 'place' -/ (0, 40, 5, []),
  /- 103 'spot' -/ (0, 40, 4, []),
  /- 104 'person' -/ (0, 40, 6, []),
  /- 105 'shaky' -/ (0, 40, 5, []),
  /- 106 'left' -/ (0, 40, 4, []),
  /- 107 'none' -/ (0, 40, 4, []),
  /- 108 'at' -/ (0, 40, 2, []),
  /- 109 'plain' -/ (0, 40, 5, []),
  /- 110 'tall' -/ (0, 40, 4, []),
  /- 111 'again' -/ (0, 40, 5, []),
  /- 112 'trick' -/ (0, 40, 5, []),
  /- 113 'reach' -/ (0, 40, 5, []),
  /- 114 'spread' -/ (0, 40, 6, [])
]
/-- what a field holds, by class and place -/
def mm_F : List (List Nat) := [[3, 0, 0, 2, 2, 2, 2, 0, 2, 2, 2, 0, 2, 0, 0], [2, 2, 2, 2, 2, 2, 0, 0, 0, 2, 0, 0], [2, 2, 2, 0, 2, 0], [2, 0, 2, 2, 2, 2, 2, 2, 2, 0, 0, 0, 0], [0, 2, 0, 2, 0], [0, 2, 2, 0], [2, 0, 0, 0, 0, 0, 1, 0, 0, 2, 2, 2, 0, 4, 0], [2, 2, 2, 2, 2, 0, 2, 2, 2, 0, 0, 0, 0, 0], [2, 2], [2, 0, 2, 2, 9, 9, 9, 0, 0, 0], [0, 2, 0, 0, 0, 0, 0, 0, 0, 0, 0, 0, 2, 0, 0, 2, 2, 0, 0, 0, 0, 2, 2, 2, 2, 2, 2, 0, 2, 2, 2, 2, 0, 0, 0, 0, 2, 2, 2, 2]]
