/-! ===== BEGIN words of one list among another's, by their places ===== -/
theorem goodIn_r {big : List Cond} (ws : List Cond) (ps : List Nat) (hp : ws = ps.filterMap (fun i => big[i]?)) (h : ws.all goodWord = true) : GoodIn big ws := by
  intro w hw
  have h1 := List.all_eq_true.mp h w hw
  rw [hp] at hw
  obtain ⟨i, -, hi⟩ := List.mem_filterMap.mp hw
  have hm : w ∈ big := by first | exact List.mem_of_getElem? hi | exact List.getElem?_mem hi
  exact ⟨hm, good_of_word h1⟩
theorem goodIn_app {big a b : List Cond} (ha : GoodIn big a) (hb : GoodIn big b) : GoodIn big (a ++ b) := fun w h => (List.mem_append.mp h).elim (ha w) (hb w)
theorem goodIn_ca {big a b : List Cond} {c : Cond} (ha : GoodIn big (c :: a)) (hb : GoodIn big b) : GoodIn big (c :: (a ++ b)) := fun w h => (List.mem_cons.mp h).elim (fun e => ha w (List.mem_cons.mpr (Or.inl e))) (fun h => (List.mem_append.mp h).elim (fun h => ha w (List.mem_cons.mpr (Or.inr h))) (hb w))
theorem goodIn_sub {big ws : List Cond} (hm : ∀ w ∈ ws, w ∈ big) (h : ws.all goodWord = true) : GoodIn big ws := fun w hw => ⟨hm w hw, good_of_word (List.all_eq_true.mp h w hw)⟩
/-! ===== END ===== -/

/-! ===== BEGIN printed: names, fields, word lists, decode rows ===== -/
def RX0 : String := "SplitRounds$Choices"
def TX0 : u_T := fun k => match k with
  | 0 => ("SplitRounds$Choices", "count", "I", false)
  | 1 => ("SplitRounds$Choices", "sizes", "[I", true)
  | 2 => ("SplitRounds$Choices", "prices", "[I", true)
  | _ => ("SplitRounds$Choices", "asked", "[I", true)
def tyX0 : Nat → FieldType := fun k => match k with
  | 0 => .int
  | 1 => .array .int
  | 2 => .array .int
  | _ => .array .int
abbrev wsX00 : List Cond := u_ws RX0 TX0 4
theorem nmX0 : ∀ a, a < 4 → ∀ b, b < 4 → a ≠ b → (TX0 a).2.1 ≠ (TX0 b).2.1 := by decide +kernel
theorem tyX0_ok : ∀ k, k < 4 → parseFieldDescriptor (TX0 k).2.2.1 = some (tyX0 k) := by decide +kernel
abbrev cX0_init : ByteArray := prog_2_method_1_code
def yX0_init : MethodName := ⟨RX0, "<init>", "()V"⟩
abbrev cX0_knows : ByteArray := prog_2_method_2_code
def yX0_knows : MethodName := ⟨RX0, "knows", "(I)Z"⟩
abbrev cX0_knowsValue : ByteArray := prog_2_method_3_code
def yX0_knowsValue : MethodName := ⟨RX0, "knowsValue", "(II)Z"⟩
def RX1 : String := "SplitRounds$Cuts"
def TX1 : u_T := fun k => match k with
  | 0 => ("SplitRounds$Cuts", "count", "I", false)
  | 1 => ("SplitRounds$Cuts", "parts", "[I", true)
  | 2 => ("SplitRounds$Cuts", "futures", "[I", true)
  | 3 => ("SplitRounds$Cuts", "numbers", "[I", true)
  | 4 => ("SplitRounds$Cuts", "rounds", "[I", true)
  | 5 => ("SplitRounds$Cuts", "sizes", "[I", true)
  | _ => ("SplitRounds$Cuts", "reasons", "[I", true)
def tyX1 : Nat → FieldType := fun k => match k with
  | 0 => .int
  | 1 => .array .int
  | 2 => .array .int
  | 3 => .array .int
  | 4 => .array .int
  | 5 => .array .int
  | _ => .array .int
abbrev wsX10 : List Cond := u_ws RX1 TX1 7
theorem nmX1 : ∀ a, a < 7 → ∀ b, b < 7 → a ≠ b → (TX1 a).2.1 ≠ (TX1 b).2.1 := by decide +kernel
theorem tyX1_ok : ∀ k, k < 7 → parseFieldDescriptor (TX1 k).2.2.1 = some (tyX1 k) := by decide +kernel
abbrev cX1_init : ByteArray := prog_3_method_1_code
def yX1_init : MethodName := ⟨RX1, "<init>", "()V"⟩
abbrev cX1_knows : ByteArray := prog_3_method_2_code
def yX1_knows : MethodName := ⟨RX1, "knows", "(I)Z"⟩
abbrev cX1_add : ByteArray := prog_3_method_3_code
def yX1_add : MethodName := ⟨RX1, "add", "(IIIILSplitRounds$Part;)V"⟩
abbrev cX1_isMetBy : ByteArray := prog_3_method_4_code
def yX1_isMetBy : MethodName := ⟨RX1, "isMetBy", "(I[I)Z"⟩
abbrev cX1_takeAway : ByteArray := prog_3_method_5_code
def yX1_takeAway : MethodName := ⟨RX1, "takeAway", "(I)V"⟩
abbrev cX1_move : ByteArray := prog_3_method_6_code
def yX1_move : MethodName := ⟨RX1, "move", "(II)V"⟩
def RX2 : String := "SplitRounds$Futures"
def TX2 : u_T := fun k => match k with
  | 0 => ("SplitRounds$Futures", "count", "I", false)
  | _ => ("SplitRounds$Futures", "weights", "[I", true)
def tyX2 : Nat → FieldType := fun k => match k with
  | 0 => .int
  | _ => .array .int
abbrev wsX20 : List Cond := u_ws RX2 TX2 2
theorem nmX2 : ∀ a, a < 2 → ∀ b, b < 2 → a ≠ b → (TX2 a).2.1 ≠ (TX2 b).2.1 := by decide +kernel
theorem tyX2_ok : ∀ k, k < 2 → parseFieldDescriptor (TX2 k).2.2.1 = some (tyX2 k) := by decide +kernel
abbrev cX2_init : ByteArray := prog_4_method_1_code
def yX2_init : MethodName := ⟨RX2, "<init>", "()V"⟩
abbrev cX2_knows : ByteArray := prog_4_method_2_code
def yX2_knows : MethodName := ⟨RX2, "knows", "(I)Z"⟩
abbrev cX2_sumOfWeights : ByteArray := prog_4_method_3_code
def yX2_sumOfWeights : MethodName := ⟨RX2, "sumOfWeights", "()I"⟩
def RX3 : String := "SplitRounds$Part"
def TX3 : u_T := fun k => match k with
  | 0 => ("SplitRounds$Part", "joinedCount", "I", false)
  | 1 => ("SplitRounds$Part", "joined", "[I", true)
  | 2 => ("SplitRounds$Part", "joinedSizes", "[I", true)
  | 3 => ("SplitRounds$Part", "localCount", "I", false)
  | 4 => ("SplitRounds$Part", "tops", "[I", true)
  | 5 => ("SplitRounds$Part", "unitPrices", "[I", true)
  | 6 => ("SplitRounds$Part", "rowCount", "I", false)
  | 7 => ("SplitRounds$Part", "limits", "[I", true)
  | 8 => ("SplitRounds$Part", "weighings", "[I", true)
  | 9 => ("SplitRounds$Part", "shifts", "[I", true)
  | 10 => ("SplitRounds$Part", "answers", "[I", true)
  | 11 => ("SplitRounds$Part", "floors", "[I", true)
  | 12 => ("SplitRounds$Part", "rooms", "[I", true)
  | 13 => ("SplitRounds$Part", "units", "[I", true)
  | 14 => ("SplitRounds$Part", "leastUnits", "[I", true)
  | _ => ("SplitRounds$Part", "held", "[I", true)
def tyX3 : Nat → FieldType := fun k => match k with
  | 0 => .int
  | 1 => .array .int
  | 2 => .array .int
  | 3 => .int
  | 4 => .array .int
  | 5 => .array .int
  | 6 => .int
  | 7 => .array .int
  | 8 => .array .int
  | 9 => .array .int
  | 10 => .array .int
  | 11 => .array .int
  | 12 => .array .int
  | 13 => .array .int
  | 14 => .array .int
  | _ => .array .int
abbrev wsX30 : List Cond := u_ws RX3 TX3 16
theorem nmX3 : ∀ a, a < 16 → ∀ b, b < 16 → a ≠ b → (TX3 a).2.1 ≠ (TX3 b).2.1 := by decide +kernel
theorem tyX3_ok : ∀ k, k < 16 → parseFieldDescriptor (TX3 k).2.2.1 = some (tyX3 k) := by decide +kernel
abbrev cX3_init : ByteArray := prog_5_method_1_code
def yX3_init : MethodName := ⟨RX3, "<init>", "()V"⟩
abbrev cX3_forget : ByteArray := prog_5_method_2_code
def yX3_forget : MethodName := ⟨RX3, "forget", "()V"⟩
abbrev cX3_isJoinedTo : ByteArray := prog_5_method_3_code
def yX3_isJoinedTo : MethodName := ⟨RX3, "isJoinedTo", "(I)Z"⟩
abbrev cX3_knowsLocal : ByteArray := prog_5_method_4_code
def yX3_knowsLocal : MethodName := ⟨RX3, "knowsLocal", "(I)Z"⟩
abbrev cX3_joinTo : ByteArray := prog_5_method_5_code
def yX3_joinTo : MethodName := ⟨RX3, "joinTo", "(II)V"⟩
abbrev cX3_settledAt : ByteArray := prog_5_method_6_code
def yX3_settledAt : MethodName := ⟨RX3, "settledAt", "()I"⟩
abbrev cX3_spotOf : ByteArray := prog_5_method_7_code
def yX3_spotOf : MethodName := ⟨RX3, "spotOf", "([I)I"⟩
abbrev cX3_costTo : ByteArray := prog_5_method_8_code
def yX3_costTo : MethodName := ⟨RX3, "costTo", "([ILSplitRounds$Futures;Z)I"⟩
abbrev cX3_answerTo : ByteArray := prog_5_method_9_code
def yX3_answerTo : MethodName := ⟨RX3, "answerTo", "(II)I"⟩
abbrev cX3_solve : ByteArray := prog_5_method_10_code
def yX3_solve : MethodName := ⟨RX3, "solve", "(II)I"⟩
abbrev cX3_measureRooms : ByteArray := prog_5_method_11_code
def yX3_measureRooms : MethodName := ⟨RX3, "measureRooms", "(II)V"⟩
abbrev cX3_priceOfUnits : ByteArray := prog_5_method_12_code
def yX3_priceOfUnits : MethodName := ⟨RX3, "priceOfUnits", "()I"⟩
abbrev cX3_rowsHold : ByteArray := prog_5_method_13_code
def yX3_rowsHold : MethodName := ⟨RX3, "rowsHold", "()Z"⟩
abbrev cX3_clearLastUsed : ByteArray := prog_5_method_14_code
def yX3_clearLastUsed : MethodName := ⟨RX3, "clearLastUsed", "()I"⟩
abbrev cX3_raiseFrom : ByteArray := prog_5_method_15_code
def yX3_raiseFrom : MethodName := ⟨RX3, "raiseFrom", "(I)Z"⟩
abbrev cX3_findReasons : ByteArray := prog_5_method_16_code
def yX3_findReasons : MethodName := ⟨RX3, "findReasons", "(III)V"⟩
abbrev cX3_isTrue : ByteArray := prog_5_method_17_code
def yX3_isTrue : MethodName := ⟨RX3, "isTrue", "(II)Z"⟩
abbrev cX3_meets : ByteArray := prog_5_method_18_code
def yX3_meets : MethodName := ⟨RX3, "meets", "(I)Z"⟩
abbrev cX3_raiseFloors : ByteArray := prog_5_method_19_code
def yX3_raiseFloors : MethodName := ⟨RX3, "raiseFloors", "(II)V"⟩
def RX4 : String := "SplitRounds$Progress"
def TX4 : u_T := fun k => match k with
  | 0 => ("SplitRounds$Progress", "rounds", "I", false)
  | 1 => ("SplitRounds$Progress", "end", "I", false)
  | 2 => ("SplitRounds$Progress", "lower", "I", false)
  | 3 => ("SplitRounds$Progress", "upper", "I", false)
  | 4 => ("SplitRounds$Progress", "master", "[I", true)
  | _ => ("SplitRounds$Progress", "best", "[I", true)
def tyX4 : Nat → FieldType := fun k => match k with
  | 0 => .int
  | 1 => .int
  | 2 => .int
  | 3 => .int
  | 4 => .array .int
  | _ => .array .int
abbrev wsX40 : List Cond := u_ws RX4 TX4 6
theorem nmX4 : ∀ a, a < 6 → ∀ b, b < 6 → a ≠ b → (TX4 a).2.1 ≠ (TX4 b).2.1 := by decide +kernel
theorem tyX4_ok : ∀ k, k < 6 → parseFieldDescriptor (TX4 k).2.2.1 = some (tyX4 k) := by decide +kernel
abbrev cX4_init : ByteArray := prog_6_method_1_code
def yX4_init : MethodName := ⟨RX4, "<init>", "()V"⟩
abbrev cX4_restart : ByteArray := prog_6_method_2_code
def yX4_restart : MethodName := ⟨RX4, "restart", "()V"⟩
abbrev cX4_hasMaster : ByteArray := prog_6_method_3_code
def yX4_hasMaster : MethodName := ⟨RX4, "hasMaster", "()Z"⟩
abbrev cX4_hasBest : ByteArray := prog_6_method_4_code
def yX4_hasBest : MethodName := ⟨RX4, "hasBest", "()Z"⟩
abbrev cX4_takeMaster : ByteArray := prog_6_method_5_code
def yX4_takeMaster : MethodName := ⟨RX4, "takeMaster", "([II)V"⟩
abbrev cX4_takeCost : ByteArray := prog_6_method_6_code
def yX4_takeCost : MethodName := ⟨RX4, "takeCost", "(I)V"⟩
def RX5 : String := "SplitRounds"
def TX5 : u_T := fun k => match k with
  | 0 => ("SplitRounds", "choices", "LSplitRounds$Choices;", true)
  | 1 => ("SplitRounds", "futures", "LSplitRounds$Futures;", true)
  | 2 => ("SplitRounds", "parts", "[LSplitRounds$Part;", true)
  | 3 => ("SplitRounds", "partCount", "I", false)
  | 4 => ("SplitRounds", "cuts", "LSplitRounds$Cuts;", true)
  | 5 => ("SplitRounds", "progress", "LSplitRounds$Progress;", true)
  | 6 => ("SplitRounds", "tried", "[I", true)
  | 7 => ("SplitRounds", "spentAhead", "[I", true)
  | 8 => ("SplitRounds", "least", "[I", true)
  | _ => ("SplitRounds", "leastCost", "I", false)
def tyX5 : Nat → FieldType := fun k => match k with
  | 0 => .object "SplitRounds$Choices"
  | 1 => .object "SplitRounds$Futures"
  | 2 => .array (.object "SplitRounds$Part")
  | 3 => .int
  | 4 => .object "SplitRounds$Cuts"
  | 5 => .object "SplitRounds$Progress"
  | 6 => .array .int
  | 7 => .array .int
  | 8 => .array .int
  | _ => .int
abbrev wsX50 : List Cond := u_ws RX5 TX5 10
theorem nmX5 : ∀ a, a < 10 → ∀ b, b < 10 → a ≠ b → (TX5 a).2.1 ≠ (TX5 b).2.1 := by decide +kernel
theorem tyX5_ok : ∀ k, k < 10 → parseFieldDescriptor (TX5 k).2.2.1 = some (tyX5 k) := by decide +kernel
abbrev cX5_init : ByteArray := prog_1_method_1_code
def yX5_init : MethodName := ⟨RX5, "<init>", "()V"⟩
abbrev cX5_choice : ByteArray := prog_1_method_2_code
def yX5_choice : MethodName := ⟨RX5, "choice", "(I)I"⟩
abbrev cX5_price : ByteArray := prog_1_method_3_code
def yX5_price : MethodName := ⟨RX5, "price", "(III)I"⟩
abbrev cX5_future : ByteArray := prog_1_method_4_code
def yX5_future : MethodName := ⟨RX5, "future", "(I)I"⟩
abbrev cX5_weight : ByteArray := prog_1_method_5_code
def yX5_weight : MethodName := ⟨RX5, "weight", "(II)I"⟩
abbrev cX5_part : ByteArray := prog_1_method_6_code
def yX5_part : MethodName := ⟨RX5, "part", "()I"⟩
abbrev cX5_join : ByteArray := prog_1_method_7_code
def yX5_join : MethodName := ⟨RX5, "join", "(II)I"⟩
abbrev cX5_local : ByteArray := prog_1_method_8_code
def yX5_local : MethodName := ⟨RX5, "local", "(III)I"⟩
abbrev cX5_row : ByteArray := prog_1_method_9_code
def yX5_row : MethodName := ⟨RX5, "row", "(II)I"⟩
abbrev cX5_weigh : ByteArray := prog_1_method_10_code
def yX5_weigh : MethodName := ⟨RX5, "weigh", "(IIZII)I"⟩
abbrev cX5_shift : ByteArray := prog_1_method_11_code
def yX5_shift : MethodName := ⟨RX5, "shift", "(IIII)I"⟩
abbrev cX5_run : ByteArray := prog_1_method_12_code
def yX5_run : MethodName := ⟨RX5, "run", "(I)I"⟩
abbrev cX5_told : ByteArray := prog_1_method_13_code
def yX5_told : MethodName := ⟨RX5, "told", "(I)I"⟩
abbrev cX5_best : ByteArray := prog_1_method_14_code
def yX5_best : MethodName := ⟨RX5, "best", "(I)I"⟩
abbrev cX5_master : ByteArray := prog_1_method_15_code
def yX5_master : MethodName := ⟨RX5, "master", "(I)I"⟩
abbrev cX5_share : ByteArray := prog_1_method_16_code
def yX5_share : MethodName := ⟨RX5, "share", "(I)I"⟩
abbrev cX5_ask : ByteArray := prog_1_method_17_code
def yX5_ask : MethodName := ⟨RX5, "ask", "(II)I"⟩
abbrev cX5_answer : ByteArray := prog_1_method_18_code
def yX5_answer : MethodName := ⟨RX5, "answer", "(II)I"⟩
abbrev cX5_unit : ByteArray := prog_1_method_19_code
def yX5_unit : MethodName := ⟨RX5, "unit", "(III)I"⟩
abbrev cX5_cut : ByteArray := prog_1_method_20_code
def yX5_cut : MethodName := ⟨RX5, "cut", "(II)I"⟩
abbrev cX5_reason : ByteArray := prog_1_method_21_code
def yX5_reason : MethodName := ⟨RX5, "reason", "(II)I"⟩
abbrev cX5_judge : ByteArray := prog_1_method_22_code
def yX5_judge : MethodName := ⟨RX5, "judge", "()I"⟩
abbrev cX5_isWeight : ByteArray := prog_1_method_23_code
def yX5_isWeight : MethodName := ⟨RX5, "isWeight", "(I)Z"⟩
abbrev cX5_isWithin : ByteArray := prog_1_method_24_code
def yX5_isWithin : MethodName := ⟨RX5, "isWithin", "(II)Z"⟩
abbrev cX5_knowsPart : ByteArray := prog_1_method_25_code
def yX5_knowsPart : MethodName := ⟨RX5, "knowsPart", "(I)Z"⟩
abbrev cX5_knowsRow : ByteArray := prog_1_method_26_code
def yX5_knowsRow : MethodName := ⟨RX5, "knowsRow", "(II)Z"⟩
abbrev cX5_retell : ByteArray := prog_1_method_27_code
def yX5_retell : MethodName := ⟨RX5, "retell", "(I)V"⟩
abbrev cX5_costOfValues : ByteArray := prog_1_method_28_code
def yX5_costOfValues : MethodName := ⟨RX5, "costOfValues", "([I)I"⟩
abbrev cX5_hearParts : ByteArray := prog_1_method_29_code
def yX5_hearParts : MethodName := ⟨RX5, "hearParts", "()I"⟩
abbrev cX5_bringCut : ByteArray := prog_1_method_30_code
def yX5_bringCut : MethodName := ⟨RX5, "bringCut", "(IIII)V"⟩
abbrev cX5_findLeast : ByteArray := prog_1_method_31_code
def yX5_findLeast : MethodName := ⟨RX5, "findLeast", "(Z)V"⟩
abbrev cX5_followTried : ByteArray := prog_1_method_32_code
def yX5_followTried : MethodName := ⟨RX5, "followTried", "(IZ)I"⟩
abbrev cX5_costOfStage : ByteArray := prog_1_method_33_code
def yX5_costOfStage : MethodName := ⟨RX5, "costOfStage", "(IZ)I"⟩
abbrev cX5_moveOn : ByteArray := prog_1_method_34_code
def yX5_moveOn : MethodName := ⟨RX5, "moveOn", "(I)I"⟩
def RX6 : String := "SplitRoundsModel"
def TX6 : u_T := fun k => match k with
  | 0 => ("SplitRoundsModel", "choices", "I", false)
  | 1 => ("SplitRoundsModel", "valueCount", "[I", true)
  | 2 => ("SplitRoundsModel", "price", "[I", true)
  | 3 => ("SplitRoundsModel", "barred", "[Z", true)
  | 4 => ("SplitRoundsModel", "asked", "[I", true)
  | 5 => ("SplitRoundsModel", "futures", "I", false)
  | 6 => ("SplitRoundsModel", "weights", "[I", true)
  | 7 => ("SplitRoundsModel", "parts", "I", false)
  | 8 => ("SplitRoundsModel", "joins", "[I", true)
  | 9 => ("SplitRoundsModel", "joined", "[I", true)
  | 10 => ("SplitRoundsModel", "locals", "[I", true)
  | 11 => ("SplitRoundsModel", "top", "[I", true)
  | 12 => ("SplitRoundsModel", "unitPrice", "[I", true)
  | 13 => ("SplitRoundsModel", "rows", "[I", true)
  | 14 => ("SplitRoundsModel", "limit", "[I", true)
  | 15 => ("SplitRoundsModel", "localWeighing", "[I", true)
  | 16 => ("SplitRoundsModel", "choiceWeighing", "[I", true)
  | 17 => ("SplitRoundsModel", "shifts", "[I", true)
  | 18 => ("SplitRoundsModel", "cuts", "I", false)
  | 19 => ("SplitRoundsModel", "isBound", "[Z", true)
  | 20 => ("SplitRoundsModel", "cutPart", "[I", true)
  | 21 => ("SplitRoundsModel", "cutFuture", "[I", true)
  | 22 => ("SplitRoundsModel", "cutNumber", "[I", true)
  | 23 => ("SplitRoundsModel", "cutRound", "[I", true)
  | 24 => ("SplitRoundsModel", "reasons", "[I", true)
  | 25 => ("SplitRoundsModel", "reasonChoice", "[I", true)
  | 26 => ("SplitRoundsModel", "reasonValue", "[I", true)
  | 27 => ("SplitRoundsModel", "rounds", "I", false)
  | 28 => ("SplitRoundsModel", "end", "I", false)
  | 29 => ("SplitRoundsModel", "hasBest", "Z", false)
  | 30 => ("SplitRoundsModel", "hasMaster", "Z", false)
  | 31 => ("SplitRoundsModel", "lower", "I", false)
  | 32 => ("SplitRoundsModel", "upper", "I", false)
  | 33 => ("SplitRoundsModel", "best", "[I", true)
  | 34 => ("SplitRoundsModel", "master", "[I", true)
  | 35 => ("SplitRoundsModel", "room", "[I", true)
  | 36 => ("SplitRoundsModel", "units", "[I", true)
  | 37 => ("SplitRoundsModel", "bestUnits", "[I", true)
  | 38 => ("SplitRoundsModel", "isBarred", "[Z", true)
  | 39 => ("SplitRoundsModel", "greatest", "[I", true)
  | 40 => ("SplitRoundsModel", "plan", "[I", true)
  | _ => ("SplitRoundsModel", "answers", "[I", true)
def tyX6 : Nat → FieldType := fun k => match k with
  | 0 => .int
  | 1 => .array .int
  | 2 => .array .int
  | 3 => .array .boolean
  | 4 => .array .int
  | 5 => .int
  | 6 => .array .int
  | 7 => .int
  | 8 => .array .int
  | 9 => .array .int
  | 10 => .array .int
  | 11 => .array .int
  | 12 => .array .int
  | 13 => .array .int
  | 14 => .array .int
  | 15 => .array .int
  | 16 => .array .int
  | 17 => .array .int
  | 18 => .int
  | 19 => .array .boolean
  | 20 => .array .int
  | 21 => .array .int
  | 22 => .array .int
  | 23 => .array .int
  | 24 => .array .int
  | 25 => .array .int
  | 26 => .array .int
  | 27 => .int
  | 28 => .int
  | 29 => .boolean
  | 30 => .boolean
  | 31 => .int
  | 32 => .int
  | 33 => .array .int
  | 34 => .array .int
  | 35 => .array .int
  | 36 => .array .int
  | 37 => .array .int
  | 38 => .array .boolean
  | 39 => .array .int
  | 40 => .array .int
  | _ => .array .int
abbrev wsX60 : List Cond := u_ws RX6 TX6 42
theorem nmX6 : ∀ a, a < 42 → ∀ b, b < 42 → a ≠ b → (TX6 a).2.1 ≠ (TX6 b).2.1 := by decide +kernel
theorem tyX6_ok : ∀ k, k < 42 → parseFieldDescriptor (TX6 k).2.2.1 = some (tyX6 k) := by decide +kernel
abbrev cX6_init : ByteArray := prog_8_method_1_code
def yX6_init : MethodName := ⟨RX6, "<init>", "()V"⟩
abbrev cX6_beyond : ByteArray := prog_8_method_2_code
def yX6_beyond : MethodName := ⟨RX6, "beyond", "(III)Z"⟩
abbrev cX6_anew : ByteArray := prog_8_method_3_code
def yX6_anew : MethodName := ⟨RX6, "anew", "()V"⟩
abbrev cX6_without : ByteArray := prog_8_method_4_code
def yX6_without : MethodName := ⟨RX6, "without", "(I)V"⟩
abbrev cX6_choice : ByteArray := prog_8_method_5_code
def yX6_choice : MethodName := ⟨RX6, "choice", "(I)I"⟩
abbrev cX6_noValue : ByteArray := prog_8_method_6_code
def yX6_noValue : MethodName := ⟨RX6, "noValue", "(II)Z"⟩
abbrev cX6_price : ByteArray := prog_8_method_7_code
def yX6_price : MethodName := ⟨RX6, "price", "(III)I"⟩
abbrev cX6_future : ByteArray := prog_8_method_8_code
def yX6_future : MethodName := ⟨RX6, "future", "(I)I"⟩
abbrev cX6_noFuture : ByteArray := prog_8_method_9_code
def yX6_noFuture : MethodName := ⟨RX6, "noFuture", "(I)Z"⟩
abbrev cX6_noPart : ByteArray := prog_8_method_10_code
def yX6_noPart : MethodName := ⟨RX6, "noPart", "(I)Z"⟩
abbrev cX6_weight : ByteArray := prog_8_method_11_code
def yX6_weight : MethodName := ⟨RX6, "weight", "(II)I"⟩
abbrev cX6_part : ByteArray := prog_8_method_12_code
def yX6_part : MethodName := ⟨RX6, "part", "()I"⟩
abbrev cX6_placeOf : ByteArray := prog_8_method_13_code
def yX6_placeOf : MethodName := ⟨RX6, "placeOf", "(II)I"⟩
abbrev cX6_join : ByteArray := prog_8_method_14_code
def yX6_join : MethodName := ⟨RX6, "join", "(II)I"⟩
abbrev cX6_local : ByteArray := prog_8_method_15_code
def yX6_local : MethodName := ⟨RX6, "local", "(III)I"⟩
abbrev cX6_row : ByteArray := prog_8_method_16_code
def yX6_row : MethodName := ⟨RX6, "row", "(II)I"⟩
abbrev cX6_noRow : ByteArray := prog_8_method_17_code
def yX6_noRow : MethodName := ⟨RX6, "noRow", "(II)Z"⟩
abbrev cX6_weigh : ByteArray := prog_8_method_18_code
def yX6_weigh : MethodName := ⟨RX6, "weigh", "(IIZII)I"⟩
abbrev cX6_shift : ByteArray := prog_8_method_19_code
def yX6_shift : MethodName := ⟨RX6, "shift", "(IIII)I"⟩
abbrev cX6_figure : ByteArray := prog_8_method_20_code
def yX6_figure : MethodName := ⟨RX6, "figure", "(II)I"⟩
abbrev cX6_answerTo : ByteArray := prog_8_method_21_code
def yX6_answerTo : MethodName := ⟨RX6, "answerTo", "(III)I"⟩
abbrev cX6_codeOf : ByteArray := prog_8_method_22_code
def yX6_codeOf : MethodName := ⟨RX6, "codeOf", "(I[I)I"⟩
abbrev cX6_isCode : ByteArray := prog_8_method_23_code
def yX6_isCode : MethodName := ⟨RX6, "isCode", "(II)Z"⟩
abbrev cX6_meets : ByteArray := prog_8_method_24_code
def yX6_meets : MethodName := ⟨RX6, "meets", "(III)Z"⟩
abbrev cX6_layCuts : ByteArray := prog_8_method_25_code
def yX6_layCuts : MethodName := ⟨RX6, "layCuts", "()V"⟩
abbrev cX6_isTrue : ByteArray := prog_8_method_26_code
def yX6_isTrue : MethodName := ⟨RX6, "isTrue", "(IIIIZI)Z"⟩
abbrev cX6_addCut : ByteArray := prog_8_method_27_code
def yX6_addCut : MethodName := ⟨RX6, "addCut", "(IIIZI)V"⟩
abbrev cX6_allWeights : ByteArray := prog_8_method_28_code
def yX6_allWeights : MethodName := ⟨RX6, "allWeights", "()I"⟩
abbrev cX6_firstPlan : ByteArray := prog_8_method_29_code
def yX6_firstPlan : MethodName := ⟨RX6, "firstPlan", "()V"⟩
abbrev cX6_nextPlan : ByteArray := prog_8_method_30_code
def yX6_nextPlan : MethodName := ⟨RX6, "nextPlan", "()Z"⟩
abbrev cX6_priceOf : ByteArray := prog_8_method_31_code
def yX6_priceOf : MethodName := ⟨RX6, "priceOf", "([I)I"⟩
abbrev cX6_byCuts : ByteArray := prog_8_method_32_code
def yX6_byCuts : MethodName := ⟨RX6, "byCuts", "()I"⟩
abbrev cX6_findMaster : ByteArray := prog_8_method_33_code
def yX6_findMaster : MethodName := ⟨RX6, "findMaster", "()V"⟩
abbrev cX6_round : ByteArray := prog_8_method_34_code
def yX6_round : MethodName := ⟨RX6, "round", "()V"⟩
abbrev cX6_run : ByteArray := prog_8_method_35_code
def yX6_run : MethodName := ⟨RX6, "run", "(I)I"⟩
abbrev cX6_told : ByteArray := prog_8_method_36_code
def yX6_told : MethodName := ⟨RX6, "told", "(I)I"⟩
abbrev cX6_best : ByteArray := prog_8_method_37_code
def yX6_best : MethodName := ⟨RX6, "best", "(I)I"⟩
abbrev cX6_master : ByteArray := prog_8_method_38_code
def yX6_master : MethodName := ⟨RX6, "master", "(I)I"⟩
abbrev cX6_share : ByteArray := prog_8_method_39_code
def yX6_share : MethodName := ⟨RX6, "share", "(I)I"⟩
abbrev cX6_ask : ByteArray := prog_8_method_40_code
def yX6_ask : MethodName := ⟨RX6, "ask", "(II)I"⟩
abbrev cX6_answer : ByteArray := prog_8_method_41_code
def yX6_answer : MethodName := ⟨RX6, "answer", "(II)I"⟩
abbrev cX6_unit : ByteArray := prog_8_method_42_code
def yX6_unit : MethodName := ⟨RX6, "unit", "(III)I"⟩
abbrev cX6_cut : ByteArray := prog_8_method_43_code
def yX6_cut : MethodName := ⟨RX6, "cut", "(II)I"⟩
abbrev cX6_reason : ByteArray := prog_8_method_44_code
def yX6_reason : MethodName := ⟨RX6, "reason", "(II)I"⟩
abbrev cX6_judge : ByteArray := prog_8_method_45_code
def yX6_judge : MethodName := ⟨RX6, "judge", "()I"⟩
def RJ10 : String := "java/lang/System"
def TJ10 : u_T := fun k => match k with
  | _ => ("", "", "", false)
def tyJ10 : Nat → FieldType := fun k => match k with
  | _ => .int
abbrev wsJ100 : List Cond := u_ws RJ10 TJ10 0
theorem nmJ10 : ∀ a, a < 0 → ∀ b, b < 0 → a ≠ b → (TJ10 a).2.1 ≠ (TJ10 b).2.1 := by decide +kernel
theorem tyJ10_ok : ∀ k, k < 0 → parseFieldDescriptor (TJ10 k).2.2.1 = some (tyJ10 k) := by decide +kernel
def RJ7 : String := "java/util/Arrays"
def TJ7 : u_T := fun k => match k with
  | _ => ("", "", "", false)
def tyJ7 : Nat → FieldType := fun k => match k with
  | _ => .int
abbrev wsJ70 : List Cond := u_ws RJ7 TJ7 0
theorem nmJ7 : ∀ a, a < 0 → ∀ b, b < 0 → a ≠ b → (TJ7 a).2.1 ≠ (TJ7 b).2.1 := by decide +kernel
theorem tyJ7_ok : ∀ k, k < 0 → parseFieldDescriptor (TJ7 k).2.2.1 = some (tyJ7 k) := by decide +kernel
abbrev cJ7_fill_53178 : ByteArray := prog_10_method_103_code
def yJ7_fill_53178 : MethodName := ⟨RJ7, "fill", "([II)V"⟩
def RL : String := "SplitRoundsLaw"
abbrev cL_law : ByteArray := code
def yL_law : MethodName := ⟨RL, "law", "([I)Z"⟩
def wsL_law_r1 : List Cond := [Cond.classLink RL 7 RX5, Cond.instantiable RX5 10, Cond.initialized RX5, Cond.classLink RL 10 RX6, Cond.instantiable RX6 42, Cond.initialized RX6, Cond.methodLink RL 9 yX5_init, Cond.instanceMethod yX5_init, Cond.code yX5_init cX5_init 2 none, Cond.methodLink RX5 3 objectInit, Cond.instanceMethod objectInit, Cond.code objectInit ⟨#[0xb1]⟩ 1 none, Cond.classLink RX5 9 RX0, Cond.instantiable RX0 4, Cond.initialized RX0, Cond.fieldLink RX5 12 "SplitRounds" "choices" "LSplitRounds$Choices;", Cond.classLink RX5 16 RX2, Cond.instantiable RX2 2, Cond.initialized RX2, Cond.fieldLink RX5 19 "SplitRounds" "futures" "LSplitRounds$Futures;", Cond.classLink RX5 23 RX3, Cond.fieldLink RX5 25 "SplitRounds" "parts" "[LSplitRounds$Part;", Cond.classLink RX5 29 RX1, Cond.instantiable RX1 7]
def wsL_law_r2 : List Cond := [Cond.initialized RX1, Cond.fieldLink RX5 32 "SplitRounds" "cuts" "LSplitRounds$Cuts;", Cond.classLink RX5 36 RX4, Cond.instantiable RX4 6, Cond.initialized RX4, Cond.fieldLink RX5 39 "SplitRounds" "progress" "LSplitRounds$Progress;", Cond.arrayClass .int, Cond.fieldLink RX5 43 "SplitRounds" "tried" "[I", Cond.fieldLink RX5 47 "SplitRounds" "spentAhead" "[I", Cond.fieldLink RX5 50 "SplitRounds" "least" "[I", Cond.fieldLink RX5 53 "SplitRounds" "leastCost" "I", Cond.instantiable RX3 16, Cond.initialized RX3, Cond.instanceMethod yX0_init, Cond.code yX0_init cX0_init 1 none, Cond.methodLink RX0 3 objectInit, Cond.fieldLink RX0 9 "SplitRounds$Choices" "sizes" "[I", Cond.fieldLink RX0 15 "SplitRounds$Choices" "prices" "[I", Cond.fieldLink RX0 18 "SplitRounds$Choices" "asked" "[I", Cond.methodLink RX5 18 yX2_init, Cond.instanceMethod yX2_init, Cond.code yX2_init cX2_init 1 none, Cond.methodLink RX2 3 objectInit, Cond.fieldLink RX2 9 "SplitRounds$Futures" "count" "I"]
def wsL_law_r3 : List Cond := [Cond.fieldLink RX2 15 "SplitRounds$Futures" "weights" "[I", Cond.instanceMethod yX1_init, Cond.code yX1_init cX1_init 1 none, Cond.methodLink RX1 3 objectInit, Cond.fieldLink RX1 9 "SplitRounds$Cuts" "parts" "[I", Cond.fieldLink RX1 15 "SplitRounds$Cuts" "futures" "[I", Cond.fieldLink RX1 18 "SplitRounds$Cuts" "numbers" "[I", Cond.fieldLink RX1 21 "SplitRounds$Cuts" "rounds" "[I", Cond.fieldLink RX1 24 "SplitRounds$Cuts" "sizes" "[I", Cond.fieldLink RX1 27 "SplitRounds$Cuts" "reasons" "[I", Cond.instanceMethod yX4_init, Cond.code yX4_init cX4_init 1 none, Cond.methodLink RX4 3 objectInit, Cond.fieldLink RX4 9 "SplitRounds$Progress" "end" "I", Cond.fieldLink RX4 15 "SplitRounds$Progress" "lower" "I", Cond.fieldLink RX4 18 "SplitRounds$Progress" "upper" "I", Cond.fieldLink RX4 21 "SplitRounds$Progress" "master" "[I", Cond.fieldLink RX4 25 "SplitRounds$Progress" "best" "[I", Cond.methodLink RX5 57 yX3_init, Cond.instanceMethod yX3_init, Cond.code yX3_init cX3_init 1 none, Cond.methodLink RX3 3 objectInit, Cond.fieldLink RX3 9 "SplitRounds$Part" "joined" "[I", Cond.fieldLink RX3 15 "SplitRounds$Part" "joinedSizes" "[I"]
def wsL_law_r4 : List Cond := [Cond.fieldLink RX3 18 "SplitRounds$Part" "tops" "[I", Cond.fieldLink RX3 21 "SplitRounds$Part" "unitPrices" "[I", Cond.fieldLink RX3 24 "SplitRounds$Part" "limits" "[I", Cond.fieldLink RX3 27 "SplitRounds$Part" "weighings" "[I", Cond.fieldLink RX3 30 "SplitRounds$Part" "shifts" "[I", Cond.fieldLink RX3 33 "SplitRounds$Part" "answers" "[I", Cond.fieldLink RX3 36 "SplitRounds$Part" "floors" "[I", Cond.fieldLink RX3 39 "SplitRounds$Part" "rooms" "[I", Cond.fieldLink RX3 42 "SplitRounds$Part" "units" "[I", Cond.fieldLink RX3 45 "SplitRounds$Part" "leastUnits" "[I", Cond.fieldLink RX3 48 "SplitRounds$Part" "held" "[I", Cond.methodLink RX3 51 yJ7_fill_53178, Cond.static yJ7_fill_53178, Cond.initialized RJ7, Cond.code yJ7_fill_53178 cJ7_fill_53178 4 none, Cond.methodLink RL 12 yX6_init, Cond.instanceMethod yX6_init, Cond.code yX6_init cX6_init 1 none, Cond.methodLink RX6 1 objectInit, Cond.fieldLink RX6 7 "SplitRoundsModel" "valueCount" "[I", Cond.fieldLink RX6 13 "SplitRoundsModel" "price" "[I", Cond.arrayClass .boolean, Cond.fieldLink RX6 16 "SplitRoundsModel" "barred" "[Z", Cond.fieldLink RX6 20 "SplitRoundsModel" "asked" "[I"]
def wsL_law_r5 : List Cond := [Cond.fieldLink RX6 23 "SplitRoundsModel" "futures" "I", Cond.fieldLink RX6 27 "SplitRoundsModel" "weights" "[I", Cond.fieldLink RX6 30 "SplitRoundsModel" "joins" "[I", Cond.fieldLink RX6 33 "SplitRoundsModel" "joined" "[I", Cond.fieldLink RX6 36 "SplitRoundsModel" "locals" "[I", Cond.fieldLink RX6 39 "SplitRoundsModel" "top" "[I", Cond.fieldLink RX6 42 "SplitRoundsModel" "unitPrice" "[I", Cond.fieldLink RX6 45 "SplitRoundsModel" "rows" "[I", Cond.fieldLink RX6 48 "SplitRoundsModel" "limit" "[I", Cond.fieldLink RX6 51 "SplitRoundsModel" "localWeighing" "[I", Cond.fieldLink RX6 54 "SplitRoundsModel" "choiceWeighing" "[I", Cond.fieldLink RX6 57 "SplitRoundsModel" "shifts" "[I", Cond.fieldLink RX6 60 "SplitRoundsModel" "isBound" "[Z", Cond.fieldLink RX6 63 "SplitRoundsModel" "cutPart" "[I", Cond.fieldLink RX6 66 "SplitRoundsModel" "cutFuture" "[I", Cond.fieldLink RX6 69 "SplitRoundsModel" "cutNumber" "[I", Cond.fieldLink RX6 72 "SplitRoundsModel" "cutRound" "[I", Cond.fieldLink RX6 75 "SplitRoundsModel" "reasons" "[I", Cond.fieldLink RX6 78 "SplitRoundsModel" "reasonChoice" "[I", Cond.fieldLink RX6 81 "SplitRoundsModel" "reasonValue" "[I", Cond.fieldLink RX6 84 "SplitRoundsModel" "best" "[I", Cond.fieldLink RX6 87 "SplitRoundsModel" "master" "[I", Cond.fieldLink RX6 90 "SplitRoundsModel" "room" "[I", Cond.fieldLink RX6 93 "SplitRoundsModel" "units" "[I"]
def wsL_law_r6 : List Cond := [Cond.fieldLink RX6 96 "SplitRoundsModel" "bestUnits" "[I", Cond.fieldLink RX6 99 "SplitRoundsModel" "isBarred" "[Z", Cond.fieldLink RX6 102 "SplitRoundsModel" "greatest" "[I", Cond.fieldLink RX6 105 "SplitRoundsModel" "plan" "[I", Cond.fieldLink RX6 108 "SplitRoundsModel" "answers" "[I", Cond.methodLink RL 13 yX5_choice, Cond.instanceMethod yX5_choice, Cond.selects RX5 yX5_choice yX5_choice, Cond.code yX5_choice cX5_choice 2 (some .int), Cond.fieldLink RX5 58 "SplitRounds$Choices" "count" "I", Cond.fieldLink RX5 61 "SplitRounds$Choices" "sizes" "[I", Cond.methodLink RX5 64 yX4_restart, Cond.instanceMethod yX4_restart, Cond.selects RX4 yX4_restart yX4_restart, Cond.code yX4_restart cX4_restart 1 none, Cond.fieldLink RX4 28 "SplitRounds$Progress" "rounds" "I", Cond.methodLink RL 17 yX6_choice, Cond.instanceMethod yX6_choice, Cond.selects RX6 yX6_choice yX6_choice, Cond.code yX6_choice cX6_choice 3 (some .int), Cond.fieldLink RX6 134 "SplitRoundsModel" "choices" "I", Cond.methodLink RX6 130 yX6_beyond, Cond.static yX6_beyond, Cond.code yX6_beyond cX6_beyond 3 (some .boolean)]
def wsL_law_r7 : List Cond := [Cond.methodLink RX6 127 yX6_anew, Cond.instanceMethod yX6_anew, Cond.selects RX6 yX6_anew yX6_anew, Cond.code yX6_anew cX6_anew 1 none, Cond.fieldLink RX6 111 "SplitRoundsModel" "rounds" "I", Cond.fieldLink RX6 114 "SplitRoundsModel" "end" "I", Cond.fieldLink RX6 117 "SplitRoundsModel" "hasBest" "Z", Cond.fieldLink RX6 121 "SplitRoundsModel" "hasMaster" "Z", Cond.methodLink RL 18 yX5_price, Cond.instanceMethod yX5_price, Cond.selects RX5 yX5_price yX5_price, Cond.code yX5_price cX5_price 4 (some .int), Cond.fieldLink RX5 71 "SplitRounds$Choices" "prices" "[I", Cond.methodLink RX5 67 yX0_knowsValue, Cond.instanceMethod yX0_knowsValue, Cond.selects RX0 yX0_knowsValue yX0_knowsValue, Cond.code yX0_knowsValue cX0_knowsValue 3 (some .boolean), Cond.methodLink RX0 25 yX0_knows, Cond.instanceMethod yX0_knows, Cond.selects RX0 yX0_knows yX0_knows, Cond.code yX0_knows cX0_knows 2 (some .boolean), Cond.fieldLink RX0 21 "SplitRounds$Choices" "count" "I", Cond.methodLink RL 22 yX6_price, Cond.instanceMethod yX6_price]
def wsL_law_r8 : List Cond := [Cond.selects RX6 yX6_price yX6_price, Cond.code yX6_price cX6_price 5 (some .int), Cond.methodLink RX6 137 yX6_noValue, Cond.instanceMethod yX6_noValue, Cond.selects RX6 yX6_noValue yX6_noValue, Cond.code yX6_noValue cX6_noValue 3 (some .boolean), Cond.methodLink RL 23 yX5_future, Cond.instanceMethod yX5_future, Cond.selects RX5 yX5_future yX5_future, Cond.code yX5_future cX5_future 2 (some .int), Cond.fieldLink RX5 78 "SplitRounds$Futures" "count" "I", Cond.fieldLink RX5 79 "SplitRounds$Futures" "weights" "[I", Cond.methodLink RX5 74 yX5_isWeight, Cond.static yX5_isWeight, Cond.code yX5_isWeight cX5_isWeight 1 (some .boolean), Cond.methodLink RL 26 yX6_future, Cond.instanceMethod yX6_future, Cond.selects RX6 yX6_future yX6_future, Cond.code yX6_future cX6_future 2 (some .int), Cond.methodLink RL 27 yX5_weight, Cond.instanceMethod yX5_weight, Cond.selects RX5 yX5_weight yX5_weight, Cond.code yX5_weight cX5_weight 4 (some .int), Cond.methodLink RX5 82 yX2_knows]
def wsL_law_r9 : List Cond := [Cond.instanceMethod yX2_knows, Cond.selects RX2 yX2_knows yX2_knows, Cond.code yX2_knows cX2_knows 2 (some .boolean), Cond.methodLink RL 31 yX6_weight, Cond.instanceMethod yX6_weight, Cond.selects RX6 yX6_weight yX6_weight, Cond.code yX6_weight cX6_weight 4 (some .int), Cond.methodLink RX6 144 yX6_noFuture, Cond.instanceMethod yX6_noFuture, Cond.selects RX6 yX6_noFuture yX6_noFuture, Cond.code yX6_noFuture cX6_noFuture 2 (some .boolean), Cond.methodLink RL 32 yX5_part, Cond.instanceMethod yX5_part, Cond.selects RX5 yX5_part yX5_part, Cond.code yX5_part cX5_part 1 (some .int), Cond.fieldLink RX5 85 "SplitRounds" "partCount" "I", Cond.methodLink RL 36 yX6_part, Cond.instanceMethod yX6_part, Cond.selects RX6 yX6_part yX6_part, Cond.code yX6_part cX6_part 1 (some .int), Cond.fieldLink RX6 141 "SplitRoundsModel" "parts" "I", Cond.methodLink RL 37 yX5_join, Cond.instanceMethod yX5_join, Cond.selects RX5 yX5_join yX5_join]
def wsL_law_r10 : List Cond := [Cond.code yX5_join cX5_join 3 (some .int), Cond.fieldLink RX5 95 "SplitRounds$Part" "joinedCount" "I", Cond.methodLink RX5 88 yX5_knowsPart, Cond.instanceMethod yX5_knowsPart, Cond.selects RX5 yX5_knowsPart yX5_knowsPart, Cond.code yX5_knowsPart cX5_knowsPart 2 (some .boolean), Cond.methodLink RX5 91 yX0_knows, Cond.methodLink RX5 92 yX3_isJoinedTo, Cond.instanceMethod yX3_isJoinedTo, Cond.selects RX3 yX3_isJoinedTo yX3_isJoinedTo, Cond.code yX3_isJoinedTo cX3_isJoinedTo 3 (some .boolean), Cond.fieldLink RX3 57 "SplitRounds$Part" "joinedCount" "I", Cond.methodLink RX5 98 yX3_joinTo, Cond.instanceMethod yX3_joinTo, Cond.selects RX3 yX3_joinTo yX3_joinTo, Cond.code yX3_joinTo cX3_joinTo 4 none, Cond.methodLink RX5 102 yX5_retell, Cond.instanceMethod yX5_retell, Cond.selects RX5 yX5_retell yX5_retell, Cond.code yX5_retell cX5_retell 2 none, Cond.methodLink RX5 222 yX3_forget, Cond.instanceMethod yX3_forget, Cond.selects RX3 yX3_forget yX3_forget, Cond.code yX3_forget cX3_forget 1 none]
def wsL_law_r11 : List Cond := [Cond.methodLink RX5 225 yX1_takeAway, Cond.instanceMethod yX1_takeAway, Cond.selects RX1 yX1_takeAway yX1_takeAway, Cond.code yX1_takeAway cX1_takeAway 4 none, Cond.fieldLink RX1 30 "SplitRounds$Cuts" "count" "I", Cond.methodLink RX1 45 yX1_move, Cond.instanceMethod yX1_move, Cond.selects RX1 yX1_move yX1_move, Cond.code yX1_move cX1_move 4 none, Cond.methodLink RL 40 yX6_join, Cond.instanceMethod yX6_join, Cond.selects RX6 yX6_join yX6_join, Cond.code yX6_join cX6_join 4 (some .int), Cond.methodLink RX6 148 yX6_noPart, Cond.instanceMethod yX6_noPart, Cond.selects RX6 yX6_noPart yX6_noPart, Cond.code yX6_noPart cX6_noPart 2 (some .boolean), Cond.methodLink RX6 151 yX6_placeOf, Cond.instanceMethod yX6_placeOf, Cond.selects RX6 yX6_placeOf yX6_placeOf, Cond.code yX6_placeOf cX6_placeOf 4 (some .int), Cond.methodLink RX6 155 yX6_without, Cond.instanceMethod yX6_without, Cond.selects RX6 yX6_without yX6_without]
def wsL_law_r12 : List Cond := [Cond.code yX6_without cX6_without 5 none, Cond.fieldLink RX6 124 "SplitRoundsModel" "cuts" "I", Cond.methodLink RL 41 yX5_local, Cond.instanceMethod yX5_local, Cond.selects RX5 yX5_local yX5_local, Cond.code yX5_local cX5_local 5 (some .int), Cond.fieldLink RX5 106 "SplitRounds$Part" "localCount" "I", Cond.fieldLink RX5 109 "SplitRounds$Part" "tops" "[I", Cond.fieldLink RX5 112 "SplitRounds$Part" "unitPrices" "[I", Cond.methodLink RL 44 yX6_local, Cond.instanceMethod yX6_local, Cond.selects RX6 yX6_local yX6_local, Cond.code yX6_local cX6_local 4 (some .int), Cond.methodLink RL 45 yX5_row, Cond.instanceMethod yX5_row, Cond.selects RX5 yX5_row yX5_row, Cond.code yX5_row cX5_row 4 (some .int), Cond.fieldLink RX5 118 "SplitRounds$Part" "rowCount" "I", Cond.fieldLink RX5 121 "SplitRounds$Part" "limits" "[I", Cond.methodLink RX5 115 yX5_isWithin, Cond.static yX5_isWithin, Cond.code yX5_isWithin cX5_isWithin 2 (some .boolean), Cond.methodLink RL 48 yX6_row, Cond.instanceMethod yX6_row]
def wsL_law_r13 : List Cond := [Cond.selects RX6 yX6_row yX6_row, Cond.code yX6_row cX6_row 3 (some .int), Cond.methodLink RL 49 yX5_weigh, Cond.instanceMethod yX5_weigh, Cond.selects RX5 yX5_weigh yX5_weigh, Cond.code yX5_weigh cX5_weigh 9 (some .int), Cond.fieldLink RX5 130 "SplitRounds$Part" "weighings" "[I", Cond.methodLink RX5 124 yX5_knowsRow, Cond.instanceMethod yX5_knowsRow, Cond.selects RX5 yX5_knowsRow yX5_knowsRow, Cond.code yX5_knowsRow cX5_knowsRow 3 (some .boolean), Cond.methodLink RX5 127 yX3_knowsLocal, Cond.instanceMethod yX3_knowsLocal, Cond.selects RX3 yX3_knowsLocal yX3_knowsLocal, Cond.code yX3_knowsLocal cX3_knowsLocal 2 (some .boolean), Cond.fieldLink RX3 61 "SplitRounds$Part" "localCount" "I", Cond.methodLink RL 53 yX6_weigh, Cond.instanceMethod yX6_weigh, Cond.selects RX6 yX6_weigh yX6_weigh, Cond.code yX6_weigh cX6_weigh 8 (some .int), Cond.methodLink RX6 159 yX6_noRow, Cond.instanceMethod yX6_noRow, Cond.selects RX6 yX6_noRow yX6_noRow, Cond.code yX6_noRow cX6_noRow 3 (some .boolean)]
def wsL_law_r14 : List Cond := [Cond.methodLink RL 54 yX5_shift, Cond.instanceMethod yX5_shift, Cond.selects RX5 yX5_shift yX5_shift, Cond.code yX5_shift cX5_shift 7 (some .int), Cond.fieldLink RX5 133 "SplitRounds$Part" "shifts" "[I", Cond.methodLink RL 58 yX6_shift, Cond.instanceMethod yX6_shift, Cond.selects RX6 yX6_shift yX6_shift, Cond.code yX6_shift cX6_shift 7 (some .int), Cond.methodLink RL 59 yX5_run, Cond.instanceMethod yX5_run, Cond.selects RX5 yX5_run yX5_run, Cond.code yX5_run cX5_run 4 (some .int), Cond.fieldLink RX5 136 "SplitRounds$Progress" "end" "I", Cond.fieldLink RX5 139 "SplitRounds$Cuts" "count" "I", Cond.fieldLink RX5 159 "SplitRounds$Progress" "rounds" "I", Cond.methodLink RX5 140 yX5_findLeast, Cond.instanceMethod yX5_findLeast, Cond.selects RX5 yX5_findLeast yX5_findLeast, Cond.code yX5_findLeast cX5_findLeast 5 none, Cond.methodLink RX5 246 yJ7_fill_53178, Cond.methodLink RX5 251 yX5_followTried, Cond.instanceMethod yX5_followTried, Cond.selects RX5 yX5_followTried yX5_followTried]
def wsL_law_r15 : List Cond := [Cond.code yX5_followTried cX5_followTried 6 (some .int), Cond.methodLink RX5 262 arraycopyName, Cond.native arraycopyName, Cond.static arraycopyName, Cond.initialized "java/lang/System", Cond.methodLink RX5 259 yX5_costOfStage, Cond.instanceMethod yX5_costOfStage, Cond.selects RX5 yX5_costOfStage yX5_costOfStage, Cond.code yX5_costOfStage cX5_costOfStage 6 (some .int), Cond.methodLink RX5 168 yX2_sumOfWeights, Cond.instanceMethod yX2_sumOfWeights, Cond.selects RX2 yX2_sumOfWeights yX2_sumOfWeights, Cond.code yX2_sumOfWeights cX2_sumOfWeights 3 (some .int), Cond.methodLink RX5 268 yX3_settledAt, Cond.instanceMethod yX3_settledAt, Cond.selects RX3 yX3_settledAt yX3_settledAt, Cond.code yX3_settledAt cX3_settledAt 1 (some .int), Cond.methodLink RX5 184 yX3_costTo, Cond.instanceMethod yX3_costTo, Cond.selects RX3 yX3_costTo yX3_costTo, Cond.code yX3_costTo cX3_costTo 8 (some .int), Cond.fieldLink RX3 68 "SplitRounds$Futures" "count" "I", Cond.fieldLink RX3 77 "SplitRounds$Futures" "weights" "[I", Cond.methodLink RX3 64 yX3_spotOf]
def wsL_law_r16 : List Cond := [Cond.instanceMethod yX3_spotOf, Cond.selects RX3 yX3_spotOf yX3_spotOf, Cond.code yX3_spotOf cX3_spotOf 4 (some .int), Cond.methodLink RX3 73 yX3_answerTo, Cond.instanceMethod yX3_answerTo, Cond.selects RX3 yX3_answerTo yX3_answerTo, Cond.code yX3_answerTo cX3_answerTo 4 (some .int), Cond.methodLink RX3 80 yX3_solve, Cond.instanceMethod yX3_solve, Cond.selects RX3 yX3_solve yX3_solve, Cond.code yX3_solve cX3_solve 8 (some .int), Cond.methodLink RX3 95 arraycopyName, Cond.methodLink RX3 83 yX3_measureRooms, Cond.instanceMethod yX3_measureRooms, Cond.selects RX3 yX3_measureRooms yX3_measureRooms, Cond.code yX3_measureRooms cX3_measureRooms 7 none, Cond.fieldLink RX3 108 "SplitRounds$Part" "rowCount" "I", Cond.methodLink RX3 87 yX3_priceOfUnits, Cond.instanceMethod yX3_priceOfUnits, Cond.selects RX3 yX3_priceOfUnits yX3_priceOfUnits, Cond.code yX3_priceOfUnits cX3_priceOfUnits 3 (some .int), Cond.methodLink RX3 91 yX3_rowsHold, Cond.instanceMethod yX3_rowsHold, Cond.selects RX3 yX3_rowsHold yX3_rowsHold]
def wsL_law_r17 : List Cond := [Cond.code yX3_rowsHold cX3_rowsHold 4 (some .boolean), Cond.methodLink RX3 101 yX3_clearLastUsed, Cond.instanceMethod yX3_clearLastUsed, Cond.selects RX3 yX3_clearLastUsed yX3_clearLastUsed, Cond.code yX3_clearLastUsed cX3_clearLastUsed 2 (some .int), Cond.methodLink RX3 104 yX3_raiseFrom, Cond.instanceMethod yX3_raiseFrom, Cond.selects RX3 yX3_raiseFrom yX3_raiseFrom, Cond.code yX3_raiseFrom cX3_raiseFrom 3 (some .boolean), Cond.methodLink RX5 255 yX5_moveOn, Cond.instanceMethod yX5_moveOn, Cond.selects RX5 yX5_moveOn yX5_moveOn, Cond.code yX5_moveOn cX5_moveOn 3 (some .int), Cond.methodLink RX5 144 yX4_takeMaster, Cond.instanceMethod yX4_takeMaster, Cond.selects RX4 yX4_takeMaster yX4_takeMaster, Cond.code yX4_takeMaster cX4_takeMaster 3 none, Cond.methodLink RX4 31 arraycopyName, Cond.methodLink RX5 148 yX4_hasMaster, Cond.instanceMethod yX4_hasMaster, Cond.selects RX4 yX4_hasMaster yX4_hasMaster, Cond.code yX4_hasMaster cX4_hasMaster 1 (some .boolean), Cond.methodLink RX5 152 yX5_hearParts, Cond.instanceMethod yX5_hearParts]
def wsL_law_r18 : List Cond := [Cond.selects RX5 yX5_hearParts yX5_hearParts, Cond.code yX5_hearParts cX5_hearParts 8 (some .int), Cond.fieldLink RX5 177 "SplitRounds$Progress" "master" "[I", Cond.fieldLink RX5 228 "SplitRounds$Part" "floors" "[I", Cond.methodLink RX5 180 yX5_costOfValues, Cond.instanceMethod yX5_costOfValues, Cond.selects RX5 yX5_costOfValues yX5_costOfValues, Cond.code yX5_costOfValues cX5_costOfValues 4 (some .int), Cond.methodLink RX5 191 yX3_spotOf, Cond.methodLink RX5 194 yX3_answerTo, Cond.methodLink RX5 231 yX5_bringCut, Cond.instanceMethod yX5_bringCut, Cond.selects RX5 yX5_bringCut yX5_bringCut, Cond.code yX5_bringCut cX5_bringCut 5 none, Cond.methodLink RX5 235 yX3_findReasons, Cond.instanceMethod yX3_findReasons, Cond.selects RX3 yX3_findReasons yX3_findReasons, Cond.code yX3_findReasons cX3_findReasons 6 none, Cond.methodLink RX3 111 yX3_isTrue, Cond.instanceMethod yX3_isTrue, Cond.selects RX3 yX3_isTrue yX3_isTrue, Cond.code yX3_isTrue cX3_isTrue 6 (some .boolean), Cond.methodLink RX3 115 yX3_meets, Cond.instanceMethod yX3_meets]
def wsL_law_r19 : List Cond := [Cond.selects RX3 yX3_meets yX3_meets, Cond.code yX3_meets cX3_meets 4 (some .boolean), Cond.methodLink RX5 239 yX3_raiseFloors, Cond.instanceMethod yX3_raiseFloors, Cond.selects RX3 yX3_raiseFloors yX3_raiseFloors, Cond.code yX3_raiseFloors cX3_raiseFloors 6 none, Cond.methodLink RX5 242 yX1_add, Cond.instanceMethod yX1_add, Cond.selects RX1 yX1_add yX1_add, Cond.code yX1_add cX1_add 8 none, Cond.fieldLink RX1 34 "SplitRounds$Part" "joinedCount" "I", Cond.fieldLink RX1 39 "SplitRounds$Part" "held" "[I", Cond.fieldLink RX1 42 "SplitRounds$Part" "joined" "[I", Cond.methodLink RX5 156 yX4_takeCost, Cond.instanceMethod yX4_takeCost, Cond.selects RX4 yX4_takeCost yX4_takeCost, Cond.code yX4_takeCost cX4_takeCost 2 none, Cond.methodLink RL 62 yX6_run, Cond.instanceMethod yX6_run, Cond.selects RX6 yX6_run yX6_run, Cond.code yX6_run cX6_run 3 (some .int), Cond.methodLink RX6 217 yX6_round, Cond.instanceMethod yX6_round, Cond.selects RX6 yX6_round yX6_round]
def wsL_law_r20 : List Cond := [Cond.code yX6_round cX6_round 9 none, Cond.fieldLink RX6 214 "SplitRoundsModel" "upper" "I", Cond.fieldLink RX6 200 "SplitRoundsModel" "lower" "I", Cond.methodLink RX6 207 yX6_findMaster, Cond.instanceMethod yX6_findMaster, Cond.selects RX6 yX6_findMaster yX6_findMaster, Cond.code yX6_findMaster cX6_findMaster 4 none, Cond.methodLink RX6 191 yX6_layCuts, Cond.instanceMethod yX6_layCuts, Cond.selects RX6 yX6_layCuts yX6_layCuts, Cond.code yX6_layCuts cX6_layCuts 4 none, Cond.methodLink RX6 165 yX6_isCode, Cond.instanceMethod yX6_isCode, Cond.selects RX6 yX6_isCode yX6_isCode, Cond.code yX6_isCode cX6_isCode 5 (some .boolean), Cond.methodLink RX6 162 yX6_figure, Cond.static yX6_figure, Cond.code yX6_figure cX6_figure 2 (some .int), Cond.methodLink RX6 168 yX6_meets, Cond.instanceMethod yX6_meets, Cond.selects RX6 yX6_meets yX6_meets, Cond.code yX6_meets cX6_meets 7 (some .boolean), Cond.methodLink RX6 194 yX6_firstPlan, Cond.instanceMethod yX6_firstPlan]
def wsL_law_r21 : List Cond := [Cond.selects RX6 yX6_firstPlan yX6_firstPlan, Cond.code yX6_firstPlan cX6_firstPlan 2 none, Cond.methodLink RX6 197 yX6_byCuts, Cond.instanceMethod yX6_byCuts, Cond.selects RX6 yX6_byCuts yX6_byCuts, Cond.code yX6_byCuts cX6_byCuts 6 (some .int), Cond.methodLink RX6 183 yX6_priceOf, Cond.instanceMethod yX6_priceOf, Cond.selects RX6 yX6_priceOf yX6_priceOf, Cond.code yX6_priceOf cX6_priceOf 4 (some .int), Cond.methodLink RX6 179 yX6_allWeights, Cond.instanceMethod yX6_allWeights, Cond.selects RX6 yX6_allWeights yX6_allWeights, Cond.code yX6_allWeights cX6_allWeights 3 (some .int), Cond.methodLink RX6 187 yX6_codeOf, Cond.instanceMethod yX6_codeOf, Cond.selects RX6 yX6_codeOf yX6_codeOf, Cond.code yX6_codeOf cX6_codeOf 5 (some .int), Cond.methodLink RX6 203 yX6_nextPlan, Cond.instanceMethod yX6_nextPlan, Cond.selects RX6 yX6_nextPlan yX6_nextPlan, Cond.code yX6_nextPlan cX6_nextPlan 2 (some .boolean), Cond.methodLink RX6 171 yX6_answerTo, Cond.instanceMethod yX6_answerTo]
def wsL_law_r22 : List Cond := [Cond.selects RX6 yX6_answerTo yX6_answerTo, Cond.code yX6_answerTo cX6_answerTo 11 (some .int), Cond.methodLink RX6 210 yX6_addCut, Cond.instanceMethod yX6_addCut, Cond.selects RX6 yX6_addCut yX6_addCut, Cond.code yX6_addCut cX6_addCut 9 none, Cond.methodLink RX6 175 yX6_isTrue, Cond.instanceMethod yX6_isTrue, Cond.selects RX6 yX6_isTrue yX6_isTrue, Cond.code yX6_isTrue cX6_isTrue 10 (some .boolean), Cond.methodLink RL 63 yX5_told, Cond.instanceMethod yX5_told, Cond.selects RX5 yX5_told yX5_told, Cond.code yX5_told cX5_told 2 (some .int), Cond.fieldLink RX5 162 "SplitRounds$Progress" "lower" "I", Cond.fieldLink RX5 165 "SplitRounds$Progress" "upper" "I", Cond.methodLink RL 66 yX6_told, Cond.instanceMethod yX6_told, Cond.selects RX6 yX6_told yX6_told, Cond.code yX6_told cX6_told 2 (some .int), Cond.methodLink RL 67 yX5_best, Cond.instanceMethod yX5_best, Cond.selects RX5 yX5_best yX5_best, Cond.code yX5_best cX5_best 2 (some .int)]
def wsL_law_r23 : List Cond := [Cond.fieldLink RX5 174 "SplitRounds$Progress" "best" "[I", Cond.methodLink RX5 171 yX4_hasBest, Cond.instanceMethod yX4_hasBest, Cond.selects RX4 yX4_hasBest yX4_hasBest, Cond.code yX4_hasBest cX4_hasBest 1 (some .boolean), Cond.methodLink RL 70 yX6_best, Cond.instanceMethod yX6_best, Cond.selects RX6 yX6_best yX6_best, Cond.code yX6_best cX6_best 2 (some .int), Cond.methodLink RL 71 yX5_master, Cond.instanceMethod yX5_master, Cond.selects RX5 yX5_master yX5_master, Cond.code yX5_master cX5_master 2 (some .int), Cond.methodLink RL 74 yX6_master, Cond.instanceMethod yX6_master, Cond.selects RX6 yX6_master yX6_master, Cond.code yX6_master cX6_master 2 (some .int), Cond.methodLink RL 75 yX5_share, Cond.instanceMethod yX5_share, Cond.selects RX5 yX5_share yX5_share, Cond.code yX5_share cX5_share 2 (some .int), Cond.methodLink RL 78 yX6_share, Cond.instanceMethod yX6_share, Cond.selects RX6 yX6_share yX6_share]
def wsL_law_r24 : List Cond := [Cond.code yX6_share cX6_share 4 (some .int), Cond.methodLink RL 79 yX5_ask, Cond.instanceMethod yX5_ask, Cond.selects RX5 yX5_ask yX5_ask, Cond.code yX5_ask cX5_ask 4 (some .int), Cond.fieldLink RX5 188 "SplitRounds$Choices" "asked" "[I", Cond.methodLink RL 82 yX6_ask, Cond.instanceMethod yX6_ask, Cond.selects RX6 yX6_ask yX6_ask, Cond.code yX6_ask cX6_ask 4 (some .int), Cond.methodLink RL 83 yX5_answer, Cond.instanceMethod yX5_answer, Cond.selects RX5 yX5_answer yX5_answer, Cond.code yX5_answer cX5_answer 3 (some .int), Cond.methodLink RL 86 yX6_answer, Cond.instanceMethod yX6_answer, Cond.selects RX6 yX6_answer yX6_answer, Cond.code yX6_answer cX6_answer 3 (some .int), Cond.methodLink RL 87 yX5_unit, Cond.instanceMethod yX5_unit, Cond.selects RX5 yX5_unit yX5_unit, Cond.code yX5_unit cX5_unit 5 (some .int), Cond.fieldLink RX5 201 "SplitRounds$Part" "leastUnits" "[I", Cond.methodLink RX5 198 yX3_solve]
def wsL_law_r25 : List Cond := [Cond.methodLink RL 90 yX6_unit, Cond.instanceMethod yX6_unit, Cond.selects RX6 yX6_unit yX6_unit, Cond.code yX6_unit cX6_unit 5 (some .int), Cond.methodLink RL 91 yX5_cut, Cond.instanceMethod yX5_cut, Cond.selects RX5 yX5_cut yX5_cut, Cond.code yX5_cut cX5_cut 3 (some .int), Cond.fieldLink RX5 205 "SplitRounds$Cuts" "numbers" "[I", Cond.fieldLink RX5 208 "SplitRounds$Cuts" "parts" "[I", Cond.fieldLink RX5 210 "SplitRounds$Cuts" "futures" "[I", Cond.fieldLink RX5 212 "SplitRounds$Cuts" "sizes" "[I", Cond.fieldLink RX5 213 "SplitRounds$Cuts" "rounds" "[I", Cond.methodLink RX5 204 yX1_knows, Cond.instanceMethod yX1_knows, Cond.selects RX1 yX1_knows yX1_knows, Cond.code yX1_knows cX1_knows 2 (some .boolean), Cond.methodLink RX5 215 yX1_isMetBy, Cond.instanceMethod yX1_isMetBy, Cond.selects RX1 yX1_isMetBy yX1_isMetBy, Cond.code yX1_isMetBy cX1_isMetBy 5 (some .boolean), Cond.methodLink RL 94 yX6_cut, Cond.instanceMethod yX6_cut, Cond.selects RX6 yX6_cut yX6_cut]
def wsL_law_r26 : List Cond := [Cond.code yX6_cut cX6_cut 3 (some .int), Cond.methodLink RL 95 yX5_reason, Cond.instanceMethod yX5_reason, Cond.selects RX5 yX5_reason yX5_reason, Cond.code yX5_reason cX5_reason 3 (some .int), Cond.fieldLink RX5 219 "SplitRounds$Cuts" "reasons" "[I", Cond.methodLink RL 98 yX6_reason, Cond.instanceMethod yX6_reason, Cond.selects RX6 yX6_reason yX6_reason, Cond.code yX6_reason cX6_reason 3 (some .int), Cond.methodLink RL 99 yX5_judge, Cond.instanceMethod yX5_judge, Cond.selects RX5 yX5_judge yX5_judge, Cond.code yX5_judge cX5_judge 1 (some .int), Cond.methodLink RL 102 yX6_judge, Cond.instanceMethod yX6_judge, Cond.selects RX6 yX6_judge yX6_judge, Cond.code yX6_judge cX6_judge 7 (some .int)]
def wsL_law : List Cond := (wsL_law_r1 ++ (wsL_law_r2 ++ (wsL_law_r3 ++ (wsL_law_r4 ++ (wsL_law_r5 ++ (wsL_law_r6 ++ (wsL_law_r7 ++ (wsL_law_r8 ++ (wsL_law_r9 ++ (wsL_law_r10 ++ (wsL_law_r11 ++ (wsL_law_r12 ++ (wsL_law_r13 ++ (wsL_law_r14 ++ (wsL_law_r15 ++ (wsL_law_r16 ++ (wsL_law_r17 ++ (wsL_law_r18 ++ (wsL_law_r19 ++ (wsL_law_r20 ++ (wsL_law_r21 ++ (wsL_law_r22 ++ (wsL_law_r23 ++ (wsL_law_r24 ++ (wsL_law_r25 ++ wsL_law_r26))))))))))))))))))))))))) ++ wsX50 ++ wsX60 ++ wsX00 ++ wsX20 ++ wsX10 ++ wsX40 ++ wsX30 ++ ([] : List Cond)
set_option maxRecDepth 20000 in
theorem wl_1 : GoodIn lw_tbl wsL_law_r1 := goodIn_r _ [41, 42, 32, 527, 528, 39, 43, 44, 45, 46, 47, 48, 49, 50, 33, 228, 73, 74, 34, 229, 90, 230, 92, 93] (by decide +kernel) (by decide +kernel)
set_option maxRecDepth 20000 in
theorem wl_2 : GoodIn lw_tbl wsL_law_r2 := goodIn_r _ [35, 232, 127, 128, 36, 233, 72, 234, 235, 236, 237, 158, 37, 52, 53, 54, 57, 59, 61, 75, 76, 77, 78, 79] (by decide +kernel) (by decide +kernel)
set_option maxRecDepth 20000 in
theorem wl_3 : GoodIn lw_tbl wsL_law_r3 := goodIn_r _ [82, 95, 96, 97, 100, 102, 104, 106, 108, 110, 130, 131, 132, 135, 137, 139, 141, 143, 159, 160, 161, 162, 169, 171] (by decide +kernel) (by decide +kernel)
set_option maxRecDepth 20000 in
theorem wl_4 : GoodIn lw_tbl wsL_law_r4 := goodIn_r _ [174, 176, 180, 182, 184, 186, 187, 189, 190, 191, 193, 163, 164, 38, 165, 529, 530, 531, 532, 534, 535, 660, 536, 537] (by decide +kernel) (by decide +kernel)
set_option maxRecDepth 20000 in
theorem wl_5 : GoodIn lw_tbl wsL_law_r5 := goodIn_r _ [538, 539, 541, 542, 543, 544, 545, 546, 547, 548, 549, 550, 552, 553, 554, 555, 556, 557, 558, 559, 566, 567, 568, 569] (by decide +kernel) (by decide +kernel)
set_option maxRecDepth 20000 in
theorem wl_6 : GoodIn lw_tbl wsL_law_r6 := goodIn_r _ [570, 571, 572, 573, 574, 259, 260, 261, 262, 56, 58, 263, 264, 265, 266, 133, 661, 662, 663, 664, 533, 665, 666, 667] (by decide +kernel) (by decide +kernel)
set_option maxRecDepth 20000 in
theorem wl_7 : GoodIn lw_tbl wsL_law_r7 := goodIn_r _ [668, 670, 10, 671, 560, 561, 562, 563, 267, 268, 269, 270, 60, 271, 272, 273, 274, 275, 276, 277, 278, 55, 672, 673] (by decide +kernel) (by decide +kernel)
set_option maxRecDepth 20000 in
theorem wl_8 : GoodIn lw_tbl wsL_law_r8 := goodIn_r _ [674, 675, 676, 678, 11, 679, 279, 280, 281, 282, 80, 83, 283, 284, 285, 680, 681, 682, 683, 286, 287, 288, 289, 290] (by decide +kernel) (by decide +kernel)
set_option maxRecDepth 20000 in
theorem wl_9 : GoodIn lw_tbl wsL_law_r9 := goodIn_r _ [291, 292, 293, 684, 685, 686, 687, 688, 690, 12, 691, 294, 295, 296, 297, 231, 692, 693, 694, 695, 540, 298, 299, 300] (by decide +kernel) (by decide +kernel)
set_option maxRecDepth 20000 in
theorem wl_10 : GoodIn lw_tbl wsL_law_r10 := goodIn_r _ [301, 168, 302, 304, 0, 305, 306, 307, 308, 309, 310, 166, 311, 312, 313, 314, 315, 317, 1, 318, 319, 320, 321, 322] (by decide +kernel) (by decide +kernel)
set_option maxRecDepth 20000 in
theorem wl_11 : GoodIn lw_tbl wsL_law_r11 := goodIn_r _ [323, 324, 325, 326, 98, 327, 328, 329, 330, 696, 697, 698, 699, 700, 702, 13, 703, 704, 706, 14, 707, 708, 710, 15] (by decide +kernel) (by decide +kernel)
set_option maxRecDepth 20000 in
theorem wl_12 : GoodIn lw_tbl wsL_law_r12 := goodIn_r _ [711, 551, 331, 332, 333, 334, 173, 175, 177, 712, 713, 714, 715, 335, 336, 337, 338, 178, 181, 339, 340, 341, 716, 717] (by decide +kernel) (by decide +kernel)
set_option maxRecDepth 20000 in
theorem wl_13 : GoodIn lw_tbl wsL_law_r13 := goodIn_r _ [718, 719, 342, 343, 344, 345, 183, 346, 348, 2, 349, 350, 351, 352, 353, 172, 720, 721, 722, 723, 724, 726, 16, 727] (by decide +kernel) (by decide +kernel)
set_option maxRecDepth 20000 in
theorem wl_14 : GoodIn lw_tbl wsL_law_r14 := goodIn_r _ [354, 355, 356, 357, 185, 728, 729, 730, 731, 358, 359, 360, 361, 136, 99, 134, 362, 364, 3, 365, 366, 367, 369, 4] (by decide +kernel) (by decide +kernel)
set_option maxRecDepth 20000 in
theorem wl_15 : GoodIn lw_tbl wsL_law_r15 := goodIn_r _ [370, 422, 413, 412, 40, 371, 373, 5, 374, 375, 376, 377, 378, 379, 380, 381, 382, 383, 384, 385, 386, 81, 84, 387] (by decide +kernel) (by decide +kernel)
set_option maxRecDepth 20000 in
theorem wl_16 : GoodIn lw_tbl wsL_law_r16 := goodIn_r _ [388, 389, 390, 391, 392, 393, 394, 395, 396, 397, 398, 411, 399, 400, 401, 402, 179, 403, 404, 405, 406, 407, 408, 409] (by decide +kernel) (by decide +kernel)
set_option maxRecDepth 20000 in
theorem wl_17 : GoodIn lw_tbl wsL_law_r17 := goodIn_r _ [410, 414, 415, 416, 417, 418, 419, 420, 421, 423, 425, 6, 426, 427, 428, 429, 430, 431, 432, 433, 434, 435, 436, 438] (by decide +kernel) (by decide +kernel)
set_option maxRecDepth 20000 in
theorem wl_18 : GoodIn lw_tbl wsL_law_r18 := goodIn_r _ [7, 439, 142, 188, 440, 442, 8, 443, 444, 445, 446, 448, 9, 449, 450, 451, 452, 453, 454, 455, 456, 457, 458, 459] (by decide +kernel) (by decide +kernel)
set_option maxRecDepth 20000 in
theorem wl_19 : GoodIn lw_tbl wsL_law_r19 := goodIn_r _ [460, 461, 462, 463, 464, 465, 466, 467, 468, 469, 167, 194, 170, 470, 471, 472, 473, 732, 733, 734, 735, 736, 738, 17] (by decide +kernel) (by decide +kernel)
set_option maxRecDepth 20000 in
theorem wl_20 : GoodIn lw_tbl wsL_law_r20 := goodIn_r _ [739, 565, 564, 740, 742, 18, 743, 744, 746, 19, 747, 748, 750, 20, 751, 752, 753, 754, 755, 757, 21, 758, 759, 761] (by decide +kernel) (by decide +kernel)
set_option maxRecDepth 20000 in
theorem wl_21 : GoodIn lw_tbl wsL_law_r21 := goodIn_r _ [22, 762, 763, 765, 23, 766, 767, 769, 24, 770, 771, 773, 25, 774, 775, 777, 26, 778, 779, 781, 27, 782, 783, 785] (by decide +kernel) (by decide +kernel)
set_option maxRecDepth 20000 in
theorem wl_22 : GoodIn lw_tbl wsL_law_r22 := goodIn_r _ [28, 786, 787, 789, 29, 790, 791, 793, 30, 794, 474, 475, 476, 477, 138, 140, 795, 796, 797, 798, 478, 479, 480, 481] (by decide +kernel) (by decide +kernel)
set_option maxRecDepth 20000 in
theorem wl_23 : GoodIn lw_tbl wsL_law_r23 := goodIn_r _ [144, 482, 483, 484, 485, 799, 800, 801, 802, 486, 487, 488, 489, 803, 804, 805, 806, 490, 491, 492, 493, 807, 808, 809] (by decide +kernel) (by decide +kernel)
set_option maxRecDepth 20000 in
theorem wl_24 : GoodIn lw_tbl wsL_law_r24 := goodIn_r _ [810, 494, 495, 496, 497, 62, 811, 812, 813, 814, 498, 499, 500, 501, 815, 816, 817, 818, 502, 503, 504, 505, 192, 506] (by decide +kernel) (by decide +kernel)
set_option maxRecDepth 20000 in
theorem wl_25 : GoodIn lw_tbl wsL_law_r25 := goodIn_r _ [819, 820, 821, 822, 507, 508, 509, 510, 105, 101, 103, 109, 107, 511, 512, 513, 514, 515, 516, 517, 518, 823, 824, 825] (by decide +kernel) (by decide +kernel)
set_option maxRecDepth 20000 in
theorem wl_26 : GoodIn lw_tbl wsL_law_r26 := goodIn_r _ [826, 519, 520, 521, 522, 111, 827, 828, 829, 830, 523, 524, 525, 526, 831, 832, 833, 834] (by decide +kernel) (by decide +kernel)
set_option maxRecDepth 20000 in
theorem wlX_0 : GoodIn lw_tbl wsX00 := goodIn_r _ [63, 65, 67, 69] (by decide +kernel) (by decide +kernel)
set_option maxRecDepth 20000 in
theorem wlX_1 : GoodIn lw_tbl wsX10 := goodIn_r _ [112, 114, 116, 118, 120, 122, 124] (by decide +kernel) (by decide +kernel)
set_option maxRecDepth 20000 in
theorem wlX_2 : GoodIn lw_tbl wsX20 := goodIn_r _ [85, 87] (by decide +kernel) (by decide +kernel)
set_option maxRecDepth 20000 in
theorem wlX_3 : GoodIn lw_tbl wsX30 := goodIn_r _ [195, 197, 199, 201, 203, 205, 207, 209, 211, 213, 215, 217, 219, 221, 223, 225] (by decide +kernel) (by decide +kernel)
set_option maxRecDepth 20000 in
theorem wlX_4 : GoodIn lw_tbl wsX40 := goodIn_r _ [145, 147, 149, 151, 153, 155] (by decide +kernel) (by decide +kernel)
set_option maxRecDepth 20000 in
theorem wlX_5 : GoodIn lw_tbl wsX50 := goodIn_r _ [238, 240, 242, 244, 246, 248, 250, 252, 254, 256] (by decide +kernel) (by decide +kernel)
set_option maxRecDepth 20000 in
theorem wlX_6 : GoodIn lw_tbl wsX60 := goodIn_r _ [575, 577, 579, 581, 583, 585, 587, 589, 591, 593, 595, 597, 599, 601, 603, 605, 607, 609, 611, 613, 615, 617, 619, 621, 623, 625, 627, 629, 631, 633, 635, 637, 639, 641, 643, 645, 647, 649, 651, 653, 655, 657] (by decide +kernel) (by decide +kernel)
theorem wsL_good : GoodIn lw_tbl wsL_law := goodIn_app (goodIn_app (goodIn_app (goodIn_app (goodIn_app (goodIn_app (goodIn_app (goodIn_app (goodIn_app wl_1 (goodIn_app wl_2 (goodIn_app wl_3 (goodIn_app wl_4 (goodIn_app wl_5 (goodIn_app wl_6 (goodIn_app wl_7 (goodIn_app wl_8 (goodIn_app wl_9 (goodIn_app wl_10 (goodIn_app wl_11 (goodIn_app wl_12 (goodIn_app wl_13 (goodIn_app wl_14 (goodIn_app wl_15 (goodIn_app wl_16 (goodIn_app wl_17 (goodIn_app wl_18 (goodIn_app wl_19 (goodIn_app wl_20 (goodIn_app wl_21 (goodIn_app wl_22 (goodIn_app wl_23 (goodIn_app wl_24 (goodIn_app wl_25 (wl_26)))))))))))))))))))))))))) wlX_5) wlX_6) wlX_0) wlX_2) wlX_1) wlX_4) wlX_3) (fun _ h => absurd h List.not_mem_nil)
theorem wsL_law_in : ∀ w ∈ wsL_law, w ∈ lw_tbl := fun w h => (wsL_good w h).1
theorem inr_1 : ∀ w ∈ wsL_law_r1, w ∈ wsL_law := fun _ h => List.mem_append_left _ (List.mem_append_left _ (List.mem_append_left _ (List.mem_append_left _ (List.mem_append_left _ (List.mem_append_left _ (List.mem_append_left _ (List.mem_append_left _ (List.mem_append_left _ h))))))))
theorem inr_2 : ∀ w ∈ wsL_law_r2, w ∈ wsL_law := fun _ h => List.mem_append_left _ (List.mem_append_left _ (List.mem_append_left _ (List.mem_append_left _ (List.mem_append_left _ (List.mem_append_left _ (List.mem_append_left _ (List.mem_append_left _ (List.mem_append_right _ (List.mem_append_left _ h)))))))))
theorem inr_3 : ∀ w ∈ wsL_law_r3, w ∈ wsL_law := fun _ h => List.mem_append_left _ (List.mem_append_left _ (List.mem_append_left _ (List.mem_append_left _ (List.mem_append_left _ (List.mem_append_left _ (List.mem_append_left _ (List.mem_append_left _ (List.mem_append_right _ (List.mem_append_right _ (List.mem_append_left _ h))))))))))
theorem inr_4 : ∀ w ∈ wsL_law_r4, w ∈ wsL_law := fun _ h => List.mem_append_left _ (List.mem_append_left _ (List.mem_append_left _ (List.mem_append_left _ (List.mem_append_left _ (List.mem_append_left _ (List.mem_append_left _ (List.mem_append_left _ (List.mem_append_right _ (List.mem_append_right _ (List.mem_append_right _ (List.mem_append_left _ h)))))))))))
theorem inr_5 : ∀ w ∈ wsL_law_r5, w ∈ wsL_law := fun _ h => List.mem_append_left _ (List.mem_append_left _ (List.mem_append_left _ (List.mem_append_left _ (List.mem_append_left _ (List.mem_append_left _ (List.mem_append_left _ (List.mem_append_left _ (List.mem_append_right _ (List.mem_append_right _ (List.mem_append_right _ (List.mem_append_right _ (List.mem_append_left _ h))))))))))))
theorem inr_6 : ∀ w ∈ wsL_law_r6, w ∈ wsL_law := fun _ h => List.mem_append_left _ (List.mem_append_left _ (List.mem_append_left _ (List.mem_append_left _ (List.mem_append_left _ (List.mem_append_left _ (List.mem_append_left _ (List.mem_append_left _ (List.mem_append_right _ (List.mem_append_right _ (List.mem_append_right _ (List.mem_append_right _ (List.mem_append_right _ (List.mem_append_left _ h)))))))))))))
theorem inr_7 : ∀ w ∈ wsL_law_r7, w ∈ wsL_law := fun _ h => List.mem_append_left _ (List.mem_append_left _ (List.mem_append_left _ (List.mem_append_left _ (List.mem_append_left _ (List.mem_append_left _ (List.mem_append_left _ (List.mem_append_left _ (List.mem_append_right _ (List.mem_append_right _ (List.mem_append_right _ (List.mem_append_right _ (List.mem_append_right _ (List.mem_append_right _ (List.mem_append_left _ h))))))))))))))
theorem inr_8 : ∀ w ∈ wsL_law_r8, w ∈ wsL_law := fun _ h => List.mem_append_left _ (List.mem_append_left _ (List.mem_append_left _ (List.mem_append_left _ (List.mem_append_left _ (List.mem_append_left _ (List.mem_append_left _ (List.mem_append_left _ (List.mem_append_right _ (List.mem_append_right _ (List.mem_append_right _ (List.mem_append_right _ (List.mem_append_right _ (List.mem_append_right _ (List.mem_append_right _ (List.mem_append_left _ h)))))))))))))))
theorem inr_9 : ∀ w ∈ wsL_law_r9, w ∈ wsL_law := fun _ h => List.mem_append_left _ (List.mem_append_left _ (List.mem_append_left _ (List.mem_append_left _ (List.mem_append_left _ (List.mem_append_left _ (List.mem_append_left _ (List.mem_append_left _ (List.mem_append_right _ (List.mem_append_right _ (List.mem_append_right _ (List.mem_append_right _ (List.mem_append_right _ (List.mem_append_right _ (List.mem_append_right _ (List.mem_append_right _ (List.mem_append_left _ h))))))))))))))))
theorem inr_10 : ∀ w ∈ wsL_law_r10, w ∈ wsL_law := fun _ h => List.mem_append_left _ (List.mem_append_left _ (List.mem_append_left _ (List.mem_append_left _ (List.mem_append_left _ (List.mem_append_left _ (List.mem_append_left _ (List.mem_append_left _ (List.mem_append_right _ (List.mem_append_right _ (List.mem_append_right _ (List.mem_append_right _ (List.mem_append_right _ (List.mem_append_right _ (List.mem_append_right _ (List.mem_append_right _ (List.mem_append_right _ (List.mem_append_left _ h)))))))))))))))))
theorem inr_11 : ∀ w ∈ wsL_law_r11, w ∈ wsL_law := fun _ h => List.mem_append_left _ (List.mem_append_left _ (List.mem_append_left _ (List.mem_append_left _ (List.mem_append_left _ (List.mem_append_left _ (List.mem_append_left _ (List.mem_append_left _ (List.mem_append_right _ (List.mem_append_right _ (List.mem_append_right _ (List.mem_append_right _ (List.mem_append_right _ (List.mem_append_right _ (List.mem_append_right _ (List.mem_append_right _ (List.mem_append_right _ (List.mem_append_right _ (List.mem_append_left _ h))))))))))))))))))
theorem inr_12 : ∀ w ∈ wsL_law_r12, w ∈ wsL_law := fun _ h => List.mem_append_left _ (List.mem_append_left _ (List.mem_append_left _ (List.mem_append_left _ (List.mem_append_left _ (List.mem_append_left _ (List.mem_append_left _ (List.mem_append_left _ (List.mem_append_right _ (List.mem_append_right _ (List.mem_append_right _ (List.mem_append_right _ (List.mem_append_right _ (List.mem_append_right _ (List.mem_append_right _ (List.mem_append_right _ (List.mem_append_right _ (List.mem_append_right _ (List.mem_append_right _ (List.mem_append_left _ h)))))))))))))))))))
theorem inr_13 : ∀ w ∈ wsL_law_r13, w ∈ wsL_law := fun _ h => List.mem_append_left _ (List.mem_append_left _ (List.mem_append_left _ (List.mem_append_left _ (List.mem_append_left _ (List.mem_append_left _ (List.mem_append_left _ (List.mem_append_left _ (List.mem_append_right _ (List.mem_append_right _ (List.mem_append_right _ (List.mem_append_right _ (List.mem_append_right _ (List.mem_append_right _ (List.mem_append_right _ (List.mem_append_right _ (List.mem_append_right _ (List.mem_append_right _ (List.mem_append_right _ (List.mem_append_right _ (List.mem_append_left _ h))))))))))))))))))))
theorem inr_14 : ∀ w ∈ wsL_law_r14, w ∈ wsL_law := fun _ h => List.mem_append_left _ (List.mem_append_left _ (List.mem_append_left _ (List.mem_append_left _ (List.mem_append_left _ (List.mem_append_left _ (List.mem_append_left _ (List.mem_append_left _ (List.mem_append_right _ (List.mem_append_right _ (List.mem_append_right _ (List.mem_append_right _ (List.mem_append_right _ (List.mem_append_right _ (List.mem_append_right _ (List.mem_append_right _ (List.mem_append_right _ (List.mem_append_right _ (List.mem_append_right _ (List.mem_append_right _ (List.mem_append_right _ (List.mem_append_left _ h)))))))))))))))))))))
theorem inr_15 : ∀ w ∈ wsL_law_r15, w ∈ wsL_law := fun _ h => List.mem_append_left _ (List.mem_append_left _ (List.mem_append_left _ (List.mem_append_left _ (List.mem_append_left _ (List.mem_append_left _ (List.mem_append_left _ (List.mem_append_left _ (List.mem_append_right _ (List.mem_append_right _ (List.mem_append_right _ (List.mem_append_right _ (List.mem_append_right _ (List.mem_append_right _ (List.mem_append_right _ (List.mem_append_right _ (List.mem_append_right _ (List.mem_append_right _ (List.mem_append_right _ (List.mem_append_right _ (List.mem_append_right _ (List.mem_append_right _ (List.mem_append_left _ h))))))))))))))))))))))
theorem inr_16 : ∀ w ∈ wsL_law_r16, w ∈ wsL_law := fun _ h => List.mem_append_left _ (List.mem_append_left _ (List.mem_append_left _ (List.mem_append_left _ (List.mem_append_left _ (List.mem_append_left _ (List.mem_append_left _ (List.mem_append_left _ (List.mem_append_right _ (List.mem_append_right _ (List.mem_append_right _ (List.mem_append_right _ (List.mem_append_right _ (List.mem_append_right _ (List.mem_append_right _ (List.mem_append_right _ (List.mem_append_right _ (List.mem_append_right _ (List.mem_append_right _ (List.mem_append_right _ (List.mem_append_right _ (List.mem_append_right _ (List.mem_append_right _ (List.mem_append_left _ h)))))))))))))))))))))))
theorem inr_17 : ∀ w ∈ wsL_law_r17, w ∈ wsL_law := fun _ h => List.mem_append_left _ (List.mem_append_left _ (List.mem_append_left _ (List.mem_append_left _ (List.mem_append_left _ (List.mem_append_left _ (List.mem_append_left _ (List.mem_append_left _ (List.mem_append_right _ (List.mem_append_right _ (List.mem_append_right _ (List.mem_append_right _ (List.mem_append_right _ (List.mem_append_right _ (List.mem_append_right _ (List.mem_append_right _ (List.mem_append_right _ (List.mem_append_right _ (List.mem_append_right _ (List.mem_append_right _ (List.mem_append_right _ (List.mem_append_right _ (List.mem_append_right _ (List.mem_append_right _ (List.mem_append_left _ h))))))))))))))))))))))))
theorem inr_18 : ∀ w ∈ wsL_law_r18, w ∈ wsL_law := fun _ h => List.mem_append_left _ (List.mem_append_left _ (List.mem_append_left _ (List.mem_append_left _ (List.mem_append_left _ (List.mem_append_left _ (List.mem_append_left _ (List.mem_append_left _ (List.mem_append_right _ (List.mem_append_right _ (List.mem_append_right _ (List.mem_append_right _ (List.mem_append_right _ (List.mem_append_right _ (List.mem_append_right _ (List.mem_append_right _ (List.mem_append_right _ (List.mem_append_right _ (List.mem_append_right _ (List.mem_append_right _ (List.mem_append_right _ (List.mem_append_right _ (List.mem_append_right _ (List.mem_append_right _ (List.mem_append_right _ (List.mem_append_left _ h)))))))))))))))))))))))))
theorem inr_19 : ∀ w ∈ wsL_law_r19, w ∈ wsL_law := fun _ h => List.mem_append_left _ (List.mem_append_left _ (List.mem_append_left _ (List.mem_append_left _ (List.mem_append_left _ (List.mem_append_left _ (List.mem_append_left _ (List.mem_append_left _ (List.mem_append_right _ (List.mem_append_right _ (List.mem_append_right _ (List.mem_append_right _ (List.mem_append_right _ (List.mem_append_right _ (List.mem_append_right _ (List.mem_append_right _ (List.mem_append_right _ (List.mem_append_right _ (List.mem_append_right _ (List.mem_append_right _ (List.mem_append_right _ (List.mem_append_right _ (List.mem_append_right _ (List.mem_append_right _ (List.mem_append_right _ (List.mem_append_right _ (List.mem_append_left _ h))))))))))))))))))))))))))
theorem inr_20 : ∀ w ∈ wsL_law_r20, w ∈ wsL_law := fun _ h => List.mem_append_left _ (List.mem_append_left _ (List.mem_append_left _ (List.mem_append_left _ (List.mem_append_left _ (List.mem_append_left _ (List.mem_append_left _ (List.mem_append_left _ (List.mem_append_right _ (List.mem_append_right _ (List.mem_append_right _ (List.mem_append_right _ (List.mem_append_right _ (List.mem_append_right _ (List.mem_append_right _ (List.mem_append_right _ (List.mem_append_right _ (List.mem_append_right _ (List.mem_append_right _ (List.mem_append_right _ (List.mem_append_right _ (List.mem_append_right _ (List.mem_append_right _ (List.mem_append_right _ (List.mem_append_right _ (List.mem_append_right _ (List.mem_append_right _ (List.mem_append_left _ h)))))))))))))))))))))))))))
theorem inr_21 : ∀ w ∈ wsL_law_r21, w ∈ wsL_law := fun _ h => List.mem_append_left _ (List.mem_append_left _ (List.mem_append_left _ (List.mem_append_left _ (List.mem_append_left _ (List.mem_append_left _ (List.mem_append_left _ (List.mem_append_left _ (List.mem_append_right _ (List.mem_append_right _ (List.mem_append_right _ (List.mem_append_right _ (List.mem_append_right _ (List.mem_append_right _ (List.mem_append_right _ (List.mem_append_right _ (List.mem_append_right _ (List.mem_append_right _ (List.mem_append_right _ (List.mem_append_right _ (List.mem_append_right _ (List.mem_append_right _ (List.mem_append_right _ (List.mem_append_right _ (List.mem_append_right _ (List.mem_append_right _ (List.mem_append_right _ (List.mem_append_right _ (List.mem_append_left _ h))))))))))))))))))))))))))))
theorem inr_22 : ∀ w ∈ wsL_law_r22, w ∈ wsL_law := fun _ h => List.mem_append_left _ (List.mem_append_left _ (List.mem_append_left _ (List.mem_append_left _ (List.mem_append_left _ (List.mem_append_left _ (List.mem_append_left _ (List.mem_append_left _ (List.mem_append_right _ (List.mem_append_right _ (List.mem_append_right _ (List.mem_append_right _ (List.mem_append_right _ (List.mem_append_right _ (List.mem_append_right _ (List.mem_append_right _ (List.mem_append_right _ (List.mem_append_right _ (List.mem_append_right _ (List.mem_append_right _ (List.mem_append_right _ (List.mem_append_right _ (List.mem_append_right _ (List.mem_append_right _ (List.mem_append_right _ (List.mem_append_right _ (List.mem_append_right _ (List.mem_append_right _ (List.mem_append_right _ (List.mem_append_left _ h)))))))))))))))))))))))))))))
theorem inr_23 : ∀ w ∈ wsL_law_r23, w ∈ wsL_law := fun _ h => List.mem_append_left _ (List.mem_append_left _ (List.mem_append_left _ (List.mem_append_left _ (List.mem_append_left _ (List.mem_append_left _ (List.mem_append_left _ (List.mem_append_left _ (List.mem_append_right _ (List.mem_append_right _ (List.mem_append_right _ (List.mem_append_right _ (List.mem_append_right _ (List.mem_append_right _ (List.mem_append_right _ (List.mem_append_right _ (List.mem_append_right _ (List.mem_append_right _ (List.mem_append_right _ (List.mem_append_right _ (List.mem_append_right _ (List.mem_append_right _ (List.mem_append_right _ (List.mem_append_right _ (List.mem_append_right _ (List.mem_append_right _ (List.mem_append_right _ (List.mem_append_right _ (List.mem_append_right _ (List.mem_append_right _ (List.mem_append_left _ h))))))))))))))))))))))))))))))
theorem inr_24 : ∀ w ∈ wsL_law_r24, w ∈ wsL_law := fun _ h => List.mem_append_left _ (List.mem_append_left _ (List.mem_append_left _ (List.mem_append_left _ (List.mem_append_left _ (List.mem_append_left _ (List.mem_append_left _ (List.mem_append_left _ (List.mem_append_right _ (List.mem_append_right _ (List.mem_append_right _ (List.mem_append_right _ (List.mem_append_right _ (List.mem_append_right _ (List.mem_append_right _ (List.mem_append_right _ (List.mem_append_right _ (List.mem_append_right _ (List.mem_append_right _ (List.mem_append_right _ (List.mem_append_right _ (List.mem_append_right _ (List.mem_append_right _ (List.mem_append_right _ (List.mem_append_right _ (List.mem_append_right _ (List.mem_append_right _ (List.mem_append_right _ (List.mem_append_right _ (List.mem_append_right _ (List.mem_append_right _ (List.mem_append_left _ h)))))))))))))))))))))))))))))))
theorem inr_25 : ∀ w ∈ wsL_law_r25, w ∈ wsL_law := fun _ h => List.mem_append_left _ (List.mem_append_left _ (List.mem_append_left _ (List.mem_append_left _ (List.mem_append_left _ (List.mem_append_left _ (List.mem_append_left _ (List.mem_append_left _ (List.mem_append_right _ (List.mem_append_right _ (List.mem_append_right _ (List.mem_append_right _ (List.mem_append_right _ (List.mem_append_right _ (List.mem_append_right _ (List.mem_append_right _ (List.mem_append_right _ (List.mem_append_right _ (List.mem_append_right _ (List.mem_append_right _ (List.mem_append_right _ (List.mem_append_right _ (List.mem_append_right _ (List.mem_append_right _ (List.mem_append_right _ (List.mem_append_right _ (List.mem_append_right _ (List.mem_append_right _ (List.mem_append_right _ (List.mem_append_right _ (List.mem_append_right _ (List.mem_append_right _ (List.mem_append_left _ h))))))))))))))))))))))))))))))))
theorem inr_26 : ∀ w ∈ wsL_law_r26, w ∈ wsL_law := fun _ h => List.mem_append_left _ (List.mem_append_left _ (List.mem_append_left _ (List.mem_append_left _ (List.mem_append_left _ (List.mem_append_left _ (List.mem_append_left _ (List.mem_append_left _ (List.mem_append_right _ (List.mem_append_right _ (List.mem_append_right _ (List.mem_append_right _ (List.mem_append_right _ (List.mem_append_right _ (List.mem_append_right _ (List.mem_append_right _ (List.mem_append_right _ (List.mem_append_right _ (List.mem_append_right _ (List.mem_append_right _ (List.mem_append_right _ (List.mem_append_right _ (List.mem_append_right _ (List.mem_append_right _ (List.mem_append_right _ (List.mem_append_right _ (List.mem_append_right _ (List.mem_append_right _ (List.mem_append_right _ (List.mem_append_right _ (List.mem_append_right _ (List.mem_append_right _ (List.mem_append_right _ (h)))))))))))))))))))))))))))))))))
theorem inlX0 : ∀ w ∈ wsX00, w ∈ wsL_law := fun _ h => List.mem_append_left _ (List.mem_append_left _ (List.mem_append_left _ (List.mem_append_left _ (List.mem_append_left _ (List.mem_append_right _ h)))))
theorem inX0 : ∀ w ∈ wsX00, w ∈ lw_tbl := fun w h => wsL_law_in w (inlX0 w h)
theorem inlX1 : ∀ w ∈ wsX10, w ∈ wsL_law := fun _ h => List.mem_append_left _ (List.mem_append_left _ (List.mem_append_left _ (List.mem_append_right _ h)))
theorem inX1 : ∀ w ∈ wsX10, w ∈ lw_tbl := fun w h => wsL_law_in w (inlX1 w h)
theorem inlX2 : ∀ w ∈ wsX20, w ∈ wsL_law := fun _ h => List.mem_append_left _ (List.mem_append_left _ (List.mem_append_left _ (List.mem_append_left _ (List.mem_append_right _ h))))
theorem inX2 : ∀ w ∈ wsX20, w ∈ lw_tbl := fun w h => wsL_law_in w (inlX2 w h)
theorem inlX3 : ∀ w ∈ wsX30, w ∈ wsL_law := fun _ h => List.mem_append_left _ (List.mem_append_right _ h)
theorem inX3 : ∀ w ∈ wsX30, w ∈ lw_tbl := fun w h => wsL_law_in w (inlX3 w h)
theorem inlX4 : ∀ w ∈ wsX40, w ∈ wsL_law := fun _ h => List.mem_append_left _ (List.mem_append_left _ (List.mem_append_right _ h))
theorem inX4 : ∀ w ∈ wsX40, w ∈ lw_tbl := fun w h => wsL_law_in w (inlX4 w h)
theorem inlX5 : ∀ w ∈ wsX50, w ∈ wsL_law := fun _ h => List.mem_append_left _ (List.mem_append_left _ (List.mem_append_left _ (List.mem_append_left _ (List.mem_append_left _ (List.mem_append_left _ (List.mem_append_left _ (List.mem_append_right _ h)))))))
theorem inX5 : ∀ w ∈ wsX50, w ∈ lw_tbl := fun w h => wsL_law_in w (inlX5 w h)
theorem inlX6 : ∀ w ∈ wsX60, w ∈ wsL_law := fun _ h => List.mem_append_left _ (List.mem_append_left _ (List.mem_append_left _ (List.mem_append_left _ (List.mem_append_left _ (List.mem_append_left _ (List.mem_append_right _ h))))))
theorem inX6 : ∀ w ∈ wsX60, w ∈ lw_tbl := fun w h => wsL_law_in w (inlX6 w h)
theorem inJ10 : ∀ w ∈ wsJ100, w ∈ lw_tbl := by decide +kernel
theorem inJ7 : ∀ w ∈ wsJ70, w ∈ lw_tbl := by decide +kernel
abbrev vwCl : List vw_C := [(RX0, TX0, 4), (RX1, TX1, 7), (RX2, TX2, 2), (RX3, TX3, 16), (RX4, TX4, 6), (RX5, TX5, 10), (RX6, TX6, 42)]

