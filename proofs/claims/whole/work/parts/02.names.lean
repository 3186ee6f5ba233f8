/-! ===== BEGIN words of one list among another's, by their places ===== -/
theorem goodIn_r {big : List Cond} (ws : List Cond) (ps : List Nat) (hp : ws = ps.filterMap (fun i => big[i]?)) (h : ws.all goodWord = true) : GoodIn big ws := by
  intro w hw
  have h1 := List.all_eq_true.mp h w hw
  rw [hp] at hw
  obtain ⟨i, -, hi⟩ := List.mem_filterMap.mp hw
  have hm : w ∈ big := by first | exact List.mem_of_getElem? hi | exact List.getElem?_mem hi
  exact ⟨hm, good_of_word h1⟩
theorem goodIn_app {big a b : List Cond} (ha : GoodIn big a) (hb : GoodIn big b) : GoodIn big (a ++ b) := fun w h => (List.mem_append.mp h).elim (ha w) (hb w)
theorem goodIn_ca {big a b : List Cond} {c : Cond} (ha : GoodIn big (c :: a)) (hb : GoodIn big b) : GoodIn big (c :: (a ++ b)) := fun w h => (List.mem_cons.mp h).elim (fun e => ha w (List.mem_cons.mpr (Or.inl e))) (fun h => (List.mem_append.mp h).elim (fun h => ha w (List.mem_cons.mpr (Or.inr h))) (hb w))
theorem goodIn_sub {big ws : List Cond} (hm : ∀ w ∈ ws, w ∈ big) (h : ws.all goodWord = true) : GoodIn big ws := fun w hw => ⟨hm w hw, good_of_word (List.all_eq_true.mp h w hw)⟩
/-! ===== END ===== -/

/-! ===== BEGIN printed: names, fields, word lists, decode rows ===== -/
def RX0 : String := "CallTowers$Net"
def TX0 : u_T := fun k => match k with
  | 0 => ("CallTowers$Net", "nodes", "I", false)
  | 1 => ("CallTowers$Net", "firstEdges", "I", false)
  | 2 => ("CallTowers$Net", "edges", "I", false)
  | 3 => ("CallTowers$Net", "rounds", "I", false)
  | 4 => ("CallTowers$Net", "weights", "[J", true)
  | 5 => ("CallTowers$Net", "before", "[J", true)
  | 6 => ("CallTowers$Net", "accepting", "[Z", true)
  | 7 => ("CallTowers$Net", "costs", "[I", true)
  | 8 => ("CallTowers$Net", "worst", "Z", false)
  | 9 => ("CallTowers$Net", "read", "[J", false)
  | _ => ("CallTowers$Net", "spare", "[J", false)
def tyX0 : Nat → FieldType := fun k => match k with
  | 0 => .int
  | 1 => .int
  | 2 => .int
  | 3 => .int
  | 4 => .array .long
  | 5 => .array .long
  | 6 => .array .boolean
  | 7 => .array .int
  | 8 => .boolean
  | 9 => .array .long
  | _ => .array .long
abbrev wsX00 : List Cond := u_ws RX0 TX0 11
theorem nmX0 : ∀ a, a < 11 → ∀ b, b < 11 → a ≠ b → (TX0 a).2.1 ≠ (TX0 b).2.1 := by decide +kernel
theorem tyX0_ok : ∀ k, k < 11 → parseFieldDescriptor (TX0 k).2.2.1 = some (tyX0 k) := by decide +kernel
abbrev cX0_init : ByteArray := prog_2_method_1_code
def yX0_init : MethodName := ⟨RX0, "<init>", "()V"⟩
abbrev cX0_isNode : ByteArray := prog_2_method_2_code
def yX0_isNode : MethodName := ⟨RX0, "isNode", "(I)Z"⟩
abbrev cX0_build : ByteArray := prog_2_method_3_code
def yX0_build : MethodName := ⟨RX0, "build", "(LCallTowers$Tower;III)V"⟩
abbrev cX0_layTargets : ByteArray := prog_2_method_4_code
def yX0_layTargets : MethodName := ⟨RX0, "layTargets", "(LCallTowers$Tower;)V"⟩
abbrev cX0_layAnyLetter : ByteArray := prog_2_method_5_code
def yX0_layAnyLetter : MethodName := ⟨RX0, "layAnyLetter", "(II)V"⟩
abbrev cX0_countEdges : ByteArray := prog_2_method_6_code
def yX0_countEdges : MethodName := ⟨RX0, "countEdges", "()I"⟩
abbrev cX0_playRound : ByteArray := prog_2_method_7_code
def yX0_playRound : MethodName := ⟨RX0, "playRound", "(LCallTowers$Tower;)Z"⟩
abbrev cX0_drawEdges : ByteArray := prog_2_method_8_code
def yX0_drawEdges : MethodName := ⟨RX0, "drawEdges", "(II)Z"⟩
abbrev cX0_joined : ByteArray := prog_2_method_9_code
def yX0_joined : MethodName := ⟨RX0, "joined", "(JJ)J"⟩
abbrev cX0_startAt : ByteArray := prog_2_method_10_code
def yX0_startAt : MethodName := ⟨RX0, "startAt", "(I)V"⟩
abbrev cX0_readOn : ByteArray := prog_2_method_11_code
def yX0_readOn : MethodName := ⟨RX0, "readOn", "(I)V"⟩
abbrev cX0_priceOf : ByteArray := prog_2_method_12_code
def yX0_priceOf : MethodName := ⟨RX0, "priceOf", "(LCallTowers$Tower;)I"⟩
abbrev cX0_fillBottom : ByteArray := prog_2_method_13_code
def yX0_fillBottom : MethodName := ⟨RX0, "fillBottom", "([J)V"⟩
abbrev cX0_stepsOver : ByteArray := prog_2_method_14_code
def yX0_stepsOver : MethodName := ⟨RX0, "stepsOver", "(II[JI)J"⟩
abbrev cX0_stepsOverTwo : ByteArray := prog_2_method_15_code
def yX0_stepsOverTwo : MethodName := ⟨RX0, "stepsOverTwo", "(III[JI)J"⟩
def RX1 : String := "CallTowers$Reach"
def TX1 : u_T := fun k => match k with
  | 0 => ("CallTowers$Reach", "falls", "[I", true)
  | 1 => ("CallTowers$Reach", "headSet", "I", false)
  | _ => ("CallTowers$Reach", "bottoms", "I", false)
def tyX1 : Nat → FieldType := fun k => match k with
  | 0 => .array .int
  | 1 => .int
  | _ => .int
abbrev wsX10 : List Cond := u_ws RX1 TX1 3
theorem nmX1 : ∀ a, a < 3 → ∀ b, b < 3 → a ≠ b → (TX1 a).2.1 ≠ (TX1 b).2.1 := by decide +kernel
theorem tyX1_ok : ∀ k, k < 3 → parseFieldDescriptor (TX1 k).2.2.1 = some (tyX1 k) := by decide +kernel
abbrev cX1_init : ByteArray := prog_3_method_1_code
def yX1_init : MethodName := ⟨RX1, "<init>", "()V"⟩
abbrev cX1_hasHead : ByteArray := prog_3_method_2_code
def yX1_hasHead : MethodName := ⟨RX1, "hasHead", "(II)Z"⟩
abbrev cX1_explore : ByteArray := prog_3_method_3_code
def yX1_explore : MethodName := ⟨RX1, "explore", "(LCallTowers$Tower;)V"⟩
abbrev cX1_settleFalls : ByteArray := prog_3_method_4_code
def yX1_settleFalls : MethodName := ⟨RX1, "settleFalls", "(LCallTowers$Tower;)V"⟩
abbrev cX1_afterWord : ByteArray := prog_3_method_5_code
def yX1_afterWord : MethodName := ⟨RX1, "afterWord", "(II)I"⟩
abbrev cX1_afterLetter : ByteArray := prog_3_method_6_code
def yX1_afterLetter : MethodName := ⟨RX1, "afterLetter", "(II)I"⟩
abbrev cX1_descend : ByteArray := prog_3_method_7_code
def yX1_descend : MethodName := ⟨RX1, "descend", "(LCallTowers$Tower;)V"⟩
abbrev cX1_headsOf : ByteArray := prog_3_method_8_code
def yX1_headsOf : MethodName := ⟨RX1, "headsOf", "(II)I"⟩
abbrev cX1_spread : ByteArray := prog_3_method_9_code
def yX1_spread : MethodName := ⟨RX1, "spread", "(LCallTowers$Tower;)Z"⟩
def RX2 : String := "CallTowers$Route"
def TX2 : u_T := fun k => match k with
  | 0 => ("CallTowers$Route", "letters", "[I", true)
  | 1 => ("CallTowers$Route", "tails", "[J", true)
  | 2 => ("CallTowers$Route", "height", "I", false)
  | 3 => ("CallTowers$Route", "state", "I", false)
  | 4 => ("CallTowers$Route", "left", "J", false)
  | 5 => ("CallTowers$Route", "latest", "I", false)
  | _ => ("CallTowers$Route", "done", "I", false)
def tyX2 : Nat → FieldType := fun k => match k with
  | 0 => .array .int
  | 1 => .array .long
  | 2 => .int
  | 3 => .int
  | 4 => .long
  | 5 => .int
  | _ => .int
abbrev wsX20 : List Cond := u_ws RX2 TX2 7
theorem nmX2 : ∀ a, a < 7 → ∀ b, b < 7 → a ≠ b → (TX2 a).2.1 ≠ (TX2 b).2.1 := by decide +kernel
theorem tyX2_ok : ∀ k, k < 7 → parseFieldDescriptor (TX2 k).2.2.1 = some (tyX2 k) := by decide +kernel
abbrev cX2_init : ByteArray := prog_4_method_1_code
def yX2_init : MethodName := ⟨RX2, "<init>", "()V"⟩
abbrev cX2_begin : ByteArray := prog_4_method_2_code
def yX2_begin : MethodName := ⟨RX2, "begin", "(LCallTowers$Tower;LCallTowers$Net;)V"⟩
abbrev cX2_fillTail : ByteArray := prog_4_method_3_code
def yX2_fillTail : MethodName := ⟨RX2, "fillTail", "(ILCallTowers$Net;)V"⟩
abbrev cX2_steps : ByteArray := prog_4_method_4_code
def yX2_steps : MethodName := ⟨RX2, "steps", "()I"⟩
abbrev cX2_ruleAt : ByteArray := prog_4_method_5_code
def yX2_ruleAt : MethodName := ⟨RX2, "ruleAt", "(ILCallTowers$Tower;LCallTowers$Net;)I"⟩
abbrev cX2_advance : ByteArray := prog_4_method_6_code
def yX2_advance : MethodName := ⟨RX2, "advance", "(LCallTowers$Tower;LCallTowers$Net;)I"⟩
abbrev cX2_stepsAfter : ByteArray := prog_4_method_7_code
def yX2_stepsAfter : MethodName := ⟨RX2, "stepsAfter", "(IILCallTowers$Net;)J"⟩
abbrev cX2_replaceTop : ByteArray := prog_4_method_8_code
def yX2_replaceTop : MethodName := ⟨RX2, "replaceTop", "(ILCallTowers$Net;)V"⟩
def RX3 : String := "CallTowers$Script"
def TX3 : u_T := fun k => match k with
  | 0 => ("CallTowers$Script", "signs", "[C", true)
  | 1 => ("CallTowers$Script", "length", "I", false)
  | 2 => ("CallTowers$Script", "at", "I", false)
  | _ => ("CallTowers$Script", "letters", "[I", true)
def tyX3 : Nat → FieldType := fun k => match k with
  | 0 => .array .char
  | 1 => .int
  | 2 => .int
  | _ => .array .int
abbrev wsX30 : List Cond := u_ws RX3 TX3 4
theorem nmX3 : ∀ a, a < 4 → ∀ b, b < 4 → a ≠ b → (TX3 a).2.1 ≠ (TX3 b).2.1 := by decide +kernel
theorem tyX3_ok : ∀ k, k < 4 → parseFieldDescriptor (TX3 k).2.2.1 = some (tyX3 k) := by decide +kernel
abbrev cX3_init : ByteArray := prog_5_method_1_code
def yX3_init : MethodName := ⟨RX3, "<init>", "()V"⟩
abbrev cX3_append : ByteArray := prog_5_method_2_code
def yX3_append : MethodName := ⟨RX3, "append", "(C)Z"⟩
abbrev cX3_clear : ByteArray := prog_5_method_3_code
def yX3_clear : MethodName := ⟨RX3, "clear", "()V"⟩
abbrev cX3_readInto : ByteArray := prog_5_method_4_code
def yX3_readInto : MethodName := ⟨RX3, "readInto", "(LCallTowers$Tower;)I"⟩
abbrev cX3_readItem : ByteArray := prog_5_method_5_code
def yX3_readItem : MethodName := ⟨RX3, "readItem", "(LCallTowers$Tower;Z)Z"⟩
abbrev cX3_readStates : ByteArray := prog_5_method_6_code
def yX3_readStates : MethodName := ⟨RX3, "readStates", "(LCallTowers$Tower;)Z"⟩
abbrev cX3_readRule : ByteArray := prog_5_method_7_code
def yX3_readRule : MethodName := ⟨RX3, "readRule", "(LCallTowers$Tower;)Z"⟩
abbrev cX3_readTarget : ByteArray := prog_5_method_8_code
def yX3_readTarget : MethodName := ⟨RX3, "readTarget", "(LCallTowers$Tower;)Z"⟩
abbrev cX3_readConfiguration : ByteArray := prog_5_method_9_code
def yX3_readConfiguration : MethodName := ⟨RX3, "readConfiguration", "(LCallTowers$Tower;)Z"⟩
abbrev cX3_readMode : ByteArray := prog_5_method_10_code
def yX3_readMode : MethodName := ⟨RX3, "readMode", "(LCallTowers$Tower;)Z"⟩
abbrev cX3_readSign : ByteArray := prog_5_method_11_code
def yX3_readSign : MethodName := ⟨RX3, "readSign", "(C)Z"⟩
abbrev cX3_readDigit : ByteArray := prog_5_method_12_code
def yX3_readDigit : MethodName := ⟨RX3, "readDigit", "(I)I"⟩
abbrev cX3_readLetter : ByteArray := prog_5_method_13_code
def yX3_readLetter : MethodName := ⟨RX3, "readLetter", "()I"⟩
abbrev cX3_readWord : ByteArray := prog_5_method_14_code
def yX3_readWord : MethodName := ⟨RX3, "readWord", "(I)I"⟩
abbrev cX3_wordFrom : ByteArray := prog_5_method_15_code
def yX3_wordFrom : MethodName := ⟨RX3, "wordFrom", "(I)I"⟩
def RX4 : String := "CallTowers$Tower"
def TX4 : u_T := fun k => match k with
  | 0 => ("CallTowers$Tower", "states", "I", false)
  | 1 => ("CallTowers$Tower", "rules", "I", false)
  | 2 => ("CallTowers$Tower", "from", "[I", true)
  | 3 => ("CallTowers$Tower", "top", "[I", true)
  | 4 => ("CallTowers$Tower", "into", "[I", true)
  | 5 => ("CallTowers$Tower", "word", "[I", true)
  | 6 => ("CallTowers$Tower", "cost", "[I", true)
  | 7 => ("CallTowers$Tower", "targets", "I", false)
  | 8 => ("CallTowers$Tower", "targetState", "[I", true)
  | 9 => ("CallTowers$Tower", "targetLength", "[I", true)
  | 10 => ("CallTowers$Tower", "targetOpen", "[Z", true)
  | 11 => ("CallTowers$Tower", "targetWord", "[I", true)
  | 12 => ("CallTowers$Tower", "mode", "I", false)
  | 13 => ("CallTowers$Tower", "state", "I", false)
  | 14 => ("CallTowers$Tower", "height", "I", false)
  | _ => ("CallTowers$Tower", "stack", "[I", true)
def tyX4 : Nat → FieldType := fun k => match k with
  | 0 => .int
  | 1 => .int
  | 2 => .array .int
  | 3 => .array .int
  | 4 => .array .int
  | 5 => .array .int
  | 6 => .array .int
  | 7 => .int
  | 8 => .array .int
  | 9 => .array .int
  | 10 => .array .boolean
  | 11 => .array .int
  | 12 => .int
  | 13 => .int
  | 14 => .int
  | _ => .array .int
abbrev wsX40 : List Cond := u_ws RX4 TX4 16
theorem nmX4 : ∀ a, a < 16 → ∀ b, b < 16 → a ≠ b → (TX4 a).2.1 ≠ (TX4 b).2.1 := by decide +kernel
theorem tyX4_ok : ∀ k, k < 16 → parseFieldDescriptor (TX4 k).2.2.1 = some (tyX4 k) := by decide +kernel
abbrev cX4_init : ByteArray := prog_6_method_1_code
def yX4_init : MethodName := ⟨RX4, "<init>", "()V"⟩
abbrev cX4_clear : ByteArray := prog_6_method_2_code
def yX4_clear : MethodName := ⟨RX4, "clear", "()V"⟩
abbrev cX4_copyFrom : ByteArray := prog_6_method_3_code
def yX4_copyFrom : MethodName := ⟨RX4, "copyFrom", "(LCallTowers$Tower;)V"⟩
abbrev cX4_addRule : ByteArray := prog_6_method_4_code
def yX4_addRule : MethodName := ⟨RX4, "addRule", "(IIIII)Z"⟩
abbrev cX4_removeRule : ByteArray := prog_6_method_5_code
def yX4_removeRule : MethodName := ⟨RX4, "removeRule", "(I)V"⟩
abbrev cX4_addTarget : ByteArray := prog_6_method_6_code
def yX4_addTarget : MethodName := ⟨RX4, "addTarget", "(I[IIZ)Z"⟩
abbrev cX4_putLetter : ByteArray := prog_6_method_7_code
def yX4_putLetter : MethodName := ⟨RX4, "putLetter", "(I)V"⟩
abbrev cX4_takeLetter : ByteArray := prog_6_method_8_code
def yX4_takeLetter : MethodName := ⟨RX4, "takeLetter", "()I"⟩
abbrev cX4_rulesFor : ByteArray := prog_6_method_9_code
def yX4_rulesFor : MethodName := ⟨RX4, "rulesFor", "(II)I"⟩
abbrev cX4_applies : ByteArray := prog_6_method_10_code
def yX4_applies : MethodName := ⟨RX4, "applies", "(I)Z"⟩
abbrev cX4_heightAfter : ByteArray := prog_6_method_11_code
def yX4_heightAfter : MethodName := ⟨RX4, "heightAfter", "(I)I"⟩
abbrev cX4_apply : ByteArray := prog_6_method_12_code
def yX4_apply : MethodName := ⟨RX4, "apply", "(I)V"⟩
abbrev cX4_choose : ByteArray := prog_6_method_13_code
def yX4_choose : MethodName := ⟨RX4, "choose", "(I)I"⟩
def RX5 : String := "CallTowers"
def TX5 : u_T := fun k => match k with
  | 0 => ("CallTowers", "script", "LCallTowers$Script;", true)
  | 1 => ("CallTowers", "now", "LCallTowers$Tower;", true)
  | 2 => ("CallTowers", "draft", "LCallTowers$Tower;", true)
  | 3 => ("CallTowers", "past", "[LCallTowers$Tower;", true)
  | 4 => ("CallTowers", "pastNext", "I", false)
  | 5 => ("CallTowers", "pastCount", "I", false)
  | 6 => ("CallTowers", "saved", "[LCallTowers$Tower;", true)
  | 7 => ("CallTowers", "savedCount", "I", false)
  | 8 => ("CallTowers", "net", "LCallTowers$Net;", true)
  | 9 => ("CallTowers", "netFresh", "Z", false)
  | 10 => ("CallTowers", "paces", "LCallTowers$Net;", true)
  | 11 => ("CallTowers", "pacesFresh", "Z", false)
  | 12 => ("CallTowers", "trial", "LCallTowers$Net;", true)
  | 13 => ("CallTowers", "route", "LCallTowers$Route;", true)
  | 14 => ("CallTowers", "routeFresh", "Z", false)
  | _ => ("CallTowers", "reach", "LCallTowers$Reach;", true)
def tyX5 : Nat → FieldType := fun k => match k with
  | 0 => .object "CallTowers$Script"
  | 1 => .object "CallTowers$Tower"
  | 2 => .object "CallTowers$Tower"
  | 3 => .array (.object "CallTowers$Tower")
  | 4 => .int
  | 5 => .int
  | 6 => .array (.object "CallTowers$Tower")
  | 7 => .int
  | 8 => .object "CallTowers$Net"
  | 9 => .boolean
  | 10 => .object "CallTowers$Net"
  | 11 => .boolean
  | 12 => .object "CallTowers$Net"
  | 13 => .object "CallTowers$Route"
  | 14 => .boolean
  | _ => .object "CallTowers$Reach"
abbrev wsX50 : List Cond := u_ws RX5 TX5 16
theorem nmX5 : ∀ a, a < 16 → ∀ b, b < 16 → a ≠ b → (TX5 a).2.1 ≠ (TX5 b).2.1 := by decide +kernel
theorem tyX5_ok : ∀ k, k < 16 → parseFieldDescriptor (TX5 k).2.2.1 = some (tyX5 k) := by decide +kernel
abbrev cX5_init : ByteArray := prog_1_method_1_code
def yX5_init : MethodName := ⟨RX5, "<init>", "()V"⟩
abbrev cX5_write : ByteArray := prog_1_method_2_code
def yX5_write : MethodName := ⟨RX5, "write", "(I)I"⟩
abbrev cX5_wipe : ByteArray := prog_1_method_3_code
def yX5_wipe : MethodName := ⟨RX5, "wipe", "()I"⟩
abbrev cX5_fault : ByteArray := prog_1_method_4_code
def yX5_fault : MethodName := ⟨RX5, "fault", "()I"⟩
abbrev cX5_lay : ByteArray := prog_1_method_5_code
def yX5_lay : MethodName := ⟨RX5, "lay", "()I"⟩
abbrev cX5_rule : ByteArray := prog_1_method_6_code
def yX5_rule : MethodName := ⟨RX5, "rule", "(II)I"⟩
abbrev cX5_target : ByteArray := prog_1_method_7_code
def yX5_target : MethodName := ⟨RX5, "target", "(II)I"⟩
abbrev cX5_stack : ByteArray := prog_1_method_8_code
def yX5_stack : MethodName := ⟨RX5, "stack", "(I)I"⟩
abbrev cX5_push : ByteArray := prog_1_method_9_code
def yX5_push : MethodName := ⟨RX5, "push", "(I)I"⟩
abbrev cX5_pop : ByteArray := prog_1_method_10_code
def yX5_pop : MethodName := ⟨RX5, "pop", "()I"⟩
abbrev cX5_step : ByteArray := prog_1_method_11_code
def yX5_step : MethodName := ⟨RX5, "step", "(I)I"⟩
abbrev cX5_go : ByteArray := prog_1_method_12_code
def yX5_go : MethodName := ⟨RX5, "go", "(I)I"⟩
abbrev cX5_enter : ByteArray := prog_1_method_13_code
def yX5_enter : MethodName := ⟨RX5, "enter", "(IIIII)I"⟩
abbrev cX5_drop : ByteArray := prog_1_method_14_code
def yX5_drop : MethodName := ⟨RX5, "drop", "(I)I"⟩
abbrev cX5_weigh : ByteArray := prog_1_method_15_code
def yX5_weigh : MethodName := ⟨RX5, "weigh", "(II)I"⟩
abbrev cX5_mode : ByteArray := prog_1_method_16_code
def yX5_mode : MethodName := ⟨RX5, "mode", "(I)I"⟩
abbrev cX5_undo : ByteArray := prog_1_method_17_code
def yX5_undo : MethodName := ⟨RX5, "undo", "()I"⟩
abbrev cX5_price : ByteArray := prog_1_method_18_code
def yX5_price : MethodName := ⟨RX5, "price", "()I"⟩
abbrev cX5_run : ByteArray := prog_1_method_19_code
def yX5_run : MethodName := ⟨RX5, "run", "(I)I"⟩
abbrev cX5_heads : ByteArray := prog_1_method_20_code
def yX5_heads : MethodName := ⟨RX5, "heads", "(II)I"⟩
abbrev cX5_empty : ByteArray := prog_1_method_21_code
def yX5_empty : MethodName := ⟨RX5, "empty", "(I)I"⟩
abbrev cX5_stuck : ByteArray := prog_1_method_22_code
def yX5_stuck : MethodName := ⟨RX5, "stuck", "()I"⟩
abbrev cX5_edge : ByteArray := prog_1_method_23_code
def yX5_edge : MethodName := ⟨RX5, "edge", "(III)I"⟩
abbrev cX5_automaton : ByteArray := prog_1_method_24_code
def yX5_automaton : MethodName := ⟨RX5, "automaton", "(I)I"⟩
abbrev cX5_needed : ByteArray := prog_1_method_25_code
def yX5_needed : MethodName := ⟨RX5, "needed", "()I"⟩
abbrev cX5_dear : ByteArray := prog_1_method_26_code
def yX5_dear : MethodName := ⟨RX5, "dear", "(I)I"⟩
abbrev cX5_walk : ByteArray := prog_1_method_27_code
def yX5_walk : MethodName := ⟨RX5, "walk", "(III)I"⟩
abbrev cX5_keep : ByteArray := prog_1_method_28_code
def yX5_keep : MethodName := ⟨RX5, "keep", "()I"⟩
abbrev cX5_back : ByteArray := prog_1_method_29_code
def yX5_back : MethodName := ⟨RX5, "back", "()I"⟩
abbrev cX5_count : ByteArray := prog_1_method_30_code
def yX5_count : MethodName := ⟨RX5, "count", "(I)I"⟩
abbrev cX5_isState : ByteArray := prog_1_method_31_code
def yX5_isState : MethodName := ⟨RX5, "isState", "(I)Z"⟩
abbrev cX5_isRule : ByteArray := prog_1_method_32_code
def yX5_isRule : MethodName := ⟨RX5, "isRule", "(I)Z"⟩
abbrev cX5_isLetter : ByteArray := prog_1_method_33_code
def yX5_isLetter : MethodName := ⟨RX5, "isLetter", "(I)Z"⟩
abbrev cX5_isCost : ByteArray := prog_1_method_34_code
def yX5_isCost : MethodName := ⟨RX5, "isCost", "(I)Z"⟩
abbrev cX5_remember : ByteArray := prog_1_method_35_code
def yX5_remember : MethodName := ⟨RX5, "remember", "()V"⟩
abbrev cX5_noteNewRules : ByteArray := prog_1_method_36_code
def yX5_noteNewRules : MethodName := ⟨RX5, "noteNewRules", "()V"⟩
abbrev cX5_renewNet : ByteArray := prog_1_method_37_code
def yX5_renewNet : MethodName := ⟨RX5, "renewNet", "()V"⟩
abbrev cX5_renewRoute : ByteArray := prog_1_method_38_code
def yX5_renewRoute : MethodName := ⟨RX5, "renewRoute", "()V"⟩
abbrev cX5_priceWith : ByteArray := prog_1_method_39_code
def yX5_priceWith : MethodName := ⟨RX5, "priceWith", "(II)I"⟩
abbrev cX5_drawn : ByteArray := prog_1_method_40_code
def yX5_drawn : MethodName := ⟨RX5, "drawn", "(II)I"⟩
abbrev cX5_wordOf : ByteArray := prog_1_method_41_code
def yX5_wordOf : MethodName := ⟨RX5, "wordOf", "(II)I"⟩
abbrev cX5_lettersIn : ByteArray := prog_1_method_42_code
def yX5_lettersIn : MethodName := ⟨RX5, "lettersIn", "(I)I"⟩
abbrev cX5_firstLetter : ByteArray := prog_1_method_43_code
def yX5_firstLetter : MethodName := ⟨RX5, "firstLetter", "(I)I"⟩
abbrev cX5_secondLetter : ByteArray := prog_1_method_44_code
def yX5_secondLetter : MethodName := ⟨RX5, "secondLetter", "(I)I"⟩
abbrev cX5_edgeAt : ByteArray := prog_1_method_45_code
def yX5_edgeAt : MethodName := ⟨RX5, "edgeAt", "(III)I"⟩
def RX6 : String := "CallTowersModel"
def TX6 : u_T := fun k => match k with
  | 0 => ("CallTowersModel", "states", "I", false)
  | 1 => ("CallTowersModel", "many", "I", false)
  | 2 => ("CallTowersModel", "rule", "[I", true)
  | 3 => ("CallTowersModel", "targets", "I", false)
  | 4 => ("CallTowersModel", "target", "[I", true)
  | 5 => ("CallTowersModel", "state", "I", false)
  | 6 => ("CallTowersModel", "high", "I", false)
  | 7 => ("CallTowersModel", "pile", "[I", true)
  | 8 => ("CallTowersModel", "mode", "I", false)
  | 9 => ("CallTowersModel", "undos", "I", false)
  | 10 => ("CallTowersModel", "undone", "[I", true)
  | 11 => ("CallTowersModel", "kepts", "I", false)
  | 12 => ("CallTowersModel", "kept", "[I", true)
  | 13 => ("CallTowersModel", "weight", "[I", true)
  | 14 => ("CallTowersModel", "ahead", "[I", true)
  | 15 => ("CallTowersModel", "nodes", "I", false)
  | 16 => ("CallTowersModel", "begun", "I", false)
  | 17 => ("CallTowersModel", "rounds", "I", false)
  | 18 => ("CallTowersModel", "reach", "[I", true)
  | 19 => ("CallTowersModel", "reachThen", "[I", true)
  | 20 => ("CallTowersModel", "tower", "[I", true)
  | 21 => ("CallTowersModel", "togo", "[I", true)
  | 22 => ("CallTowersModel", "tall", "I", false)
  | 23 => ("CallTowersModel", "above", "[I", true)
  | 24 => ("CallTowersModel", "aboveThen", "[I", true)
  | 25 => ("CallTowersModel", "pops", "[I", true)
  | 26 => ("CallTowersModel", "head", "[I", true)
  | 27 => ("CallTowersModel", "bare", "[I", true)
  | 28 => ("CallTowersModel", "before", "[I", true)
  | 29 => ("CallTowersModel", "text", "[I", true)
  | 30 => ("CallTowersModel", "size", "I", false)
  | 31 => ("CallTowersModel", "readAt", "I", false)
  | 32 => ("CallTowersModel", "readValue", "I", false)
  | 33 => ("CallTowersModel", "wordLong", "I", false)
  | 34 => ("CallTowersModel", "readWord", "[I", true)
  | 35 => ("CallTowersModel", "textStates", "I", false)
  | 36 => ("CallTowersModel", "textRules", "I", false)
  | _ => ("CallTowersModel", "textTargets", "I", false)
def tyX6 : Nat → FieldType := fun k => match k with
  | 0 => .int
  | 1 => .int
  | 2 => .array .int
  | 3 => .int
  | 4 => .array .int
  | 5 => .int
  | 6 => .int
  | 7 => .array .int
  | 8 => .int
  | 9 => .int
  | 10 => .array .int
  | 11 => .int
  | 12 => .array .int
  | 13 => .array .int
  | 14 => .array .int
  | 15 => .int
  | 16 => .int
  | 17 => .int
  | 18 => .array .int
  | 19 => .array .int
  | 20 => .array .int
  | 21 => .array .int
  | 22 => .int
  | 23 => .array .int
  | 24 => .array .int
  | 25 => .array .int
  | 26 => .array .int
  | 27 => .array .int
  | 28 => .array .int
  | 29 => .array .int
  | 30 => .int
  | 31 => .int
  | 32 => .int
  | 33 => .int
  | 34 => .array .int
  | 35 => .int
  | 36 => .int
  | _ => .int
abbrev wsX60 : List Cond := u_ws RX6 TX6 38
theorem nmX6 : ∀ a, a < 38 → ∀ b, b < 38 → a ≠ b → (TX6 a).2.1 ≠ (TX6 b).2.1 := by decide +kernel
theorem tyX6_ok : ∀ k, k < 38 → parseFieldDescriptor (TX6 k).2.2.1 = some (tyX6 k) := by decide +kernel
abbrev cX6_init : ByteArray := prog_8_method_1_code
def yX6_init : MethodName := ⟨RX6, "<init>", "()V"⟩
abbrev cX6_in : ByteArray := prog_8_method_2_code
def yX6_in : MethodName := ⟨RX6, "in", "(III)Z"⟩
abbrev cX6_writes : ByteArray := prog_8_method_3_code
def yX6_writes : MethodName := ⟨RX6, "writes", "([II)V"⟩
abbrev cX6_readsBack : ByteArray := prog_8_method_4_code
def yX6_readsBack : MethodName := ⟨RX6, "readsBack", "([II)V"⟩
abbrev cX6_notes : ByteArray := prog_8_method_5_code
def yX6_notes : MethodName := ⟨RX6, "notes", "()V"⟩
abbrev cX6_undo : ByteArray := prog_8_method_6_code
def yX6_undo : MethodName := ⟨RX6, "undo", "()I"⟩
abbrev cX6_keep : ByteArray := prog_8_method_7_code
def yX6_keep : MethodName := ⟨RX6, "keep", "()I"⟩
abbrev cX6_back : ByteArray := prog_8_method_8_code
def yX6_back : MethodName := ⟨RX6, "back", "()I"⟩
abbrev cX6_isRule : ByteArray := prog_8_method_9_code
def yX6_isRule : MethodName := ⟨RX6, "isRule", "(I)Z"⟩
abbrev cX6_isState : ByteArray := prog_8_method_10_code
def yX6_isState : MethodName := ⟨RX6, "isState", "(I)Z"⟩
abbrev cX6_isLetter : ByteArray := prog_8_method_11_code
def yX6_isLetter : MethodName := ⟨RX6, "isLetter", "(I)Z"⟩
abbrev cX6_rule : ByteArray := prog_8_method_12_code
def yX6_rule : MethodName := ⟨RX6, "rule", "(II)I"⟩
abbrev cX6_target : ByteArray := prog_8_method_13_code
def yX6_target : MethodName := ⟨RX6, "target", "(II)I"⟩
abbrev cX6_stack : ByteArray := prog_8_method_14_code
def yX6_stack : MethodName := ⟨RX6, "stack", "(I)I"⟩
abbrev cX6_push : ByteArray := prog_8_method_15_code
def yX6_push : MethodName := ⟨RX6, "push", "(I)I"⟩
abbrev cX6_pop : ByteArray := prog_8_method_16_code
def yX6_pop : MethodName := ⟨RX6, "pop", "()I"⟩
abbrev cX6_fits : ByteArray := prog_8_method_17_code
def yX6_fits : MethodName := ⟨RX6, "fits", "(III)Z"⟩
abbrev cX6_steps : ByteArray := prog_8_method_18_code
def yX6_steps : MethodName := ⟨RX6, "steps", "(I)V"⟩
abbrev cX6_step : ByteArray := prog_8_method_19_code
def yX6_step : MethodName := ⟨RX6, "step", "(I)I"⟩
abbrev cX6_go : ByteArray := prog_8_method_20_code
def yX6_go : MethodName := ⟨RX6, "go", "(I)I"⟩
abbrev cX6_enters : ByteArray := prog_8_method_21_code
def yX6_enters : MethodName := ⟨RX6, "enters", "(IIIII)V"⟩
abbrev cX6_enter : ByteArray := prog_8_method_22_code
def yX6_enter : MethodName := ⟨RX6, "enter", "(IIIII)I"⟩
abbrev cX6_drop : ByteArray := prog_8_method_23_code
def yX6_drop : MethodName := ⟨RX6, "drop", "(I)I"⟩
abbrev cX6_weigh : ByteArray := prog_8_method_24_code
def yX6_weigh : MethodName := ⟨RX6, "weigh", "(II)I"⟩
abbrev cX6_mode : ByteArray := prog_8_method_25_code
def yX6_mode : MethodName := ⟨RX6, "mode", "(I)I"⟩
abbrev cX6_place : ByteArray := prog_8_method_26_code
def yX6_place : MethodName := ⟨RX6, "place", "(III)I"⟩
abbrev cX6_targetEdges : ByteArray := prog_8_method_27_code
def yX6_targetEdges : MethodName := ⟨RX6, "targetEdges", "(I)V"⟩
abbrev cX6_edges : ByteArray := prog_8_method_28_code
def yX6_edges : MethodName := ⟨RX6, "edges", "()I"⟩
abbrev cX6_begins : ByteArray := prog_8_method_29_code
def yX6_begins : MethodName := ⟨RX6, "begins", "()V"⟩
abbrev cX6_made : ByteArray := prog_8_method_30_code
def yX6_made : MethodName := ⟨RX6, "made", "(III)I"⟩
abbrev cX6_lesser : ByteArray := prog_8_method_31_code
def yX6_lesser : MethodName := ⟨RX6, "lesser", "(II)I"⟩
abbrev cX6_reads : ByteArray := prog_8_method_32_code
def yX6_reads : MethodName := ⟨RX6, "reads", "(II)V"⟩
abbrev cX6_standsAt : ByteArray := prog_8_method_33_code
def yX6_standsAt : MethodName := ⟨RX6, "standsAt", "(I)V"⟩
abbrev cX6_roundBy : ByteArray := prog_8_method_34_code
def yX6_roundBy : MethodName := ⟨RX6, "roundBy", "(III)Z"⟩
abbrev cX6_grows : ByteArray := prog_8_method_35_code
def yX6_grows : MethodName := ⟨RX6, "grows", "(II)V"⟩
abbrev cX6_isEnd : ByteArray := prog_8_method_36_code
def yX6_isEnd : MethodName := ⟨RX6, "isEnd", "(I)Z"⟩
abbrev cX6_least : ByteArray := prog_8_method_37_code
def yX6_least : MethodName := ⟨RX6, "least", "(I)I"⟩
abbrev cX6_priceWithout : ByteArray := prog_8_method_38_code
def yX6_priceWithout : MethodName := ⟨RX6, "priceWithout", "(I)I"⟩
abbrev cX6_price : ByteArray := prog_8_method_39_code
def yX6_price : MethodName := ⟨RX6, "price", "()I"⟩
abbrev cX6_edge : ByteArray := prog_8_method_40_code
def yX6_edge : MethodName := ⟨RX6, "edge", "(III)I"⟩
abbrev cX6_automaton : ByteArray := prog_8_method_41_code
def yX6_automaton : MethodName := ⟨RX6, "automaton", "(I)I"⟩
abbrev cX6_needed : ByteArray := prog_8_method_42_code
def yX6_needed : MethodName := ⟨RX6, "needed", "()I"⟩
abbrev cX6_dear : ByteArray := prog_8_method_43_code
def yX6_dear : MethodName := ⟨RX6, "dear", "(I)I"⟩
abbrev cX6_goesBy : ByteArray := prog_8_method_44_code
def yX6_goesBy : MethodName := ⟨RX6, "goesBy", "(I)V"⟩
abbrev cX6_standsOn : ByteArray := prog_8_method_45_code
def yX6_standsOn : MethodName := ⟨RX6, "standsOn", "(I)V"⟩
abbrev cX6_puts : ByteArray := prog_8_method_46_code
def yX6_puts : MethodName := ⟨RX6, "puts", "(I)V"⟩
abbrev cX6_behind : ByteArray := prog_8_method_47_code
def yX6_behind : MethodName := ⟨RX6, "behind", "(I)I"⟩
abbrev cX6_towerBegins : ByteArray := prog_8_method_48_code
def yX6_towerBegins : MethodName := ⟨RX6, "towerBegins", "()V"⟩
abbrev cX6_ruleOn : ByteArray := prog_8_method_49_code
def yX6_ruleOn : MethodName := ⟨RX6, "ruleOn", "(II)I"⟩
abbrev cX6_towerSteps : ByteArray := prog_8_method_50_code
def yX6_towerSteps : MethodName := ⟨RX6, "towerSteps", "(I)V"⟩
abbrev cX6_run : ByteArray := prog_8_method_51_code
def yX6_run : MethodName := ⟨RX6, "run", "(I)I"⟩
abbrev cX6_popsBy : ByteArray := prog_8_method_52_code
def yX6_popsBy : MethodName := ⟨RX6, "popsBy", "(III)I"⟩
abbrev cX6_isGone : ByteArray := prog_8_method_53_code
def yX6_isGone : MethodName := ⟨RX6, "isGone", "(II)Z"⟩
abbrev cX6_setPops : ByteArray := prog_8_method_54_code
def yX6_setPops : MethodName := ⟨RX6, "setPops", "()V"⟩
abbrev cX6_headsOfPile : ByteArray := prog_8_method_55_code
def yX6_headsOfPile : MethodName := ⟨RX6, "headsOfPile", "()V"⟩
abbrev cX6_headMany : ByteArray := prog_8_method_56_code
def yX6_headMany : MethodName := ⟨RX6, "headMany", "()I"⟩
abbrev cX6_headsOf : ByteArray := prog_8_method_57_code
def yX6_headsOf : MethodName := ⟨RX6, "headsOf", "(I)V"⟩
abbrev cX6_setHeads : ByteArray := prog_8_method_58_code
def yX6_setHeads : MethodName := ⟨RX6, "setHeads", "()V"⟩
abbrev cX6_heads : ByteArray := prog_8_method_59_code
def yX6_heads : MethodName := ⟨RX6, "heads", "(II)I"⟩
abbrev cX6_empty : ByteArray := prog_8_method_60_code
def yX6_empty : MethodName := ⟨RX6, "empty", "(I)I"⟩
abbrev cX6_stuck : ByteArray := prog_8_method_61_code
def yX6_stuck : MethodName := ⟨RX6, "stuck", "()I"⟩
abbrev cX6_fitting : ByteArray := prog_8_method_62_code
def yX6_fitting : MethodName := ⟨RX6, "fitting", "()I"⟩
abbrev cX6_fittingAt : ByteArray := prog_8_method_63_code
def yX6_fittingAt : MethodName := ⟨RX6, "fittingAt", "(I)I"⟩
abbrev cX6_walks : ByteArray := prog_8_method_64_code
def yX6_walks : MethodName := ⟨RX6, "walks", "(II)Z"⟩
abbrev cX6_walk : ByteArray := prog_8_method_65_code
def yX6_walk : MethodName := ⟨RX6, "walk", "(III)I"⟩
abbrev cX6_write : ByteArray := prog_8_method_66_code
def yX6_write : MethodName := ⟨RX6, "write", "(I)I"⟩
abbrev cX6_wipe : ByteArray := prog_8_method_67_code
def yX6_wipe : MethodName := ⟨RX6, "wipe", "()I"⟩
abbrev cX6_sign : ByteArray := prog_8_method_68_code
def yX6_sign : MethodName := ⟨RX6, "sign", "(I)Z"⟩
abbrev cX6_figure : ByteArray := prog_8_method_69_code
def yX6_figure : MethodName := ⟨RX6, "figure", "(II)Z"⟩
abbrev cX6_isWordAt : ByteArray := prog_8_method_70_code
def yX6_isWordAt : MethodName := ⟨RX6, "isWordAt", "()Z"⟩
abbrev cX6_word : ByteArray := prog_8_method_71_code
def yX6_word : MethodName := ⟨RX6, "word", "(I)Z"⟩
abbrev cX6_readsStates : ByteArray := prog_8_method_72_code
def yX6_readsStates : MethodName := ⟨RX6, "readsStates", "(ZZ)Z"⟩
abbrev cX6_readsRule : ByteArray := prog_8_method_73_code
def yX6_readsRule : MethodName := ⟨RX6, "readsRule", "(Z)Z"⟩
abbrev cX6_readsTarget : ByteArray := prog_8_method_74_code
def yX6_readsTarget : MethodName := ⟨RX6, "readsTarget", "(Z)Z"⟩
abbrev cX6_readsConfiguration : ByteArray := prog_8_method_75_code
def yX6_readsConfiguration : MethodName := ⟨RX6, "readsConfiguration", "(Z)Z"⟩
abbrev cX6_readsItem : ByteArray := prog_8_method_76_code
def yX6_readsItem : MethodName := ⟨RX6, "readsItem", "(ZZ)Z"⟩
abbrev cX6_goesThrough : ByteArray := prog_8_method_77_code
def yX6_goesThrough : MethodName := ⟨RX6, "goesThrough", "(Z)I"⟩
abbrev cX6_fault : ByteArray := prog_8_method_78_code
def yX6_fault : MethodName := ⟨RX6, "fault", "()I"⟩
abbrev cX6_lay : ByteArray := prog_8_method_79_code
def yX6_lay : MethodName := ⟨RX6, "lay", "()I"⟩
abbrev cX6_count : ByteArray := prog_8_method_80_code
def yX6_count : MethodName := ⟨RX6, "count", "(I)I"⟩
def RJ6 : String := "java/lang/Integer"
def TJ6 : u_T := fun k => match k with
  | _ => ("", "", "", false)
def tyJ6 : Nat → FieldType := fun k => match k with
  | _ => .int
abbrev wsJ60 : List Cond := u_ws RJ6 TJ6 0
theorem nmJ6 : ∀ a, a < 0 → ∀ b, b < 0 → a ≠ b → (TJ6 a).2.1 ≠ (TJ6 b).2.1 := by decide +kernel
theorem tyJ6_ok : ∀ k, k < 0 → parseFieldDescriptor (TJ6 k).2.2.1 = some (tyJ6 k) := by decide +kernel
abbrev cJ6_bitCount_0f7a4 : ByteArray := prog_9_method_49_code
def yJ6_bitCount_0f7a4 : MethodName := ⟨RJ6, "bitCount", "(I)I"⟩
def RJ9 : String := "java/lang/Math"
def TJ9 : u_T := fun k => match k with
  | _ => ("", "", "", false)
def tyJ9 : Nat → FieldType := fun k => match k with
  | _ => .int
abbrev wsJ90 : List Cond := u_ws RJ9 TJ9 0
theorem nmJ9 : ∀ a, a < 0 → ∀ b, b < 0 → a ≠ b → (TJ9 a).2.1 ≠ (TJ9 b).2.1 := by decide +kernel
theorem tyJ9_ok : ∀ k, k < 0 → parseFieldDescriptor (TJ9 k).2.2.1 = some (tyJ9 k) := by decide +kernel
abbrev cJ9_max_f86c9 : ByteArray := prog_10_method_66_code
def yJ9_max_f86c9 : MethodName := ⟨RJ9, "max", "(JJ)J"⟩
abbrev cJ9_min_f86c9 : ByteArray := prog_10_method_70_code
def yJ9_min_f86c9 : MethodName := ⟨RJ9, "min", "(JJ)J"⟩
def RJ0 : String := "java/lang/String"
def TJ0 : u_T := fun k => match k with
  | _ => ("", "", "", false)
def tyJ0 : Nat → FieldType := fun k => match k with
  | _ => .int
abbrev wsJ00 : List Cond := u_ws RJ0 TJ0 0
theorem nmJ0 : ∀ a, a < 0 → ∀ b, b < 0 → a ≠ b → (TJ0 a).2.1 ≠ (TJ0 b).2.1 := by decide +kernel
theorem tyJ0_ok : ∀ k, k < 0 → parseFieldDescriptor (TJ0 k).2.2.1 = some (tyJ0 k) := by decide +kernel
abbrev cJ0_length_8abf5 : ByteArray := prog_11_method_54_code
def yJ0_length_8abf5 : MethodName := ⟨RJ0, "length", "()I"⟩
abbrev cJ0_charAt_5068e : ByteArray := prog_11_method_56_code
def yJ0_charAt_5068e : MethodName := ⟨RJ0, "charAt", "(I)C"⟩
abbrev cJ0_coder_7d493 : ByteArray := prog_11_method_152_code
def yJ0_coder_7d493 : MethodName := ⟨RJ0, "coder", "()B"⟩
abbrev cJ0_isLatin1_aae02 : ByteArray := prog_11_method_154_code
def yJ0_isLatin1_aae02 : MethodName := ⟨RJ0, "isLatin1", "()Z"⟩
abbrev cJ0_checkIndex_df160 : ByteArray := prog_11_method_155_code
def yJ0_checkIndex_df160 : MethodName := ⟨RJ0, "checkIndex", "(II)V"⟩
def RJ1 : String := "java/lang/StringLatin1"
def TJ1 : u_T := fun k => match k with
  | _ => ("", "", "", false)
def tyJ1 : Nat → FieldType := fun k => match k with
  | _ => .int
abbrev wsJ10 : List Cond := u_ws RJ1 TJ1 0
theorem nmJ1 : ∀ a, a < 0 → ∀ b, b < 0 → a ≠ b → (TJ1 a).2.1 ≠ (TJ1 b).2.1 := by decide +kernel
theorem tyJ1_ok : ∀ k, k < 0 → parseFieldDescriptor (TJ1 k).2.2.1 = some (tyJ1 k) := by decide +kernel
abbrev cJ1_charAt_3b067 : ByteArray := prog_12_method_2_code
def yJ1_charAt_3b067 : MethodName := ⟨RJ1, "charAt", "([BI)C"⟩
def RJ2 : String := "java/lang/StringUTF16"
def TJ2 : u_T := fun k => match k with
  | _ => ("", "", "", false)
def tyJ2 : Nat → FieldType := fun k => match k with
  | _ => .int
abbrev wsJ20 : List Cond := u_ws RJ2 TJ2 0
theorem nmJ2 : ∀ a, a < 0 → ∀ b, b < 0 → a ≠ b → (TJ2 a).2.1 ≠ (TJ2 b).2.1 := by decide +kernel
theorem tyJ2_ok : ∀ k, k < 0 → parseFieldDescriptor (TJ2 k).2.2.1 = some (tyJ2 k) := by decide +kernel
abbrev cJ2_getChar_3b067 : ByteArray := prog_13_method_5_code
def yJ2_getChar_3b067 : MethodName := ⟨RJ2, "getChar", "([BI)C"⟩
abbrev cJ2_length_9d52b : ByteArray := prog_13_method_6_code
def yJ2_length_9d52b : MethodName := ⟨RJ2, "length", "([B)I"⟩
abbrev cJ2_charAt_3b067 : ByteArray := prog_13_method_83_code
def yJ2_charAt_3b067 : MethodName := ⟨RJ2, "charAt", "([BI)C"⟩
abbrev cJ2_checkIndex_2214a : ByteArray := prog_13_method_91_code
def yJ2_checkIndex_2214a : MethodName := ⟨RJ2, "checkIndex", "(I[B)V"⟩
def RJ10 : String := "java/lang/System"
def TJ10 : u_T := fun k => match k with
  | _ => ("", "", "", false)
def tyJ10 : Nat → FieldType := fun k => match k with
  | _ => .int
abbrev wsJ100 : List Cond := u_ws RJ10 TJ10 0
theorem nmJ10 : ∀ a, a < 0 → ∀ b, b < 0 → a ≠ b → (TJ10 a).2.1 ≠ (TJ10 b).2.1 := by decide +kernel
theorem tyJ10_ok : ∀ k, k < 0 → parseFieldDescriptor (TJ10 k).2.2.1 = some (tyJ10 k) := by decide +kernel
def RJ3 : String := "jdk/internal/util/Preconditions"
def TJ3 : u_T := fun k => match k with
  | _ => ("", "", "", false)
def tyJ3 : Nat → FieldType := fun k => match k with
  | _ => .int
abbrev wsJ30 : List Cond := u_ws RJ3 TJ3 0
theorem nmJ3 : ∀ a, a < 0 → ∀ b, b < 0 → a ≠ b → (TJ3 a).2.1 ≠ (TJ3 b).2.1 := by decide +kernel
theorem tyJ3_ok : ∀ k, k < 0 → parseFieldDescriptor (TJ3 k).2.2.1 = some (tyJ3 k) := by decide +kernel
abbrev cJ3_checkIndex_8e157 : ByteArray := prog_15_method_11_code
def yJ3_checkIndex_8e157 : MethodName := ⟨RJ3, "checkIndex", "(IILjava/util/function/BiFunction;)I"⟩
def RL : String := "CallTowersLaw"
abbrev cL_law : ByteArray := code
def yL_law : MethodName := ⟨RL, "law", "([I)Z"⟩
theorem dJ6_bitCount_0f7a4_0 : decode cJ6_bitCount_0f7a4 0 = .ok (.iload_n 0, 1) := by decide +kernel
theorem dJ6_bitCount_0f7a4_1 : decode cJ6_bitCount_0f7a4 1 = .ok (.iload_n 0, 1) := by decide +kernel
theorem dJ6_bitCount_0f7a4_2 : decode cJ6_bitCount_0f7a4 2 = .ok (.iconst 1, 1) := by decide +kernel
theorem dJ6_bitCount_0f7a4_3 : decode cJ6_bitCount_0f7a4 3 = .ok (.iushr, 1) := by decide +kernel
theorem dJ6_bitCount_0f7a4_4 : decode cJ6_bitCount_0f7a4 4 = .ok (.ldc_w 265, 3) := by decide +kernel
theorem dJ6_bitCount_0f7a4_7 : decode cJ6_bitCount_0f7a4 7 = .ok (.iand, 1) := by decide +kernel
theorem dJ6_bitCount_0f7a4_8 : decode cJ6_bitCount_0f7a4 8 = .ok (.isub, 1) := by decide +kernel
theorem dJ6_bitCount_0f7a4_9 : decode cJ6_bitCount_0f7a4 9 = .ok (.istore_n 0, 1) := by decide +kernel
theorem dJ6_bitCount_0f7a4_10 : decode cJ6_bitCount_0f7a4 10 = .ok (.iload_n 0, 1) := by decide +kernel
theorem dJ6_bitCount_0f7a4_11 : decode cJ6_bitCount_0f7a4 11 = .ok (.ldc_w 266, 3) := by decide +kernel
theorem dJ6_bitCount_0f7a4_14 : decode cJ6_bitCount_0f7a4 14 = .ok (.iand, 1) := by decide +kernel
theorem dJ6_bitCount_0f7a4_15 : decode cJ6_bitCount_0f7a4 15 = .ok (.iload_n 0, 1) := by decide +kernel
theorem dJ6_bitCount_0f7a4_16 : decode cJ6_bitCount_0f7a4 16 = .ok (.iconst 2, 1) := by decide +kernel
theorem dJ6_bitCount_0f7a4_17 : decode cJ6_bitCount_0f7a4 17 = .ok (.iushr, 1) := by decide +kernel
theorem dJ6_bitCount_0f7a4_18 : decode cJ6_bitCount_0f7a4 18 = .ok (.ldc_w 266, 3) := by decide +kernel
theorem dJ6_bitCount_0f7a4_21 : decode cJ6_bitCount_0f7a4 21 = .ok (.iand, 1) := by decide +kernel
theorem dJ6_bitCount_0f7a4_22 : decode cJ6_bitCount_0f7a4 22 = .ok (.iadd, 1) := by decide +kernel
theorem dJ6_bitCount_0f7a4_23 : decode cJ6_bitCount_0f7a4 23 = .ok (.istore_n 0, 1) := by decide +kernel
theorem dJ6_bitCount_0f7a4_24 : decode cJ6_bitCount_0f7a4 24 = .ok (.iload_n 0, 1) := by decide +kernel
theorem dJ6_bitCount_0f7a4_25 : decode cJ6_bitCount_0f7a4 25 = .ok (.iload_n 0, 1) := by decide +kernel
theorem dJ6_bitCount_0f7a4_26 : decode cJ6_bitCount_0f7a4 26 = .ok (.iconst 4, 1) := by decide +kernel
theorem dJ6_bitCount_0f7a4_27 : decode cJ6_bitCount_0f7a4 27 = .ok (.iushr, 1) := by decide +kernel
theorem dJ6_bitCount_0f7a4_28 : decode cJ6_bitCount_0f7a4 28 = .ok (.iadd, 1) := by decide +kernel
theorem dJ6_bitCount_0f7a4_29 : decode cJ6_bitCount_0f7a4 29 = .ok (.ldc_w 267, 3) := by decide +kernel
theorem dJ6_bitCount_0f7a4_32 : decode cJ6_bitCount_0f7a4 32 = .ok (.iand, 1) := by decide +kernel
theorem dJ6_bitCount_0f7a4_33 : decode cJ6_bitCount_0f7a4 33 = .ok (.istore_n 0, 1) := by decide +kernel
theorem dJ6_bitCount_0f7a4_34 : decode cJ6_bitCount_0f7a4 34 = .ok (.iload_n 0, 1) := by decide +kernel
theorem dJ6_bitCount_0f7a4_35 : decode cJ6_bitCount_0f7a4 35 = .ok (.iload_n 0, 1) := by decide +kernel
theorem dJ6_bitCount_0f7a4_36 : decode cJ6_bitCount_0f7a4 36 = .ok (.bipush 8, 2) := by decide +kernel
theorem dJ6_bitCount_0f7a4_38 : decode cJ6_bitCount_0f7a4 38 = .ok (.iushr, 1) := by decide +kernel
theorem dJ6_bitCount_0f7a4_39 : decode cJ6_bitCount_0f7a4 39 = .ok (.iadd, 1) := by decide +kernel
theorem dJ6_bitCount_0f7a4_40 : decode cJ6_bitCount_0f7a4 40 = .ok (.istore_n 0, 1) := by decide +kernel
theorem dJ6_bitCount_0f7a4_41 : decode cJ6_bitCount_0f7a4 41 = .ok (.iload_n 0, 1) := by decide +kernel
theorem dJ6_bitCount_0f7a4_42 : decode cJ6_bitCount_0f7a4 42 = .ok (.iload_n 0, 1) := by decide +kernel
theorem dJ6_bitCount_0f7a4_43 : decode cJ6_bitCount_0f7a4 43 = .ok (.bipush 16, 2) := by decide +kernel
theorem dJ6_bitCount_0f7a4_45 : decode cJ6_bitCount_0f7a4 45 = .ok (.iushr, 1) := by decide +kernel
theorem dJ6_bitCount_0f7a4_46 : decode cJ6_bitCount_0f7a4 46 = .ok (.iadd, 1) := by decide +kernel
theorem dJ6_bitCount_0f7a4_47 : decode cJ6_bitCount_0f7a4 47 = .ok (.istore_n 0, 1) := by decide +kernel
theorem dJ6_bitCount_0f7a4_48 : decode cJ6_bitCount_0f7a4 48 = .ok (.iload_n 0, 1) := by decide +kernel
theorem dJ6_bitCount_0f7a4_49 : decode cJ6_bitCount_0f7a4 49 = .ok (.bipush 63, 2) := by decide +kernel
theorem dJ6_bitCount_0f7a4_51 : decode cJ6_bitCount_0f7a4 51 = .ok (.iand, 1) := by decide +kernel
theorem dJ6_bitCount_0f7a4_52 : decode cJ6_bitCount_0f7a4 52 = .ok (.ireturn, 1) := by decide +kernel
theorem dJ9_max_f86c9_0 : decode cJ9_max_f86c9 0 = .ok (.lload_n 0, 1) := by decide +kernel
theorem dJ9_max_f86c9_1 : decode cJ9_max_f86c9 1 = .ok (.lload_n 2, 1) := by decide +kernel
theorem dJ9_max_f86c9_2 : decode cJ9_max_f86c9 2 = .ok (.lcmp, 1) := by decide +kernel
theorem dJ9_max_f86c9_3 : decode cJ9_max_f86c9 3 = .ok (.ifCond .lt 7, 3) := by decide +kernel
theorem dJ9_max_f86c9_6 : decode cJ9_max_f86c9 6 = .ok (.lload_n 0, 1) := by decide +kernel
theorem dJ9_max_f86c9_7 : decode cJ9_max_f86c9 7 = .ok (.goto 4, 3) := by decide +kernel
theorem dJ9_max_f86c9_10 : decode cJ9_max_f86c9 10 = .ok (.lload_n 2, 1) := by decide +kernel
theorem dJ9_max_f86c9_11 : decode cJ9_max_f86c9 11 = .ok (.lreturn, 1) := by decide +kernel
theorem dJ9_min_f86c9_0 : decode cJ9_min_f86c9 0 = .ok (.lload_n 0, 1) := by decide +kernel
theorem dJ9_min_f86c9_1 : decode cJ9_min_f86c9 1 = .ok (.lload_n 2, 1) := by decide +kernel
theorem dJ9_min_f86c9_2 : decode cJ9_min_f86c9 2 = .ok (.lcmp, 1) := by decide +kernel
theorem dJ9_min_f86c9_3 : decode cJ9_min_f86c9 3 = .ok (.ifCond .gt 7, 3) := by decide +kernel
theorem dJ9_min_f86c9_6 : decode cJ9_min_f86c9 6 = .ok (.lload_n 0, 1) := by decide +kernel
theorem dJ9_min_f86c9_7 : decode cJ9_min_f86c9 7 = .ok (.goto 4, 3) := by decide +kernel
theorem dJ9_min_f86c9_10 : decode cJ9_min_f86c9 10 = .ok (.lload_n 2, 1) := by decide +kernel
theorem dJ9_min_f86c9_11 : decode cJ9_min_f86c9 11 = .ok (.lreturn, 1) := by decide +kernel
theorem dJ0_length_8abf5_0 : decode cJ0_length_8abf5 0 = .ok (.aload_n 0, 1) := by decide +kernel
theorem dJ0_length_8abf5_1 : decode cJ0_length_8abf5 1 = .ok (.getfield 9, 3) := by decide +kernel
theorem dJ0_length_8abf5_4 : decode cJ0_length_8abf5 4 = .ok (.arraylength, 1) := by decide +kernel
theorem dJ0_length_8abf5_5 : decode cJ0_length_8abf5 5 = .ok (.aload_n 0, 1) := by decide +kernel
theorem dJ0_length_8abf5_6 : decode cJ0_length_8abf5 6 = .ok (.invokevirtual 335, 3) := by decide +kernel
theorem dJ0_length_8abf5_9 : decode cJ0_length_8abf5 9 = .ok (.ishr, 1) := by decide +kernel
theorem dJ0_length_8abf5_10 : decode cJ0_length_8abf5 10 = .ok (.ireturn, 1) := by decide +kernel
theorem dJ0_charAt_5068e_0 : decode cJ0_charAt_5068e 0 = .ok (.aload_n 0, 1) := by decide +kernel
theorem dJ0_charAt_5068e_1 : decode cJ0_charAt_5068e 1 = .ok (.invokevirtual 492, 3) := by decide +kernel
theorem dJ0_charAt_5068e_4 : decode cJ0_charAt_5068e 4 = .ok (.ifCond .eq 12, 3) := by decide +kernel
theorem dJ0_charAt_5068e_7 : decode cJ0_charAt_5068e 7 = .ok (.aload_n 0, 1) := by decide +kernel
theorem dJ0_charAt_5068e_8 : decode cJ0_charAt_5068e 8 = .ok (.getfield 9, 3) := by decide +kernel
theorem dJ0_charAt_5068e_11 : decode cJ0_charAt_5068e 11 = .ok (.iload_n 1, 1) := by decide +kernel
theorem dJ0_charAt_5068e_12 : decode cJ0_charAt_5068e 12 = .ok (.invokestatic 495, 3) := by decide +kernel
theorem dJ0_charAt_5068e_15 : decode cJ0_charAt_5068e 15 = .ok (.ireturn, 1) := by decide +kernel
theorem dJ0_charAt_5068e_16 : decode cJ0_charAt_5068e 16 = .ok (.aload_n 0, 1) := by decide +kernel
theorem dJ0_charAt_5068e_17 : decode cJ0_charAt_5068e 17 = .ok (.getfield 9, 3) := by decide +kernel
theorem dJ0_charAt_5068e_20 : decode cJ0_charAt_5068e 20 = .ok (.iload_n 1, 1) := by decide +kernel
theorem dJ0_charAt_5068e_21 : decode cJ0_charAt_5068e 21 = .ok (.invokestatic 498, 3) := by decide +kernel
theorem dJ0_charAt_5068e_24 : decode cJ0_charAt_5068e 24 = .ok (.ireturn, 1) := by decide +kernel
theorem dJ0_coder_7d493_0 : decode cJ0_coder_7d493 0 = .ok (.getstatic 38, 3) := by decide +kernel
theorem dJ0_coder_7d493_3 : decode cJ0_coder_7d493 3 = .ok (.ifCond .eq 10, 3) := by decide +kernel
theorem dJ0_coder_7d493_6 : decode cJ0_coder_7d493 6 = .ok (.aload_n 0, 1) := by decide +kernel
theorem dJ0_coder_7d493_7 : decode cJ0_coder_7d493 7 = .ok (.getfield 15, 3) := by decide +kernel
theorem dJ0_coder_7d493_10 : decode cJ0_coder_7d493 10 = .ok (.goto 4, 3) := by decide +kernel
theorem dJ0_coder_7d493_13 : decode cJ0_coder_7d493 13 = .ok (.iconst 1, 1) := by decide +kernel
theorem dJ0_coder_7d493_14 : decode cJ0_coder_7d493 14 = .ok (.ireturn, 1) := by decide +kernel
theorem dJ0_isLatin1_aae02_0 : decode cJ0_isLatin1_aae02 0 = .ok (.getstatic 38, 3) := by decide +kernel
theorem dJ0_isLatin1_aae02_3 : decode cJ0_isLatin1_aae02 3 = .ok (.ifCond .eq 14, 3) := by decide +kernel
theorem dJ0_isLatin1_aae02_6 : decode cJ0_isLatin1_aae02 6 = .ok (.aload_n 0, 1) := by decide +kernel
theorem dJ0_isLatin1_aae02_7 : decode cJ0_isLatin1_aae02 7 = .ok (.getfield 15, 3) := by decide +kernel
theorem dJ0_isLatin1_aae02_10 : decode cJ0_isLatin1_aae02 10 = .ok (.ifCond .ne 7, 3) := by decide +kernel
theorem dJ0_isLatin1_aae02_13 : decode cJ0_isLatin1_aae02 13 = .ok (.iconst 1, 1) := by decide +kernel
theorem dJ0_isLatin1_aae02_14 : decode cJ0_isLatin1_aae02 14 = .ok (.goto 4, 3) := by decide +kernel
theorem dJ0_isLatin1_aae02_17 : decode cJ0_isLatin1_aae02 17 = .ok (.iconst 0, 1) := by decide +kernel
theorem dJ0_isLatin1_aae02_18 : decode cJ0_isLatin1_aae02 18 = .ok (.ireturn, 1) := by decide +kernel
theorem dJ0_checkIndex_df160_0 : decode cJ0_checkIndex_df160 0 = .ok (.iload_n 0, 1) := by decide +kernel
theorem dJ0_checkIndex_df160_1 : decode cJ0_checkIndex_df160 1 = .ok (.iload_n 1, 1) := by decide +kernel
theorem dJ0_checkIndex_df160_2 : decode cJ0_checkIndex_df160 2 = .ok (.getstatic 1053, 3) := by decide +kernel
theorem dJ0_checkIndex_df160_5 : decode cJ0_checkIndex_df160 5 = .ok (.invokestatic 1059, 3) := by decide +kernel
theorem dJ0_checkIndex_df160_8 : decode cJ0_checkIndex_df160 8 = .ok (.pop, 1) := by decide +kernel
theorem dJ0_checkIndex_df160_9 : decode cJ0_checkIndex_df160 9 = .ok (.return_, 1) := by decide +kernel
theorem dJ1_charAt_3b067_0 : decode cJ1_charAt_3b067 0 = .ok (.iload_n 1, 1) := by decide +kernel
theorem dJ1_charAt_3b067_1 : decode cJ1_charAt_3b067 1 = .ok (.aload_n 0, 1) := by decide +kernel
theorem dJ1_charAt_3b067_2 : decode cJ1_charAt_3b067 2 = .ok (.arraylength, 1) := by decide +kernel
theorem dJ1_charAt_3b067_3 : decode cJ1_charAt_3b067 3 = .ok (.invokestatic 9, 3) := by decide +kernel
theorem dJ1_charAt_3b067_6 : decode cJ1_charAt_3b067 6 = .ok (.aload_n 0, 1) := by decide +kernel
theorem dJ1_charAt_3b067_7 : decode cJ1_charAt_3b067 7 = .ok (.iload_n 1, 1) := by decide +kernel
theorem dJ1_charAt_3b067_8 : decode cJ1_charAt_3b067 8 = .ok (.baload, 1) := by decide +kernel
theorem dJ1_charAt_3b067_9 : decode cJ1_charAt_3b067 9 = .ok (.sipush 255, 3) := by decide +kernel
theorem dJ1_charAt_3b067_12 : decode cJ1_charAt_3b067 12 = .ok (.iand, 1) := by decide +kernel
theorem dJ1_charAt_3b067_13 : decode cJ1_charAt_3b067 13 = .ok (.i2c, 1) := by decide +kernel
theorem dJ1_charAt_3b067_14 : decode cJ1_charAt_3b067 14 = .ok (.ireturn, 1) := by decide +kernel
theorem dJ2_getChar_3b067_0 : decode cJ2_getChar_3b067 0 = .ok (.getstatic 44, 3) := by decide +kernel
theorem dJ2_getChar_3b067_3 : decode cJ2_getChar_3b067 3 = .ok (.ifCond .ne 25, 3) := by decide +kernel
theorem dJ2_getChar_3b067_6 : decode cJ2_getChar_3b067 6 = .ok (.iload_n 1, 1) := by decide +kernel
theorem dJ2_getChar_3b067_7 : decode cJ2_getChar_3b067 7 = .ok (.ifCond .lt 11, 3) := by decide +kernel
theorem dJ2_getChar_3b067_10 : decode cJ2_getChar_3b067 10 = .ok (.iload_n 1, 1) := by decide +kernel
theorem dJ2_getChar_3b067_11 : decode cJ2_getChar_3b067 11 = .ok (.aload_n 0, 1) := by decide +kernel
theorem dJ2_getChar_3b067_12 : decode cJ2_getChar_3b067 12 = .ok (.invokestatic 48, 3) := by decide +kernel
theorem dJ2_getChar_3b067_15 : decode cJ2_getChar_3b067 15 = .ok (.if_icmp .lt 13, 3) := by decide +kernel
theorem dJ2_getChar_3b067_18 : decode cJ2_getChar_3b067 18 = .ok (.new 52, 3) := by decide +kernel
theorem dJ2_getChar_3b067_21 : decode cJ2_getChar_3b067 21 = .ok (.dup, 1) := by decide +kernel
theorem dJ2_getChar_3b067_22 : decode cJ2_getChar_3b067 22 = .ok (.ldc 54, 2) := by decide +kernel
theorem dJ2_getChar_3b067_24 : decode cJ2_getChar_3b067 24 = .ok (.invokespecial 56, 3) := by decide +kernel
theorem dJ2_getChar_3b067_27 : decode cJ2_getChar_3b067 27 = .ok (.athrow, 1) := by decide +kernel
theorem dJ2_getChar_3b067_28 : decode cJ2_getChar_3b067 28 = .ok (.iload_n 1, 1) := by decide +kernel
theorem dJ2_getChar_3b067_29 : decode cJ2_getChar_3b067 29 = .ok (.iconst 1, 1) := by decide +kernel
theorem dJ2_getChar_3b067_30 : decode cJ2_getChar_3b067 30 = .ok (.ishl, 1) := by decide +kernel
theorem dJ2_getChar_3b067_31 : decode cJ2_getChar_3b067 31 = .ok (.istore_n 1, 1) := by decide +kernel
theorem dJ2_getChar_3b067_32 : decode cJ2_getChar_3b067 32 = .ok (.aload_n 0, 1) := by decide +kernel
theorem dJ2_getChar_3b067_33 : decode cJ2_getChar_3b067 33 = .ok (.iload_n 1, 1) := by decide +kernel
theorem dJ2_getChar_3b067_34 : decode cJ2_getChar_3b067 34 = .ok (.iinc 1 1, 3) := by decide +kernel
theorem dJ2_getChar_3b067_37 : decode cJ2_getChar_3b067 37 = .ok (.baload, 1) := by decide +kernel
theorem dJ2_getChar_3b067_38 : decode cJ2_getChar_3b067 38 = .ok (.sipush 255, 3) := by decide +kernel
theorem dJ2_getChar_3b067_41 : decode cJ2_getChar_3b067 41 = .ok (.iand, 1) := by decide +kernel
theorem dJ2_getChar_3b067_42 : decode cJ2_getChar_3b067 42 = .ok (.getstatic 59, 3) := by decide +kernel
theorem dJ2_getChar_3b067_45 : decode cJ2_getChar_3b067 45 = .ok (.ishl, 1) := by decide +kernel
theorem dJ2_getChar_3b067_46 : decode cJ2_getChar_3b067 46 = .ok (.aload_n 0, 1) := by decide +kernel
theorem dJ2_getChar_3b067_47 : decode cJ2_getChar_3b067 47 = .ok (.iload_n 1, 1) := by decide +kernel
theorem dJ2_getChar_3b067_48 : decode cJ2_getChar_3b067 48 = .ok (.baload, 1) := by decide +kernel
theorem dJ2_getChar_3b067_49 : decode cJ2_getChar_3b067 49 = .ok (.sipush 255, 3) := by decide +kernel
theorem dJ2_getChar_3b067_52 : decode cJ2_getChar_3b067 52 = .ok (.iand, 1) := by decide +kernel
theorem dJ2_getChar_3b067_53 : decode cJ2_getChar_3b067 53 = .ok (.getstatic 63, 3) := by decide +kernel
theorem dJ2_getChar_3b067_56 : decode cJ2_getChar_3b067 56 = .ok (.ishl, 1) := by decide +kernel
theorem dJ2_getChar_3b067_57 : decode cJ2_getChar_3b067 57 = .ok (.ior, 1) := by decide +kernel
theorem dJ2_getChar_3b067_58 : decode cJ2_getChar_3b067 58 = .ok (.i2c, 1) := by decide +kernel
theorem dJ2_getChar_3b067_59 : decode cJ2_getChar_3b067 59 = .ok (.ireturn, 1) := by decide +kernel
theorem dJ2_length_9d52b_0 : decode cJ2_length_9d52b 0 = .ok (.aload_n 0, 1) := by decide +kernel
theorem dJ2_length_9d52b_1 : decode cJ2_length_9d52b 1 = .ok (.arraylength, 1) := by decide +kernel
theorem dJ2_length_9d52b_2 : decode cJ2_length_9d52b 2 = .ok (.iconst 1, 1) := by decide +kernel
theorem dJ2_length_9d52b_3 : decode cJ2_length_9d52b 3 = .ok (.ishr, 1) := by decide +kernel
theorem dJ2_length_9d52b_4 : decode cJ2_length_9d52b 4 = .ok (.ireturn, 1) := by decide +kernel
theorem dJ2_charAt_3b067_0 : decode cJ2_charAt_3b067 0 = .ok (.iload_n 1, 1) := by decide +kernel
theorem dJ2_charAt_3b067_1 : decode cJ2_charAt_3b067 1 = .ok (.aload_n 0, 1) := by decide +kernel
theorem dJ2_charAt_3b067_2 : decode cJ2_charAt_3b067 2 = .ok (.invokestatic 67, 3) := by decide +kernel
theorem dJ2_charAt_3b067_5 : decode cJ2_charAt_3b067 5 = .ok (.aload_n 0, 1) := by decide +kernel
theorem dJ2_charAt_3b067_6 : decode cJ2_charAt_3b067 6 = .ok (.iload_n 1, 1) := by decide +kernel
theorem dJ2_charAt_3b067_7 : decode cJ2_charAt_3b067 7 = .ok (.invokestatic 71, 3) := by decide +kernel
theorem dJ2_charAt_3b067_10 : decode cJ2_charAt_3b067 10 = .ok (.ireturn, 1) := by decide +kernel
theorem dJ2_checkIndex_2214a_0 : decode cJ2_checkIndex_2214a 0 = .ok (.iload_n 0, 1) := by decide +kernel
theorem dJ2_checkIndex_2214a_1 : decode cJ2_checkIndex_2214a 1 = .ok (.aload_n 1, 1) := by decide +kernel
theorem dJ2_checkIndex_2214a_2 : decode cJ2_checkIndex_2214a 2 = .ok (.invokestatic 48, 3) := by decide +kernel
theorem dJ2_checkIndex_2214a_5 : decode cJ2_checkIndex_2214a 5 = .ok (.invokestatic 414, 3) := by decide +kernel
theorem dJ2_checkIndex_2214a_8 : decode cJ2_checkIndex_2214a 8 = .ok (.return_, 1) := by decide +kernel
theorem dJ3_checkIndex_8e157_0 : decode cJ3_checkIndex_8e157 0 = .ok (.iload_n 0, 1) := by decide +kernel
theorem dJ3_checkIndex_8e157_1 : decode cJ3_checkIndex_8e157 1 = .ok (.ifCond .lt 8, 3) := by decide +kernel
theorem dJ3_checkIndex_8e157_4 : decode cJ3_checkIndex_8e157 4 = .ok (.iload_n 0, 1) := by decide +kernel
theorem dJ3_checkIndex_8e157_5 : decode cJ3_checkIndex_8e157 5 = .ok (.iload_n 1, 1) := by decide +kernel
theorem dJ3_checkIndex_8e157_6 : decode cJ3_checkIndex_8e157 6 = .ok (.if_icmp .lt 10, 3) := by decide +kernel
theorem dJ3_checkIndex_8e157_9 : decode cJ3_checkIndex_8e157 9 = .ok (.aload_n 2, 1) := by decide +kernel
theorem dJ3_checkIndex_8e157_10 : decode cJ3_checkIndex_8e157 10 = .ok (.iload_n 0, 1) := by decide +kernel
theorem dJ3_checkIndex_8e157_11 : decode cJ3_checkIndex_8e157 11 = .ok (.iload_n 1, 1) := by decide +kernel
theorem dJ3_checkIndex_8e157_12 : decode cJ3_checkIndex_8e157 12 = .ok (.invokestatic 95, 3) := by decide +kernel
theorem dJ3_checkIndex_8e157_15 : decode cJ3_checkIndex_8e157 15 = .ok (.athrow, 1) := by decide +kernel
theorem dJ3_checkIndex_8e157_16 : decode cJ3_checkIndex_8e157 16 = .ok (.iload_n 0, 1) := by decide +kernel
theorem dJ3_checkIndex_8e157_17 : decode cJ3_checkIndex_8e157 17 = .ok (.ireturn, 1) := by decide +kernel
abbrev vwCl : List vw_C := [(RX0, TX0, 11), (RX1, TX1, 3), (RX2, TX2, 7), (RX3, TX3, 4), (RX4, TX4, 16), (RX5, TX5, 16), (RX6, TX6, 38)]
