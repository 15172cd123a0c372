/-! ===== BEGIN words of one list among another's, by their places ===== -/
theorem goodIn_r {big : List Cond} (ws : List Cond) (ps : List Nat) (hp : ws = ps.filterMap (fun i => big[i]?)) (h : ws.all goodWord = true) : GoodIn big ws := by
  intro w hw
  have h1 := List.all_eq_true.mp h w hw
  rw [hp] at hw
  obtain ⟨i, -, hi⟩ := List.mem_filterMap.mp hw
  have hm : w ∈ big := by first | exact List.mem_of_getElem? hi | exact List.getElem?_mem hi
  exact ⟨hm, good_of_word h1⟩
theorem goodIn_app {big a b : List Cond} (ha : GoodIn big a) (hb : GoodIn big b) : GoodIn big (a ++ b) := fun w h => (List.mem_append.mp h).elim (ha w) (hb w)
theorem goodIn_ca {big a b : List Cond} {c : Cond} (ha : GoodIn big (c :: a)) (hb : GoodIn big b) : GoodIn big (c :: (a ++ b)) := fun w h => (List.mem_cons.mp h).elim (fun e => ha w (List.mem_cons.mpr (Or.inl e))) (fun h => (List.mem_append.mp h).elim (fun h => ha w (List.mem_cons.mpr (Or.inr h))) (hb w))
theorem goodIn_sub {big ws : List Cond} (hm : ∀ w ∈ ws, w ∈ big) (h : ws.all goodWord = true) : GoodIn big ws := fun w hw => ⟨hm w hw, good_of_word (List.all_eq_true.mp h w hw)⟩
/-! ===== END ===== -/

/-! ===== BEGIN printed: names, fields, word lists, decode rows ===== -/
def RX0 : String := "TowerTell$Sheet"
def TX0 : u_T := fun k => match k with
  | 0 => ("TowerTell$Sheet", "lane", "I", false)
  | 1 => ("TowerTell$Sheet", "length", "I", false)
  | _ => ("TowerTell$Sheet", "cells", "[I", true)
def tyX0 : Nat → FieldType := fun k => match k with
  | 0 => .int
  | 1 => .int
  | _ => .array .int
abbrev wsX00 : List Cond := u_ws RX0 TX0 3
theorem nmX0 : ∀ a, a < 3 → ∀ b, b < 3 → a ≠ b → (TX0 a).2.1 ≠ (TX0 b).2.1 := by decide +kernel
theorem tyX0_ok : ∀ k, k < 3 → parseFieldDescriptor (TX0 k).2.2.1 = some (tyX0 k) := by decide +kernel
abbrev cX0_init : ByteArray := prog_2_method_1_code
def yX0_init : MethodName := ⟨RX0, "<init>", "()V"⟩
abbrev cX0_isBare : ByteArray := prog_2_method_2_code
def yX0_isBare : MethodName := ⟨RX0, "isBare", "()Z"⟩
abbrev cX0_drop : ByteArray := prog_2_method_3_code
def yX0_drop : MethodName := ⟨RX0, "drop", "()V"⟩
abbrev cX0_begin : ByteArray := prog_2_method_4_code
def yX0_begin : MethodName := ⟨RX0, "begin", "(II)V"⟩
abbrev cX0_holds : ByteArray := prog_2_method_5_code
def yX0_holds : MethodName := ⟨RX0, "holds", "(II)Z"⟩
abbrev cX0_faultOf : ByteArray := prog_2_method_6_code
def yX0_faultOf : MethodName := ⟨RX0, "faultOf", "(III)I"⟩
abbrev cX0_write : ByteArray := prog_2_method_7_code
def yX0_write : MethodName := ⟨RX0, "write", "(II)V"⟩
def RX1 : String := "TowerTell$TextReader"
def TX1 : u_T := fun k => match k with
  | 0 => ("TowerTell$TextReader", "codes", "[I", false)
  | 1 => ("TowerTell$TextReader", "from", "I", false)
  | 2 => ("TowerTell$TextReader", "length", "I", false)
  | _ => ("TowerTell$TextReader", "at", "I", false)
def tyX1 : Nat → FieldType := fun k => match k with
  | 0 => .array .int
  | 1 => .int
  | 2 => .int
  | _ => .int
abbrev wsX10 : List Cond := u_ws RX1 TX1 4
theorem nmX1 : ∀ a, a < 4 → ∀ b, b < 4 → a ≠ b → (TX1 a).2.1 ≠ (TX1 b).2.1 := by decide +kernel
theorem tyX1_ok : ∀ k, k < 4 → parseFieldDescriptor (TX1 k).2.2.1 = some (tyX1 k) := by decide +kernel
abbrev cX1_init : ByteArray := prog_3_method_1_code
def yX1_init : MethodName := ⟨RX1, "<init>", "()V"⟩
abbrev cX1_firstFault : ByteArray := prog_3_method_2_code
def yX1_firstFault : MethodName := ⟨RX1, "firstFault", "(LTowerTell$Sheet;IILTowerTell$Tower;)I"⟩
abbrev cX1_readsText : ByteArray := prog_3_method_3_code
def yX1_readsText : MethodName := ⟨RX1, "readsText", "(LTowerTell$Tower;)Z"⟩
abbrev cX1_readsDeed : ByteArray := prog_3_method_4_code
def yX1_readsDeed : MethodName := ⟨RX1, "readsDeed", "(LTowerTell$Tower;)Z"⟩
abbrev cX1_readsPerson : ByteArray := prog_3_method_5_code
def yX1_readsPerson : MethodName := ⟨RX1, "readsPerson", "(LTowerTell$Tower;)Z"⟩
abbrev cX1_takenKind : ByteArray := prog_3_method_6_code
def yX1_takenKind : MethodName := ⟨RX1, "takenKind", "()I"⟩
abbrev cX1_nextIs : ByteArray := prog_3_method_7_code
def yX1_nextIs : MethodName := ⟨RX1, "nextIs", "(C)Z"⟩
abbrev cX1_taken : ByteArray := prog_3_method_8_code
def yX1_taken : MethodName := ⟨RX1, "taken", "(CC)I"⟩
def RX2 : String := "TowerTell$Tower"
def TX2 : u_T := fun k => match k with
  | 0 => ("TowerTell$Tower", "deeds", "I", false)
  | 1 => ("TowerTell$Tower", "people", "I", false)
  | 2 => ("TowerTell$Tower", "catches", "I", false)
  | 3 => ("TowerTell$Tower", "weightOf", "[I", true)
  | 4 => ("TowerTell$Tower", "kindOf", "[I", true)
  | 5 => ("TowerTell$Tower", "doneBy", "[I", true)
  | 6 => ("TowerTell$Tower", "knownTo", "[I", true)
  | _ => ("TowerTell$Tower", "toldBy", "[I", true)
def tyX2 : Nat → FieldType := fun k => match k with
  | 0 => .int
  | 1 => .int
  | 2 => .int
  | 3 => .array .int
  | 4 => .array .int
  | 5 => .array .int
  | 6 => .array .int
  | _ => .array .int
abbrev wsX20 : List Cond := u_ws RX2 TX2 8
theorem nmX2 : ∀ a, a < 8 → ∀ b, b < 8 → a ≠ b → (TX2 a).2.1 ≠ (TX2 b).2.1 := by decide +kernel
theorem tyX2_ok : ∀ k, k < 8 → parseFieldDescriptor (TX2 k).2.2.1 = some (tyX2 k) := by decide +kernel
abbrev cX2_init : ByteArray := prog_4_method_1_code
def yX2_init : MethodName := ⟨RX2, "<init>", "()V"⟩
abbrev cX2_clear : ByteArray := prog_4_method_2_code
def yX2_clear : MethodName := ⟨RX2, "clear", "()V"⟩
abbrev cX2_addDeed : ByteArray := prog_4_method_3_code
def yX2_addDeed : MethodName := ⟨RX2, "addDeed", "(I)V"⟩
abbrev cX2_addPerson : ByteArray := prog_4_method_4_code
def yX2_addPerson : MethodName := ⟨RX2, "addPerson", "(III)V"⟩
abbrev cX2_become : ByteArray := prog_4_method_5_code
def yX2_become : MethodName := ⟨RX2, "become", "(LTowerTell$Tower;)V"⟩
abbrev cX2_isDeed : ByteArray := prog_4_method_6_code
def yX2_isDeed : MethodName := ⟨RX2, "isDeed", "(I)Z"⟩
abbrev cX2_isPerson : ByteArray := prog_4_method_7_code
def yX2_isPerson : MethodName := ⟨RX2, "isPerson", "(I)Z"⟩
abbrev cX2_truthsOf : ByteArray := prog_4_method_8_code
def yX2_truthsOf : MethodName := ⟨RX2, "truthsOf", "(I)I"⟩
abbrev cX2_hasTold : ByteArray := prog_4_method_9_code
def yX2_hasTold : MethodName := ⟨RX2, "hasTold", "(II)Z"⟩
abbrev cX2_rise : ByteArray := prog_4_method_10_code
def yX2_rise : MethodName := ⟨RX2, "rise", "(II)I"⟩
abbrev cX2_floorBy : ByteArray := prog_4_method_11_code
def yX2_floorBy : MethodName := ⟨RX2, "floorBy", "(II)I"⟩
abbrev cX2_floorOf : ByteArray := prog_4_method_12_code
def yX2_floorOf : MethodName := ⟨RX2, "floorOf", "(I)I"⟩
abbrev cX2_highestFloor : ByteArray := prog_4_method_13_code
def yX2_highestFloor : MethodName := ⟨RX2, "highestFloor", "()I"⟩
abbrev cX2_wouldBeCaught : ByteArray := prog_4_method_14_code
def yX2_wouldBeCaught : MethodName := ⟨RX2, "wouldBeCaught", "(II)Z"⟩
abbrev cX2_hear : ByteArray := prog_4_method_15_code
def yX2_hear : MethodName := ⟨RX2, "hear", "(II)V"⟩
def RX3 : String := "TowerTell"
def TX3 : u_T := fun k => match k with
  | 0 => ("TowerTell", "sheets", "[LTowerTell$Sheet;", true)
  | 1 => ("TowerTell", "reader", "LTowerTell$TextReader;", true)
  | 2 => ("TowerTell", "readPerson", "[I", true)
  | 3 => ("TowerTell", "readFloor", "[I", true)
  | 4 => ("TowerTell", "readings", "I", false)
  | 5 => ("TowerTell", "now", "LTowerTell$Tower;", false)
  | 6 => ("TowerTell", "trial", "LTowerTell$Tower;", false)
  | 7 => ("TowerTell", "trail", "I", false)
  | _ => ("TowerTell", "latestFault", "I", false)
def tyX3 : Nat → FieldType := fun k => match k with
  | 0 => .array (.object "TowerTell$Sheet")
  | 1 => .object "TowerTell$TextReader"
  | 2 => .array .int
  | 3 => .array .int
  | 4 => .int
  | 5 => .object "TowerTell$Tower"
  | 6 => .object "TowerTell$Tower"
  | 7 => .int
  | _ => .int
abbrev wsX30 : List Cond := u_ws RX3 TX3 9
theorem nmX3 : ∀ a, a < 9 → ∀ b, b < 9 → a ≠ b → (TX3 a).2.1 ≠ (TX3 b).2.1 := by decide +kernel
theorem tyX3_ok : ∀ k, k < 9 → parseFieldDescriptor (TX3 k).2.2.1 = some (tyX3 k) := by decide +kernel
abbrev cX3_init : ByteArray := prog_1_method_1_code
def yX3_init : MethodName := ⟨RX3, "<init>", "()V"⟩
abbrev cX3_tower : ByteArray := prog_1_method_2_code
def yX3_tower : MethodName := ⟨RX3, "tower", "(IIII)I"⟩
abbrev cX3_ofPerson : ByteArray := prog_1_method_3_code
def yX3_ofPerson : MethodName := ⟨RX3, "ofPerson", "(II)I"⟩
abbrev cX3_weight : ByteArray := prog_1_method_4_code
def yX3_weight : MethodName := ⟨RX3, "weight", "(I)I"⟩
abbrev cX3_weigh : ByteArray := prog_1_method_5_code
def yX3_weigh : MethodName := ⟨RX3, "weigh", "(II)I"⟩
abbrev cX3_storeys : ByteArray := prog_1_method_6_code
def yX3_storeys : MethodName := ⟨RX3, "storeys", "(II)I"⟩
abbrev cX3_say : ByteArray := prog_1_method_7_code
def yX3_say : MethodName := ⟨RX3, "say", "(II)I"⟩
abbrev cX3_hush : ByteArray := prog_1_method_8_code
def yX3_hush : MethodName := ⟨RX3, "hush", "(I)I"⟩
abbrev cX3_landing : ByteArray := prog_1_method_9_code
def yX3_landing : MethodName := ⟨RX3, "landing", "(I)I"⟩
abbrev cX3_days : ByteArray := prog_1_method_10_code
def yX3_days : MethodName := ⟨RX3, "days", "(IIIII)I"⟩
abbrev cX3_way : ByteArray := prog_1_method_11_code
def yX3_way : MethodName := ⟨RX3, "way", "(II)I"⟩
abbrev cX3_kept : ByteArray := prog_1_method_12_code
def yX3_kept : MethodName := ⟨RX3, "kept", "(II)I"⟩
abbrev cX3_roof : ByteArray := prog_1_method_13_code
def yX3_roof : MethodName := ⟨RX3, "roof", "(I)I"⟩
abbrev cX3_safe : ByteArray := prog_1_method_14_code
def yX3_safe : MethodName := ⟨RX3, "safe", "(I)I"⟩
abbrev cX3_reading : ByteArray := prog_1_method_15_code
def yX3_reading : MethodName := ⟨RX3, "reading", "(II)I"⟩
abbrev cX3_back : ByteArray := prog_1_method_16_code
def yX3_back : MethodName := ⟨RX3, "back", "(I)I"⟩
abbrev cX3_weights : ByteArray := prog_1_method_17_code
def yX3_weights : MethodName := ⟨RX3, "weights", "(IIIII)I"⟩
abbrev cX3_kinds : ByteArray := prog_1_method_18_code
def yX3_kinds : MethodName := ⟨RX3, "kinds", "(IIIII)I"⟩
abbrev cX3_knew : ByteArray := prog_1_method_19_code
def yX3_knew : MethodName := ⟨RX3, "knew", "(IIIII)I"⟩
abbrev cX3_odds : ByteArray := prog_1_method_20_code
def yX3_odds : MethodName := ⟨RX3, "odds", "(III)J"⟩
abbrev cX3_sheet : ByteArray := prog_1_method_21_code
def yX3_sheet : MethodName := ⟨RX3, "sheet", "(III)I"⟩
abbrev cX3_lose : ByteArray := prog_1_method_22_code
def yX3_lose : MethodName := ⟨RX3, "lose", "(I)I"⟩
abbrev cX3_put : ByteArray := prog_1_method_23_code
def yX3_put : MethodName := ⟨RX3, "put", "(III)I"⟩
abbrev cX3_cell : ByteArray := prog_1_method_24_code
def yX3_cell : MethodName := ⟨RX3, "cell", "(III)J"⟩
abbrev cX3_copy : ByteArray := prog_1_method_25_code
def yX3_copy : MethodName := ⟨RX3, "copy", "(IIIII)I"⟩
abbrev cX3_tell : ByteArray := prog_1_method_26_code
def yX3_tell : MethodName := ⟨RX3, "tell", "(I)I"⟩
abbrev cX3_greet : ByteArray := prog_1_method_27_code
def yX3_greet : MethodName := ⟨RX3, "greet", "(I)I"⟩
abbrev cX3_as : ByteArray := prog_1_method_28_code
def yX3_as : MethodName := ⟨RX3, "as", "(II)I"⟩
abbrev cX3_trace : ByteArray := prog_1_method_29_code
def yX3_trace : MethodName := ⟨RX3, "trace", "()I"⟩
abbrev cX3_fault : ByteArray := prog_1_method_30_code
def yX3_fault : MethodName := ⟨RX3, "fault", "()I"⟩
abbrev cX3_many : ByteArray := prog_1_method_31_code
def yX3_many : MethodName := ⟨RX3, "many", "(I)I"⟩
abbrev cX3_isSheet : ByteArray := prog_1_method_32_code
def yX3_isSheet : MethodName := ⟨RX3, "isSheet", "(I)Z"⟩
abbrev cX3_isLane : ByteArray := prog_1_method_33_code
def yX3_isLane : MethodName := ⟨RX3, "isLane", "(I)Z"⟩
abbrev cX3_isDaysLength : ByteArray := prog_1_method_34_code
def yX3_isDaysLength : MethodName := ⟨RX3, "isDaysLength", "(I)Z"⟩
abbrev cX3_isQuestion : ByteArray := prog_1_method_35_code
def yX3_isQuestion : MethodName := ⟨RX3, "isQuestion", "(I)Z"⟩
abbrev cX3_isWithin : ByteArray := prog_1_method_36_code
def yX3_isWithin : MethodName := ⟨RX3, "isWithin", "(II)Z"⟩
abbrev cX3_faulted : ByteArray := prog_1_method_37_code
def yX3_faulted : MethodName := ⟨RX3, "faulted", "(I)I"⟩
abbrev cX3_stopOfGuess : ByteArray := prog_1_method_38_code
def yX3_stopOfGuess : MethodName := ⟨RX3, "stopOfGuess", "(ZIIII)I"⟩
abbrev cX3_stopOfDays : ByteArray := prog_1_method_39_code
def yX3_stopOfDays : MethodName := ⟨RX3, "stopOfDays", "(LTowerTell$Sheet;III)I"⟩
abbrev cX3_liveDays : ByteArray := prog_1_method_40_code
def yX3_liveDays : MethodName := ⟨RX3, "liveDays", "(LTowerTell$Sheet;II)I"⟩
abbrev cX3_answerOfTrial : ByteArray := prog_1_method_41_code
def yX3_answerOfTrial : MethodName := ⟨RX3, "answerOfTrial", "(I)I"⟩
abbrev cX3_readingsAreSo : ByteArray := prog_1_method_42_code
def yX3_readingsAreSo : MethodName := ⟨RX3, "readingsAreSo", "()Z"⟩
abbrev cX3_leaveTrace : ByteArray := prog_1_method_43_code
def yX3_leaveTrace : MethodName := ⟨RX3, "leaveTrace", "(I)V"⟩
abbrev cX3_plainTelling : ByteArray := prog_1_method_44_code
def yX3_plainTelling : MethodName := ⟨RX3, "plainTelling", "(I)I"⟩
abbrev cX3_proudTelling : ByteArray := prog_1_method_45_code
def yX3_proudTelling : MethodName := ⟨RX3, "proudTelling", "(I)I"⟩
abbrev cX3_abjectTelling : ByteArray := prog_1_method_46_code
def yX3_abjectTelling : MethodName := ⟨RX3, "abjectTelling", "(I)I"⟩
abbrev cX3_lentGreeting : ByteArray := prog_1_method_47_code
def yX3_lentGreeting : MethodName := ⟨RX3, "lentGreeting", "(I)I"⟩
abbrev cX3_abjectGreeting : ByteArray := prog_1_method_48_code
def yX3_abjectGreeting : MethodName := ⟨RX3, "abjectGreeting", "()I"⟩
def RX4 : String := "TowerTellModel"
def TX4 : u_T := fun k => match k with
  | 0 => ("TowerTellModel", "fault", "I", false)
  | 1 => ("TowerTellModel", "trace", "I", false)
  | 2 => ("TowerTellModel", "sorts", "[I", true)
  | 3 => ("TowerTellModel", "sheetLong", "[I", true)
  | 4 => ("TowerTellModel", "cells", "[I", true)
  | 5 => ("TowerTellModel", "deeds", "I", false)
  | 6 => ("TowerTellModel", "people", "I", false)
  | 7 => ("TowerTellModel", "weightOf", "[I", true)
  | 8 => ("TowerTellModel", "kind", "[I", true)
  | 9 => ("TowerTellModel", "done", "[I", true)
  | 10 => ("TowerTellModel", "knows", "[I", true)
  | 11 => ("TowerTellModel", "told", "[I", true)
  | 12 => ("TowerTellModel", "at", "I", false)
  | 13 => ("TowerTellModel", "readDeeds", "I", false)
  | 14 => ("TowerTellModel", "readMany", "I", false)
  | 15 => ("TowerTellModel", "readWeight", "[I", true)
  | 16 => ("TowerTellModel", "read", "[I", true)
  | 17 => ("TowerTellModel", "then", "[I", true)
  | 18 => ("TowerTellModel", "pairs", "I", false)
  | 19 => ("TowerTellModel", "who", "[I", true)
  | 20 => ("TowerTellModel", "what", "[I", true)
  | 21 => ("TowerTellModel", "caught", "I", false)
  | 22 => ("TowerTellModel", "readings", "I", false)
  | 23 => ("TowerTellModel", "readWho", "[I", true)
  | _ => ("TowerTellModel", "readFloor", "[I", true)
def tyX4 : Nat → FieldType := fun k => match k with
  | 0 => .int
  | 1 => .int
  | 2 => .array .int
  | 3 => .array .int
  | 4 => .array .int
  | 5 => .int
  | 6 => .int
  | 7 => .array .int
  | 8 => .array .int
  | 9 => .array .int
  | 10 => .array .int
  | 11 => .array .int
  | 12 => .int
  | 13 => .int
  | 14 => .int
  | 15 => .array .int
  | 16 => .array .int
  | 17 => .array .int
  | 18 => .int
  | 19 => .array .int
  | 20 => .array .int
  | 21 => .int
  | 22 => .int
  | 23 => .array .int
  | _ => .array .int
abbrev wsX40 : List Cond := u_ws RX4 TX4 25
theorem nmX4 : ∀ a, a < 25 → ∀ b, b < 25 → a ≠ b → (TX4 a).2.1 ≠ (TX4 b).2.1 := by decide +kernel
theorem tyX4_ok : ∀ k, k < 25 → parseFieldDescriptor (TX4 k).2.2.1 = some (tyX4 k) := by decide +kernel
abbrev cX4_init : ByteArray := prog_6_method_1_code
def yX4_init : MethodName := ⟨RX4, "<init>", "()V"⟩
abbrev cX4_fails : ByteArray := prog_6_method_3_code
def yX4_fails : MethodName := ⟨RX4, "fails", "(I)I"⟩
abbrev cX4_lost : ByteArray := prog_6_method_4_code
def yX4_lost : MethodName := ⟨RX4, "lost", "(I)J"⟩
abbrev cX4_within : ByteArray := prog_6_method_5_code
def yX4_within : MethodName := ⟨RX4, "within", "(III)Z"⟩
abbrev cX4_isSheet : ByteArray := prog_6_method_6_code
def yX4_isSheet : MethodName := ⟨RX4, "isSheet", "(I)Z"⟩
abbrev cX4_isSort : ByteArray := prog_6_method_7_code
def yX4_isSort : MethodName := ⟨RX4, "isSort", "(I)Z"⟩
abbrev cX4_against : ByteArray := prog_6_method_8_code
def yX4_against : MethodName := ⟨RX4, "against", "(IIII)I"⟩
abbrev cX4_isDeed : ByteArray := prog_6_method_9_code
def yX4_isDeed : MethodName := ⟨RX4, "isDeed", "(I)Z"⟩
abbrev cX4_isPerson : ByteArray := prog_6_method_10_code
def yX4_isPerson : MethodName := ⟨RX4, "isPerson", "(I)Z"⟩
abbrev cX4_digit : ByteArray := prog_6_method_11_code
def yX4_digit : MethodName := ⟨RX4, "digit", "(III)I"⟩
abbrev cX4_isSign : ByteArray := prog_6_method_12_code
def yX4_isSign : MethodName := ⟨RX4, "isSign", "(II)Z"⟩
abbrev cX4_tower : ByteArray := prog_6_method_13_code
def yX4_tower : MethodName := ⟨RX4, "tower", "(IIII)I"⟩
abbrev cX4_takeTower : ByteArray := prog_6_method_14_code
def yX4_takeTower : MethodName := ⟨RX4, "takeTower", "()V"⟩
abbrev cX4_readTower : ByteArray := prog_6_method_15_code
def yX4_readTower : MethodName := ⟨RX4, "readTower", "(I)Z"⟩
abbrev cX4_readDeed : ByteArray := prog_6_method_16_code
def yX4_readDeed : MethodName := ⟨RX4, "readDeed", "(I)Z"⟩
abbrev cX4_readPerson : ByteArray := prog_6_method_17_code
def yX4_readPerson : MethodName := ⟨RX4, "readPerson", "(I)Z"⟩
abbrev cX4_storeysOf : ByteArray := prog_6_method_18_code
def yX4_storeysOf : MethodName := ⟨RX4, "storeysOf", "(II)I"⟩
abbrev cX4_floorBy : ByteArray := prog_6_method_19_code
def yX4_floorBy : MethodName := ⟨RX4, "floorBy", "(II)I"⟩
abbrev cX4_ofPerson : ByteArray := prog_6_method_20_code
def yX4_ofPerson : MethodName := ⟨RX4, "ofPerson", "(II)I"⟩
abbrev cX4_weight : ByteArray := prog_6_method_21_code
def yX4_weight : MethodName := ⟨RX4, "weight", "(I)I"⟩
abbrev cX4_weigh : ByteArray := prog_6_method_22_code
def yX4_weigh : MethodName := ⟨RX4, "weigh", "(II)I"⟩
abbrev cX4_storeys : ByteArray := prog_6_method_23_code
def yX4_storeys : MethodName := ⟨RX4, "storeys", "(II)I"⟩
abbrev cX4_asNow : ByteArray := prog_6_method_24_code
def yX4_asNow : MethodName := ⟨RX4, "asNow", "()V"⟩
abbrev cX4_isKnown : ByteArray := prog_6_method_25_code
def yX4_isKnown : MethodName := ⟨RX4, "isKnown", "(I)Z"⟩
abbrev cX4_tells : ByteArray := prog_6_method_26_code
def yX4_tells : MethodName := ⟨RX4, "tells", "(II)Z"⟩
abbrev cX4_say : ByteArray := prog_6_method_27_code
def yX4_say : MethodName := ⟨RX4, "say", "(II)I"⟩
abbrev cX4_hush : ByteArray := prog_6_method_28_code
def yX4_hush : MethodName := ⟨RX4, "hush", "(I)I"⟩
abbrev cX4_landing : ByteArray := prog_6_method_29_code
def yX4_landing : MethodName := ⟨RX4, "landing", "(I)I"⟩
abbrev cX4_isRow : ByteArray := prog_6_method_30_code
def yX4_isRow : MethodName := ⟨RX4, "isRow", "(II)Z"⟩
abbrev cX4_layDays : ByteArray := prog_6_method_31_code
def yX4_layDays : MethodName := ⟨RX4, "layDays", "(IIII)I"⟩
abbrev cX4_goDays : ByteArray := prog_6_method_32_code
def yX4_goDays : MethodName := ⟨RX4, "goDays", "()I"⟩
abbrev cX4_days : ByteArray := prog_6_method_33_code
def yX4_days : MethodName := ⟨RX4, "days", "(IIIII)I"⟩
abbrev cX4_tellDays : ByteArray := prog_6_method_34_code
def yX4_tellDays : MethodName := ⟨RX4, "tellDays", "(I)I"⟩
abbrev cX4_size : ByteArray := prog_6_method_35_code
def yX4_size : MethodName := ⟨RX4, "size", "(I)I"⟩
abbrev cX4_isTruths : ByteArray := prog_6_method_36_code
def yX4_isTruths : MethodName := ⟨RX4, "isTruths", "(II)Z"⟩
abbrev cX4_way : ByteArray := prog_6_method_37_code
def yX4_way : MethodName := ⟨RX4, "way", "(II)I"⟩
abbrev cX4_kept : ByteArray := prog_6_method_38_code
def yX4_kept : MethodName := ⟨RX4, "kept", "(II)I"⟩
abbrev cX4_roof : ByteArray := prog_6_method_39_code
def yX4_roof : MethodName := ⟨RX4, "roof", "(I)I"⟩
abbrev cX4_safe : ByteArray := prog_6_method_40_code
def yX4_safe : MethodName := ⟨RX4, "safe", "(I)I"⟩
abbrev cX4_reading : ByteArray := prog_6_method_41_code
def yX4_reading : MethodName := ⟨RX4, "reading", "(II)I"⟩
abbrev cX4_back : ByteArray := prog_6_method_42_code
def yX4_back : MethodName := ⟨RX4, "back", "(I)I"⟩
abbrev cX4_areSo : ByteArray := prog_6_method_43_code
def yX4_areSo : MethodName := ⟨RX4, "areSo", "()Z"⟩
abbrev cX4_lay : ByteArray := prog_6_method_44_code
def yX4_lay : MethodName := ⟨RX4, "lay", "(ZIIII)I"⟩
abbrev cX4_weights : ByteArray := prog_6_method_45_code
def yX4_weights : MethodName := ⟨RX4, "weights", "(IIIII)I"⟩
abbrev cX4_kinds : ByteArray := prog_6_method_46_code
def yX4_kinds : MethodName := ⟨RX4, "kinds", "(IIIII)I"⟩
abbrev cX4_knew : ByteArray := prog_6_method_47_code
def yX4_knew : MethodName := ⟨RX4, "knew", "(IIIII)I"⟩
abbrev cX4_inLeastTerms : ByteArray := prog_6_method_48_code
def yX4_inLeastTerms : MethodName := ⟨RX4, "inLeastTerms", "(JJI)J"⟩
abbrev cX4_odds : ByteArray := prog_6_method_49_code
def yX4_odds : MethodName := ⟨RX4, "odds", "(III)J"⟩
abbrev cX4_sheet : ByteArray := prog_6_method_50_code
def yX4_sheet : MethodName := ⟨RX4, "sheet", "(III)I"⟩
abbrev cX4_lose : ByteArray := prog_6_method_51_code
def yX4_lose : MethodName := ⟨RX4, "lose", "(I)I"⟩
abbrev cX4_put : ByteArray := prog_6_method_52_code
def yX4_put : MethodName := ⟨RX4, "put", "(III)I"⟩
abbrev cX4_cell : ByteArray := prog_6_method_53_code
def yX4_cell : MethodName := ⟨RX4, "cell", "(III)J"⟩
abbrev cX4_copy : ByteArray := prog_6_method_54_code
def yX4_copy : MethodName := ⟨RX4, "copy", "(IIIII)I"⟩
abbrev cX4_begins : ByteArray := prog_6_method_55_code
def yX4_begins : MethodName := ⟨RX4, "begins", "(I)V"⟩
abbrev cX4_tell : ByteArray := prog_6_method_56_code
def yX4_tell : MethodName := ⟨RX4, "tell", "(I)I"⟩
abbrev cX4_greet : ByteArray := prog_6_method_57_code
def yX4_greet : MethodName := ⟨RX4, "greet", "(I)I"⟩
abbrev cX4_as : ByteArray := prog_6_method_58_code
def yX4_as : MethodName := ⟨RX4, "as", "(II)I"⟩
abbrev cX4_trace : ByteArray := prog_6_method_59_code
def yX4_trace : MethodName := ⟨RX4, "trace", "()I"⟩
abbrev cX4_fault : ByteArray := prog_6_method_60_code
def yX4_fault : MethodName := ⟨RX4, "fault", "()I"⟩
abbrev cX4_many : ByteArray := prog_6_method_61_code
def yX4_many : MethodName := ⟨RX4, "many", "(I)I"⟩
def RJ6 : String := "java/lang/Integer"
def TJ6 : u_T := fun k => match k with
  | _ => ("", "", "", false)
def tyJ6 : Nat → FieldType := fun k => match k with
  | _ => .int
abbrev wsJ60 : List Cond := u_ws RJ6 TJ6 0
theorem nmJ6 : ∀ a, a < 0 → ∀ b, b < 0 → a ≠ b → (TJ6 a).2.1 ≠ (TJ6 b).2.1 := by decide +kernel
theorem tyJ6_ok : ∀ k, k < 0 → parseFieldDescriptor (TJ6 k).2.2.1 = some (tyJ6 k) := by decide +kernel
abbrev cJ6_bitCount_0f7a4 : ByteArray := prog_7_method_49_code
def yJ6_bitCount_0f7a4 : MethodName := ⟨RJ6, "bitCount", "(I)I"⟩
def RJ9 : String := "java/lang/Math"
def TJ9 : u_T := fun k => match k with
  | _ => ("", "", "", false)
def tyJ9 : Nat → FieldType := fun k => match k with
  | _ => .int
abbrev wsJ90 : List Cond := u_ws RJ9 TJ9 0
theorem nmJ9 : ∀ a, a < 0 → ∀ b, b < 0 → a ≠ b → (TJ9 a).2.1 ≠ (TJ9 b).2.1 := by decide +kernel
theorem tyJ9_ok : ∀ k, k < 0 → parseFieldDescriptor (TJ9 k).2.2.1 = some (tyJ9 k) := by decide +kernel
abbrev cJ9_max_7cf53 : ByteArray := prog_8_method_65_code
def yJ9_max_7cf53 : MethodName := ⟨RJ9, "max", "(II)I"⟩
def RJ10 : String := "java/lang/System"
def TJ10 : u_T := fun k => match k with
  | _ => ("", "", "", false)
def tyJ10 : Nat → FieldType := fun k => match k with
  | _ => .int
abbrev wsJ100 : List Cond := u_ws RJ10 TJ10 0
theorem nmJ10 : ∀ a, a < 0 → ∀ b, b < 0 → a ≠ b → (TJ10 a).2.1 ≠ (TJ10 b).2.1 := by decide +kernel
theorem tyJ10_ok : ∀ k, k < 0 → parseFieldDescriptor (TJ10 k).2.2.1 = some (tyJ10 k) := by decide +kernel
def RL : String := "TowerTellLaw"
abbrev cL_law : ByteArray := code
def yL_law : MethodName := ⟨RL, "law", "([I)Z"⟩
def wsX0_init : List Cond := .code yX0_init cX0_init 1 none :: ([.methodLink RX0 3 objectInit, .instanceMethod objectInit, .code objectInit ⟨#[0xb1]⟩ 1 none, .fieldLink RX0 9 "TowerTell$Sheet" "lane" "I", .arrayClass .int, .fieldLink RX0 15 "TowerTell$Sheet" "cells" "[I"] ++ wsX00)
def wsX0_isBare : List Cond := .code yX0_isBare cX0_isBare 1 (some .boolean) :: ([.fieldLink RX0 9 "TowerTell$Sheet" "lane" "I"] ++ wsX00)
def wsX0_drop : List Cond := .code yX0_drop cX0_drop 1 none :: ([.fieldLink RX0 9 "TowerTell$Sheet" "lane" "I", .fieldLink RX0 19 "TowerTell$Sheet" "length" "I"] ++ wsX00)
def wsX0_begin : List Cond := .code yX0_begin cX0_begin 4 none :: ([.fieldLink RX0 9 "TowerTell$Sheet" "lane" "I", .fieldLink RX0 19 "TowerTell$Sheet" "length" "I", .fieldLink RX0 15 "TowerTell$Sheet" "cells" "[I"] ++ wsX00)
def wsX0_holds : List Cond := .code yX0_holds cX0_holds 3 (some .boolean) :: ([.fieldLink RX0 19 "TowerTell$Sheet" "length" "I"] ++ wsX00)
def wsX0_faultOf : List Cond := .code yX0_faultOf cX0_faultOf 4 (some .int) :: ([.fieldLink RX0 9 "TowerTell$Sheet" "lane" "I", .methodLink RX0 22 yX0_isBare, .instanceMethod yX0_isBare, .selects RX0 yX0_isBare yX0_isBare, .initialized RX0, .code yX0_isBare cX0_isBare 1 (some .boolean), .methodLink RX0 26 yX0_holds, .instanceMethod yX0_holds, .selects RX0 yX0_holds yX0_holds, .code yX0_holds cX0_holds 3 (some .boolean), .fieldLink RX0 19 "TowerTell$Sheet" "length" "I"] ++ wsX00)
def wsX0_write : List Cond := .code yX0_write cX0_write 3 none :: ([.fieldLink RX0 9 "TowerTell$Sheet" "lane" "I", .fieldLink RX0 15 "TowerTell$Sheet" "cells" "[I"] ++ wsX00)
def wsX1_init : List Cond := .code yX1_init cX1_init 1 none :: ([.methodLink RX1 3 objectInit, .instanceMethod objectInit, .code objectInit ⟨#[0xb1]⟩ 1 none, .arrayClass .int, .fieldLink RX1 9 "TowerTell$TextReader" "codes" "[I"] ++ wsX10)
def wsX2_clear : List Cond := .code yX2_clear cX2_clear 1 none :: ([.fieldLink RX2 27 "TowerTell$Tower" "deeds" "I", .fieldLink RX2 31 "TowerTell$Tower" "people" "I"] ++ wsX20)
def wsX1_taken : List Cond := .code yX1_taken cX1_taken 4 (some .int) :: ([.fieldLink RX1 27 "TowerTell$TextReader" "at" "I", .fieldLink RX1 24 "TowerTell$TextReader" "length" "I", .fieldLink RX1 9 "TowerTell$TextReader" "codes" "[I", .fieldLink RX1 20 "TowerTell$TextReader" "from" "I"] ++ wsX10)
def wsX2_addDeed : List Cond := .code yX2_addDeed cX2_addDeed 2 none :: ([.fieldLink RX2 27 "TowerTell$Tower" "deeds" "I", .fieldLink RX2 9 "TowerTell$Tower" "weightOf" "[I"] ++ wsX20)
def wsX1_readsDeed : List Cond := .code yX1_readsDeed cX1_readsDeed 3 (some .boolean) :: ([.methodLink RX1 39 yX1_taken, .instanceMethod yX1_taken, .selects RX1 yX1_taken yX1_taken, .initialized RX1, .code yX1_taken cX1_taken 4 (some .int), .fieldLink RX1 27 "TowerTell$TextReader" "at" "I", .fieldLink RX1 24 "TowerTell$TextReader" "length" "I", .fieldLink RX1 9 "TowerTell$TextReader" "codes" "[I", .fieldLink RX1 20 "TowerTell$TextReader" "from" "I", .methodLink RX1 53 yX2_addDeed, .instanceMethod yX2_addDeed, .selects RX2 yX2_addDeed yX2_addDeed, .initialized RX2, .code yX2_addDeed cX2_addDeed 2 none, .fieldLink RX2 27 "TowerTell$Tower" "deeds" "I", .fieldLink RX2 9 "TowerTell$Tower" "weightOf" "[I"] ++ wsX10 ++ wsX20)
def wsX1_nextIs : List Cond := .code yX1_nextIs cX1_nextIs 2 (some .boolean) :: ([.fieldLink RX1 27 "TowerTell$TextReader" "at" "I", .fieldLink RX1 24 "TowerTell$TextReader" "length" "I", .fieldLink RX1 9 "TowerTell$TextReader" "codes" "[I", .fieldLink RX1 20 "TowerTell$TextReader" "from" "I"] ++ wsX10)
def wsX1_takenKind : List Cond := .code yX1_takenKind cX1_takenKind 1 (some .int) :: ([.methodLink RX1 39 yX1_taken, .instanceMethod yX1_taken, .selects RX1 yX1_taken yX1_taken, .initialized RX1, .code yX1_taken cX1_taken 4 (some .int), .fieldLink RX1 27 "TowerTell$TextReader" "at" "I", .fieldLink RX1 24 "TowerTell$TextReader" "length" "I", .fieldLink RX1 9 "TowerTell$TextReader" "codes" "[I", .fieldLink RX1 20 "TowerTell$TextReader" "from" "I"] ++ wsX10)
def wsX2_addPerson : List Cond := .code yX2_addPerson cX2_addPerson 4 none :: ([.fieldLink RX2 31 "TowerTell$Tower" "people" "I", .fieldLink RX2 15 "TowerTell$Tower" "kindOf" "[I", .fieldLink RX2 18 "TowerTell$Tower" "doneBy" "[I", .fieldLink RX2 21 "TowerTell$Tower" "knownTo" "[I", .fieldLink RX2 24 "TowerTell$Tower" "toldBy" "[I"] ++ wsX20)
def wsX1_readsPerson : List Cond := .code yX1_readsPerson cX1_readsPerson 6 (some .boolean) :: ([.methodLink RX1 39 yX1_taken, .instanceMethod yX1_taken, .selects RX1 yX1_taken yX1_taken, .initialized RX1, .code yX1_taken cX1_taken 4 (some .int), .fieldLink RX1 27 "TowerTell$TextReader" "at" "I", .fieldLink RX1 24 "TowerTell$TextReader" "length" "I", .fieldLink RX1 9 "TowerTell$TextReader" "codes" "[I", .fieldLink RX1 20 "TowerTell$TextReader" "from" "I", .methodLink RX1 57 yX1_takenKind, .instanceMethod yX1_takenKind, .selects RX1 yX1_takenKind yX1_takenKind, .code yX1_takenKind cX1_takenKind 1 (some .int), .methodLink RX1 61 yX2_addPerson, .instanceMethod yX2_addPerson, .selects RX2 yX2_addPerson yX2_addPerson, .initialized RX2, .code yX2_addPerson cX2_addPerson 4 none, .fieldLink RX2 31 "TowerTell$Tower" "people" "I", .fieldLink RX2 15 "TowerTell$Tower" "kindOf" "[I", .fieldLink RX2 18 "TowerTell$Tower" "doneBy" "[I", .fieldLink RX2 21 "TowerTell$Tower" "knownTo" "[I", .fieldLink RX2 24 "TowerTell$Tower" "toldBy" "[I"] ++ wsX10 ++ wsX20)
def wsX1_readsText_r1 : List Cond := [Cond.fieldLink RX1 27 "TowerTell$TextReader" "at" "I", Cond.fieldLink RX1 24 "TowerTell$TextReader" "length" "I", Cond.methodLink RX1 39 yX1_taken, Cond.instanceMethod yX1_taken, Cond.selects RX1 yX1_taken yX1_taken, Cond.initialized RX1, Cond.code yX1_taken cX1_taken 4 (some .int), Cond.fieldLink RX1 9 "TowerTell$TextReader" "codes" "[I", Cond.fieldLink RX1 20 "TowerTell$TextReader" "from" "I", Cond.methodLink RX1 43 yX1_readsDeed, Cond.instanceMethod yX1_readsDeed, Cond.selects RX1 yX1_readsDeed yX1_readsDeed, Cond.code yX1_readsDeed cX1_readsDeed 3 (some .boolean), Cond.methodLink RX1 53 yX2_addDeed, Cond.instanceMethod yX2_addDeed, Cond.selects RX2 yX2_addDeed yX2_addDeed, Cond.initialized RX2, Cond.code yX2_addDeed cX2_addDeed 2 none, Cond.fieldLink RX2 27 "TowerTell$Tower" "deeds" "I", Cond.fieldLink RX2 9 "TowerTell$Tower" "weightOf" "[I", Cond.methodLink RX1 46 yX1_nextIs, Cond.instanceMethod yX1_nextIs, Cond.selects RX1 yX1_nextIs yX1_nextIs, Cond.code yX1_nextIs cX1_nextIs 2 (some .boolean)]
def wsX1_readsText_r2 : List Cond := [Cond.methodLink RX1 50 yX1_readsPerson, Cond.instanceMethod yX1_readsPerson, Cond.selects RX1 yX1_readsPerson yX1_readsPerson, Cond.code yX1_readsPerson cX1_readsPerson 6 (some .boolean), Cond.methodLink RX1 57 yX1_takenKind, Cond.instanceMethod yX1_takenKind, Cond.selects RX1 yX1_takenKind yX1_takenKind, Cond.code yX1_takenKind cX1_takenKind 1 (some .int), Cond.methodLink RX1 61 yX2_addPerson, Cond.instanceMethod yX2_addPerson, Cond.selects RX2 yX2_addPerson yX2_addPerson, Cond.code yX2_addPerson cX2_addPerson 4 none, Cond.fieldLink RX2 31 "TowerTell$Tower" "people" "I", Cond.fieldLink RX2 15 "TowerTell$Tower" "kindOf" "[I", Cond.fieldLink RX2 18 "TowerTell$Tower" "doneBy" "[I", Cond.fieldLink RX2 21 "TowerTell$Tower" "knownTo" "[I", Cond.fieldLink RX2 24 "TowerTell$Tower" "toldBy" "[I"]
def wsX1_readsText : List Cond := .code yX1_readsText cX1_readsText 3 (some .boolean) :: ((wsX1_readsText_r1 ++ wsX1_readsText_r2) ++ wsX10 ++ wsX20)
def wsX1_firstFault_r1 : List Cond := [Cond.fieldLink RX1 15 "TowerTell$Sheet" "cells" "[I", Cond.fieldLink RX1 9 "TowerTell$TextReader" "codes" "[I", Cond.fieldLink RX1 20 "TowerTell$TextReader" "from" "I", Cond.fieldLink RX1 24 "TowerTell$TextReader" "length" "I", Cond.fieldLink RX1 27 "TowerTell$TextReader" "at" "I", Cond.methodLink RX1 30 yX2_clear, Cond.instanceMethod yX2_clear, Cond.selects RX2 yX2_clear yX2_clear, Cond.initialized RX2, Cond.code yX2_clear cX2_clear 1 none, Cond.fieldLink RX2 27 "TowerTell$Tower" "deeds" "I", Cond.fieldLink RX2 31 "TowerTell$Tower" "people" "I", Cond.methodLink RX1 35 yX1_readsText, Cond.instanceMethod yX1_readsText, Cond.selects RX1 yX1_readsText yX1_readsText, Cond.initialized RX1, Cond.code yX1_readsText cX1_readsText 3 (some .boolean), Cond.methodLink RX1 39 yX1_taken, Cond.instanceMethod yX1_taken, Cond.selects RX1 yX1_taken yX1_taken, Cond.code yX1_taken cX1_taken 4 (some .int), Cond.methodLink RX1 43 yX1_readsDeed, Cond.instanceMethod yX1_readsDeed, Cond.selects RX1 yX1_readsDeed yX1_readsDeed]
def wsX1_firstFault_r2 : List Cond := [Cond.code yX1_readsDeed cX1_readsDeed 3 (some .boolean), Cond.methodLink RX1 53 yX2_addDeed, Cond.instanceMethod yX2_addDeed, Cond.selects RX2 yX2_addDeed yX2_addDeed, Cond.code yX2_addDeed cX2_addDeed 2 none, Cond.fieldLink RX2 9 "TowerTell$Tower" "weightOf" "[I", Cond.methodLink RX1 46 yX1_nextIs, Cond.instanceMethod yX1_nextIs, Cond.selects RX1 yX1_nextIs yX1_nextIs, Cond.code yX1_nextIs cX1_nextIs 2 (some .boolean), Cond.methodLink RX1 50 yX1_readsPerson, Cond.instanceMethod yX1_readsPerson, Cond.selects RX1 yX1_readsPerson yX1_readsPerson, Cond.code yX1_readsPerson cX1_readsPerson 6 (some .boolean), Cond.methodLink RX1 57 yX1_takenKind, Cond.instanceMethod yX1_takenKind, Cond.selects RX1 yX1_takenKind yX1_takenKind, Cond.code yX1_takenKind cX1_takenKind 1 (some .int), Cond.methodLink RX1 61 yX2_addPerson, Cond.instanceMethod yX2_addPerson, Cond.selects RX2 yX2_addPerson yX2_addPerson, Cond.code yX2_addPerson cX2_addPerson 4 none, Cond.fieldLink RX2 15 "TowerTell$Tower" "kindOf" "[I", Cond.fieldLink RX2 18 "TowerTell$Tower" "doneBy" "[I"]
def wsX1_firstFault_r3 : List Cond := [Cond.fieldLink RX2 21 "TowerTell$Tower" "knownTo" "[I", Cond.fieldLink RX2 24 "TowerTell$Tower" "toldBy" "[I"]
def wsX1_firstFault : List Cond := .code yX1_firstFault cX1_firstFault 5 (some .int) :: ((wsX1_firstFault_r1 ++ (wsX1_firstFault_r2 ++ wsX1_firstFault_r3)) ++ wsX00 ++ wsX10 ++ wsX20)
def wsX2_init : List Cond := .code yX2_init cX2_init 1 none :: ([.methodLink RX2 3 objectInit, .instanceMethod objectInit, .code objectInit ⟨#[0xb1]⟩ 1 none, .arrayClass .int, .fieldLink RX2 9 "TowerTell$Tower" "weightOf" "[I", .fieldLink RX2 15 "TowerTell$Tower" "kindOf" "[I", .fieldLink RX2 18 "TowerTell$Tower" "doneBy" "[I", .fieldLink RX2 21 "TowerTell$Tower" "knownTo" "[I", .fieldLink RX2 24 "TowerTell$Tower" "toldBy" "[I"] ++ wsX20)
def wsX2_become : List Cond := .code yX2_become cX2_become 2 none :: ([.fieldLink RX2 27 "TowerTell$Tower" "deeds" "I", .fieldLink RX2 31 "TowerTell$Tower" "people" "I", .fieldLink RX2 34 "TowerTell$Tower" "catches" "I", .fieldLink RX2 9 "TowerTell$Tower" "weightOf" "[I", .methodLink RX2 37 arraycopyName, .native arraycopyName, .static arraycopyName, .initialized "java/lang/System", .fieldLink RX2 15 "TowerTell$Tower" "kindOf" "[I", .fieldLink RX2 18 "TowerTell$Tower" "doneBy" "[I", .fieldLink RX2 21 "TowerTell$Tower" "knownTo" "[I", .fieldLink RX2 24 "TowerTell$Tower" "toldBy" "[I"] ++ wsX20)
def wsX2_isDeed : List Cond := .code yX2_isDeed cX2_isDeed 2 (some .boolean) :: ([.fieldLink RX2 27 "TowerTell$Tower" "deeds" "I"] ++ wsX20)
def wsX2_isPerson : List Cond := .code yX2_isPerson cX2_isPerson 2 (some .boolean) :: ([.fieldLink RX2 31 "TowerTell$Tower" "people" "I"] ++ wsX20)
def wsX2_truthsOf : List Cond := .code yX2_truthsOf cX2_truthsOf 2 (some .int) :: ([.fieldLink RX2 18 "TowerTell$Tower" "doneBy" "[I", .fieldLink RX2 27 "TowerTell$Tower" "deeds" "I"] ++ wsX20)
def wsX2_hasTold : List Cond := .code yX2_hasTold cX2_hasTold 3 (some .boolean) :: ([.fieldLink RX2 24 "TowerTell$Tower" "toldBy" "[I"] ++ wsX20)
def wsX2_rise : List Cond := .code yX2_rise cX2_rise 3 (some .int) :: ([.fieldLink RX2 15 "TowerTell$Tower" "kindOf" "[I", .fieldLink RX2 9 "TowerTell$Tower" "weightOf" "[I"] ++ wsX20)
def wsX2_floorBy : List Cond := .code yX2_floorBy cX2_floorBy 5 (some .int) :: ([.fieldLink RX2 27 "TowerTell$Tower" "deeds" "I", .methodLink RX2 43 yX2_rise, .instanceMethod yX2_rise, .selects RX2 yX2_rise yX2_rise, .initialized RX2, .code yX2_rise cX2_rise 3 (some .int), .fieldLink RX2 15 "TowerTell$Tower" "kindOf" "[I", .fieldLink RX2 9 "TowerTell$Tower" "weightOf" "[I"] ++ wsX20)
def wsX2_floorOf : List Cond := .code yX2_floorOf cX2_floorOf 2 (some .int) :: ([.fieldLink RX2 24 "TowerTell$Tower" "toldBy" "[I", .methodLink RX2 47 yX2_floorBy, .instanceMethod yX2_floorBy, .selects RX2 yX2_floorBy yX2_floorBy, .initialized RX2, .code yX2_floorBy cX2_floorBy 5 (some .int), .fieldLink RX2 27 "TowerTell$Tower" "deeds" "I", .methodLink RX2 43 yX2_rise, .instanceMethod yX2_rise, .selects RX2 yX2_rise yX2_rise, .code yX2_rise cX2_rise 3 (some .int), .fieldLink RX2 15 "TowerTell$Tower" "kindOf" "[I", .fieldLink RX2 9 "TowerTell$Tower" "weightOf" "[I"] ++ wsX20)
def wsX2_highestFloor : List Cond := .code yX2_highestFloor cX2_highestFloor 3 (some .int) :: ([.fieldLink RX2 31 "TowerTell$Tower" "people" "I", .methodLink RX2 54 Lib.Math.max.name, .static Lib.Math.max.name, .initialized "java/lang/Math", .code Lib.Math.max.name Lib.Math.max.code 2 (some .int), .methodLink RX2 50 yX2_floorOf, .instanceMethod yX2_floorOf, .selects RX2 yX2_floorOf yX2_floorOf, .initialized RX2, .code yX2_floorOf cX2_floorOf 2 (some .int), .fieldLink RX2 24 "TowerTell$Tower" "toldBy" "[I", .methodLink RX2 47 yX2_floorBy, .instanceMethod yX2_floorBy, .selects RX2 yX2_floorBy yX2_floorBy, .code yX2_floorBy cX2_floorBy 5 (some .int), .fieldLink RX2 27 "TowerTell$Tower" "deeds" "I", .methodLink RX2 43 yX2_rise, .instanceMethod yX2_rise, .selects RX2 yX2_rise yX2_rise, .code yX2_rise cX2_rise 3 (some .int), .fieldLink RX2 15 "TowerTell$Tower" "kindOf" "[I", .fieldLink RX2 9 "TowerTell$Tower" "weightOf" "[I"] ++ wsX20)
def wsX2_wouldBeCaught : List Cond := .code yX2_wouldBeCaught cX2_wouldBeCaught 4 (some .boolean) :: ([.fieldLink RX2 18 "TowerTell$Tower" "doneBy" "[I", .fieldLink RX2 31 "TowerTell$Tower" "people" "I", .fieldLink RX2 21 "TowerTell$Tower" "knownTo" "[I", .methodLink RX2 50 yX2_floorOf, .instanceMethod yX2_floorOf, .selects RX2 yX2_floorOf yX2_floorOf, .initialized RX2, .code yX2_floorOf cX2_floorOf 2 (some .int), .fieldLink RX2 24 "TowerTell$Tower" "toldBy" "[I", .methodLink RX2 47 yX2_floorBy, .instanceMethod yX2_floorBy, .selects RX2 yX2_floorBy yX2_floorBy, .code yX2_floorBy cX2_floorBy 5 (some .int), .fieldLink RX2 27 "TowerTell$Tower" "deeds" "I", .methodLink RX2 43 yX2_rise, .instanceMethod yX2_rise, .selects RX2 yX2_rise yX2_rise, .code yX2_rise cX2_rise 3 (some .int), .fieldLink RX2 15 "TowerTell$Tower" "kindOf" "[I", .fieldLink RX2 9 "TowerTell$Tower" "weightOf" "[I"] ++ wsX20)
def wsX2_hear_r1 : List Cond := [Cond.fieldLink RX2 24 "TowerTell$Tower" "toldBy" "[I", Cond.fieldLink RX2 34 "TowerTell$Tower" "catches" "I", Cond.methodLink RX2 59 yX2_wouldBeCaught, Cond.instanceMethod yX2_wouldBeCaught, Cond.selects RX2 yX2_wouldBeCaught yX2_wouldBeCaught, Cond.initialized RX2, Cond.code yX2_wouldBeCaught cX2_wouldBeCaught 4 (some .boolean), Cond.fieldLink RX2 18 "TowerTell$Tower" "doneBy" "[I", Cond.fieldLink RX2 31 "TowerTell$Tower" "people" "I", Cond.fieldLink RX2 21 "TowerTell$Tower" "knownTo" "[I", Cond.methodLink RX2 50 yX2_floorOf, Cond.instanceMethod yX2_floorOf, Cond.selects RX2 yX2_floorOf yX2_floorOf, Cond.code yX2_floorOf cX2_floorOf 2 (some .int), Cond.methodLink RX2 47 yX2_floorBy, Cond.instanceMethod yX2_floorBy, Cond.selects RX2 yX2_floorBy yX2_floorBy, Cond.code yX2_floorBy cX2_floorBy 5 (some .int), Cond.fieldLink RX2 27 "TowerTell$Tower" "deeds" "I", Cond.methodLink RX2 43 yX2_rise, Cond.instanceMethod yX2_rise, Cond.selects RX2 yX2_rise yX2_rise, Cond.code yX2_rise cX2_rise 3 (some .int), Cond.fieldLink RX2 15 "TowerTell$Tower" "kindOf" "[I"]
def wsX2_hear_r2 : List Cond := [Cond.fieldLink RX2 9 "TowerTell$Tower" "weightOf" "[I"]
def wsX2_hear : List Cond := .code yX2_hear cX2_hear 3 none :: ((wsX2_hear_r1 ++ wsX2_hear_r2) ++ wsX20)
def wsX3_init_r1 : List Cond := [Cond.methodLink RX3 3 objectInit, Cond.instanceMethod objectInit, Cond.code objectInit ⟨#[0xb1]⟩ 1 none, Cond.classLink RX3 11 RX0, Cond.fieldLink RX3 13 "TowerTell" "sheets" "[LTowerTell$Sheet;", Cond.instantiable RX0 3, Cond.initialized RX0, Cond.classLink RX3 18 RX1, Cond.instantiable RX1 4, Cond.initialized RX1, Cond.fieldLink RX3 21 "TowerTell" "reader" "LTowerTell$TextReader;", Cond.arrayClass .int, Cond.fieldLink RX3 25 "TowerTell" "readPerson" "[I", Cond.fieldLink RX3 29 "TowerTell" "readFloor" "[I", Cond.classLink RX3 32 RX2, Cond.instantiable RX2 8, Cond.initialized RX2, Cond.fieldLink RX3 35 "TowerTell" "now" "LTowerTell$Tower;", Cond.fieldLink RX3 39 "TowerTell" "trial" "LTowerTell$Tower;", Cond.methodLink RX3 17 yX0_init, Cond.instanceMethod yX0_init, Cond.code yX0_init cX0_init 1 none, Cond.methodLink RX0 3 objectInit, Cond.fieldLink RX0 9 "TowerTell$Sheet" "lane" "I"]
def wsX3_init_r2 : List Cond := [Cond.fieldLink RX0 15 "TowerTell$Sheet" "cells" "[I", Cond.methodLink RX3 20 yX1_init, Cond.instanceMethod yX1_init, Cond.code yX1_init cX1_init 1 none, Cond.methodLink RX1 3 objectInit, Cond.fieldLink RX1 9 "TowerTell$TextReader" "codes" "[I", Cond.methodLink RX3 34 yX2_init, Cond.instanceMethod yX2_init, Cond.code yX2_init cX2_init 1 none, Cond.methodLink RX2 3 objectInit, Cond.fieldLink RX2 9 "TowerTell$Tower" "weightOf" "[I", Cond.fieldLink RX2 15 "TowerTell$Tower" "kindOf" "[I", Cond.fieldLink RX2 18 "TowerTell$Tower" "doneBy" "[I", Cond.fieldLink RX2 21 "TowerTell$Tower" "knownTo" "[I", Cond.fieldLink RX2 24 "TowerTell$Tower" "toldBy" "[I"]
def wsX3_init : List Cond := .code yX3_init cX3_init 2 none :: ((wsX3_init_r1 ++ wsX3_init_r2) ++ wsX30 ++ wsX00 ++ wsX10 ++ wsX20)
def wsX3_isSheet : List Cond := .code yX3_isSheet cX3_isSheet 1 (some .boolean) :: ([])
def wsX3_isLane : List Cond := .code yX3_isLane cX3_isLane 1 (some .boolean) :: ([])
def wsX3_faulted : List Cond := .code yX3_faulted cX3_faulted 2 (some .int) :: ([.fieldLink RX3 42 "TowerTell" "latestFault" "I"] ++ wsX30)
def wsX3_tower_r1 : List Cond := [Cond.fieldLink RX3 42 "TowerTell" "latestFault" "I", Cond.fieldLink RX3 13 "TowerTell" "sheets" "[LTowerTell$Sheet;", Cond.fieldLink RX3 21 "TowerTell" "reader" "LTowerTell$TextReader;", Cond.fieldLink RX3 39 "TowerTell" "trial" "LTowerTell$Tower;", Cond.fieldLink RX3 35 "TowerTell" "now" "LTowerTell$Tower;", Cond.fieldLink RX3 65 "TowerTell" "readings" "I", Cond.fieldLink RX3 68 "TowerTell$Tower" "people" "I", Cond.methodLink RX3 46 yX3_isSheet, Cond.static yX3_isSheet, Cond.initialized RX3, Cond.code yX3_isSheet cX3_isSheet 1 (some .boolean), Cond.methodLink RX3 50 yX3_isLane, Cond.static yX3_isLane, Cond.code yX3_isLane cX3_isLane 1 (some .boolean), Cond.methodLink RX3 53 yX0_faultOf, Cond.instanceMethod yX0_faultOf, Cond.selects RX0 yX0_faultOf yX0_faultOf, Cond.initialized RX0, Cond.code yX0_faultOf cX0_faultOf 4 (some .int), Cond.fieldLink RX0 9 "TowerTell$Sheet" "lane" "I", Cond.methodLink RX0 22 yX0_isBare, Cond.instanceMethod yX0_isBare, Cond.selects RX0 yX0_isBare yX0_isBare, Cond.code yX0_isBare cX0_isBare 1 (some .boolean)]
def wsX3_tower_r2 : List Cond := [Cond.methodLink RX0 26 yX0_holds, Cond.instanceMethod yX0_holds, Cond.selects RX0 yX0_holds yX0_holds, Cond.code yX0_holds cX0_holds 3 (some .boolean), Cond.fieldLink RX0 19 "TowerTell$Sheet" "length" "I", Cond.methodLink RX3 57 yX3_faulted, Cond.instanceMethod yX3_faulted, Cond.selects RX3 yX3_faulted yX3_faulted, Cond.code yX3_faulted cX3_faulted 2 (some .int), Cond.methodLink RX3 61 yX1_firstFault, Cond.instanceMethod yX1_firstFault, Cond.selects RX1 yX1_firstFault yX1_firstFault, Cond.initialized RX1, Cond.code yX1_firstFault cX1_firstFault 5 (some .int), Cond.fieldLink RX1 15 "TowerTell$Sheet" "cells" "[I", Cond.fieldLink RX1 9 "TowerTell$TextReader" "codes" "[I", Cond.fieldLink RX1 20 "TowerTell$TextReader" "from" "I", Cond.fieldLink RX1 24 "TowerTell$TextReader" "length" "I", Cond.fieldLink RX1 27 "TowerTell$TextReader" "at" "I", Cond.methodLink RX1 30 yX2_clear, Cond.instanceMethod yX2_clear, Cond.selects RX2 yX2_clear yX2_clear, Cond.initialized RX2, Cond.code yX2_clear cX2_clear 1 none]
def wsX3_tower_r3 : List Cond := [Cond.fieldLink RX2 27 "TowerTell$Tower" "deeds" "I", Cond.fieldLink RX2 31 "TowerTell$Tower" "people" "I", Cond.methodLink RX1 35 yX1_readsText, Cond.instanceMethod yX1_readsText, Cond.selects RX1 yX1_readsText yX1_readsText, Cond.code yX1_readsText cX1_readsText 3 (some .boolean), Cond.methodLink RX1 39 yX1_taken, Cond.instanceMethod yX1_taken, Cond.selects RX1 yX1_taken yX1_taken, Cond.code yX1_taken cX1_taken 4 (some .int), Cond.methodLink RX1 43 yX1_readsDeed, Cond.instanceMethod yX1_readsDeed, Cond.selects RX1 yX1_readsDeed yX1_readsDeed, Cond.code yX1_readsDeed cX1_readsDeed 3 (some .boolean), Cond.methodLink RX1 53 yX2_addDeed, Cond.instanceMethod yX2_addDeed, Cond.selects RX2 yX2_addDeed yX2_addDeed, Cond.code yX2_addDeed cX2_addDeed 2 none, Cond.fieldLink RX2 9 "TowerTell$Tower" "weightOf" "[I", Cond.methodLink RX1 46 yX1_nextIs, Cond.instanceMethod yX1_nextIs, Cond.selects RX1 yX1_nextIs yX1_nextIs, Cond.code yX1_nextIs cX1_nextIs 2 (some .boolean), Cond.methodLink RX1 50 yX1_readsPerson]
def wsX3_tower_r4 : List Cond := [Cond.instanceMethod yX1_readsPerson, Cond.selects RX1 yX1_readsPerson yX1_readsPerson, Cond.code yX1_readsPerson cX1_readsPerson 6 (some .boolean), Cond.methodLink RX1 57 yX1_takenKind, Cond.instanceMethod yX1_takenKind, Cond.selects RX1 yX1_takenKind yX1_takenKind, Cond.code yX1_takenKind cX1_takenKind 1 (some .int), Cond.methodLink RX1 61 yX2_addPerson, Cond.instanceMethod yX2_addPerson, Cond.selects RX2 yX2_addPerson yX2_addPerson, Cond.code yX2_addPerson cX2_addPerson 4 none, Cond.fieldLink RX2 15 "TowerTell$Tower" "kindOf" "[I", Cond.fieldLink RX2 18 "TowerTell$Tower" "doneBy" "[I", Cond.fieldLink RX2 21 "TowerTell$Tower" "knownTo" "[I", Cond.fieldLink RX2 24 "TowerTell$Tower" "toldBy" "[I"]
def wsX3_tower : List Cond := .code yX3_tower cX3_tower 8 (some .int) :: ((wsX3_tower_r1 ++ (wsX3_tower_r2 ++ (wsX3_tower_r3 ++ wsX3_tower_r4))) ++ wsX30 ++ wsX20 ++ wsX00 ++ wsX10)
def wsX3_ofPerson_r1 : List Cond := [Cond.fieldLink RX3 35 "TowerTell" "now" "LTowerTell$Tower;", Cond.fieldLink RX3 74 "TowerTell$Tower" "kindOf" "[I", Cond.fieldLink RX3 80 "TowerTell$Tower" "knownTo" "[I", Cond.fieldLink RX3 83 "TowerTell$Tower" "toldBy" "[I", Cond.methodLink RX3 71 yX2_isPerson, Cond.instanceMethod yX2_isPerson, Cond.selects RX2 yX2_isPerson yX2_isPerson, Cond.initialized RX2, Cond.code yX2_isPerson cX2_isPerson 2 (some .boolean), Cond.fieldLink RX2 31 "TowerTell$Tower" "people" "I", Cond.methodLink RX3 77 yX2_truthsOf, Cond.instanceMethod yX2_truthsOf, Cond.selects RX2 yX2_truthsOf yX2_truthsOf, Cond.code yX2_truthsOf cX2_truthsOf 2 (some .int), Cond.fieldLink RX2 18 "TowerTell$Tower" "doneBy" "[I", Cond.fieldLink RX2 27 "TowerTell$Tower" "deeds" "I", Cond.methodLink RX3 86 yX2_floorOf, Cond.instanceMethod yX2_floorOf, Cond.selects RX2 yX2_floorOf yX2_floorOf, Cond.code yX2_floorOf cX2_floorOf 2 (some .int), Cond.fieldLink RX2 24 "TowerTell$Tower" "toldBy" "[I", Cond.methodLink RX2 47 yX2_floorBy, Cond.instanceMethod yX2_floorBy, Cond.selects RX2 yX2_floorBy yX2_floorBy]
def wsX3_ofPerson_r2 : List Cond := [Cond.code yX2_floorBy cX2_floorBy 5 (some .int), Cond.methodLink RX2 43 yX2_rise, Cond.instanceMethod yX2_rise, Cond.selects RX2 yX2_rise yX2_rise, Cond.code yX2_rise cX2_rise 3 (some .int), Cond.fieldLink RX2 15 "TowerTell$Tower" "kindOf" "[I", Cond.fieldLink RX2 9 "TowerTell$Tower" "weightOf" "[I"]
def wsX3_ofPerson : List Cond := .code yX3_ofPerson cX3_ofPerson 3 (some .int) :: ((wsX3_ofPerson_r1 ++ wsX3_ofPerson_r2) ++ wsX30 ++ wsX20)
def wsX3_weight : List Cond := .code yX3_weight cX3_weight 2 (some .int) :: ([.fieldLink RX3 35 "TowerTell" "now" "LTowerTell$Tower;", .fieldLink RX3 92 "TowerTell$Tower" "weightOf" "[I", .methodLink RX3 89 yX2_isDeed, .instanceMethod yX2_isDeed, .selects RX2 yX2_isDeed yX2_isDeed, .initialized RX2, .code yX2_isDeed cX2_isDeed 2 (some .boolean), .fieldLink RX2 27 "TowerTell$Tower" "deeds" "I"] ++ wsX30 ++ wsX20)
def wsX3_weigh : List Cond := .code yX3_weigh cX3_weigh 4 (some .int) :: ([.fieldLink RX3 35 "TowerTell" "now" "LTowerTell$Tower;", .fieldLink RX3 92 "TowerTell$Tower" "weightOf" "[I", .methodLink RX3 89 yX2_isDeed, .instanceMethod yX2_isDeed, .selects RX2 yX2_isDeed yX2_isDeed, .initialized RX2, .code yX2_isDeed cX2_isDeed 2 (some .boolean), .fieldLink RX2 27 "TowerTell$Tower" "deeds" "I"] ++ wsX30 ++ wsX20)
def wsX3_storeys : List Cond := .code yX3_storeys cX3_storeys 3 (some .int) :: ([.fieldLink RX3 35 "TowerTell" "now" "LTowerTell$Tower;", .methodLink RX3 71 yX2_isPerson, .instanceMethod yX2_isPerson, .selects RX2 yX2_isPerson yX2_isPerson, .initialized RX2, .code yX2_isPerson cX2_isPerson 2 (some .boolean), .fieldLink RX2 31 "TowerTell$Tower" "people" "I", .methodLink RX3 89 yX2_isDeed, .instanceMethod yX2_isDeed, .selects RX2 yX2_isDeed yX2_isDeed, .code yX2_isDeed cX2_isDeed 2 (some .boolean), .fieldLink RX2 27 "TowerTell$Tower" "deeds" "I", .methodLink RX3 95 yX2_rise, .instanceMethod yX2_rise, .selects RX2 yX2_rise yX2_rise, .code yX2_rise cX2_rise 3 (some .int), .fieldLink RX2 15 "TowerTell$Tower" "kindOf" "[I", .fieldLink RX2 9 "TowerTell$Tower" "weightOf" "[I"] ++ wsX30 ++ wsX20)
def wsX3_say_r1 : List Cond := [Cond.fieldLink RX3 35 "TowerTell" "now" "LTowerTell$Tower;", Cond.methodLink RX3 71 yX2_isPerson, Cond.instanceMethod yX2_isPerson, Cond.selects RX2 yX2_isPerson yX2_isPerson, Cond.initialized RX2, Cond.code yX2_isPerson cX2_isPerson 2 (some .boolean), Cond.fieldLink RX2 31 "TowerTell$Tower" "people" "I", Cond.methodLink RX3 89 yX2_isDeed, Cond.instanceMethod yX2_isDeed, Cond.selects RX2 yX2_isDeed yX2_isDeed, Cond.code yX2_isDeed cX2_isDeed 2 (some .boolean), Cond.fieldLink RX2 27 "TowerTell$Tower" "deeds" "I", Cond.methodLink RX3 99 yX2_hasTold, Cond.instanceMethod yX2_hasTold, Cond.selects RX2 yX2_hasTold yX2_hasTold, Cond.code yX2_hasTold cX2_hasTold 3 (some .boolean), Cond.fieldLink RX2 24 "TowerTell$Tower" "toldBy" "[I", Cond.methodLink RX3 103 yX2_hear, Cond.instanceMethod yX2_hear, Cond.selects RX2 yX2_hear yX2_hear, Cond.code yX2_hear cX2_hear 3 none, Cond.fieldLink RX2 34 "TowerTell$Tower" "catches" "I", Cond.methodLink RX2 59 yX2_wouldBeCaught, Cond.instanceMethod yX2_wouldBeCaught]
def wsX3_say_r2 : List Cond := [Cond.selects RX2 yX2_wouldBeCaught yX2_wouldBeCaught, Cond.code yX2_wouldBeCaught cX2_wouldBeCaught 4 (some .boolean), Cond.fieldLink RX2 18 "TowerTell$Tower" "doneBy" "[I", Cond.fieldLink RX2 21 "TowerTell$Tower" "knownTo" "[I", Cond.methodLink RX2 50 yX2_floorOf, Cond.instanceMethod yX2_floorOf, Cond.selects RX2 yX2_floorOf yX2_floorOf, Cond.code yX2_floorOf cX2_floorOf 2 (some .int), Cond.methodLink RX2 47 yX2_floorBy, Cond.instanceMethod yX2_floorBy, Cond.selects RX2 yX2_floorBy yX2_floorBy, Cond.code yX2_floorBy cX2_floorBy 5 (some .int), Cond.methodLink RX2 43 yX2_rise, Cond.instanceMethod yX2_rise, Cond.selects RX2 yX2_rise yX2_rise, Cond.code yX2_rise cX2_rise 3 (some .int), Cond.fieldLink RX2 15 "TowerTell$Tower" "kindOf" "[I", Cond.fieldLink RX2 9 "TowerTell$Tower" "weightOf" "[I", Cond.methodLink RX3 86 yX2_floorOf]
def wsX3_say : List Cond := .code yX3_say cX3_say 3 (some .int) :: ((wsX3_say_r1 ++ wsX3_say_r2) ++ wsX30 ++ wsX20)
def wsX3_hush : List Cond := .code yX3_hush cX3_hush 3 (some .int) :: ([.fieldLink RX3 35 "TowerTell" "now" "LTowerTell$Tower;", .fieldLink RX3 83 "TowerTell$Tower" "toldBy" "[I", .methodLink RX3 71 yX2_isPerson, .instanceMethod yX2_isPerson, .selects RX2 yX2_isPerson yX2_isPerson, .initialized RX2, .code yX2_isPerson cX2_isPerson 2 (some .boolean), .fieldLink RX2 31 "TowerTell$Tower" "people" "I", .methodLink RX3 86 yX2_floorOf, .instanceMethod yX2_floorOf, .selects RX2 yX2_floorOf yX2_floorOf, .code yX2_floorOf cX2_floorOf 2 (some .int), .fieldLink RX2 24 "TowerTell$Tower" "toldBy" "[I", .methodLink RX2 47 yX2_floorBy, .instanceMethod yX2_floorBy, .selects RX2 yX2_floorBy yX2_floorBy, .code yX2_floorBy cX2_floorBy 5 (some .int), .fieldLink RX2 27 "TowerTell$Tower" "deeds" "I", .methodLink RX2 43 yX2_rise, .instanceMethod yX2_rise, .selects RX2 yX2_rise yX2_rise, .code yX2_rise cX2_rise 3 (some .int), .fieldLink RX2 15 "TowerTell$Tower" "kindOf" "[I", .fieldLink RX2 9 "TowerTell$Tower" "weightOf" "[I"] ++ wsX30 ++ wsX20)
def wsX3_landing : List Cond := .code yX3_landing cX3_landing 4 (some .int) :: ([.fieldLink RX3 35 "TowerTell" "now" "LTowerTell$Tower;", .fieldLink RX3 68 "TowerTell$Tower" "people" "I", .methodLink RX3 86 yX2_floorOf, .instanceMethod yX2_floorOf, .selects RX2 yX2_floorOf yX2_floorOf, .initialized RX2, .code yX2_floorOf cX2_floorOf 2 (some .int), .fieldLink RX2 24 "TowerTell$Tower" "toldBy" "[I", .methodLink RX2 47 yX2_floorBy, .instanceMethod yX2_floorBy, .selects RX2 yX2_floorBy yX2_floorBy, .code yX2_floorBy cX2_floorBy 5 (some .int), .fieldLink RX2 27 "TowerTell$Tower" "deeds" "I", .methodLink RX2 43 yX2_rise, .instanceMethod yX2_rise, .selects RX2 yX2_rise yX2_rise, .code yX2_rise cX2_rise 3 (some .int), .fieldLink RX2 15 "TowerTell$Tower" "kindOf" "[I", .fieldLink RX2 9 "TowerTell$Tower" "weightOf" "[I"] ++ wsX30 ++ wsX20)
def wsX3_isDaysLength : List Cond := .code yX3_isDaysLength cX3_isDaysLength 1 (some .boolean) :: ([])
def wsX3_isQuestion : List Cond := .code yX3_isQuestion cX3_isQuestion 1 (some .boolean) :: ([])
def wsX3_stopOfDays_r1 : List Cond := [Cond.fieldLink RX3 35 "TowerTell" "now" "LTowerTell$Tower;", Cond.fieldLink RX3 68 "TowerTell$Tower" "people" "I", Cond.fieldLink RX3 170 "TowerTell$Sheet" "cells" "[I", Cond.methodLink RX3 53 yX0_faultOf, Cond.instanceMethod yX0_faultOf, Cond.selects RX0 yX0_faultOf yX0_faultOf, Cond.initialized RX0, Cond.code yX0_faultOf cX0_faultOf 4 (some .int), Cond.fieldLink RX0 9 "TowerTell$Sheet" "lane" "I", Cond.methodLink RX0 22 yX0_isBare, Cond.instanceMethod yX0_isBare, Cond.selects RX0 yX0_isBare yX0_isBare, Cond.code yX0_isBare cX0_isBare 1 (some .boolean), Cond.methodLink RX0 26 yX0_holds, Cond.instanceMethod yX0_holds, Cond.selects RX0 yX0_holds yX0_holds, Cond.code yX0_holds cX0_holds 3 (some .boolean), Cond.fieldLink RX0 19 "TowerTell$Sheet" "length" "I", Cond.methodLink RX3 57 yX3_faulted, Cond.instanceMethod yX3_faulted, Cond.selects RX3 yX3_faulted yX3_faulted, Cond.initialized RX3, Cond.code yX3_faulted cX3_faulted 2 (some .int), Cond.fieldLink RX3 42 "TowerTell" "latestFault" "I"]
def wsX3_stopOfDays_r2 : List Cond := [Cond.methodLink RX3 71 yX2_isPerson, Cond.instanceMethod yX2_isPerson, Cond.selects RX2 yX2_isPerson yX2_isPerson, Cond.initialized RX2, Cond.code yX2_isPerson cX2_isPerson 2 (some .boolean), Cond.fieldLink RX2 31 "TowerTell$Tower" "people" "I", Cond.methodLink RX3 89 yX2_isDeed, Cond.instanceMethod yX2_isDeed, Cond.selects RX2 yX2_isDeed yX2_isDeed, Cond.code yX2_isDeed cX2_isDeed 2 (some .boolean), Cond.fieldLink RX2 27 "TowerTell$Tower" "deeds" "I"]
def wsX3_stopOfDays : List Cond := .code yX3_stopOfDays cX3_stopOfDays 7 (some .int) :: ((wsX3_stopOfDays_r1 ++ wsX3_stopOfDays_r2) ++ wsX30 ++ wsX20 ++ wsX00)
def wsX3_liveDays_r1 : List Cond := [Cond.fieldLink RX3 170 "TowerTell$Sheet" "cells" "[I", Cond.fieldLink RX3 39 "TowerTell" "trial" "LTowerTell$Tower;", Cond.methodLink RX3 99 yX2_hasTold, Cond.instanceMethod yX2_hasTold, Cond.selects RX2 yX2_hasTold yX2_hasTold, Cond.initialized RX2, Cond.code yX2_hasTold cX2_hasTold 3 (some .boolean), Cond.fieldLink RX2 24 "TowerTell$Tower" "toldBy" "[I", Cond.methodLink RX3 103 yX2_hear, Cond.instanceMethod yX2_hear, Cond.selects RX2 yX2_hear yX2_hear, Cond.code yX2_hear cX2_hear 3 none, Cond.fieldLink RX2 34 "TowerTell$Tower" "catches" "I", Cond.methodLink RX2 59 yX2_wouldBeCaught, Cond.instanceMethod yX2_wouldBeCaught, Cond.selects RX2 yX2_wouldBeCaught yX2_wouldBeCaught, Cond.code yX2_wouldBeCaught cX2_wouldBeCaught 4 (some .boolean), Cond.fieldLink RX2 18 "TowerTell$Tower" "doneBy" "[I", Cond.fieldLink RX2 31 "TowerTell$Tower" "people" "I", Cond.fieldLink RX2 21 "TowerTell$Tower" "knownTo" "[I", Cond.methodLink RX2 50 yX2_floorOf, Cond.instanceMethod yX2_floorOf, Cond.selects RX2 yX2_floorOf yX2_floorOf, Cond.code yX2_floorOf cX2_floorOf 2 (some .int)]
def wsX3_liveDays_r2 : List Cond := [Cond.methodLink RX2 47 yX2_floorBy, Cond.instanceMethod yX2_floorBy, Cond.selects RX2 yX2_floorBy yX2_floorBy, Cond.code yX2_floorBy cX2_floorBy 5 (some .int), Cond.fieldLink RX2 27 "TowerTell$Tower" "deeds" "I", Cond.methodLink RX2 43 yX2_rise, Cond.instanceMethod yX2_rise, Cond.selects RX2 yX2_rise yX2_rise, Cond.code yX2_rise cX2_rise 3 (some .int), Cond.fieldLink RX2 15 "TowerTell$Tower" "kindOf" "[I", Cond.fieldLink RX2 9 "TowerTell$Tower" "weightOf" "[I"]
def wsX3_liveDays : List Cond := .code yX3_liveDays cX3_liveDays 7 (some .int) :: ((wsX3_liveDays_r1 ++ wsX3_liveDays_r2) ++ wsX00 ++ wsX30 ++ wsX20)
def wsX3_answerOfTrial_r1 : List Cond := [Cond.fieldLink RX3 39 "TowerTell" "trial" "LTowerTell$Tower;", Cond.fieldLink RX3 201 "TowerTell$Tower" "catches" "I", Cond.fieldLink RX3 83 "TowerTell$Tower" "toldBy" "[I", Cond.methodLink RX3 204 yX2_highestFloor, Cond.instanceMethod yX2_highestFloor, Cond.selects RX2 yX2_highestFloor yX2_highestFloor, Cond.initialized RX2, Cond.code yX2_highestFloor cX2_highestFloor 3 (some .int), Cond.fieldLink RX2 31 "TowerTell$Tower" "people" "I", Cond.methodLink RX2 54 Lib.Math.max.name, Cond.static Lib.Math.max.name, Cond.initialized "java/lang/Math", Cond.code Lib.Math.max.name Lib.Math.max.code 2 (some .int), Cond.methodLink RX2 50 yX2_floorOf, Cond.instanceMethod yX2_floorOf, Cond.selects RX2 yX2_floorOf yX2_floorOf, Cond.code yX2_floorOf cX2_floorOf 2 (some .int), Cond.fieldLink RX2 24 "TowerTell$Tower" "toldBy" "[I", Cond.methodLink RX2 47 yX2_floorBy, Cond.instanceMethod yX2_floorBy, Cond.selects RX2 yX2_floorBy yX2_floorBy, Cond.code yX2_floorBy cX2_floorBy 5 (some .int), Cond.fieldLink RX2 27 "TowerTell$Tower" "deeds" "I", Cond.methodLink RX2 43 yX2_rise]
def wsX3_answerOfTrial_r2 : List Cond := [Cond.instanceMethod yX2_rise, Cond.selects RX2 yX2_rise yX2_rise, Cond.code yX2_rise cX2_rise 3 (some .int), Cond.fieldLink RX2 15 "TowerTell$Tower" "kindOf" "[I", Cond.fieldLink RX2 9 "TowerTell$Tower" "weightOf" "[I", Cond.methodLink RX3 71 yX2_isPerson, Cond.instanceMethod yX2_isPerson, Cond.selects RX2 yX2_isPerson yX2_isPerson, Cond.code yX2_isPerson cX2_isPerson 2 (some .boolean), Cond.methodLink RX3 86 yX2_floorOf]
def wsX3_answerOfTrial : List Cond := .code yX3_answerOfTrial cX3_answerOfTrial 3 (some .int) :: ((wsX3_answerOfTrial_r1 ++ wsX3_answerOfTrial_r2) ++ wsX30 ++ wsX20)
def wsX3_days_r1 : List Cond := [Cond.fieldLink RX3 42 "TowerTell" "latestFault" "I", Cond.fieldLink RX3 13 "TowerTell" "sheets" "[LTowerTell$Sheet;", Cond.fieldLink RX3 39 "TowerTell" "trial" "LTowerTell$Tower;", Cond.fieldLink RX3 35 "TowerTell" "now" "LTowerTell$Tower;", Cond.methodLink RX3 46 yX3_isSheet, Cond.static yX3_isSheet, Cond.initialized RX3, Cond.code yX3_isSheet cX3_isSheet 1 (some .boolean), Cond.methodLink RX3 50 yX3_isLane, Cond.static yX3_isLane, Cond.code yX3_isLane cX3_isLane 1 (some .boolean), Cond.methodLink RX3 107 yX3_isDaysLength, Cond.static yX3_isDaysLength, Cond.code yX3_isDaysLength cX3_isDaysLength 1 (some .boolean), Cond.methodLink RX3 110 yX3_isQuestion, Cond.static yX3_isQuestion, Cond.code yX3_isQuestion cX3_isQuestion 1 (some .boolean), Cond.methodLink RX3 113 yX3_stopOfDays, Cond.instanceMethod yX3_stopOfDays, Cond.selects RX3 yX3_stopOfDays yX3_stopOfDays, Cond.code yX3_stopOfDays cX3_stopOfDays 7 (some .int), Cond.fieldLink RX3 68 "TowerTell$Tower" "people" "I", Cond.fieldLink RX3 170 "TowerTell$Sheet" "cells" "[I", Cond.methodLink RX3 53 yX0_faultOf]
def wsX3_days_r2 : List Cond := [Cond.instanceMethod yX0_faultOf, Cond.selects RX0 yX0_faultOf yX0_faultOf, Cond.initialized RX0, Cond.code yX0_faultOf cX0_faultOf 4 (some .int), Cond.fieldLink RX0 9 "TowerTell$Sheet" "lane" "I", Cond.methodLink RX0 22 yX0_isBare, Cond.instanceMethod yX0_isBare, Cond.selects RX0 yX0_isBare yX0_isBare, Cond.code yX0_isBare cX0_isBare 1 (some .boolean), Cond.methodLink RX0 26 yX0_holds, Cond.instanceMethod yX0_holds, Cond.selects RX0 yX0_holds yX0_holds, Cond.code yX0_holds cX0_holds 3 (some .boolean), Cond.fieldLink RX0 19 "TowerTell$Sheet" "length" "I", Cond.methodLink RX3 57 yX3_faulted, Cond.instanceMethod yX3_faulted, Cond.selects RX3 yX3_faulted yX3_faulted, Cond.code yX3_faulted cX3_faulted 2 (some .int), Cond.methodLink RX3 71 yX2_isPerson, Cond.instanceMethod yX2_isPerson, Cond.selects RX2 yX2_isPerson yX2_isPerson, Cond.initialized RX2, Cond.code yX2_isPerson cX2_isPerson 2 (some .boolean), Cond.fieldLink RX2 31 "TowerTell$Tower" "people" "I"]
def wsX3_days_r3 : List Cond := [Cond.methodLink RX3 89 yX2_isDeed, Cond.instanceMethod yX2_isDeed, Cond.selects RX2 yX2_isDeed yX2_isDeed, Cond.code yX2_isDeed cX2_isDeed 2 (some .boolean), Cond.fieldLink RX2 27 "TowerTell$Tower" "deeds" "I", Cond.methodLink RX3 117 yX2_become, Cond.instanceMethod yX2_become, Cond.selects RX2 yX2_become yX2_become, Cond.code yX2_become cX2_become 2 none, Cond.fieldLink RX2 34 "TowerTell$Tower" "catches" "I", Cond.fieldLink RX2 9 "TowerTell$Tower" "weightOf" "[I", Cond.methodLink RX2 37 arraycopyName, Cond.native arraycopyName, Cond.static arraycopyName, Cond.initialized "java/lang/System", Cond.fieldLink RX2 15 "TowerTell$Tower" "kindOf" "[I", Cond.fieldLink RX2 18 "TowerTell$Tower" "doneBy" "[I", Cond.fieldLink RX2 21 "TowerTell$Tower" "knownTo" "[I", Cond.fieldLink RX2 24 "TowerTell$Tower" "toldBy" "[I", Cond.methodLink RX3 121 yX3_liveDays, Cond.instanceMethod yX3_liveDays, Cond.selects RX3 yX3_liveDays yX3_liveDays, Cond.code yX3_liveDays cX3_liveDays 7 (some .int), Cond.methodLink RX3 99 yX2_hasTold]
def wsX3_days_r4 : List Cond := [Cond.instanceMethod yX2_hasTold, Cond.selects RX2 yX2_hasTold yX2_hasTold, Cond.code yX2_hasTold cX2_hasTold 3 (some .boolean), Cond.methodLink RX3 103 yX2_hear, Cond.instanceMethod yX2_hear, Cond.selects RX2 yX2_hear yX2_hear, Cond.code yX2_hear cX2_hear 3 none, Cond.methodLink RX2 59 yX2_wouldBeCaught, Cond.instanceMethod yX2_wouldBeCaught, Cond.selects RX2 yX2_wouldBeCaught yX2_wouldBeCaught, Cond.code yX2_wouldBeCaught cX2_wouldBeCaught 4 (some .boolean), Cond.methodLink RX2 50 yX2_floorOf, Cond.instanceMethod yX2_floorOf, Cond.selects RX2 yX2_floorOf yX2_floorOf, Cond.code yX2_floorOf cX2_floorOf 2 (some .int), Cond.methodLink RX2 47 yX2_floorBy, Cond.instanceMethod yX2_floorBy, Cond.selects RX2 yX2_floorBy yX2_floorBy, Cond.code yX2_floorBy cX2_floorBy 5 (some .int), Cond.methodLink RX2 43 yX2_rise, Cond.instanceMethod yX2_rise, Cond.selects RX2 yX2_rise yX2_rise, Cond.code yX2_rise cX2_rise 3 (some .int), Cond.methodLink RX3 125 yX3_answerOfTrial]
def wsX3_days_r5 : List Cond := [Cond.instanceMethod yX3_answerOfTrial, Cond.selects RX3 yX3_answerOfTrial yX3_answerOfTrial, Cond.code yX3_answerOfTrial cX3_answerOfTrial 3 (some .int), Cond.fieldLink RX3 201 "TowerTell$Tower" "catches" "I", Cond.fieldLink RX3 83 "TowerTell$Tower" "toldBy" "[I", Cond.methodLink RX3 204 yX2_highestFloor, Cond.instanceMethod yX2_highestFloor, Cond.selects RX2 yX2_highestFloor yX2_highestFloor, Cond.code yX2_highestFloor cX2_highestFloor 3 (some .int), Cond.methodLink RX2 54 Lib.Math.max.name, Cond.static Lib.Math.max.name, Cond.initialized "java/lang/Math", Cond.code Lib.Math.max.name Lib.Math.max.code 2 (some .int), Cond.methodLink RX3 86 yX2_floorOf]
def wsX3_days : List Cond := .code yX3_days cX3_days 8 (some .int) :: ((wsX3_days_r1 ++ (wsX3_days_r2 ++ (wsX3_days_r3 ++ (wsX3_days_r4 ++ wsX3_days_r5)))) ++ wsX30 ++ wsX20 ++ wsX00)
def wsX3_isWithin : List Cond := .code yX3_isWithin cX3_isWithin 2 (some .boolean) :: ([])
def wsJ6_bitCount_0f7a4 : List Cond := .code yJ6_bitCount_0f7a4 cJ6_bitCount_0f7a4 1 (some .int) :: ([.constant RJ6 265 (1431655765), .constant RJ6 266 (858993459), .constant RJ6 267 (252645135)])
def wsX3_way_r1 : List Cond := [Cond.fieldLink RX3 35 "TowerTell" "now" "LTowerTell$Tower;", Cond.methodLink RX3 71 yX2_isPerson, Cond.instanceMethod yX2_isPerson, Cond.selects RX2 yX2_isPerson yX2_isPerson, Cond.initialized RX2, Cond.code yX2_isPerson cX2_isPerson 2 (some .boolean), Cond.fieldLink RX2 31 "TowerTell$Tower" "people" "I", Cond.methodLink RX3 77 yX2_truthsOf, Cond.instanceMethod yX2_truthsOf, Cond.selects RX2 yX2_truthsOf yX2_truthsOf, Cond.code yX2_truthsOf cX2_truthsOf 2 (some .int), Cond.fieldLink RX2 18 "TowerTell$Tower" "doneBy" "[I", Cond.fieldLink RX2 27 "TowerTell$Tower" "deeds" "I", Cond.methodLink RX3 128 yX3_isWithin, Cond.static yX3_isWithin, Cond.initialized RX3, Cond.code yX3_isWithin cX3_isWithin 2 (some .boolean), Cond.methodLink RX3 131 yX2_floorBy, Cond.instanceMethod yX2_floorBy, Cond.selects RX2 yX2_floorBy yX2_floorBy, Cond.code yX2_floorBy cX2_floorBy 5 (some .int), Cond.methodLink RX2 43 yX2_rise, Cond.instanceMethod yX2_rise, Cond.selects RX2 yX2_rise yX2_rise]
def wsX3_way_r2 : List Cond := [Cond.code yX2_rise cX2_rise 3 (some .int), Cond.fieldLink RX2 15 "TowerTell$Tower" "kindOf" "[I", Cond.fieldLink RX2 9 "TowerTell$Tower" "weightOf" "[I", Cond.methodLink RX3 134 yJ6_bitCount_0f7a4, Cond.static yJ6_bitCount_0f7a4, Cond.initialized RJ6, Cond.code yJ6_bitCount_0f7a4 cJ6_bitCount_0f7a4 1 (some .int), Cond.constant RJ6 265 (1431655765), Cond.constant RJ6 266 (858993459), Cond.constant RJ6 267 (252645135)]
def wsX3_way : List Cond := .code yX3_way cX3_way 7 (some .int) :: ((wsX3_way_r1 ++ wsX3_way_r2) ++ wsX30 ++ wsX20)
def wsX3_kept_r1 : List Cond := [Cond.fieldLink RX3 35 "TowerTell" "now" "LTowerTell$Tower;", Cond.methodLink RX3 71 yX2_isPerson, Cond.instanceMethod yX2_isPerson, Cond.selects RX2 yX2_isPerson yX2_isPerson, Cond.initialized RX2, Cond.code yX2_isPerson cX2_isPerson 2 (some .boolean), Cond.fieldLink RX2 31 "TowerTell$Tower" "people" "I", Cond.methodLink RX3 77 yX2_truthsOf, Cond.instanceMethod yX2_truthsOf, Cond.selects RX2 yX2_truthsOf yX2_truthsOf, Cond.code yX2_truthsOf cX2_truthsOf 2 (some .int), Cond.fieldLink RX2 18 "TowerTell$Tower" "doneBy" "[I", Cond.fieldLink RX2 27 "TowerTell$Tower" "deeds" "I", Cond.methodLink RX3 128 yX3_isWithin, Cond.static yX3_isWithin, Cond.initialized RX3, Cond.code yX3_isWithin cX3_isWithin 2 (some .boolean), Cond.methodLink RX3 131 yX2_floorBy, Cond.instanceMethod yX2_floorBy, Cond.selects RX2 yX2_floorBy yX2_floorBy, Cond.code yX2_floorBy cX2_floorBy 5 (some .int), Cond.methodLink RX2 43 yX2_rise, Cond.instanceMethod yX2_rise, Cond.selects RX2 yX2_rise yX2_rise]
def wsX3_kept_r2 : List Cond := [Cond.code yX2_rise cX2_rise 3 (some .int), Cond.fieldLink RX2 15 "TowerTell$Tower" "kindOf" "[I", Cond.fieldLink RX2 9 "TowerTell$Tower" "weightOf" "[I"]
def wsX3_kept : List Cond := .code yX3_kept cX3_kept 6 (some .int) :: ((wsX3_kept_r1 ++ wsX3_kept_r2) ++ wsX30 ++ wsX20)
def wsX3_roof : List Cond := .code yX3_roof cX3_roof 2 (some .int) :: ([.fieldLink RX3 35 "TowerTell" "now" "LTowerTell$Tower;", .methodLink RX3 71 yX2_isPerson, .instanceMethod yX2_isPerson, .selects RX2 yX2_isPerson yX2_isPerson, .initialized RX2, .code yX2_isPerson cX2_isPerson 2 (some .boolean), .fieldLink RX2 31 "TowerTell$Tower" "people" "I", .methodLink RX3 77 yX2_truthsOf, .instanceMethod yX2_truthsOf, .selects RX2 yX2_truthsOf yX2_truthsOf, .code yX2_truthsOf cX2_truthsOf 2 (some .int), .fieldLink RX2 18 "TowerTell$Tower" "doneBy" "[I", .fieldLink RX2 27 "TowerTell$Tower" "deeds" "I", .methodLink RX3 131 yX2_floorBy, .instanceMethod yX2_floorBy, .selects RX2 yX2_floorBy yX2_floorBy, .code yX2_floorBy cX2_floorBy 5 (some .int), .methodLink RX2 43 yX2_rise, .instanceMethod yX2_rise, .selects RX2 yX2_rise yX2_rise, .code yX2_rise cX2_rise 3 (some .int), .fieldLink RX2 15 "TowerTell$Tower" "kindOf" "[I", .fieldLink RX2 9 "TowerTell$Tower" "weightOf" "[I"] ++ wsX30 ++ wsX20)
def wsX3_safe_r1 : List Cond := [Cond.fieldLink RX3 35 "TowerTell" "now" "LTowerTell$Tower;", Cond.fieldLink RX3 139 "TowerTell$Tower" "deeds" "I", Cond.methodLink RX3 71 yX2_isPerson, Cond.instanceMethod yX2_isPerson, Cond.selects RX2 yX2_isPerson yX2_isPerson, Cond.initialized RX2, Cond.code yX2_isPerson cX2_isPerson 2 (some .boolean), Cond.fieldLink RX2 31 "TowerTell$Tower" "people" "I", Cond.methodLink RX3 99 yX2_hasTold, Cond.instanceMethod yX2_hasTold, Cond.selects RX2 yX2_hasTold yX2_hasTold, Cond.code yX2_hasTold cX2_hasTold 3 (some .boolean), Cond.fieldLink RX2 24 "TowerTell$Tower" "toldBy" "[I", Cond.methodLink RX3 142 yX2_wouldBeCaught, Cond.instanceMethod yX2_wouldBeCaught, Cond.selects RX2 yX2_wouldBeCaught yX2_wouldBeCaught, Cond.code yX2_wouldBeCaught cX2_wouldBeCaught 4 (some .boolean), Cond.fieldLink RX2 18 "TowerTell$Tower" "doneBy" "[I", Cond.fieldLink RX2 21 "TowerTell$Tower" "knownTo" "[I", Cond.methodLink RX2 50 yX2_floorOf, Cond.instanceMethod yX2_floorOf, Cond.selects RX2 yX2_floorOf yX2_floorOf, Cond.code yX2_floorOf cX2_floorOf 2 (some .int), Cond.methodLink RX2 47 yX2_floorBy]
def wsX3_safe_r2 : List Cond := [Cond.instanceMethod yX2_floorBy, Cond.selects RX2 yX2_floorBy yX2_floorBy, Cond.code yX2_floorBy cX2_floorBy 5 (some .int), Cond.fieldLink RX2 27 "TowerTell$Tower" "deeds" "I", Cond.methodLink RX2 43 yX2_rise, Cond.instanceMethod yX2_rise, Cond.selects RX2 yX2_rise yX2_rise, Cond.code yX2_rise cX2_rise 3 (some .int), Cond.fieldLink RX2 15 "TowerTell$Tower" "kindOf" "[I", Cond.fieldLink RX2 9 "TowerTell$Tower" "weightOf" "[I"]
def wsX3_safe : List Cond := .code yX3_safe cX3_safe 4 (some .int) :: ((wsX3_safe_r1 ++ wsX3_safe_r2) ++ wsX30 ++ wsX20)
def wsX3_reading : List Cond := .code yX3_reading cX3_reading 3 (some .int) :: ([.fieldLink RX3 35 "TowerTell" "now" "LTowerTell$Tower;", .fieldLink RX3 65 "TowerTell" "readings" "I", .fieldLink RX3 25 "TowerTell" "readPerson" "[I", .fieldLink RX3 29 "TowerTell" "readFloor" "[I", .methodLink RX3 71 yX2_isPerson, .instanceMethod yX2_isPerson, .selects RX2 yX2_isPerson yX2_isPerson, .initialized RX2, .code yX2_isPerson cX2_isPerson 2 (some .boolean), .fieldLink RX2 31 "TowerTell$Tower" "people" "I"] ++ wsX30 ++ wsX20)
def wsX3_back : List Cond := .code yX3_back cX3_back 2 (some .int) :: ([.fieldLink RX3 65 "TowerTell" "readings" "I"] ++ wsX30)
def wsX3_stopOfGuess_r1 : List Cond := [Cond.fieldLink RX3 42 "TowerTell" "latestFault" "I", Cond.fieldLink RX3 13 "TowerTell" "sheets" "[LTowerTell$Sheet;", Cond.methodLink RX3 46 yX3_isSheet, Cond.static yX3_isSheet, Cond.initialized RX3, Cond.code yX3_isSheet cX3_isSheet 1 (some .boolean), Cond.methodLink RX3 50 yX3_isLane, Cond.static yX3_isLane, Cond.code yX3_isLane cX3_isLane 1 (some .boolean), Cond.methodLink RX3 107 yX3_isDaysLength, Cond.static yX3_isDaysLength, Cond.code yX3_isDaysLength cX3_isDaysLength 1 (some .boolean), Cond.methodLink RX3 113 yX3_stopOfDays, Cond.instanceMethod yX3_stopOfDays, Cond.selects RX3 yX3_stopOfDays yX3_stopOfDays, Cond.code yX3_stopOfDays cX3_stopOfDays 7 (some .int), Cond.fieldLink RX3 35 "TowerTell" "now" "LTowerTell$Tower;", Cond.fieldLink RX3 68 "TowerTell$Tower" "people" "I", Cond.fieldLink RX3 170 "TowerTell$Sheet" "cells" "[I", Cond.methodLink RX3 53 yX0_faultOf, Cond.instanceMethod yX0_faultOf, Cond.selects RX0 yX0_faultOf yX0_faultOf, Cond.initialized RX0, Cond.code yX0_faultOf cX0_faultOf 4 (some .int)]
def wsX3_stopOfGuess_r2 : List Cond := [Cond.fieldLink RX0 9 "TowerTell$Sheet" "lane" "I", Cond.methodLink RX0 22 yX0_isBare, Cond.instanceMethod yX0_isBare, Cond.selects RX0 yX0_isBare yX0_isBare, Cond.code yX0_isBare cX0_isBare 1 (some .boolean), Cond.methodLink RX0 26 yX0_holds, Cond.instanceMethod yX0_holds, Cond.selects RX0 yX0_holds yX0_holds, Cond.code yX0_holds cX0_holds 3 (some .boolean), Cond.fieldLink RX0 19 "TowerTell$Sheet" "length" "I", Cond.methodLink RX3 57 yX3_faulted, Cond.instanceMethod yX3_faulted, Cond.selects RX3 yX3_faulted yX3_faulted, Cond.code yX3_faulted cX3_faulted 2 (some .int), Cond.methodLink RX3 71 yX2_isPerson, Cond.instanceMethod yX2_isPerson, Cond.selects RX2 yX2_isPerson yX2_isPerson, Cond.initialized RX2, Cond.code yX2_isPerson cX2_isPerson 2 (some .boolean), Cond.fieldLink RX2 31 "TowerTell$Tower" "people" "I", Cond.methodLink RX3 89 yX2_isDeed, Cond.instanceMethod yX2_isDeed, Cond.selects RX2 yX2_isDeed yX2_isDeed, Cond.code yX2_isDeed cX2_isDeed 2 (some .boolean)]
def wsX3_stopOfGuess_r3 : List Cond := [Cond.fieldLink RX2 27 "TowerTell$Tower" "deeds" "I"]
def wsX3_stopOfGuess : List Cond := .code yX3_stopOfGuess cX3_stopOfGuess 6 (some .int) :: ((wsX3_stopOfGuess_r1 ++ (wsX3_stopOfGuess_r2 ++ wsX3_stopOfGuess_r3)) ++ wsX30 ++ wsX20 ++ wsX00)
def wsX3_readingsAreSo : List Cond := .code yX3_readingsAreSo cX3_readingsAreSo 2 (some .boolean) :: ([.fieldLink RX3 65 "TowerTell" "readings" "I", .fieldLink RX3 39 "TowerTell" "trial" "LTowerTell$Tower;", .fieldLink RX3 25 "TowerTell" "readPerson" "[I", .fieldLink RX3 29 "TowerTell" "readFloor" "[I", .methodLink RX3 86 yX2_floorOf, .instanceMethod yX2_floorOf, .selects RX2 yX2_floorOf yX2_floorOf, .initialized RX2, .code yX2_floorOf cX2_floorOf 2 (some .int), .fieldLink RX2 24 "TowerTell$Tower" "toldBy" "[I", .methodLink RX2 47 yX2_floorBy, .instanceMethod yX2_floorBy, .selects RX2 yX2_floorBy yX2_floorBy, .code yX2_floorBy cX2_floorBy 5 (some .int), .fieldLink RX2 27 "TowerTell$Tower" "deeds" "I", .methodLink RX2 43 yX2_rise, .instanceMethod yX2_rise, .selects RX2 yX2_rise yX2_rise, .code yX2_rise cX2_rise 3 (some .int), .fieldLink RX2 15 "TowerTell$Tower" "kindOf" "[I", .fieldLink RX2 9 "TowerTell$Tower" "weightOf" "[I"] ++ wsX30 ++ wsX20)
def wsX3_weights_r1 : List Cond := [Cond.fieldLink RX3 35 "TowerTell" "now" "LTowerTell$Tower;", Cond.fieldLink RX3 39 "TowerTell" "trial" "LTowerTell$Tower;", Cond.fieldLink RX3 92 "TowerTell$Tower" "weightOf" "[I", Cond.fieldLink RX3 13 "TowerTell" "sheets" "[LTowerTell$Sheet;", Cond.methodLink RX3 89 yX2_isDeed, Cond.instanceMethod yX2_isDeed, Cond.selects RX2 yX2_isDeed yX2_isDeed, Cond.initialized RX2, Cond.code yX2_isDeed cX2_isDeed 2 (some .boolean), Cond.fieldLink RX2 27 "TowerTell$Tower" "deeds" "I", Cond.methodLink RX3 145 yX3_stopOfGuess, Cond.instanceMethod yX3_stopOfGuess, Cond.selects RX3 yX3_stopOfGuess yX3_stopOfGuess, Cond.initialized RX3, Cond.code yX3_stopOfGuess cX3_stopOfGuess 6 (some .int), Cond.fieldLink RX3 42 "TowerTell" "latestFault" "I", Cond.methodLink RX3 46 yX3_isSheet, Cond.static yX3_isSheet, Cond.code yX3_isSheet cX3_isSheet 1 (some .boolean), Cond.methodLink RX3 50 yX3_isLane, Cond.static yX3_isLane, Cond.code yX3_isLane cX3_isLane 1 (some .boolean), Cond.methodLink RX3 107 yX3_isDaysLength, Cond.static yX3_isDaysLength]
def wsX3_weights_r2 : List Cond := [Cond.code yX3_isDaysLength cX3_isDaysLength 1 (some .boolean), Cond.methodLink RX3 113 yX3_stopOfDays, Cond.instanceMethod yX3_stopOfDays, Cond.selects RX3 yX3_stopOfDays yX3_stopOfDays, Cond.code yX3_stopOfDays cX3_stopOfDays 7 (some .int), Cond.fieldLink RX3 68 "TowerTell$Tower" "people" "I", Cond.fieldLink RX3 170 "TowerTell$Sheet" "cells" "[I", Cond.methodLink RX3 53 yX0_faultOf, Cond.instanceMethod yX0_faultOf, Cond.selects RX0 yX0_faultOf yX0_faultOf, Cond.initialized RX0, Cond.code yX0_faultOf cX0_faultOf 4 (some .int), Cond.fieldLink RX0 9 "TowerTell$Sheet" "lane" "I", Cond.methodLink RX0 22 yX0_isBare, Cond.instanceMethod yX0_isBare, Cond.selects RX0 yX0_isBare yX0_isBare, Cond.code yX0_isBare cX0_isBare 1 (some .boolean), Cond.methodLink RX0 26 yX0_holds, Cond.instanceMethod yX0_holds, Cond.selects RX0 yX0_holds yX0_holds, Cond.code yX0_holds cX0_holds 3 (some .boolean), Cond.fieldLink RX0 19 "TowerTell$Sheet" "length" "I", Cond.methodLink RX3 57 yX3_faulted, Cond.instanceMethod yX3_faulted]
def wsX3_weights_r3 : List Cond := [Cond.selects RX3 yX3_faulted yX3_faulted, Cond.code yX3_faulted cX3_faulted 2 (some .int), Cond.methodLink RX3 71 yX2_isPerson, Cond.instanceMethod yX2_isPerson, Cond.selects RX2 yX2_isPerson yX2_isPerson, Cond.code yX2_isPerson cX2_isPerson 2 (some .boolean), Cond.fieldLink RX2 31 "TowerTell$Tower" "people" "I", Cond.methodLink RX3 117 yX2_become, Cond.instanceMethod yX2_become, Cond.selects RX2 yX2_become yX2_become, Cond.code yX2_become cX2_become 2 none, Cond.fieldLink RX2 34 "TowerTell$Tower" "catches" "I", Cond.fieldLink RX2 9 "TowerTell$Tower" "weightOf" "[I", Cond.methodLink RX2 37 arraycopyName, Cond.native arraycopyName, Cond.static arraycopyName, Cond.initialized "java/lang/System", Cond.fieldLink RX2 15 "TowerTell$Tower" "kindOf" "[I", Cond.fieldLink RX2 18 "TowerTell$Tower" "doneBy" "[I", Cond.fieldLink RX2 21 "TowerTell$Tower" "knownTo" "[I", Cond.fieldLink RX2 24 "TowerTell$Tower" "toldBy" "[I", Cond.methodLink RX3 121 yX3_liveDays, Cond.instanceMethod yX3_liveDays, Cond.selects RX3 yX3_liveDays yX3_liveDays]
def wsX3_weights_r4 : List Cond := [Cond.code yX3_liveDays cX3_liveDays 7 (some .int), Cond.methodLink RX3 99 yX2_hasTold, Cond.instanceMethod yX2_hasTold, Cond.selects RX2 yX2_hasTold yX2_hasTold, Cond.code yX2_hasTold cX2_hasTold 3 (some .boolean), Cond.methodLink RX3 103 yX2_hear, Cond.instanceMethod yX2_hear, Cond.selects RX2 yX2_hear yX2_hear, Cond.code yX2_hear cX2_hear 3 none, Cond.methodLink RX2 59 yX2_wouldBeCaught, Cond.instanceMethod yX2_wouldBeCaught, Cond.selects RX2 yX2_wouldBeCaught yX2_wouldBeCaught, Cond.code yX2_wouldBeCaught cX2_wouldBeCaught 4 (some .boolean), Cond.methodLink RX2 50 yX2_floorOf, Cond.instanceMethod yX2_floorOf, Cond.selects RX2 yX2_floorOf yX2_floorOf, Cond.code yX2_floorOf cX2_floorOf 2 (some .int), Cond.methodLink RX2 47 yX2_floorBy, Cond.instanceMethod yX2_floorBy, Cond.selects RX2 yX2_floorBy yX2_floorBy, Cond.code yX2_floorBy cX2_floorBy 5 (some .int), Cond.methodLink RX2 43 yX2_rise, Cond.instanceMethod yX2_rise, Cond.selects RX2 yX2_rise yX2_rise]
def wsX3_weights_r5 : List Cond := [Cond.code yX2_rise cX2_rise 3 (some .int), Cond.methodLink RX3 149 yX3_readingsAreSo, Cond.instanceMethod yX3_readingsAreSo, Cond.selects RX3 yX3_readingsAreSo yX3_readingsAreSo, Cond.code yX3_readingsAreSo cX3_readingsAreSo 2 (some .boolean), Cond.fieldLink RX3 65 "TowerTell" "readings" "I", Cond.fieldLink RX3 25 "TowerTell" "readPerson" "[I", Cond.fieldLink RX3 29 "TowerTell" "readFloor" "[I", Cond.methodLink RX3 86 yX2_floorOf]
def wsX3_weights : List Cond := .code yX3_weights cX3_weights 9 (some .int) :: ((wsX3_weights_r1 ++ (wsX3_weights_r2 ++ (wsX3_weights_r3 ++ (wsX3_weights_r4 ++ wsX3_weights_r5)))) ++ wsX30 ++ wsX20 ++ wsX00)
def wsX3_kinds_r1 : List Cond := [Cond.fieldLink RX3 35 "TowerTell" "now" "LTowerTell$Tower;", Cond.fieldLink RX3 39 "TowerTell" "trial" "LTowerTell$Tower;", Cond.fieldLink RX3 74 "TowerTell$Tower" "kindOf" "[I", Cond.fieldLink RX3 13 "TowerTell" "sheets" "[LTowerTell$Sheet;", Cond.methodLink RX3 71 yX2_isPerson, Cond.instanceMethod yX2_isPerson, Cond.selects RX2 yX2_isPerson yX2_isPerson, Cond.initialized RX2, Cond.code yX2_isPerson cX2_isPerson 2 (some .boolean), Cond.fieldLink RX2 31 "TowerTell$Tower" "people" "I", Cond.methodLink RX3 145 yX3_stopOfGuess, Cond.instanceMethod yX3_stopOfGuess, Cond.selects RX3 yX3_stopOfGuess yX3_stopOfGuess, Cond.initialized RX3, Cond.code yX3_stopOfGuess cX3_stopOfGuess 6 (some .int), Cond.fieldLink RX3 42 "TowerTell" "latestFault" "I", Cond.methodLink RX3 46 yX3_isSheet, Cond.static yX3_isSheet, Cond.code yX3_isSheet cX3_isSheet 1 (some .boolean), Cond.methodLink RX3 50 yX3_isLane, Cond.static yX3_isLane, Cond.code yX3_isLane cX3_isLane 1 (some .boolean), Cond.methodLink RX3 107 yX3_isDaysLength, Cond.static yX3_isDaysLength]
def wsX3_kinds_r2 : List Cond := [Cond.code yX3_isDaysLength cX3_isDaysLength 1 (some .boolean), Cond.methodLink RX3 113 yX3_stopOfDays, Cond.instanceMethod yX3_stopOfDays, Cond.selects RX3 yX3_stopOfDays yX3_stopOfDays, Cond.code yX3_stopOfDays cX3_stopOfDays 7 (some .int), Cond.fieldLink RX3 68 "TowerTell$Tower" "people" "I", Cond.fieldLink RX3 170 "TowerTell$Sheet" "cells" "[I", Cond.methodLink RX3 53 yX0_faultOf, Cond.instanceMethod yX0_faultOf, Cond.selects RX0 yX0_faultOf yX0_faultOf, Cond.initialized RX0, Cond.code yX0_faultOf cX0_faultOf 4 (some .int), Cond.fieldLink RX0 9 "TowerTell$Sheet" "lane" "I", Cond.methodLink RX0 22 yX0_isBare, Cond.instanceMethod yX0_isBare, Cond.selects RX0 yX0_isBare yX0_isBare, Cond.code yX0_isBare cX0_isBare 1 (some .boolean), Cond.methodLink RX0 26 yX0_holds, Cond.instanceMethod yX0_holds, Cond.selects RX0 yX0_holds yX0_holds, Cond.code yX0_holds cX0_holds 3 (some .boolean), Cond.fieldLink RX0 19 "TowerTell$Sheet" "length" "I", Cond.methodLink RX3 57 yX3_faulted, Cond.instanceMethod yX3_faulted]
def wsX3_kinds_r3 : List Cond := [Cond.selects RX3 yX3_faulted yX3_faulted, Cond.code yX3_faulted cX3_faulted 2 (some .int), Cond.methodLink RX3 89 yX2_isDeed, Cond.instanceMethod yX2_isDeed, Cond.selects RX2 yX2_isDeed yX2_isDeed, Cond.code yX2_isDeed cX2_isDeed 2 (some .boolean), Cond.fieldLink RX2 27 "TowerTell$Tower" "deeds" "I", Cond.methodLink RX3 117 yX2_become, Cond.instanceMethod yX2_become, Cond.selects RX2 yX2_become yX2_become, Cond.code yX2_become cX2_become 2 none, Cond.fieldLink RX2 34 "TowerTell$Tower" "catches" "I", Cond.fieldLink RX2 9 "TowerTell$Tower" "weightOf" "[I", Cond.methodLink RX2 37 arraycopyName, Cond.native arraycopyName, Cond.static arraycopyName, Cond.initialized "java/lang/System", Cond.fieldLink RX2 15 "TowerTell$Tower" "kindOf" "[I", Cond.fieldLink RX2 18 "TowerTell$Tower" "doneBy" "[I", Cond.fieldLink RX2 21 "TowerTell$Tower" "knownTo" "[I", Cond.fieldLink RX2 24 "TowerTell$Tower" "toldBy" "[I", Cond.methodLink RX3 121 yX3_liveDays, Cond.instanceMethod yX3_liveDays, Cond.selects RX3 yX3_liveDays yX3_liveDays]
def wsX3_kinds_r4 : List Cond := [Cond.code yX3_liveDays cX3_liveDays 7 (some .int), Cond.methodLink RX3 99 yX2_hasTold, Cond.instanceMethod yX2_hasTold, Cond.selects RX2 yX2_hasTold yX2_hasTold, Cond.code yX2_hasTold cX2_hasTold 3 (some .boolean), Cond.methodLink RX3 103 yX2_hear, Cond.instanceMethod yX2_hear, Cond.selects RX2 yX2_hear yX2_hear, Cond.code yX2_hear cX2_hear 3 none, Cond.methodLink RX2 59 yX2_wouldBeCaught, Cond.instanceMethod yX2_wouldBeCaught, Cond.selects RX2 yX2_wouldBeCaught yX2_wouldBeCaught, Cond.code yX2_wouldBeCaught cX2_wouldBeCaught 4 (some .boolean), Cond.methodLink RX2 50 yX2_floorOf, Cond.instanceMethod yX2_floorOf, Cond.selects RX2 yX2_floorOf yX2_floorOf, Cond.code yX2_floorOf cX2_floorOf 2 (some .int), Cond.methodLink RX2 47 yX2_floorBy, Cond.instanceMethod yX2_floorBy, Cond.selects RX2 yX2_floorBy yX2_floorBy, Cond.code yX2_floorBy cX2_floorBy 5 (some .int), Cond.methodLink RX2 43 yX2_rise, Cond.instanceMethod yX2_rise, Cond.selects RX2 yX2_rise yX2_rise]
def wsX3_kinds_r5 : List Cond := [Cond.code yX2_rise cX2_rise 3 (some .int), Cond.methodLink RX3 149 yX3_readingsAreSo, Cond.instanceMethod yX3_readingsAreSo, Cond.selects RX3 yX3_readingsAreSo yX3_readingsAreSo, Cond.code yX3_readingsAreSo cX3_readingsAreSo 2 (some .boolean), Cond.fieldLink RX3 65 "TowerTell" "readings" "I", Cond.fieldLink RX3 25 "TowerTell" "readPerson" "[I", Cond.fieldLink RX3 29 "TowerTell" "readFloor" "[I", Cond.methodLink RX3 86 yX2_floorOf]
def wsX3_kinds : List Cond := .code yX3_kinds cX3_kinds 9 (some .int) :: ((wsX3_kinds_r1 ++ (wsX3_kinds_r2 ++ (wsX3_kinds_r3 ++ (wsX3_kinds_r4 ++ wsX3_kinds_r5)))) ++ wsX30 ++ wsX20 ++ wsX00)
def wsX3_knew_r1 : List Cond := [Cond.fieldLink RX3 35 "TowerTell" "now" "LTowerTell$Tower;", Cond.fieldLink RX3 39 "TowerTell" "trial" "LTowerTell$Tower;", Cond.fieldLink RX3 80 "TowerTell$Tower" "knownTo" "[I", Cond.fieldLink RX3 13 "TowerTell" "sheets" "[LTowerTell$Sheet;", Cond.methodLink RX3 71 yX2_isPerson, Cond.instanceMethod yX2_isPerson, Cond.selects RX2 yX2_isPerson yX2_isPerson, Cond.initialized RX2, Cond.code yX2_isPerson cX2_isPerson 2 (some .boolean), Cond.fieldLink RX2 31 "TowerTell$Tower" "people" "I", Cond.methodLink RX3 145 yX3_stopOfGuess, Cond.instanceMethod yX3_stopOfGuess, Cond.selects RX3 yX3_stopOfGuess yX3_stopOfGuess, Cond.initialized RX3, Cond.code yX3_stopOfGuess cX3_stopOfGuess 6 (some .int), Cond.fieldLink RX3 42 "TowerTell" "latestFault" "I", Cond.methodLink RX3 46 yX3_isSheet, Cond.static yX3_isSheet, Cond.code yX3_isSheet cX3_isSheet 1 (some .boolean), Cond.methodLink RX3 50 yX3_isLane, Cond.static yX3_isLane, Cond.code yX3_isLane cX3_isLane 1 (some .boolean), Cond.methodLink RX3 107 yX3_isDaysLength, Cond.static yX3_isDaysLength]
def wsX3_knew_r2 : List Cond := [Cond.code yX3_isDaysLength cX3_isDaysLength 1 (some .boolean), Cond.methodLink RX3 113 yX3_stopOfDays, Cond.instanceMethod yX3_stopOfDays, Cond.selects RX3 yX3_stopOfDays yX3_stopOfDays, Cond.code yX3_stopOfDays cX3_stopOfDays 7 (some .int), Cond.fieldLink RX3 68 "TowerTell$Tower" "people" "I", Cond.fieldLink RX3 170 "TowerTell$Sheet" "cells" "[I", Cond.methodLink RX3 53 yX0_faultOf, Cond.instanceMethod yX0_faultOf, Cond.selects RX0 yX0_faultOf yX0_faultOf, Cond.initialized RX0, Cond.code yX0_faultOf cX0_faultOf 4 (some .int), Cond.fieldLink RX0 9 "TowerTell$Sheet" "lane" "I", Cond.methodLink RX0 22 yX0_isBare, Cond.instanceMethod yX0_isBare, Cond.selects RX0 yX0_isBare yX0_isBare, Cond.code yX0_isBare cX0_isBare 1 (some .boolean), Cond.methodLink RX0 26 yX0_holds, Cond.instanceMethod yX0_holds, Cond.selects RX0 yX0_holds yX0_holds, Cond.code yX0_holds cX0_holds 3 (some .boolean), Cond.fieldLink RX0 19 "TowerTell$Sheet" "length" "I", Cond.methodLink RX3 57 yX3_faulted, Cond.instanceMethod yX3_faulted]
def wsX3_knew_r3 : List Cond := [Cond.selects RX3 yX3_faulted yX3_faulted, Cond.code yX3_faulted cX3_faulted 2 (some .int), Cond.methodLink RX3 89 yX2_isDeed, Cond.instanceMethod yX2_isDeed, Cond.selects RX2 yX2_isDeed yX2_isDeed, Cond.code yX2_isDeed cX2_isDeed 2 (some .boolean), Cond.fieldLink RX2 27 "TowerTell$Tower" "deeds" "I", Cond.methodLink RX3 117 yX2_become, Cond.instanceMethod yX2_become, Cond.selects RX2 yX2_become yX2_become, Cond.code yX2_become cX2_become 2 none, Cond.fieldLink RX2 34 "TowerTell$Tower" "catches" "I", Cond.fieldLink RX2 9 "TowerTell$Tower" "weightOf" "[I", Cond.methodLink RX2 37 arraycopyName, Cond.native arraycopyName, Cond.static arraycopyName, Cond.initialized "java/lang/System", Cond.fieldLink RX2 15 "TowerTell$Tower" "kindOf" "[I", Cond.fieldLink RX2 18 "TowerTell$Tower" "doneBy" "[I", Cond.fieldLink RX2 21 "TowerTell$Tower" "knownTo" "[I", Cond.fieldLink RX2 24 "TowerTell$Tower" "toldBy" "[I", Cond.methodLink RX3 121 yX3_liveDays, Cond.instanceMethod yX3_liveDays, Cond.selects RX3 yX3_liveDays yX3_liveDays]
def wsX3_knew_r4 : List Cond := [Cond.code yX3_liveDays cX3_liveDays 7 (some .int), Cond.methodLink RX3 99 yX2_hasTold, Cond.instanceMethod yX2_hasTold, Cond.selects RX2 yX2_hasTold yX2_hasTold, Cond.code yX2_hasTold cX2_hasTold 3 (some .boolean), Cond.methodLink RX3 103 yX2_hear, Cond.instanceMethod yX2_hear, Cond.selects RX2 yX2_hear yX2_hear, Cond.code yX2_hear cX2_hear 3 none, Cond.methodLink RX2 59 yX2_wouldBeCaught, Cond.instanceMethod yX2_wouldBeCaught, Cond.selects RX2 yX2_wouldBeCaught yX2_wouldBeCaught, Cond.code yX2_wouldBeCaught cX2_wouldBeCaught 4 (some .boolean), Cond.methodLink RX2 50 yX2_floorOf, Cond.instanceMethod yX2_floorOf, Cond.selects RX2 yX2_floorOf yX2_floorOf, Cond.code yX2_floorOf cX2_floorOf 2 (some .int), Cond.methodLink RX2 47 yX2_floorBy, Cond.instanceMethod yX2_floorBy, Cond.selects RX2 yX2_floorBy yX2_floorBy, Cond.code yX2_floorBy cX2_floorBy 5 (some .int), Cond.methodLink RX2 43 yX2_rise, Cond.instanceMethod yX2_rise, Cond.selects RX2 yX2_rise yX2_rise]
def wsX3_knew_r5 : List Cond := [Cond.code yX2_rise cX2_rise 3 (some .int), Cond.methodLink RX3 149 yX3_readingsAreSo, Cond.instanceMethod yX3_readingsAreSo, Cond.selects RX3 yX3_readingsAreSo yX3_readingsAreSo, Cond.code yX3_readingsAreSo cX3_readingsAreSo 2 (some .boolean), Cond.fieldLink RX3 65 "TowerTell" "readings" "I", Cond.fieldLink RX3 25 "TowerTell" "readPerson" "[I", Cond.fieldLink RX3 29 "TowerTell" "readFloor" "[I", Cond.methodLink RX3 86 yX2_floorOf]
def wsX3_knew : List Cond := .code yX3_knew cX3_knew 9 (some .int) :: ((wsX3_knew_r1 ++ (wsX3_knew_r2 ++ (wsX3_knew_r3 ++ (wsX3_knew_r4 ++ wsX3_knew_r5)))) ++ wsX30 ++ wsX20 ++ wsX00)
def wsX3_odds_r1 : List Cond := [Cond.fieldLink RX3 35 "TowerTell" "now" "LTowerTell$Tower;", Cond.constantLong RX3 153 (-9223372036854775808), Cond.methodLink RX3 71 yX2_isPerson, Cond.instanceMethod yX2_isPerson, Cond.selects RX2 yX2_isPerson yX2_isPerson, Cond.initialized RX2, Cond.code yX2_isPerson cX2_isPerson 2 (some .boolean), Cond.fieldLink RX2 31 "TowerTell$Tower" "people" "I", Cond.methodLink RX3 77 yX2_truthsOf, Cond.instanceMethod yX2_truthsOf, Cond.selects RX2 yX2_truthsOf yX2_truthsOf, Cond.code yX2_truthsOf cX2_truthsOf 2 (some .int), Cond.fieldLink RX2 18 "TowerTell$Tower" "doneBy" "[I", Cond.fieldLink RX2 27 "TowerTell$Tower" "deeds" "I", Cond.methodLink RX3 134 yJ6_bitCount_0f7a4, Cond.static yJ6_bitCount_0f7a4, Cond.initialized RJ6, Cond.code yJ6_bitCount_0f7a4 cJ6_bitCount_0f7a4 1 (some .int), Cond.constant RJ6 265 (1431655765), Cond.constant RJ6 266 (858993459), Cond.constant RJ6 267 (252645135), Cond.methodLink RX3 128 yX3_isWithin, Cond.static yX3_isWithin, Cond.initialized RX3]
def wsX3_odds_r2 : List Cond := [Cond.code yX3_isWithin cX3_isWithin 2 (some .boolean), Cond.methodLink RX3 131 yX2_floorBy, Cond.instanceMethod yX2_floorBy, Cond.selects RX2 yX2_floorBy yX2_floorBy, Cond.code yX2_floorBy cX2_floorBy 5 (some .int), Cond.methodLink RX2 43 yX2_rise, Cond.instanceMethod yX2_rise, Cond.selects RX2 yX2_rise yX2_rise, Cond.code yX2_rise cX2_rise 3 (some .int), Cond.fieldLink RX2 15 "TowerTell$Tower" "kindOf" "[I", Cond.fieldLink RX2 9 "TowerTell$Tower" "weightOf" "[I"]
def wsX3_odds : List Cond := .code yX3_odds cX3_odds 8 (some .long) :: ((wsX3_odds_r1 ++ wsX3_odds_r2) ++ wsX30 ++ wsX20)
def wsX3_sheet : List Cond := .code yX3_sheet cX3_sheet 4 (some .int) :: ([.fieldLink RX3 42 "TowerTell" "latestFault" "I", .fieldLink RX3 13 "TowerTell" "sheets" "[LTowerTell$Sheet;", .methodLink RX3 46 yX3_isSheet, .static yX3_isSheet, .initialized RX3, .code yX3_isSheet cX3_isSheet 1 (some .boolean), .methodLink RX3 50 yX3_isLane, .static yX3_isLane, .code yX3_isLane cX3_isLane 1 (some .boolean), .methodLink RX3 57 yX3_faulted, .instanceMethod yX3_faulted, .selects RX3 yX3_faulted yX3_faulted, .code yX3_faulted cX3_faulted 2 (some .int), .methodLink RX3 155 yX0_begin, .instanceMethod yX0_begin, .selects RX0 yX0_begin yX0_begin, .initialized RX0, .code yX0_begin cX0_begin 4 none, .fieldLink RX0 9 "TowerTell$Sheet" "lane" "I", .fieldLink RX0 19 "TowerTell$Sheet" "length" "I", .fieldLink RX0 15 "TowerTell$Sheet" "cells" "[I"] ++ wsX30 ++ wsX00)
def wsX3_lose : List Cond := .code yX3_lose cX3_lose 3 (some .int) :: ([.fieldLink RX3 13 "TowerTell" "sheets" "[LTowerTell$Sheet;", .methodLink RX3 46 yX3_isSheet, .static yX3_isSheet, .initialized RX3, .code yX3_isSheet cX3_isSheet 1 (some .boolean), .methodLink RX3 158 yX0_isBare, .instanceMethod yX0_isBare, .selects RX0 yX0_isBare yX0_isBare, .initialized RX0, .code yX0_isBare cX0_isBare 1 (some .boolean), .fieldLink RX0 9 "TowerTell$Sheet" "lane" "I", .methodLink RX3 161 yX0_drop, .instanceMethod yX0_drop, .selects RX0 yX0_drop yX0_drop, .code yX0_drop cX0_drop 1 none, .fieldLink RX0 19 "TowerTell$Sheet" "length" "I"] ++ wsX30 ++ wsX00)
def wsX3_put_r1 : List Cond := [Cond.fieldLink RX3 42 "TowerTell" "latestFault" "I", Cond.fieldLink RX3 13 "TowerTell" "sheets" "[LTowerTell$Sheet;", Cond.methodLink RX3 46 yX3_isSheet, Cond.static yX3_isSheet, Cond.initialized RX3, Cond.code yX3_isSheet cX3_isSheet 1 (some .boolean), Cond.methodLink RX3 158 yX0_isBare, Cond.instanceMethod yX0_isBare, Cond.selects RX0 yX0_isBare yX0_isBare, Cond.initialized RX0, Cond.code yX0_isBare cX0_isBare 1 (some .boolean), Cond.fieldLink RX0 9 "TowerTell$Sheet" "lane" "I", Cond.methodLink RX3 57 yX3_faulted, Cond.instanceMethod yX3_faulted, Cond.selects RX3 yX3_faulted yX3_faulted, Cond.code yX3_faulted cX3_faulted 2 (some .int), Cond.methodLink RX3 164 yX0_holds, Cond.instanceMethod yX0_holds, Cond.selects RX0 yX0_holds yX0_holds, Cond.code yX0_holds cX0_holds 3 (some .boolean), Cond.fieldLink RX0 19 "TowerTell$Sheet" "length" "I", Cond.methodLink RX3 167 yX0_write, Cond.instanceMethod yX0_write, Cond.selects RX0 yX0_write yX0_write]
def wsX3_put_r2 : List Cond := [Cond.code yX0_write cX0_write 3 none, Cond.fieldLink RX0 15 "TowerTell$Sheet" "cells" "[I"]
def wsX3_put : List Cond := .code yX3_put cX3_put 4 (some .int) :: ((wsX3_put_r1 ++ wsX3_put_r2) ++ wsX30 ++ wsX00)
def wsX3_cell_r1 : List Cond := [Cond.fieldLink RX3 42 "TowerTell" "latestFault" "I", Cond.constantLong RX3 153 (-9223372036854775808), Cond.fieldLink RX3 13 "TowerTell" "sheets" "[LTowerTell$Sheet;", Cond.fieldLink RX3 170 "TowerTell$Sheet" "cells" "[I", Cond.methodLink RX3 46 yX3_isSheet, Cond.static yX3_isSheet, Cond.initialized RX3, Cond.code yX3_isSheet cX3_isSheet 1 (some .boolean), Cond.methodLink RX3 50 yX3_isLane, Cond.static yX3_isLane, Cond.code yX3_isLane cX3_isLane 1 (some .boolean), Cond.methodLink RX3 53 yX0_faultOf, Cond.instanceMethod yX0_faultOf, Cond.selects RX0 yX0_faultOf yX0_faultOf, Cond.initialized RX0, Cond.code yX0_faultOf cX0_faultOf 4 (some .int), Cond.fieldLink RX0 9 "TowerTell$Sheet" "lane" "I", Cond.methodLink RX0 22 yX0_isBare, Cond.instanceMethod yX0_isBare, Cond.selects RX0 yX0_isBare yX0_isBare, Cond.code yX0_isBare cX0_isBare 1 (some .boolean), Cond.methodLink RX0 26 yX0_holds, Cond.instanceMethod yX0_holds, Cond.selects RX0 yX0_holds yX0_holds]
def wsX3_cell_r2 : List Cond := [Cond.code yX0_holds cX0_holds 3 (some .boolean), Cond.fieldLink RX0 19 "TowerTell$Sheet" "length" "I"]
def wsX3_cell : List Cond := .code yX3_cell cX3_cell 4 (some .long) :: ((wsX3_cell_r1 ++ wsX3_cell_r2) ++ wsX30 ++ wsX00)
def wsX3_copy_r1 : List Cond := [Cond.fieldLink RX3 42 "TowerTell" "latestFault" "I", Cond.fieldLink RX3 13 "TowerTell" "sheets" "[LTowerTell$Sheet;", Cond.fieldLink RX3 173 "TowerTell$Sheet" "lane" "I", Cond.fieldLink RX3 170 "TowerTell$Sheet" "cells" "[I", Cond.methodLink RX3 176 arraycopyName, Cond.native arraycopyName, Cond.static arraycopyName, Cond.initialized "java/lang/System", Cond.methodLink RX3 46 yX3_isSheet, Cond.static yX3_isSheet, Cond.initialized RX3, Cond.code yX3_isSheet cX3_isSheet 1 (some .boolean), Cond.methodLink RX3 158 yX0_isBare, Cond.instanceMethod yX0_isBare, Cond.selects RX0 yX0_isBare yX0_isBare, Cond.initialized RX0, Cond.code yX0_isBare cX0_isBare 1 (some .boolean), Cond.fieldLink RX0 9 "TowerTell$Sheet" "lane" "I", Cond.methodLink RX3 57 yX3_faulted, Cond.instanceMethod yX3_faulted, Cond.selects RX3 yX3_faulted yX3_faulted, Cond.code yX3_faulted cX3_faulted 2 (some .int), Cond.methodLink RX3 164 yX0_holds, Cond.instanceMethod yX0_holds]
def wsX3_copy_r2 : List Cond := [Cond.selects RX0 yX0_holds yX0_holds, Cond.code yX0_holds cX0_holds 3 (some .boolean), Cond.fieldLink RX0 19 "TowerTell$Sheet" "length" "I"]
def wsX3_copy : List Cond := .code yX3_copy cX3_copy 8 (some .int) :: ((wsX3_copy_r1 ++ wsX3_copy_r2) ++ wsX30 ++ wsX00)
def wsX3_leaveTrace : List Cond := .code yX3_leaveTrace cX3_leaveTrace 2 none :: ([.fieldLink RX3 198 "TowerTell" "trail" "I"] ++ wsX30)
def wsX3_plainTelling : List Cond := .code yX3_plainTelling cX3_plainTelling 2 (some .int) :: ([.fieldLink RX3 35 "TowerTell" "now" "LTowerTell$Tower;", .fieldLink RX3 80 "TowerTell$Tower" "knownTo" "[I", .methodLink RX3 207 yX3_leaveTrace, .instanceMethod yX3_leaveTrace, .selects RX3 yX3_leaveTrace yX3_leaveTrace, .initialized RX3, .code yX3_leaveTrace cX3_leaveTrace 2 none, .fieldLink RX3 198 "TowerTell" "trail" "I"] ++ wsX30 ++ wsX20)
def wsX3_proudTelling : List Cond := .code yX3_proudTelling cX3_proudTelling 2 (some .int) :: ([.methodLink RX3 207 yX3_leaveTrace, .instanceMethod yX3_leaveTrace, .selects RX3 yX3_leaveTrace yX3_leaveTrace, .initialized RX3, .code yX3_leaveTrace cX3_leaveTrace 2 none, .fieldLink RX3 198 "TowerTell" "trail" "I", .methodLink RX3 188 yX3_plainTelling, .instanceMethod yX3_plainTelling, .selects RX3 yX3_plainTelling yX3_plainTelling, .code yX3_plainTelling cX3_plainTelling 2 (some .int), .fieldLink RX3 35 "TowerTell" "now" "LTowerTell$Tower;", .fieldLink RX3 80 "TowerTell$Tower" "knownTo" "[I"] ++ wsX30 ++ wsX20)
def wsX3_abjectTelling : List Cond := .code yX3_abjectTelling cX3_abjectTelling 3 (some .int) :: ([.methodLink RX3 207 yX3_leaveTrace, .instanceMethod yX3_leaveTrace, .selects RX3 yX3_leaveTrace yX3_leaveTrace, .initialized RX3, .code yX3_leaveTrace cX3_leaveTrace 2 none, .fieldLink RX3 198 "TowerTell" "trail" "I", .methodLink RX3 185 yX3_proudTelling, .instanceMethod yX3_proudTelling, .selects RX3 yX3_proudTelling yX3_proudTelling, .code yX3_proudTelling cX3_proudTelling 2 (some .int), .methodLink RX3 188 yX3_plainTelling, .instanceMethod yX3_plainTelling, .selects RX3 yX3_plainTelling yX3_plainTelling, .code yX3_plainTelling cX3_plainTelling 2 (some .int), .fieldLink RX3 35 "TowerTell" "now" "LTowerTell$Tower;", .fieldLink RX3 80 "TowerTell$Tower" "knownTo" "[I"] ++ wsX30 ++ wsX20)
def wsX3_tell_r1 : List Cond := [Cond.fieldLink RX3 35 "TowerTell" "now" "LTowerTell$Tower;", Cond.fieldLink RX3 74 "TowerTell$Tower" "kindOf" "[I", Cond.methodLink RX3 71 yX2_isPerson, Cond.instanceMethod yX2_isPerson, Cond.selects RX2 yX2_isPerson yX2_isPerson, Cond.initialized RX2, Cond.code yX2_isPerson cX2_isPerson 2 (some .boolean), Cond.fieldLink RX2 31 "TowerTell$Tower" "people" "I", Cond.methodLink RX3 182 yX3_abjectTelling, Cond.instanceMethod yX3_abjectTelling, Cond.selects RX3 yX3_abjectTelling yX3_abjectTelling, Cond.initialized RX3, Cond.code yX3_abjectTelling cX3_abjectTelling 3 (some .int), Cond.methodLink RX3 207 yX3_leaveTrace, Cond.instanceMethod yX3_leaveTrace, Cond.selects RX3 yX3_leaveTrace yX3_leaveTrace, Cond.code yX3_leaveTrace cX3_leaveTrace 2 none, Cond.fieldLink RX3 198 "TowerTell" "trail" "I", Cond.methodLink RX3 185 yX3_proudTelling, Cond.instanceMethod yX3_proudTelling, Cond.selects RX3 yX3_proudTelling yX3_proudTelling, Cond.code yX3_proudTelling cX3_proudTelling 2 (some .int), Cond.methodLink RX3 188 yX3_plainTelling, Cond.instanceMethod yX3_plainTelling]
def wsX3_tell_r2 : List Cond := [Cond.selects RX3 yX3_plainTelling yX3_plainTelling, Cond.code yX3_plainTelling cX3_plainTelling 2 (some .int), Cond.fieldLink RX3 80 "TowerTell$Tower" "knownTo" "[I"]
def wsX3_tell : List Cond := .code yX3_tell cX3_tell 2 (some .int) :: ((wsX3_tell_r1 ++ wsX3_tell_r2) ++ wsX30 ++ wsX20)
def wsX3_abjectGreeting : List Cond := .code yX3_abjectGreeting cX3_abjectGreeting 1 (some .int) :: ([.methodLink RX3 207 yX3_leaveTrace, .instanceMethod yX3_leaveTrace, .selects RX3 yX3_leaveTrace yX3_leaveTrace, .initialized RX3, .code yX3_leaveTrace cX3_leaveTrace 2 none, .fieldLink RX3 198 "TowerTell" "trail" "I"] ++ wsX30)
def wsX3_lentGreeting : List Cond := .code yX3_lentGreeting cX3_lentGreeting 2 (some .int) :: ([.methodLink RX3 207 yX3_leaveTrace, .instanceMethod yX3_leaveTrace, .selects RX3 yX3_leaveTrace yX3_leaveTrace, .initialized RX3, .code yX3_leaveTrace cX3_leaveTrace 2 none, .fieldLink RX3 198 "TowerTell" "trail" "I"] ++ wsX30)
def wsX3_greet : List Cond := .code yX3_greet cX3_greet 2 (some .int) :: ([.fieldLink RX3 35 "TowerTell" "now" "LTowerTell$Tower;", .fieldLink RX3 74 "TowerTell$Tower" "kindOf" "[I", .methodLink RX3 71 yX2_isPerson, .instanceMethod yX2_isPerson, .selects RX2 yX2_isPerson yX2_isPerson, .initialized RX2, .code yX2_isPerson cX2_isPerson 2 (some .boolean), .fieldLink RX2 31 "TowerTell$Tower" "people" "I", .methodLink RX3 191 yX3_abjectGreeting, .instanceMethod yX3_abjectGreeting, .selects RX3 yX3_abjectGreeting yX3_abjectGreeting, .initialized RX3, .code yX3_abjectGreeting cX3_abjectGreeting 1 (some .int), .methodLink RX3 207 yX3_leaveTrace, .instanceMethod yX3_leaveTrace, .selects RX3 yX3_leaveTrace yX3_leaveTrace, .code yX3_leaveTrace cX3_leaveTrace 2 none, .fieldLink RX3 198 "TowerTell" "trail" "I", .methodLink RX3 195 yX3_lentGreeting, .instanceMethod yX3_lentGreeting, .selects RX3 yX3_lentGreeting yX3_lentGreeting, .code yX3_lentGreeting cX3_lentGreeting 2 (some .int)] ++ wsX30 ++ wsX20)
def wsX3_as : List Cond := .code yX3_as cX3_as 3 (some .int) :: ([.fieldLink RX3 42 "TowerTell" "latestFault" "I", .fieldLink RX3 35 "TowerTell" "now" "LTowerTell$Tower;", .fieldLink RX3 74 "TowerTell$Tower" "kindOf" "[I", .methodLink RX3 71 yX2_isPerson, .instanceMethod yX2_isPerson, .selects RX2 yX2_isPerson yX2_isPerson, .initialized RX2, .code yX2_isPerson cX2_isPerson 2 (some .boolean), .fieldLink RX2 31 "TowerTell$Tower" "people" "I", .methodLink RX3 57 yX3_faulted, .instanceMethod yX3_faulted, .selects RX3 yX3_faulted yX3_faulted, .initialized RX3, .code yX3_faulted cX3_faulted 2 (some .int)] ++ wsX30 ++ wsX20)
def wsX3_trace : List Cond := .code yX3_trace cX3_trace 1 (some .int) :: ([.fieldLink RX3 198 "TowerTell" "trail" "I"] ++ wsX30)
def wsX3_fault : List Cond := .code yX3_fault cX3_fault 1 (some .int) :: ([.fieldLink RX3 42 "TowerTell" "latestFault" "I"] ++ wsX30)
def wsX3_many : List Cond := .code yX3_many cX3_many 2 (some .int) :: ([.fieldLink RX3 35 "TowerTell" "now" "LTowerTell$Tower;", .fieldLink RX3 68 "TowerTell$Tower" "people" "I", .fieldLink RX3 139 "TowerTell$Tower" "deeds" "I", .fieldLink RX3 65 "TowerTell" "readings" "I"] ++ wsX30 ++ wsX20)
def wsX4_init : List Cond := .code yX4_init cX4_init 1 none :: ([.methodLink RX4 1 objectInit, .instanceMethod objectInit, .code objectInit ⟨#[0xb1]⟩ 1 none, .arrayClass .int, .fieldLink RX4 9 "TowerTellModel" "sorts" "[I", .fieldLink RX4 13 "TowerTellModel" "sheetLong" "[I", .fieldLink RX4 16 "TowerTellModel" "cells" "[I", .fieldLink RX4 19 "TowerTellModel" "weightOf" "[I", .fieldLink RX4 22 "TowerTellModel" "kind" "[I", .fieldLink RX4 25 "TowerTellModel" "done" "[I", .fieldLink RX4 28 "TowerTellModel" "knows" "[I", .fieldLink RX4 31 "TowerTellModel" "told" "[I", .fieldLink RX4 34 "TowerTellModel" "readWeight" "[I", .fieldLink RX4 37 "TowerTellModel" "read" "[I", .fieldLink RX4 40 "TowerTellModel" "then" "[I", .fieldLink RX4 43 "TowerTellModel" "who" "[I", .fieldLink RX4 46 "TowerTellModel" "what" "[I", .fieldLink RX4 49 "TowerTellModel" "readWho" "[I", .fieldLink RX4 52 "TowerTellModel" "readFloor" "[I"] ++ wsX40)
def wsX4_fails : List Cond := .code yX4_fails cX4_fails 2 (some .int) :: ([.fieldLink RX4 55 "TowerTellModel" "fault" "I"] ++ wsX40)
def wsX4_lost : List Cond := .code yX4_lost cX4_lost 2 (some .long) :: ([.fieldLink RX4 55 "TowerTellModel" "fault" "I", .constantLong RX4 59 (-9223372036854775808)] ++ wsX40)
def wsX4_within : List Cond := .code yX4_within cX4_within 3 (some .boolean) :: ([])
def wsX4_isSheet : List Cond := .code yX4_isSheet cX4_isSheet 1 (some .boolean) :: ([.methodLink RX4 61 yX4_within, .static yX4_within, .initialized RX4, .code yX4_within cX4_within 3 (some .boolean)])
def wsX4_isSort : List Cond := .code yX4_isSort cX4_isSort 1 (some .boolean) :: ([.methodLink RX4 61 yX4_within, .static yX4_within, .initialized RX4, .code yX4_within cX4_within 3 (some .boolean)])
def wsX4_against : List Cond := .code yX4_against cX4_against 5 (some .int) :: ([.fieldLink RX4 9 "TowerTellModel" "sorts" "[I", .fieldLink RX4 13 "TowerTellModel" "sheetLong" "[I"] ++ wsX40)
def wsX4_isDeed : List Cond := .code yX4_isDeed cX4_isDeed 2 (some .boolean) :: ([.fieldLink RX4 65 "TowerTellModel" "deeds" "I"] ++ wsX40)
def wsX4_isPerson : List Cond := .code yX4_isPerson cX4_isPerson 2 (some .boolean) :: ([.fieldLink RX4 68 "TowerTellModel" "people" "I"] ++ wsX40)
def wsX4_digit : List Cond := .code yX4_digit cX4_digit 4 (some .int) :: ([.fieldLink RX4 71 "TowerTellModel" "at" "I", .fieldLink RX4 16 "TowerTellModel" "cells" "[I", .methodLink RX4 61 yX4_within, .static yX4_within, .initialized RX4, .code yX4_within cX4_within 3 (some .boolean)] ++ wsX40)
def wsX4_isSign : List Cond := .code yX4_isSign cX4_isSign 3 (some .boolean) :: ([.fieldLink RX4 71 "TowerTellModel" "at" "I", .fieldLink RX4 16 "TowerTellModel" "cells" "[I"] ++ wsX40)
def wsX4_readDeed : List Cond := .code yX4_readDeed cX4_readDeed 2 (some .boolean) :: ([.fieldLink RX4 34 "TowerTellModel" "readWeight" "[I", .fieldLink RX4 95 "TowerTellModel" "readDeeds" "I", .methodLink RX4 114 yX4_digit, .instanceMethod yX4_digit, .selects RX4 yX4_digit yX4_digit, .initialized RX4, .code yX4_digit cX4_digit 4 (some .int), .fieldLink RX4 71 "TowerTellModel" "at" "I", .fieldLink RX4 16 "TowerTellModel" "cells" "[I", .methodLink RX4 61 yX4_within, .static yX4_within, .code yX4_within cX4_within 3 (some .boolean)] ++ wsX40)
def wsX4_readPerson : List Cond := .code yX4_readPerson cX4_readPerson 6 (some .boolean) :: ([.fieldLink RX4 98 "TowerTellModel" "readMany" "I", .fieldLink RX4 71 "TowerTellModel" "at" "I", .fieldLink RX4 16 "TowerTellModel" "cells" "[I", .fieldLink RX4 37 "TowerTellModel" "read" "[I", .methodLink RX4 114 yX4_digit, .instanceMethod yX4_digit, .selects RX4 yX4_digit yX4_digit, .initialized RX4, .code yX4_digit cX4_digit 4 (some .int), .methodLink RX4 61 yX4_within, .static yX4_within, .code yX4_within cX4_within 3 (some .boolean)] ++ wsX40)
def wsX4_readTower_r1 : List Cond := [Cond.fieldLink RX4 95 "TowerTellModel" "readDeeds" "I", Cond.fieldLink RX4 98 "TowerTellModel" "readMany" "I", Cond.fieldLink RX4 71 "TowerTellModel" "at" "I", Cond.methodLink RX4 104 yX4_isSign, Cond.instanceMethod yX4_isSign, Cond.selects RX4 yX4_isSign yX4_isSign, Cond.initialized RX4, Cond.code yX4_isSign cX4_isSign 3 (some .boolean), Cond.fieldLink RX4 16 "TowerTellModel" "cells" "[I", Cond.methodLink RX4 108 yX4_readDeed, Cond.instanceMethod yX4_readDeed, Cond.selects RX4 yX4_readDeed yX4_readDeed, Cond.code yX4_readDeed cX4_readDeed 2 (some .boolean), Cond.fieldLink RX4 34 "TowerTellModel" "readWeight" "[I", Cond.methodLink RX4 114 yX4_digit, Cond.instanceMethod yX4_digit, Cond.selects RX4 yX4_digit yX4_digit, Cond.code yX4_digit cX4_digit 4 (some .int), Cond.methodLink RX4 61 yX4_within, Cond.static yX4_within, Cond.code yX4_within cX4_within 3 (some .boolean), Cond.methodLink RX4 111 yX4_readPerson, Cond.instanceMethod yX4_readPerson, Cond.selects RX4 yX4_readPerson yX4_readPerson]
def wsX4_readTower_r2 : List Cond := [Cond.code yX4_readPerson cX4_readPerson 6 (some .boolean), Cond.fieldLink RX4 37 "TowerTellModel" "read" "[I"]
def wsX4_readTower : List Cond := .code yX4_readTower cX4_readTower 2 (some .boolean) :: ((wsX4_readTower_r1 ++ wsX4_readTower_r2) ++ wsX40)
def wsX4_takeTower : List Cond := .code yX4_takeTower cX4_takeTower 2 none :: ([.fieldLink RX4 95 "TowerTellModel" "readDeeds" "I", .fieldLink RX4 65 "TowerTellModel" "deeds" "I", .fieldLink RX4 19 "TowerTellModel" "weightOf" "[I", .fieldLink RX4 34 "TowerTellModel" "readWeight" "[I", .fieldLink RX4 98 "TowerTellModel" "readMany" "I", .fieldLink RX4 68 "TowerTellModel" "people" "I", .fieldLink RX4 22 "TowerTellModel" "kind" "[I", .fieldLink RX4 37 "TowerTellModel" "read" "[I", .fieldLink RX4 25 "TowerTellModel" "done" "[I", .fieldLink RX4 28 "TowerTellModel" "knows" "[I", .fieldLink RX4 31 "TowerTellModel" "told" "[I", .fieldLink RX4 101 "TowerTellModel" "readings" "I"] ++ wsX40)
def wsX4_tower_r1 : List Cond := [Cond.fieldLink RX4 55 "TowerTellModel" "fault" "I", Cond.fieldLink RX4 71 "TowerTellModel" "at" "I", Cond.fieldLink RX4 68 "TowerTellModel" "people" "I", Cond.methodLink RX4 74 yX4_isSheet, Cond.static yX4_isSheet, Cond.initialized RX4, Cond.code yX4_isSheet cX4_isSheet 1 (some .boolean), Cond.methodLink RX4 61 yX4_within, Cond.static yX4_within, Cond.code yX4_within cX4_within 3 (some .boolean), Cond.methodLink RX4 78 yX4_isSort, Cond.static yX4_isSort, Cond.code yX4_isSort cX4_isSort 1 (some .boolean), Cond.methodLink RX4 81 yX4_against, Cond.instanceMethod yX4_against, Cond.selects RX4 yX4_against yX4_against, Cond.code yX4_against cX4_against 5 (some .int), Cond.fieldLink RX4 9 "TowerTellModel" "sorts" "[I", Cond.fieldLink RX4 13 "TowerTellModel" "sheetLong" "[I", Cond.methodLink RX4 85 yX4_fails, Cond.instanceMethod yX4_fails, Cond.selects RX4 yX4_fails yX4_fails, Cond.code yX4_fails cX4_fails 2 (some .int), Cond.methodLink RX4 89 yX4_readTower]
def wsX4_tower_r2 : List Cond := [Cond.instanceMethod yX4_readTower, Cond.selects RX4 yX4_readTower yX4_readTower, Cond.code yX4_readTower cX4_readTower 2 (some .boolean), Cond.fieldLink RX4 95 "TowerTellModel" "readDeeds" "I", Cond.fieldLink RX4 98 "TowerTellModel" "readMany" "I", Cond.methodLink RX4 104 yX4_isSign, Cond.instanceMethod yX4_isSign, Cond.selects RX4 yX4_isSign yX4_isSign, Cond.code yX4_isSign cX4_isSign 3 (some .boolean), Cond.fieldLink RX4 16 "TowerTellModel" "cells" "[I", Cond.methodLink RX4 108 yX4_readDeed, Cond.instanceMethod yX4_readDeed, Cond.selects RX4 yX4_readDeed yX4_readDeed, Cond.code yX4_readDeed cX4_readDeed 2 (some .boolean), Cond.fieldLink RX4 34 "TowerTellModel" "readWeight" "[I", Cond.methodLink RX4 114 yX4_digit, Cond.instanceMethod yX4_digit, Cond.selects RX4 yX4_digit yX4_digit, Cond.code yX4_digit cX4_digit 4 (some .int), Cond.methodLink RX4 111 yX4_readPerson, Cond.instanceMethod yX4_readPerson, Cond.selects RX4 yX4_readPerson yX4_readPerson, Cond.code yX4_readPerson cX4_readPerson 6 (some .boolean), Cond.fieldLink RX4 37 "TowerTellModel" "read" "[I"]
def wsX4_tower_r3 : List Cond := [Cond.methodLink RX4 92 yX4_takeTower, Cond.instanceMethod yX4_takeTower, Cond.selects RX4 yX4_takeTower yX4_takeTower, Cond.code yX4_takeTower cX4_takeTower 2 none, Cond.fieldLink RX4 65 "TowerTellModel" "deeds" "I", Cond.fieldLink RX4 19 "TowerTellModel" "weightOf" "[I", Cond.fieldLink RX4 22 "TowerTellModel" "kind" "[I", Cond.fieldLink RX4 25 "TowerTellModel" "done" "[I", Cond.fieldLink RX4 28 "TowerTellModel" "knows" "[I", Cond.fieldLink RX4 31 "TowerTellModel" "told" "[I", Cond.fieldLink RX4 101 "TowerTellModel" "readings" "I"]
def wsX4_tower : List Cond := .code yX4_tower cX4_tower 7 (some .int) :: ((wsX4_tower_r1 ++ (wsX4_tower_r2 ++ wsX4_tower_r3)) ++ wsX40)
def wsX4_storeysOf : List Cond := .code yX4_storeysOf cX4_storeysOf 3 (some .int) :: ([.fieldLink RX4 22 "TowerTellModel" "kind" "[I", .fieldLink RX4 19 "TowerTellModel" "weightOf" "[I"] ++ wsX40)
def wsX4_floorBy : List Cond := .code yX4_floorBy cX4_floorBy 5 (some .int) :: ([.fieldLink RX4 65 "TowerTellModel" "deeds" "I", .methodLink RX4 118 yX4_storeysOf, .instanceMethod yX4_storeysOf, .selects RX4 yX4_storeysOf yX4_storeysOf, .initialized RX4, .code yX4_storeysOf cX4_storeysOf 3 (some .int), .fieldLink RX4 22 "TowerTellModel" "kind" "[I", .fieldLink RX4 19 "TowerTellModel" "weightOf" "[I"] ++ wsX40)
def wsX4_ofPerson : List Cond := .code yX4_ofPerson cX4_ofPerson 3 (some .int) :: ([.fieldLink RX4 22 "TowerTellModel" "kind" "[I", .fieldLink RX4 25 "TowerTellModel" "done" "[I", .fieldLink RX4 28 "TowerTellModel" "knows" "[I", .fieldLink RX4 31 "TowerTellModel" "told" "[I", .methodLink RX4 122 yX4_isPerson, .instanceMethod yX4_isPerson, .selects RX4 yX4_isPerson yX4_isPerson, .initialized RX4, .code yX4_isPerson cX4_isPerson 2 (some .boolean), .fieldLink RX4 68 "TowerTellModel" "people" "I", .methodLink RX4 125 yX4_floorBy, .instanceMethod yX4_floorBy, .selects RX4 yX4_floorBy yX4_floorBy, .code yX4_floorBy cX4_floorBy 5 (some .int), .fieldLink RX4 65 "TowerTellModel" "deeds" "I", .methodLink RX4 118 yX4_storeysOf, .instanceMethod yX4_storeysOf, .selects RX4 yX4_storeysOf yX4_storeysOf, .code yX4_storeysOf cX4_storeysOf 3 (some .int), .fieldLink RX4 19 "TowerTellModel" "weightOf" "[I"] ++ wsX40)
def wsX4_weight : List Cond := .code yX4_weight cX4_weight 2 (some .int) :: ([.fieldLink RX4 19 "TowerTellModel" "weightOf" "[I", .methodLink RX4 128 yX4_isDeed, .instanceMethod yX4_isDeed, .selects RX4 yX4_isDeed yX4_isDeed, .initialized RX4, .code yX4_isDeed cX4_isDeed 2 (some .boolean), .fieldLink RX4 65 "TowerTellModel" "deeds" "I"] ++ wsX40)
def wsX4_weigh : List Cond := .code yX4_weigh cX4_weigh 4 (some .int) :: ([.fieldLink RX4 19 "TowerTellModel" "weightOf" "[I", .methodLink RX4 128 yX4_isDeed, .instanceMethod yX4_isDeed, .selects RX4 yX4_isDeed yX4_isDeed, .initialized RX4, .code yX4_isDeed cX4_isDeed 2 (some .boolean), .fieldLink RX4 65 "TowerTellModel" "deeds" "I", .methodLink RX4 61 yX4_within, .static yX4_within, .code yX4_within cX4_within 3 (some .boolean)] ++ wsX40)
def wsX4_storeys : List Cond := .code yX4_storeys cX4_storeys 3 (some .int) :: ([.methodLink RX4 122 yX4_isPerson, .instanceMethod yX4_isPerson, .selects RX4 yX4_isPerson yX4_isPerson, .initialized RX4, .code yX4_isPerson cX4_isPerson 2 (some .boolean), .fieldLink RX4 68 "TowerTellModel" "people" "I", .methodLink RX4 128 yX4_isDeed, .instanceMethod yX4_isDeed, .selects RX4 yX4_isDeed yX4_isDeed, .code yX4_isDeed cX4_isDeed 2 (some .boolean), .fieldLink RX4 65 "TowerTellModel" "deeds" "I", .methodLink RX4 118 yX4_storeysOf, .instanceMethod yX4_storeysOf, .selects RX4 yX4_storeysOf yX4_storeysOf, .code yX4_storeysOf cX4_storeysOf 3 (some .int), .fieldLink RX4 22 "TowerTellModel" "kind" "[I", .fieldLink RX4 19 "TowerTellModel" "weightOf" "[I"] ++ wsX40)
def wsX4_asNow : List Cond := .code yX4_asNow cX4_asNow 2 none :: ([.fieldLink RX4 68 "TowerTellModel" "people" "I", .fieldLink RX4 40 "TowerTellModel" "then" "[I", .fieldLink RX4 31 "TowerTellModel" "told" "[I"] ++ wsX40)
def wsX4_isKnown : List Cond := .code yX4_isKnown cX4_isKnown 4 (some .boolean) :: ([.fieldLink RX4 40 "TowerTellModel" "then" "[I", .fieldLink RX4 68 "TowerTellModel" "people" "I", .fieldLink RX4 28 "TowerTellModel" "knows" "[I", .methodLink RX4 125 yX4_floorBy, .instanceMethod yX4_floorBy, .selects RX4 yX4_floorBy yX4_floorBy, .initialized RX4, .code yX4_floorBy cX4_floorBy 5 (some .int), .fieldLink RX4 65 "TowerTellModel" "deeds" "I", .methodLink RX4 118 yX4_storeysOf, .instanceMethod yX4_storeysOf, .selects RX4 yX4_storeysOf yX4_storeysOf, .code yX4_storeysOf cX4_storeysOf 3 (some .int), .fieldLink RX4 22 "TowerTellModel" "kind" "[I", .fieldLink RX4 19 "TowerTellModel" "weightOf" "[I"] ++ wsX40)
def wsX4_tells : List Cond := .code yX4_tells cX4_tells 3 (some .boolean) :: ([.fieldLink RX4 25 "TowerTellModel" "done" "[I", .fieldLink RX4 40 "TowerTellModel" "then" "[I", .methodLink RX4 131 yX4_isKnown, .instanceMethod yX4_isKnown, .selects RX4 yX4_isKnown yX4_isKnown, .initialized RX4, .code yX4_isKnown cX4_isKnown 4 (some .boolean), .fieldLink RX4 68 "TowerTellModel" "people" "I", .fieldLink RX4 28 "TowerTellModel" "knows" "[I", .methodLink RX4 125 yX4_floorBy, .instanceMethod yX4_floorBy, .selects RX4 yX4_floorBy yX4_floorBy, .code yX4_floorBy cX4_floorBy 5 (some .int), .fieldLink RX4 65 "TowerTellModel" "deeds" "I", .methodLink RX4 118 yX4_storeysOf, .instanceMethod yX4_storeysOf, .selects RX4 yX4_storeysOf yX4_storeysOf, .code yX4_storeysOf cX4_storeysOf 3 (some .int), .fieldLink RX4 22 "TowerTellModel" "kind" "[I", .fieldLink RX4 19 "TowerTellModel" "weightOf" "[I"] ++ wsX40)
def wsX4_say_r1 : List Cond := [Cond.fieldLink RX4 31 "TowerTellModel" "told" "[I", Cond.fieldLink RX4 40 "TowerTellModel" "then" "[I", Cond.methodLink RX4 122 yX4_isPerson, Cond.instanceMethod yX4_isPerson, Cond.selects RX4 yX4_isPerson yX4_isPerson, Cond.initialized RX4, Cond.code yX4_isPerson cX4_isPerson 2 (some .boolean), Cond.fieldLink RX4 68 "TowerTellModel" "people" "I", Cond.methodLink RX4 128 yX4_isDeed, Cond.instanceMethod yX4_isDeed, Cond.selects RX4 yX4_isDeed yX4_isDeed, Cond.code yX4_isDeed cX4_isDeed 2 (some .boolean), Cond.fieldLink RX4 65 "TowerTellModel" "deeds" "I", Cond.methodLink RX4 134 yX4_asNow, Cond.instanceMethod yX4_asNow, Cond.selects RX4 yX4_asNow yX4_asNow, Cond.code yX4_asNow cX4_asNow 2 none, Cond.methodLink RX4 137 yX4_tells, Cond.instanceMethod yX4_tells, Cond.selects RX4 yX4_tells yX4_tells, Cond.code yX4_tells cX4_tells 3 (some .boolean), Cond.fieldLink RX4 25 "TowerTellModel" "done" "[I", Cond.methodLink RX4 131 yX4_isKnown, Cond.instanceMethod yX4_isKnown]
def wsX4_say_r2 : List Cond := [Cond.selects RX4 yX4_isKnown yX4_isKnown, Cond.code yX4_isKnown cX4_isKnown 4 (some .boolean), Cond.fieldLink RX4 28 "TowerTellModel" "knows" "[I", Cond.methodLink RX4 125 yX4_floorBy, Cond.instanceMethod yX4_floorBy, Cond.selects RX4 yX4_floorBy yX4_floorBy, Cond.code yX4_floorBy cX4_floorBy 5 (some .int), Cond.methodLink RX4 118 yX4_storeysOf, Cond.instanceMethod yX4_storeysOf, Cond.selects RX4 yX4_storeysOf yX4_storeysOf, Cond.code yX4_storeysOf cX4_storeysOf 3 (some .int), Cond.fieldLink RX4 22 "TowerTellModel" "kind" "[I", Cond.fieldLink RX4 19 "TowerTellModel" "weightOf" "[I"]
def wsX4_say : List Cond := .code yX4_say cX4_say 3 (some .int) :: ((wsX4_say_r1 ++ wsX4_say_r2) ++ wsX40)
def wsX4_hush : List Cond := .code yX4_hush cX4_hush 3 (some .int) :: ([.fieldLink RX4 31 "TowerTellModel" "told" "[I", .methodLink RX4 122 yX4_isPerson, .instanceMethod yX4_isPerson, .selects RX4 yX4_isPerson yX4_isPerson, .initialized RX4, .code yX4_isPerson cX4_isPerson 2 (some .boolean), .fieldLink RX4 68 "TowerTellModel" "people" "I", .methodLink RX4 125 yX4_floorBy, .instanceMethod yX4_floorBy, .selects RX4 yX4_floorBy yX4_floorBy, .code yX4_floorBy cX4_floorBy 5 (some .int), .fieldLink RX4 65 "TowerTellModel" "deeds" "I", .methodLink RX4 118 yX4_storeysOf, .instanceMethod yX4_storeysOf, .selects RX4 yX4_storeysOf yX4_storeysOf, .code yX4_storeysOf cX4_storeysOf 3 (some .int), .fieldLink RX4 22 "TowerTellModel" "kind" "[I", .fieldLink RX4 19 "TowerTellModel" "weightOf" "[I"] ++ wsX40)
def wsX4_landing : List Cond := .code yX4_landing cX4_landing 4 (some .int) :: ([.fieldLink RX4 68 "TowerTellModel" "people" "I", .fieldLink RX4 31 "TowerTellModel" "told" "[I", .methodLink RX4 125 yX4_floorBy, .instanceMethod yX4_floorBy, .selects RX4 yX4_floorBy yX4_floorBy, .initialized RX4, .code yX4_floorBy cX4_floorBy 5 (some .int), .fieldLink RX4 65 "TowerTellModel" "deeds" "I", .methodLink RX4 118 yX4_storeysOf, .instanceMethod yX4_storeysOf, .selects RX4 yX4_storeysOf yX4_storeysOf, .code yX4_storeysOf cX4_storeysOf 3 (some .int), .fieldLink RX4 22 "TowerTellModel" "kind" "[I", .fieldLink RX4 19 "TowerTellModel" "weightOf" "[I"] ++ wsX40)
def wsX4_isRow : List Cond := .code yX4_isRow cX4_isRow 2 (some .boolean) :: ([.methodLink RX4 78 yX4_isSort, .static yX4_isSort, .initialized RX4, .code yX4_isSort cX4_isSort 1 (some .boolean), .methodLink RX4 61 yX4_within, .static yX4_within, .code yX4_within cX4_within 3 (some .boolean)])
def wsX4_layDays_r1 : List Cond := [Cond.fieldLink RX4 68 "TowerTellModel" "people" "I", Cond.fieldLink RX4 43 "TowerTellModel" "who" "[I", Cond.fieldLink RX4 16 "TowerTellModel" "cells" "[I", Cond.fieldLink RX4 46 "TowerTellModel" "what" "[I", Cond.fieldLink RX4 140 "TowerTellModel" "pairs" "I", Cond.methodLink RX4 81 yX4_against, Cond.instanceMethod yX4_against, Cond.selects RX4 yX4_against yX4_against, Cond.initialized RX4, Cond.code yX4_against cX4_against 5 (some .int), Cond.fieldLink RX4 9 "TowerTellModel" "sorts" "[I", Cond.fieldLink RX4 13 "TowerTellModel" "sheetLong" "[I", Cond.methodLink RX4 85 yX4_fails, Cond.instanceMethod yX4_fails, Cond.selects RX4 yX4_fails yX4_fails, Cond.code yX4_fails cX4_fails 2 (some .int), Cond.fieldLink RX4 55 "TowerTellModel" "fault" "I", Cond.methodLink RX4 122 yX4_isPerson, Cond.instanceMethod yX4_isPerson, Cond.selects RX4 yX4_isPerson yX4_isPerson, Cond.code yX4_isPerson cX4_isPerson 2 (some .boolean), Cond.methodLink RX4 128 yX4_isDeed, Cond.instanceMethod yX4_isDeed, Cond.selects RX4 yX4_isDeed yX4_isDeed]
def wsX4_layDays_r2 : List Cond := [Cond.code yX4_isDeed cX4_isDeed 2 (some .boolean), Cond.fieldLink RX4 65 "TowerTellModel" "deeds" "I"]
def wsX4_layDays : List Cond := .code yX4_layDays cX4_layDays 7 (some .int) :: ((wsX4_layDays_r1 ++ wsX4_layDays_r2) ++ wsX40)
def wsX4_goDays_r1 : List Cond := [Cond.fieldLink RX4 143 "TowerTellModel" "caught" "I", Cond.fieldLink RX4 140 "TowerTellModel" "pairs" "I", Cond.fieldLink RX4 40 "TowerTellModel" "then" "[I", Cond.fieldLink RX4 43 "TowerTellModel" "who" "[I", Cond.fieldLink RX4 46 "TowerTellModel" "what" "[I", Cond.methodLink RX4 134 yX4_asNow, Cond.instanceMethod yX4_asNow, Cond.selects RX4 yX4_asNow yX4_asNow, Cond.initialized RX4, Cond.code yX4_asNow cX4_asNow 2 none, Cond.fieldLink RX4 68 "TowerTellModel" "people" "I", Cond.fieldLink RX4 31 "TowerTellModel" "told" "[I", Cond.methodLink RX4 137 yX4_tells, Cond.instanceMethod yX4_tells, Cond.selects RX4 yX4_tells yX4_tells, Cond.code yX4_tells cX4_tells 3 (some .boolean), Cond.fieldLink RX4 25 "TowerTellModel" "done" "[I", Cond.methodLink RX4 131 yX4_isKnown, Cond.instanceMethod yX4_isKnown, Cond.selects RX4 yX4_isKnown yX4_isKnown, Cond.code yX4_isKnown cX4_isKnown 4 (some .boolean), Cond.fieldLink RX4 28 "TowerTellModel" "knows" "[I", Cond.methodLink RX4 125 yX4_floorBy, Cond.instanceMethod yX4_floorBy]
def wsX4_goDays_r2 : List Cond := [Cond.selects RX4 yX4_floorBy yX4_floorBy, Cond.code yX4_floorBy cX4_floorBy 5 (some .int), Cond.fieldLink RX4 65 "TowerTellModel" "deeds" "I", Cond.methodLink RX4 118 yX4_storeysOf, Cond.instanceMethod yX4_storeysOf, Cond.selects RX4 yX4_storeysOf yX4_storeysOf, Cond.code yX4_storeysOf cX4_storeysOf 3 (some .int), Cond.fieldLink RX4 22 "TowerTellModel" "kind" "[I", Cond.fieldLink RX4 19 "TowerTellModel" "weightOf" "[I"]
def wsX4_goDays : List Cond := .code yX4_goDays cX4_goDays 2 (some .int) :: ((wsX4_goDays_r1 ++ wsX4_goDays_r2) ++ wsX40)
def wsX4_tellDays : List Cond := .code yX4_tellDays cX4_tellDays 5 (some .int) :: ([.fieldLink RX4 143 "TowerTellModel" "caught" "I", .fieldLink RX4 68 "TowerTellModel" "people" "I", .fieldLink RX4 40 "TowerTellModel" "then" "[I", .methodLink RX4 125 yX4_floorBy, .instanceMethod yX4_floorBy, .selects RX4 yX4_floorBy yX4_floorBy, .initialized RX4, .code yX4_floorBy cX4_floorBy 5 (some .int), .fieldLink RX4 65 "TowerTellModel" "deeds" "I", .methodLink RX4 118 yX4_storeysOf, .instanceMethod yX4_storeysOf, .selects RX4 yX4_storeysOf yX4_storeysOf, .code yX4_storeysOf cX4_storeysOf 3 (some .int), .fieldLink RX4 22 "TowerTellModel" "kind" "[I", .fieldLink RX4 19 "TowerTellModel" "weightOf" "[I", .methodLink RX4 122 yX4_isPerson, .instanceMethod yX4_isPerson, .selects RX4 yX4_isPerson yX4_isPerson, .code yX4_isPerson cX4_isPerson 2 (some .boolean)] ++ wsX40)
def wsX4_days_r1 : List Cond := [Cond.fieldLink RX4 55 "TowerTellModel" "fault" "I", Cond.methodLink RX4 74 yX4_isSheet, Cond.static yX4_isSheet, Cond.initialized RX4, Cond.code yX4_isSheet cX4_isSheet 1 (some .boolean), Cond.methodLink RX4 61 yX4_within, Cond.static yX4_within, Cond.code yX4_within cX4_within 3 (some .boolean), Cond.methodLink RX4 146 yX4_isRow, Cond.static yX4_isRow, Cond.code yX4_isRow cX4_isRow 2 (some .boolean), Cond.methodLink RX4 78 yX4_isSort, Cond.static yX4_isSort, Cond.code yX4_isSort cX4_isSort 1 (some .boolean), Cond.methodLink RX4 149 yX4_layDays, Cond.instanceMethod yX4_layDays, Cond.selects RX4 yX4_layDays yX4_layDays, Cond.code yX4_layDays cX4_layDays 7 (some .int), Cond.fieldLink RX4 68 "TowerTellModel" "people" "I", Cond.fieldLink RX4 43 "TowerTellModel" "who" "[I", Cond.fieldLink RX4 16 "TowerTellModel" "cells" "[I", Cond.fieldLink RX4 46 "TowerTellModel" "what" "[I", Cond.fieldLink RX4 140 "TowerTellModel" "pairs" "I", Cond.methodLink RX4 81 yX4_against]
def wsX4_days_r2 : List Cond := [Cond.instanceMethod yX4_against, Cond.selects RX4 yX4_against yX4_against, Cond.code yX4_against cX4_against 5 (some .int), Cond.fieldLink RX4 9 "TowerTellModel" "sorts" "[I", Cond.fieldLink RX4 13 "TowerTellModel" "sheetLong" "[I", Cond.methodLink RX4 85 yX4_fails, Cond.instanceMethod yX4_fails, Cond.selects RX4 yX4_fails yX4_fails, Cond.code yX4_fails cX4_fails 2 (some .int), Cond.methodLink RX4 122 yX4_isPerson, Cond.instanceMethod yX4_isPerson, Cond.selects RX4 yX4_isPerson yX4_isPerson, Cond.code yX4_isPerson cX4_isPerson 2 (some .boolean), Cond.methodLink RX4 128 yX4_isDeed, Cond.instanceMethod yX4_isDeed, Cond.selects RX4 yX4_isDeed yX4_isDeed, Cond.code yX4_isDeed cX4_isDeed 2 (some .boolean), Cond.fieldLink RX4 65 "TowerTellModel" "deeds" "I", Cond.methodLink RX4 152 yX4_goDays, Cond.instanceMethod yX4_goDays, Cond.selects RX4 yX4_goDays yX4_goDays, Cond.code yX4_goDays cX4_goDays 2 (some .int), Cond.fieldLink RX4 143 "TowerTellModel" "caught" "I", Cond.fieldLink RX4 40 "TowerTellModel" "then" "[I"]
def wsX4_days_r3 : List Cond := [Cond.methodLink RX4 134 yX4_asNow, Cond.instanceMethod yX4_asNow, Cond.selects RX4 yX4_asNow yX4_asNow, Cond.code yX4_asNow cX4_asNow 2 none, Cond.fieldLink RX4 31 "TowerTellModel" "told" "[I", Cond.methodLink RX4 137 yX4_tells, Cond.instanceMethod yX4_tells, Cond.selects RX4 yX4_tells yX4_tells, Cond.code yX4_tells cX4_tells 3 (some .boolean), Cond.fieldLink RX4 25 "TowerTellModel" "done" "[I", Cond.methodLink RX4 131 yX4_isKnown, Cond.instanceMethod yX4_isKnown, Cond.selects RX4 yX4_isKnown yX4_isKnown, Cond.code yX4_isKnown cX4_isKnown 4 (some .boolean), Cond.fieldLink RX4 28 "TowerTellModel" "knows" "[I", Cond.methodLink RX4 125 yX4_floorBy, Cond.instanceMethod yX4_floorBy, Cond.selects RX4 yX4_floorBy yX4_floorBy, Cond.code yX4_floorBy cX4_floorBy 5 (some .int), Cond.methodLink RX4 118 yX4_storeysOf, Cond.instanceMethod yX4_storeysOf, Cond.selects RX4 yX4_storeysOf yX4_storeysOf, Cond.code yX4_storeysOf cX4_storeysOf 3 (some .int), Cond.fieldLink RX4 22 "TowerTellModel" "kind" "[I"]
def wsX4_days_r4 : List Cond := [Cond.fieldLink RX4 19 "TowerTellModel" "weightOf" "[I", Cond.methodLink RX4 156 yX4_tellDays, Cond.instanceMethod yX4_tellDays, Cond.selects RX4 yX4_tellDays yX4_tellDays, Cond.code yX4_tellDays cX4_tellDays 5 (some .int)]
def wsX4_days : List Cond := .code yX4_days cX4_days 8 (some .int) :: ((wsX4_days_r1 ++ (wsX4_days_r2 ++ (wsX4_days_r3 ++ wsX4_days_r4))) ++ wsX40)
def wsX4_size : List Cond := .code yX4_size cX4_size 3 (some .int) :: ([])
def wsX4_isTruths : List Cond := .code yX4_isTruths cX4_isTruths 3 (some .boolean) :: ([.fieldLink RX4 25 "TowerTellModel" "done" "[I"] ++ wsX40)
def wsX4_way_r1 : List Cond := [Cond.fieldLink RX4 65 "TowerTellModel" "deeds" "I", Cond.methodLink RX4 122 yX4_isPerson, Cond.instanceMethod yX4_isPerson, Cond.selects RX4 yX4_isPerson yX4_isPerson, Cond.initialized RX4, Cond.code yX4_isPerson cX4_isPerson 2 (some .boolean), Cond.fieldLink RX4 68 "TowerTellModel" "people" "I", Cond.methodLink RX4 159 yX4_isTruths, Cond.instanceMethod yX4_isTruths, Cond.selects RX4 yX4_isTruths yX4_isTruths, Cond.code yX4_isTruths cX4_isTruths 3 (some .boolean), Cond.fieldLink RX4 25 "TowerTellModel" "done" "[I", Cond.methodLink RX4 125 yX4_floorBy, Cond.instanceMethod yX4_floorBy, Cond.selects RX4 yX4_floorBy yX4_floorBy, Cond.code yX4_floorBy cX4_floorBy 5 (some .int), Cond.methodLink RX4 118 yX4_storeysOf, Cond.instanceMethod yX4_storeysOf, Cond.selects RX4 yX4_storeysOf yX4_storeysOf, Cond.code yX4_storeysOf cX4_storeysOf 3 (some .int), Cond.fieldLink RX4 22 "TowerTellModel" "kind" "[I", Cond.fieldLink RX4 19 "TowerTellModel" "weightOf" "[I", Cond.methodLink RX4 162 yX4_size, Cond.static yX4_size]
def wsX4_way_r2 : List Cond := [Cond.code yX4_size cX4_size 3 (some .int)]
def wsX4_way : List Cond := .code yX4_way cX4_way 5 (some .int) :: ((wsX4_way_r1 ++ wsX4_way_r2) ++ wsX40)
def wsX4_kept : List Cond := .code yX4_kept cX4_kept 5 (some .int) :: ([.fieldLink RX4 65 "TowerTellModel" "deeds" "I", .methodLink RX4 122 yX4_isPerson, .instanceMethod yX4_isPerson, .selects RX4 yX4_isPerson yX4_isPerson, .initialized RX4, .code yX4_isPerson cX4_isPerson 2 (some .boolean), .fieldLink RX4 68 "TowerTellModel" "people" "I", .methodLink RX4 159 yX4_isTruths, .instanceMethod yX4_isTruths, .selects RX4 yX4_isTruths yX4_isTruths, .code yX4_isTruths cX4_isTruths 3 (some .boolean), .fieldLink RX4 25 "TowerTellModel" "done" "[I", .methodLink RX4 125 yX4_floorBy, .instanceMethod yX4_floorBy, .selects RX4 yX4_floorBy yX4_floorBy, .code yX4_floorBy cX4_floorBy 5 (some .int), .methodLink RX4 118 yX4_storeysOf, .instanceMethod yX4_storeysOf, .selects RX4 yX4_storeysOf yX4_storeysOf, .code yX4_storeysOf cX4_storeysOf 3 (some .int), .fieldLink RX4 22 "TowerTellModel" "kind" "[I", .fieldLink RX4 19 "TowerTellModel" "weightOf" "[I"] ++ wsX40)
def wsX4_roof : List Cond := .code yX4_roof cX4_roof 2 (some .int) :: ([.fieldLink RX4 25 "TowerTellModel" "done" "[I", .methodLink RX4 122 yX4_isPerson, .instanceMethod yX4_isPerson, .selects RX4 yX4_isPerson yX4_isPerson, .initialized RX4, .code yX4_isPerson cX4_isPerson 2 (some .boolean), .fieldLink RX4 68 "TowerTellModel" "people" "I", .methodLink RX4 125 yX4_floorBy, .instanceMethod yX4_floorBy, .selects RX4 yX4_floorBy yX4_floorBy, .code yX4_floorBy cX4_floorBy 5 (some .int), .fieldLink RX4 65 "TowerTellModel" "deeds" "I", .methodLink RX4 118 yX4_storeysOf, .instanceMethod yX4_storeysOf, .selects RX4 yX4_storeysOf yX4_storeysOf, .code yX4_storeysOf cX4_storeysOf 3 (some .int), .fieldLink RX4 22 "TowerTellModel" "kind" "[I", .fieldLink RX4 19 "TowerTellModel" "weightOf" "[I"] ++ wsX40)
def wsX4_safe_r1 : List Cond := [Cond.fieldLink RX4 65 "TowerTellModel" "deeds" "I", Cond.fieldLink RX4 31 "TowerTellModel" "told" "[I", Cond.fieldLink RX4 25 "TowerTellModel" "done" "[I", Cond.methodLink RX4 122 yX4_isPerson, Cond.instanceMethod yX4_isPerson, Cond.selects RX4 yX4_isPerson yX4_isPerson, Cond.initialized RX4, Cond.code yX4_isPerson cX4_isPerson 2 (some .boolean), Cond.fieldLink RX4 68 "TowerTellModel" "people" "I", Cond.methodLink RX4 134 yX4_asNow, Cond.instanceMethod yX4_asNow, Cond.selects RX4 yX4_asNow yX4_asNow, Cond.code yX4_asNow cX4_asNow 2 none, Cond.fieldLink RX4 40 "TowerTellModel" "then" "[I", Cond.methodLink RX4 131 yX4_isKnown, Cond.instanceMethod yX4_isKnown, Cond.selects RX4 yX4_isKnown yX4_isKnown, Cond.code yX4_isKnown cX4_isKnown 4 (some .boolean), Cond.fieldLink RX4 28 "TowerTellModel" "knows" "[I", Cond.methodLink RX4 125 yX4_floorBy, Cond.instanceMethod yX4_floorBy, Cond.selects RX4 yX4_floorBy yX4_floorBy, Cond.code yX4_floorBy cX4_floorBy 5 (some .int), Cond.methodLink RX4 118 yX4_storeysOf]
def wsX4_safe_r2 : List Cond := [Cond.instanceMethod yX4_storeysOf, Cond.selects RX4 yX4_storeysOf yX4_storeysOf, Cond.code yX4_storeysOf cX4_storeysOf 3 (some .int), Cond.fieldLink RX4 22 "TowerTellModel" "kind" "[I", Cond.fieldLink RX4 19 "TowerTellModel" "weightOf" "[I"]
def wsX4_safe : List Cond := .code yX4_safe cX4_safe 3 (some .int) :: ((wsX4_safe_r1 ++ wsX4_safe_r2) ++ wsX40)
def wsX4_reading : List Cond := .code yX4_reading cX4_reading 3 (some .int) :: ([.fieldLink RX4 101 "TowerTellModel" "readings" "I", .fieldLink RX4 49 "TowerTellModel" "readWho" "[I", .fieldLink RX4 52 "TowerTellModel" "readFloor" "[I", .methodLink RX4 122 yX4_isPerson, .instanceMethod yX4_isPerson, .selects RX4 yX4_isPerson yX4_isPerson, .initialized RX4, .code yX4_isPerson cX4_isPerson 2 (some .boolean), .fieldLink RX4 68 "TowerTellModel" "people" "I", .methodLink RX4 61 yX4_within, .static yX4_within, .code yX4_within cX4_within 3 (some .boolean)] ++ wsX40)
def wsX4_back : List Cond := .code yX4_back cX4_back 2 (some .int) :: ([.fieldLink RX4 101 "TowerTellModel" "readings" "I", .methodLink RX4 61 yX4_within, .static yX4_within, .initialized RX4, .code yX4_within cX4_within 3 (some .boolean)] ++ wsX40)
def wsX4_areSo_r1 : List Cond := [Cond.fieldLink RX4 101 "TowerTellModel" "readings" "I", Cond.fieldLink RX4 49 "TowerTellModel" "readWho" "[I", Cond.fieldLink RX4 40 "TowerTellModel" "then" "[I", Cond.fieldLink RX4 52 "TowerTellModel" "readFloor" "[I", Cond.methodLink RX4 152 yX4_goDays, Cond.instanceMethod yX4_goDays, Cond.selects RX4 yX4_goDays yX4_goDays, Cond.initialized RX4, Cond.code yX4_goDays cX4_goDays 2 (some .int), Cond.fieldLink RX4 143 "TowerTellModel" "caught" "I", Cond.fieldLink RX4 140 "TowerTellModel" "pairs" "I", Cond.fieldLink RX4 43 "TowerTellModel" "who" "[I", Cond.fieldLink RX4 46 "TowerTellModel" "what" "[I", Cond.methodLink RX4 134 yX4_asNow, Cond.instanceMethod yX4_asNow, Cond.selects RX4 yX4_asNow yX4_asNow, Cond.code yX4_asNow cX4_asNow 2 none, Cond.fieldLink RX4 68 "TowerTellModel" "people" "I", Cond.fieldLink RX4 31 "TowerTellModel" "told" "[I", Cond.methodLink RX4 137 yX4_tells, Cond.instanceMethod yX4_tells, Cond.selects RX4 yX4_tells yX4_tells, Cond.code yX4_tells cX4_tells 3 (some .boolean), Cond.fieldLink RX4 25 "TowerTellModel" "done" "[I"]
def wsX4_areSo_r2 : List Cond := [Cond.methodLink RX4 131 yX4_isKnown, Cond.instanceMethod yX4_isKnown, Cond.selects RX4 yX4_isKnown yX4_isKnown, Cond.code yX4_isKnown cX4_isKnown 4 (some .boolean), Cond.fieldLink RX4 28 "TowerTellModel" "knows" "[I", Cond.methodLink RX4 125 yX4_floorBy, Cond.instanceMethod yX4_floorBy, Cond.selects RX4 yX4_floorBy yX4_floorBy, Cond.code yX4_floorBy cX4_floorBy 5 (some .int), Cond.fieldLink RX4 65 "TowerTellModel" "deeds" "I", Cond.methodLink RX4 118 yX4_storeysOf, Cond.instanceMethod yX4_storeysOf, Cond.selects RX4 yX4_storeysOf yX4_storeysOf, Cond.code yX4_storeysOf cX4_storeysOf 3 (some .int), Cond.fieldLink RX4 22 "TowerTellModel" "kind" "[I", Cond.fieldLink RX4 19 "TowerTellModel" "weightOf" "[I"]
def wsX4_areSo : List Cond := .code yX4_areSo cX4_areSo 2 (some .boolean) :: ((wsX4_areSo_r1 ++ wsX4_areSo_r2) ++ wsX40)
def wsX4_lay_r1 : List Cond := [Cond.fieldLink RX4 55 "TowerTellModel" "fault" "I", Cond.methodLink RX4 74 yX4_isSheet, Cond.static yX4_isSheet, Cond.initialized RX4, Cond.code yX4_isSheet cX4_isSheet 1 (some .boolean), Cond.methodLink RX4 61 yX4_within, Cond.static yX4_within, Cond.code yX4_within cX4_within 3 (some .boolean), Cond.methodLink RX4 146 yX4_isRow, Cond.static yX4_isRow, Cond.code yX4_isRow cX4_isRow 2 (some .boolean), Cond.methodLink RX4 78 yX4_isSort, Cond.static yX4_isSort, Cond.code yX4_isSort cX4_isSort 1 (some .boolean), Cond.methodLink RX4 149 yX4_layDays, Cond.instanceMethod yX4_layDays, Cond.selects RX4 yX4_layDays yX4_layDays, Cond.code yX4_layDays cX4_layDays 7 (some .int), Cond.fieldLink RX4 68 "TowerTellModel" "people" "I", Cond.fieldLink RX4 43 "TowerTellModel" "who" "[I", Cond.fieldLink RX4 16 "TowerTellModel" "cells" "[I", Cond.fieldLink RX4 46 "TowerTellModel" "what" "[I", Cond.fieldLink RX4 140 "TowerTellModel" "pairs" "I", Cond.methodLink RX4 81 yX4_against]
def wsX4_lay_r2 : List Cond := [Cond.instanceMethod yX4_against, Cond.selects RX4 yX4_against yX4_against, Cond.code yX4_against cX4_against 5 (some .int), Cond.fieldLink RX4 9 "TowerTellModel" "sorts" "[I", Cond.fieldLink RX4 13 "TowerTellModel" "sheetLong" "[I", Cond.methodLink RX4 85 yX4_fails, Cond.instanceMethod yX4_fails, Cond.selects RX4 yX4_fails yX4_fails, Cond.code yX4_fails cX4_fails 2 (some .int), Cond.methodLink RX4 122 yX4_isPerson, Cond.instanceMethod yX4_isPerson, Cond.selects RX4 yX4_isPerson yX4_isPerson, Cond.code yX4_isPerson cX4_isPerson 2 (some .boolean), Cond.methodLink RX4 128 yX4_isDeed, Cond.instanceMethod yX4_isDeed, Cond.selects RX4 yX4_isDeed yX4_isDeed, Cond.code yX4_isDeed cX4_isDeed 2 (some .boolean), Cond.fieldLink RX4 65 "TowerTellModel" "deeds" "I"]
def wsX4_lay : List Cond := .code yX4_lay cX4_lay 6 (some .int) :: ((wsX4_lay_r1 ++ wsX4_lay_r2) ++ wsX40)
def wsX4_weights_r1 : List Cond := [Cond.fieldLink RX4 19 "TowerTellModel" "weightOf" "[I", Cond.methodLink RX4 128 yX4_isDeed, Cond.instanceMethod yX4_isDeed, Cond.selects RX4 yX4_isDeed yX4_isDeed, Cond.initialized RX4, Cond.code yX4_isDeed cX4_isDeed 2 (some .boolean), Cond.fieldLink RX4 65 "TowerTellModel" "deeds" "I", Cond.methodLink RX4 165 yX4_lay, Cond.instanceMethod yX4_lay, Cond.selects RX4 yX4_lay yX4_lay, Cond.code yX4_lay cX4_lay 6 (some .int), Cond.fieldLink RX4 55 "TowerTellModel" "fault" "I", Cond.methodLink RX4 74 yX4_isSheet, Cond.static yX4_isSheet, Cond.code yX4_isSheet cX4_isSheet 1 (some .boolean), Cond.methodLink RX4 61 yX4_within, Cond.static yX4_within, Cond.code yX4_within cX4_within 3 (some .boolean), Cond.methodLink RX4 146 yX4_isRow, Cond.static yX4_isRow, Cond.code yX4_isRow cX4_isRow 2 (some .boolean), Cond.methodLink RX4 78 yX4_isSort, Cond.static yX4_isSort, Cond.code yX4_isSort cX4_isSort 1 (some .boolean)]
def wsX4_weights_r2 : List Cond := [Cond.methodLink RX4 149 yX4_layDays, Cond.instanceMethod yX4_layDays, Cond.selects RX4 yX4_layDays yX4_layDays, Cond.code yX4_layDays cX4_layDays 7 (some .int), Cond.fieldLink RX4 68 "TowerTellModel" "people" "I", Cond.fieldLink RX4 43 "TowerTellModel" "who" "[I", Cond.fieldLink RX4 16 "TowerTellModel" "cells" "[I", Cond.fieldLink RX4 46 "TowerTellModel" "what" "[I", Cond.fieldLink RX4 140 "TowerTellModel" "pairs" "I", Cond.methodLink RX4 81 yX4_against, Cond.instanceMethod yX4_against, Cond.selects RX4 yX4_against yX4_against, Cond.code yX4_against cX4_against 5 (some .int), Cond.fieldLink RX4 9 "TowerTellModel" "sorts" "[I", Cond.fieldLink RX4 13 "TowerTellModel" "sheetLong" "[I", Cond.methodLink RX4 85 yX4_fails, Cond.instanceMethod yX4_fails, Cond.selects RX4 yX4_fails yX4_fails, Cond.code yX4_fails cX4_fails 2 (some .int), Cond.methodLink RX4 122 yX4_isPerson, Cond.instanceMethod yX4_isPerson, Cond.selects RX4 yX4_isPerson yX4_isPerson, Cond.code yX4_isPerson cX4_isPerson 2 (some .boolean), Cond.methodLink RX4 169 yX4_areSo]
def wsX4_weights_r3 : List Cond := [Cond.instanceMethod yX4_areSo, Cond.selects RX4 yX4_areSo yX4_areSo, Cond.code yX4_areSo cX4_areSo 2 (some .boolean), Cond.fieldLink RX4 101 "TowerTellModel" "readings" "I", Cond.fieldLink RX4 49 "TowerTellModel" "readWho" "[I", Cond.fieldLink RX4 40 "TowerTellModel" "then" "[I", Cond.fieldLink RX4 52 "TowerTellModel" "readFloor" "[I", Cond.methodLink RX4 152 yX4_goDays, Cond.instanceMethod yX4_goDays, Cond.selects RX4 yX4_goDays yX4_goDays, Cond.code yX4_goDays cX4_goDays 2 (some .int), Cond.fieldLink RX4 143 "TowerTellModel" "caught" "I", Cond.methodLink RX4 134 yX4_asNow, Cond.instanceMethod yX4_asNow, Cond.selects RX4 yX4_asNow yX4_asNow, Cond.code yX4_asNow cX4_asNow 2 none, Cond.fieldLink RX4 31 "TowerTellModel" "told" "[I", Cond.methodLink RX4 137 yX4_tells, Cond.instanceMethod yX4_tells, Cond.selects RX4 yX4_tells yX4_tells, Cond.code yX4_tells cX4_tells 3 (some .boolean), Cond.fieldLink RX4 25 "TowerTellModel" "done" "[I", Cond.methodLink RX4 131 yX4_isKnown, Cond.instanceMethod yX4_isKnown]
def wsX4_weights_r4 : List Cond := [Cond.selects RX4 yX4_isKnown yX4_isKnown, Cond.code yX4_isKnown cX4_isKnown 4 (some .boolean), Cond.fieldLink RX4 28 "TowerTellModel" "knows" "[I", Cond.methodLink RX4 125 yX4_floorBy, Cond.instanceMethod yX4_floorBy, Cond.selects RX4 yX4_floorBy yX4_floorBy, Cond.code yX4_floorBy cX4_floorBy 5 (some .int), Cond.methodLink RX4 118 yX4_storeysOf, Cond.instanceMethod yX4_storeysOf, Cond.selects RX4 yX4_storeysOf yX4_storeysOf, Cond.code yX4_storeysOf cX4_storeysOf 3 (some .int), Cond.fieldLink RX4 22 "TowerTellModel" "kind" "[I"]
def wsX4_weights : List Cond := .code yX4_weights cX4_weights 10 (some .int) :: ((wsX4_weights_r1 ++ (wsX4_weights_r2 ++ (wsX4_weights_r3 ++ wsX4_weights_r4))) ++ wsX40)
def wsX4_kinds_r1 : List Cond := [Cond.fieldLink RX4 22 "TowerTellModel" "kind" "[I", Cond.methodLink RX4 122 yX4_isPerson, Cond.instanceMethod yX4_isPerson, Cond.selects RX4 yX4_isPerson yX4_isPerson, Cond.initialized RX4, Cond.code yX4_isPerson cX4_isPerson 2 (some .boolean), Cond.fieldLink RX4 68 "TowerTellModel" "people" "I", Cond.methodLink RX4 165 yX4_lay, Cond.instanceMethod yX4_lay, Cond.selects RX4 yX4_lay yX4_lay, Cond.code yX4_lay cX4_lay 6 (some .int), Cond.fieldLink RX4 55 "TowerTellModel" "fault" "I", Cond.methodLink RX4 74 yX4_isSheet, Cond.static yX4_isSheet, Cond.code yX4_isSheet cX4_isSheet 1 (some .boolean), Cond.methodLink RX4 61 yX4_within, Cond.static yX4_within, Cond.code yX4_within cX4_within 3 (some .boolean), Cond.methodLink RX4 146 yX4_isRow, Cond.static yX4_isRow, Cond.code yX4_isRow cX4_isRow 2 (some .boolean), Cond.methodLink RX4 78 yX4_isSort, Cond.static yX4_isSort, Cond.code yX4_isSort cX4_isSort 1 (some .boolean)]
def wsX4_kinds_r2 : List Cond := [Cond.methodLink RX4 149 yX4_layDays, Cond.instanceMethod yX4_layDays, Cond.selects RX4 yX4_layDays yX4_layDays, Cond.code yX4_layDays cX4_layDays 7 (some .int), Cond.fieldLink RX4 43 "TowerTellModel" "who" "[I", Cond.fieldLink RX4 16 "TowerTellModel" "cells" "[I", Cond.fieldLink RX4 46 "TowerTellModel" "what" "[I", Cond.fieldLink RX4 140 "TowerTellModel" "pairs" "I", Cond.methodLink RX4 81 yX4_against, Cond.instanceMethod yX4_against, Cond.selects RX4 yX4_against yX4_against, Cond.code yX4_against cX4_against 5 (some .int), Cond.fieldLink RX4 9 "TowerTellModel" "sorts" "[I", Cond.fieldLink RX4 13 "TowerTellModel" "sheetLong" "[I", Cond.methodLink RX4 85 yX4_fails, Cond.instanceMethod yX4_fails, Cond.selects RX4 yX4_fails yX4_fails, Cond.code yX4_fails cX4_fails 2 (some .int), Cond.methodLink RX4 128 yX4_isDeed, Cond.instanceMethod yX4_isDeed, Cond.selects RX4 yX4_isDeed yX4_isDeed, Cond.code yX4_isDeed cX4_isDeed 2 (some .boolean), Cond.fieldLink RX4 65 "TowerTellModel" "deeds" "I", Cond.methodLink RX4 169 yX4_areSo]
def wsX4_kinds_r3 : List Cond := [Cond.instanceMethod yX4_areSo, Cond.selects RX4 yX4_areSo yX4_areSo, Cond.code yX4_areSo cX4_areSo 2 (some .boolean), Cond.fieldLink RX4 101 "TowerTellModel" "readings" "I", Cond.fieldLink RX4 49 "TowerTellModel" "readWho" "[I", Cond.fieldLink RX4 40 "TowerTellModel" "then" "[I", Cond.fieldLink RX4 52 "TowerTellModel" "readFloor" "[I", Cond.methodLink RX4 152 yX4_goDays, Cond.instanceMethod yX4_goDays, Cond.selects RX4 yX4_goDays yX4_goDays, Cond.code yX4_goDays cX4_goDays 2 (some .int), Cond.fieldLink RX4 143 "TowerTellModel" "caught" "I", Cond.methodLink RX4 134 yX4_asNow, Cond.instanceMethod yX4_asNow, Cond.selects RX4 yX4_asNow yX4_asNow, Cond.code yX4_asNow cX4_asNow 2 none, Cond.fieldLink RX4 31 "TowerTellModel" "told" "[I", Cond.methodLink RX4 137 yX4_tells, Cond.instanceMethod yX4_tells, Cond.selects RX4 yX4_tells yX4_tells, Cond.code yX4_tells cX4_tells 3 (some .boolean), Cond.fieldLink RX4 25 "TowerTellModel" "done" "[I", Cond.methodLink RX4 131 yX4_isKnown, Cond.instanceMethod yX4_isKnown]
def wsX4_kinds_r4 : List Cond := [Cond.selects RX4 yX4_isKnown yX4_isKnown, Cond.code yX4_isKnown cX4_isKnown 4 (some .boolean), Cond.fieldLink RX4 28 "TowerTellModel" "knows" "[I", Cond.methodLink RX4 125 yX4_floorBy, Cond.instanceMethod yX4_floorBy, Cond.selects RX4 yX4_floorBy yX4_floorBy, Cond.code yX4_floorBy cX4_floorBy 5 (some .int), Cond.methodLink RX4 118 yX4_storeysOf, Cond.instanceMethod yX4_storeysOf, Cond.selects RX4 yX4_storeysOf yX4_storeysOf, Cond.code yX4_storeysOf cX4_storeysOf 3 (some .int), Cond.fieldLink RX4 19 "TowerTellModel" "weightOf" "[I"]
def wsX4_kinds : List Cond := .code yX4_kinds cX4_kinds 10 (some .int) :: ((wsX4_kinds_r1 ++ (wsX4_kinds_r2 ++ (wsX4_kinds_r3 ++ wsX4_kinds_r4))) ++ wsX40)
def wsX4_knew_r1 : List Cond := [Cond.fieldLink RX4 28 "TowerTellModel" "knows" "[I", Cond.methodLink RX4 122 yX4_isPerson, Cond.instanceMethod yX4_isPerson, Cond.selects RX4 yX4_isPerson yX4_isPerson, Cond.initialized RX4, Cond.code yX4_isPerson cX4_isPerson 2 (some .boolean), Cond.fieldLink RX4 68 "TowerTellModel" "people" "I", Cond.methodLink RX4 165 yX4_lay, Cond.instanceMethod yX4_lay, Cond.selects RX4 yX4_lay yX4_lay, Cond.code yX4_lay cX4_lay 6 (some .int), Cond.fieldLink RX4 55 "TowerTellModel" "fault" "I", Cond.methodLink RX4 74 yX4_isSheet, Cond.static yX4_isSheet, Cond.code yX4_isSheet cX4_isSheet 1 (some .boolean), Cond.methodLink RX4 61 yX4_within, Cond.static yX4_within, Cond.code yX4_within cX4_within 3 (some .boolean), Cond.methodLink RX4 146 yX4_isRow, Cond.static yX4_isRow, Cond.code yX4_isRow cX4_isRow 2 (some .boolean), Cond.methodLink RX4 78 yX4_isSort, Cond.static yX4_isSort, Cond.code yX4_isSort cX4_isSort 1 (some .boolean)]
def wsX4_knew_r2 : List Cond := [Cond.methodLink RX4 149 yX4_layDays, Cond.instanceMethod yX4_layDays, Cond.selects RX4 yX4_layDays yX4_layDays, Cond.code yX4_layDays cX4_layDays 7 (some .int), Cond.fieldLink RX4 43 "TowerTellModel" "who" "[I", Cond.fieldLink RX4 16 "TowerTellModel" "cells" "[I", Cond.fieldLink RX4 46 "TowerTellModel" "what" "[I", Cond.fieldLink RX4 140 "TowerTellModel" "pairs" "I", Cond.methodLink RX4 81 yX4_against, Cond.instanceMethod yX4_against, Cond.selects RX4 yX4_against yX4_against, Cond.code yX4_against cX4_against 5 (some .int), Cond.fieldLink RX4 9 "TowerTellModel" "sorts" "[I", Cond.fieldLink RX4 13 "TowerTellModel" "sheetLong" "[I", Cond.methodLink RX4 85 yX4_fails, Cond.instanceMethod yX4_fails, Cond.selects RX4 yX4_fails yX4_fails, Cond.code yX4_fails cX4_fails 2 (some .int), Cond.methodLink RX4 128 yX4_isDeed, Cond.instanceMethod yX4_isDeed, Cond.selects RX4 yX4_isDeed yX4_isDeed, Cond.code yX4_isDeed cX4_isDeed 2 (some .boolean), Cond.fieldLink RX4 65 "TowerTellModel" "deeds" "I", Cond.methodLink RX4 169 yX4_areSo]
def wsX4_knew_r3 : List Cond := [Cond.instanceMethod yX4_areSo, Cond.selects RX4 yX4_areSo yX4_areSo, Cond.code yX4_areSo cX4_areSo 2 (some .boolean), Cond.fieldLink RX4 101 "TowerTellModel" "readings" "I", Cond.fieldLink RX4 49 "TowerTellModel" "readWho" "[I", Cond.fieldLink RX4 40 "TowerTellModel" "then" "[I", Cond.fieldLink RX4 52 "TowerTellModel" "readFloor" "[I", Cond.methodLink RX4 152 yX4_goDays, Cond.instanceMethod yX4_goDays, Cond.selects RX4 yX4_goDays yX4_goDays, Cond.code yX4_goDays cX4_goDays 2 (some .int), Cond.fieldLink RX4 143 "TowerTellModel" "caught" "I", Cond.methodLink RX4 134 yX4_asNow, Cond.instanceMethod yX4_asNow, Cond.selects RX4 yX4_asNow yX4_asNow, Cond.code yX4_asNow cX4_asNow 2 none, Cond.fieldLink RX4 31 "TowerTellModel" "told" "[I", Cond.methodLink RX4 137 yX4_tells, Cond.instanceMethod yX4_tells, Cond.selects RX4 yX4_tells yX4_tells, Cond.code yX4_tells cX4_tells 3 (some .boolean), Cond.fieldLink RX4 25 "TowerTellModel" "done" "[I", Cond.methodLink RX4 131 yX4_isKnown, Cond.instanceMethod yX4_isKnown]
def wsX4_knew_r4 : List Cond := [Cond.selects RX4 yX4_isKnown yX4_isKnown, Cond.code yX4_isKnown cX4_isKnown 4 (some .boolean), Cond.methodLink RX4 125 yX4_floorBy, Cond.instanceMethod yX4_floorBy, Cond.selects RX4 yX4_floorBy yX4_floorBy, Cond.code yX4_floorBy cX4_floorBy 5 (some .int), Cond.methodLink RX4 118 yX4_storeysOf, Cond.instanceMethod yX4_storeysOf, Cond.selects RX4 yX4_storeysOf yX4_storeysOf, Cond.code yX4_storeysOf cX4_storeysOf 3 (some .int), Cond.fieldLink RX4 22 "TowerTellModel" "kind" "[I", Cond.fieldLink RX4 19 "TowerTellModel" "weightOf" "[I"]
def wsX4_knew : List Cond := .code yX4_knew cX4_knew 10 (some .int) :: ((wsX4_knew_r1 ++ (wsX4_knew_r2 ++ (wsX4_knew_r3 ++ wsX4_knew_r4))) ++ wsX40)
def wsX4_inLeastTerms : List Cond := .code yX4_inLeastTerms cX4_inLeastTerms 11 (some .long) :: ([])
def wsX4_odds_r1 : List Cond := [Cond.constantLong RX4 59 (-9223372036854775808), Cond.fieldLink RX4 65 "TowerTellModel" "deeds" "I", Cond.fieldLink RX4 25 "TowerTellModel" "done" "[I", Cond.methodLink RX4 122 yX4_isPerson, Cond.instanceMethod yX4_isPerson, Cond.selects RX4 yX4_isPerson yX4_isPerson, Cond.initialized RX4, Cond.code yX4_isPerson cX4_isPerson 2 (some .boolean), Cond.fieldLink RX4 68 "TowerTellModel" "people" "I", Cond.methodLink RX4 61 yX4_within, Cond.static yX4_within, Cond.code yX4_within cX4_within 3 (some .boolean), Cond.methodLink RX4 159 yX4_isTruths, Cond.instanceMethod yX4_isTruths, Cond.selects RX4 yX4_isTruths yX4_isTruths, Cond.code yX4_isTruths cX4_isTruths 3 (some .boolean), Cond.methodLink RX4 125 yX4_floorBy, Cond.instanceMethod yX4_floorBy, Cond.selects RX4 yX4_floorBy yX4_floorBy, Cond.code yX4_floorBy cX4_floorBy 5 (some .int), Cond.methodLink RX4 118 yX4_storeysOf, Cond.instanceMethod yX4_storeysOf, Cond.selects RX4 yX4_storeysOf yX4_storeysOf, Cond.code yX4_storeysOf cX4_storeysOf 3 (some .int)]
def wsX4_odds_r2 : List Cond := [Cond.fieldLink RX4 22 "TowerTellModel" "kind" "[I", Cond.fieldLink RX4 19 "TowerTellModel" "weightOf" "[I", Cond.methodLink RX4 162 yX4_size, Cond.static yX4_size, Cond.code yX4_size cX4_size 3 (some .int), Cond.methodLink RX4 173 yX4_inLeastTerms, Cond.static yX4_inLeastTerms, Cond.code yX4_inLeastTerms cX4_inLeastTerms 11 (some .long)]
def wsX4_odds : List Cond := .code yX4_odds cX4_odds 6 (some .long) :: ((wsX4_odds_r1 ++ wsX4_odds_r2) ++ wsX40)
def wsX4_sheet : List Cond := .code yX4_sheet cX4_sheet 5 (some .int) :: ([.fieldLink RX4 55 "TowerTellModel" "fault" "I", .fieldLink RX4 9 "TowerTellModel" "sorts" "[I", .fieldLink RX4 13 "TowerTellModel" "sheetLong" "[I", .fieldLink RX4 16 "TowerTellModel" "cells" "[I", .methodLink RX4 74 yX4_isSheet, .static yX4_isSheet, .initialized RX4, .code yX4_isSheet cX4_isSheet 1 (some .boolean), .methodLink RX4 61 yX4_within, .static yX4_within, .code yX4_within cX4_within 3 (some .boolean), .methodLink RX4 78 yX4_isSort, .static yX4_isSort, .code yX4_isSort cX4_isSort 1 (some .boolean), .methodLink RX4 85 yX4_fails, .instanceMethod yX4_fails, .selects RX4 yX4_fails yX4_fails, .code yX4_fails cX4_fails 2 (some .int)] ++ wsX40)
def wsX4_lose : List Cond := .code yX4_lose cX4_lose 3 (some .int) :: ([.fieldLink RX4 9 "TowerTellModel" "sorts" "[I", .methodLink RX4 74 yX4_isSheet, .static yX4_isSheet, .initialized RX4, .code yX4_isSheet cX4_isSheet 1 (some .boolean), .methodLink RX4 61 yX4_within, .static yX4_within, .code yX4_within cX4_within 3 (some .boolean)] ++ wsX40)
def wsX4_put : List Cond := .code yX4_put cX4_put 4 (some .int) :: ([.fieldLink RX4 55 "TowerTellModel" "fault" "I", .fieldLink RX4 9 "TowerTellModel" "sorts" "[I", .fieldLink RX4 13 "TowerTellModel" "sheetLong" "[I", .fieldLink RX4 16 "TowerTellModel" "cells" "[I", .methodLink RX4 74 yX4_isSheet, .static yX4_isSheet, .initialized RX4, .code yX4_isSheet cX4_isSheet 1 (some .boolean), .methodLink RX4 61 yX4_within, .static yX4_within, .code yX4_within cX4_within 3 (some .boolean), .methodLink RX4 85 yX4_fails, .instanceMethod yX4_fails, .selects RX4 yX4_fails yX4_fails, .code yX4_fails cX4_fails 2 (some .int)] ++ wsX40)
def wsX4_cell : List Cond := .code yX4_cell cX4_cell 4 (some .long) :: ([.fieldLink RX4 55 "TowerTellModel" "fault" "I", .constantLong RX4 59 (-9223372036854775808), .fieldLink RX4 9 "TowerTellModel" "sorts" "[I", .fieldLink RX4 13 "TowerTellModel" "sheetLong" "[I", .fieldLink RX4 16 "TowerTellModel" "cells" "[I", .methodLink RX4 74 yX4_isSheet, .static yX4_isSheet, .initialized RX4, .code yX4_isSheet cX4_isSheet 1 (some .boolean), .methodLink RX4 61 yX4_within, .static yX4_within, .code yX4_within cX4_within 3 (some .boolean), .methodLink RX4 78 yX4_isSort, .static yX4_isSort, .code yX4_isSort cX4_isSort 1 (some .boolean), .methodLink RX4 177 yX4_lost, .instanceMethod yX4_lost, .selects RX4 yX4_lost yX4_lost, .code yX4_lost cX4_lost 2 (some .long)] ++ wsX40)
def wsX4_copy : List Cond := .code yX4_copy cX4_copy 10 (some .int) :: ([.fieldLink RX4 55 "TowerTellModel" "fault" "I", .fieldLink RX4 9 "TowerTellModel" "sorts" "[I", .fieldLink RX4 13 "TowerTellModel" "sheetLong" "[I", .fieldLink RX4 16 "TowerTellModel" "cells" "[I", .methodLink RX4 74 yX4_isSheet, .static yX4_isSheet, .initialized RX4, .code yX4_isSheet cX4_isSheet 1 (some .boolean), .methodLink RX4 61 yX4_within, .static yX4_within, .code yX4_within cX4_within 3 (some .boolean), .methodLink RX4 85 yX4_fails, .instanceMethod yX4_fails, .selects RX4 yX4_fails yX4_fails, .code yX4_fails cX4_fails 2 (some .int)] ++ wsX40)
def wsX4_begins : List Cond := .code yX4_begins cX4_begins 2 none :: ([.fieldLink RX4 181 "TowerTellModel" "trace" "I"] ++ wsX40)
def wsX4_tell : List Cond := .code yX4_tell cX4_tell 3 (some .int) :: ([.fieldLink RX4 28 "TowerTellModel" "knows" "[I", .fieldLink RX4 22 "TowerTellModel" "kind" "[I", .methodLink RX4 122 yX4_isPerson, .instanceMethod yX4_isPerson, .selects RX4 yX4_isPerson yX4_isPerson, .initialized RX4, .code yX4_isPerson cX4_isPerson 2 (some .boolean), .fieldLink RX4 68 "TowerTellModel" "people" "I", .methodLink RX4 184 yX4_begins, .instanceMethod yX4_begins, .selects RX4 yX4_begins yX4_begins, .code yX4_begins cX4_begins 2 none, .fieldLink RX4 181 "TowerTellModel" "trace" "I"] ++ wsX40)
def wsX4_greet : List Cond := .code yX4_greet cX4_greet 2 (some .int) :: ([.fieldLink RX4 22 "TowerTellModel" "kind" "[I", .methodLink RX4 122 yX4_isPerson, .instanceMethod yX4_isPerson, .selects RX4 yX4_isPerson yX4_isPerson, .initialized RX4, .code yX4_isPerson cX4_isPerson 2 (some .boolean), .fieldLink RX4 68 "TowerTellModel" "people" "I", .methodLink RX4 184 yX4_begins, .instanceMethod yX4_begins, .selects RX4 yX4_begins yX4_begins, .code yX4_begins cX4_begins 2 none, .fieldLink RX4 181 "TowerTellModel" "trace" "I"] ++ wsX40)
def wsX4_as : List Cond := .code yX4_as cX4_as 3 (some .int) :: ([.fieldLink RX4 55 "TowerTellModel" "fault" "I", .fieldLink RX4 22 "TowerTellModel" "kind" "[I", .methodLink RX4 122 yX4_isPerson, .instanceMethod yX4_isPerson, .selects RX4 yX4_isPerson yX4_isPerson, .initialized RX4, .code yX4_isPerson cX4_isPerson 2 (some .boolean), .fieldLink RX4 68 "TowerTellModel" "people" "I", .methodLink RX4 61 yX4_within, .static yX4_within, .code yX4_within cX4_within 3 (some .boolean), .methodLink RX4 85 yX4_fails, .instanceMethod yX4_fails, .selects RX4 yX4_fails yX4_fails, .code yX4_fails cX4_fails 2 (some .int)] ++ wsX40)
def wsX4_trace : List Cond := .code yX4_trace cX4_trace 1 (some .int) :: ([.fieldLink RX4 181 "TowerTellModel" "trace" "I"] ++ wsX40)
def wsX4_fault : List Cond := .code yX4_fault cX4_fault 1 (some .int) :: ([.fieldLink RX4 55 "TowerTellModel" "fault" "I"] ++ wsX40)
def wsX4_many : List Cond := .code yX4_many cX4_many 2 (some .int) :: ([.fieldLink RX4 68 "TowerTellModel" "people" "I", .fieldLink RX4 65 "TowerTellModel" "deeds" "I", .fieldLink RX4 101 "TowerTellModel" "readings" "I"] ++ wsX40)
def wsJ9_max_7cf53 : List Cond := .code yJ9_max_7cf53 cJ9_max_7cf53 2 (some .int) :: ([])
theorem dX0_init_0 : decode cX0_init 0 = .ok (.aload_n 0, 1) := by decide +kernel
theorem dX0_init_1 : decode cX0_init 1 = .ok (.invokespecial 3, 3) := by decide +kernel
theorem dX0_init_4 : decode cX0_init 4 = .ok (.aload_n 0, 1) := by decide +kernel
theorem dX0_init_5 : decode cX0_init 5 = .ok (.iconst (-1), 1) := by decide +kernel
theorem dX0_init_6 : decode cX0_init 6 = .ok (.putfield 9, 3) := by decide +kernel
theorem dX0_init_9 : decode cX0_init 9 = .ok (.aload_n 0, 1) := by decide +kernel
theorem dX0_init_10 : decode cX0_init 10 = .ok (.bipush 60, 2) := by decide +kernel
theorem dX0_init_12 : decode cX0_init 12 = .ok (.newarray .int, 2) := by decide +kernel
theorem dX0_init_14 : decode cX0_init 14 = .ok (.putfield 15, 3) := by decide +kernel
theorem dX0_init_17 : decode cX0_init 17 = .ok (.return_, 1) := by decide +kernel
theorem dX0_isBare_0 : decode cX0_isBare 0 = .ok (.aload_n 0, 1) := by decide +kernel
theorem dX0_isBare_1 : decode cX0_isBare 1 = .ok (.getfield 9, 3) := by decide +kernel
theorem dX0_isBare_4 : decode cX0_isBare 4 = .ok (.iconst (-1), 1) := by decide +kernel
theorem dX0_isBare_5 : decode cX0_isBare 5 = .ok (.if_icmp .ne 7, 3) := by decide +kernel
theorem dX0_isBare_8 : decode cX0_isBare 8 = .ok (.iconst 1, 1) := by decide +kernel
theorem dX0_isBare_9 : decode cX0_isBare 9 = .ok (.goto 4, 3) := by decide +kernel
theorem dX0_isBare_12 : decode cX0_isBare 12 = .ok (.iconst 0, 1) := by decide +kernel
theorem dX0_isBare_13 : decode cX0_isBare 13 = .ok (.ireturn, 1) := by decide +kernel
theorem dX0_drop_0 : decode cX0_drop 0 = .ok (.aload_n 0, 1) := by decide +kernel
theorem dX0_drop_1 : decode cX0_drop 1 = .ok (.iconst (-1), 1) := by decide +kernel
theorem dX0_drop_2 : decode cX0_drop 2 = .ok (.putfield 9, 3) := by decide +kernel
theorem dX0_drop_5 : decode cX0_drop 5 = .ok (.aload_n 0, 1) := by decide +kernel
theorem dX0_drop_6 : decode cX0_drop 6 = .ok (.iconst 0, 1) := by decide +kernel
theorem dX0_drop_7 : decode cX0_drop 7 = .ok (.putfield 19, 3) := by decide +kernel
theorem dX0_drop_10 : decode cX0_drop 10 = .ok (.return_, 1) := by decide +kernel
theorem dX0_begin_0 : decode cX0_begin 0 = .ok (.aload_n 0, 1) := by decide +kernel
theorem dX0_begin_1 : decode cX0_begin 1 = .ok (.iload_n 1, 1) := by decide +kernel
theorem dX0_begin_2 : decode cX0_begin 2 = .ok (.putfield 9, 3) := by decide +kernel
theorem dX0_begin_5 : decode cX0_begin 5 = .ok (.aload_n 0, 1) := by decide +kernel
theorem dX0_begin_6 : decode cX0_begin 6 = .ok (.iload_n 2, 1) := by decide +kernel
theorem dX0_begin_7 : decode cX0_begin 7 = .ok (.putfield 19, 3) := by decide +kernel
theorem dX0_begin_10 : decode cX0_begin 10 = .ok (.iconst 0, 1) := by decide +kernel
theorem dX0_begin_11 : decode cX0_begin 11 = .ok (.istore_n 3, 1) := by decide +kernel
theorem dX0_begin_12 : decode cX0_begin 12 = .ok (.iload_n 3, 1) := by decide +kernel
theorem dX0_begin_13 : decode cX0_begin 13 = .ok (.bipush 60, 2) := by decide +kernel
theorem dX0_begin_15 : decode cX0_begin 15 = .ok (.if_icmp .ge 16, 3) := by decide +kernel
theorem dX0_begin_18 : decode cX0_begin 18 = .ok (.aload_n 0, 1) := by decide +kernel
theorem dX0_begin_19 : decode cX0_begin 19 = .ok (.getfield 15, 3) := by decide +kernel
theorem dX0_begin_22 : decode cX0_begin 22 = .ok (.iload_n 3, 1) := by decide +kernel
theorem dX0_begin_23 : decode cX0_begin 23 = .ok (.iconst 0, 1) := by decide +kernel
theorem dX0_begin_24 : decode cX0_begin 24 = .ok (.iastore, 1) := by decide +kernel
theorem dX0_begin_25 : decode cX0_begin 25 = .ok (.iinc 3 1, 3) := by decide +kernel
theorem dX0_begin_28 : decode cX0_begin 28 = .ok (.goto (-16), 3) := by decide +kernel
theorem dX0_begin_31 : decode cX0_begin 31 = .ok (.return_, 1) := by decide +kernel
theorem dX0_holds_0 : decode cX0_holds 0 = .ok (.iload_n 1, 1) := by decide +kernel
theorem dX0_holds_1 : decode cX0_holds 1 = .ok (.ifCond .lt 29, 3) := by decide +kernel
theorem dX0_holds_4 : decode cX0_holds 4 = .ok (.iload_n 1, 1) := by decide +kernel
theorem dX0_holds_5 : decode cX0_holds 5 = .ok (.aload_n 0, 1) := by decide +kernel
theorem dX0_holds_6 : decode cX0_holds 6 = .ok (.getfield 19, 3) := by decide +kernel
theorem dX0_holds_9 : decode cX0_holds 9 = .ok (.if_icmp .gt 21, 3) := by decide +kernel
theorem dX0_holds_12 : decode cX0_holds 12 = .ok (.iload_n 2, 1) := by decide +kernel
theorem dX0_holds_13 : decode cX0_holds 13 = .ok (.ifCond .lt 17, 3) := by decide +kernel
theorem dX0_holds_16 : decode cX0_holds 16 = .ok (.iload_n 2, 1) := by decide +kernel
theorem dX0_holds_17 : decode cX0_holds 17 = .ok (.aload_n 0, 1) := by decide +kernel
theorem dX0_holds_18 : decode cX0_holds 18 = .ok (.getfield 19, 3) := by decide +kernel
theorem dX0_holds_21 : decode cX0_holds 21 = .ok (.iload_n 1, 1) := by decide +kernel
theorem dX0_holds_22 : decode cX0_holds 22 = .ok (.isub, 1) := by decide +kernel
theorem dX0_holds_23 : decode cX0_holds 23 = .ok (.if_icmp .gt 7, 3) := by decide +kernel
theorem dX0_holds_26 : decode cX0_holds 26 = .ok (.iconst 1, 1) := by decide +kernel
theorem dX0_holds_27 : decode cX0_holds 27 = .ok (.goto 4, 3) := by decide +kernel
theorem dX0_holds_30 : decode cX0_holds 30 = .ok (.iconst 0, 1) := by decide +kernel
theorem dX0_holds_31 : decode cX0_holds 31 = .ok (.ireturn, 1) := by decide +kernel
set_option maxRecDepth 20000 in
theorem ggX0_faultOf_X0_isBare : GoodIn wsX0_faultOf wsX0_isBare := goodIn_r _ [6, 1, 12, 13, 14] (by decide +kernel) (by decide +kernel)
set_option maxRecDepth 20000 in
theorem gX0_faultOf_X0_isBare : GoodIn wsX0_faultOf (wsV RX0 22 RX0 yX0_isBare wsX0_isBare) := goodIn_app (goodIn_of _ (by decide +kernel)) ggX0_faultOf_X0_isBare
set_option maxRecDepth 20000 in
theorem ggX0_faultOf_X0_holds : GoodIn wsX0_faultOf wsX0_holds := goodIn_r _ [10, 11, 12, 13, 14] (by decide +kernel) (by decide +kernel)
set_option maxRecDepth 20000 in
theorem gX0_faultOf_X0_holds : GoodIn wsX0_faultOf (wsV RX0 26 RX0 yX0_holds wsX0_holds) := goodIn_app (goodIn_of _ (by decide +kernel)) ggX0_faultOf_X0_holds
theorem dX0_faultOf_0 : decode cX0_faultOf 0 = .ok (.aload_n 0, 1) := by decide +kernel
theorem dX0_faultOf_1 : decode cX0_faultOf 1 = .ok (.invokevirtual 22, 3) := by decide +kernel
theorem dX0_faultOf_4 : decode cX0_faultOf 4 = .ok (.ifCond .eq 5, 3) := by decide +kernel
theorem dX0_faultOf_7 : decode cX0_faultOf 7 = .ok (.iconst 1, 1) := by decide +kernel
theorem dX0_faultOf_8 : decode cX0_faultOf 8 = .ok (.ireturn, 1) := by decide +kernel
theorem dX0_faultOf_9 : decode cX0_faultOf 9 = .ok (.aload_n 0, 1) := by decide +kernel
theorem dX0_faultOf_10 : decode cX0_faultOf 10 = .ok (.getfield 9, 3) := by decide +kernel
theorem dX0_faultOf_13 : decode cX0_faultOf 13 = .ok (.iload_n 1, 1) := by decide +kernel
theorem dX0_faultOf_14 : decode cX0_faultOf 14 = .ok (.if_icmp .eq 5, 3) := by decide +kernel
theorem dX0_faultOf_17 : decode cX0_faultOf 17 = .ok (.iconst 2, 1) := by decide +kernel
theorem dX0_faultOf_18 : decode cX0_faultOf 18 = .ok (.ireturn, 1) := by decide +kernel
theorem dX0_faultOf_19 : decode cX0_faultOf 19 = .ok (.iload_n 3, 1) := by decide +kernel
theorem dX0_faultOf_20 : decode cX0_faultOf 20 = .ok (.ifCond .ge 5, 3) := by decide +kernel
theorem dX0_faultOf_23 : decode cX0_faultOf 23 = .ok (.iconst 4, 1) := by decide +kernel
theorem dX0_faultOf_24 : decode cX0_faultOf 24 = .ok (.ireturn, 1) := by decide +kernel
theorem dX0_faultOf_25 : decode cX0_faultOf 25 = .ok (.aload_n 0, 1) := by decide +kernel
theorem dX0_faultOf_26 : decode cX0_faultOf 26 = .ok (.iload_n 2, 1) := by decide +kernel
theorem dX0_faultOf_27 : decode cX0_faultOf 27 = .ok (.iload_n 3, 1) := by decide +kernel
theorem dX0_faultOf_28 : decode cX0_faultOf 28 = .ok (.invokevirtual 26, 3) := by decide +kernel
theorem dX0_faultOf_31 : decode cX0_faultOf 31 = .ok (.ifCond .eq 7, 3) := by decide +kernel
theorem dX0_faultOf_34 : decode cX0_faultOf 34 = .ok (.iconst 0, 1) := by decide +kernel
theorem dX0_faultOf_35 : decode cX0_faultOf 35 = .ok (.goto 4, 3) := by decide +kernel
theorem dX0_faultOf_38 : decode cX0_faultOf 38 = .ok (.iconst 3, 1) := by decide +kernel
theorem dX0_faultOf_39 : decode cX0_faultOf 39 = .ok (.ireturn, 1) := by decide +kernel
theorem dX0_write_0 : decode cX0_write 0 = .ok (.aload_n 0, 1) := by decide +kernel
theorem dX0_write_1 : decode cX0_write 1 = .ok (.getfield 9, 3) := by decide +kernel
theorem dX0_write_4 : decode cX0_write 4 = .ok (.lookupswitch 50 #[(0, 28), (1, 39)], 28) := by decide +kernel
theorem dX0_write_32 : decode cX0_write 32 = .ok (.aload_n 0, 1) := by decide +kernel
theorem dX0_write_33 : decode cX0_write 33 = .ok (.getfield 15, 3) := by decide +kernel
theorem dX0_write_36 : decode cX0_write 36 = .ok (.iload_n 1, 1) := by decide +kernel
theorem dX0_write_37 : decode cX0_write 37 = .ok (.iload_n 2, 1) := by decide +kernel
theorem dX0_write_38 : decode cX0_write 38 = .ok (.i2b, 1) := by decide +kernel
theorem dX0_write_39 : decode cX0_write 39 = .ok (.iastore, 1) := by decide +kernel
theorem dX0_write_40 : decode cX0_write 40 = .ok (.goto 21, 3) := by decide +kernel
theorem dX0_write_43 : decode cX0_write 43 = .ok (.aload_n 0, 1) := by decide +kernel
theorem dX0_write_44 : decode cX0_write 44 = .ok (.getfield 15, 3) := by decide +kernel
theorem dX0_write_47 : decode cX0_write 47 = .ok (.iload_n 1, 1) := by decide +kernel
theorem dX0_write_48 : decode cX0_write 48 = .ok (.iload_n 2, 1) := by decide +kernel
theorem dX0_write_49 : decode cX0_write 49 = .ok (.i2s, 1) := by decide +kernel
theorem dX0_write_50 : decode cX0_write 50 = .ok (.iastore, 1) := by decide +kernel
theorem dX0_write_51 : decode cX0_write 51 = .ok (.goto 10, 3) := by decide +kernel
theorem dX0_write_54 : decode cX0_write 54 = .ok (.aload_n 0, 1) := by decide +kernel
theorem dX0_write_55 : decode cX0_write 55 = .ok (.getfield 15, 3) := by decide +kernel
theorem dX0_write_58 : decode cX0_write 58 = .ok (.iload_n 1, 1) := by decide +kernel
theorem dX0_write_59 : decode cX0_write 59 = .ok (.iload_n 2, 1) := by decide +kernel
theorem dX0_write_60 : decode cX0_write 60 = .ok (.iastore, 1) := by decide +kernel
theorem dX0_write_61 : decode cX0_write 61 = .ok (.return_, 1) := by decide +kernel
theorem dX1_init_0 : decode cX1_init 0 = .ok (.aload_n 0, 1) := by decide +kernel
theorem dX1_init_1 : decode cX1_init 1 = .ok (.invokespecial 3, 3) := by decide +kernel
theorem dX1_init_4 : decode cX1_init 4 = .ok (.aload_n 0, 1) := by decide +kernel
theorem dX1_init_5 : decode cX1_init 5 = .ok (.iconst 0, 1) := by decide +kernel
theorem dX1_init_6 : decode cX1_init 6 = .ok (.newarray .int, 2) := by decide +kernel
theorem dX1_init_8 : decode cX1_init 8 = .ok (.putfield 9, 3) := by decide +kernel
theorem dX1_init_11 : decode cX1_init 11 = .ok (.return_, 1) := by decide +kernel
set_option maxRecDepth 20000 in
theorem ggX1_firstFault_X2_clear : GoodIn wsX1_firstFault wsX2_clear := goodIn_r _ [10, 11, 12, 58, 59, 60, 61, 62, 63, 64, 65] (by decide +kernel) (by decide +kernel)
set_option maxRecDepth 20000 in
theorem gX1_firstFault_X2_clear : GoodIn wsX1_firstFault (wsV RX1 30 RX2 yX2_clear wsX2_clear) := goodIn_app (goodIn_of _ (by decide +kernel)) ggX1_firstFault_X2_clear
set_option maxRecDepth 20000 in
theorem ggX1_firstFault_X1_readsText : GoodIn wsX1_firstFault wsX1_readsText := goodIn_r _ [17, 5, 4, 18, 19, 20, 16, 21, 2, 3, 22, 23, 24, 25, 26, 27, 28, 9, 29, 11, 30, 31, 32, 33, 34, 35, 36, 37, 38, 39, 40, 41, 42, 43, 44, 45, 46, 12, 47, 48, 49, 50, 54, 55, 56, 57, 58, 59, 60, 61, 62, 63, 64, 65] (by decide +kernel) (by decide +kernel)
set_option maxRecDepth 20000 in
theorem gX1_firstFault_X1_readsText : GoodIn wsX1_firstFault (wsV RX1 35 RX1 yX1_readsText wsX1_readsText) := goodIn_app (goodIn_of _ (by decide +kernel)) ggX1_firstFault_X1_readsText
theorem dX1_firstFault_0 : decode cX1_firstFault 0 = .ok (.aload_n 0, 1) := by decide +kernel
theorem dX1_firstFault_1 : decode cX1_firstFault 1 = .ok (.aload_n 1, 1) := by decide +kernel
theorem dX1_firstFault_2 : decode cX1_firstFault 2 = .ok (.getfield 15, 3) := by decide +kernel
theorem dX1_firstFault_5 : decode cX1_firstFault 5 = .ok (.putfield 9, 3) := by decide +kernel
theorem dX1_firstFault_8 : decode cX1_firstFault 8 = .ok (.aload_n 0, 1) := by decide +kernel
theorem dX1_firstFault_9 : decode cX1_firstFault 9 = .ok (.iload_n 2, 1) := by decide +kernel
theorem dX1_firstFault_10 : decode cX1_firstFault 10 = .ok (.putfield 20, 3) := by decide +kernel
theorem dX1_firstFault_13 : decode cX1_firstFault 13 = .ok (.aload_n 0, 1) := by decide +kernel
theorem dX1_firstFault_14 : decode cX1_firstFault 14 = .ok (.iload_n 3, 1) := by decide +kernel
theorem dX1_firstFault_15 : decode cX1_firstFault 15 = .ok (.putfield 24, 3) := by decide +kernel
theorem dX1_firstFault_18 : decode cX1_firstFault 18 = .ok (.aload_n 0, 1) := by decide +kernel
theorem dX1_firstFault_19 : decode cX1_firstFault 19 = .ok (.iconst 0, 1) := by decide +kernel
theorem dX1_firstFault_20 : decode cX1_firstFault 20 = .ok (.putfield 27, 3) := by decide +kernel
theorem dX1_firstFault_23 : decode cX1_firstFault 23 = .ok (.aload 4, 2) := by decide +kernel
theorem dX1_firstFault_25 : decode cX1_firstFault 25 = .ok (.invokevirtual 30, 3) := by decide +kernel
theorem dX1_firstFault_28 : decode cX1_firstFault 28 = .ok (.aload_n 0, 1) := by decide +kernel
theorem dX1_firstFault_29 : decode cX1_firstFault 29 = .ok (.aload 4, 2) := by decide +kernel
theorem dX1_firstFault_31 : decode cX1_firstFault 31 = .ok (.invokevirtual 35, 3) := by decide +kernel
theorem dX1_firstFault_34 : decode cX1_firstFault 34 = .ok (.ifCond .eq 8, 3) := by decide +kernel
theorem dX1_firstFault_37 : decode cX1_firstFault 37 = .ok (.bipush (-9), 2) := by decide +kernel
theorem dX1_firstFault_39 : decode cX1_firstFault 39 = .ok (.goto 7, 3) := by decide +kernel
theorem dX1_firstFault_42 : decode cX1_firstFault 42 = .ok (.aload_n 0, 1) := by decide +kernel
theorem dX1_firstFault_43 : decode cX1_firstFault 43 = .ok (.getfield 27, 3) := by decide +kernel
theorem dX1_firstFault_46 : decode cX1_firstFault 46 = .ok (.ireturn, 1) := by decide +kernel
set_option maxRecDepth 20000 in
theorem ggX1_readsText_X1_taken : GoodIn wsX1_readsText wsX1_taken := goodIn_r _ [7, 1, 2, 8, 9, 42, 43, 44, 45] (by decide +kernel) (by decide +kernel)
set_option maxRecDepth 20000 in
theorem gX1_readsText_X1_taken : GoodIn wsX1_readsText (wsV RX1 39 RX1 yX1_taken wsX1_taken) := goodIn_app (goodIn_of _ (by decide +kernel)) ggX1_readsText_X1_taken
set_option maxRecDepth 20000 in
theorem ggX1_readsText_X1_readsDeed : GoodIn wsX1_readsText wsX1_readsDeed := goodIn_r _ [13, 3, 4, 5, 6, 7, 1, 2, 8, 9, 14, 15, 16, 17, 18, 19, 20, 42, 43, 44, 45, 46, 47, 48, 49, 50, 51, 52, 53] (by decide +kernel) (by decide +kernel)
set_option maxRecDepth 20000 in
theorem gX1_readsText_X1_readsDeed : GoodIn wsX1_readsText (wsV RX1 43 RX1 yX1_readsDeed wsX1_readsDeed) := goodIn_app (goodIn_of _ (by decide +kernel)) ggX1_readsText_X1_readsDeed
set_option maxRecDepth 20000 in
theorem ggX1_readsText_X1_nextIs : GoodIn wsX1_readsText wsX1_nextIs := goodIn_r _ [24, 1, 2, 8, 9, 42, 43, 44, 45] (by decide +kernel) (by decide +kernel)
set_option maxRecDepth 20000 in
theorem gX1_readsText_X1_nextIs : GoodIn wsX1_readsText (wsV RX1 46 RX1 yX1_nextIs wsX1_nextIs) := goodIn_app (goodIn_of _ (by decide +kernel)) ggX1_readsText_X1_nextIs
set_option maxRecDepth 20000 in
theorem ggX1_readsText_X1_readsPerson : GoodIn wsX1_readsText wsX1_readsPerson := goodIn_r _ [28, 3, 4, 5, 6, 7, 1, 2, 8, 9, 29, 30, 31, 32, 33, 34, 35, 17, 36, 37, 38, 39, 40, 41, 42, 43, 44, 45, 46, 47, 48, 49, 50, 51, 52, 53] (by decide +kernel) (by decide +kernel)
set_option maxRecDepth 20000 in
theorem gX1_readsText_X1_readsPerson : GoodIn wsX1_readsText (wsV RX1 50 RX1 yX1_readsPerson wsX1_readsPerson) := goodIn_app (goodIn_of _ (by decide +kernel)) ggX1_readsText_X1_readsPerson
theorem dX1_readsText_0 : decode cX1_readsText 0 = .ok (.aload_n 0, 1) := by decide +kernel
theorem dX1_readsText_1 : decode cX1_readsText 1 = .ok (.bipush 117, 2) := by decide +kernel
theorem dX1_readsText_3 : decode cX1_readsText 3 = .ok (.bipush 117, 2) := by decide +kernel
theorem dX1_readsText_5 : decode cX1_readsText 5 = .ok (.invokevirtual 39, 3) := by decide +kernel
theorem dX1_readsText_8 : decode cX1_readsText 8 = .ok (.ifCond .lt 11, 3) := by decide +kernel
theorem dX1_readsText_11 : decode cX1_readsText 11 = .ok (.aload_n 0, 1) := by decide +kernel
theorem dX1_readsText_12 : decode cX1_readsText 12 = .ok (.aload_n 1, 1) := by decide +kernel
theorem dX1_readsText_13 : decode cX1_readsText 13 = .ok (.invokevirtual 43, 3) := by decide +kernel
theorem dX1_readsText_16 : decode cX1_readsText 16 = .ok (.ifCond .ne 5, 3) := by decide +kernel
theorem dX1_readsText_19 : decode cX1_readsText 19 = .ok (.iconst 0, 1) := by decide +kernel
theorem dX1_readsText_20 : decode cX1_readsText 20 = .ok (.ireturn, 1) := by decide +kernel
theorem dX1_readsText_21 : decode cX1_readsText 21 = .ok (.iconst 1, 1) := by decide +kernel
theorem dX1_readsText_22 : decode cX1_readsText 22 = .ok (.istore_n 2, 1) := by decide +kernel
theorem dX1_readsText_23 : decode cX1_readsText 23 = .ok (.iload_n 2, 1) := by decide +kernel
theorem dX1_readsText_24 : decode cX1_readsText 24 = .ok (.bipush 6, 2) := by decide +kernel
theorem dX1_readsText_26 : decode cX1_readsText 26 = .ok (.if_icmp .ge 28, 3) := by decide +kernel
theorem dX1_readsText_29 : decode cX1_readsText 29 = .ok (.aload_n 0, 1) := by decide +kernel
theorem dX1_readsText_30 : decode cX1_readsText 30 = .ok (.bipush 45, 2) := by decide +kernel
theorem dX1_readsText_32 : decode cX1_readsText 32 = .ok (.invokevirtual 46, 3) := by decide +kernel
theorem dX1_readsText_35 : decode cX1_readsText 35 = .ok (.ifCond .eq 19, 3) := by decide +kernel
theorem dX1_readsText_38 : decode cX1_readsText 38 = .ok (.aload_n 0, 1) := by decide +kernel
theorem dX1_readsText_39 : decode cX1_readsText 39 = .ok (.aload_n 1, 1) := by decide +kernel
theorem dX1_readsText_40 : decode cX1_readsText 40 = .ok (.invokevirtual 43, 3) := by decide +kernel
theorem dX1_readsText_43 : decode cX1_readsText 43 = .ok (.ifCond .ne 5, 3) := by decide +kernel
theorem dX1_readsText_46 : decode cX1_readsText 46 = .ok (.iconst 0, 1) := by decide +kernel
theorem dX1_readsText_47 : decode cX1_readsText 47 = .ok (.ireturn, 1) := by decide +kernel
theorem dX1_readsText_48 : decode cX1_readsText 48 = .ok (.iinc 2 1, 3) := by decide +kernel
theorem dX1_readsText_51 : decode cX1_readsText 51 = .ok (.goto (-28), 3) := by decide +kernel
theorem dX1_readsText_54 : decode cX1_readsText 54 = .ok (.aload_n 0, 1) := by decide +kernel
theorem dX1_readsText_55 : decode cX1_readsText 55 = .ok (.aload_n 1, 1) := by decide +kernel
theorem dX1_readsText_56 : decode cX1_readsText 56 = .ok (.invokevirtual 50, 3) := by decide +kernel
theorem dX1_readsText_59 : decode cX1_readsText 59 = .ok (.ifCond .ne 5, 3) := by decide +kernel
theorem dX1_readsText_62 : decode cX1_readsText 62 = .ok (.iconst 0, 1) := by decide +kernel
theorem dX1_readsText_63 : decode cX1_readsText 63 = .ok (.ireturn, 1) := by decide +kernel
theorem dX1_readsText_64 : decode cX1_readsText 64 = .ok (.iconst 1, 1) := by decide +kernel
theorem dX1_readsText_65 : decode cX1_readsText 65 = .ok (.istore_n 2, 1) := by decide +kernel
theorem dX1_readsText_66 : decode cX1_readsText 66 = .ok (.iload_n 2, 1) := by decide +kernel
theorem dX1_readsText_67 : decode cX1_readsText 67 = .ok (.iconst 4, 1) := by decide +kernel
theorem dX1_readsText_68 : decode cX1_readsText 68 = .ok (.if_icmp .ge 30, 3) := by decide +kernel
theorem dX1_readsText_71 : decode cX1_readsText 71 = .ok (.aload_n 0, 1) := by decide +kernel
theorem dX1_readsText_72 : decode cX1_readsText 72 = .ok (.getfield 27, 3) := by decide +kernel
theorem dX1_readsText_75 : decode cX1_readsText 75 = .ok (.aload_n 0, 1) := by decide +kernel
theorem dX1_readsText_76 : decode cX1_readsText 76 = .ok (.getfield 24, 3) := by decide +kernel
theorem dX1_readsText_79 : decode cX1_readsText 79 = .ok (.if_icmp .ge 19, 3) := by decide +kernel
theorem dX1_readsText_82 : decode cX1_readsText 82 = .ok (.aload_n 0, 1) := by decide +kernel
theorem dX1_readsText_83 : decode cX1_readsText 83 = .ok (.aload_n 1, 1) := by decide +kernel
theorem dX1_readsText_84 : decode cX1_readsText 84 = .ok (.invokevirtual 50, 3) := by decide +kernel
theorem dX1_readsText_87 : decode cX1_readsText 87 = .ok (.ifCond .ne 5, 3) := by decide +kernel
theorem dX1_readsText_90 : decode cX1_readsText 90 = .ok (.iconst 0, 1) := by decide +kernel
theorem dX1_readsText_91 : decode cX1_readsText 91 = .ok (.ireturn, 1) := by decide +kernel
theorem dX1_readsText_92 : decode cX1_readsText 92 = .ok (.iinc 2 1, 3) := by decide +kernel
theorem dX1_readsText_95 : decode cX1_readsText 95 = .ok (.goto (-29), 3) := by decide +kernel
theorem dX1_readsText_98 : decode cX1_readsText 98 = .ok (.aload_n 0, 1) := by decide +kernel
theorem dX1_readsText_99 : decode cX1_readsText 99 = .ok (.getfield 27, 3) := by decide +kernel
theorem dX1_readsText_102 : decode cX1_readsText 102 = .ok (.aload_n 0, 1) := by decide +kernel
theorem dX1_readsText_103 : decode cX1_readsText 103 = .ok (.getfield 24, 3) := by decide +kernel
theorem dX1_readsText_106 : decode cX1_readsText 106 = .ok (.if_icmp .ne 7, 3) := by decide +kernel
theorem dX1_readsText_109 : decode cX1_readsText 109 = .ok (.iconst 1, 1) := by decide +kernel
theorem dX1_readsText_110 : decode cX1_readsText 110 = .ok (.goto 4, 3) := by decide +kernel
theorem dX1_readsText_113 : decode cX1_readsText 113 = .ok (.iconst 0, 1) := by decide +kernel
theorem dX1_readsText_114 : decode cX1_readsText 114 = .ok (.ireturn, 1) := by decide +kernel
set_option maxRecDepth 20000 in
theorem ggX1_readsDeed_X1_taken : GoodIn wsX1_readsDeed wsX1_taken := goodIn_r _ [5, 6, 7, 8, 9, 17, 18, 19, 20] (by decide +kernel) (by decide +kernel)
set_option maxRecDepth 20000 in
theorem gX1_readsDeed_X1_taken : GoodIn wsX1_readsDeed (wsV RX1 39 RX1 yX1_taken wsX1_taken) := goodIn_app (goodIn_of _ (by decide +kernel)) ggX1_readsDeed_X1_taken
set_option maxRecDepth 20000 in
theorem ggX1_readsDeed_X2_addDeed : GoodIn wsX1_readsDeed wsX2_addDeed := goodIn_r _ [14, 15, 16, 21, 22, 23, 24, 25, 26, 27, 28] (by decide +kernel) (by decide +kernel)
set_option maxRecDepth 20000 in
theorem gX1_readsDeed_X2_addDeed : GoodIn wsX1_readsDeed (wsV RX1 53 RX2 yX2_addDeed wsX2_addDeed) := goodIn_app (goodIn_of _ (by decide +kernel)) ggX1_readsDeed_X2_addDeed
theorem dX1_readsDeed_0 : decode cX1_readsDeed 0 = .ok (.aload_n 0, 1) := by decide +kernel
theorem dX1_readsDeed_1 : decode cX1_readsDeed 1 = .ok (.bipush 45, 2) := by decide +kernel
theorem dX1_readsDeed_3 : decode cX1_readsDeed 3 = .ok (.bipush 45, 2) := by decide +kernel
theorem dX1_readsDeed_5 : decode cX1_readsDeed 5 = .ok (.invokevirtual 39, 3) := by decide +kernel
theorem dX1_readsDeed_8 : decode cX1_readsDeed 8 = .ok (.ifCond .ge 5, 3) := by decide +kernel
theorem dX1_readsDeed_11 : decode cX1_readsDeed 11 = .ok (.iconst 0, 1) := by decide +kernel
theorem dX1_readsDeed_12 : decode cX1_readsDeed 12 = .ok (.ireturn, 1) := by decide +kernel
theorem dX1_readsDeed_13 : decode cX1_readsDeed 13 = .ok (.aload_n 0, 1) := by decide +kernel
theorem dX1_readsDeed_14 : decode cX1_readsDeed 14 = .ok (.bipush 49, 2) := by decide +kernel
theorem dX1_readsDeed_16 : decode cX1_readsDeed 16 = .ok (.bipush 57, 2) := by decide +kernel
theorem dX1_readsDeed_18 : decode cX1_readsDeed 18 = .ok (.invokevirtual 39, 3) := by decide +kernel
theorem dX1_readsDeed_21 : decode cX1_readsDeed 21 = .ok (.istore_n 2, 1) := by decide +kernel
theorem dX1_readsDeed_22 : decode cX1_readsDeed 22 = .ok (.iload_n 2, 1) := by decide +kernel
theorem dX1_readsDeed_23 : decode cX1_readsDeed 23 = .ok (.ifCond .ge 5, 3) := by decide +kernel
theorem dX1_readsDeed_26 : decode cX1_readsDeed 26 = .ok (.iconst 0, 1) := by decide +kernel
theorem dX1_readsDeed_27 : decode cX1_readsDeed 27 = .ok (.ireturn, 1) := by decide +kernel
theorem dX1_readsDeed_28 : decode cX1_readsDeed 28 = .ok (.aload_n 1, 1) := by decide +kernel
theorem dX1_readsDeed_29 : decode cX1_readsDeed 29 = .ok (.iload_n 2, 1) := by decide +kernel
theorem dX1_readsDeed_30 : decode cX1_readsDeed 30 = .ok (.iconst 1, 1) := by decide +kernel
theorem dX1_readsDeed_31 : decode cX1_readsDeed 31 = .ok (.iadd, 1) := by decide +kernel
theorem dX1_readsDeed_32 : decode cX1_readsDeed 32 = .ok (.invokevirtual 53, 3) := by decide +kernel
theorem dX1_readsDeed_35 : decode cX1_readsDeed 35 = .ok (.iconst 1, 1) := by decide +kernel
theorem dX1_readsDeed_36 : decode cX1_readsDeed 36 = .ok (.ireturn, 1) := by decide +kernel
set_option maxRecDepth 20000 in
theorem ggX1_readsPerson_X1_taken : GoodIn wsX1_readsPerson wsX1_taken := goodIn_r _ [5, 6, 7, 8, 9, 24, 25, 26, 27] (by decide +kernel) (by decide +kernel)
set_option maxRecDepth 20000 in
theorem gX1_readsPerson_X1_taken : GoodIn wsX1_readsPerson (wsV RX1 39 RX1 yX1_taken wsX1_taken) := goodIn_app (goodIn_of _ (by decide +kernel)) ggX1_readsPerson_X1_taken
set_option maxRecDepth 20000 in
theorem ggX1_readsPerson_X1_takenKind : GoodIn wsX1_readsPerson wsX1_takenKind := goodIn_r _ [13, 1, 2, 3, 4, 5, 6, 7, 8, 9, 24, 25, 26, 27] (by decide +kernel) (by decide +kernel)
set_option maxRecDepth 20000 in
theorem gX1_readsPerson_X1_takenKind : GoodIn wsX1_readsPerson (wsV RX1 57 RX1 yX1_takenKind wsX1_takenKind) := goodIn_app (goodIn_of _ (by decide +kernel)) ggX1_readsPerson_X1_takenKind
set_option maxRecDepth 20000 in
theorem ggX1_readsPerson_X2_addPerson : GoodIn wsX1_readsPerson wsX2_addPerson := goodIn_r _ [18, 19, 20, 21, 22, 23, 28, 29, 30, 31, 32, 33, 34, 35] (by decide +kernel) (by decide +kernel)
set_option maxRecDepth 20000 in
theorem gX1_readsPerson_X2_addPerson : GoodIn wsX1_readsPerson (wsV RX1 61 RX2 yX2_addPerson wsX2_addPerson) := goodIn_app (goodIn_of _ (by decide +kernel)) ggX1_readsPerson_X2_addPerson
theorem dX1_readsPerson_0 : decode cX1_readsPerson 0 = .ok (.aload_n 0, 1) := by decide +kernel
theorem dX1_readsPerson_1 : decode cX1_readsPerson 1 = .ok (.bipush 44, 2) := by decide +kernel
theorem dX1_readsPerson_3 : decode cX1_readsPerson 3 = .ok (.bipush 44, 2) := by decide +kernel
theorem dX1_readsPerson_5 : decode cX1_readsPerson 5 = .ok (.invokevirtual 39, 3) := by decide +kernel
theorem dX1_readsPerson_8 : decode cX1_readsPerson 8 = .ok (.ifCond .ge 5, 3) := by decide +kernel
theorem dX1_readsPerson_11 : decode cX1_readsPerson 11 = .ok (.iconst 0, 1) := by decide +kernel
theorem dX1_readsPerson_12 : decode cX1_readsPerson 12 = .ok (.ireturn, 1) := by decide +kernel
theorem dX1_readsPerson_13 : decode cX1_readsPerson 13 = .ok (.aload_n 0, 1) := by decide +kernel
theorem dX1_readsPerson_14 : decode cX1_readsPerson 14 = .ok (.invokevirtual 57, 3) := by decide +kernel
theorem dX1_readsPerson_17 : decode cX1_readsPerson 17 = .ok (.istore_n 2, 1) := by decide +kernel
theorem dX1_readsPerson_18 : decode cX1_readsPerson 18 = .ok (.iload_n 2, 1) := by decide +kernel
theorem dX1_readsPerson_19 : decode cX1_readsPerson 19 = .ok (.ifCond .ge 5, 3) := by decide +kernel
theorem dX1_readsPerson_22 : decode cX1_readsPerson 22 = .ok (.iconst 0, 1) := by decide +kernel
theorem dX1_readsPerson_23 : decode cX1_readsPerson 23 = .ok (.ireturn, 1) := by decide +kernel
theorem dX1_readsPerson_24 : decode cX1_readsPerson 24 = .ok (.aload_n 0, 1) := by decide +kernel
theorem dX1_readsPerson_25 : decode cX1_readsPerson 25 = .ok (.bipush 48, 2) := by decide +kernel
theorem dX1_readsPerson_27 : decode cX1_readsPerson 27 = .ok (.bipush 54, 2) := by decide +kernel
theorem dX1_readsPerson_29 : decode cX1_readsPerson 29 = .ok (.invokevirtual 39, 3) := by decide +kernel
theorem dX1_readsPerson_32 : decode cX1_readsPerson 32 = .ok (.istore_n 3, 1) := by decide +kernel
theorem dX1_readsPerson_33 : decode cX1_readsPerson 33 = .ok (.iload_n 3, 1) := by decide +kernel
theorem dX1_readsPerson_34 : decode cX1_readsPerson 34 = .ok (.ifCond .ge 5, 3) := by decide +kernel
theorem dX1_readsPerson_37 : decode cX1_readsPerson 37 = .ok (.iconst 0, 1) := by decide +kernel
theorem dX1_readsPerson_38 : decode cX1_readsPerson 38 = .ok (.ireturn, 1) := by decide +kernel
theorem dX1_readsPerson_39 : decode cX1_readsPerson 39 = .ok (.aload_n 0, 1) := by decide +kernel
theorem dX1_readsPerson_40 : decode cX1_readsPerson 40 = .ok (.bipush 48, 2) := by decide +kernel
theorem dX1_readsPerson_42 : decode cX1_readsPerson 42 = .ok (.iload_n 3, 1) := by decide +kernel
theorem dX1_readsPerson_43 : decode cX1_readsPerson 43 = .ok (.bipush 6, 2) := by decide +kernel
theorem dX1_readsPerson_45 : decode cX1_readsPerson 45 = .ok (.if_icmp .ne 8, 3) := by decide +kernel
theorem dX1_readsPerson_48 : decode cX1_readsPerson 48 = .ok (.bipush 51, 2) := by decide +kernel
theorem dX1_readsPerson_50 : decode cX1_readsPerson 50 = .ok (.goto 5, 3) := by decide +kernel
theorem dX1_readsPerson_53 : decode cX1_readsPerson 53 = .ok (.bipush 57, 2) := by decide +kernel
theorem dX1_readsPerson_55 : decode cX1_readsPerson 55 = .ok (.invokevirtual 39, 3) := by decide +kernel
theorem dX1_readsPerson_58 : decode cX1_readsPerson 58 = .ok (.istore 4, 2) := by decide +kernel
theorem dX1_readsPerson_60 : decode cX1_readsPerson 60 = .ok (.iload 4, 2) := by decide +kernel
theorem dX1_readsPerson_62 : decode cX1_readsPerson 62 = .ok (.ifCond .ge 5, 3) := by decide +kernel
theorem dX1_readsPerson_65 : decode cX1_readsPerson 65 = .ok (.iconst 0, 1) := by decide +kernel
theorem dX1_readsPerson_66 : decode cX1_readsPerson 66 = .ok (.ireturn, 1) := by decide +kernel
theorem dX1_readsPerson_67 : decode cX1_readsPerson 67 = .ok (.aload_n 0, 1) := by decide +kernel
theorem dX1_readsPerson_68 : decode cX1_readsPerson 68 = .ok (.bipush 48, 2) := by decide +kernel
theorem dX1_readsPerson_70 : decode cX1_readsPerson 70 = .ok (.bipush 52, 2) := by decide +kernel
theorem dX1_readsPerson_72 : decode cX1_readsPerson 72 = .ok (.invokevirtual 39, 3) := by decide +kernel
theorem dX1_readsPerson_75 : decode cX1_readsPerson 75 = .ok (.istore 5, 2) := by decide +kernel
theorem dX1_readsPerson_77 : decode cX1_readsPerson 77 = .ok (.iload 5, 2) := by decide +kernel
theorem dX1_readsPerson_79 : decode cX1_readsPerson 79 = .ok (.ifCond .ge 5, 3) := by decide +kernel
theorem dX1_readsPerson_82 : decode cX1_readsPerson 82 = .ok (.iconst 0, 1) := by decide +kernel
theorem dX1_readsPerson_83 : decode cX1_readsPerson 83 = .ok (.ireturn, 1) := by decide +kernel
theorem dX1_readsPerson_84 : decode cX1_readsPerson 84 = .ok (.aload_n 1, 1) := by decide +kernel
theorem dX1_readsPerson_85 : decode cX1_readsPerson 85 = .ok (.iload_n 2, 1) := by decide +kernel
theorem dX1_readsPerson_86 : decode cX1_readsPerson 86 = .ok (.bipush 10, 2) := by decide +kernel
theorem dX1_readsPerson_88 : decode cX1_readsPerson 88 = .ok (.iload_n 3, 1) := by decide +kernel
theorem dX1_readsPerson_89 : decode cX1_readsPerson 89 = .ok (.imul, 1) := by decide +kernel
theorem dX1_readsPerson_90 : decode cX1_readsPerson 90 = .ok (.iload 4, 2) := by decide +kernel
theorem dX1_readsPerson_92 : decode cX1_readsPerson 92 = .ok (.iadd, 1) := by decide +kernel
theorem dX1_readsPerson_93 : decode cX1_readsPerson 93 = .ok (.iload 5, 2) := by decide +kernel
theorem dX1_readsPerson_95 : decode cX1_readsPerson 95 = .ok (.invokevirtual 61, 3) := by decide +kernel
theorem dX1_readsPerson_98 : decode cX1_readsPerson 98 = .ok (.iconst 1, 1) := by decide +kernel
theorem dX1_readsPerson_99 : decode cX1_readsPerson 99 = .ok (.ireturn, 1) := by decide +kernel
set_option maxRecDepth 20000 in
theorem ggX1_takenKind_X1_taken : GoodIn wsX1_takenKind wsX1_taken := goodIn_r _ [5, 6, 7, 8, 9, 10, 11, 12, 13] (by decide +kernel) (by decide +kernel)
set_option maxRecDepth 20000 in
theorem gX1_takenKind_X1_taken : GoodIn wsX1_takenKind (wsV RX1 39 RX1 yX1_taken wsX1_taken) := goodIn_app (goodIn_of _ (by decide +kernel)) ggX1_takenKind_X1_taken
theorem dX1_takenKind_0 : decode cX1_takenKind 0 = .ok (.aload_n 0, 1) := by decide +kernel
theorem dX1_takenKind_1 : decode cX1_takenKind 1 = .ok (.bipush 112, 2) := by decide +kernel
theorem dX1_takenKind_3 : decode cX1_takenKind 3 = .ok (.bipush 112, 2) := by decide +kernel
theorem dX1_takenKind_5 : decode cX1_takenKind 5 = .ok (.invokevirtual 39, 3) := by decide +kernel
theorem dX1_takenKind_8 : decode cX1_takenKind 8 = .ok (.ifCond .ne 5, 3) := by decide +kernel
theorem dX1_takenKind_11 : decode cX1_takenKind 11 = .ok (.iconst 0, 1) := by decide +kernel
theorem dX1_takenKind_12 : decode cX1_takenKind 12 = .ok (.ireturn, 1) := by decide +kernel
theorem dX1_takenKind_13 : decode cX1_takenKind 13 = .ok (.aload_n 0, 1) := by decide +kernel
theorem dX1_takenKind_14 : decode cX1_takenKind 14 = .ok (.bipush 114, 2) := by decide +kernel
theorem dX1_takenKind_16 : decode cX1_takenKind 16 = .ok (.bipush 114, 2) := by decide +kernel
theorem dX1_takenKind_18 : decode cX1_takenKind 18 = .ok (.invokevirtual 39, 3) := by decide +kernel
theorem dX1_takenKind_21 : decode cX1_takenKind 21 = .ok (.ifCond .ne 5, 3) := by decide +kernel
theorem dX1_takenKind_24 : decode cX1_takenKind 24 = .ok (.iconst 1, 1) := by decide +kernel
theorem dX1_takenKind_25 : decode cX1_takenKind 25 = .ok (.ireturn, 1) := by decide +kernel
theorem dX1_takenKind_26 : decode cX1_takenKind 26 = .ok (.aload_n 0, 1) := by decide +kernel
theorem dX1_takenKind_27 : decode cX1_takenKind 27 = .ok (.bipush 97, 2) := by decide +kernel
theorem dX1_takenKind_29 : decode cX1_takenKind 29 = .ok (.bipush 97, 2) := by decide +kernel
theorem dX1_takenKind_31 : decode cX1_takenKind 31 = .ok (.invokevirtual 39, 3) := by decide +kernel
theorem dX1_takenKind_34 : decode cX1_takenKind 34 = .ok (.ifCond .ne 7, 3) := by decide +kernel
theorem dX1_takenKind_37 : decode cX1_takenKind 37 = .ok (.iconst 2, 1) := by decide +kernel
theorem dX1_takenKind_38 : decode cX1_takenKind 38 = .ok (.goto 4, 3) := by decide +kernel
theorem dX1_takenKind_41 : decode cX1_takenKind 41 = .ok (.iconst (-1), 1) := by decide +kernel
theorem dX1_takenKind_42 : decode cX1_takenKind 42 = .ok (.ireturn, 1) := by decide +kernel
theorem dX1_nextIs_0 : decode cX1_nextIs 0 = .ok (.aload_n 0, 1) := by decide +kernel
theorem dX1_nextIs_1 : decode cX1_nextIs 1 = .ok (.getfield 27, 3) := by decide +kernel
theorem dX1_nextIs_4 : decode cX1_nextIs 4 = .ok (.aload_n 0, 1) := by decide +kernel
theorem dX1_nextIs_5 : decode cX1_nextIs 5 = .ok (.getfield 24, 3) := by decide +kernel
theorem dX1_nextIs_8 : decode cX1_nextIs 8 = .ok (.if_icmp .ge 25, 3) := by decide +kernel
theorem dX1_nextIs_11 : decode cX1_nextIs 11 = .ok (.aload_n 0, 1) := by decide +kernel
theorem dX1_nextIs_12 : decode cX1_nextIs 12 = .ok (.getfield 9, 3) := by decide +kernel
theorem dX1_nextIs_15 : decode cX1_nextIs 15 = .ok (.aload_n 0, 1) := by decide +kernel
theorem dX1_nextIs_16 : decode cX1_nextIs 16 = .ok (.getfield 20, 3) := by decide +kernel
theorem dX1_nextIs_19 : decode cX1_nextIs 19 = .ok (.aload_n 0, 1) := by decide +kernel
theorem dX1_nextIs_20 : decode cX1_nextIs 20 = .ok (.getfield 27, 3) := by decide +kernel
theorem dX1_nextIs_23 : decode cX1_nextIs 23 = .ok (.iadd, 1) := by decide +kernel
theorem dX1_nextIs_24 : decode cX1_nextIs 24 = .ok (.iaload, 1) := by decide +kernel
theorem dX1_nextIs_25 : decode cX1_nextIs 25 = .ok (.iload_n 1, 1) := by decide +kernel
theorem dX1_nextIs_26 : decode cX1_nextIs 26 = .ok (.if_icmp .ne 7, 3) := by decide +kernel
theorem dX1_nextIs_29 : decode cX1_nextIs 29 = .ok (.iconst 1, 1) := by decide +kernel
theorem dX1_nextIs_30 : decode cX1_nextIs 30 = .ok (.goto 4, 3) := by decide +kernel
theorem dX1_nextIs_33 : decode cX1_nextIs 33 = .ok (.iconst 0, 1) := by decide +kernel
theorem dX1_nextIs_34 : decode cX1_nextIs 34 = .ok (.ireturn, 1) := by decide +kernel
theorem dX1_taken_0 : decode cX1_taken 0 = .ok (.aload_n 0, 1) := by decide +kernel
theorem dX1_taken_1 : decode cX1_taken 1 = .ok (.getfield 27, 3) := by decide +kernel
theorem dX1_taken_4 : decode cX1_taken 4 = .ok (.aload_n 0, 1) := by decide +kernel
theorem dX1_taken_5 : decode cX1_taken 5 = .ok (.getfield 24, 3) := by decide +kernel
theorem dX1_taken_8 : decode cX1_taken 8 = .ok (.if_icmp .ge 39, 3) := by decide +kernel
theorem dX1_taken_11 : decode cX1_taken 11 = .ok (.aload_n 0, 1) := by decide +kernel
theorem dX1_taken_12 : decode cX1_taken 12 = .ok (.getfield 9, 3) := by decide +kernel
theorem dX1_taken_15 : decode cX1_taken 15 = .ok (.aload_n 0, 1) := by decide +kernel
theorem dX1_taken_16 : decode cX1_taken 16 = .ok (.getfield 20, 3) := by decide +kernel
theorem dX1_taken_19 : decode cX1_taken 19 = .ok (.aload_n 0, 1) := by decide +kernel
theorem dX1_taken_20 : decode cX1_taken 20 = .ok (.getfield 27, 3) := by decide +kernel
theorem dX1_taken_23 : decode cX1_taken 23 = .ok (.iadd, 1) := by decide +kernel
theorem dX1_taken_24 : decode cX1_taken 24 = .ok (.iaload, 1) := by decide +kernel
theorem dX1_taken_25 : decode cX1_taken 25 = .ok (.iload_n 1, 1) := by decide +kernel
theorem dX1_taken_26 : decode cX1_taken 26 = .ok (.if_icmp .lt 21, 3) := by decide +kernel
theorem dX1_taken_29 : decode cX1_taken 29 = .ok (.aload_n 0, 1) := by decide +kernel
theorem dX1_taken_30 : decode cX1_taken 30 = .ok (.getfield 9, 3) := by decide +kernel
theorem dX1_taken_33 : decode cX1_taken 33 = .ok (.aload_n 0, 1) := by decide +kernel
theorem dX1_taken_34 : decode cX1_taken 34 = .ok (.getfield 20, 3) := by decide +kernel
theorem dX1_taken_37 : decode cX1_taken 37 = .ok (.aload_n 0, 1) := by decide +kernel
theorem dX1_taken_38 : decode cX1_taken 38 = .ok (.getfield 27, 3) := by decide +kernel
theorem dX1_taken_41 : decode cX1_taken 41 = .ok (.iadd, 1) := by decide +kernel
theorem dX1_taken_42 : decode cX1_taken 42 = .ok (.iaload, 1) := by decide +kernel
theorem dX1_taken_43 : decode cX1_taken 43 = .ok (.iload_n 2, 1) := by decide +kernel
theorem dX1_taken_44 : decode cX1_taken 44 = .ok (.if_icmp .le 5, 3) := by decide +kernel
theorem dX1_taken_47 : decode cX1_taken 47 = .ok (.iconst (-1), 1) := by decide +kernel
theorem dX1_taken_48 : decode cX1_taken 48 = .ok (.ireturn, 1) := by decide +kernel
theorem dX1_taken_49 : decode cX1_taken 49 = .ok (.aload_n 0, 1) := by decide +kernel
theorem dX1_taken_50 : decode cX1_taken 50 = .ok (.getfield 9, 3) := by decide +kernel
theorem dX1_taken_53 : decode cX1_taken 53 = .ok (.aload_n 0, 1) := by decide +kernel
theorem dX1_taken_54 : decode cX1_taken 54 = .ok (.getfield 20, 3) := by decide +kernel
theorem dX1_taken_57 : decode cX1_taken 57 = .ok (.aload_n 0, 1) := by decide +kernel
theorem dX1_taken_58 : decode cX1_taken 58 = .ok (.getfield 27, 3) := by decide +kernel
theorem dX1_taken_61 : decode cX1_taken 61 = .ok (.iadd, 1) := by decide +kernel
theorem dX1_taken_62 : decode cX1_taken 62 = .ok (.iaload, 1) := by decide +kernel
theorem dX1_taken_63 : decode cX1_taken 63 = .ok (.iload_n 1, 1) := by decide +kernel
theorem dX1_taken_64 : decode cX1_taken 64 = .ok (.isub, 1) := by decide +kernel
theorem dX1_taken_65 : decode cX1_taken 65 = .ok (.istore_n 3, 1) := by decide +kernel
theorem dX1_taken_66 : decode cX1_taken 66 = .ok (.aload_n 0, 1) := by decide +kernel
theorem dX1_taken_67 : decode cX1_taken 67 = .ok (.dup, 1) := by decide +kernel
theorem dX1_taken_68 : decode cX1_taken 68 = .ok (.getfield 27, 3) := by decide +kernel
theorem dX1_taken_71 : decode cX1_taken 71 = .ok (.iconst 1, 1) := by decide +kernel
theorem dX1_taken_72 : decode cX1_taken 72 = .ok (.iadd, 1) := by decide +kernel
theorem dX1_taken_73 : decode cX1_taken 73 = .ok (.putfield 27, 3) := by decide +kernel
theorem dX1_taken_76 : decode cX1_taken 76 = .ok (.iload_n 3, 1) := by decide +kernel
theorem dX1_taken_77 : decode cX1_taken 77 = .ok (.ireturn, 1) := by decide +kernel
theorem dX2_init_0 : decode cX2_init 0 = .ok (.aload_n 0, 1) := by decide +kernel
theorem dX2_init_1 : decode cX2_init 1 = .ok (.invokespecial 3, 3) := by decide +kernel
theorem dX2_init_4 : decode cX2_init 4 = .ok (.aload_n 0, 1) := by decide +kernel
theorem dX2_init_5 : decode cX2_init 5 = .ok (.bipush 6, 2) := by decide +kernel
theorem dX2_init_7 : decode cX2_init 7 = .ok (.newarray .int, 2) := by decide +kernel
theorem dX2_init_9 : decode cX2_init 9 = .ok (.putfield 9, 3) := by decide +kernel
theorem dX2_init_12 : decode cX2_init 12 = .ok (.aload_n 0, 1) := by decide +kernel
theorem dX2_init_13 : decode cX2_init 13 = .ok (.iconst 4, 1) := by decide +kernel
theorem dX2_init_14 : decode cX2_init 14 = .ok (.newarray .int, 2) := by decide +kernel
theorem dX2_init_16 : decode cX2_init 16 = .ok (.putfield 15, 3) := by decide +kernel
theorem dX2_init_19 : decode cX2_init 19 = .ok (.aload_n 0, 1) := by decide +kernel
theorem dX2_init_20 : decode cX2_init 20 = .ok (.iconst 4, 1) := by decide +kernel
theorem dX2_init_21 : decode cX2_init 21 = .ok (.newarray .int, 2) := by decide +kernel
theorem dX2_init_23 : decode cX2_init 23 = .ok (.putfield 18, 3) := by decide +kernel
theorem dX2_init_26 : decode cX2_init 26 = .ok (.aload_n 0, 1) := by decide +kernel
theorem dX2_init_27 : decode cX2_init 27 = .ok (.iconst 4, 1) := by decide +kernel
theorem dX2_init_28 : decode cX2_init 28 = .ok (.newarray .int, 2) := by decide +kernel
theorem dX2_init_30 : decode cX2_init 30 = .ok (.putfield 21, 3) := by decide +kernel
theorem dX2_init_33 : decode cX2_init 33 = .ok (.aload_n 0, 1) := by decide +kernel
theorem dX2_init_34 : decode cX2_init 34 = .ok (.iconst 4, 1) := by decide +kernel
theorem dX2_init_35 : decode cX2_init 35 = .ok (.newarray .int, 2) := by decide +kernel
theorem dX2_init_37 : decode cX2_init 37 = .ok (.putfield 24, 3) := by decide +kernel
theorem dX2_init_40 : decode cX2_init 40 = .ok (.return_, 1) := by decide +kernel
theorem dX2_clear_0 : decode cX2_clear 0 = .ok (.aload_n 0, 1) := by decide +kernel
theorem dX2_clear_1 : decode cX2_clear 1 = .ok (.iconst 0, 1) := by decide +kernel
theorem dX2_clear_2 : decode cX2_clear 2 = .ok (.putfield 27, 3) := by decide +kernel
theorem dX2_clear_5 : decode cX2_clear 5 = .ok (.aload_n 0, 1) := by decide +kernel
theorem dX2_clear_6 : decode cX2_clear 6 = .ok (.iconst 0, 1) := by decide +kernel
theorem dX2_clear_7 : decode cX2_clear 7 = .ok (.putfield 31, 3) := by decide +kernel
theorem dX2_clear_10 : decode cX2_clear 10 = .ok (.return_, 1) := by decide +kernel
theorem dX2_addDeed_0 : decode cX2_addDeed 0 = .ok (.aload_n 0, 1) := by decide +kernel
theorem dX2_addDeed_1 : decode cX2_addDeed 1 = .ok (.getfield 27, 3) := by decide +kernel
theorem dX2_addDeed_4 : decode cX2_addDeed 4 = .ok (.bipush 6, 2) := by decide +kernel
theorem dX2_addDeed_6 : decode cX2_addDeed 6 = .ok (.if_icmp .ge 23, 3) := by decide +kernel
theorem dX2_addDeed_9 : decode cX2_addDeed 9 = .ok (.aload_n 0, 1) := by decide +kernel
theorem dX2_addDeed_10 : decode cX2_addDeed 10 = .ok (.getfield 9, 3) := by decide +kernel
theorem dX2_addDeed_13 : decode cX2_addDeed 13 = .ok (.aload_n 0, 1) := by decide +kernel
theorem dX2_addDeed_14 : decode cX2_addDeed 14 = .ok (.getfield 27, 3) := by decide +kernel
theorem dX2_addDeed_17 : decode cX2_addDeed 17 = .ok (.iload_n 1, 1) := by decide +kernel
theorem dX2_addDeed_18 : decode cX2_addDeed 18 = .ok (.iastore, 1) := by decide +kernel
theorem dX2_addDeed_19 : decode cX2_addDeed 19 = .ok (.aload_n 0, 1) := by decide +kernel
theorem dX2_addDeed_20 : decode cX2_addDeed 20 = .ok (.dup, 1) := by decide +kernel
theorem dX2_addDeed_21 : decode cX2_addDeed 21 = .ok (.getfield 27, 3) := by decide +kernel
theorem dX2_addDeed_24 : decode cX2_addDeed 24 = .ok (.iconst 1, 1) := by decide +kernel
theorem dX2_addDeed_25 : decode cX2_addDeed 25 = .ok (.iadd, 1) := by decide +kernel
theorem dX2_addDeed_26 : decode cX2_addDeed 26 = .ok (.putfield 27, 3) := by decide +kernel
theorem dX2_addDeed_29 : decode cX2_addDeed 29 = .ok (.return_, 1) := by decide +kernel
theorem dX2_addPerson_0 : decode cX2_addPerson 0 = .ok (.aload_n 0, 1) := by decide +kernel
theorem dX2_addPerson_1 : decode cX2_addPerson 1 = .ok (.getfield 31, 3) := by decide +kernel
theorem dX2_addPerson_4 : decode cX2_addPerson 4 = .ok (.iconst 4, 1) := by decide +kernel
theorem dX2_addPerson_5 : decode cX2_addPerson 5 = .ok (.if_icmp .ge 53, 3) := by decide +kernel
theorem dX2_addPerson_8 : decode cX2_addPerson 8 = .ok (.aload_n 0, 1) := by decide +kernel
theorem dX2_addPerson_9 : decode cX2_addPerson 9 = .ok (.getfield 15, 3) := by decide +kernel
theorem dX2_addPerson_12 : decode cX2_addPerson 12 = .ok (.aload_n 0, 1) := by decide +kernel
theorem dX2_addPerson_13 : decode cX2_addPerson 13 = .ok (.getfield 31, 3) := by decide +kernel
theorem dX2_addPerson_16 : decode cX2_addPerson 16 = .ok (.iload_n 1, 1) := by decide +kernel
theorem dX2_addPerson_17 : decode cX2_addPerson 17 = .ok (.iastore, 1) := by decide +kernel
theorem dX2_addPerson_18 : decode cX2_addPerson 18 = .ok (.aload_n 0, 1) := by decide +kernel
theorem dX2_addPerson_19 : decode cX2_addPerson 19 = .ok (.getfield 18, 3) := by decide +kernel
theorem dX2_addPerson_22 : decode cX2_addPerson 22 = .ok (.aload_n 0, 1) := by decide +kernel
theorem dX2_addPerson_23 : decode cX2_addPerson 23 = .ok (.getfield 31, 3) := by decide +kernel
theorem dX2_addPerson_26 : decode cX2_addPerson 26 = .ok (.iload_n 2, 1) := by decide +kernel
theorem dX2_addPerson_27 : decode cX2_addPerson 27 = .ok (.iastore, 1) := by decide +kernel
theorem dX2_addPerson_28 : decode cX2_addPerson 28 = .ok (.aload_n 0, 1) := by decide +kernel
theorem dX2_addPerson_29 : decode cX2_addPerson 29 = .ok (.getfield 21, 3) := by decide +kernel
theorem dX2_addPerson_32 : decode cX2_addPerson 32 = .ok (.aload_n 0, 1) := by decide +kernel
theorem dX2_addPerson_33 : decode cX2_addPerson 33 = .ok (.getfield 31, 3) := by decide +kernel
theorem dX2_addPerson_36 : decode cX2_addPerson 36 = .ok (.iload_n 3, 1) := by decide +kernel
theorem dX2_addPerson_37 : decode cX2_addPerson 37 = .ok (.iastore, 1) := by decide +kernel
theorem dX2_addPerson_38 : decode cX2_addPerson 38 = .ok (.aload_n 0, 1) := by decide +kernel
theorem dX2_addPerson_39 : decode cX2_addPerson 39 = .ok (.getfield 24, 3) := by decide +kernel
theorem dX2_addPerson_42 : decode cX2_addPerson 42 = .ok (.aload_n 0, 1) := by decide +kernel
theorem dX2_addPerson_43 : decode cX2_addPerson 43 = .ok (.getfield 31, 3) := by decide +kernel
theorem dX2_addPerson_46 : decode cX2_addPerson 46 = .ok (.iconst 0, 1) := by decide +kernel
theorem dX2_addPerson_47 : decode cX2_addPerson 47 = .ok (.iastore, 1) := by decide +kernel
theorem dX2_addPerson_48 : decode cX2_addPerson 48 = .ok (.aload_n 0, 1) := by decide +kernel
theorem dX2_addPerson_49 : decode cX2_addPerson 49 = .ok (.dup, 1) := by decide +kernel
theorem dX2_addPerson_50 : decode cX2_addPerson 50 = .ok (.getfield 31, 3) := by decide +kernel
theorem dX2_addPerson_53 : decode cX2_addPerson 53 = .ok (.iconst 1, 1) := by decide +kernel
theorem dX2_addPerson_54 : decode cX2_addPerson 54 = .ok (.iadd, 1) := by decide +kernel
theorem dX2_addPerson_55 : decode cX2_addPerson 55 = .ok (.putfield 31, 3) := by decide +kernel
theorem dX2_addPerson_58 : decode cX2_addPerson 58 = .ok (.return_, 1) := by decide +kernel
theorem dX2_become_0 : decode cX2_become 0 = .ok (.aload_n 0, 1) := by decide +kernel
theorem dX2_become_1 : decode cX2_become 1 = .ok (.aload_n 1, 1) := by decide +kernel
theorem dX2_become_2 : decode cX2_become 2 = .ok (.getfield 27, 3) := by decide +kernel
theorem dX2_become_5 : decode cX2_become 5 = .ok (.putfield 27, 3) := by decide +kernel
theorem dX2_become_8 : decode cX2_become 8 = .ok (.aload_n 0, 1) := by decide +kernel
theorem dX2_become_9 : decode cX2_become 9 = .ok (.aload_n 1, 1) := by decide +kernel
theorem dX2_become_10 : decode cX2_become 10 = .ok (.getfield 31, 3) := by decide +kernel
theorem dX2_become_13 : decode cX2_become 13 = .ok (.putfield 31, 3) := by decide +kernel
theorem dX2_become_16 : decode cX2_become 16 = .ok (.aload_n 0, 1) := by decide +kernel
theorem dX2_become_17 : decode cX2_become 17 = .ok (.iconst 0, 1) := by decide +kernel
theorem dX2_become_18 : decode cX2_become 18 = .ok (.putfield 34, 3) := by decide +kernel
theorem dX2_become_21 : decode cX2_become 21 = .ok (.aload_n 1, 1) := by decide +kernel
theorem dX2_become_22 : decode cX2_become 22 = .ok (.getfield 9, 3) := by decide +kernel
theorem dX2_become_25 : decode cX2_become 25 = .ok (.iconst 0, 1) := by decide +kernel
theorem dX2_become_26 : decode cX2_become 26 = .ok (.aload_n 0, 1) := by decide +kernel
theorem dX2_become_27 : decode cX2_become 27 = .ok (.getfield 9, 3) := by decide +kernel
theorem dX2_become_30 : decode cX2_become 30 = .ok (.iconst 0, 1) := by decide +kernel
theorem dX2_become_31 : decode cX2_become 31 = .ok (.bipush 6, 2) := by decide +kernel
theorem dX2_become_33 : decode cX2_become 33 = .ok (.invokestatic 37, 3) := by decide +kernel
theorem dX2_become_36 : decode cX2_become 36 = .ok (.aload_n 1, 1) := by decide +kernel
theorem dX2_become_37 : decode cX2_become 37 = .ok (.getfield 15, 3) := by decide +kernel
theorem dX2_become_40 : decode cX2_become 40 = .ok (.iconst 0, 1) := by decide +kernel
theorem dX2_become_41 : decode cX2_become 41 = .ok (.aload_n 0, 1) := by decide +kernel
theorem dX2_become_42 : decode cX2_become 42 = .ok (.getfield 15, 3) := by decide +kernel
theorem dX2_become_45 : decode cX2_become 45 = .ok (.iconst 0, 1) := by decide +kernel
theorem dX2_become_46 : decode cX2_become 46 = .ok (.iconst 4, 1) := by decide +kernel
theorem dX2_become_47 : decode cX2_become 47 = .ok (.invokestatic 37, 3) := by decide +kernel
theorem dX2_become_50 : decode cX2_become 50 = .ok (.aload_n 1, 1) := by decide +kernel
theorem dX2_become_51 : decode cX2_become 51 = .ok (.getfield 18, 3) := by decide +kernel
theorem dX2_become_54 : decode cX2_become 54 = .ok (.iconst 0, 1) := by decide +kernel
theorem dX2_become_55 : decode cX2_become 55 = .ok (.aload_n 0, 1) := by decide +kernel
theorem dX2_become_56 : decode cX2_become 56 = .ok (.getfield 18, 3) := by decide +kernel
theorem dX2_become_59 : decode cX2_become 59 = .ok (.iconst 0, 1) := by decide +kernel
theorem dX2_become_60 : decode cX2_become 60 = .ok (.iconst 4, 1) := by decide +kernel
theorem dX2_become_61 : decode cX2_become 61 = .ok (.invokestatic 37, 3) := by decide +kernel
theorem dX2_become_64 : decode cX2_become 64 = .ok (.aload_n 1, 1) := by decide +kernel
theorem dX2_become_65 : decode cX2_become 65 = .ok (.getfield 21, 3) := by decide +kernel
theorem dX2_become_68 : decode cX2_become 68 = .ok (.iconst 0, 1) := by decide +kernel
theorem dX2_become_69 : decode cX2_become 69 = .ok (.aload_n 0, 1) := by decide +kernel
theorem dX2_become_70 : decode cX2_become 70 = .ok (.getfield 21, 3) := by decide +kernel
theorem dX2_become_73 : decode cX2_become 73 = .ok (.iconst 0, 1) := by decide +kernel
theorem dX2_become_74 : decode cX2_become 74 = .ok (.iconst 4, 1) := by decide +kernel
theorem dX2_become_75 : decode cX2_become 75 = .ok (.invokestatic 37, 3) := by decide +kernel
theorem dX2_become_78 : decode cX2_become 78 = .ok (.aload_n 1, 1) := by decide +kernel
theorem dX2_become_79 : decode cX2_become 79 = .ok (.getfield 24, 3) := by decide +kernel
theorem dX2_become_82 : decode cX2_become 82 = .ok (.iconst 0, 1) := by decide +kernel
theorem dX2_become_83 : decode cX2_become 83 = .ok (.aload_n 0, 1) := by decide +kernel
theorem dX2_become_84 : decode cX2_become 84 = .ok (.getfield 24, 3) := by decide +kernel
theorem dX2_become_87 : decode cX2_become 87 = .ok (.iconst 0, 1) := by decide +kernel
theorem dX2_become_88 : decode cX2_become 88 = .ok (.iconst 4, 1) := by decide +kernel
theorem dX2_become_89 : decode cX2_become 89 = .ok (.invokestatic 37, 3) := by decide +kernel
theorem dX2_become_92 : decode cX2_become 92 = .ok (.return_, 1) := by decide +kernel
theorem dX2_isDeed_0 : decode cX2_isDeed 0 = .ok (.iload_n 1, 1) := by decide +kernel
theorem dX2_isDeed_1 : decode cX2_isDeed 1 = .ok (.ifCond .lt 15, 3) := by decide +kernel
theorem dX2_isDeed_4 : decode cX2_isDeed 4 = .ok (.iload_n 1, 1) := by decide +kernel
theorem dX2_isDeed_5 : decode cX2_isDeed 5 = .ok (.aload_n 0, 1) := by decide +kernel
theorem dX2_isDeed_6 : decode cX2_isDeed 6 = .ok (.getfield 27, 3) := by decide +kernel
theorem dX2_isDeed_9 : decode cX2_isDeed 9 = .ok (.if_icmp .ge 7, 3) := by decide +kernel
theorem dX2_isDeed_12 : decode cX2_isDeed 12 = .ok (.iconst 1, 1) := by decide +kernel
theorem dX2_isDeed_13 : decode cX2_isDeed 13 = .ok (.goto 4, 3) := by decide +kernel
theorem dX2_isDeed_16 : decode cX2_isDeed 16 = .ok (.iconst 0, 1) := by decide +kernel
theorem dX2_isDeed_17 : decode cX2_isDeed 17 = .ok (.ireturn, 1) := by decide +kernel
theorem dX2_isPerson_0 : decode cX2_isPerson 0 = .ok (.iload_n 1, 1) := by decide +kernel
theorem dX2_isPerson_1 : decode cX2_isPerson 1 = .ok (.ifCond .lt 15, 3) := by decide +kernel
theorem dX2_isPerson_4 : decode cX2_isPerson 4 = .ok (.iload_n 1, 1) := by decide +kernel
theorem dX2_isPerson_5 : decode cX2_isPerson 5 = .ok (.aload_n 0, 1) := by decide +kernel
theorem dX2_isPerson_6 : decode cX2_isPerson 6 = .ok (.getfield 31, 3) := by decide +kernel
theorem dX2_isPerson_9 : decode cX2_isPerson 9 = .ok (.if_icmp .ge 7, 3) := by decide +kernel
theorem dX2_isPerson_12 : decode cX2_isPerson 12 = .ok (.iconst 1, 1) := by decide +kernel
theorem dX2_isPerson_13 : decode cX2_isPerson 13 = .ok (.goto 4, 3) := by decide +kernel
theorem dX2_isPerson_16 : decode cX2_isPerson 16 = .ok (.iconst 0, 1) := by decide +kernel
theorem dX2_isPerson_17 : decode cX2_isPerson 17 = .ok (.ireturn, 1) := by decide +kernel
theorem dX2_truthsOf_0 : decode cX2_truthsOf 0 = .ok (.aload_n 0, 1) := by decide +kernel
theorem dX2_truthsOf_1 : decode cX2_truthsOf 1 = .ok (.getfield 18, 3) := by decide +kernel
theorem dX2_truthsOf_4 : decode cX2_truthsOf 4 = .ok (.iload_n 1, 1) := by decide +kernel
theorem dX2_truthsOf_5 : decode cX2_truthsOf 5 = .ok (.iaload, 1) := by decide +kernel
theorem dX2_truthsOf_6 : decode cX2_truthsOf 6 = .ok (.iconst 1, 1) := by decide +kernel
theorem dX2_truthsOf_7 : decode cX2_truthsOf 7 = .ok (.aload_n 0, 1) := by decide +kernel
theorem dX2_truthsOf_8 : decode cX2_truthsOf 8 = .ok (.getfield 27, 3) := by decide +kernel
theorem dX2_truthsOf_11 : decode cX2_truthsOf 11 = .ok (.ishl, 1) := by decide +kernel
theorem dX2_truthsOf_12 : decode cX2_truthsOf 12 = .ok (.iconst 1, 1) := by decide +kernel
theorem dX2_truthsOf_13 : decode cX2_truthsOf 13 = .ok (.isub, 1) := by decide +kernel
theorem dX2_truthsOf_14 : decode cX2_truthsOf 14 = .ok (.iand, 1) := by decide +kernel
theorem dX2_truthsOf_15 : decode cX2_truthsOf 15 = .ok (.ireturn, 1) := by decide +kernel
theorem dX2_hasTold_0 : decode cX2_hasTold 0 = .ok (.aload_n 0, 1) := by decide +kernel
theorem dX2_hasTold_1 : decode cX2_hasTold 1 = .ok (.getfield 24, 3) := by decide +kernel
theorem dX2_hasTold_4 : decode cX2_hasTold 4 = .ok (.iload_n 1, 1) := by decide +kernel
theorem dX2_hasTold_5 : decode cX2_hasTold 5 = .ok (.iaload, 1) := by decide +kernel
theorem dX2_hasTold_6 : decode cX2_hasTold 6 = .ok (.iload_n 2, 1) := by decide +kernel
theorem dX2_hasTold_7 : decode cX2_hasTold 7 = .ok (.ishr, 1) := by decide +kernel
theorem dX2_hasTold_8 : decode cX2_hasTold 8 = .ok (.iconst 1, 1) := by decide +kernel
theorem dX2_hasTold_9 : decode cX2_hasTold 9 = .ok (.iand, 1) := by decide +kernel
theorem dX2_hasTold_10 : decode cX2_hasTold 10 = .ok (.iconst 1, 1) := by decide +kernel
theorem dX2_hasTold_11 : decode cX2_hasTold 11 = .ok (.if_icmp .ne 7, 3) := by decide +kernel
theorem dX2_hasTold_14 : decode cX2_hasTold 14 = .ok (.iconst 1, 1) := by decide +kernel
theorem dX2_hasTold_15 : decode cX2_hasTold 15 = .ok (.goto 4, 3) := by decide +kernel
theorem dX2_hasTold_18 : decode cX2_hasTold 18 = .ok (.iconst 0, 1) := by decide +kernel
theorem dX2_hasTold_19 : decode cX2_hasTold 19 = .ok (.ireturn, 1) := by decide +kernel
theorem dX2_rise_0 : decode cX2_rise 0 = .ok (.aload_n 0, 1) := by decide +kernel
theorem dX2_rise_1 : decode cX2_rise 1 = .ok (.getfield 15, 3) := by decide +kernel
theorem dX2_rise_4 : decode cX2_rise 4 = .ok (.iload_n 1, 1) := by decide +kernel
theorem dX2_rise_5 : decode cX2_rise 5 = .ok (.iaload, 1) := by decide +kernel
theorem dX2_rise_6 : decode cX2_rise 6 = .ok (.lookupswitch 44 #[(1, 26), (2, 35)], 26) := by decide +kernel
theorem dX2_rise_32 : decode cX2_rise 32 = .ok (.aload_n 0, 1) := by decide +kernel
theorem dX2_rise_33 : decode cX2_rise 33 = .ok (.getfield 9, 3) := by decide +kernel
theorem dX2_rise_36 : decode cX2_rise 36 = .ok (.iload_n 2, 1) := by decide +kernel
theorem dX2_rise_37 : decode cX2_rise 37 = .ok (.iaload, 1) := by decide +kernel
theorem dX2_rise_38 : decode cX2_rise 38 = .ok (.iconst 1, 1) := by decide +kernel
theorem dX2_rise_39 : decode cX2_rise 39 = .ok (.isub, 1) := by decide +kernel
theorem dX2_rise_40 : decode cX2_rise 40 = .ok (.ireturn, 1) := by decide +kernel
theorem dX2_rise_41 : decode cX2_rise 41 = .ok (.iconst 2, 1) := by decide +kernel
theorem dX2_rise_42 : decode cX2_rise 42 = .ok (.aload_n 0, 1) := by decide +kernel
theorem dX2_rise_43 : decode cX2_rise 43 = .ok (.getfield 9, 3) := by decide +kernel
theorem dX2_rise_46 : decode cX2_rise 46 = .ok (.iload_n 2, 1) := by decide +kernel
theorem dX2_rise_47 : decode cX2_rise 47 = .ok (.iaload, 1) := by decide +kernel
theorem dX2_rise_48 : decode cX2_rise 48 = .ok (.imul, 1) := by decide +kernel
theorem dX2_rise_49 : decode cX2_rise 49 = .ok (.ireturn, 1) := by decide +kernel
theorem dX2_rise_50 : decode cX2_rise 50 = .ok (.aload_n 0, 1) := by decide +kernel
theorem dX2_rise_51 : decode cX2_rise 51 = .ok (.getfield 9, 3) := by decide +kernel
theorem dX2_rise_54 : decode cX2_rise 54 = .ok (.iload_n 2, 1) := by decide +kernel
theorem dX2_rise_55 : decode cX2_rise 55 = .ok (.iaload, 1) := by decide +kernel
theorem dX2_rise_56 : decode cX2_rise 56 = .ok (.ireturn, 1) := by decide +kernel
set_option maxRecDepth 20000 in
theorem ggX2_floorBy_X2_rise : GoodIn wsX2_floorBy wsX2_rise := goodIn_r _ [6, 7, 8, 9, 10, 11, 12, 13, 14, 15, 16] (by decide +kernel) (by decide +kernel)
set_option maxRecDepth 20000 in
theorem gX2_floorBy_X2_rise : GoodIn wsX2_floorBy (wsV RX2 43 RX2 yX2_rise wsX2_rise) := goodIn_app (goodIn_of _ (by decide +kernel)) ggX2_floorBy_X2_rise
theorem dX2_floorBy_0 : decode cX2_floorBy 0 = .ok (.iconst 0, 1) := by decide +kernel
theorem dX2_floorBy_1 : decode cX2_floorBy 1 = .ok (.istore_n 3, 1) := by decide +kernel
theorem dX2_floorBy_2 : decode cX2_floorBy 2 = .ok (.iconst 0, 1) := by decide +kernel
theorem dX2_floorBy_3 : decode cX2_floorBy 3 = .ok (.istore 4, 2) := by decide +kernel
theorem dX2_floorBy_5 : decode cX2_floorBy 5 = .ok (.iload 4, 2) := by decide +kernel
theorem dX2_floorBy_7 : decode cX2_floorBy 7 = .ok (.aload_n 0, 1) := by decide +kernel
theorem dX2_floorBy_8 : decode cX2_floorBy 8 = .ok (.getfield 27, 3) := by decide +kernel
theorem dX2_floorBy_11 : decode cX2_floorBy 11 = .ok (.if_icmp .ge 29, 3) := by decide +kernel
theorem dX2_floorBy_14 : decode cX2_floorBy 14 = .ok (.iload_n 2, 1) := by decide +kernel
theorem dX2_floorBy_15 : decode cX2_floorBy 15 = .ok (.iload 4, 2) := by decide +kernel
theorem dX2_floorBy_17 : decode cX2_floorBy 17 = .ok (.ishr, 1) := by decide +kernel
theorem dX2_floorBy_18 : decode cX2_floorBy 18 = .ok (.iconst 1, 1) := by decide +kernel
theorem dX2_floorBy_19 : decode cX2_floorBy 19 = .ok (.iand, 1) := by decide +kernel
theorem dX2_floorBy_20 : decode cX2_floorBy 20 = .ok (.iconst 1, 1) := by decide +kernel
theorem dX2_floorBy_21 : decode cX2_floorBy 21 = .ok (.if_icmp .ne 13, 3) := by decide +kernel
theorem dX2_floorBy_24 : decode cX2_floorBy 24 = .ok (.iload_n 3, 1) := by decide +kernel
theorem dX2_floorBy_25 : decode cX2_floorBy 25 = .ok (.aload_n 0, 1) := by decide +kernel
theorem dX2_floorBy_26 : decode cX2_floorBy 26 = .ok (.iload_n 1, 1) := by decide +kernel
theorem dX2_floorBy_27 : decode cX2_floorBy 27 = .ok (.iload 4, 2) := by decide +kernel
theorem dX2_floorBy_29 : decode cX2_floorBy 29 = .ok (.invokevirtual 43, 3) := by decide +kernel
theorem dX2_floorBy_32 : decode cX2_floorBy 32 = .ok (.iadd, 1) := by decide +kernel
theorem dX2_floorBy_33 : decode cX2_floorBy 33 = .ok (.istore_n 3, 1) := by decide +kernel
theorem dX2_floorBy_34 : decode cX2_floorBy 34 = .ok (.iinc 4 1, 3) := by decide +kernel
theorem dX2_floorBy_37 : decode cX2_floorBy 37 = .ok (.goto (-32), 3) := by decide +kernel
theorem dX2_floorBy_40 : decode cX2_floorBy 40 = .ok (.iload_n 3, 1) := by decide +kernel
theorem dX2_floorBy_41 : decode cX2_floorBy 41 = .ok (.ireturn, 1) := by decide +kernel
set_option maxRecDepth 20000 in
theorem ggX2_floorOf_X2_floorBy : GoodIn wsX2_floorOf wsX2_floorBy := goodIn_r _ [6, 7, 8, 9, 10, 5, 11, 12, 13, 14, 15, 16, 17, 18, 19, 20, 21] (by decide +kernel) (by decide +kernel)
set_option maxRecDepth 20000 in
theorem gX2_floorOf_X2_floorBy : GoodIn wsX2_floorOf (wsV RX2 47 RX2 yX2_floorBy wsX2_floorBy) := goodIn_app (goodIn_of _ (by decide +kernel)) ggX2_floorOf_X2_floorBy
theorem dX2_floorOf_0 : decode cX2_floorOf 0 = .ok (.aload_n 0, 1) := by decide +kernel
theorem dX2_floorOf_1 : decode cX2_floorOf 1 = .ok (.iload_n 1, 1) := by decide +kernel
theorem dX2_floorOf_2 : decode cX2_floorOf 2 = .ok (.aload_n 0, 1) := by decide +kernel
theorem dX2_floorOf_3 : decode cX2_floorOf 3 = .ok (.getfield 24, 3) := by decide +kernel
theorem dX2_floorOf_6 : decode cX2_floorOf 6 = .ok (.iload_n 1, 1) := by decide +kernel
theorem dX2_floorOf_7 : decode cX2_floorOf 7 = .ok (.iaload, 1) := by decide +kernel
theorem dX2_floorOf_8 : decode cX2_floorOf 8 = .ok (.invokevirtual 47, 3) := by decide +kernel
theorem dX2_floorOf_11 : decode cX2_floorOf 11 = .ok (.ireturn, 1) := by decide +kernel
set_option maxRecDepth 20000 in
theorem ggX2_highestFloor_X2_floorOf : GoodIn wsX2_highestFloor wsX2_floorOf := goodIn_r _ [10, 11, 12, 13, 14, 9, 15, 16, 17, 18, 19, 20, 21, 22, 23, 24, 25, 26, 27, 28, 29, 30] (by decide +kernel) (by decide +kernel)
set_option maxRecDepth 20000 in
theorem gX2_highestFloor_X2_floorOf : GoodIn wsX2_highestFloor (wsV RX2 50 RX2 yX2_floorOf wsX2_floorOf) := goodIn_app (goodIn_of _ (by decide +kernel)) ggX2_highestFloor_X2_floorOf
theorem dX2_highestFloor_0 : decode cX2_highestFloor 0 = .ok (.iconst 0, 1) := by decide +kernel
theorem dX2_highestFloor_1 : decode cX2_highestFloor 1 = .ok (.istore_n 1, 1) := by decide +kernel
theorem dX2_highestFloor_2 : decode cX2_highestFloor 2 = .ok (.iconst 0, 1) := by decide +kernel
theorem dX2_highestFloor_3 : decode cX2_highestFloor 3 = .ok (.istore_n 2, 1) := by decide +kernel
theorem dX2_highestFloor_4 : decode cX2_highestFloor 4 = .ok (.iload_n 2, 1) := by decide +kernel
theorem dX2_highestFloor_5 : decode cX2_highestFloor 5 = .ok (.aload_n 0, 1) := by decide +kernel
theorem dX2_highestFloor_6 : decode cX2_highestFloor 6 = .ok (.getfield 31, 3) := by decide +kernel
theorem dX2_highestFloor_9 : decode cX2_highestFloor 9 = .ok (.if_icmp .ge 19, 3) := by decide +kernel
theorem dX2_highestFloor_12 : decode cX2_highestFloor 12 = .ok (.iload_n 1, 1) := by decide +kernel
theorem dX2_highestFloor_13 : decode cX2_highestFloor 13 = .ok (.aload_n 0, 1) := by decide +kernel
theorem dX2_highestFloor_14 : decode cX2_highestFloor 14 = .ok (.iload_n 2, 1) := by decide +kernel
theorem dX2_highestFloor_15 : decode cX2_highestFloor 15 = .ok (.invokevirtual 50, 3) := by decide +kernel
theorem dX2_highestFloor_18 : decode cX2_highestFloor 18 = .ok (.invokestatic 54, 3) := by decide +kernel
theorem dX2_highestFloor_21 : decode cX2_highestFloor 21 = .ok (.istore_n 1, 1) := by decide +kernel
theorem dX2_highestFloor_22 : decode cX2_highestFloor 22 = .ok (.iinc 2 1, 3) := by decide +kernel
theorem dX2_highestFloor_25 : decode cX2_highestFloor 25 = .ok (.goto (-21), 3) := by decide +kernel
theorem dX2_highestFloor_28 : decode cX2_highestFloor 28 = .ok (.iload_n 1, 1) := by decide +kernel
theorem dX2_highestFloor_29 : decode cX2_highestFloor 29 = .ok (.ireturn, 1) := by decide +kernel
set_option maxRecDepth 20000 in
theorem ggX2_wouldBeCaught_X2_floorOf : GoodIn wsX2_wouldBeCaught wsX2_floorOf := goodIn_r _ [8, 9, 10, 11, 12, 7, 13, 14, 15, 16, 17, 18, 19, 20, 21, 22, 23, 24, 25, 26, 27, 28] (by decide +kernel) (by decide +kernel)
set_option maxRecDepth 20000 in
theorem gX2_wouldBeCaught_X2_floorOf : GoodIn wsX2_wouldBeCaught (wsV RX2 50 RX2 yX2_floorOf wsX2_floorOf) := goodIn_app (goodIn_of _ (by decide +kernel)) ggX2_wouldBeCaught_X2_floorOf
theorem dX2_wouldBeCaught_0 : decode cX2_wouldBeCaught 0 = .ok (.aload_n 0, 1) := by decide +kernel
theorem dX2_wouldBeCaught_1 : decode cX2_wouldBeCaught 1 = .ok (.getfield 18, 3) := by decide +kernel
theorem dX2_wouldBeCaught_4 : decode cX2_wouldBeCaught 4 = .ok (.iload_n 1, 1) := by decide +kernel
theorem dX2_wouldBeCaught_5 : decode cX2_wouldBeCaught 5 = .ok (.iaload, 1) := by decide +kernel
theorem dX2_wouldBeCaught_6 : decode cX2_wouldBeCaught 6 = .ok (.iload_n 2, 1) := by decide +kernel
theorem dX2_wouldBeCaught_7 : decode cX2_wouldBeCaught 7 = .ok (.ishr, 1) := by decide +kernel
theorem dX2_wouldBeCaught_8 : decode cX2_wouldBeCaught 8 = .ok (.iconst 1, 1) := by decide +kernel
theorem dX2_wouldBeCaught_9 : decode cX2_wouldBeCaught 9 = .ok (.iand, 1) := by decide +kernel
theorem dX2_wouldBeCaught_10 : decode cX2_wouldBeCaught 10 = .ok (.iconst 1, 1) := by decide +kernel
theorem dX2_wouldBeCaught_11 : decode cX2_wouldBeCaught 11 = .ok (.if_icmp .ne 5, 3) := by decide +kernel
theorem dX2_wouldBeCaught_14 : decode cX2_wouldBeCaught 14 = .ok (.iconst 0, 1) := by decide +kernel
theorem dX2_wouldBeCaught_15 : decode cX2_wouldBeCaught 15 = .ok (.ireturn, 1) := by decide +kernel
theorem dX2_wouldBeCaught_16 : decode cX2_wouldBeCaught 16 = .ok (.iconst 0, 1) := by decide +kernel
theorem dX2_wouldBeCaught_17 : decode cX2_wouldBeCaught 17 = .ok (.istore_n 3, 1) := by decide +kernel
theorem dX2_wouldBeCaught_18 : decode cX2_wouldBeCaught 18 = .ok (.iload_n 3, 1) := by decide +kernel
theorem dX2_wouldBeCaught_19 : decode cX2_wouldBeCaught 19 = .ok (.aload_n 0, 1) := by decide +kernel
theorem dX2_wouldBeCaught_20 : decode cX2_wouldBeCaught 20 = .ok (.getfield 31, 3) := by decide +kernel
theorem dX2_wouldBeCaught_23 : decode cX2_wouldBeCaught 23 = .ok (.if_icmp .ge 39, 3) := by decide +kernel
theorem dX2_wouldBeCaught_26 : decode cX2_wouldBeCaught 26 = .ok (.iload_n 3, 1) := by decide +kernel
theorem dX2_wouldBeCaught_27 : decode cX2_wouldBeCaught 27 = .ok (.iload_n 1, 1) := by decide +kernel
theorem dX2_wouldBeCaught_28 : decode cX2_wouldBeCaught 28 = .ok (.if_icmp .eq 28, 3) := by decide +kernel
theorem dX2_wouldBeCaught_31 : decode cX2_wouldBeCaught 31 = .ok (.aload_n 0, 1) := by decide +kernel
theorem dX2_wouldBeCaught_32 : decode cX2_wouldBeCaught 32 = .ok (.getfield 21, 3) := by decide +kernel
theorem dX2_wouldBeCaught_35 : decode cX2_wouldBeCaught 35 = .ok (.iload_n 3, 1) := by decide +kernel
theorem dX2_wouldBeCaught_36 : decode cX2_wouldBeCaught 36 = .ok (.iaload, 1) := by decide +kernel
theorem dX2_wouldBeCaught_37 : decode cX2_wouldBeCaught 37 = .ok (.iload_n 1, 1) := by decide +kernel
theorem dX2_wouldBeCaught_38 : decode cX2_wouldBeCaught 38 = .ok (.if_icmp .ne 18, 3) := by decide +kernel
theorem dX2_wouldBeCaught_41 : decode cX2_wouldBeCaught 41 = .ok (.aload_n 0, 1) := by decide +kernel
theorem dX2_wouldBeCaught_42 : decode cX2_wouldBeCaught 42 = .ok (.iload_n 3, 1) := by decide +kernel
theorem dX2_wouldBeCaught_43 : decode cX2_wouldBeCaught 43 = .ok (.invokevirtual 50, 3) := by decide +kernel
theorem dX2_wouldBeCaught_46 : decode cX2_wouldBeCaught 46 = .ok (.aload_n 0, 1) := by decide +kernel
theorem dX2_wouldBeCaught_47 : decode cX2_wouldBeCaught 47 = .ok (.iload_n 1, 1) := by decide +kernel
theorem dX2_wouldBeCaught_48 : decode cX2_wouldBeCaught 48 = .ok (.invokevirtual 50, 3) := by decide +kernel
theorem dX2_wouldBeCaught_51 : decode cX2_wouldBeCaught 51 = .ok (.if_icmp .ne 5, 3) := by decide +kernel
theorem dX2_wouldBeCaught_54 : decode cX2_wouldBeCaught 54 = .ok (.iconst 1, 1) := by decide +kernel
theorem dX2_wouldBeCaught_55 : decode cX2_wouldBeCaught 55 = .ok (.ireturn, 1) := by decide +kernel
theorem dX2_wouldBeCaught_56 : decode cX2_wouldBeCaught 56 = .ok (.iinc 3 1, 3) := by decide +kernel
theorem dX2_wouldBeCaught_59 : decode cX2_wouldBeCaught 59 = .ok (.goto (-41), 3) := by decide +kernel
theorem dX2_wouldBeCaught_62 : decode cX2_wouldBeCaught 62 = .ok (.iconst 0, 1) := by decide +kernel
theorem dX2_wouldBeCaught_63 : decode cX2_wouldBeCaught 63 = .ok (.ireturn, 1) := by decide +kernel
set_option maxRecDepth 20000 in
theorem ggX2_hear_X2_wouldBeCaught : GoodIn wsX2_hear wsX2_wouldBeCaught := goodIn_r _ [7, 8, 9, 10, 11, 12, 13, 6, 14, 1, 15, 16, 17, 18, 19, 20, 21, 22, 23, 24, 25, 26, 27, 28, 29, 30, 31, 32, 33] (by decide +kernel) (by decide +kernel)
set_option maxRecDepth 20000 in
theorem gX2_hear_X2_wouldBeCaught : GoodIn wsX2_hear (wsV RX2 59 RX2 yX2_wouldBeCaught wsX2_wouldBeCaught) := goodIn_app (goodIn_of _ (by decide +kernel)) ggX2_hear_X2_wouldBeCaught
theorem dX2_hear_0 : decode cX2_hear 0 = .ok (.aload_n 0, 1) := by decide +kernel
theorem dX2_hear_1 : decode cX2_hear 1 = .ok (.iload_n 1, 1) := by decide +kernel
theorem dX2_hear_2 : decode cX2_hear 2 = .ok (.iload_n 2, 1) := by decide +kernel
theorem dX2_hear_3 : decode cX2_hear 3 = .ok (.invokevirtual 59, 3) := by decide +kernel
theorem dX2_hear_6 : decode cX2_hear 6 = .ok (.ifCond .eq 23, 3) := by decide +kernel
theorem dX2_hear_9 : decode cX2_hear 9 = .ok (.aload_n 0, 1) := by decide +kernel
theorem dX2_hear_10 : decode cX2_hear 10 = .ok (.getfield 24, 3) := by decide +kernel
theorem dX2_hear_13 : decode cX2_hear 13 = .ok (.iload_n 1, 1) := by decide +kernel
theorem dX2_hear_14 : decode cX2_hear 14 = .ok (.iconst 0, 1) := by decide +kernel
theorem dX2_hear_15 : decode cX2_hear 15 = .ok (.iastore, 1) := by decide +kernel
theorem dX2_hear_16 : decode cX2_hear 16 = .ok (.aload_n 0, 1) := by decide +kernel
theorem dX2_hear_17 : decode cX2_hear 17 = .ok (.dup, 1) := by decide +kernel
theorem dX2_hear_18 : decode cX2_hear 18 = .ok (.getfield 34, 3) := by decide +kernel
theorem dX2_hear_21 : decode cX2_hear 21 = .ok (.iconst 1, 1) := by decide +kernel
theorem dX2_hear_22 : decode cX2_hear 22 = .ok (.iadd, 1) := by decide +kernel
theorem dX2_hear_23 : decode cX2_hear 23 = .ok (.putfield 34, 3) := by decide +kernel
theorem dX2_hear_26 : decode cX2_hear 26 = .ok (.goto 15, 3) := by decide +kernel
theorem dX2_hear_29 : decode cX2_hear 29 = .ok (.aload_n 0, 1) := by decide +kernel
theorem dX2_hear_30 : decode cX2_hear 30 = .ok (.getfield 24, 3) := by decide +kernel
theorem dX2_hear_33 : decode cX2_hear 33 = .ok (.iload_n 1, 1) := by decide +kernel
theorem dX2_hear_34 : decode cX2_hear 34 = .ok (.dup2, 1) := by decide +kernel
theorem dX2_hear_35 : decode cX2_hear 35 = .ok (.iaload, 1) := by decide +kernel
theorem dX2_hear_36 : decode cX2_hear 36 = .ok (.iconst 1, 1) := by decide +kernel
theorem dX2_hear_37 : decode cX2_hear 37 = .ok (.iload_n 2, 1) := by decide +kernel
theorem dX2_hear_38 : decode cX2_hear 38 = .ok (.ishl, 1) := by decide +kernel
theorem dX2_hear_39 : decode cX2_hear 39 = .ok (.ior, 1) := by decide +kernel
theorem dX2_hear_40 : decode cX2_hear 40 = .ok (.iastore, 1) := by decide +kernel
theorem dX2_hear_41 : decode cX2_hear 41 = .ok (.return_, 1) := by decide +kernel
set_option maxRecDepth 20000 in
theorem ggX3_init_X0_init : GoodIn wsX3_init wsX0_init := goodIn_r _ [22, 23, 2, 3, 24, 12, 25, 49, 50, 51] (by decide +kernel) (by decide +kernel)
set_option maxRecDepth 20000 in
theorem gX3_init_X0_init : GoodIn wsX3_init (wsX0_init) := ggX3_init_X0_init
set_option maxRecDepth 20000 in
theorem ggX3_init_X1_init : GoodIn wsX3_init wsX1_init := goodIn_r _ [28, 29, 2, 3, 12, 30, 52, 53, 54, 55] (by decide +kernel) (by decide +kernel)
set_option maxRecDepth 20000 in
theorem gX3_init_X1_init : GoodIn wsX3_init (wsX1_init) := ggX3_init_X1_init
set_option maxRecDepth 20000 in
theorem ggX3_init_X2_init : GoodIn wsX3_init wsX2_init := goodIn_r _ [33, 34, 2, 3, 12, 35, 36, 37, 38, 39, 56, 57, 58, 59, 60, 61, 62, 63] (by decide +kernel) (by decide +kernel)
set_option maxRecDepth 20000 in
theorem gX3_init_X2_init : GoodIn wsX3_init (wsX2_init) := ggX3_init_X2_init
theorem dX3_init_0 : decode cX3_init 0 = .ok (.aload_n 0, 1) := by decide +kernel
theorem dX3_init_1 : decode cX3_init 1 = .ok (.invokespecial 3, 3) := by decide +kernel
theorem dX3_init_4 : decode cX3_init 4 = .ok (.aload_n 0, 1) := by decide +kernel
theorem dX3_init_5 : decode cX3_init 5 = .ok (.iconst 4, 1) := by decide +kernel
theorem dX3_init_6 : decode cX3_init 6 = .ok (.anewarray 11, 3) := by decide +kernel
theorem dX3_init_9 : decode cX3_init 9 = .ok (.putfield 13, 3) := by decide +kernel
theorem dX3_init_12 : decode cX3_init 12 = .ok (.iconst 0, 1) := by decide +kernel
theorem dX3_init_13 : decode cX3_init 13 = .ok (.istore_n 1, 1) := by decide +kernel
theorem dX3_init_14 : decode cX3_init 14 = .ok (.iload_n 1, 1) := by decide +kernel
theorem dX3_init_15 : decode cX3_init 15 = .ok (.iconst 4, 1) := by decide +kernel
theorem dX3_init_16 : decode cX3_init 16 = .ok (.if_icmp .ge 22, 3) := by decide +kernel
theorem dX3_init_19 : decode cX3_init 19 = .ok (.aload_n 0, 1) := by decide +kernel
theorem dX3_init_20 : decode cX3_init 20 = .ok (.getfield 13, 3) := by decide +kernel
theorem dX3_init_23 : decode cX3_init 23 = .ok (.iload_n 1, 1) := by decide +kernel
theorem dX3_init_24 : decode cX3_init 24 = .ok (.new 11, 3) := by decide +kernel
theorem dX3_init_27 : decode cX3_init 27 = .ok (.dup, 1) := by decide +kernel
theorem dX3_init_28 : decode cX3_init 28 = .ok (.invokespecial 17, 3) := by decide +kernel
theorem dX3_init_31 : decode cX3_init 31 = .ok (.aastore, 1) := by decide +kernel
theorem dX3_init_32 : decode cX3_init 32 = .ok (.iinc 1 1, 3) := by decide +kernel
theorem dX3_init_35 : decode cX3_init 35 = .ok (.goto (-21), 3) := by decide +kernel
theorem dX3_init_38 : decode cX3_init 38 = .ok (.aload_n 0, 1) := by decide +kernel
theorem dX3_init_39 : decode cX3_init 39 = .ok (.new 18, 3) := by decide +kernel
theorem dX3_init_42 : decode cX3_init 42 = .ok (.dup, 1) := by decide +kernel
