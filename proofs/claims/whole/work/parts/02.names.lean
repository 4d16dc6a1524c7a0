theorem goodIn_r {big : List Cond} (ws : List Cond) (ps : List Nat) (hp : ws = ps.filterMap (fun i => big[i]?)) (h : ws.all goodWord = true) : GoodIn big ws := by
  intro w hw
  have h1 := List.all_eq_true.mp h w hw
  rw [hp] at hw
  obtain ⟨i, -, hi⟩ := List.mem_filterMap.mp hw
  have hm : w ∈ big := by first | exact List.mem_of_getElem? hi | exact List.getElem?_mem hi
  exact ⟨hm, good_of_word h1⟩
theorem goodIn_app {big a b : List Cond} (ha : GoodIn big a) (hb : GoodIn big b) : GoodIn big (a ++ b) := fun w h => (List.mem_append.mp h).elim (ha w) (hb w)
theorem goodIn_ca {big a b : List Cond} {c : Cond} (ha : GoodIn big (c :: a)) (hb : GoodIn big b) : GoodIn big (c :: (a ++ b)) := fun w h => (List.mem_cons.mp h).elim (fun e => ha w (List.mem_cons.mpr (Or.inl e))) (fun h => (List.mem_append.mp h).elim (fun h => ha w (List.mem_cons.mpr (Or.inr h))) (hb w))
theorem goodIn_sub {big ws : List Cond} (hm : ∀ w ∈ ws, w ∈ big) (h : ws.all goodWord = true) : GoodIn big ws := fun w hw => ⟨hm w hw, good_of_word (List.all_eq_true.mp h w hw)⟩
def RX0 : String := "TallowHours$Acts"
def TX0 : u_T := fun k => match k with
  | 0 => ("TallowHours$Acts", "cells", "[I", true)
  | 1 => ("TallowHours$Acts", "first", "I", false)
  | _ => ("TallowHours$Acts", "size", "I", false)
def tyX0 : Nat → FieldType := fun k => match k with
  | 0 => .array .int
  | 1 => .int
  | _ => .int
abbrev wsX00 : List Cond := u_ws RX0 TX0 3
theorem nmX0 : ∀ a, a < 3 → ∀ b, b < 3 → a ≠ b → (TX0 a).2.1 ≠ (TX0 b).2.1 := by decide +kernel
theorem tyX0_ok : ∀ k, k < 3 → parseFieldDescriptor (TX0 k).2.2.1 = some (tyX0 k) := by decide +kernel
abbrev cX0_init : ByteArray := prog_2_method_1_code
def yX0_init : MethodName := ⟨RX0, "<init>", "()V"⟩
abbrev cX0_clear : ByteArray := prog_2_method_2_code
def yX0_clear : MethodName := ⟨RX0, "clear", "()V"⟩
abbrev cX0_add : ByteArray := prog_2_method_3_code
def yX0_add : MethodName := ⟨RX0, "add", "(LTallowHours$Burning;)V"⟩
abbrev cX0_takeBack : ByteArray := prog_2_method_4_code
def yX0_takeBack : MethodName := ⟨RX0, "takeBack", "(LTallowHours$Burning;)V"⟩
def RX1 : String := "TallowHours$Box"
def TX1 : u_T := fun k => match k with
  | 0 => ("TallowHours$Box", "seen", "[I", true)
  | _ => ("TallowHours$Box", "size", "I", false)
def tyX1 : Nat → FieldType := fun k => match k with
  | 0 => .array .int
  | _ => .int
abbrev wsX10 : List Cond := u_ws RX1 TX1 2
theorem nmX1 : ∀ a, a < 2 → ∀ b, b < 2 → a ≠ b → (TX1 a).2.1 ≠ (TX1 b).2.1 := by decide +kernel
theorem tyX1_ok : ∀ k, k < 2 → parseFieldDescriptor (TX1 k).2.2.1 = some (tyX1 k) := by decide +kernel
abbrev cX1_init : ByteArray := prog_3_method_1_code
def yX1_init : MethodName := ⟨RX1, "<init>", "()V"⟩
abbrev cX1_add : ByteArray := prog_3_method_2_code
def yX1_add : MethodName := ⟨RX1, "add", "(I)I"⟩
abbrev cX1_clear : ByteArray := prog_3_method_3_code
def yX1_clear : MethodName := ⟨RX1, "clear", "()I"⟩
abbrev cX1_origins : ByteArray := prog_3_method_4_code
def yX1_origins : MethodName := ⟨RX1, "origins", "(LTallowHours$Party;I)I"⟩
abbrev cX1_canBeFrom : ByteArray := prog_3_method_5_code
def yX1_canBeFrom : MethodName := ⟨RX1, "canBeFrom", "(LTallowHours$Party;I)Z"⟩
def RX2 : String := "TallowHours$Burning"
def TX2 : u_T := fun k => match k with
  | 0 => ("TallowHours$Burning", "place", "[I", true)
  | 1 => ("TallowHours$Burning", "left", "[I", true)
  | 2 => ("TallowHours$Burning", "flame", "[I", true)
  | 3 => ("TallowHours$Burning", "had", "[I", true)
  | 4 => ("TallowHours$Burning", "cost", "I", false)
  | _ => ("TallowHours$Burning", "steps", "I", false)
def tyX2 : Nat → FieldType := fun k => match k with
  | 0 => .array .int
  | 1 => .array .int
  | 2 => .array .int
  | 3 => .array .int
  | 4 => .int
  | _ => .int
abbrev wsX20 : List Cond := u_ws RX2 TX2 6
theorem nmX2 : ∀ a, a < 6 → ∀ b, b < 6 → a ≠ b → (TX2 a).2.1 ≠ (TX2 b).2.1 := by decide +kernel
theorem tyX2_ok : ∀ k, k < 6 → parseFieldDescriptor (TX2 k).2.2.1 = some (tyX2 k) := by decide +kernel
abbrev cX2_init : ByteArray := prog_4_method_1_code
def yX2_init : MethodName := ⟨RX2, "<init>", "()V"⟩
abbrev cX2_begin : ByteArray := prog_4_method_2_code
def yX2_begin : MethodName := ⟨RX2, "begin", "(LTallowHours$Party;)V"⟩
abbrev cX2_copy : ByteArray := prog_4_method_3_code
def yX2_copy : MethodName := ⟨RX2, "copy", "(LTallowHours$Burning;)V"⟩
abbrev cX2_saveTo : ByteArray := prog_4_method_4_code
def yX2_saveTo : MethodName := ⟨RX2, "saveTo", "([II)V"⟩
abbrev cX2_loadFrom : ByteArray := prog_4_method_5_code
def yX2_loadFrom : MethodName := ⟨RX2, "loadFrom", "([II)V"⟩
abbrev cX2_lightIfCan : ByteArray := prog_4_method_6_code
def yX2_lightIfCan : MethodName := ⟨RX2, "lightIfCan", "(LTallowHours$Party;I)Z"⟩
abbrev cX2_goBy : ByteArray := prog_4_method_7_code
def yX2_goBy : MethodName := ⟨RX2, "goBy", "(LTallowHours$Party;)I"⟩
abbrev cX2_burnInch : ByteArray := prog_4_method_8_code
def yX2_burnInch : MethodName := ⟨RX2, "burnInch", "(LTallowHours$Party;I)V"⟩
abbrev cX2_giftBit : ByteArray := prog_4_method_9_code
def yX2_giftBit : MethodName := ⟨RX2, "giftBit", "(LTallowHours$Party;II)I"⟩
abbrev cX2_withFlame : ByteArray := prog_4_method_10_code
def yX2_withFlame : MethodName := ⟨RX2, "withFlame", "(LTallowHours$Party;I)I"⟩
abbrev cX2_isContent : ByteArray := prog_4_method_11_code
def yX2_isContent : MethodName := ⟨RX2, "isContent", "(LTallowHours$Party;I)Z"⟩
abbrev cX2_contentGuests : ByteArray := prog_4_method_12_code
def yX2_contentGuests : MethodName := ⟨RX2, "contentGuests", "(LTallowHours$Party;)I"⟩
def RX3 : String := "TallowHours$Party"
def TX3 : u_T := fun k => match k with
  | 0 => ("TallowHours$Party", "evening", "[I", true)
  | 1 => ("TallowHours$Party", "start", "[I", true)
  | 2 => ("TallowHours$Party", "inches", "[I", true)
  | 3 => ("TallowHours$Party", "price", "[I", true)
  | 4 => ("TallowHours$Party", "wish", "[I", true)
  | 5 => ("TallowHours$Party", "wanted", "[I", true)
  | 6 => ("TallowHours$Party", "comes", "[I", true)
  | 7 => ("TallowHours$Party", "goes", "[I", true)
  | 8 => ("TallowHours$Party", "moments", "I", false)
  | 9 => ("TallowHours$Party", "candles", "I", false)
  | _ => ("TallowHours$Party", "guests", "I", false)
def tyX3 : Nat → FieldType := fun k => match k with
  | 0 => .array .int
  | 1 => .array .int
  | 2 => .array .int
  | 3 => .array .int
  | 4 => .array .int
  | 5 => .array .int
  | 6 => .array .int
  | 7 => .array .int
  | 8 => .int
  | 9 => .int
  | _ => .int
abbrev wsX30 : List Cond := u_ws RX3 TX3 11
theorem nmX3 : ∀ a, a < 11 → ∀ b, b < 11 → a ≠ b → (TX3 a).2.1 ≠ (TX3 b).2.1 := by decide +kernel
theorem tyX3_ok : ∀ k, k < 11 → parseFieldDescriptor (TX3 k).2.2.1 = some (tyX3 k) := by decide +kernel
abbrev cX3_init : ByteArray := prog_5_method_1_code
def yX3_init : MethodName := ⟨RX3, "<init>", "()V"⟩
abbrev cX3_clear : ByteArray := prog_5_method_2_code
def yX3_clear : MethodName := ⟨RX3, "clear", "()V"⟩
abbrev cX3_hasCandle : ByteArray := prog_5_method_3_code
def yX3_hasCandle : MethodName := ⟨RX3, "hasCandle", "(I)Z"⟩
abbrev cX3_hasGuest : ByteArray := prog_5_method_4_code
def yX3_hasGuest : MethodName := ⟨RX3, "hasGuest", "(I)Z"⟩
abbrev cX3_giftAt : ByteArray := prog_5_method_5_code
def yX3_giftAt : MethodName := ⟨RX3, "giftAt", "(I)I"⟩
def RX4 : String := "TallowHours$Planner"
def TX4 : u_T := fun k => match k with
  | 0 => ("TallowHours$Planner", "gives", "[J", true)
  | 1 => ("TallowHours$Planner", "price", "[I", true)
  | 2 => ("TallowHours$Planner", "lastFigure", "[I", true)
  | 3 => ("TallowHours$Planner", "takes", "[J", true)
  | 4 => ("TallowHours$Planner", "lacks", "[I", true)
  | 5 => ("TallowHours$Planner", "figures", "[I", true)
  | 6 => ("TallowHours$Planner", "chosen", "[I", true)
  | 7 => ("TallowHours$Planner", "cheapest", "[I", true)
  | 8 => ("TallowHours$Planner", "guests", "I", false)
  | 9 => ("TallowHours$Planner", "all", "I", false)
  | 10 => ("TallowHours$Planner", "reached", "I", false)
  | _ => ("TallowHours$Planner", "fresh", "Z", false)
def tyX4 : Nat → FieldType := fun k => match k with
  | 0 => .array .long
  | 1 => .array .int
  | 2 => .array .int
  | 3 => .array .long
  | 4 => .array .int
  | 5 => .array .int
  | 6 => .array .int
  | 7 => .array .int
  | 8 => .int
  | 9 => .int
  | 10 => .int
  | _ => .boolean
abbrev wsX40 : List Cond := u_ws RX4 TX4 12
theorem nmX4 : ∀ a, a < 12 → ∀ b, b < 12 → a ≠ b → (TX4 a).2.1 ≠ (TX4 b).2.1 := by decide +kernel
theorem tyX4_ok : ∀ k, k < 12 → parseFieldDescriptor (TX4 k).2.2.1 = some (tyX4 k) := by decide +kernel
abbrev cX4_init : ByteArray := prog_6_method_1_code
def yX4_init : MethodName := ⟨RX4, "<init>", "()V"⟩
abbrev cX4_work : ByteArray := prog_6_method_2_code
def yX4_work : MethodName := ⟨RX4, "work", "(LTallowHours$Party;LTallowHours$Burning;)V"⟩
abbrev cX4_layGuest : ByteArray := prog_6_method_3_code
def yX4_layGuest : MethodName := ⟨RX4, "layGuest", "(LTallowHours$Party;LTallowHours$Burning;I)V"⟩
abbrev cX4_layCandle : ByteArray := prog_6_method_4_code
def yX4_layCandle : MethodName := ⟨RX4, "layCandle", "(LTallowHours$Party;LTallowHours$Burning;I)J"⟩
abbrev cX4_tryCandle : ByteArray := prog_6_method_5_code
def yX4_tryCandle : MethodName := ⟨RX4, "tryCandle", "(LTallowHours$Planner;IJI)V"⟩
abbrev cX4_weigh : ByteArray := prog_6_method_6_code
def yX4_weigh : MethodName := ⟨RX4, "weigh", "(JI)V"⟩
abbrev cX4_spreadToFewerGuests : ByteArray := prog_6_method_7_code
def yX4_spreadToFewerGuests : MethodName := ⟨RX4, "spreadToFewerGuests", "()V"⟩
abbrev cX4_costForAll : ByteArray := prog_6_method_8_code
def yX4_costForAll : MethodName := ⟨RX4, "costForAll", "()I"⟩
abbrev cX4_sharesOf : ByteArray := prog_6_method_9_code
def yX4_sharesOf : MethodName := ⟨RX4, "sharesOf", "(I)I"⟩
def RX5 : String := "TallowHours$Saw"
def TX5 : u_T := fun k => match k with
  | _ => ("TallowHours$Saw", "least", "[I", true)
def tyX5 : Nat → FieldType := fun k => match k with
  | _ => .array .int
abbrev wsX50 : List Cond := u_ws RX5 TX5 1
theorem nmX5 : ∀ a, a < 1 → ∀ b, b < 1 → a ≠ b → (TX5 a).2.1 ≠ (TX5 b).2.1 := by decide +kernel
theorem tyX5_ok : ∀ k, k < 1 → parseFieldDescriptor (TX5 k).2.2.1 = some (tyX5 k) := by decide +kernel
abbrev cX5_init : ByteArray := prog_7_method_1_code
def yX5_init : MethodName := ⟨RX5, "<init>", "()V"⟩
abbrev cX5_fewest : ByteArray := prog_7_method_2_code
def yX5_fewest : MethodName := ⟨RX5, "fewest", "(III)I"⟩
abbrev cX5_withOrder : ByteArray := prog_7_method_3_code
def yX5_withOrder : MethodName := ⟨RX5, "withOrder", "(III)I"⟩
def RX6 : String := "TallowHours$Text"
def TX6 : u_T := fun k => match k with
  | 0 => ("TallowHours$Text", "letters", "[I", true)
  | _ => ("TallowHours$Text", "length", "I", false)
def tyX6 : Nat → FieldType := fun k => match k with
  | 0 => .array .int
  | _ => .int
abbrev wsX60 : List Cond := u_ws RX6 TX6 2
theorem nmX6 : ∀ a, a < 2 → ∀ b, b < 2 → a ≠ b → (TX6 a).2.1 ≠ (TX6 b).2.1 := by decide +kernel
theorem tyX6_ok : ∀ k, k < 2 → parseFieldDescriptor (TX6 k).2.2.1 = some (tyX6 k) := by decide +kernel
abbrev cX6_init : ByteArray := prog_8_method_1_code
def yX6_init : MethodName := ⟨RX6, "<init>", "()V"⟩
abbrev cX6_append : ByteArray := prog_8_method_2_code
def yX6_append : MethodName := ⟨RX6, "append", "(I)I"⟩
abbrev cX6_clear : ByteArray := prog_8_method_3_code
def yX6_clear : MethodName := ⟨RX6, "clear", "()I"⟩
abbrev cX6_readInto : ByteArray := prog_8_method_4_code
def yX6_readInto : MethodName := ⟨RX6, "readInto", "(LTallowHours$Party;)I"⟩
abbrev cX6_readPart : ByteArray := prog_8_method_5_code
def yX6_readPart : MethodName := ⟨RX6, "readPart", "(ILTallowHours$Party;)I"⟩
abbrev cX6_readCandle : ByteArray := prog_8_method_6_code
def yX6_readCandle : MethodName := ⟨RX6, "readCandle", "(ILTallowHours$Party;)I"⟩
abbrev cX6_readGuest : ByteArray := prog_8_method_7_code
def yX6_readGuest : MethodName := ⟨RX6, "readGuest", "(ILTallowHours$Party;)I"⟩
abbrev cX6_letterAt : ByteArray := prog_8_method_8_code
def yX6_letterAt : MethodName := ⟨RX6, "letterAt", "(I)I"⟩
abbrev cX6_momentAt : ByteArray := prog_8_method_9_code
def yX6_momentAt : MethodName := ⟨RX6, "momentAt", "(I)I"⟩
abbrev cX6_figureAt : ByteArray := prog_8_method_10_code
def yX6_figureAt : MethodName := ⟨RX6, "figureAt", "(III)I"⟩
def RX7 : String := "TallowHours"
def TX7 : u_T := fun k => match k with
  | 0 => ("TallowHours", "text", "LTallowHours$Text;", true)
  | 1 => ("TallowHours", "now", "LTallowHours$Burning;", true)
  | 2 => ("TallowHours", "trial", "LTallowHours$Burning;", true)
  | 3 => ("TallowHours", "acts", "LTallowHours$Acts;", true)
  | 4 => ("TallowHours", "planner", "LTallowHours$Planner;", true)
  | 5 => ("TallowHours", "box", "LTallowHours$Box;", true)
  | 6 => ("TallowHours", "saw", "LTallowHours$Saw;", true)
  | 7 => ("TallowHours", "slotCells", "[I", true)
  | 8 => ("TallowHours", "slotFilled", "[Z", true)
  | 9 => ("TallowHours", "told", "LTallowHours$Party;", false)
  | 10 => ("TallowHours", "draft", "LTallowHours$Party;", false)
  | _ => ("TallowHours", "seedNow", "J", false)
def tyX7 : Nat → FieldType := fun k => match k with
  | 0 => .object "TallowHours$Text"
  | 1 => .object "TallowHours$Burning"
  | 2 => .object "TallowHours$Burning"
  | 3 => .object "TallowHours$Acts"
  | 4 => .object "TallowHours$Planner"
  | 5 => .object "TallowHours$Box"
  | 6 => .object "TallowHours$Saw"
  | 7 => .array .int
  | 8 => .array .boolean
  | 9 => .object "TallowHours$Party"
  | 10 => .object "TallowHours$Party"
  | _ => .long
abbrev wsX70 : List Cond := u_ws RX7 TX7 12
theorem nmX7 : ∀ a, a < 12 → ∀ b, b < 12 → a ≠ b → (TX7 a).2.1 ≠ (TX7 b).2.1 := by decide +kernel
theorem tyX7_ok : ∀ k, k < 12 → parseFieldDescriptor (TX7 k).2.2.1 = some (tyX7 k) := by decide +kernel
abbrev cX7_init : ByteArray := prog_1_method_1_code
def yX7_init : MethodName := ⟨RX7, "<init>", "()V"⟩
abbrev cX7_write : ByteArray := prog_1_method_2_code
def yX7_write : MethodName := ⟨RX7, "write", "(I)I"⟩
abbrev cX7_wipe : ByteArray := prog_1_method_3_code
def yX7_wipe : MethodName := ⟨RX7, "wipe", "()I"⟩
abbrev cX7_fault : ByteArray := prog_1_method_4_code
def yX7_fault : MethodName := ⟨RX7, "fault", "()I"⟩
abbrev cX7_party : ByteArray := prog_1_method_5_code
def yX7_party : MethodName := ⟨RX7, "party", "()I"⟩
abbrev cX7_moment : ByteArray := prog_1_method_6_code
def yX7_moment : MethodName := ⟨RX7, "moment", "(I)I"⟩
abbrev cX7_candle : ByteArray := prog_1_method_7_code
def yX7_candle : MethodName := ⟨RX7, "candle", "(II)I"⟩
abbrev cX7_guest : ByteArray := prog_1_method_8_code
def yX7_guest : MethodName := ⟨RX7, "guest", "(II)I"⟩
abbrev cX7_light : ByteArray := prog_1_method_9_code
def yX7_light : MethodName := ⟨RX7, "light", "(I)I"⟩
abbrev cX7_out : ByteArray := prog_1_method_10_code
def yX7_out : MethodName := ⟨RX7, "out", "(I)I"⟩
abbrev cX7_trim : ByteArray := prog_1_method_11_code
def yX7_trim : MethodName := ⟨RX7, "trim", "(II)I"⟩
abbrev cX7_step : ByteArray := prog_1_method_12_code
def yX7_step : MethodName := ⟨RX7, "step", "()I"⟩
abbrev cX7_undo : ByteArray := prog_1_method_13_code
def yX7_undo : MethodName := ⟨RX7, "undo", "()I"⟩
abbrev cX7_rememberAct : ByteArray := prog_1_method_14_code
def yX7_rememberAct : MethodName := ⟨RX7, "rememberAct", "()V"⟩
abbrev cX7_plan : ByteArray := prog_1_method_15_code
def yX7_plan : MethodName := ⟨RX7, "plan", "()I"⟩
abbrev cX7_planOf : ByteArray := prog_1_method_16_code
def yX7_planOf : MethodName := ⟨RX7, "planOf", "(I)I"⟩
abbrev cX7_bars : ByteArray := prog_1_method_17_code
def yX7_bars : MethodName := ⟨RX7, "bars", "()I"⟩
abbrev cX7_share : ByteArray := prog_1_method_18_code
def yX7_share : MethodName := ⟨RX7, "share", "(IZ)I"⟩
abbrev cX7_table : ByteArray := prog_1_method_19_code
def yX7_table : MethodName := ⟨RX7, "table", "(II)I"⟩
abbrev cX7_pairs : ByteArray := prog_1_method_20_code
def yX7_pairs : MethodName := ⟨RX7, "pairs", "()I"⟩
abbrev cX7_judge : ByteArray := prog_1_method_21_code
def yX7_judge : MethodName := ⟨RX7, "judge", "(II)I"⟩
abbrev cX7_goesWell : ByteArray := prog_1_method_22_code
def yX7_goesWell : MethodName := ⟨RX7, "goesWell", "(I)Z"⟩
abbrev cX7_mostOfPairs : ByteArray := prog_1_method_23_code
def yX7_mostOfPairs : MethodName := ⟨RX7, "mostOfPairs", "(I)I"⟩
abbrev cX7_giftsTogether : ByteArray := prog_1_method_24_code
def yX7_giftsTogether : MethodName := ⟨RX7, "giftsTogether", "(II)I"⟩
abbrev cX7_stub : ByteArray := prog_1_method_25_code
def yX7_stub : MethodName := ⟨RX7, "stub", "(IIZ)I"⟩
abbrev cX7_candlesEndingSo : ByteArray := prog_1_method_26_code
def yX7_candlesEndingSo : MethodName := ⟨RX7, "candlesEndingSo", "(II)I"⟩
abbrev cX7_placesEndingSo : ByteArray := prog_1_method_27_code
def yX7_placesEndingSo : MethodName := ⟨RX7, "placesEndingSo", "(II)I"⟩
abbrev cX7_endsSo : ByteArray := prog_1_method_28_code
def yX7_endsSo : MethodName := ⟨RX7, "endsSo", "(III)Z"⟩
abbrev cX7_see : ByteArray := prog_1_method_29_code
def yX7_see : MethodName := ⟨RX7, "see", "(I)I"⟩
abbrev cX7_unsee : ByteArray := prog_1_method_30_code
def yX7_unsee : MethodName := ⟨RX7, "unsee", "()I"⟩
abbrev cX7_from : ByteArray := prog_1_method_31_code
def yX7_from : MethodName := ⟨RX7, "from", "(I)I"⟩
abbrev cX7_next : ByteArray := prog_1_method_32_code
def yX7_next : MethodName := ⟨RX7, "next", "(IIZ)I"⟩
abbrev cX7_cut : ByteArray := prog_1_method_33_code
def yX7_cut : MethodName := ⟨RX7, "cut", "(III)I"⟩
abbrev cX7_draught : ByteArray := prog_1_method_34_code
def yX7_draught : MethodName := ⟨RX7, "draught", "(IIIZ)I"⟩
abbrev cX7_seed : ByteArray := prog_1_method_35_code
def yX7_seed : MethodName := ⟨RX7, "seed", "(J)J"⟩
abbrev cX7_night : ByteArray := prog_1_method_36_code
def yX7_night : MethodName := ⟨RX7, "night", "(I)I"⟩
abbrev cX7_keep : ByteArray := prog_1_method_37_code
def yX7_keep : MethodName := ⟨RX7, "keep", "(I)I"⟩
abbrev cX7_again : ByteArray := prog_1_method_38_code
def yX7_again : MethodName := ⟨RX7, "again", "(I)I"⟩
abbrev cX7_count : ByteArray := prog_1_method_39_code
def yX7_count : MethodName := ⟨RX7, "count", "(I)I"⟩
abbrev cX7_figure : ByteArray := prog_1_method_40_code
def yX7_figure : MethodName := ⟨RX7, "figure", "(III)I"⟩
abbrev cX7_fraction : ByteArray := prog_1_method_41_code
def yX7_fraction : MethodName := ⟨RX7, "fraction", "(IIZ)I"⟩
def RX8 : String := "TallowHoursModel"
def TX8 : u_T := fun k => match k with
  | 0 => ("TallowHoursModel", "moments", "I", false)
  | 1 => ("TallowHoursModel", "candles", "I", false)
  | 2 => ("TallowHoursModel", "guests", "I", false)
  | 3 => ("TallowHoursModel", "evening", "[I", true)
  | 4 => ("TallowHoursModel", "first", "[I", true)
  | 5 => ("TallowHoursModel", "inches", "[I", true)
  | 6 => ("TallowHoursModel", "price", "[I", true)
  | 7 => ("TallowHoursModel", "wants", "[I", true)
  | 8 => ("TallowHoursModel", "needs", "[I", true)
  | 9 => ("TallowHoursModel", "comes", "[I", true)
  | 10 => ("TallowHoursModel", "goes", "[I", true)
  | 11 => ("TallowHoursModel", "now", "[I", true)
  | 12 => ("TallowHoursModel", "text", "[I", true)
  | 13 => ("TallowHoursModel", "length", "I", false)
  | 14 => ("TallowHoursModel", "at", "I", false)
  | 15 => ("TallowHoursModel", "faultAt", "I", false)
  | 16 => ("TallowHoursModel", "readMoments", "I", false)
  | 17 => ("TallowHoursModel", "readCandles", "I", false)
  | 18 => ("TallowHoursModel", "readGuests", "I", false)
  | 19 => ("TallowHoursModel", "readEvening", "[I", true)
  | 20 => ("TallowHoursModel", "readCandle", "[I", true)
  | 21 => ("TallowHoursModel", "readGuest", "[I", true)
  | 22 => ("TallowHoursModel", "acts", "I", false)
  | 23 => ("TallowHoursModel", "nextAct", "I", false)
  | 24 => ("TallowHoursModel", "row", "[I", true)
  | 25 => ("TallowHoursModel", "bestPlan", "[I", true)
  | 26 => ("TallowHoursModel", "bestCost", "[I", true)
  | 27 => ("TallowHoursModel", "most", "[I", true)
  | 28 => ("TallowHoursModel", "seen", "I", false)
  | 29 => ("TallowHoursModel", "sights", "[I", true)
  | 30 => ("TallowHoursModel", "long1", "[I", true)
  | 31 => ("TallowHoursModel", "seed", "J", false)
  | 32 => ("TallowHoursModel", "isKept", "[Z", true)
  | _ => ("TallowHoursModel", "kept", "[I", true)
def tyX8 : Nat → FieldType := fun k => match k with
  | 0 => .int
  | 1 => .int
  | 2 => .int
  | 3 => .array .int
  | 4 => .array .int
  | 5 => .array .int
  | 6 => .array .int
  | 7 => .array .int
  | 8 => .array .int
  | 9 => .array .int
  | 10 => .array .int
  | 11 => .array .int
  | 12 => .array .int
  | 13 => .int
  | 14 => .int
  | 15 => .int
  | 16 => .int
  | 17 => .int
  | 18 => .int
  | 19 => .array .int
  | 20 => .array .int
  | 21 => .array .int
  | 22 => .int
  | 23 => .int
  | 24 => .array .int
  | 25 => .array .int
  | 26 => .array .int
  | 27 => .array .int
  | 28 => .int
  | 29 => .array .int
  | 30 => .array .int
  | 31 => .long
  | 32 => .array .boolean
  | _ => .array .int
abbrev wsX80 : List Cond := u_ws RX8 TX8 34
theorem nmX8 : ∀ a, a < 34 → ∀ b, b < 34 → a ≠ b → (TX8 a).2.1 ≠ (TX8 b).2.1 := by decide +kernel
theorem tyX8_ok : ∀ k, k < 34 → parseFieldDescriptor (TX8 k).2.2.1 = some (tyX8 k) := by decide +kernel
abbrev cX8_init : ByteArray := prog_10_method_1_code
def yX8_init : MethodName := ⟨RX8, "<init>", "()V"⟩
abbrev cX8_in : ByteArray := prog_10_method_3_code
def yX8_in : MethodName := ⟨RX8, "in", "(JJJ)Z"⟩
abbrev cX8_has : ByteArray := prog_10_method_4_code
def yX8_has : MethodName := ⟨RX8, "has", "(II)Z"⟩
abbrev cX8_write : ByteArray := prog_10_method_5_code
def yX8_write : MethodName := ⟨RX8, "write", "(I)I"⟩
abbrev cX8_wipe : ByteArray := prog_10_method_6_code
def yX8_wipe : MethodName := ⟨RX8, "wipe", "()I"⟩
abbrev cX8_figure : ByteArray := prog_10_method_7_code
def yX8_figure : MethodName := ⟨RX8, "figure", "(III)I"⟩
abbrev cX8_giftOf : ByteArray := prog_10_method_8_code
def yX8_giftOf : MethodName := ⟨RX8, "giftOf", "(I)I"⟩
abbrev cX8_readText : ByteArray := prog_10_method_9_code
def yX8_readText : MethodName := ⟨RX8, "readText", "()I"⟩
abbrev cX8_readPart : ByteArray := prog_10_method_10_code
def yX8_readPart : MethodName := ⟨RX8, "readPart", "(I)V"⟩
abbrev cX8_fault : ByteArray := prog_10_method_11_code
def yX8_fault : MethodName := ⟨RX8, "fault", "()I"⟩
abbrev cX8_party : ByteArray := prog_10_method_12_code
def yX8_party : MethodName := ⟨RX8, "party", "()I"⟩
abbrev cX8_moment : ByteArray := prog_10_method_13_code
def yX8_moment : MethodName := ⟨RX8, "moment", "(I)I"⟩
abbrev cX8_isCandle : ByteArray := prog_10_method_14_code
def yX8_isCandle : MethodName := ⟨RX8, "isCandle", "(I)Z"⟩
abbrev cX8_isGuest : ByteArray := prog_10_method_15_code
def yX8_isGuest : MethodName := ⟨RX8, "isGuest", "(I)Z"⟩
abbrev cX8_candle : ByteArray := prog_10_method_16_code
def yX8_candle : MethodName := ⟨RX8, "candle", "(II)I"⟩
abbrev cX8_isContent : ByteArray := prog_10_method_17_code
def yX8_isContent : MethodName := ⟨RX8, "isContent", "(II)Z"⟩
abbrev cX8_guest : ByteArray := prog_10_method_18_code
def yX8_guest : MethodName := ⟨RX8, "guest", "(II)I"⟩
abbrev cX8_pass : ByteArray := prog_10_method_19_code
def yX8_pass : MethodName := ⟨RX8, "pass", "(I)I"⟩
abbrev cX8_burning : ByteArray := prog_10_method_20_code
def yX8_burning : MethodName := ⟨RX8, "burning", "(I)I"⟩
abbrev cX8_lay : ByteArray := prog_10_method_21_code
def yX8_lay : MethodName := ⟨RX8, "lay", "(II)V"⟩
abbrev cX8_keepAct : ByteArray := prog_10_method_22_code
def yX8_keepAct : MethodName := ⟨RX8, "keepAct", "()V"⟩
abbrev cX8_light : ByteArray := prog_10_method_23_code
def yX8_light : MethodName := ⟨RX8, "light", "(I)I"⟩
abbrev cX8_out : ByteArray := prog_10_method_24_code
def yX8_out : MethodName := ⟨RX8, "out", "(I)I"⟩
abbrev cX8_trim : ByteArray := prog_10_method_25_code
def yX8_trim : MethodName := ⟨RX8, "trim", "(II)I"⟩
abbrev cX8_step : ByteArray := prog_10_method_26_code
def yX8_step : MethodName := ⟨RX8, "step", "()I"⟩
abbrev cX8_undo : ByteArray := prog_10_method_27_code
def yX8_undo : MethodName := ⟨RX8, "undo", "()I"⟩
abbrev cX8_power : ByteArray := prog_10_method_28_code
def yX8_power : MethodName := ⟨RX8, "power", "(II)I"⟩
abbrev cX8_figureOf : ByteArray := prog_10_method_29_code
def yX8_figureOf : MethodName := ⟨RX8, "figureOf", "(II)I"⟩
abbrev cX8_isPlan : ByteArray := prog_10_method_30_code
def yX8_isPlan : MethodName := ⟨RX8, "isPlan", "(I)Z"⟩
abbrev cX8_costOf : ByteArray := prog_10_method_31_code
def yX8_costOf : MethodName := ⟨RX8, "costOf", "(I)I"⟩
abbrev cX8_contentBy : ByteArray := prog_10_method_32_code
def yX8_contentBy : MethodName := ⟨RX8, "contentBy", "(I)I"⟩
abbrev cX8_layPlans : ByteArray := prog_10_method_33_code
def yX8_layPlans : MethodName := ⟨RX8, "layPlans", "()V"⟩
abbrev cX8_all : ByteArray := prog_10_method_34_code
def yX8_all : MethodName := ⟨RX8, "all", "()I"⟩
abbrev cX8_plan : ByteArray := prog_10_method_35_code
def yX8_plan : MethodName := ⟨RX8, "plan", "()I"⟩
abbrev cX8_planOf : ByteArray := prog_10_method_36_code
def yX8_planOf : MethodName := ⟨RX8, "planOf", "(I)I"⟩
abbrev cX8_bars : ByteArray := prog_10_method_37_code
def yX8_bars : MethodName := ⟨RX8, "bars", "()I"⟩
abbrev cX8_factorial : ByteArray := prog_10_method_38_code
def yX8_factorial : MethodName := ⟨RX8, "factorial", "(I)I"⟩
abbrev cX8_ones : ByteArray := prog_10_method_39_code
def yX8_ones : MethodName := ⟨RX8, "ones", "(I)I"⟩
abbrev cX8_common : ByteArray := prog_10_method_40_code
def yX8_common : MethodName := ⟨RX8, "common", "(II)I"⟩
abbrev cX8_share : ByteArray := prog_10_method_41_code
def yX8_share : MethodName := ⟨RX8, "share", "(IZ)I"⟩
abbrev cX8_gives : ByteArray := prog_10_method_42_code
def yX8_gives : MethodName := ⟨RX8, "gives", "(II)I"⟩
abbrev cX8_tableOf : ByteArray := prog_10_method_43_code
def yX8_tableOf : MethodName := ⟨RX8, "tableOf", "(II)I"⟩
abbrev cX8_table : ByteArray := prog_10_method_44_code
def yX8_table : MethodName := ⟨RX8, "table", "(II)I"⟩
abbrev cX8_pairs : ByteArray := prog_10_method_45_code
def yX8_pairs : MethodName := ⟨RX8, "pairs", "()I"⟩
abbrev cX8_judge : ByteArray := prog_10_method_46_code
def yX8_judge : MethodName := ⟨RX8, "judge", "(II)I"⟩
abbrev cX8_isSo : ByteArray := prog_10_method_47_code
def yX8_isSo : MethodName := ⟨RX8, "isSo", "(III)Z"⟩
abbrev cX8_stub : ByteArray := prog_10_method_48_code
def yX8_stub : MethodName := ⟨RX8, "stub", "(IIZ)I"⟩
abbrev cX8_see : ByteArray := prog_10_method_49_code
def yX8_see : MethodName := ⟨RX8, "see", "(I)I"⟩
abbrev cX8_unsee : ByteArray := prog_10_method_50_code
def yX8_unsee : MethodName := ⟨RX8, "unsee", "()I"⟩
abbrev cX8_fromOf : ByteArray := prog_10_method_51_code
def yX8_fromOf : MethodName := ⟨RX8, "fromOf", "(I)I"⟩
abbrev cX8_from : ByteArray := prog_10_method_52_code
def yX8_from : MethodName := ⟨RX8, "from", "(I)I"⟩
abbrev cX8_next : ByteArray := prog_10_method_53_code
def yX8_next : MethodName := ⟨RX8, "next", "(IIZ)I"⟩
abbrev cX8_cut : ByteArray := prog_10_method_54_code
def yX8_cut : MethodName := ⟨RX8, "cut", "(III)I"⟩
abbrev cX8_sum : ByteArray := prog_10_method_55_code
def yX8_sum : MethodName := ⟨RX8, "sum", "(III)I"⟩
abbrev cX8_draught : ByteArray := prog_10_method_56_code
def yX8_draught : MethodName := ⟨RX8, "draught", "(IIIZ)I"⟩
abbrev cX8_seed : ByteArray := prog_10_method_57_code
def yX8_seed : MethodName := ⟨RX8, "seed", "(J)J"⟩
abbrev cX8_night : ByteArray := prog_10_method_58_code
def yX8_night : MethodName := ⟨RX8, "night", "(I)I"⟩
abbrev cX8_keep : ByteArray := prog_10_method_59_code
def yX8_keep : MethodName := ⟨RX8, "keep", "(I)I"⟩
abbrev cX8_again : ByteArray := prog_10_method_60_code
def yX8_again : MethodName := ⟨RX8, "again", "(I)I"⟩
abbrev cX8_count : ByteArray := prog_10_method_61_code
def yX8_count : MethodName := ⟨RX8, "count", "(I)I"⟩
def RJ6 : String := "java/lang/Integer"
def TJ6 : u_T := fun k => match k with
  | _ => ("", "", "", false)
def tyJ6 : Nat → FieldType := fun k => match k with
  | _ => .int
abbrev wsJ60 : List Cond := u_ws RJ6 TJ6 0
theorem nmJ6 : ∀ a, a < 0 → ∀ b, b < 0 → a ≠ b → (TJ6 a).2.1 ≠ (TJ6 b).2.1 := by decide +kernel
theorem tyJ6_ok : ∀ k, k < 0 → parseFieldDescriptor (TJ6 k).2.2.1 = some (tyJ6 k) := by decide +kernel
abbrev cJ6_numberOfLeadingZeros_0f7a4 : ByteArray := prog_11_method_47_code
def yJ6_numberOfLeadingZeros_0f7a4 : MethodName := ⟨RJ6, "numberOfLeadingZeros", "(I)I"⟩
abbrev cJ6_numberOfTrailingZeros_0f7a4 : ByteArray := prog_11_method_48_code
def yJ6_numberOfTrailingZeros_0f7a4 : MethodName := ⟨RJ6, "numberOfTrailingZeros", "(I)I"⟩
abbrev cJ6_bitCount_0f7a4 : ByteArray := prog_11_method_49_code
def yJ6_bitCount_0f7a4 : MethodName := ⟨RJ6, "bitCount", "(I)I"⟩
def RJ13 : String := "java/lang/Long"
def TJ13 : u_T := fun k => match k with
  | _ => ("", "", "", false)
def tyJ13 : Nat → FieldType := fun k => match k with
  | _ => .int
abbrev wsJ130 : List Cond := u_ws RJ13 TJ13 0
theorem nmJ13 : ∀ a, a < 0 → ∀ b, b < 0 → a ≠ b → (TJ13 a).2.1 ≠ (TJ13 b).2.1 := by decide +kernel
theorem tyJ13_ok : ∀ k, k < 0 → parseFieldDescriptor (TJ13 k).2.2.1 = some (tyJ13 k) := by decide +kernel
abbrev cJ13_bitCount_95d88 : ByteArray := prog_12_method_50_code
def yJ13_bitCount_95d88 : MethodName := ⟨RJ13, "bitCount", "(J)I"⟩
def RJ9 : String := "java/lang/Math"
def TJ9 : u_T := fun k => match k with
  | _ => ("", "", "", false)
def tyJ9 : Nat → FieldType := fun k => match k with
  | _ => .int
abbrev wsJ90 : List Cond := u_ws RJ9 TJ9 0
theorem nmJ9 : ∀ a, a < 0 → ∀ b, b < 0 → a ≠ b → (TJ9 a).2.1 ≠ (TJ9 b).2.1 := by decide +kernel
theorem tyJ9_ok : ∀ k, k < 0 → parseFieldDescriptor (TJ9 k).2.2.1 = some (tyJ9 k) := by decide +kernel
abbrev cJ9_max_7cf53 : ByteArray := prog_13_method_65_code
def yJ9_max_7cf53 : MethodName := ⟨RJ9, "max", "(II)I"⟩
abbrev cJ9_min_7cf53 : ByteArray := prog_13_method_69_code
def yJ9_min_7cf53 : MethodName := ⟨RJ9, "min", "(II)I"⟩
def RJ10 : String := "java/lang/System"
def TJ10 : u_T := fun k => match k with
  | _ => ("", "", "", false)
def tyJ10 : Nat → FieldType := fun k => match k with
  | _ => .int
abbrev wsJ100 : List Cond := u_ws RJ10 TJ10 0
theorem nmJ10 : ∀ a, a < 0 → ∀ b, b < 0 → a ≠ b → (TJ10 a).2.1 ≠ (TJ10 b).2.1 := by decide +kernel
theorem tyJ10_ok : ∀ k, k < 0 → parseFieldDescriptor (TJ10 k).2.2.1 = some (tyJ10 k) := by decide +kernel
def RL : String := "TallowHoursLaw"
abbrev cL_law : ByteArray := code
def yL_law : MethodName := ⟨RL, "law", "([I)Z"⟩
def wsL_law_r1 : List Cond := [Cond.classLink RL 7 RX7, Cond.instantiable RX7 12, Cond.initialized RX7, Cond.classLink RL 10 RX8, Cond.instantiable RX8 34, Cond.initialized RX8, Cond.constantLong RL 124 (4294967295), Cond.methodLink RL 9 yX7_init, Cond.instanceMethod yX7_init, Cond.code yX7_init cX7_init 1 none, Cond.methodLink RX7 1 objectInit, Cond.instanceMethod objectInit, Cond.code objectInit ⟨#[0xb1]⟩ 1 none, Cond.classLink RX7 7 RX6, Cond.instantiable RX6 2, Cond.initialized RX6, Cond.fieldLink RX7 10 "TallowHours" "text" "LTallowHours$Text;", Cond.classLink RX7 16 RX2, Cond.instantiable RX2 6, Cond.initialized RX2, Cond.fieldLink RX7 19 "TallowHours" "now" "LTallowHours$Burning;", Cond.fieldLink RX7 23 "TallowHours" "trial" "LTallowHours$Burning;", Cond.classLink RX7 26 RX0, Cond.instantiable RX0 3]
def wsL_law_r2 : List Cond := [Cond.initialized RX0, Cond.fieldLink RX7 29 "TallowHours" "acts" "LTallowHours$Acts;", Cond.classLink RX7 33 RX4, Cond.instantiable RX4 12, Cond.initialized RX4, Cond.fieldLink RX7 36 "TallowHours" "planner" "LTallowHours$Planner;", Cond.classLink RX7 40 RX1, Cond.instantiable RX1 2, Cond.initialized RX1, Cond.fieldLink RX7 43 "TallowHours" "box" "LTallowHours$Box;", Cond.classLink RX7 47 RX5, Cond.instantiable RX5 1, Cond.initialized RX5, Cond.fieldLink RX7 50 "TallowHours" "saw" "LTallowHours$Saw;", Cond.arrayClass .int, Cond.fieldLink RX7 54 "TallowHours" "slotCells" "[I", Cond.arrayClass .boolean, Cond.fieldLink RX7 58 "TallowHours" "slotFilled" "[Z", Cond.classLink RX7 62 RX3, Cond.instantiable RX3 11, Cond.initialized RX3, Cond.fieldLink RX7 65 "TallowHours" "told" "LTallowHours$Party;", Cond.fieldLink RX7 69 "TallowHours" "draft" "LTallowHours$Party;", Cond.fieldLink RX7 72 "TallowHours" "seedNow" "J"]
def wsL_law_r3 : List Cond := [Cond.methodLink RX7 9 yX6_init, Cond.instanceMethod yX6_init, Cond.code yX6_init cX6_init 1 none, Cond.methodLink RX6 3 objectInit, Cond.fieldLink RX6 9 "TallowHours$Text" "letters" "[I", Cond.fieldLink RX6 15 "TallowHours$Text" "length" "I", Cond.methodLink RX7 18 yX2_init, Cond.instanceMethod yX2_init, Cond.code yX2_init cX2_init 1 none, Cond.methodLink RX2 3 objectInit, Cond.fieldLink RX2 9 "TallowHours$Burning" "place" "[I", Cond.fieldLink RX2 15 "TallowHours$Burning" "left" "[I", Cond.fieldLink RX2 18 "TallowHours$Burning" "flame" "[I", Cond.fieldLink RX2 21 "TallowHours$Burning" "had" "[I", Cond.fieldLink RX2 24 "TallowHours$Burning" "cost" "I", Cond.fieldLink RX2 28 "TallowHours$Burning" "steps" "I", Cond.methodLink RX7 28 yX0_init, Cond.instanceMethod yX0_init, Cond.code yX0_init cX0_init 1 none, Cond.methodLink RX0 3 objectInit, Cond.fieldLink RX0 11 "TallowHours$Acts" "cells" "[I", Cond.fieldLink RX0 17 "TallowHours$Acts" "first" "I", Cond.fieldLink RX0 21 "TallowHours$Acts" "size" "I", Cond.methodLink RX7 35 yX4_init]
def wsL_law_r4 : List Cond := [Cond.instanceMethod yX4_init, Cond.code yX4_init cX4_init 1 none, Cond.methodLink RX4 3 objectInit, Cond.arrayClass .long, Cond.fieldLink RX4 11 "TallowHours$Planner" "gives" "[J", Cond.fieldLink RX4 15 "TallowHours$Planner" "price" "[I", Cond.fieldLink RX4 19 "TallowHours$Planner" "lastFigure" "[I", Cond.fieldLink RX4 22 "TallowHours$Planner" "takes" "[J", Cond.fieldLink RX4 25 "TallowHours$Planner" "lacks" "[I", Cond.fieldLink RX4 28 "TallowHours$Planner" "figures" "[I", Cond.fieldLink RX4 31 "TallowHours$Planner" "chosen" "[I", Cond.fieldLink RX4 34 "TallowHours$Planner" "cheapest" "[I", Cond.fieldLink RX4 37 "TallowHours$Planner" "guests" "I", Cond.fieldLink RX4 41 "TallowHours$Planner" "all" "I", Cond.fieldLink RX4 44 "TallowHours$Planner" "reached" "I", Cond.fieldLink RX4 47 "TallowHours$Planner" "fresh" "Z", Cond.methodLink RX7 42 yX1_init, Cond.instanceMethod yX1_init, Cond.code yX1_init cX1_init 1 none, Cond.methodLink RX1 3 objectInit, Cond.fieldLink RX1 9 "TallowHours$Box" "seen" "[I", Cond.fieldLink RX1 15 "TallowHours$Box" "size" "I", Cond.methodLink RX7 49 yX5_init, Cond.instanceMethod yX5_init]
def wsL_law_r5 : List Cond := [Cond.code yX5_init cX5_init 1 none, Cond.methodLink RX5 3 objectInit, Cond.fieldLink RX5 9 "TallowHours$Saw" "least" "[I", Cond.methodLink RX7 64 yX3_init, Cond.instanceMethod yX3_init, Cond.code yX3_init cX3_init 1 none, Cond.methodLink RX3 3 objectInit, Cond.fieldLink RX3 9 "TallowHours$Party" "evening" "[I", Cond.fieldLink RX3 15 "TallowHours$Party" "start" "[I", Cond.fieldLink RX3 18 "TallowHours$Party" "inches" "[I", Cond.fieldLink RX3 21 "TallowHours$Party" "price" "[I", Cond.fieldLink RX3 24 "TallowHours$Party" "wish" "[I", Cond.fieldLink RX3 27 "TallowHours$Party" "wanted" "[I", Cond.fieldLink RX3 30 "TallowHours$Party" "comes" "[I", Cond.fieldLink RX3 33 "TallowHours$Party" "goes" "[I", Cond.fieldLink RX3 36 "TallowHours$Party" "moments" "I", Cond.fieldLink RX3 40 "TallowHours$Party" "candles" "I", Cond.fieldLink RX3 43 "TallowHours$Party" "guests" "I", Cond.methodLink RL 12 yX8_init, Cond.instanceMethod yX8_init, Cond.code yX8_init cX8_init 1 none, Cond.methodLink RX8 1 objectInit, Cond.fieldLink RX8 7 "TallowHoursModel" "evening" "[I", Cond.fieldLink RX8 13 "TallowHoursModel" "first" "[I"]
def wsL_law_r6 : List Cond := [Cond.fieldLink RX8 16 "TallowHoursModel" "inches" "[I", Cond.fieldLink RX8 19 "TallowHoursModel" "price" "[I", Cond.fieldLink RX8 22 "TallowHoursModel" "wants" "[I", Cond.fieldLink RX8 25 "TallowHoursModel" "needs" "[I", Cond.fieldLink RX8 28 "TallowHoursModel" "comes" "[I", Cond.fieldLink RX8 31 "TallowHoursModel" "goes" "[I", Cond.fieldLink RX8 34 "TallowHoursModel" "now" "[I", Cond.fieldLink RX8 37 "TallowHoursModel" "text" "[I", Cond.fieldLink RX8 40 "TallowHoursModel" "readEvening" "[I", Cond.fieldLink RX8 43 "TallowHoursModel" "readCandle" "[I", Cond.fieldLink RX8 46 "TallowHoursModel" "readGuest" "[I", Cond.fieldLink RX8 49 "TallowHoursModel" "row" "[I", Cond.fieldLink RX8 52 "TallowHoursModel" "bestPlan" "[I", Cond.fieldLink RX8 55 "TallowHoursModel" "bestCost" "[I", Cond.fieldLink RX8 58 "TallowHoursModel" "most" "[I", Cond.fieldLink RX8 61 "TallowHoursModel" "sights" "[I", Cond.fieldLink RX8 64 "TallowHoursModel" "long1" "[I", Cond.fieldLink RX8 67 "TallowHoursModel" "isKept" "[Z", Cond.fieldLink RX8 71 "TallowHoursModel" "kept" "[I", Cond.fieldLink RX8 74 "TallowHoursModel" "moments" "I", Cond.methodLink RL 13 yX7_write, Cond.instanceMethod yX7_write, Cond.selects RX7 yX7_write yX7_write, Cond.code yX7_write cX7_write 2 (some .int)]
def wsL_law_r7 : List Cond := [Cond.methodLink RX7 76 yX6_append, Cond.instanceMethod yX6_append, Cond.selects RX6 yX6_append yX6_append, Cond.code yX6_append cX6_append 2 (some .int), Cond.methodLink RL 17 yX8_write, Cond.instanceMethod yX8_write, Cond.selects RX8 yX8_write yX8_write, Cond.code yX8_write cX8_write 2 (some .int), Cond.constantLong RX8 78 (255), Cond.fieldLink RX8 84 "TallowHoursModel" "length" "I", Cond.methodLink RX8 80 yX8_in, Cond.static yX8_in, Cond.code yX8_in cX8_in 6 (some .boolean), Cond.methodLink RL 18 yX7_wipe, Cond.instanceMethod yX7_wipe, Cond.selects RX7 yX7_wipe yX7_wipe, Cond.code yX7_wipe cX7_wipe 1 (some .int), Cond.methodLink RX7 80 yX6_clear, Cond.instanceMethod yX6_clear, Cond.selects RX6 yX6_clear yX6_clear, Cond.code yX6_clear cX6_clear 2 (some .int), Cond.methodLink RL 22 yX8_wipe, Cond.instanceMethod yX8_wipe, Cond.selects RX8 yX8_wipe yX8_wipe]
def wsL_law_r8 : List Cond := [Cond.code yX8_wipe cX8_wipe 2 (some .int), Cond.methodLink RL 23 yX7_fault, Cond.instanceMethod yX7_fault, Cond.selects RX7 yX7_fault yX7_fault, Cond.code yX7_fault cX7_fault 1 (some .int), Cond.methodLink RX7 84 yX6_readInto, Cond.instanceMethod yX6_readInto, Cond.selects RX6 yX6_readInto yX6_readInto, Cond.code yX6_readInto cX6_readInto 4 (some .int), Cond.fieldLink RX6 31 "TallowHours$Party" "moments" "I", Cond.fieldLink RX6 34 "TallowHours$Party" "evening" "[I", Cond.methodLink RX6 19 yX3_clear, Cond.instanceMethod yX3_clear, Cond.selects RX3 yX3_clear yX3_clear, Cond.code yX3_clear cX3_clear 1 none, Cond.methodLink RX6 24 yX6_letterAt, Cond.instanceMethod yX6_letterAt, Cond.selects RX6 yX6_letterAt yX6_letterAt, Cond.code yX6_letterAt cX6_letterAt 2 (some .int), Cond.methodLink RX6 28 yX6_momentAt, Cond.instanceMethod yX6_momentAt, Cond.selects RX6 yX6_momentAt yX6_momentAt, Cond.code yX6_momentAt cX6_momentAt 3 (some .int), Cond.methodLink RX6 37 yX6_readPart]
def wsL_law_r9 : List Cond := [Cond.instanceMethod yX6_readPart, Cond.selects RX6 yX6_readPart yX6_readPart, Cond.code yX6_readPart cX6_readPart 4 (some .int), Cond.fieldLink RX6 41 "TallowHours$Party" "candles" "I", Cond.fieldLink RX6 47 "TallowHours$Party" "guests" "I", Cond.methodLink RX6 44 yX6_readCandle, Cond.instanceMethod yX6_readCandle, Cond.selects RX6 yX6_readCandle yX6_readCandle, Cond.code yX6_readCandle cX6_readCandle 9 (some .int), Cond.methodLink RX6 57 Lib.Math.min.name, Cond.static Lib.Math.min.name, Cond.initialized "java/lang/Math", Cond.code Lib.Math.min.name Lib.Math.min.code 2 (some .int), Cond.fieldLink RX6 63 "TallowHours$Party" "start" "[I", Cond.fieldLink RX6 66 "TallowHours$Party" "inches" "[I", Cond.fieldLink RX6 69 "TallowHours$Party" "price" "[I", Cond.methodLink RX6 53 yX6_figureAt, Cond.instanceMethod yX6_figureAt, Cond.selects RX6 yX6_figureAt yX6_figureAt, Cond.code yX6_figureAt cX6_figureAt 6 (some .int), Cond.methodLink RX6 50 yX6_readGuest, Cond.instanceMethod yX6_readGuest, Cond.selects RX6 yX6_readGuest yX6_readGuest, Cond.code yX6_readGuest cX6_readGuest 7 (some .int)]
def wsL_law_r10 : List Cond := [Cond.fieldLink RX6 72 "TallowHours$Party" "wish" "[I", Cond.fieldLink RX6 75 "TallowHours$Party" "wanted" "[I", Cond.fieldLink RX6 78 "TallowHours$Party" "comes" "[I", Cond.fieldLink RX6 81 "TallowHours$Party" "goes" "[I", Cond.methodLink RL 26 yX8_fault, Cond.instanceMethod yX8_fault, Cond.selects RX8 yX8_fault yX8_fault, Cond.code yX8_fault cX8_fault 1 (some .int), Cond.methodLink RX8 118 yX8_readText, Cond.instanceMethod yX8_readText, Cond.selects RX8 yX8_readText yX8_readText, Cond.code yX8_readText cX8_readText 1 (some .int), Cond.fieldLink RX8 90 "TallowHoursModel" "at" "I", Cond.fieldLink RX8 87 "TallowHoursModel" "faultAt" "I", Cond.fieldLink RX8 97 "TallowHoursModel" "readMoments" "I", Cond.fieldLink RX8 100 "TallowHoursModel" "readCandles" "I", Cond.fieldLink RX8 103 "TallowHoursModel" "readGuests" "I", Cond.methodLink RX8 106 yX8_giftOf, Cond.static yX8_giftOf, Cond.code yX8_giftOf cX8_giftOf 1 (some .int), Cond.constantLong RX8 93 (97), Cond.constantLong RX8 95 (100), Cond.methodLink RX8 110 yX8_readPart, Cond.instanceMethod yX8_readPart]
def wsL_law_r11 : List Cond := [Cond.selects RX8 yX8_readPart yX8_readPart, Cond.code yX8_readPart cX8_readPart 6 none, Cond.methodLink RX8 114 yX8_figure, Cond.instanceMethod yX8_figure, Cond.selects RX8 yX8_figure yX8_figure, Cond.code yX8_figure cX8_figure 5 (some .int), Cond.methodLink RL 27 yX7_party, Cond.instanceMethod yX7_party, Cond.selects RX7 yX7_party yX7_party, Cond.code yX7_party cX7_party 3 (some .int), Cond.fieldLink RX7 94 "TallowHours$Planner" "fresh" "Z", Cond.fieldLink RX7 98 "TallowHours$Party" "candles" "I", Cond.fieldLink RX7 102 "TallowHours$Party" "guests" "I", Cond.methodLink RX7 88 yX2_begin, Cond.instanceMethod yX2_begin, Cond.selects RX2 yX2_begin yX2_begin, Cond.code yX2_begin cX2_begin 3 none, Cond.fieldLink RX2 31 "TallowHours$Party" "start" "[I", Cond.fieldLink RX2 36 "TallowHours$Party" "inches" "[I", Cond.methodLink RX7 92 yX0_clear, Cond.instanceMethod yX0_clear, Cond.selects RX0 yX0_clear yX0_clear, Cond.code yX0_clear cX0_clear 1 none, Cond.methodLink RL 30 yX8_party]
def wsL_law_r12 : List Cond := [Cond.instanceMethod yX8_party, Cond.selects RX8 yX8_party yX8_party, Cond.code yX8_party cX8_party 2 (some .int), Cond.fieldLink RX8 122 "TallowHoursModel" "candles" "I", Cond.fieldLink RX8 125 "TallowHoursModel" "guests" "I", Cond.fieldLink RX8 128 "TallowHoursModel" "acts" "I", Cond.methodLink RL 31 yX7_moment, Cond.instanceMethod yX7_moment, Cond.selects RX7 yX7_moment yX7_moment, Cond.code yX7_moment cX7_moment 2 (some .int), Cond.fieldLink RX7 105 "TallowHours$Party" "moments" "I", Cond.methodLink RX7 108 yX3_giftAt, Cond.instanceMethod yX3_giftAt, Cond.selects RX3 yX3_giftAt yX3_giftAt, Cond.code yX3_giftAt cX3_giftAt 2 (some .int), Cond.methodLink RL 34 yX8_moment, Cond.instanceMethod yX8_moment, Cond.selects RX8 yX8_moment yX8_moment, Cond.code yX8_moment cX8_moment 2 (some .int), Cond.methodLink RL 35 yX7_candle, Cond.instanceMethod yX7_candle, Cond.selects RX7 yX7_candle yX7_candle, Cond.code yX7_candle cX7_candle 3 (some .int), Cond.fieldLink RX7 115 "TallowHours$Burning" "left" "[I"]
def wsL_law_r13 : List Cond := [Cond.fieldLink RX7 118 "TallowHours$Burning" "place" "[I", Cond.fieldLink RX7 121 "TallowHours$Party" "price" "[I", Cond.fieldLink RX7 124 "TallowHours$Burning" "flame" "[I", Cond.methodLink RX7 111 yX3_hasCandle, Cond.instanceMethod yX3_hasCandle, Cond.selects RX3 yX3_hasCandle yX3_hasCandle, Cond.code yX3_hasCandle cX3_hasCandle 2 (some .boolean), Cond.methodLink RL 39 yX8_candle, Cond.instanceMethod yX8_candle, Cond.selects RX8 yX8_candle yX8_candle, Cond.code yX8_candle cX8_candle 3 (some .int), Cond.methodLink RX8 131 yX8_isCandle, Cond.instanceMethod yX8_isCandle, Cond.selects RX8 yX8_isCandle yX8_isCandle, Cond.code yX8_isCandle cX8_isCandle 2 (some .boolean), Cond.methodLink RL 40 yX7_guest, Cond.instanceMethod yX7_guest, Cond.selects RX7 yX7_guest yX7_guest, Cond.code yX7_guest cX7_guest 3 (some .int), Cond.fieldLink RX7 130 "TallowHours$Party" "wish" "[I", Cond.fieldLink RX7 133 "TallowHours$Party" "wanted" "[I", Cond.fieldLink RX7 136 "TallowHours$Party" "comes" "[I", Cond.fieldLink RX7 139 "TallowHours$Party" "goes" "[I", Cond.fieldLink RX7 142 "TallowHours$Burning" "had" "[I"]
def wsL_law_r14 : List Cond := [Cond.methodLink RX7 127 yX3_hasGuest, Cond.instanceMethod yX3_hasGuest, Cond.selects RX3 yX3_hasGuest yX3_hasGuest, Cond.code yX3_hasGuest cX3_hasGuest 2 (some .boolean), Cond.methodLink RX7 145 yX2_isContent, Cond.instanceMethod yX2_isContent, Cond.selects RX2 yX2_isContent yX2_isContent, Cond.code yX2_isContent cX2_isContent 3 (some .boolean), Cond.fieldLink RX2 76 "TallowHours$Party" "wanted" "[I", Cond.methodLink RX2 73 yX3_hasGuest, Cond.methodLink RL 43 yX8_guest, Cond.instanceMethod yX8_guest, Cond.selects RX8 yX8_guest yX8_guest, Cond.code yX8_guest cX8_guest 3 (some .int), Cond.methodLink RX8 135 yX8_isGuest, Cond.instanceMethod yX8_isGuest, Cond.selects RX8 yX8_isGuest yX8_isGuest, Cond.code yX8_isGuest cX8_isGuest 2 (some .boolean), Cond.methodLink RX8 138 yX8_isContent, Cond.instanceMethod yX8_isContent, Cond.selects RX8 yX8_isContent yX8_isContent, Cond.code yX8_isContent cX8_isContent 3 (some .boolean), Cond.methodLink RL 44 yX7_light, Cond.instanceMethod yX7_light]
def wsL_law_r15 : List Cond := [Cond.selects RX7 yX7_light yX7_light, Cond.code yX7_light cX7_light 2 (some .int), Cond.methodLink RX7 149 yX7_rememberAct, Cond.instanceMethod yX7_rememberAct, Cond.selects RX7 yX7_rememberAct yX7_rememberAct, Cond.code yX7_rememberAct cX7_rememberAct 1 none, Cond.methodLink RX7 174 yX0_add, Cond.instanceMethod yX0_add, Cond.selects RX0 yX0_add yX0_add, Cond.code yX0_add cX0_add 2 none, Cond.methodLink RX0 24 yX2_saveTo, Cond.instanceMethod yX2_saveTo, Cond.selects RX2 yX2_saveTo yX2_saveTo, Cond.code yX2_saveTo cX2_saveTo 4 none, Cond.methodLink RX7 152 yX2_withFlame, Cond.instanceMethod yX2_withFlame, Cond.selects RX2 yX2_withFlame yX2_withFlame, Cond.code yX2_withFlame cX2_withFlame 5 (some .int), Cond.fieldLink RX2 43 "TallowHours$Party" "candles" "I", Cond.methodLink RX7 156 yJ6_bitCount_0f7a4, Cond.static yJ6_bitCount_0f7a4, Cond.initialized RJ6, Cond.code yJ6_bitCount_0f7a4 cJ6_bitCount_0f7a4 1 (some .int), Cond.constant RJ6 265 (1431655765)]
def wsL_law_r16 : List Cond := [Cond.constant RJ6 266 (858993459), Cond.constant RJ6 267 (252645135), Cond.methodLink RL 47 yX8_light, Cond.instanceMethod yX8_light, Cond.selects RX8 yX8_light yX8_light, Cond.code yX8_light cX8_light 2 (some .int), Cond.methodLink RX8 148 yX8_keepAct, Cond.instanceMethod yX8_keepAct, Cond.selects RX8 yX8_keepAct yX8_keepAct, Cond.code yX8_keepAct cX8_keepAct 2 none, Cond.fieldLink RX8 145 "TallowHoursModel" "nextAct" "I", Cond.methodLink RX8 151 yX8_burning, Cond.instanceMethod yX8_burning, Cond.selects RX8 yX8_burning yX8_burning, Cond.code yX8_burning cX8_burning 4 (some .int), Cond.methodLink RL 48 yX7_out, Cond.instanceMethod yX7_out, Cond.selects RX7 yX7_out yX7_out, Cond.code yX7_out cX7_out 2 (some .int), Cond.methodLink RL 51 yX8_out, Cond.instanceMethod yX8_out, Cond.selects RX8 yX8_out yX8_out, Cond.code yX8_out cX8_out 2 (some .int), Cond.methodLink RL 52 yX7_trim]
def wsL_law_r17 : List Cond := [Cond.instanceMethod yX7_trim, Cond.selects RX7 yX7_trim yX7_trim, Cond.code yX7_trim cX7_trim 3 (some .int), Cond.methodLink RL 55 yX8_trim, Cond.instanceMethod yX8_trim, Cond.selects RX8 yX8_trim yX8_trim, Cond.code yX8_trim cX8_trim 3 (some .int), Cond.constantLong RX8 154 (5), Cond.methodLink RL 56 yX7_step, Cond.instanceMethod yX7_step, Cond.selects RX7 yX7_step yX7_step, Cond.code yX7_step cX7_step 1 (some .int), Cond.fieldLink RX7 161 "TallowHours$Burning" "steps" "I", Cond.methodLink RX7 164 yX2_goBy, Cond.instanceMethod yX2_goBy, Cond.selects RX2 yX2_goBy yX2_goBy, Cond.code yX2_goBy cX2_goBy 6 (some .int), Cond.fieldLink RX2 54 "TallowHours$Party" "guests" "I", Cond.fieldLink RX2 57 "TallowHours$Party" "comes" "[I", Cond.fieldLink RX2 60 "TallowHours$Party" "goes" "[I", Cond.fieldLink RX2 63 "TallowHours$Party" "wish" "[I", Cond.methodLink RX2 46 yX2_giftBit, Cond.instanceMethod yX2_giftBit, Cond.selects RX2 yX2_giftBit yX2_giftBit]
def wsL_law_r18 : List Cond := [Cond.code yX2_giftBit cX2_giftBit 5 (some .int), Cond.methodLink RX2 39 yX3_hasCandle, Cond.methodLink RX2 69 yX3_giftAt, Cond.methodLink RX2 50 yX2_burnInch, Cond.instanceMethod yX2_burnInch, Cond.selects RX2 yX2_burnInch yX2_burnInch, Cond.code yX2_burnInch cX2_burnInch 3 none, Cond.fieldLink RX2 66 "TallowHours$Party" "price" "[I", Cond.methodLink RL 59 yX8_step, Cond.instanceMethod yX8_step, Cond.selects RX8 yX8_step yX8_step, Cond.code yX8_step cX8_step 1 (some .int), Cond.methodLink RX8 156 yX8_pass, Cond.instanceMethod yX8_pass, Cond.selects RX8 yX8_pass yX8_pass, Cond.code yX8_pass cX8_pass 7 (some .int), Cond.methodLink RX8 142 yX8_has, Cond.static yX8_has, Cond.code yX8_has cX8_has 2 (some .boolean), Cond.methodLink RL 60 yX7_undo, Cond.instanceMethod yX7_undo, Cond.selects RX7 yX7_undo yX7_undo, Cond.code yX7_undo cX7_undo 1 (some .int), Cond.fieldLink RX7 167 "TallowHours$Acts" "size" "I"]
def wsL_law_r19 : List Cond := [Cond.methodLink RX7 170 yX0_takeBack, Cond.instanceMethod yX0_takeBack, Cond.selects RX0 yX0_takeBack yX0_takeBack, Cond.code yX0_takeBack cX0_takeBack 2 none, Cond.methodLink RX0 28 yX2_loadFrom, Cond.instanceMethod yX2_loadFrom, Cond.selects RX2 yX2_loadFrom yX2_loadFrom, Cond.code yX2_loadFrom cX2_loadFrom 4 none, Cond.methodLink RL 63 yX8_undo, Cond.instanceMethod yX8_undo, Cond.selects RX8 yX8_undo yX8_undo, Cond.code yX8_undo cX8_undo 2 (some .int), Cond.methodLink RL 64 yX7_plan, Cond.instanceMethod yX7_plan, Cond.selects RX7 yX7_plan yX7_plan, Cond.code yX7_plan cX7_plan 1 (some .int), Cond.methodLink RX7 177 yX4_work, Cond.instanceMethod yX4_work, Cond.selects RX4 yX4_work yX4_work, Cond.code yX4_work cX4_work 6 none, Cond.fieldLink RX4 51 "TallowHours$Party" "guests" "I", Cond.constant RX4 54 (1000000), Cond.methodLink RX4 55 yX4_layGuest, Cond.instanceMethod yX4_layGuest]
def wsL_law_r20 : List Cond := [Cond.selects RX4 yX4_layGuest yX4_layGuest, Cond.code yX4_layGuest cX4_layGuest 8 none, Cond.fieldLink RX4 70 "TallowHours$Burning" "steps" "I", Cond.fieldLink RX4 75 "TallowHours$Party" "comes" "[I", Cond.fieldLink RX4 78 "TallowHours$Party" "goes" "[I", Cond.fieldLink RX4 81 "TallowHours$Party" "wish" "[I", Cond.fieldLink RX4 84 "TallowHours$Party" "wanted" "[I", Cond.fieldLink RX4 87 "TallowHours$Burning" "had" "[I", Cond.methodLink RX4 59 yX4_layCandle, Cond.instanceMethod yX4_layCandle, Cond.selects RX4 yX4_layCandle yX4_layCandle, Cond.code yX4_layCandle cX4_layCandle 10 (some .long), Cond.fieldLink RX4 94 "TallowHours$Burning" "flame" "[I", Cond.fieldLink RX4 107 "TallowHours$Party" "price" "[I", Cond.fieldLink RX4 108 "TallowHours$Burning" "left" "[I", Cond.methodLink RX4 90 yX3_hasCandle, Cond.methodLink RX4 97 yX2_giftBit, Cond.methodLink RX4 101 yJ6_numberOfTrailingZeros_0f7a4, Cond.static yJ6_numberOfTrailingZeros_0f7a4, Cond.code yJ6_numberOfTrailingZeros_0f7a4 cJ6_numberOfTrailingZeros_0f7a4 2 (some .int), Cond.constant RJ6 264 (65536), Cond.methodLink RX4 63 yX4_tryCandle, Cond.static yX4_tryCandle, Cond.code yX4_tryCandle cX4_tryCandle 7 none]
def wsL_law_r21 : List Cond := [Cond.methodLink RX4 111 yX4_weigh, Cond.instanceMethod yX4_weigh, Cond.selects RX4 yX4_weigh yX4_weigh, Cond.code yX4_weigh cX4_weigh 6 none, Cond.methodLink RX4 121 arraycopyName, Cond.native arraycopyName, Cond.static arraycopyName, Cond.initialized "java/lang/System", Cond.methodLink RX4 115 yJ13_bitCount_95d88, Cond.static yJ13_bitCount_95d88, Cond.initialized RJ13, Cond.code yJ13_bitCount_95d88 cJ13_bitCount_95d88 2 (some .int), Cond.constantLong RJ13 314 (6148914691236517205), Cond.constantLong RJ13 316 (3689348814741910323), Cond.constantLong RJ13 318 (1085102592571150095), Cond.methodLink RX4 67 yX4_spreadToFewerGuests, Cond.instanceMethod yX4_spreadToFewerGuests, Cond.selects RX4 yX4_spreadToFewerGuests yX4_spreadToFewerGuests, Cond.code yX4_spreadToFewerGuests cX4_spreadToFewerGuests 3 none, Cond.methodLink RX4 127 Lib.Math.min.name, Cond.methodLink RX7 181 yX4_costForAll, Cond.instanceMethod yX4_costForAll, Cond.selects RX4 yX4_costForAll yX4_costForAll, Cond.code yX4_costForAll cX4_costForAll 1 (some .int)]
def wsL_law_r22 : List Cond := [Cond.methodLink RL 67 yX8_plan, Cond.instanceMethod yX8_plan, Cond.selects RX8 yX8_plan yX8_plan, Cond.code yX8_plan cX8_plan 1 (some .int), Cond.methodLink RX8 179 yX8_layPlans, Cond.instanceMethod yX8_layPlans, Cond.selects RX8 yX8_layPlans yX8_layPlans, Cond.code yX8_layPlans cX8_layPlans 6 none, Cond.methodLink RX8 170 yX8_isPlan, Cond.instanceMethod yX8_isPlan, Cond.selects RX8 yX8_isPlan yX8_isPlan, Cond.code yX8_isPlan cX8_isPlan 4 (some .boolean), Cond.methodLink RX8 163 yX8_figureOf, Cond.static yX8_figureOf, Cond.code yX8_figureOf cX8_figureOf 2 (some .int), Cond.methodLink RX8 159 yX8_power, Cond.static yX8_power, Cond.code yX8_power cX8_power 4 (some .int), Cond.methodLink RX8 173 yX8_contentBy, Cond.instanceMethod yX8_contentBy, Cond.selects RX8 yX8_contentBy yX8_contentBy, Cond.code yX8_contentBy cX8_contentBy 6 (some .int), Cond.methodLink RX8 166 yX8_lay, Cond.instanceMethod yX8_lay]
def wsL_law_r23 : List Cond := [Cond.selects RX8 yX8_lay yX8_lay, Cond.code yX8_lay cX8_lay 4 none, Cond.methodLink RX8 176 yX8_costOf, Cond.instanceMethod yX8_costOf, Cond.selects RX8 yX8_costOf yX8_costOf, Cond.code yX8_costOf cX8_costOf 4 (some .int), Cond.methodLink RX8 182 yX8_all, Cond.instanceMethod yX8_all, Cond.selects RX8 yX8_all yX8_all, Cond.code yX8_all cX8_all 1 (some .int), Cond.methodLink RL 68 yX7_planOf, Cond.instanceMethod yX7_planOf, Cond.selects RX7 yX7_planOf yX7_planOf, Cond.code yX7_planOf cX7_planOf 2 (some .int), Cond.fieldLink RX7 184 "TallowHours$Planner" "chosen" "[I", Cond.methodLink RL 71 yX8_planOf, Cond.instanceMethod yX8_planOf, Cond.selects RX8 yX8_planOf yX8_planOf, Cond.code yX8_planOf cX8_planOf 2 (some .int), Cond.methodLink RL 72 yX7_bars, Cond.instanceMethod yX7_bars, Cond.selects RX7 yX7_bars yX7_bars, Cond.code yX7_bars cX7_bars 2 (some .int), Cond.fieldLink RX7 187 "TallowHours$Planner" "reached" "I"]
def wsL_law_r24 : List Cond := [Cond.methodLink RL 75 yX8_bars, Cond.instanceMethod yX8_bars, Cond.selects RX8 yX8_bars yX8_bars, Cond.code yX8_bars cX8_bars 2 (some .int), Cond.methodLink RL 76 yX7_share, Cond.instanceMethod yX7_share, Cond.selects RX7 yX7_share yX7_share, Cond.code yX7_share cX7_share 3 (some .int), Cond.fieldLink RX7 193 "TallowHours" "FACTORIALS" "[I", Cond.methodLink RX7 190 yX4_sharesOf, Cond.instanceMethod yX4_sharesOf, Cond.selects RX4 yX4_sharesOf yX4_sharesOf, Cond.code yX4_sharesOf cX4_sharesOf 6 (some .int), Cond.methodLink RX4 133 yJ6_bitCount_0f7a4, Cond.methodLink RX7 196 yX7_fraction, Cond.static yX7_fraction, Cond.code yX7_fraction cX7_fraction 7 (some .int), Cond.methodLink RL 80 yX8_share, Cond.instanceMethod yX8_share, Cond.selects RX8 yX8_share yX8_share, Cond.code yX8_share cX8_share 5 (some .int), Cond.methodLink RX8 185 yX8_ones, Cond.static yX8_ones, Cond.code yX8_ones cX8_ones 1 (some .int)]
def wsL_law_r25 : List Cond := [Cond.methodLink RX8 188 yX8_factorial, Cond.static yX8_factorial, Cond.code yX8_factorial cX8_factorial 3 (some .int), Cond.methodLink RX8 191 yX8_common, Cond.static yX8_common, Cond.code yX8_common cX8_common 5 (some .int), Cond.methodLink RL 81 yX7_table, Cond.instanceMethod yX7_table, Cond.selects RX7 yX7_table yX7_table, Cond.code yX7_table cX7_table 3 (some .int), Cond.methodLink RX7 200 yX7_giftsTogether, Cond.instanceMethod yX7_giftsTogether, Cond.selects RX7 yX7_giftsTogether yX7_giftsTogether, Cond.code yX7_giftsTogether cX7_giftsTogether 5 (some .int), Cond.methodLink RX7 234 yX2_giftBit, Cond.methodLink RL 84 yX8_table, Cond.instanceMethod yX8_table, Cond.selects RX8 yX8_table yX8_table, Cond.code yX8_table cX8_table 3 (some .int), Cond.methodLink RX8 197 yX8_tableOf, Cond.instanceMethod yX8_tableOf, Cond.selects RX8 yX8_tableOf yX8_tableOf, Cond.code yX8_tableOf cX8_tableOf 5 (some .int), Cond.methodLink RX8 194 yX8_gives]
def wsL_law_r26 : List Cond := [Cond.instanceMethod yX8_gives, Cond.selects RX8 yX8_gives yX8_gives, Cond.code yX8_gives cX8_gives 3 (some .int), Cond.methodLink RL 85 yX7_pairs, Cond.instanceMethod yX7_pairs, Cond.selects RX7 yX7_pairs yX7_pairs, Cond.code yX7_pairs cX7_pairs 2 (some .int), Cond.methodLink RX7 204 yX7_mostOfPairs, Cond.instanceMethod yX7_mostOfPairs, Cond.selects RX7 yX7_mostOfPairs yX7_mostOfPairs, Cond.code yX7_mostOfPairs cX7_mostOfPairs 8 (some .int), Cond.methodLink RX7 229 Lib.Math.max.name, Cond.static Lib.Math.max.name, Cond.code Lib.Math.max.name Lib.Math.max.code 2 (some .int), Cond.methodLink RX7 223 yJ6_numberOfTrailingZeros_0f7a4, Cond.methodLink RX7 226 yJ6_numberOfLeadingZeros_0f7a4, Cond.static yJ6_numberOfLeadingZeros_0f7a4, Cond.code yJ6_numberOfLeadingZeros_0f7a4 cJ6_numberOfLeadingZeros_0f7a4 2 (some .int), Cond.methodLink RL 88 yX8_pairs, Cond.instanceMethod yX8_pairs, Cond.selects RX8 yX8_pairs yX8_pairs, Cond.code yX8_pairs cX8_pairs 9 (some .int), Cond.methodLink RL 89 yX7_judge, Cond.instanceMethod yX7_judge]
def wsL_law_r27 : List Cond := [Cond.selects RX7 yX7_judge yX7_judge, Cond.code yX7_judge cX7_judge 4 (some .int), Cond.fieldLink RX7 207 "TallowHours" "TENS" "[I", Cond.methodLink RX7 210 yX2_copy, Cond.instanceMethod yX2_copy, Cond.selects RX2 yX2_copy yX2_copy, Cond.code yX2_copy cX2_copy 3 none, Cond.methodLink RX7 213 yX7_figure, Cond.static yX7_figure, Cond.code yX7_figure cX7_figure 4 (some .int), Cond.methodLink RX7 217 yX7_goesWell, Cond.instanceMethod yX7_goesWell, Cond.selects RX7 yX7_goesWell yX7_goesWell, Cond.code yX7_goesWell cX7_goesWell 2 (some .boolean), Cond.methodLink RX7 220 yX2_lightIfCan, Cond.instanceMethod yX2_lightIfCan, Cond.selects RX2 yX2_lightIfCan yX2_lightIfCan, Cond.code yX2_lightIfCan cX2_lightIfCan 3 (some .boolean), Cond.methodLink RL 92 yX8_judge, Cond.instanceMethod yX8_judge, Cond.selects RX8 yX8_judge yX8_judge, Cond.code yX8_judge cX8_judge 6 (some .int), Cond.constantLong RX8 200 (8), Cond.methodLink RL 93 yX7_stub]
def wsL_law_r28 : List Cond := [Cond.instanceMethod yX7_stub, Cond.selects RX7 yX7_stub yX7_stub, Cond.code yX7_stub cX7_stub 5 (some .int), Cond.methodLink RX7 238 yX7_candlesEndingSo, Cond.instanceMethod yX7_candlesEndingSo, Cond.selects RX7 yX7_candlesEndingSo yX7_candlesEndingSo, Cond.code yX7_candlesEndingSo cX7_candlesEndingSo 5 (some .int), Cond.fieldLink RX7 244 "TallowHours$Party" "inches" "[I", Cond.fieldLink RX7 247 "TallowHours$Party" "start" "[I", Cond.methodLink RX7 250 yX7_endsSo, Cond.instanceMethod yX7_endsSo, Cond.selects RX7 yX7_endsSo yX7_endsSo, Cond.code yX7_endsSo cX7_endsSo 6 (some .boolean), Cond.methodLink RX7 241 yX7_placesEndingSo, Cond.instanceMethod yX7_placesEndingSo, Cond.selects RX7 yX7_placesEndingSo yX7_placesEndingSo, Cond.code yX7_placesEndingSo cX7_placesEndingSo 5 (some .int), Cond.methodLink RL 97 yX8_stub, Cond.instanceMethod yX8_stub, Cond.selects RX8 yX8_stub yX8_stub, Cond.code yX8_stub cX8_stub 7 (some .int), Cond.constantLong RX8 202 (3), Cond.methodLink RX8 204 yX8_isSo, Cond.instanceMethod yX8_isSo]
def wsL_law_r29 : List Cond := [Cond.selects RX8 yX8_isSo yX8_isSo, Cond.code yX8_isSo cX8_isSo 7 (some .boolean), Cond.methodLink RL 98 yX7_see, Cond.instanceMethod yX7_see, Cond.selects RX7 yX7_see yX7_see, Cond.code yX7_see cX7_see 2 (some .int), Cond.methodLink RX7 254 yX1_add, Cond.instanceMethod yX1_add, Cond.selects RX1 yX1_add yX1_add, Cond.code yX1_add cX1_add 2 (some .int), Cond.methodLink RL 101 yX8_see, Cond.instanceMethod yX8_see, Cond.selects RX8 yX8_see yX8_see, Cond.code yX8_see cX8_see 2 (some .int), Cond.constantLong RX8 208 (4), Cond.fieldLink RX8 210 "TallowHoursModel" "seen" "I", Cond.methodLink RL 102 yX7_unsee, Cond.instanceMethod yX7_unsee, Cond.selects RX7 yX7_unsee yX7_unsee, Cond.code yX7_unsee cX7_unsee 1 (some .int), Cond.methodLink RX7 256 yX1_clear, Cond.instanceMethod yX1_clear, Cond.selects RX1 yX1_clear yX1_clear, Cond.code yX1_clear cX1_clear 2 (some .int)]
def wsL_law_r30 : List Cond := [Cond.methodLink RL 105 yX8_unsee, Cond.instanceMethod yX8_unsee, Cond.selects RX8 yX8_unsee yX8_unsee, Cond.code yX8_unsee cX8_unsee 2 (some .int), Cond.methodLink RL 106 yX7_from, Cond.instanceMethod yX7_from, Cond.selects RX7 yX7_from yX7_from, Cond.code yX7_from cX7_from 2 (some .int), Cond.methodLink RX7 257 yX1_origins, Cond.instanceMethod yX1_origins, Cond.selects RX1 yX1_origins yX1_origins, Cond.code yX1_origins cX1_origins 5 (some .int), Cond.fieldLink RX1 19 "TallowHours$Party" "moments" "I", Cond.methodLink RX1 24 yX1_canBeFrom, Cond.instanceMethod yX1_canBeFrom, Cond.selects RX1 yX1_canBeFrom yX1_canBeFrom, Cond.code yX1_canBeFrom cX1_canBeFrom 4 (some .boolean), Cond.methodLink RX1 28 yX3_giftAt, Cond.methodLink RL 109 yX8_from, Cond.instanceMethod yX8_from, Cond.selects RX8 yX8_from yX8_from, Cond.code yX8_from cX8_from 2 (some .int), Cond.constantLong RX8 213 (6), Cond.methodLink RX8 215 yX8_fromOf]
def wsL_law_r31 : List Cond := [Cond.instanceMethod yX8_fromOf, Cond.selects RX8 yX8_fromOf yX8_fromOf, Cond.code yX8_fromOf cX8_fromOf 6 (some .int), Cond.methodLink RL 110 yX7_next, Cond.instanceMethod yX7_next, Cond.selects RX7 yX7_next yX7_next, Cond.code yX7_next cX7_next 7 (some .int), Cond.fieldLink RX7 260 "TallowHours$Box" "size" "I", Cond.methodLink RL 113 yX8_next, Cond.instanceMethod yX8_next, Cond.selects RX8 yX8_next yX8_next, Cond.code yX8_next cX8_next 8 (some .int), Cond.methodLink RL 114 yX7_cut, Cond.instanceMethod yX7_cut, Cond.selects RX7 yX7_cut yX7_cut, Cond.code yX7_cut cX7_cut 7 (some .int), Cond.methodLink RX7 261 yX5_fewest, Cond.instanceMethod yX5_fewest, Cond.selects RX5 yX5_fewest yX5_fewest, Cond.code yX5_fewest cX5_fewest 8 (some .int), Cond.constant RX5 15 (1000000), Cond.methodLink RX5 23 Lib.Math.min.name, Cond.methodLink RX5 20 yX5_withOrder, Cond.static yX5_withOrder]
def wsL_law_r32 : List Cond := [Cond.code yX5_withOrder cX5_withOrder 4 (some .int), Cond.methodLink RL 118 yX8_cut, Cond.instanceMethod yX8_cut, Cond.selects RX8 yX8_cut yX8_cut, Cond.code yX8_cut cX8_cut 7 (some .int), Cond.constantLong RX8 218 (30), Cond.methodLink RX8 220 yX8_sum, Cond.static yX8_sum, Cond.code yX8_sum cX8_sum 5 (some .int), Cond.methodLink RL 119 yX7_draught, Cond.instanceMethod yX7_draught, Cond.selects RX7 yX7_draught yX7_draught, Cond.code yX7_draught cX7_draught 8 (some .int), Cond.methodLink RL 123 yX8_draught, Cond.instanceMethod yX8_draught, Cond.selects RX8 yX8_draught yX8_draught, Cond.code yX8_draught cX8_draught 8 (some .int), Cond.constantLong RX8 223 (10), Cond.methodLink RL 126 yX7_seed, Cond.instanceMethod yX7_seed, Cond.selects RX7 yX7_seed yX7_seed, Cond.code yX7_seed cX7_seed 5 (some .long), Cond.methodLink RL 130 yX8_seed, Cond.instanceMethod yX8_seed]
def wsL_law_r33 : List Cond := [Cond.selects RX8 yX8_seed yX8_seed, Cond.code yX8_seed cX8_seed 5 (some .long), Cond.fieldLink RX8 225 "TallowHoursModel" "seed" "J", Cond.methodLink RL 131 yX7_night, Cond.instanceMethod yX7_night, Cond.selects RX7 yX7_night yX7_night, Cond.code yX7_night cX7_night 4 (some .int), Cond.constantLong RX7 264 (6364136223846793005), Cond.constantLong RX7 266 (1442695040888963407), Cond.constantLong RX7 268 (4), Cond.methodLink RL 134 yX8_night, Cond.instanceMethod yX8_night, Cond.selects RX8 yX8_night yX8_night, Cond.code yX8_night cX8_night 4 (some .int), Cond.constantLong RX8 229 (20), Cond.constantLong RX8 231 (6364136223846793005), Cond.constantLong RX8 233 (1442695040888963407), Cond.methodLink RL 135 yX7_keep, Cond.instanceMethod yX7_keep, Cond.selects RX7 yX7_keep yX7_keep, Cond.code yX7_keep cX7_keep 2 (some .int), Cond.methodLink RX7 270 yX2_saveTo, Cond.methodLink RL 138 yX8_keep, Cond.instanceMethod yX8_keep]
def wsL_law_r34 : List Cond := [Cond.selects RX8 yX8_keep yX8_keep, Cond.code yX8_keep cX8_keep 3 (some .int), Cond.methodLink RL 139 yX7_again, Cond.instanceMethod yX7_again, Cond.selects RX7 yX7_again yX7_again, Cond.code yX7_again cX7_again 2 (some .int), Cond.methodLink RX7 274 yX2_loadFrom, Cond.methodLink RL 142 yX8_again, Cond.instanceMethod yX8_again, Cond.selects RX8 yX8_again yX8_again, Cond.code yX8_again cX8_again 3 (some .int), Cond.methodLink RL 143 yX7_count, Cond.instanceMethod yX7_count, Cond.selects RX7 yX7_count yX7_count, Cond.code yX7_count cX7_count 2 (some .int), Cond.fieldLink RX7 277 "TallowHours$Text" "length" "I", Cond.fieldLink RX7 283 "TallowHours$Burning" "cost" "I", Cond.methodLink RX7 280 yX2_contentGuests, Cond.instanceMethod yX2_contentGuests, Cond.selects RX2 yX2_contentGuests yX2_contentGuests, Cond.code yX2_contentGuests cX2_contentGuests 4 (some .int), Cond.methodLink RX2 79 yX2_isContent, Cond.methodLink RL 146 yX8_count, Cond.instanceMethod yX8_count]
def wsL_law_r35 : List Cond := [Cond.selects RX8 yX8_count yX8_count, Cond.code yX8_count cX8_count 5 (some .int)]
def wsL_law : List Cond := (wsL_law_r1 ++ (wsL_law_r2 ++ (wsL_law_r3 ++ (wsL_law_r4 ++ (wsL_law_r5 ++ (wsL_law_r6 ++ (wsL_law_r7 ++ (wsL_law_r8 ++ (wsL_law_r9 ++ (wsL_law_r10 ++ (wsL_law_r11 ++ (wsL_law_r12 ++ (wsL_law_r13 ++ (wsL_law_r14 ++ (wsL_law_r15 ++ (wsL_law_r16 ++ (wsL_law_r17 ++ (wsL_law_r18 ++ (wsL_law_r19 ++ (wsL_law_r20 ++ (wsL_law_r21 ++ (wsL_law_r22 ++ (wsL_law_r23 ++ (wsL_law_r24 ++ (wsL_law_r25 ++ (wsL_law_r26 ++ (wsL_law_r27 ++ (wsL_law_r28 ++ (wsL_law_r29 ++ (wsL_law_r30 ++ (wsL_law_r31 ++ (wsL_law_r32 ++ (wsL_law_r33 ++ (wsL_law_r34 ++ wsL_law_r35)))))))))))))))))))))))))))))))))) ++ wsX70 ++ wsX80 ++ wsX60 ++ wsX20 ++ wsX00 ++ wsX40 ++ wsX10 ++ wsX50 ++ wsX30 ++ ([] : List Cond)
theorem tb1 {w : Cond} (h : w ∈ tables_1_1) : w ∈ lw_tbl := List.mem_append_right _ (List.mem_append_left _ h)
theorem tb2 {w : Cond} (h : w ∈ tables_1_2) : w ∈ lw_tbl := List.mem_append_right _ (List.mem_append_right _ (List.mem_append_left _ h))
theorem tb3 {w : Cond} (h : w ∈ tables_1_3) : w ∈ lw_tbl := List.mem_append_right _ (List.mem_append_right _ (List.mem_append_right _ (List.mem_append_left _ h)))
theorem tb4 {w : Cond} (h : w ∈ tables_1_4) : w ∈ lw_tbl := List.mem_append_right _ (List.mem_append_right _ (List.mem_append_right _ (List.mem_append_right _ (List.mem_append_left _ h))))
theorem tb5 {w : Cond} (h : w ∈ tables_1_5) : w ∈ lw_tbl := List.mem_append_right _ (List.mem_append_right _ (List.mem_append_right _ (List.mem_append_right _ (List.mem_append_right _ (h)))))
theorem inR {w : Cond} (h : w ∈ (wsL_law_r1 ++ (wsL_law_r2 ++ (wsL_law_r3 ++ (wsL_law_r4 ++ (wsL_law_r5 ++ (wsL_law_r6 ++ (wsL_law_r7 ++ (wsL_law_r8 ++ (wsL_law_r9 ++ (wsL_law_r10 ++ (wsL_law_r11 ++ (wsL_law_r12 ++ (wsL_law_r13 ++ (wsL_law_r14 ++ (wsL_law_r15 ++ (wsL_law_r16 ++ (wsL_law_r17 ++ (wsL_law_r18 ++ (wsL_law_r19 ++ (wsL_law_r20 ++ (wsL_law_r21 ++ (wsL_law_r22 ++ (wsL_law_r23 ++ (wsL_law_r24 ++ (wsL_law_r25 ++ (wsL_law_r26 ++ (wsL_law_r27 ++ (wsL_law_r28 ++ (wsL_law_r29 ++ (wsL_law_r30 ++ (wsL_law_r31 ++ (wsL_law_r32 ++ (wsL_law_r33 ++ (wsL_law_r34 ++ (wsL_law_r35)))))))))))))))))))))))))))))))))))) : w ∈ wsL_law := List.mem_append_left _ (List.mem_append_left _ (List.mem_append_left _ (List.mem_append_left _ (List.mem_append_left _ (List.mem_append_left _ (List.mem_append_left _ (List.mem_append_left _ (List.mem_append_left _ (List.mem_append_left _ (h))))))))))
theorem inr1 {w : Cond} (h : w ∈ wsL_law_r1) : w ∈ wsL_law := inR (List.mem_append_left _ h)
theorem inr2 {w : Cond} (h : w ∈ wsL_law_r2) : w ∈ wsL_law := inR (List.mem_append_right _ (List.mem_append_left _ h))
theorem inr3 {w : Cond} (h : w ∈ wsL_law_r3) : w ∈ wsL_law := inR (List.mem_append_right _ (List.mem_append_right _ (List.mem_append_left _ h)))
theorem inr4 {w : Cond} (h : w ∈ wsL_law_r4) : w ∈ wsL_law := inR (List.mem_append_right _ (List.mem_append_right _ (List.mem_append_right _ (List.mem_append_left _ h))))
theorem inr5 {w : Cond} (h : w ∈ wsL_law_r5) : w ∈ wsL_law := inR (List.mem_append_right _ (List.mem_append_right _ (List.mem_append_right _ (List.mem_append_right _ (List.mem_append_left _ h)))))
theorem inr6 {w : Cond} (h : w ∈ wsL_law_r6) : w ∈ wsL_law := inR (List.mem_append_right _ (List.mem_append_right _ (List.mem_append_right _ (List.mem_append_right _ (List.mem_append_right _ (List.mem_append_left _ h))))))
theorem inr7 {w : Cond} (h : w ∈ wsL_law_r7) : w ∈ wsL_law := inR (List.mem_append_right _ (List.mem_append_right _ (List.mem_append_right _ (List.mem_append_right _ (List.mem_append_right _ (List.mem_append_right _ (List.mem_append_left _ h)))))))
theorem inr8 {w : Cond} (h : w ∈ wsL_law_r8) : w ∈ wsL_law := inR (List.mem_append_right _ (List.mem_append_right _ (List.mem_append_right _ (List.mem_append_right _ (List.mem_append_right _ (List.mem_append_right _ (List.mem_append_right _ (List.mem_append_left _ h))))))))
theorem inr9 {w : Cond} (h : w ∈ wsL_law_r9) : w ∈ wsL_law := inR (List.mem_append_right _ (List.mem_append_right _ (List.mem_append_right _ (List.mem_append_right _ (List.mem_append_right _ (List.mem_append_right _ (List.mem_append_right _ (List.mem_append_right _ (List.mem_append_left _ h)))))))))
theorem inr10 {w : Cond} (h : w ∈ wsL_law_r10) : w ∈ wsL_law := inR (List.mem_append_right _ (List.mem_append_right _ (List.mem_append_right _ (List.mem_append_right _ (List.mem_append_right _ (List.mem_append_right _ (List.mem_append_right _ (List.mem_append_right _ (List.mem_append_right _ (List.mem_append_left _ h))))))))))
theorem inr11 {w : Cond} (h : w ∈ wsL_law_r11) : w ∈ wsL_law := inR (List.mem_append_right _ (List.mem_append_right _ (List.mem_append_right _ (List.mem_append_right _ (List.mem_append_right _ (List.mem_append_right _ (List.mem_append_right _ (List.mem_append_right _ (List.mem_append_right _ (List.mem_append_right _ (List.mem_append_left _ h)))))))))))
theorem inr12 {w : Cond} (h : w ∈ wsL_law_r12) : w ∈ wsL_law := inR (List.mem_append_right _ (List.mem_append_right _ (List.mem_append_right _ (List.mem_append_right _ (List.mem_append_right _ (List.mem_append_right _ (List.mem_append_right _ (List.mem_append_right _ (List.mem_append_right _ (List.mem_append_right _ (List.mem_append_right _ (List.mem_append_left _ h))))))))))))
theorem inr13 {w : Cond} (h : w ∈ wsL_law_r13) : w ∈ wsL_law := inR (List.mem_append_right _ (List.mem_append_right _ (List.mem_append_right _ (List.mem_append_right _ (List.mem_append_right _ (List.mem_append_right _ (List.mem_append_right _ (List.mem_append_right _ (List.mem_append_right _ (List.mem_append_right _ (List.mem_append_right _ (List.mem_append_right _ (List.mem_append_left _ h)))))))))))))
theorem inr14 {w : Cond} (h : w ∈ wsL_law_r14) : w ∈ wsL_law := inR (List.mem_append_right _ (List.mem_append_right _ (List.mem_append_right _ (List.mem_append_right _ (List.mem_append_right _ (List.mem_append_right _ (List.mem_append_right _ (List.mem_append_right _ (List.mem_append_right _ (List.mem_append_right _ (List.mem_append_right _ (List.mem_append_right _ (List.mem_append_right _ (List.mem_append_left _ h))))))))))))))
theorem inr15 {w : Cond} (h : w ∈ wsL_law_r15) : w ∈ wsL_law := inR (List.mem_append_right _ (List.mem_append_right _ (List.mem_append_right _ (List.mem_append_right _ (List.mem_append_right _ (List.mem_append_right _ (List.mem_append_right _ (List.mem_append_right _ (List.mem_append_right _ (List.mem_append_right _ (List.mem_append_right _ (List.mem_append_right _ (List.mem_append_right _ (List.mem_append_right _ (List.mem_append_left _ h)))))))))))))))
theorem inr16 {w : Cond} (h : w ∈ wsL_law_r16) : w ∈ wsL_law := inR (List.mem_append_right _ (List.mem_append_right _ (List.mem_append_right _ (List.mem_append_right _ (List.mem_append_right _ (List.mem_append_right _ (List.mem_append_right _ (List.mem_append_right _ (List.mem_append_right _ (List.mem_append_right _ (List.mem_append_right _ (List.mem_append_right _ (List.mem_append_right _ (List.mem_append_right _ (List.mem_append_right _ (List.mem_append_left _ h))))))))))))))))
theorem inr17 {w : Cond} (h : w ∈ wsL_law_r17) : w ∈ wsL_law := inR (List.mem_append_right _ (List.mem_append_right _ (List.mem_append_right _ (List.mem_append_right _ (List.mem_append_right _ (List.mem_append_right _ (List.mem_append_right _ (List.mem_append_right _ (List.mem_append_right _ (List.mem_append_right _ (List.mem_append_right _ (List.mem_append_right _ (List.mem_append_right _ (List.mem_append_right _ (List.mem_append_right _ (List.mem_append_right _ (List.mem_append_left _ h)))))))))))))))))
theorem inr18 {w : Cond} (h : w ∈ wsL_law_r18) : w ∈ wsL_law := inR (List.mem_append_right _ (List.mem_append_right _ (List.mem_append_right _ (List.mem_append_right _ (List.mem_append_right _ (List.mem_append_right _ (List.mem_append_right _ (List.mem_append_right _ (List.mem_append_right _ (List.mem_append_right _ (List.mem_append_right _ (List.mem_append_right _ (List.mem_append_right _ (List.mem_append_right _ (List.mem_append_right _ (List.mem_append_right _ (List.mem_append_right _ (List.mem_append_left _ h))))))))))))))))))
theorem inr19 {w : Cond} (h : w ∈ wsL_law_r19) : w ∈ wsL_law := inR (List.mem_append_right _ (List.mem_append_right _ (List.mem_append_right _ (List.mem_append_right _ (List.mem_append_right _ (List.mem_append_right _ (List.mem_append_right _ (List.mem_append_right _ (List.mem_append_right _ (List.mem_append_right _ (List.mem_append_right _ (List.mem_append_right _ (List.mem_append_right _ (List.mem_append_right _ (List.mem_append_right _ (List.mem_append_right _ (List.mem_append_right _ (List.mem_append_right _ (List.mem_append_left _ h)))))))))))))))))))
theorem inr20 {w : Cond} (h : w ∈ wsL_law_r20) : w ∈ wsL_law := inR (List.mem_append_right _ (List.mem_append_right _ (List.mem_append_right _ (List.mem_append_right _ (List.mem_append_right _ (List.mem_append_right _ (List.mem_append_right _ (List.mem_append_right _ (List.mem_append_right _ (List.mem_append_right _ (List.mem_append_right _ (List.mem_append_right _ (List.mem_append_right _ (List.mem_append_right _ (List.mem_append_right _ (List.mem_append_right _ (List.mem_append_right _ (List.mem_append_right _ (List.mem_append_right _ (List.mem_append_left _ h))))))))))))))))))))
theorem inr21 {w : Cond} (h : w ∈ wsL_law_r21) : w ∈ wsL_law := inR (List.mem_append_right _ (List.mem_append_right _ (List.mem_append_right _ (List.mem_append_right _ (List.mem_append_right _ (List.mem_append_right _ (List.mem_append_right _ (List.mem_append_right _ (List.mem_append_right _ (List.mem_append_right _ (List.mem_append_right _ (List.mem_append_right _ (List.mem_append_right _ (List.mem_append_right _ (List.mem_append_right _ (List.mem_append_right _ (List.mem_append_right _ (List.mem_append_right _ (List.mem_append_right _ (List.mem_append_right _ (List.mem_append_left _ h)))))))))))))))))))))
theorem inr22 {w : Cond} (h : w ∈ wsL_law_r22) : w ∈ wsL_law := inR (List.mem_append_right _ (List.mem_append_right _ (List.mem_append_right _ (List.mem_append_right _ (List.mem_append_right _ (List.mem_append_right _ (List.mem_append_right _ (List.mem_append_right _ (List.mem_append_right _ (List.mem_append_right _ (List.mem_append_right _ (List.mem_append_right _ (List.mem_append_right _ (List.mem_append_right _ (List.mem_append_right _ (List.mem_append_right _ (List.mem_append_right _ (List.mem_append_right _ (List.mem_append_right _ (List.mem_append_right _ (List.mem_append_right _ (List.mem_append_left _ h))))))))))))))))))))))
theorem inr23 {w : Cond} (h : w ∈ wsL_law_r23) : w ∈ wsL_law := inR (List.mem_append_right _ (List.mem_append_right _ (List.mem_append_right _ (List.mem_append_right _ (List.mem_append_right _ (List.mem_append_right _ (List.mem_append_right _ (List.mem_append_right _ (List.mem_append_right _ (List.mem_append_right _ (List.mem_append_right _ (List.mem_append_right _ (List.mem_append_right _ (List.mem_append_right _ (List.mem_append_right _ (List.mem_append_right _ (List.mem_append_right _ (List.mem_append_right _ (List.mem_append_right _ (List.mem_append_right _ (List.mem_append_right _ (List.mem_append_right _ (List.mem_append_left _ h)))))))))))))))))))))))
theorem inr24 {w : Cond} (h : w ∈ wsL_law_r24) : w ∈ wsL_law := inR (List.mem_append_right _ (List.mem_append_right _ (List.mem_append_right _ (List.mem_append_right _ (List.mem_append_right _ (List.mem_append_right _ (List.mem_append_right _ (List.mem_append_right _ (List.mem_append_right _ (List.mem_append_right _ (List.mem_append_right _ (List.mem_append_right _ (List.mem_append_right _ (List.mem_append_right _ (List.mem_append_right _ (List.mem_append_right _ (List.mem_append_right _ (List.mem_append_right _ (List.mem_append_right _ (List.mem_append_right _ (List.mem_append_right _ (List.mem_append_right _ (List.mem_append_right _ (List.mem_append_left _ h))))))))))))))))))))))))
theorem inr25 {w : Cond} (h : w ∈ wsL_law_r25) : w ∈ wsL_law := inR (List.mem_append_right _ (List.mem_append_right _ (List.mem_append_right _ (List.mem_append_right _ (List.mem_append_right _ (List.mem_append_right _ (List.mem_append_right _ (List.mem_append_right _ (List.mem_append_right _ (List.mem_append_right _ (List.mem_append_right _ (List.mem_append_right _ (List.mem_append_right _ (List.mem_append_right _ (List.mem_append_right _ (List.mem_append_right _ (List.mem_append_right _ (List.mem_append_right _ (List.mem_append_right _ (List.mem_append_right _ (List.mem_append_right _ (List.mem_append_right _ (List.mem_append_right _ (List.mem_append_right _ (List.mem_append_left _ h)))))))))))))))))))))))))
theorem inr26 {w : Cond} (h : w ∈ wsL_law_r26) : w ∈ wsL_law := inR (List.mem_append_right _ (List.mem_append_right _ (List.mem_append_right _ (List.mem_append_right _ (List.mem_append_right _ (List.mem_append_right _ (List.mem_append_right _ (List.mem_append_right _ (List.mem_append_right _ (List.mem_append_right _ (List.mem_append_right _ (List.mem_append_right _ (List.mem_append_right _ (List.mem_append_right _ (List.mem_append_right _ (List.mem_append_right _ (List.mem_append_right _ (List.mem_append_right _ (List.mem_append_right _ (List.mem_append_right _ (List.mem_append_right _ (List.mem_append_right _ (List.mem_append_right _ (List.mem_append_right _ (List.mem_append_right _ (List.mem_append_left _ h))))))))))))))))))))))))))
theorem inr27 {w : Cond} (h : w ∈ wsL_law_r27) : w ∈ wsL_law := inR (List.mem_append_right _ (List.mem_append_right _ (List.mem_append_right _ (List.mem_append_right _ (List.mem_append_right _ (List.mem_append_right _ (List.mem_append_right _ (List.mem_append_right _ (List.mem_append_right _ (List.mem_append_right _ (List.mem_append_right _ (List.mem_append_right _ (List.mem_append_right _ (List.mem_append_right _ (List.mem_append_right _ (List.mem_append_right _ (List.mem_append_right _ (List.mem_append_right _ (List.mem_append_right _ (List.mem_append_right _ (List.mem_append_right _ (List.mem_append_right _ (List.mem_append_right _ (List.mem_append_right _ (List.mem_append_right _ (List.mem_append_right _ (List.mem_append_left _ h)))))))))))))))))))))))))))
theorem inr28 {w : Cond} (h : w ∈ wsL_law_r28) : w ∈ wsL_law := inR (List.mem_append_right _ (List.mem_append_right _ (List.mem_append_right _ (List.mem_append_right _ (List.mem_append_right _ (List.mem_append_right _ (List.mem_append_right _ (List.mem_append_right _ (List.mem_append_right _ (List.mem_append_right _ (List.mem_append_right _ (List.mem_append_right _ (List.mem_append_right _ (List.mem_append_right _ (List.mem_append_right _ (List.mem_append_right _ (List.mem_append_right _ (List.mem_append_right _ (List.mem_append_right _ (List.mem_append_right _ (List.mem_append_right _ (List.mem_append_right _ (List.mem_append_right _ (List.mem_append_right _ (List.mem_append_right _ (List.mem_append_right _ (List.mem_append_right _ (List.mem_append_left _ h))))))))))))))))))))))))))))
theorem inr29 {w : Cond} (h : w ∈ wsL_law_r29) : w ∈ wsL_law := inR (List.mem_append_right _ (List.mem_append_right _ (List.mem_append_right _ (List.mem_append_right _ (List.mem_append_right _ (List.mem_append_right _ (List.mem_append_right _ (List.mem_append_right _ (List.mem_append_right _ (List.mem_append_right _ (List.mem_append_right _ (List.mem_append_right _ (List.mem_append_right _ (List.mem_append_right _ (List.mem_append_right _ (List.mem_append_right _ (List.mem_append_right _ (List.mem_append_right _ (List.mem_append_right _ (List.mem_append_right _ (List.mem_append_right _ (List.mem_append_right _ (List.mem_append_right _ (List.mem_append_right _ (List.mem_append_right _ (List.mem_append_right _ (List.mem_append_right _ (List.mem_append_right _ (List.mem_append_left _ h)))))))))))))))))))))))))))))
theorem inr30 {w : Cond} (h : w ∈ wsL_law_r30) : w ∈ wsL_law := inR (List.mem_append_right _ (List.mem_append_right _ (List.mem_append_right _ (List.mem_append_right _ (List.mem_append_right _ (List.mem_append_right _ (List.mem_append_right _ (List.mem_append_right _ (List.mem_append_right _ (List.mem_append_right _ (List.mem_append_right _ (List.mem_append_right _ (List.mem_append_right _ (List.mem_append_right _ (List.mem_append_right _ (List.mem_append_right _ (List.mem_append_right _ (List.mem_append_right _ (List.mem_append_right _ (List.mem_append_right _ (List.mem_append_right _ (List.mem_append_right _ (List.mem_append_right _ (List.mem_append_right _ (List.mem_append_right _ (List.mem_append_right _ (List.mem_append_right _ (List.mem_append_right _ (List.mem_append_right _ (List.mem_append_left _ h))))))))))))))))))))))))))))))
theorem inr31 {w : Cond} (h : w ∈ wsL_law_r31) : w ∈ wsL_law := inR (List.mem_append_right _ (List.mem_append_right _ (List.mem_append_right _ (List.mem_append_right _ (List.mem_append_right _ (List.mem_append_right _ (List.mem_append_right _ (List.mem_append_right _ (List.mem_append_right _ (List.mem_append_right _ (List.mem_append_right _ (List.mem_append_right _ (List.mem_append_right _ (List.mem_append_right _ (List.mem_append_right _ (List.mem_append_right _ (List.mem_append_right _ (List.mem_append_right _ (List.mem_append_right _ (List.mem_append_right _ (List.mem_append_right _ (List.mem_append_right _ (List.mem_append_right _ (List.mem_append_right _ (List.mem_append_right _ (List.mem_append_right _ (List.mem_append_right _ (List.mem_append_right _ (List.mem_append_right _ (List.mem_append_right _ (List.mem_append_left _ h)))))))))))))))))))))))))))))))
theorem inr32 {w : Cond} (h : w ∈ wsL_law_r32) : w ∈ wsL_law := inR (List.mem_append_right _ (List.mem_append_right _ (List.mem_append_right _ (List.mem_append_right _ (List.mem_append_right _ (List.mem_append_right _ (List.mem_append_right _ (List.mem_append_right _ (List.mem_append_right _ (List.mem_append_right _ (List.mem_append_right _ (List.mem_append_right _ (List.mem_append_right _ (List.mem_append_right _ (List.mem_append_right _ (List.mem_append_right _ (List.mem_append_right _ (List.mem_append_right _ (List.mem_append_right _ (List.mem_append_right _ (List.mem_append_right _ (List.mem_append_right _ (List.mem_append_right _ (List.mem_append_right _ (List.mem_append_right _ (List.mem_append_right _ (List.mem_append_right _ (List.mem_append_right _ (List.mem_append_right _ (List.mem_append_right _ (List.mem_append_right _ (List.mem_append_left _ h))))))))))))))))))))))))))))))))
theorem inr33 {w : Cond} (h : w ∈ wsL_law_r33) : w ∈ wsL_law := inR (List.mem_append_right _ (List.mem_append_right _ (List.mem_append_right _ (List.mem_append_right _ (List.mem_append_right _ (List.mem_append_right _ (List.mem_append_right _ (List.mem_append_right _ (List.mem_append_right _ (List.mem_append_right _ (List.mem_append_right _ (List.mem_append_right _ (List.mem_append_right _ (List.mem_append_right _ (List.mem_append_right _ (List.mem_append_right _ (List.mem_append_right _ (List.mem_append_right _ (List.mem_append_right _ (List.mem_append_right _ (List.mem_append_right _ (List.mem_append_right _ (List.mem_append_right _ (List.mem_append_right _ (List.mem_append_right _ (List.mem_append_right _ (List.mem_append_right _ (List.mem_append_right _ (List.mem_append_right _ (List.mem_append_right _ (List.mem_append_right _ (List.mem_append_right _ (List.mem_append_left _ h)))))))))))))))))))))))))))))))))
theorem inr34 {w : Cond} (h : w ∈ wsL_law_r34) : w ∈ wsL_law := inR (List.mem_append_right _ (List.mem_append_right _ (List.mem_append_right _ (List.mem_append_right _ (List.mem_append_right _ (List.mem_append_right _ (List.mem_append_right _ (List.mem_append_right _ (List.mem_append_right _ (List.mem_append_right _ (List.mem_append_right _ (List.mem_append_right _ (List.mem_append_right _ (List.mem_append_right _ (List.mem_append_right _ (List.mem_append_right _ (List.mem_append_right _ (List.mem_append_right _ (List.mem_append_right _ (List.mem_append_right _ (List.mem_append_right _ (List.mem_append_right _ (List.mem_append_right _ (List.mem_append_right _ (List.mem_append_right _ (List.mem_append_right _ (List.mem_append_right _ (List.mem_append_right _ (List.mem_append_right _ (List.mem_append_right _ (List.mem_append_right _ (List.mem_append_right _ (List.mem_append_right _ (List.mem_append_left _ h))))))))))))))))))))))))))))))))))
theorem inr35 {w : Cond} (h : w ∈ wsL_law_r35) : w ∈ wsL_law := inR (List.mem_append_right _ (List.mem_append_right _ (List.mem_append_right _ (List.mem_append_right _ (List.mem_append_right _ (List.mem_append_right _ (List.mem_append_right _ (List.mem_append_right _ (List.mem_append_right _ (List.mem_append_right _ (List.mem_append_right _ (List.mem_append_right _ (List.mem_append_right _ (List.mem_append_right _ (List.mem_append_right _ (List.mem_append_right _ (List.mem_append_right _ (List.mem_append_right _ (List.mem_append_right _ (List.mem_append_right _ (List.mem_append_right _ (List.mem_append_right _ (List.mem_append_right _ (List.mem_append_right _ (List.mem_append_right _ (List.mem_append_right _ (List.mem_append_right _ (List.mem_append_right _ (List.mem_append_right _ (List.mem_append_right _ (List.mem_append_right _ (List.mem_append_right _ (List.mem_append_right _ (List.mem_append_right _ (h)))))))))))))))))))))))))))))))))))
theorem tw1_0 : Cond.classLink RL 7 RX7 ∈ lw_tbl := tb1 (List.mem_of_getElem? (i := 14) rfl)
theorem mw1_0 : Cond.classLink RL 7 RX7 ∈ wsL_law := inr1 (List.mem_of_getElem? (i := 0) rfl)
theorem tw1_1 : Cond.instantiable RX7 12 ∈ lw_tbl := tb1 (List.mem_of_getElem? (i := 15) rfl)
theorem mw1_1 : Cond.instantiable RX7 12 ∈ wsL_law := inr1 (List.mem_of_getElem? (i := 1) rfl)
theorem tw1_2 : Cond.initialized RX7 ∈ lw_tbl := tb1 (List.mem_of_getElem? (i := 1) rfl)
theorem mw1_2 : Cond.initialized RX7 ∈ wsL_law := inr1 (List.mem_of_getElem? (i := 2) rfl)
theorem tw1_3 : Cond.classLink RL 10 RX8 ∈ lw_tbl := tb3 (List.mem_of_getElem? (i := 168) rfl)
theorem mw1_3 : Cond.classLink RL 10 RX8 ∈ wsL_law := inr1 (List.mem_of_getElem? (i := 3) rfl)
theorem tw1_4 : Cond.instantiable RX8 34 ∈ lw_tbl := tb3 (List.mem_of_getElem? (i := 169) rfl)
theorem mw1_4 : Cond.instantiable RX8 34 ∈ wsL_law := inr1 (List.mem_of_getElem? (i := 4) rfl)
theorem tw1_5 : Cond.initialized RX8 ∈ lw_tbl := tb1 (List.mem_of_getElem? (i := 9) rfl)
theorem mw1_5 : Cond.initialized RX8 ∈ wsL_law := inr1 (List.mem_of_getElem? (i := 5) rfl)
theorem tw1_6 : Cond.constantLong RL 124 (4294967295) ∈ lw_tbl := tb5 (List.mem_of_getElem? (i := 37) rfl)
theorem mw1_6 : Cond.constantLong RL 124 (4294967295) ∈ wsL_law := inr1 (List.mem_of_getElem? (i := 6) rfl)
theorem tw1_7 : Cond.methodLink RL 9 yX7_init ∈ lw_tbl := tb1 (List.mem_of_getElem? (i := 16) rfl)
theorem mw1_7 : Cond.methodLink RL 9 yX7_init ∈ wsL_law := inr1 (List.mem_of_getElem? (i := 7) rfl)
theorem tw1_8 : Cond.instanceMethod yX7_init ∈ lw_tbl := tb1 (List.mem_of_getElem? (i := 17) rfl)
theorem mw1_8 : Cond.instanceMethod yX7_init ∈ wsL_law := inr1 (List.mem_of_getElem? (i := 8) rfl)
theorem tw1_9 : Cond.code yX7_init cX7_init 1 none ∈ lw_tbl := tb1 (List.mem_of_getElem? (i := 18) rfl)
theorem mw1_9 : Cond.code yX7_init cX7_init 1 none ∈ wsL_law := inr1 (List.mem_of_getElem? (i := 9) rfl)
theorem tw1_10 : Cond.methodLink RX7 1 objectInit ∈ lw_tbl := tb1 (List.mem_of_getElem? (i := 19) rfl)
theorem mw1_10 : Cond.methodLink RX7 1 objectInit ∈ wsL_law := inr1 (List.mem_of_getElem? (i := 10) rfl)
theorem tw1_11 : Cond.instanceMethod objectInit ∈ lw_tbl := tb1 (List.mem_of_getElem? (i := 20) rfl)
theorem mw1_11 : Cond.instanceMethod objectInit ∈ wsL_law := inr1 (List.mem_of_getElem? (i := 11) rfl)
theorem tw1_12 : Cond.code objectInit ⟨#[0xb1]⟩ 1 none ∈ lw_tbl := tb1 (List.mem_of_getElem? (i := 21) rfl)
theorem mw1_12 : Cond.code objectInit ⟨#[0xb1]⟩ 1 none ∈ wsL_law := inr1 (List.mem_of_getElem? (i := 12) rfl)
theorem tw1_13 : Cond.classLink RX7 7 RX6 ∈ lw_tbl := tb1 (List.mem_of_getElem? (i := 22) rfl)
theorem mw1_13 : Cond.classLink RX7 7 RX6 ∈ wsL_law := inr1 (List.mem_of_getElem? (i := 13) rfl)
theorem tw1_14 : Cond.instantiable RX6 2 ∈ lw_tbl := tb1 (List.mem_of_getElem? (i := 23) rfl)
theorem mw1_14 : Cond.instantiable RX6 2 ∈ wsL_law := inr1 (List.mem_of_getElem? (i := 14) rfl)
theorem tw1_15 : Cond.initialized RX6 ∈ lw_tbl := tb1 (List.mem_of_getElem? (i := 2) rfl)
theorem mw1_15 : Cond.initialized RX6 ∈ wsL_law := inr1 (List.mem_of_getElem? (i := 15) rfl)
theorem tw1_16 : Cond.fieldLink RX7 10 "TallowHours" "text" "LTallowHours$Text;" ∈ lw_tbl := tb1 (List.mem_of_getElem? (i := 238) rfl)
theorem mw1_16 : Cond.fieldLink RX7 10 "TallowHours" "text" "LTallowHours$Text;" ∈ wsL_law := inr1 (List.mem_of_getElem? (i := 16) rfl)
theorem tw1_17 : Cond.classLink RX7 16 RX2 ∈ lw_tbl := tb1 (List.mem_of_getElem? (i := 37) rfl)
theorem mw1_17 : Cond.classLink RX7 16 RX2 ∈ wsL_law := inr1 (List.mem_of_getElem? (i := 17) rfl)
theorem tw1_18 : Cond.instantiable RX2 6 ∈ lw_tbl := tb1 (List.mem_of_getElem? (i := 38) rfl)
theorem mw1_18 : Cond.instantiable RX2 6 ∈ wsL_law := inr1 (List.mem_of_getElem? (i := 18) rfl)
theorem tw1_19 : Cond.initialized RX2 ∈ lw_tbl := tb1 (List.mem_of_getElem? (i := 3) rfl)
theorem mw1_19 : Cond.initialized RX2 ∈ wsL_law := inr1 (List.mem_of_getElem? (i := 19) rfl)
theorem tw1_20 : Cond.fieldLink RX7 19 "TallowHours" "now" "LTallowHours$Burning;" ∈ lw_tbl := tb1 (List.mem_of_getElem? (i := 239) rfl)
theorem mw1_20 : Cond.fieldLink RX7 19 "TallowHours" "now" "LTallowHours$Burning;" ∈ wsL_law := inr1 (List.mem_of_getElem? (i := 20) rfl)
theorem tw1_21 : Cond.fieldLink RX7 23 "TallowHours" "trial" "LTallowHours$Burning;" ∈ lw_tbl := tb2 (List.mem_of_getElem? (i := 0) rfl)
theorem mw1_21 : Cond.fieldLink RX7 23 "TallowHours" "trial" "LTallowHours$Burning;" ∈ wsL_law := inr1 (List.mem_of_getElem? (i := 21) rfl)
theorem tw1_22 : Cond.classLink RX7 26 RX0 ∈ lw_tbl := tb1 (List.mem_of_getElem? (i := 72) rfl)
theorem mw1_22 : Cond.classLink RX7 26 RX0 ∈ wsL_law := inr1 (List.mem_of_getElem? (i := 22) rfl)
theorem tw1_23 : Cond.instantiable RX0 3 ∈ lw_tbl := tb1 (List.mem_of_getElem? (i := 73) rfl)
theorem mw1_23 : Cond.instantiable RX0 3 ∈ wsL_law := inr1 (List.mem_of_getElem? (i := 23) rfl)
theorem gdr1 : GoodIn lw_tbl wsL_law_r1 := List.forall_mem_cons.mpr ⟨⟨tw1_0, Or.inl rfl⟩, List.forall_mem_cons.mpr ⟨⟨tw1_1, Or.inl rfl⟩, List.forall_mem_cons.mpr ⟨⟨tw1_2, Or.inl rfl⟩, List.forall_mem_cons.mpr ⟨⟨tw1_3, Or.inl rfl⟩, List.forall_mem_cons.mpr ⟨⟨tw1_4, Or.inl rfl⟩, List.forall_mem_cons.mpr ⟨⟨tw1_5, Or.inl rfl⟩, List.forall_mem_cons.mpr ⟨⟨tw1_6, Or.inl rfl⟩, List.forall_mem_cons.mpr ⟨⟨tw1_7, Or.inl rfl⟩, List.forall_mem_cons.mpr ⟨⟨tw1_8, Or.inl rfl⟩, List.forall_mem_cons.mpr ⟨⟨tw1_9, Or.inl rfl⟩, List.forall_mem_cons.mpr ⟨⟨tw1_10, Or.inl rfl⟩, List.forall_mem_cons.mpr ⟨⟨tw1_11, Or.inl rfl⟩, List.forall_mem_cons.mpr ⟨⟨tw1_12, Or.inl rfl⟩, List.forall_mem_cons.mpr ⟨⟨tw1_13, Or.inl rfl⟩, List.forall_mem_cons.mpr ⟨⟨tw1_14, Or.inl rfl⟩, List.forall_mem_cons.mpr ⟨⟨tw1_15, Or.inl rfl⟩, List.forall_mem_cons.mpr ⟨⟨tw1_16, Or.inl rfl⟩, List.forall_mem_cons.mpr ⟨⟨tw1_17, Or.inl rfl⟩, List.forall_mem_cons.mpr ⟨⟨tw1_18, Or.inl rfl⟩, List.forall_mem_cons.mpr ⟨⟨tw1_19, Or.inl rfl⟩, List.forall_mem_cons.mpr ⟨⟨tw1_20, Or.inl rfl⟩, List.forall_mem_cons.mpr ⟨⟨tw1_21, Or.inl rfl⟩, List.forall_mem_cons.mpr ⟨⟨tw1_22, Or.inl rfl⟩, List.forall_mem_cons.mpr ⟨⟨tw1_23, Or.inl rfl⟩, fun _ h => absurd h List.not_mem_nil⟩⟩⟩⟩⟩⟩⟩⟩⟩⟩⟩⟩⟩⟩⟩⟩⟩⟩⟩⟩⟩⟩⟩⟩
theorem tw2_0 : Cond.initialized RX0 ∈ lw_tbl := tb1 (List.mem_of_getElem? (i := 4) rfl)
theorem mw2_0 : Cond.initialized RX0 ∈ wsL_law := inr2 (List.mem_of_getElem? (i := 0) rfl)
theorem tw2_1 : Cond.fieldLink RX7 29 "TallowHours" "acts" "LTallowHours$Acts;" ∈ lw_tbl := tb2 (List.mem_of_getElem? (i := 1) rfl)
theorem mw2_1 : Cond.fieldLink RX7 29 "TallowHours" "acts" "LTallowHours$Acts;" ∈ wsL_law := inr2 (List.mem_of_getElem? (i := 1) rfl)
theorem tw2_2 : Cond.classLink RX7 33 RX4 ∈ lw_tbl := tb1 (List.mem_of_getElem? (i := 89) rfl)
theorem mw2_2 : Cond.classLink RX7 33 RX4 ∈ wsL_law := inr2 (List.mem_of_getElem? (i := 2) rfl)
theorem tw2_3 : Cond.instantiable RX4 12 ∈ lw_tbl := tb1 (List.mem_of_getElem? (i := 90) rfl)
theorem mw2_3 : Cond.instantiable RX4 12 ∈ wsL_law := inr2 (List.mem_of_getElem? (i := 3) rfl)
theorem tw2_4 : Cond.initialized RX4 ∈ lw_tbl := tb1 (List.mem_of_getElem? (i := 5) rfl)
theorem mw2_4 : Cond.initialized RX4 ∈ wsL_law := inr2 (List.mem_of_getElem? (i := 4) rfl)
theorem tw2_5 : Cond.fieldLink RX7 36 "TallowHours" "planner" "LTallowHours$Planner;" ∈ lw_tbl := tb2 (List.mem_of_getElem? (i := 2) rfl)
theorem mw2_5 : Cond.fieldLink RX7 36 "TallowHours" "planner" "LTallowHours$Planner;" ∈ wsL_law := inr2 (List.mem_of_getElem? (i := 5) rfl)
theorem tw2_6 : Cond.classLink RX7 40 RX1 ∈ lw_tbl := tb1 (List.mem_of_getElem? (i := 136) rfl)
theorem mw2_6 : Cond.classLink RX7 40 RX1 ∈ wsL_law := inr2 (List.mem_of_getElem? (i := 6) rfl)
theorem tw2_7 : Cond.instantiable RX1 2 ∈ lw_tbl := tb1 (List.mem_of_getElem? (i := 137) rfl)
theorem mw2_7 : Cond.instantiable RX1 2 ∈ wsL_law := inr2 (List.mem_of_getElem? (i := 7) rfl)
theorem tw2_8 : Cond.initialized RX1 ∈ lw_tbl := tb1 (List.mem_of_getElem? (i := 6) rfl)
theorem mw2_8 : Cond.initialized RX1 ∈ wsL_law := inr2 (List.mem_of_getElem? (i := 8) rfl)
theorem tw2_9 : Cond.fieldLink RX7 43 "TallowHours" "box" "LTallowHours$Box;" ∈ lw_tbl := tb2 (List.mem_of_getElem? (i := 3) rfl)
theorem mw2_9 : Cond.fieldLink RX7 43 "TallowHours" "box" "LTallowHours$Box;" ∈ wsL_law := inr2 (List.mem_of_getElem? (i := 9) rfl)
theorem tw2_10 : Cond.classLink RX7 47 RX5 ∈ lw_tbl := tb1 (List.mem_of_getElem? (i := 150) rfl)
theorem mw2_10 : Cond.classLink RX7 47 RX5 ∈ wsL_law := inr2 (List.mem_of_getElem? (i := 10) rfl)
theorem tw2_11 : Cond.instantiable RX5 1 ∈ lw_tbl := tb1 (List.mem_of_getElem? (i := 151) rfl)
theorem mw2_11 : Cond.instantiable RX5 1 ∈ wsL_law := inr2 (List.mem_of_getElem? (i := 11) rfl)
theorem tw2_12 : Cond.initialized RX5 ∈ lw_tbl := tb1 (List.mem_of_getElem? (i := 7) rfl)
theorem mw2_12 : Cond.initialized RX5 ∈ wsL_law := inr2 (List.mem_of_getElem? (i := 12) rfl)
theorem tw2_13 : Cond.fieldLink RX7 50 "TallowHours" "saw" "LTallowHours$Saw;" ∈ lw_tbl := tb2 (List.mem_of_getElem? (i := 4) rfl)
theorem mw2_13 : Cond.fieldLink RX7 50 "TallowHours" "saw" "LTallowHours$Saw;" ∈ wsL_law := inr2 (List.mem_of_getElem? (i := 13) rfl)
theorem tw2_14 : Cond.arrayClass .int ∈ lw_tbl := tb1 (List.mem_of_getElem? (i := 36) rfl)
theorem mw2_14 : Cond.arrayClass .int ∈ wsL_law := inr2 (List.mem_of_getElem? (i := 14) rfl)
theorem tw2_15 : Cond.fieldLink RX7 54 "TallowHours" "slotCells" "[I" ∈ lw_tbl := tb2 (List.mem_of_getElem? (i := 5) rfl)
theorem mw2_15 : Cond.fieldLink RX7 54 "TallowHours" "slotCells" "[I" ∈ wsL_law := inr2 (List.mem_of_getElem? (i := 15) rfl)
theorem tw2_16 : Cond.arrayClass .boolean ∈ lw_tbl := tb1 (List.mem_of_getElem? (i := 237) rfl)
theorem mw2_16 : Cond.arrayClass .boolean ∈ wsL_law := inr2 (List.mem_of_getElem? (i := 16) rfl)
theorem tw2_17 : Cond.fieldLink RX7 58 "TallowHours" "slotFilled" "[Z" ∈ lw_tbl := tb2 (List.mem_of_getElem? (i := 6) rfl)
theorem mw2_17 : Cond.fieldLink RX7 58 "TallowHours" "slotFilled" "[Z" ∈ wsL_law := inr2 (List.mem_of_getElem? (i := 17) rfl)
theorem tw2_18 : Cond.classLink RX7 62 RX3 ∈ lw_tbl := tb1 (List.mem_of_getElem? (i := 160) rfl)
theorem mw2_18 : Cond.classLink RX7 62 RX3 ∈ wsL_law := inr2 (List.mem_of_getElem? (i := 18) rfl)
theorem tw2_19 : Cond.instantiable RX3 11 ∈ lw_tbl := tb1 (List.mem_of_getElem? (i := 161) rfl)
theorem mw2_19 : Cond.instantiable RX3 11 ∈ wsL_law := inr2 (List.mem_of_getElem? (i := 19) rfl)
theorem tw2_20 : Cond.initialized RX3 ∈ lw_tbl := tb1 (List.mem_of_getElem? (i := 8) rfl)
theorem mw2_20 : Cond.initialized RX3 ∈ wsL_law := inr2 (List.mem_of_getElem? (i := 20) rfl)
theorem tw2_21 : Cond.fieldLink RX7 65 "TallowHours" "told" "LTallowHours$Party;" ∈ lw_tbl := tb2 (List.mem_of_getElem? (i := 7) rfl)
theorem mw2_21 : Cond.fieldLink RX7 65 "TallowHours" "told" "LTallowHours$Party;" ∈ wsL_law := inr2 (List.mem_of_getElem? (i := 21) rfl)
theorem tw2_22 : Cond.fieldLink RX7 69 "TallowHours" "draft" "LTallowHours$Party;" ∈ lw_tbl := tb2 (List.mem_of_getElem? (i := 8) rfl)
theorem mw2_22 : Cond.fieldLink RX7 69 "TallowHours" "draft" "LTallowHours$Party;" ∈ wsL_law := inr2 (List.mem_of_getElem? (i := 22) rfl)
theorem tw2_23 : Cond.fieldLink RX7 72 "TallowHours" "seedNow" "J" ∈ lw_tbl := tb2 (List.mem_of_getElem? (i := 9) rfl)
theorem mw2_23 : Cond.fieldLink RX7 72 "TallowHours" "seedNow" "J" ∈ wsL_law := inr2 (List.mem_of_getElem? (i := 23) rfl)
theorem gdr2 : GoodIn lw_tbl wsL_law_r2 := List.forall_mem_cons.mpr ⟨⟨tw2_0, Or.inl rfl⟩, List.forall_mem_cons.mpr ⟨⟨tw2_1, Or.inl rfl⟩, List.forall_mem_cons.mpr ⟨⟨tw2_2, Or.inl rfl⟩, List.forall_mem_cons.mpr ⟨⟨tw2_3, Or.inl rfl⟩, List.forall_mem_cons.mpr ⟨⟨tw2_4, Or.inl rfl⟩, List.forall_mem_cons.mpr ⟨⟨tw2_5, Or.inl rfl⟩, List.forall_mem_cons.mpr ⟨⟨tw2_6, Or.inl rfl⟩, List.forall_mem_cons.mpr ⟨⟨tw2_7, Or.inl rfl⟩, List.forall_mem_cons.mpr ⟨⟨tw2_8, Or.inl rfl⟩, List.forall_mem_cons.mpr ⟨⟨tw2_9, Or.inl rfl⟩, List.forall_mem_cons.mpr ⟨⟨tw2_10, Or.inl rfl⟩, List.forall_mem_cons.mpr ⟨⟨tw2_11, Or.inl rfl⟩, List.forall_mem_cons.mpr ⟨⟨tw2_12, Or.inl rfl⟩, List.forall_mem_cons.mpr ⟨⟨tw2_13, Or.inl rfl⟩, List.forall_mem_cons.mpr ⟨⟨tw2_14, Or.inr ⟨_, rfl⟩⟩, List.forall_mem_cons.mpr ⟨⟨tw2_15, Or.inl rfl⟩, List.forall_mem_cons.mpr ⟨⟨tw2_16, Or.inr ⟨_, rfl⟩⟩, List.forall_mem_cons.mpr ⟨⟨tw2_17, Or.inl rfl⟩, List.forall_mem_cons.mpr ⟨⟨tw2_18, Or.inl rfl⟩, List.forall_mem_cons.mpr ⟨⟨tw2_19, Or.inl rfl⟩, List.forall_mem_cons.mpr ⟨⟨tw2_20, Or.inl rfl⟩, List.forall_mem_cons.mpr ⟨⟨tw2_21, Or.inl rfl⟩, List.forall_mem_cons.mpr ⟨⟨tw2_22, Or.inl rfl⟩, List.forall_mem_cons.mpr ⟨⟨tw2_23, Or.inl rfl⟩, fun _ h => absurd h List.not_mem_nil⟩⟩⟩⟩⟩⟩⟩⟩⟩⟩⟩⟩⟩⟩⟩⟩⟩⟩⟩⟩⟩⟩⟩⟩
theorem tw3_0 : Cond.methodLink RX7 9 yX6_init ∈ lw_tbl := tb1 (List.mem_of_getElem? (i := 24) rfl)
theorem mw3_0 : Cond.methodLink RX7 9 yX6_init ∈ wsL_law := inr3 (List.mem_of_getElem? (i := 0) rfl)
theorem tw3_1 : Cond.instanceMethod yX6_init ∈ lw_tbl := tb1 (List.mem_of_getElem? (i := 25) rfl)
theorem mw3_1 : Cond.instanceMethod yX6_init ∈ wsL_law := inr3 (List.mem_of_getElem? (i := 1) rfl)
theorem tw3_2 : Cond.code yX6_init cX6_init 1 none ∈ lw_tbl := tb1 (List.mem_of_getElem? (i := 26) rfl)
theorem mw3_2 : Cond.code yX6_init cX6_init 1 none ∈ wsL_law := inr3 (List.mem_of_getElem? (i := 2) rfl)
theorem tw3_3 : Cond.methodLink RX6 3 objectInit ∈ lw_tbl := tb1 (List.mem_of_getElem? (i := 27) rfl)
theorem mw3_3 : Cond.methodLink RX6 3 objectInit ∈ wsL_law := inr3 (List.mem_of_getElem? (i := 3) rfl)
theorem tw3_4 : Cond.fieldLink RX6 9 "TallowHours$Text" "letters" "[I" ∈ lw_tbl := tb1 (List.mem_of_getElem? (i := 28) rfl)
theorem mw3_4 : Cond.fieldLink RX6 9 "TallowHours$Text" "letters" "[I" ∈ wsL_law := inr3 (List.mem_of_getElem? (i := 4) rfl)
theorem tw3_5 : Cond.fieldLink RX6 15 "TallowHours$Text" "length" "I" ∈ lw_tbl := tb1 (List.mem_of_getElem? (i := 29) rfl)
theorem mw3_5 : Cond.fieldLink RX6 15 "TallowHours$Text" "length" "I" ∈ wsL_law := inr3 (List.mem_of_getElem? (i := 5) rfl)
theorem tw3_6 : Cond.methodLink RX7 18 yX2_init ∈ lw_tbl := tb1 (List.mem_of_getElem? (i := 39) rfl)
theorem mw3_6 : Cond.methodLink RX7 18 yX2_init ∈ wsL_law := inr3 (List.mem_of_getElem? (i := 6) rfl)
theorem tw3_7 : Cond.instanceMethod yX2_init ∈ lw_tbl := tb1 (List.mem_of_getElem? (i := 40) rfl)
theorem mw3_7 : Cond.instanceMethod yX2_init ∈ wsL_law := inr3 (List.mem_of_getElem? (i := 7) rfl)
theorem tw3_8 : Cond.code yX2_init cX2_init 1 none ∈ lw_tbl := tb1 (List.mem_of_getElem? (i := 41) rfl)
theorem mw3_8 : Cond.code yX2_init cX2_init 1 none ∈ wsL_law := inr3 (List.mem_of_getElem? (i := 8) rfl)
theorem tw3_9 : Cond.methodLink RX2 3 objectInit ∈ lw_tbl := tb1 (List.mem_of_getElem? (i := 42) rfl)
theorem mw3_9 : Cond.methodLink RX2 3 objectInit ∈ wsL_law := inr3 (List.mem_of_getElem? (i := 9) rfl)
theorem tw3_10 : Cond.fieldLink RX2 9 "TallowHours$Burning" "place" "[I" ∈ lw_tbl := tb1 (List.mem_of_getElem? (i := 43) rfl)
theorem mw3_10 : Cond.fieldLink RX2 9 "TallowHours$Burning" "place" "[I" ∈ wsL_law := inr3 (List.mem_of_getElem? (i := 10) rfl)
theorem tw3_11 : Cond.fieldLink RX2 15 "TallowHours$Burning" "left" "[I" ∈ lw_tbl := tb1 (List.mem_of_getElem? (i := 45) rfl)
theorem mw3_11 : Cond.fieldLink RX2 15 "TallowHours$Burning" "left" "[I" ∈ wsL_law := inr3 (List.mem_of_getElem? (i := 11) rfl)
theorem tw3_12 : Cond.fieldLink RX2 18 "TallowHours$Burning" "flame" "[I" ∈ lw_tbl := tb1 (List.mem_of_getElem? (i := 48) rfl)
theorem mw3_12 : Cond.fieldLink RX2 18 "TallowHours$Burning" "flame" "[I" ∈ wsL_law := inr3 (List.mem_of_getElem? (i := 12) rfl)
theorem tw3_13 : Cond.fieldLink RX2 21 "TallowHours$Burning" "had" "[I" ∈ lw_tbl := tb1 (List.mem_of_getElem? (i := 51) rfl)
theorem mw3_13 : Cond.fieldLink RX2 21 "TallowHours$Burning" "had" "[I" ∈ wsL_law := inr3 (List.mem_of_getElem? (i := 13) rfl)
theorem tw3_14 : Cond.fieldLink RX2 24 "TallowHours$Burning" "cost" "I" ∈ lw_tbl := tb1 (List.mem_of_getElem? (i := 54) rfl)
theorem mw3_14 : Cond.fieldLink RX2 24 "TallowHours$Burning" "cost" "I" ∈ wsL_law := inr3 (List.mem_of_getElem? (i := 14) rfl)
theorem tw3_15 : Cond.fieldLink RX2 28 "TallowHours$Burning" "steps" "I" ∈ lw_tbl := tb1 (List.mem_of_getElem? (i := 56) rfl)
theorem mw3_15 : Cond.fieldLink RX2 28 "TallowHours$Burning" "steps" "I" ∈ wsL_law := inr3 (List.mem_of_getElem? (i := 15) rfl)
theorem tw3_16 : Cond.methodLink RX7 28 yX0_init ∈ lw_tbl := tb1 (List.mem_of_getElem? (i := 74) rfl)
theorem mw3_16 : Cond.methodLink RX7 28 yX0_init ∈ wsL_law := inr3 (List.mem_of_getElem? (i := 16) rfl)
theorem tw3_17 : Cond.instanceMethod yX0_init ∈ lw_tbl := tb1 (List.mem_of_getElem? (i := 75) rfl)
theorem mw3_17 : Cond.instanceMethod yX0_init ∈ wsL_law := inr3 (List.mem_of_getElem? (i := 17) rfl)
theorem tw3_18 : Cond.code yX0_init cX0_init 1 none ∈ lw_tbl := tb1 (List.mem_of_getElem? (i := 76) rfl)
theorem mw3_18 : Cond.code yX0_init cX0_init 1 none ∈ wsL_law := inr3 (List.mem_of_getElem? (i := 18) rfl)
theorem tw3_19 : Cond.methodLink RX0 3 objectInit ∈ lw_tbl := tb1 (List.mem_of_getElem? (i := 77) rfl)
theorem mw3_19 : Cond.methodLink RX0 3 objectInit ∈ wsL_law := inr3 (List.mem_of_getElem? (i := 19) rfl)
theorem tw3_20 : Cond.fieldLink RX0 11 "TallowHours$Acts" "cells" "[I" ∈ lw_tbl := tb1 (List.mem_of_getElem? (i := 78) rfl)
theorem mw3_20 : Cond.fieldLink RX0 11 "TallowHours$Acts" "cells" "[I" ∈ wsL_law := inr3 (List.mem_of_getElem? (i := 20) rfl)
theorem tw3_21 : Cond.fieldLink RX0 17 "TallowHours$Acts" "first" "I" ∈ lw_tbl := tb1 (List.mem_of_getElem? (i := 79) rfl)
theorem mw3_21 : Cond.fieldLink RX0 17 "TallowHours$Acts" "first" "I" ∈ wsL_law := inr3 (List.mem_of_getElem? (i := 21) rfl)
theorem tw3_22 : Cond.fieldLink RX0 21 "TallowHours$Acts" "size" "I" ∈ lw_tbl := tb1 (List.mem_of_getElem? (i := 80) rfl)
theorem mw3_22 : Cond.fieldLink RX0 21 "TallowHours$Acts" "size" "I" ∈ wsL_law := inr3 (List.mem_of_getElem? (i := 22) rfl)
theorem tw3_23 : Cond.methodLink RX7 35 yX4_init ∈ lw_tbl := tb1 (List.mem_of_getElem? (i := 91) rfl)
theorem mw3_23 : Cond.methodLink RX7 35 yX4_init ∈ wsL_law := inr3 (List.mem_of_getElem? (i := 23) rfl)
theorem gdr3 : GoodIn lw_tbl wsL_law_r3 := List.forall_mem_cons.mpr ⟨⟨tw3_0, Or.inl rfl⟩, List.forall_mem_cons.mpr ⟨⟨tw3_1, Or.inl rfl⟩, List.forall_mem_cons.mpr ⟨⟨tw3_2, Or.inl rfl⟩, List.forall_mem_cons.mpr ⟨⟨tw3_3, Or.inl rfl⟩, List.forall_mem_cons.mpr ⟨⟨tw3_4, Or.inl rfl⟩, List.forall_mem_cons.mpr ⟨⟨tw3_5, Or.inl rfl⟩, List.forall_mem_cons.mpr ⟨⟨tw3_6, Or.inl rfl⟩, List.forall_mem_cons.mpr ⟨⟨tw3_7, Or.inl rfl⟩, List.forall_mem_cons.mpr ⟨⟨tw3_8, Or.inl rfl⟩, List.forall_mem_cons.mpr ⟨⟨tw3_9, Or.inl rfl⟩, List.forall_mem_cons.mpr ⟨⟨tw3_10, Or.inl rfl⟩, List.forall_mem_cons.mpr ⟨⟨tw3_11, Or.inl rfl⟩, List.forall_mem_cons.mpr ⟨⟨tw3_12, Or.inl rfl⟩, List.forall_mem_cons.mpr ⟨⟨tw3_13, Or.inl rfl⟩, List.forall_mem_cons.mpr ⟨⟨tw3_14, Or.inl rfl⟩, List.forall_mem_cons.mpr ⟨⟨tw3_15, Or.inl rfl⟩, List.forall_mem_cons.mpr ⟨⟨tw3_16, Or.inl rfl⟩, List.forall_mem_cons.mpr ⟨⟨tw3_17, Or.inl rfl⟩, List.forall_mem_cons.mpr ⟨⟨tw3_18, Or.inl rfl⟩, List.forall_mem_cons.mpr ⟨⟨tw3_19, Or.inl rfl⟩, List.forall_mem_cons.mpr ⟨⟨tw3_20, Or.inl rfl⟩, List.forall_mem_cons.mpr ⟨⟨tw3_21, Or.inl rfl⟩, List.forall_mem_cons.mpr ⟨⟨tw3_22, Or.inl rfl⟩, List.forall_mem_cons.mpr ⟨⟨tw3_23, Or.inl rfl⟩, fun _ h => absurd h List.not_mem_nil⟩⟩⟩⟩⟩⟩⟩⟩⟩⟩⟩⟩⟩⟩⟩⟩⟩⟩⟩⟩⟩⟩⟩⟩
theorem tw4_0 : Cond.instanceMethod yX4_init ∈ lw_tbl := tb1 (List.mem_of_getElem? (i := 92) rfl)
theorem mw4_0 : Cond.instanceMethod yX4_init ∈ wsL_law := inr4 (List.mem_of_getElem? (i := 0) rfl)
theorem tw4_1 : Cond.code yX4_init cX4_init 1 none ∈ lw_tbl := tb1 (List.mem_of_getElem? (i := 93) rfl)
theorem mw4_1 : Cond.code yX4_init cX4_init 1 none ∈ wsL_law := inr4 (List.mem_of_getElem? (i := 1) rfl)
theorem tw4_2 : Cond.methodLink RX4 3 objectInit ∈ lw_tbl := tb1 (List.mem_of_getElem? (i := 94) rfl)
theorem mw4_2 : Cond.methodLink RX4 3 objectInit ∈ wsL_law := inr4 (List.mem_of_getElem? (i := 2) rfl)
theorem tw4_3 : Cond.arrayClass .long ∈ lw_tbl := tb1 (List.mem_of_getElem? (i := 135) rfl)
theorem mw4_3 : Cond.arrayClass .long ∈ wsL_law := inr4 (List.mem_of_getElem? (i := 3) rfl)
theorem tw4_4 : Cond.fieldLink RX4 11 "TallowHours$Planner" "gives" "[J" ∈ lw_tbl := tb1 (List.mem_of_getElem? (i := 95) rfl)
theorem mw4_4 : Cond.fieldLink RX4 11 "TallowHours$Planner" "gives" "[J" ∈ wsL_law := inr4 (List.mem_of_getElem? (i := 4) rfl)
theorem tw4_5 : Cond.fieldLink RX4 15 "TallowHours$Planner" "price" "[I" ∈ lw_tbl := tb1 (List.mem_of_getElem? (i := 96) rfl)
theorem mw4_5 : Cond.fieldLink RX4 15 "TallowHours$Planner" "price" "[I" ∈ wsL_law := inr4 (List.mem_of_getElem? (i := 5) rfl)
theorem tw4_6 : Cond.fieldLink RX4 19 "TallowHours$Planner" "lastFigure" "[I" ∈ lw_tbl := tb1 (List.mem_of_getElem? (i := 97) rfl)
theorem mw4_6 : Cond.fieldLink RX4 19 "TallowHours$Planner" "lastFigure" "[I" ∈ wsL_law := inr4 (List.mem_of_getElem? (i := 6) rfl)
theorem tw4_7 : Cond.fieldLink RX4 22 "TallowHours$Planner" "takes" "[J" ∈ lw_tbl := tb1 (List.mem_of_getElem? (i := 98) rfl)
theorem mw4_7 : Cond.fieldLink RX4 22 "TallowHours$Planner" "takes" "[J" ∈ wsL_law := inr4 (List.mem_of_getElem? (i := 7) rfl)
theorem tw4_8 : Cond.fieldLink RX4 25 "TallowHours$Planner" "lacks" "[I" ∈ lw_tbl := tb1 (List.mem_of_getElem? (i := 99) rfl)
theorem mw4_8 : Cond.fieldLink RX4 25 "TallowHours$Planner" "lacks" "[I" ∈ wsL_law := inr4 (List.mem_of_getElem? (i := 8) rfl)
theorem tw4_9 : Cond.fieldLink RX4 28 "TallowHours$Planner" "figures" "[I" ∈ lw_tbl := tb1 (List.mem_of_getElem? (i := 100) rfl)
theorem mw4_9 : Cond.fieldLink RX4 28 "TallowHours$Planner" "figures" "[I" ∈ wsL_law := inr4 (List.mem_of_getElem? (i := 9) rfl)
theorem tw4_10 : Cond.fieldLink RX4 31 "TallowHours$Planner" "chosen" "[I" ∈ lw_tbl := tb1 (List.mem_of_getElem? (i := 101) rfl)
theorem mw4_10 : Cond.fieldLink RX4 31 "TallowHours$Planner" "chosen" "[I" ∈ wsL_law := inr4 (List.mem_of_getElem? (i := 10) rfl)
theorem tw4_11 : Cond.fieldLink RX4 34 "TallowHours$Planner" "cheapest" "[I" ∈ lw_tbl := tb1 (List.mem_of_getElem? (i := 103) rfl)
theorem mw4_11 : Cond.fieldLink RX4 34 "TallowHours$Planner" "cheapest" "[I" ∈ wsL_law := inr4 (List.mem_of_getElem? (i := 11) rfl)
theorem tw4_12 : Cond.fieldLink RX4 37 "TallowHours$Planner" "guests" "I" ∈ lw_tbl := tb1 (List.mem_of_getElem? (i := 104) rfl)
theorem mw4_12 : Cond.fieldLink RX4 37 "TallowHours$Planner" "guests" "I" ∈ wsL_law := inr4 (List.mem_of_getElem? (i := 12) rfl)
theorem tw4_13 : Cond.fieldLink RX4 41 "TallowHours$Planner" "all" "I" ∈ lw_tbl := tb1 (List.mem_of_getElem? (i := 105) rfl)
theorem mw4_13 : Cond.fieldLink RX4 41 "TallowHours$Planner" "all" "I" ∈ wsL_law := inr4 (List.mem_of_getElem? (i := 13) rfl)
theorem tw4_14 : Cond.fieldLink RX4 44 "TallowHours$Planner" "reached" "I" ∈ lw_tbl := tb1 (List.mem_of_getElem? (i := 106) rfl)
theorem mw4_14 : Cond.fieldLink RX4 44 "TallowHours$Planner" "reached" "I" ∈ wsL_law := inr4 (List.mem_of_getElem? (i := 14) rfl)
theorem tw4_15 : Cond.fieldLink RX4 47 "TallowHours$Planner" "fresh" "Z" ∈ lw_tbl := tb1 (List.mem_of_getElem? (i := 108) rfl)
theorem mw4_15 : Cond.fieldLink RX4 47 "TallowHours$Planner" "fresh" "Z" ∈ wsL_law := inr4 (List.mem_of_getElem? (i := 15) rfl)
theorem tw4_16 : Cond.methodLink RX7 42 yX1_init ∈ lw_tbl := tb1 (List.mem_of_getElem? (i := 138) rfl)
theorem mw4_16 : Cond.methodLink RX7 42 yX1_init ∈ wsL_law := inr4 (List.mem_of_getElem? (i := 16) rfl)
theorem tw4_17 : Cond.instanceMethod yX1_init ∈ lw_tbl := tb1 (List.mem_of_getElem? (i := 139) rfl)
theorem mw4_17 : Cond.instanceMethod yX1_init ∈ wsL_law := inr4 (List.mem_of_getElem? (i := 17) rfl)
theorem tw4_18 : Cond.code yX1_init cX1_init 1 none ∈ lw_tbl := tb1 (List.mem_of_getElem? (i := 140) rfl)
theorem mw4_18 : Cond.code yX1_init cX1_init 1 none ∈ wsL_law := inr4 (List.mem_of_getElem? (i := 18) rfl)
theorem tw4_19 : Cond.methodLink RX1 3 objectInit ∈ lw_tbl := tb1 (List.mem_of_getElem? (i := 141) rfl)
theorem mw4_19 : Cond.methodLink RX1 3 objectInit ∈ wsL_law := inr4 (List.mem_of_getElem? (i := 19) rfl)
theorem tw4_20 : Cond.fieldLink RX1 9 "TallowHours$Box" "seen" "[I" ∈ lw_tbl := tb1 (List.mem_of_getElem? (i := 142) rfl)
theorem mw4_20 : Cond.fieldLink RX1 9 "TallowHours$Box" "seen" "[I" ∈ wsL_law := inr4 (List.mem_of_getElem? (i := 20) rfl)
theorem tw4_21 : Cond.fieldLink RX1 15 "TallowHours$Box" "size" "I" ∈ lw_tbl := tb1 (List.mem_of_getElem? (i := 143) rfl)
theorem mw4_21 : Cond.fieldLink RX1 15 "TallowHours$Box" "size" "I" ∈ wsL_law := inr4 (List.mem_of_getElem? (i := 21) rfl)
theorem tw4_22 : Cond.methodLink RX7 49 yX5_init ∈ lw_tbl := tb1 (List.mem_of_getElem? (i := 152) rfl)
theorem mw4_22 : Cond.methodLink RX7 49 yX5_init ∈ wsL_law := inr4 (List.mem_of_getElem? (i := 22) rfl)
theorem tw4_23 : Cond.instanceMethod yX5_init ∈ lw_tbl := tb1 (List.mem_of_getElem? (i := 153) rfl)
theorem mw4_23 : Cond.instanceMethod yX5_init ∈ wsL_law := inr4 (List.mem_of_getElem? (i := 23) rfl)
theorem gdr4 : GoodIn lw_tbl wsL_law_r4 := List.forall_mem_cons.mpr ⟨⟨tw4_0, Or.inl rfl⟩, List.forall_mem_cons.mpr ⟨⟨tw4_1, Or.inl rfl⟩, List.forall_mem_cons.mpr ⟨⟨tw4_2, Or.inl rfl⟩, List.forall_mem_cons.mpr ⟨⟨tw4_3, Or.inr ⟨_, rfl⟩⟩, List.forall_mem_cons.mpr ⟨⟨tw4_4, Or.inl rfl⟩, List.forall_mem_cons.mpr ⟨⟨tw4_5, Or.inl rfl⟩, List.forall_mem_cons.mpr ⟨⟨tw4_6, Or.inl rfl⟩, List.forall_mem_cons.mpr ⟨⟨tw4_7, Or.inl rfl⟩, List.forall_mem_cons.mpr ⟨⟨tw4_8, Or.inl rfl⟩, List.forall_mem_cons.mpr ⟨⟨tw4_9, Or.inl rfl⟩, List.forall_mem_cons.mpr ⟨⟨tw4_10, Or.inl rfl⟩, List.forall_mem_cons.mpr ⟨⟨tw4_11, Or.inl rfl⟩, List.forall_mem_cons.mpr ⟨⟨tw4_12, Or.inl rfl⟩, List.forall_mem_cons.mpr ⟨⟨tw4_13, Or.inl rfl⟩, List.forall_mem_cons.mpr ⟨⟨tw4_14, Or.inl rfl⟩, List.forall_mem_cons.mpr ⟨⟨tw4_15, Or.inl rfl⟩, List.forall_mem_cons.mpr ⟨⟨tw4_16, Or.inl rfl⟩, List.forall_mem_cons.mpr ⟨⟨tw4_17, Or.inl rfl⟩, List.forall_mem_cons.mpr ⟨⟨tw4_18, Or.inl rfl⟩, List.forall_mem_cons.mpr ⟨⟨tw4_19, Or.inl rfl⟩, List.forall_mem_cons.mpr ⟨⟨tw4_20, Or.inl rfl⟩, List.forall_mem_cons.mpr ⟨⟨tw4_21, Or.inl rfl⟩, List.forall_mem_cons.mpr ⟨⟨tw4_22, Or.inl rfl⟩, List.forall_mem_cons.mpr ⟨⟨tw4_23, Or.inl rfl⟩, fun _ h => absurd h List.not_mem_nil⟩⟩⟩⟩⟩⟩⟩⟩⟩⟩⟩⟩⟩⟩⟩⟩⟩⟩⟩⟩⟩⟩⟩⟩
theorem tw5_0 : Cond.code yX5_init cX5_init 1 none ∈ lw_tbl := tb1 (List.mem_of_getElem? (i := 154) rfl)
theorem mw5_0 : Cond.code yX5_init cX5_init 1 none ∈ wsL_law := inr5 (List.mem_of_getElem? (i := 0) rfl)
theorem tw5_1 : Cond.methodLink RX5 3 objectInit ∈ lw_tbl := tb1 (List.mem_of_getElem? (i := 155) rfl)
theorem mw5_1 : Cond.methodLink RX5 3 objectInit ∈ wsL_law := inr5 (List.mem_of_getElem? (i := 1) rfl)
theorem tw5_2 : Cond.fieldLink RX5 9 "TallowHours$Saw" "least" "[I" ∈ lw_tbl := tb1 (List.mem_of_getElem? (i := 156) rfl)
theorem mw5_2 : Cond.fieldLink RX5 9 "TallowHours$Saw" "least" "[I" ∈ wsL_law := inr5 (List.mem_of_getElem? (i := 2) rfl)
theorem tw5_3 : Cond.methodLink RX7 64 yX3_init ∈ lw_tbl := tb1 (List.mem_of_getElem? (i := 162) rfl)
theorem mw5_3 : Cond.methodLink RX7 64 yX3_init ∈ wsL_law := inr5 (List.mem_of_getElem? (i := 3) rfl)
theorem tw5_4 : Cond.instanceMethod yX3_init ∈ lw_tbl := tb1 (List.mem_of_getElem? (i := 163) rfl)
theorem mw5_4 : Cond.instanceMethod yX3_init ∈ wsL_law := inr5 (List.mem_of_getElem? (i := 4) rfl)
theorem tw5_5 : Cond.code yX3_init cX3_init 1 none ∈ lw_tbl := tb1 (List.mem_of_getElem? (i := 164) rfl)
theorem mw5_5 : Cond.code yX3_init cX3_init 1 none ∈ wsL_law := inr5 (List.mem_of_getElem? (i := 5) rfl)
theorem tw5_6 : Cond.methodLink RX3 3 objectInit ∈ lw_tbl := tb1 (List.mem_of_getElem? (i := 165) rfl)
theorem mw5_6 : Cond.methodLink RX3 3 objectInit ∈ wsL_law := inr5 (List.mem_of_getElem? (i := 6) rfl)
theorem tw5_7 : Cond.fieldLink RX3 9 "TallowHours$Party" "evening" "[I" ∈ lw_tbl := tb1 (List.mem_of_getElem? (i := 166) rfl)
theorem mw5_7 : Cond.fieldLink RX3 9 "TallowHours$Party" "evening" "[I" ∈ wsL_law := inr5 (List.mem_of_getElem? (i := 7) rfl)
theorem tw5_8 : Cond.fieldLink RX3 15 "TallowHours$Party" "start" "[I" ∈ lw_tbl := tb1 (List.mem_of_getElem? (i := 168) rfl)
theorem mw5_8 : Cond.fieldLink RX3 15 "TallowHours$Party" "start" "[I" ∈ wsL_law := inr5 (List.mem_of_getElem? (i := 8) rfl)
theorem tw5_9 : Cond.fieldLink RX3 18 "TallowHours$Party" "inches" "[I" ∈ lw_tbl := tb1 (List.mem_of_getElem? (i := 172) rfl)
theorem mw5_9 : Cond.fieldLink RX3 18 "TallowHours$Party" "inches" "[I" ∈ wsL_law := inr5 (List.mem_of_getElem? (i := 9) rfl)
theorem tw5_10 : Cond.fieldLink RX3 21 "TallowHours$Party" "price" "[I" ∈ lw_tbl := tb1 (List.mem_of_getElem? (i := 176) rfl)
theorem mw5_10 : Cond.fieldLink RX3 21 "TallowHours$Party" "price" "[I" ∈ wsL_law := inr5 (List.mem_of_getElem? (i := 10) rfl)
theorem tw5_11 : Cond.fieldLink RX3 24 "TallowHours$Party" "wish" "[I" ∈ lw_tbl := tb1 (List.mem_of_getElem? (i := 181) rfl)
theorem mw5_11 : Cond.fieldLink RX3 24 "TallowHours$Party" "wish" "[I" ∈ wsL_law := inr5 (List.mem_of_getElem? (i := 11) rfl)
theorem tw5_12 : Cond.fieldLink RX3 27 "TallowHours$Party" "wanted" "[I" ∈ lw_tbl := tb1 (List.mem_of_getElem? (i := 186) rfl)
theorem mw5_12 : Cond.fieldLink RX3 27 "TallowHours$Party" "wanted" "[I" ∈ wsL_law := inr5 (List.mem_of_getElem? (i := 12) rfl)
theorem tw5_13 : Cond.fieldLink RX3 30 "TallowHours$Party" "comes" "[I" ∈ lw_tbl := tb1 (List.mem_of_getElem? (i := 191) rfl)
theorem mw5_13 : Cond.fieldLink RX3 30 "TallowHours$Party" "comes" "[I" ∈ wsL_law := inr5 (List.mem_of_getElem? (i := 13) rfl)
theorem tw5_14 : Cond.fieldLink RX3 33 "TallowHours$Party" "goes" "[I" ∈ lw_tbl := tb1 (List.mem_of_getElem? (i := 196) rfl)
theorem mw5_14 : Cond.fieldLink RX3 33 "TallowHours$Party" "goes" "[I" ∈ wsL_law := inr5 (List.mem_of_getElem? (i := 14) rfl)
theorem tw5_15 : Cond.fieldLink RX3 36 "TallowHours$Party" "moments" "I" ∈ lw_tbl := tb1 (List.mem_of_getElem? (i := 201) rfl)
theorem mw5_15 : Cond.fieldLink RX3 36 "TallowHours$Party" "moments" "I" ∈ wsL_law := inr5 (List.mem_of_getElem? (i := 15) rfl)
theorem tw5_16 : Cond.fieldLink RX3 40 "TallowHours$Party" "candles" "I" ∈ lw_tbl := tb1 (List.mem_of_getElem? (i := 205) rfl)
theorem mw5_16 : Cond.fieldLink RX3 40 "TallowHours$Party" "candles" "I" ∈ wsL_law := inr5 (List.mem_of_getElem? (i := 16) rfl)
theorem tw5_17 : Cond.fieldLink RX3 43 "TallowHours$Party" "guests" "I" ∈ lw_tbl := tb1 (List.mem_of_getElem? (i := 209) rfl)
theorem mw5_17 : Cond.fieldLink RX3 43 "TallowHours$Party" "guests" "I" ∈ wsL_law := inr5 (List.mem_of_getElem? (i := 17) rfl)
theorem tw5_18 : Cond.methodLink RL 12 yX8_init ∈ lw_tbl := tb3 (List.mem_of_getElem? (i := 170) rfl)
theorem mw5_18 : Cond.methodLink RL 12 yX8_init ∈ wsL_law := inr5 (List.mem_of_getElem? (i := 18) rfl)
theorem tw5_19 : Cond.instanceMethod yX8_init ∈ lw_tbl := tb3 (List.mem_of_getElem? (i := 171) rfl)
theorem mw5_19 : Cond.instanceMethod yX8_init ∈ wsL_law := inr5 (List.mem_of_getElem? (i := 19) rfl)
theorem tw5_20 : Cond.code yX8_init cX8_init 1 none ∈ lw_tbl := tb3 (List.mem_of_getElem? (i := 172) rfl)
theorem mw5_20 : Cond.code yX8_init cX8_init 1 none ∈ wsL_law := inr5 (List.mem_of_getElem? (i := 20) rfl)
theorem tw5_21 : Cond.methodLink RX8 1 objectInit ∈ lw_tbl := tb3 (List.mem_of_getElem? (i := 173) rfl)
theorem mw5_21 : Cond.methodLink RX8 1 objectInit ∈ wsL_law := inr5 (List.mem_of_getElem? (i := 21) rfl)
theorem tw5_22 : Cond.fieldLink RX8 7 "TallowHoursModel" "evening" "[I" ∈ lw_tbl := tb3 (List.mem_of_getElem? (i := 177) rfl)
theorem mw5_22 : Cond.fieldLink RX8 7 "TallowHoursModel" "evening" "[I" ∈ wsL_law := inr5 (List.mem_of_getElem? (i := 22) rfl)
theorem tw5_23 : Cond.fieldLink RX8 13 "TallowHoursModel" "first" "[I" ∈ lw_tbl := tb3 (List.mem_of_getElem? (i := 178) rfl)
theorem mw5_23 : Cond.fieldLink RX8 13 "TallowHoursModel" "first" "[I" ∈ wsL_law := inr5 (List.mem_of_getElem? (i := 23) rfl)
theorem gdr5 : GoodIn lw_tbl wsL_law_r5 := List.forall_mem_cons.mpr ⟨⟨tw5_0, Or.inl rfl⟩, List.forall_mem_cons.mpr ⟨⟨tw5_1, Or.inl rfl⟩, List.forall_mem_cons.mpr ⟨⟨tw5_2, Or.inl rfl⟩, List.forall_mem_cons.mpr ⟨⟨tw5_3, Or.inl rfl⟩, List.forall_mem_cons.mpr ⟨⟨tw5_4, Or.inl rfl⟩, List.forall_mem_cons.mpr ⟨⟨tw5_5, Or.inl rfl⟩, List.forall_mem_cons.mpr ⟨⟨tw5_6, Or.inl rfl⟩, List.forall_mem_cons.mpr ⟨⟨tw5_7, Or.inl rfl⟩, List.forall_mem_cons.mpr ⟨⟨tw5_8, Or.inl rfl⟩, List.forall_mem_cons.mpr ⟨⟨tw5_9, Or.inl rfl⟩, List.forall_mem_cons.mpr ⟨⟨tw5_10, Or.inl rfl⟩, List.forall_mem_cons.mpr ⟨⟨tw5_11, Or.inl rfl⟩, List.forall_mem_cons.mpr ⟨⟨tw5_12, Or.inl rfl⟩, List.forall_mem_cons.mpr ⟨⟨tw5_13, Or.inl rfl⟩, List.forall_mem_cons.mpr ⟨⟨tw5_14, Or.inl rfl⟩, List.forall_mem_cons.mpr ⟨⟨tw5_15, Or.inl rfl⟩, List.forall_mem_cons.mpr ⟨⟨tw5_16, Or.inl rfl⟩, List.forall_mem_cons.mpr ⟨⟨tw5_17, Or.inl rfl⟩, List.forall_mem_cons.mpr ⟨⟨tw5_18, Or.inl rfl⟩, List.forall_mem_cons.mpr ⟨⟨tw5_19, Or.inl rfl⟩, List.forall_mem_cons.mpr ⟨⟨tw5_20, Or.inl rfl⟩, List.forall_mem_cons.mpr ⟨⟨tw5_21, Or.inl rfl⟩, List.forall_mem_cons.mpr ⟨⟨tw5_22, Or.inl rfl⟩, List.forall_mem_cons.mpr ⟨⟨tw5_23, Or.inl rfl⟩, fun _ h => absurd h List.not_mem_nil⟩⟩⟩⟩⟩⟩⟩⟩⟩⟩⟩⟩⟩⟩⟩⟩⟩⟩⟩⟩⟩⟩⟩⟩
theorem tw6_0 : Cond.fieldLink RX8 16 "TallowHoursModel" "inches" "[I" ∈ lw_tbl := tb3 (List.mem_of_getElem? (i := 179) rfl)
theorem mw6_0 : Cond.fieldLink RX8 16 "TallowHoursModel" "inches" "[I" ∈ wsL_law := inr6 (List.mem_of_getElem? (i := 0) rfl)
theorem tw6_1 : Cond.fieldLink RX8 19 "TallowHoursModel" "price" "[I" ∈ lw_tbl := tb3 (List.mem_of_getElem? (i := 180) rfl)
theorem mw6_1 : Cond.fieldLink RX8 19 "TallowHoursModel" "price" "[I" ∈ wsL_law := inr6 (List.mem_of_getElem? (i := 1) rfl)
theorem tw6_2 : Cond.fieldLink RX8 22 "TallowHoursModel" "wants" "[I" ∈ lw_tbl := tb3 (List.mem_of_getElem? (i := 181) rfl)
theorem mw6_2 : Cond.fieldLink RX8 22 "TallowHoursModel" "wants" "[I" ∈ wsL_law := inr6 (List.mem_of_getElem? (i := 2) rfl)
theorem tw6_3 : Cond.fieldLink RX8 25 "TallowHoursModel" "needs" "[I" ∈ lw_tbl := tb3 (List.mem_of_getElem? (i := 182) rfl)
theorem mw6_3 : Cond.fieldLink RX8 25 "TallowHoursModel" "needs" "[I" ∈ wsL_law := inr6 (List.mem_of_getElem? (i := 3) rfl)
theorem tw6_4 : Cond.fieldLink RX8 28 "TallowHoursModel" "comes" "[I" ∈ lw_tbl := tb3 (List.mem_of_getElem? (i := 183) rfl)
theorem mw6_4 : Cond.fieldLink RX8 28 "TallowHoursModel" "comes" "[I" ∈ wsL_law := inr6 (List.mem_of_getElem? (i := 4) rfl)
theorem tw6_5 : Cond.fieldLink RX8 31 "TallowHoursModel" "goes" "[I" ∈ lw_tbl := tb3 (List.mem_of_getElem? (i := 184) rfl)
theorem mw6_5 : Cond.fieldLink RX8 31 "TallowHoursModel" "goes" "[I" ∈ wsL_law := inr6 (List.mem_of_getElem? (i := 5) rfl)
theorem tw6_6 : Cond.fieldLink RX8 34 "TallowHoursModel" "now" "[I" ∈ lw_tbl := tb3 (List.mem_of_getElem? (i := 185) rfl)
theorem mw6_6 : Cond.fieldLink RX8 34 "TallowHoursModel" "now" "[I" ∈ wsL_law := inr6 (List.mem_of_getElem? (i := 6) rfl)
theorem tw6_7 : Cond.fieldLink RX8 37 "TallowHoursModel" "text" "[I" ∈ lw_tbl := tb3 (List.mem_of_getElem? (i := 186) rfl)
theorem mw6_7 : Cond.fieldLink RX8 37 "TallowHoursModel" "text" "[I" ∈ wsL_law := inr6 (List.mem_of_getElem? (i := 7) rfl)
theorem tw6_8 : Cond.fieldLink RX8 40 "TallowHoursModel" "readEvening" "[I" ∈ lw_tbl := tb3 (List.mem_of_getElem? (i := 193) rfl)
theorem mw6_8 : Cond.fieldLink RX8 40 "TallowHoursModel" "readEvening" "[I" ∈ wsL_law := inr6 (List.mem_of_getElem? (i := 8) rfl)
theorem tw6_9 : Cond.fieldLink RX8 43 "TallowHoursModel" "readCandle" "[I" ∈ lw_tbl := tb3 (List.mem_of_getElem? (i := 194) rfl)
theorem mw6_9 : Cond.fieldLink RX8 43 "TallowHoursModel" "readCandle" "[I" ∈ wsL_law := inr6 (List.mem_of_getElem? (i := 9) rfl)
theorem tw6_10 : Cond.fieldLink RX8 46 "TallowHoursModel" "readGuest" "[I" ∈ lw_tbl := tb3 (List.mem_of_getElem? (i := 195) rfl)
theorem mw6_10 : Cond.fieldLink RX8 46 "TallowHoursModel" "readGuest" "[I" ∈ wsL_law := inr6 (List.mem_of_getElem? (i := 10) rfl)
theorem tw6_11 : Cond.fieldLink RX8 49 "TallowHoursModel" "row" "[I" ∈ lw_tbl := tb3 (List.mem_of_getElem? (i := 198) rfl)
theorem mw6_11 : Cond.fieldLink RX8 49 "TallowHoursModel" "row" "[I" ∈ wsL_law := inr6 (List.mem_of_getElem? (i := 11) rfl)
theorem tw6_12 : Cond.fieldLink RX8 52 "TallowHoursModel" "bestPlan" "[I" ∈ lw_tbl := tb3 (List.mem_of_getElem? (i := 199) rfl)
theorem mw6_12 : Cond.fieldLink RX8 52 "TallowHoursModel" "bestPlan" "[I" ∈ wsL_law := inr6 (List.mem_of_getElem? (i := 12) rfl)
theorem tw6_13 : Cond.fieldLink RX8 55 "TallowHoursModel" "bestCost" "[I" ∈ lw_tbl := tb3 (List.mem_of_getElem? (i := 200) rfl)
theorem mw6_13 : Cond.fieldLink RX8 55 "TallowHoursModel" "bestCost" "[I" ∈ wsL_law := inr6 (List.mem_of_getElem? (i := 13) rfl)
theorem tw6_14 : Cond.fieldLink RX8 58 "TallowHoursModel" "most" "[I" ∈ lw_tbl := tb3 (List.mem_of_getElem? (i := 201) rfl)
theorem mw6_14 : Cond.fieldLink RX8 58 "TallowHoursModel" "most" "[I" ∈ wsL_law := inr6 (List.mem_of_getElem? (i := 14) rfl)
theorem tw6_15 : Cond.fieldLink RX8 61 "TallowHoursModel" "sights" "[I" ∈ lw_tbl := tb3 (List.mem_of_getElem? (i := 203) rfl)
theorem mw6_15 : Cond.fieldLink RX8 61 "TallowHoursModel" "sights" "[I" ∈ wsL_law := inr6 (List.mem_of_getElem? (i := 15) rfl)
theorem tw6_16 : Cond.fieldLink RX8 64 "TallowHoursModel" "long1" "[I" ∈ lw_tbl := tb3 (List.mem_of_getElem? (i := 204) rfl)
theorem mw6_16 : Cond.fieldLink RX8 64 "TallowHoursModel" "long1" "[I" ∈ wsL_law := inr6 (List.mem_of_getElem? (i := 16) rfl)
theorem tw6_17 : Cond.fieldLink RX8 67 "TallowHoursModel" "isKept" "[Z" ∈ lw_tbl := tb3 (List.mem_of_getElem? (i := 206) rfl)
theorem mw6_17 : Cond.fieldLink RX8 67 "TallowHoursModel" "isKept" "[Z" ∈ wsL_law := inr6 (List.mem_of_getElem? (i := 17) rfl)
theorem tw6_18 : Cond.fieldLink RX8 71 "TallowHoursModel" "kept" "[I" ∈ lw_tbl := tb3 (List.mem_of_getElem? (i := 207) rfl)
theorem mw6_18 : Cond.fieldLink RX8 71 "TallowHoursModel" "kept" "[I" ∈ wsL_law := inr6 (List.mem_of_getElem? (i := 18) rfl)
theorem tw6_19 : Cond.fieldLink RX8 74 "TallowHoursModel" "moments" "I" ∈ lw_tbl := tb3 (List.mem_of_getElem? (i := 174) rfl)
theorem mw6_19 : Cond.fieldLink RX8 74 "TallowHoursModel" "moments" "I" ∈ wsL_law := inr6 (List.mem_of_getElem? (i := 19) rfl)
theorem tw6_20 : Cond.methodLink RL 13 yX7_write ∈ lw_tbl := tb2 (List.mem_of_getElem? (i := 35) rfl)
theorem mw6_20 : Cond.methodLink RL 13 yX7_write ∈ wsL_law := inr6 (List.mem_of_getElem? (i := 20) rfl)
theorem tw6_21 : Cond.instanceMethod yX7_write ∈ lw_tbl := tb2 (List.mem_of_getElem? (i := 36) rfl)
theorem mw6_21 : Cond.instanceMethod yX7_write ∈ wsL_law := inr6 (List.mem_of_getElem? (i := 21) rfl)
theorem tw6_22 : Cond.selects RX7 yX7_write yX7_write ∈ lw_tbl := tb2 (List.mem_of_getElem? (i := 37) rfl)
theorem mw6_22 : Cond.selects RX7 yX7_write yX7_write ∈ wsL_law := inr6 (List.mem_of_getElem? (i := 22) rfl)
theorem tw6_23 : Cond.code yX7_write cX7_write 2 (some .int) ∈ lw_tbl := tb2 (List.mem_of_getElem? (i := 38) rfl)
theorem mw6_23 : Cond.code yX7_write cX7_write 2 (some .int) ∈ wsL_law := inr6 (List.mem_of_getElem? (i := 23) rfl)
theorem gdr6 : GoodIn lw_tbl wsL_law_r6 := List.forall_mem_cons.mpr ⟨⟨tw6_0, Or.inl rfl⟩, List.forall_mem_cons.mpr ⟨⟨tw6_1, Or.inl rfl⟩, List.forall_mem_cons.mpr ⟨⟨tw6_2, Or.inl rfl⟩, List.forall_mem_cons.mpr ⟨⟨tw6_3, Or.inl rfl⟩, List.forall_mem_cons.mpr ⟨⟨tw6_4, Or.inl rfl⟩, List.forall_mem_cons.mpr ⟨⟨tw6_5, Or.inl rfl⟩, List.forall_mem_cons.mpr ⟨⟨tw6_6, Or.inl rfl⟩, List.forall_mem_cons.mpr ⟨⟨tw6_7, Or.inl rfl⟩, List.forall_mem_cons.mpr ⟨⟨tw6_8, Or.inl rfl⟩, List.forall_mem_cons.mpr ⟨⟨tw6_9, Or.inl rfl⟩, List.forall_mem_cons.mpr ⟨⟨tw6_10, Or.inl rfl⟩, List.forall_mem_cons.mpr ⟨⟨tw6_11, Or.inl rfl⟩, List.forall_mem_cons.mpr ⟨⟨tw6_12, Or.inl rfl⟩, List.forall_mem_cons.mpr ⟨⟨tw6_13, Or.inl rfl⟩, List.forall_mem_cons.mpr ⟨⟨tw6_14, Or.inl rfl⟩, List.forall_mem_cons.mpr ⟨⟨tw6_15, Or.inl rfl⟩, List.forall_mem_cons.mpr ⟨⟨tw6_16, Or.inl rfl⟩, List.forall_mem_cons.mpr ⟨⟨tw6_17, Or.inl rfl⟩, List.forall_mem_cons.mpr ⟨⟨tw6_18, Or.inl rfl⟩, List.forall_mem_cons.mpr ⟨⟨tw6_19, Or.inl rfl⟩, List.forall_mem_cons.mpr ⟨⟨tw6_20, Or.inl rfl⟩, List.forall_mem_cons.mpr ⟨⟨tw6_21, Or.inl rfl⟩, List.forall_mem_cons.mpr ⟨⟨tw6_22, Or.inl rfl⟩, List.forall_mem_cons.mpr ⟨⟨tw6_23, Or.inl rfl⟩, fun _ h => absurd h List.not_mem_nil⟩⟩⟩⟩⟩⟩⟩⟩⟩⟩⟩⟩⟩⟩⟩⟩⟩⟩⟩⟩⟩⟩⟩⟩
theorem tw7_0 : Cond.methodLink RX7 76 yX6_append ∈ lw_tbl := tb2 (List.mem_of_getElem? (i := 39) rfl)
theorem mw7_0 : Cond.methodLink RX7 76 yX6_append ∈ wsL_law := inr7 (List.mem_of_getElem? (i := 0) rfl)
theorem tw7_1 : Cond.instanceMethod yX6_append ∈ lw_tbl := tb2 (List.mem_of_getElem? (i := 40) rfl)
theorem mw7_1 : Cond.instanceMethod yX6_append ∈ wsL_law := inr7 (List.mem_of_getElem? (i := 1) rfl)
theorem tw7_2 : Cond.selects RX6 yX6_append yX6_append ∈ lw_tbl := tb2 (List.mem_of_getElem? (i := 41) rfl)
theorem mw7_2 : Cond.selects RX6 yX6_append yX6_append ∈ wsL_law := inr7 (List.mem_of_getElem? (i := 2) rfl)
theorem tw7_3 : Cond.code yX6_append cX6_append 2 (some .int) ∈ lw_tbl := tb2 (List.mem_of_getElem? (i := 42) rfl)
theorem mw7_3 : Cond.code yX6_append cX6_append 2 (some .int) ∈ wsL_law := inr7 (List.mem_of_getElem? (i := 3) rfl)
theorem tw7_4 : Cond.methodLink RL 17 yX8_write ∈ lw_tbl := tb4 (List.mem_of_getElem? (i := 37) rfl)
theorem mw7_4 : Cond.methodLink RL 17 yX8_write ∈ wsL_law := inr7 (List.mem_of_getElem? (i := 4) rfl)
theorem tw7_5 : Cond.instanceMethod yX8_write ∈ lw_tbl := tb4 (List.mem_of_getElem? (i := 38) rfl)
theorem mw7_5 : Cond.instanceMethod yX8_write ∈ wsL_law := inr7 (List.mem_of_getElem? (i := 5) rfl)
theorem tw7_6 : Cond.selects RX8 yX8_write yX8_write ∈ lw_tbl := tb4 (List.mem_of_getElem? (i := 39) rfl)
theorem mw7_6 : Cond.selects RX8 yX8_write yX8_write ∈ wsL_law := inr7 (List.mem_of_getElem? (i := 6) rfl)
theorem tw7_7 : Cond.code yX8_write cX8_write 2 (some .int) ∈ lw_tbl := tb4 (List.mem_of_getElem? (i := 40) rfl)
theorem mw7_7 : Cond.code yX8_write cX8_write 2 (some .int) ∈ wsL_law := inr7 (List.mem_of_getElem? (i := 7) rfl)
theorem tw7_8 : Cond.constantLong RX8 78 (255) ∈ lw_tbl := tb4 (List.mem_of_getElem? (i := 41) rfl)
theorem mw7_8 : Cond.constantLong RX8 78 (255) ∈ wsL_law := inr7 (List.mem_of_getElem? (i := 8) rfl)
theorem tw7_9 : Cond.fieldLink RX8 84 "TallowHoursModel" "length" "I" ∈ lw_tbl := tb3 (List.mem_of_getElem? (i := 187) rfl)
theorem mw7_9 : Cond.fieldLink RX8 84 "TallowHoursModel" "length" "I" ∈ wsL_law := inr7 (List.mem_of_getElem? (i := 9) rfl)
theorem tw7_10 : Cond.methodLink RX8 80 yX8_in ∈ lw_tbl := tb4 (List.mem_of_getElem? (i := 42) rfl)
theorem mw7_10 : Cond.methodLink RX8 80 yX8_in ∈ wsL_law := inr7 (List.mem_of_getElem? (i := 10) rfl)
theorem tw7_11 : Cond.static yX8_in ∈ lw_tbl := tb4 (List.mem_of_getElem? (i := 43) rfl)
theorem mw7_11 : Cond.static yX8_in ∈ wsL_law := inr7 (List.mem_of_getElem? (i := 11) rfl)
theorem tw7_12 : Cond.code yX8_in cX8_in 6 (some .boolean) ∈ lw_tbl := tb4 (List.mem_of_getElem? (i := 44) rfl)
theorem mw7_12 : Cond.code yX8_in cX8_in 6 (some .boolean) ∈ wsL_law := inr7 (List.mem_of_getElem? (i := 12) rfl)
theorem tw7_13 : Cond.methodLink RL 18 yX7_wipe ∈ lw_tbl := tb2 (List.mem_of_getElem? (i := 43) rfl)
theorem mw7_13 : Cond.methodLink RL 18 yX7_wipe ∈ wsL_law := inr7 (List.mem_of_getElem? (i := 13) rfl)
theorem tw7_14 : Cond.instanceMethod yX7_wipe ∈ lw_tbl := tb2 (List.mem_of_getElem? (i := 44) rfl)
theorem mw7_14 : Cond.instanceMethod yX7_wipe ∈ wsL_law := inr7 (List.mem_of_getElem? (i := 14) rfl)
theorem tw7_15 : Cond.selects RX7 yX7_wipe yX7_wipe ∈ lw_tbl := tb2 (List.mem_of_getElem? (i := 45) rfl)
theorem mw7_15 : Cond.selects RX7 yX7_wipe yX7_wipe ∈ wsL_law := inr7 (List.mem_of_getElem? (i := 15) rfl)
theorem tw7_16 : Cond.code yX7_wipe cX7_wipe 1 (some .int) ∈ lw_tbl := tb2 (List.mem_of_getElem? (i := 46) rfl)
theorem mw7_16 : Cond.code yX7_wipe cX7_wipe 1 (some .int) ∈ wsL_law := inr7 (List.mem_of_getElem? (i := 16) rfl)
theorem tw7_17 : Cond.methodLink RX7 80 yX6_clear ∈ lw_tbl := tb2 (List.mem_of_getElem? (i := 47) rfl)
theorem mw7_17 : Cond.methodLink RX7 80 yX6_clear ∈ wsL_law := inr7 (List.mem_of_getElem? (i := 17) rfl)
theorem tw7_18 : Cond.instanceMethod yX6_clear ∈ lw_tbl := tb2 (List.mem_of_getElem? (i := 48) rfl)
theorem mw7_18 : Cond.instanceMethod yX6_clear ∈ wsL_law := inr7 (List.mem_of_getElem? (i := 18) rfl)
theorem tw7_19 : Cond.selects RX6 yX6_clear yX6_clear ∈ lw_tbl := tb2 (List.mem_of_getElem? (i := 49) rfl)
theorem mw7_19 : Cond.selects RX6 yX6_clear yX6_clear ∈ wsL_law := inr7 (List.mem_of_getElem? (i := 19) rfl)
theorem tw7_20 : Cond.code yX6_clear cX6_clear 2 (some .int) ∈ lw_tbl := tb2 (List.mem_of_getElem? (i := 50) rfl)
theorem mw7_20 : Cond.code yX6_clear cX6_clear 2 (some .int) ∈ wsL_law := inr7 (List.mem_of_getElem? (i := 20) rfl)
theorem tw7_21 : Cond.methodLink RL 22 yX8_wipe ∈ lw_tbl := tb4 (List.mem_of_getElem? (i := 45) rfl)
theorem mw7_21 : Cond.methodLink RL 22 yX8_wipe ∈ wsL_law := inr7 (List.mem_of_getElem? (i := 21) rfl)
theorem tw7_22 : Cond.instanceMethod yX8_wipe ∈ lw_tbl := tb4 (List.mem_of_getElem? (i := 46) rfl)
theorem mw7_22 : Cond.instanceMethod yX8_wipe ∈ wsL_law := inr7 (List.mem_of_getElem? (i := 22) rfl)
theorem tw7_23 : Cond.selects RX8 yX8_wipe yX8_wipe ∈ lw_tbl := tb4 (List.mem_of_getElem? (i := 47) rfl)
theorem mw7_23 : Cond.selects RX8 yX8_wipe yX8_wipe ∈ wsL_law := inr7 (List.mem_of_getElem? (i := 23) rfl)
theorem gdr7 : GoodIn lw_tbl wsL_law_r7 := List.forall_mem_cons.mpr ⟨⟨tw7_0, Or.inl rfl⟩, List.forall_mem_cons.mpr ⟨⟨tw7_1, Or.inl rfl⟩, List.forall_mem_cons.mpr ⟨⟨tw7_2, Or.inl rfl⟩, List.forall_mem_cons.mpr ⟨⟨tw7_3, Or.inl rfl⟩, List.forall_mem_cons.mpr ⟨⟨tw7_4, Or.inl rfl⟩, List.forall_mem_cons.mpr ⟨⟨tw7_5, Or.inl rfl⟩, List.forall_mem_cons.mpr ⟨⟨tw7_6, Or.inl rfl⟩, List.forall_mem_cons.mpr ⟨⟨tw7_7, Or.inl rfl⟩, List.forall_mem_cons.mpr ⟨⟨tw7_8, Or.inl rfl⟩, List.forall_mem_cons.mpr ⟨⟨tw7_9, Or.inl rfl⟩, List.forall_mem_cons.mpr ⟨⟨tw7_10, Or.inl rfl⟩, List.forall_mem_cons.mpr ⟨⟨tw7_11, Or.inl rfl⟩, List.forall_mem_cons.mpr ⟨⟨tw7_12, Or.inl rfl⟩, List.forall_mem_cons.mpr ⟨⟨tw7_13, Or.inl rfl⟩, List.forall_mem_cons.mpr ⟨⟨tw7_14, Or.inl rfl⟩, List.forall_mem_cons.mpr ⟨⟨tw7_15, Or.inl rfl⟩, List.forall_mem_cons.mpr ⟨⟨tw7_16, Or.inl rfl⟩, List.forall_mem_cons.mpr ⟨⟨tw7_17, Or.inl rfl⟩, List.forall_mem_cons.mpr ⟨⟨tw7_18, Or.inl rfl⟩, List.forall_mem_cons.mpr ⟨⟨tw7_19, Or.inl rfl⟩, List.forall_mem_cons.mpr ⟨⟨tw7_20, Or.inl rfl⟩, List.forall_mem_cons.mpr ⟨⟨tw7_21, Or.inl rfl⟩, List.forall_mem_cons.mpr ⟨⟨tw7_22, Or.inl rfl⟩, List.forall_mem_cons.mpr ⟨⟨tw7_23, Or.inl rfl⟩, fun _ h => absurd h List.not_mem_nil⟩⟩⟩⟩⟩⟩⟩⟩⟩⟩⟩⟩⟩⟩⟩⟩⟩⟩⟩⟩⟩⟩⟩⟩
theorem tw8_0 : Cond.code yX8_wipe cX8_wipe 2 (some .int) ∈ lw_tbl := tb4 (List.mem_of_getElem? (i := 48) rfl)
theorem mw8_0 : Cond.code yX8_wipe cX8_wipe 2 (some .int) ∈ wsL_law := inr8 (List.mem_of_getElem? (i := 0) rfl)
theorem tw8_1 : Cond.methodLink RL 23 yX7_fault ∈ lw_tbl := tb2 (List.mem_of_getElem? (i := 51) rfl)
theorem mw8_1 : Cond.methodLink RL 23 yX7_fault ∈ wsL_law := inr8 (List.mem_of_getElem? (i := 1) rfl)
theorem tw8_2 : Cond.instanceMethod yX7_fault ∈ lw_tbl := tb2 (List.mem_of_getElem? (i := 52) rfl)
theorem mw8_2 : Cond.instanceMethod yX7_fault ∈ wsL_law := inr8 (List.mem_of_getElem? (i := 2) rfl)
theorem tw8_3 : Cond.selects RX7 yX7_fault yX7_fault ∈ lw_tbl := tb2 (List.mem_of_getElem? (i := 53) rfl)
theorem mw8_3 : Cond.selects RX7 yX7_fault yX7_fault ∈ wsL_law := inr8 (List.mem_of_getElem? (i := 3) rfl)
theorem tw8_4 : Cond.code yX7_fault cX7_fault 1 (some .int) ∈ lw_tbl := tb2 (List.mem_of_getElem? (i := 54) rfl)
theorem mw8_4 : Cond.code yX7_fault cX7_fault 1 (some .int) ∈ wsL_law := inr8 (List.mem_of_getElem? (i := 4) rfl)
theorem tw8_5 : Cond.methodLink RX7 84 yX6_readInto ∈ lw_tbl := tb2 (List.mem_of_getElem? (i := 55) rfl)
theorem mw8_5 : Cond.methodLink RX7 84 yX6_readInto ∈ wsL_law := inr8 (List.mem_of_getElem? (i := 5) rfl)
theorem tw8_6 : Cond.instanceMethod yX6_readInto ∈ lw_tbl := tb2 (List.mem_of_getElem? (i := 56) rfl)
theorem mw8_6 : Cond.instanceMethod yX6_readInto ∈ wsL_law := inr8 (List.mem_of_getElem? (i := 6) rfl)
theorem tw8_7 : Cond.selects RX6 yX6_readInto yX6_readInto ∈ lw_tbl := tb2 (List.mem_of_getElem? (i := 57) rfl)
theorem mw8_7 : Cond.selects RX6 yX6_readInto yX6_readInto ∈ wsL_law := inr8 (List.mem_of_getElem? (i := 7) rfl)
theorem tw8_8 : Cond.code yX6_readInto cX6_readInto 4 (some .int) ∈ lw_tbl := tb2 (List.mem_of_getElem? (i := 58) rfl)
theorem mw8_8 : Cond.code yX6_readInto cX6_readInto 4 (some .int) ∈ wsL_law := inr8 (List.mem_of_getElem? (i := 8) rfl)
theorem tw8_9 : Cond.fieldLink RX6 31 "TallowHours$Party" "moments" "I" ∈ lw_tbl := tb1 (List.mem_of_getElem? (i := 203) rfl)
theorem mw8_9 : Cond.fieldLink RX6 31 "TallowHours$Party" "moments" "I" ∈ wsL_law := inr8 (List.mem_of_getElem? (i := 9) rfl)
theorem tw8_10 : Cond.fieldLink RX6 34 "TallowHours$Party" "evening" "[I" ∈ lw_tbl := tb1 (List.mem_of_getElem? (i := 167) rfl)
theorem mw8_10 : Cond.fieldLink RX6 34 "TallowHours$Party" "evening" "[I" ∈ wsL_law := inr8 (List.mem_of_getElem? (i := 10) rfl)
theorem tw8_11 : Cond.methodLink RX6 19 yX3_clear ∈ lw_tbl := tb2 (List.mem_of_getElem? (i := 59) rfl)
theorem mw8_11 : Cond.methodLink RX6 19 yX3_clear ∈ wsL_law := inr8 (List.mem_of_getElem? (i := 11) rfl)
theorem tw8_12 : Cond.instanceMethod yX3_clear ∈ lw_tbl := tb2 (List.mem_of_getElem? (i := 60) rfl)
theorem mw8_12 : Cond.instanceMethod yX3_clear ∈ wsL_law := inr8 (List.mem_of_getElem? (i := 12) rfl)
theorem tw8_13 : Cond.selects RX3 yX3_clear yX3_clear ∈ lw_tbl := tb2 (List.mem_of_getElem? (i := 61) rfl)
theorem mw8_13 : Cond.selects RX3 yX3_clear yX3_clear ∈ wsL_law := inr8 (List.mem_of_getElem? (i := 13) rfl)
theorem tw8_14 : Cond.code yX3_clear cX3_clear 1 none ∈ lw_tbl := tb2 (List.mem_of_getElem? (i := 62) rfl)
theorem mw8_14 : Cond.code yX3_clear cX3_clear 1 none ∈ wsL_law := inr8 (List.mem_of_getElem? (i := 14) rfl)
theorem tw8_15 : Cond.methodLink RX6 24 yX6_letterAt ∈ lw_tbl := tb2 (List.mem_of_getElem? (i := 63) rfl)
theorem mw8_15 : Cond.methodLink RX6 24 yX6_letterAt ∈ wsL_law := inr8 (List.mem_of_getElem? (i := 15) rfl)
theorem tw8_16 : Cond.instanceMethod yX6_letterAt ∈ lw_tbl := tb2 (List.mem_of_getElem? (i := 65) rfl)
theorem mw8_16 : Cond.instanceMethod yX6_letterAt ∈ wsL_law := inr8 (List.mem_of_getElem? (i := 16) rfl)
theorem tw8_17 : Cond.selects RX6 yX6_letterAt yX6_letterAt ∈ lw_tbl := List.mem_append_left _ (List.mem_of_getElem? (i := 0) rfl)
theorem mw8_17 : Cond.selects RX6 yX6_letterAt yX6_letterAt ∈ wsL_law := inr8 (List.mem_of_getElem? (i := 17) rfl)
theorem tw8_18 : Cond.code yX6_letterAt cX6_letterAt 2 (some .int) ∈ lw_tbl := tb2 (List.mem_of_getElem? (i := 66) rfl)
theorem mw8_18 : Cond.code yX6_letterAt cX6_letterAt 2 (some .int) ∈ wsL_law := inr8 (List.mem_of_getElem? (i := 18) rfl)
theorem tw8_19 : Cond.methodLink RX6 28 yX6_momentAt ∈ lw_tbl := tb2 (List.mem_of_getElem? (i := 67) rfl)
theorem mw8_19 : Cond.methodLink RX6 28 yX6_momentAt ∈ wsL_law := inr8 (List.mem_of_getElem? (i := 19) rfl)
theorem tw8_20 : Cond.instanceMethod yX6_momentAt ∈ lw_tbl := tb2 (List.mem_of_getElem? (i := 69) rfl)
theorem mw8_20 : Cond.instanceMethod yX6_momentAt ∈ wsL_law := inr8 (List.mem_of_getElem? (i := 20) rfl)
theorem tw8_21 : Cond.selects RX6 yX6_momentAt yX6_momentAt ∈ lw_tbl := List.mem_append_left _ (List.mem_of_getElem? (i := 1) rfl)
theorem mw8_21 : Cond.selects RX6 yX6_momentAt yX6_momentAt ∈ wsL_law := inr8 (List.mem_of_getElem? (i := 21) rfl)
theorem tw8_22 : Cond.code yX6_momentAt cX6_momentAt 3 (some .int) ∈ lw_tbl := tb2 (List.mem_of_getElem? (i := 70) rfl)
theorem mw8_22 : Cond.code yX6_momentAt cX6_momentAt 3 (some .int) ∈ wsL_law := inr8 (List.mem_of_getElem? (i := 22) rfl)
theorem tw8_23 : Cond.methodLink RX6 37 yX6_readPart ∈ lw_tbl := tb2 (List.mem_of_getElem? (i := 71) rfl)
theorem mw8_23 : Cond.methodLink RX6 37 yX6_readPart ∈ wsL_law := inr8 (List.mem_of_getElem? (i := 23) rfl)
theorem gdr8 : GoodIn lw_tbl wsL_law_r8 := List.forall_mem_cons.mpr ⟨⟨tw8_0, Or.inl rfl⟩, List.forall_mem_cons.mpr ⟨⟨tw8_1, Or.inl rfl⟩, List.forall_mem_cons.mpr ⟨⟨tw8_2, Or.inl rfl⟩, List.forall_mem_cons.mpr ⟨⟨tw8_3, Or.inl rfl⟩, List.forall_mem_cons.mpr ⟨⟨tw8_4, Or.inl rfl⟩, List.forall_mem_cons.mpr ⟨⟨tw8_5, Or.inl rfl⟩, List.forall_mem_cons.mpr ⟨⟨tw8_6, Or.inl rfl⟩, List.forall_mem_cons.mpr ⟨⟨tw8_7, Or.inl rfl⟩, List.forall_mem_cons.mpr ⟨⟨tw8_8, Or.inl rfl⟩, List.forall_mem_cons.mpr ⟨⟨tw8_9, Or.inl rfl⟩, List.forall_mem_cons.mpr ⟨⟨tw8_10, Or.inl rfl⟩, List.forall_mem_cons.mpr ⟨⟨tw8_11, Or.inl rfl⟩, List.forall_mem_cons.mpr ⟨⟨tw8_12, Or.inl rfl⟩, List.forall_mem_cons.mpr ⟨⟨tw8_13, Or.inl rfl⟩, List.forall_mem_cons.mpr ⟨⟨tw8_14, Or.inl rfl⟩, List.forall_mem_cons.mpr ⟨⟨tw8_15, Or.inl rfl⟩, List.forall_mem_cons.mpr ⟨⟨tw8_16, Or.inl rfl⟩, List.forall_mem_cons.mpr ⟨⟨tw8_17, Or.inl rfl⟩, List.forall_mem_cons.mpr ⟨⟨tw8_18, Or.inl rfl⟩, List.forall_mem_cons.mpr ⟨⟨tw8_19, Or.inl rfl⟩, List.forall_mem_cons.mpr ⟨⟨tw8_20, Or.inl rfl⟩, List.forall_mem_cons.mpr ⟨⟨tw8_21, Or.inl rfl⟩, List.forall_mem_cons.mpr ⟨⟨tw8_22, Or.inl rfl⟩, List.forall_mem_cons.mpr ⟨⟨tw8_23, Or.inl rfl⟩, fun _ h => absurd h List.not_mem_nil⟩⟩⟩⟩⟩⟩⟩⟩⟩⟩⟩⟩⟩⟩⟩⟩⟩⟩⟩⟩⟩⟩⟩⟩
theorem tw9_0 : Cond.instanceMethod yX6_readPart ∈ lw_tbl := tb2 (List.mem_of_getElem? (i := 73) rfl)
theorem mw9_0 : Cond.instanceMethod yX6_readPart ∈ wsL_law := inr9 (List.mem_of_getElem? (i := 0) rfl)
theorem tw9_1 : Cond.selects RX6 yX6_readPart yX6_readPart ∈ lw_tbl := List.mem_append_left _ (List.mem_of_getElem? (i := 2) rfl)
theorem mw9_1 : Cond.selects RX6 yX6_readPart yX6_readPart ∈ wsL_law := inr9 (List.mem_of_getElem? (i := 1) rfl)
theorem tw9_2 : Cond.code yX6_readPart cX6_readPart 4 (some .int) ∈ lw_tbl := tb2 (List.mem_of_getElem? (i := 74) rfl)
theorem mw9_2 : Cond.code yX6_readPart cX6_readPart 4 (some .int) ∈ wsL_law := inr9 (List.mem_of_getElem? (i := 2) rfl)
theorem tw9_3 : Cond.fieldLink RX6 41 "TallowHours$Party" "candles" "I" ∈ lw_tbl := tb1 (List.mem_of_getElem? (i := 206) rfl)
theorem mw9_3 : Cond.fieldLink RX6 41 "TallowHours$Party" "candles" "I" ∈ wsL_law := inr9 (List.mem_of_getElem? (i := 3) rfl)
theorem tw9_4 : Cond.fieldLink RX6 47 "TallowHours$Party" "guests" "I" ∈ lw_tbl := tb1 (List.mem_of_getElem? (i := 211) rfl)
theorem mw9_4 : Cond.fieldLink RX6 47 "TallowHours$Party" "guests" "I" ∈ wsL_law := inr9 (List.mem_of_getElem? (i := 4) rfl)
theorem tw9_5 : Cond.methodLink RX6 44 yX6_readCandle ∈ lw_tbl := tb2 (List.mem_of_getElem? (i := 75) rfl)
theorem mw9_5 : Cond.methodLink RX6 44 yX6_readCandle ∈ wsL_law := inr9 (List.mem_of_getElem? (i := 5) rfl)
theorem tw9_6 : Cond.instanceMethod yX6_readCandle ∈ lw_tbl := tb2 (List.mem_of_getElem? (i := 77) rfl)
theorem mw9_6 : Cond.instanceMethod yX6_readCandle ∈ wsL_law := inr9 (List.mem_of_getElem? (i := 6) rfl)
theorem tw9_7 : Cond.selects RX6 yX6_readCandle yX6_readCandle ∈ lw_tbl := List.mem_append_left _ (List.mem_of_getElem? (i := 3) rfl)
theorem mw9_7 : Cond.selects RX6 yX6_readCandle yX6_readCandle ∈ wsL_law := inr9 (List.mem_of_getElem? (i := 7) rfl)
theorem tw9_8 : Cond.code yX6_readCandle cX6_readCandle 9 (some .int) ∈ lw_tbl := tb2 (List.mem_of_getElem? (i := 78) rfl)
theorem mw9_8 : Cond.code yX6_readCandle cX6_readCandle 9 (some .int) ∈ wsL_law := inr9 (List.mem_of_getElem? (i := 8) rfl)
theorem tw9_9 : Cond.methodLink RX6 57 Lib.Math.min.name ∈ lw_tbl := tb2 (List.mem_of_getElem? (i := 83) rfl)
theorem mw9_9 : Cond.methodLink RX6 57 Lib.Math.min.name ∈ wsL_law := inr9 (List.mem_of_getElem? (i := 9) rfl)
theorem tw9_10 : Cond.static Lib.Math.min.name ∈ lw_tbl := tb2 (List.mem_of_getElem? (i := 84) rfl)
theorem mw9_10 : Cond.static Lib.Math.min.name ∈ wsL_law := inr9 (List.mem_of_getElem? (i := 10) rfl)
theorem tw9_11 : Cond.initialized "java/lang/Math" ∈ lw_tbl := tb1 (List.mem_of_getElem? (i := 10) rfl)
theorem mw9_11 : Cond.initialized "java/lang/Math" ∈ wsL_law := inr9 (List.mem_of_getElem? (i := 11) rfl)
theorem tw9_12 : Cond.code Lib.Math.min.name Lib.Math.min.code 2 (some .int) ∈ lw_tbl := tb2 (List.mem_of_getElem? (i := 85) rfl)
theorem mw9_12 : Cond.code Lib.Math.min.name Lib.Math.min.code 2 (some .int) ∈ wsL_law := inr9 (List.mem_of_getElem? (i := 12) rfl)
theorem tw9_13 : Cond.fieldLink RX6 63 "TallowHours$Party" "start" "[I" ∈ lw_tbl := tb1 (List.mem_of_getElem? (i := 170) rfl)
theorem mw9_13 : Cond.fieldLink RX6 63 "TallowHours$Party" "start" "[I" ∈ wsL_law := inr9 (List.mem_of_getElem? (i := 13) rfl)
theorem tw9_14 : Cond.fieldLink RX6 66 "TallowHours$Party" "inches" "[I" ∈ lw_tbl := tb1 (List.mem_of_getElem? (i := 174) rfl)
theorem mw9_14 : Cond.fieldLink RX6 66 "TallowHours$Party" "inches" "[I" ∈ wsL_law := inr9 (List.mem_of_getElem? (i := 14) rfl)
theorem tw9_15 : Cond.fieldLink RX6 69 "TallowHours$Party" "price" "[I" ∈ lw_tbl := tb1 (List.mem_of_getElem? (i := 178) rfl)
theorem mw9_15 : Cond.fieldLink RX6 69 "TallowHours$Party" "price" "[I" ∈ wsL_law := inr9 (List.mem_of_getElem? (i := 15) rfl)
theorem tw9_16 : Cond.methodLink RX6 53 yX6_figureAt ∈ lw_tbl := tb2 (List.mem_of_getElem? (i := 79) rfl)
theorem mw9_16 : Cond.methodLink RX6 53 yX6_figureAt ∈ wsL_law := inr9 (List.mem_of_getElem? (i := 16) rfl)
theorem tw9_17 : Cond.instanceMethod yX6_figureAt ∈ lw_tbl := tb2 (List.mem_of_getElem? (i := 81) rfl)
theorem mw9_17 : Cond.instanceMethod yX6_figureAt ∈ wsL_law := inr9 (List.mem_of_getElem? (i := 17) rfl)
theorem tw9_18 : Cond.selects RX6 yX6_figureAt yX6_figureAt ∈ lw_tbl := List.mem_append_left _ (List.mem_of_getElem? (i := 4) rfl)
theorem mw9_18 : Cond.selects RX6 yX6_figureAt yX6_figureAt ∈ wsL_law := inr9 (List.mem_of_getElem? (i := 18) rfl)
theorem tw9_19 : Cond.code yX6_figureAt cX6_figureAt 6 (some .int) ∈ lw_tbl := tb2 (List.mem_of_getElem? (i := 82) rfl)
theorem mw9_19 : Cond.code yX6_figureAt cX6_figureAt 6 (some .int) ∈ wsL_law := inr9 (List.mem_of_getElem? (i := 19) rfl)
theorem tw9_20 : Cond.methodLink RX6 50 yX6_readGuest ∈ lw_tbl := tb2 (List.mem_of_getElem? (i := 86) rfl)
theorem mw9_20 : Cond.methodLink RX6 50 yX6_readGuest ∈ wsL_law := inr9 (List.mem_of_getElem? (i := 20) rfl)
theorem tw9_21 : Cond.instanceMethod yX6_readGuest ∈ lw_tbl := tb2 (List.mem_of_getElem? (i := 88) rfl)
theorem mw9_21 : Cond.instanceMethod yX6_readGuest ∈ wsL_law := inr9 (List.mem_of_getElem? (i := 21) rfl)
theorem tw9_22 : Cond.selects RX6 yX6_readGuest yX6_readGuest ∈ lw_tbl := List.mem_append_left _ (List.mem_of_getElem? (i := 5) rfl)
theorem mw9_22 : Cond.selects RX6 yX6_readGuest yX6_readGuest ∈ wsL_law := inr9 (List.mem_of_getElem? (i := 22) rfl)
theorem tw9_23 : Cond.code yX6_readGuest cX6_readGuest 7 (some .int) ∈ lw_tbl := tb2 (List.mem_of_getElem? (i := 89) rfl)
theorem mw9_23 : Cond.code yX6_readGuest cX6_readGuest 7 (some .int) ∈ wsL_law := inr9 (List.mem_of_getElem? (i := 23) rfl)
theorem gdr9 : GoodIn lw_tbl wsL_law_r9 := List.forall_mem_cons.mpr ⟨⟨tw9_0, Or.inl rfl⟩, List.forall_mem_cons.mpr ⟨⟨tw9_1, Or.inl rfl⟩, List.forall_mem_cons.mpr ⟨⟨tw9_2, Or.inl rfl⟩, List.forall_mem_cons.mpr ⟨⟨tw9_3, Or.inl rfl⟩, List.forall_mem_cons.mpr ⟨⟨tw9_4, Or.inl rfl⟩, List.forall_mem_cons.mpr ⟨⟨tw9_5, Or.inl rfl⟩, List.forall_mem_cons.mpr ⟨⟨tw9_6, Or.inl rfl⟩, List.forall_mem_cons.mpr ⟨⟨tw9_7, Or.inl rfl⟩, List.forall_mem_cons.mpr ⟨⟨tw9_8, Or.inl rfl⟩, List.forall_mem_cons.mpr ⟨⟨tw9_9, Or.inl rfl⟩, List.forall_mem_cons.mpr ⟨⟨tw9_10, Or.inl rfl⟩, List.forall_mem_cons.mpr ⟨⟨tw9_11, Or.inl rfl⟩, List.forall_mem_cons.mpr ⟨⟨tw9_12, Or.inl rfl⟩, List.forall_mem_cons.mpr ⟨⟨tw9_13, Or.inl rfl⟩, List.forall_mem_cons.mpr ⟨⟨tw9_14, Or.inl rfl⟩, List.forall_mem_cons.mpr ⟨⟨tw9_15, Or.inl rfl⟩, List.forall_mem_cons.mpr ⟨⟨tw9_16, Or.inl rfl⟩, List.forall_mem_cons.mpr ⟨⟨tw9_17, Or.inl rfl⟩, List.forall_mem_cons.mpr ⟨⟨tw9_18, Or.inl rfl⟩, List.forall_mem_cons.mpr ⟨⟨tw9_19, Or.inl rfl⟩, List.forall_mem_cons.mpr ⟨⟨tw9_20, Or.inl rfl⟩, List.forall_mem_cons.mpr ⟨⟨tw9_21, Or.inl rfl⟩, List.forall_mem_cons.mpr ⟨⟨tw9_22, Or.inl rfl⟩, List.forall_mem_cons.mpr ⟨⟨tw9_23, Or.inl rfl⟩, fun _ h => absurd h List.not_mem_nil⟩⟩⟩⟩⟩⟩⟩⟩⟩⟩⟩⟩⟩⟩⟩⟩⟩⟩⟩⟩⟩⟩⟩⟩
theorem tw10_0 : Cond.fieldLink RX6 72 "TallowHours$Party" "wish" "[I" ∈ lw_tbl := tb1 (List.mem_of_getElem? (i := 183) rfl)
theorem mw10_0 : Cond.fieldLink RX6 72 "TallowHours$Party" "wish" "[I" ∈ wsL_law := inr10 (List.mem_of_getElem? (i := 0) rfl)
theorem tw10_1 : Cond.fieldLink RX6 75 "TallowHours$Party" "wanted" "[I" ∈ lw_tbl := tb1 (List.mem_of_getElem? (i := 188) rfl)
theorem mw10_1 : Cond.fieldLink RX6 75 "TallowHours$Party" "wanted" "[I" ∈ wsL_law := inr10 (List.mem_of_getElem? (i := 1) rfl)
theorem tw10_2 : Cond.fieldLink RX6 78 "TallowHours$Party" "comes" "[I" ∈ lw_tbl := tb1 (List.mem_of_getElem? (i := 194) rfl)
theorem mw10_2 : Cond.fieldLink RX6 78 "TallowHours$Party" "comes" "[I" ∈ wsL_law := inr10 (List.mem_of_getElem? (i := 2) rfl)
theorem tw10_3 : Cond.fieldLink RX6 81 "TallowHours$Party" "goes" "[I" ∈ lw_tbl := tb1 (List.mem_of_getElem? (i := 199) rfl)
theorem mw10_3 : Cond.fieldLink RX6 81 "TallowHours$Party" "goes" "[I" ∈ wsL_law := inr10 (List.mem_of_getElem? (i := 3) rfl)
theorem tw10_4 : Cond.methodLink RL 26 yX8_fault ∈ lw_tbl := tb4 (List.mem_of_getElem? (i := 49) rfl)
theorem mw10_4 : Cond.methodLink RL 26 yX8_fault ∈ wsL_law := inr10 (List.mem_of_getElem? (i := 4) rfl)
theorem tw10_5 : Cond.instanceMethod yX8_fault ∈ lw_tbl := tb4 (List.mem_of_getElem? (i := 50) rfl)
theorem mw10_5 : Cond.instanceMethod yX8_fault ∈ wsL_law := inr10 (List.mem_of_getElem? (i := 5) rfl)
theorem tw10_6 : Cond.selects RX8 yX8_fault yX8_fault ∈ lw_tbl := tb4 (List.mem_of_getElem? (i := 51) rfl)
theorem mw10_6 : Cond.selects RX8 yX8_fault yX8_fault ∈ wsL_law := inr10 (List.mem_of_getElem? (i := 6) rfl)
theorem tw10_7 : Cond.code yX8_fault cX8_fault 1 (some .int) ∈ lw_tbl := tb4 (List.mem_of_getElem? (i := 52) rfl)
theorem mw10_7 : Cond.code yX8_fault cX8_fault 1 (some .int) ∈ wsL_law := inr10 (List.mem_of_getElem? (i := 7) rfl)
theorem tw10_8 : Cond.methodLink RX8 118 yX8_readText ∈ lw_tbl := tb4 (List.mem_of_getElem? (i := 53) rfl)
theorem mw10_8 : Cond.methodLink RX8 118 yX8_readText ∈ wsL_law := inr10 (List.mem_of_getElem? (i := 8) rfl)
theorem tw10_9 : Cond.instanceMethod yX8_readText ∈ lw_tbl := tb4 (List.mem_of_getElem? (i := 55) rfl)
theorem mw10_9 : Cond.instanceMethod yX8_readText ∈ wsL_law := inr10 (List.mem_of_getElem? (i := 9) rfl)
theorem tw10_10 : Cond.selects RX8 yX8_readText yX8_readText ∈ lw_tbl := List.mem_append_left _ (List.mem_of_getElem? (i := 19) rfl)
theorem mw10_10 : Cond.selects RX8 yX8_readText yX8_readText ∈ wsL_law := inr10 (List.mem_of_getElem? (i := 10) rfl)
theorem tw10_11 : Cond.code yX8_readText cX8_readText 1 (some .int) ∈ lw_tbl := tb4 (List.mem_of_getElem? (i := 56) rfl)
theorem mw10_11 : Cond.code yX8_readText cX8_readText 1 (some .int) ∈ wsL_law := inr10 (List.mem_of_getElem? (i := 11) rfl)
theorem tw10_12 : Cond.fieldLink RX8 90 "TallowHoursModel" "at" "I" ∈ lw_tbl := tb3 (List.mem_of_getElem? (i := 188) rfl)
theorem mw10_12 : Cond.fieldLink RX8 90 "TallowHoursModel" "at" "I" ∈ wsL_law := inr10 (List.mem_of_getElem? (i := 12) rfl)
theorem tw10_13 : Cond.fieldLink RX8 87 "TallowHoursModel" "faultAt" "I" ∈ lw_tbl := tb3 (List.mem_of_getElem? (i := 189) rfl)
theorem mw10_13 : Cond.fieldLink RX8 87 "TallowHoursModel" "faultAt" "I" ∈ wsL_law := inr10 (List.mem_of_getElem? (i := 13) rfl)
theorem tw10_14 : Cond.fieldLink RX8 97 "TallowHoursModel" "readMoments" "I" ∈ lw_tbl := tb3 (List.mem_of_getElem? (i := 190) rfl)
theorem mw10_14 : Cond.fieldLink RX8 97 "TallowHoursModel" "readMoments" "I" ∈ wsL_law := inr10 (List.mem_of_getElem? (i := 14) rfl)
theorem tw10_15 : Cond.fieldLink RX8 100 "TallowHoursModel" "readCandles" "I" ∈ lw_tbl := tb3 (List.mem_of_getElem? (i := 191) rfl)
theorem mw10_15 : Cond.fieldLink RX8 100 "TallowHoursModel" "readCandles" "I" ∈ wsL_law := inr10 (List.mem_of_getElem? (i := 15) rfl)
theorem tw10_16 : Cond.fieldLink RX8 103 "TallowHoursModel" "readGuests" "I" ∈ lw_tbl := tb3 (List.mem_of_getElem? (i := 192) rfl)
theorem mw10_16 : Cond.fieldLink RX8 103 "TallowHoursModel" "readGuests" "I" ∈ wsL_law := inr10 (List.mem_of_getElem? (i := 16) rfl)
theorem tw10_17 : Cond.methodLink RX8 106 yX8_giftOf ∈ lw_tbl := tb4 (List.mem_of_getElem? (i := 57) rfl)
theorem mw10_17 : Cond.methodLink RX8 106 yX8_giftOf ∈ wsL_law := inr10 (List.mem_of_getElem? (i := 17) rfl)
theorem tw10_18 : Cond.static yX8_giftOf ∈ lw_tbl := tb4 (List.mem_of_getElem? (i := 58) rfl)
theorem mw10_18 : Cond.static yX8_giftOf ∈ wsL_law := inr10 (List.mem_of_getElem? (i := 18) rfl)
theorem tw10_19 : Cond.code yX8_giftOf cX8_giftOf 1 (some .int) ∈ lw_tbl := tb4 (List.mem_of_getElem? (i := 59) rfl)
theorem mw10_19 : Cond.code yX8_giftOf cX8_giftOf 1 (some .int) ∈ wsL_law := inr10 (List.mem_of_getElem? (i := 19) rfl)
theorem tw10_20 : Cond.constantLong RX8 93 (97) ∈ lw_tbl := tb4 (List.mem_of_getElem? (i := 60) rfl)
theorem mw10_20 : Cond.constantLong RX8 93 (97) ∈ wsL_law := inr10 (List.mem_of_getElem? (i := 20) rfl)
theorem tw10_21 : Cond.constantLong RX8 95 (100) ∈ lw_tbl := tb4 (List.mem_of_getElem? (i := 61) rfl)
theorem mw10_21 : Cond.constantLong RX8 95 (100) ∈ wsL_law := inr10 (List.mem_of_getElem? (i := 21) rfl)
theorem tw10_22 : Cond.methodLink RX8 110 yX8_readPart ∈ lw_tbl := tb4 (List.mem_of_getElem? (i := 62) rfl)
theorem mw10_22 : Cond.methodLink RX8 110 yX8_readPart ∈ wsL_law := inr10 (List.mem_of_getElem? (i := 22) rfl)
theorem tw10_23 : Cond.instanceMethod yX8_readPart ∈ lw_tbl := tb4 (List.mem_of_getElem? (i := 64) rfl)
theorem mw10_23 : Cond.instanceMethod yX8_readPart ∈ wsL_law := inr10 (List.mem_of_getElem? (i := 23) rfl)
theorem gdr10 : GoodIn lw_tbl wsL_law_r10 := List.forall_mem_cons.mpr ⟨⟨tw10_0, Or.inl rfl⟩, List.forall_mem_cons.mpr ⟨⟨tw10_1, Or.inl rfl⟩, List.forall_mem_cons.mpr ⟨⟨tw10_2, Or.inl rfl⟩, List.forall_mem_cons.mpr ⟨⟨tw10_3, Or.inl rfl⟩, List.forall_mem_cons.mpr ⟨⟨tw10_4, Or.inl rfl⟩, List.forall_mem_cons.mpr ⟨⟨tw10_5, Or.inl rfl⟩, List.forall_mem_cons.mpr ⟨⟨tw10_6, Or.inl rfl⟩, List.forall_mem_cons.mpr ⟨⟨tw10_7, Or.inl rfl⟩, List.forall_mem_cons.mpr ⟨⟨tw10_8, Or.inl rfl⟩, List.forall_mem_cons.mpr ⟨⟨tw10_9, Or.inl rfl⟩, List.forall_mem_cons.mpr ⟨⟨tw10_10, Or.inl rfl⟩, List.forall_mem_cons.mpr ⟨⟨tw10_11, Or.inl rfl⟩, List.forall_mem_cons.mpr ⟨⟨tw10_12, Or.inl rfl⟩, List.forall_mem_cons.mpr ⟨⟨tw10_13, Or.inl rfl⟩, List.forall_mem_cons.mpr ⟨⟨tw10_14, Or.inl rfl⟩, List.forall_mem_cons.mpr ⟨⟨tw10_15, Or.inl rfl⟩, List.forall_mem_cons.mpr ⟨⟨tw10_16, Or.inl rfl⟩, List.forall_mem_cons.mpr ⟨⟨tw10_17, Or.inl rfl⟩, List.forall_mem_cons.mpr ⟨⟨tw10_18, Or.inl rfl⟩, List.forall_mem_cons.mpr ⟨⟨tw10_19, Or.inl rfl⟩, List.forall_mem_cons.mpr ⟨⟨tw10_20, Or.inl rfl⟩, List.forall_mem_cons.mpr ⟨⟨tw10_21, Or.inl rfl⟩, List.forall_mem_cons.mpr ⟨⟨tw10_22, Or.inl rfl⟩, List.forall_mem_cons.mpr ⟨⟨tw10_23, Or.inl rfl⟩, fun _ h => absurd h List.not_mem_nil⟩⟩⟩⟩⟩⟩⟩⟩⟩⟩⟩⟩⟩⟩⟩⟩⟩⟩⟩⟩⟩⟩⟩⟩
theorem tw11_0 : Cond.selects RX8 yX8_readPart yX8_readPart ∈ lw_tbl := List.mem_append_left _ (List.mem_of_getElem? (i := 20) rfl)
theorem mw11_0 : Cond.selects RX8 yX8_readPart yX8_readPart ∈ wsL_law := inr11 (List.mem_of_getElem? (i := 0) rfl)
theorem tw11_1 : Cond.code yX8_readPart cX8_readPart 6 none ∈ lw_tbl := tb4 (List.mem_of_getElem? (i := 65) rfl)
theorem mw11_1 : Cond.code yX8_readPart cX8_readPart 6 none ∈ wsL_law := inr11 (List.mem_of_getElem? (i := 1) rfl)
theorem tw11_2 : Cond.methodLink RX8 114 yX8_figure ∈ lw_tbl := tb4 (List.mem_of_getElem? (i := 66) rfl)
theorem mw11_2 : Cond.methodLink RX8 114 yX8_figure ∈ wsL_law := inr11 (List.mem_of_getElem? (i := 2) rfl)
theorem tw11_3 : Cond.instanceMethod yX8_figure ∈ lw_tbl := tb4 (List.mem_of_getElem? (i := 68) rfl)
theorem mw11_3 : Cond.instanceMethod yX8_figure ∈ wsL_law := inr11 (List.mem_of_getElem? (i := 3) rfl)
theorem tw11_4 : Cond.selects RX8 yX8_figure yX8_figure ∈ lw_tbl := List.mem_append_left _ (List.mem_of_getElem? (i := 21) rfl)
theorem mw11_4 : Cond.selects RX8 yX8_figure yX8_figure ∈ wsL_law := inr11 (List.mem_of_getElem? (i := 4) rfl)
theorem tw11_5 : Cond.code yX8_figure cX8_figure 5 (some .int) ∈ lw_tbl := tb4 (List.mem_of_getElem? (i := 69) rfl)
theorem mw11_5 : Cond.code yX8_figure cX8_figure 5 (some .int) ∈ wsL_law := inr11 (List.mem_of_getElem? (i := 5) rfl)
theorem tw11_6 : Cond.methodLink RL 27 yX7_party ∈ lw_tbl := tb2 (List.mem_of_getElem? (i := 90) rfl)
theorem mw11_6 : Cond.methodLink RL 27 yX7_party ∈ wsL_law := inr11 (List.mem_of_getElem? (i := 6) rfl)
theorem tw11_7 : Cond.instanceMethod yX7_party ∈ lw_tbl := tb2 (List.mem_of_getElem? (i := 91) rfl)
theorem mw11_7 : Cond.instanceMethod yX7_party ∈ wsL_law := inr11 (List.mem_of_getElem? (i := 7) rfl)
theorem tw11_8 : Cond.selects RX7 yX7_party yX7_party ∈ lw_tbl := tb2 (List.mem_of_getElem? (i := 92) rfl)
theorem mw11_8 : Cond.selects RX7 yX7_party yX7_party ∈ wsL_law := inr11 (List.mem_of_getElem? (i := 8) rfl)
theorem tw11_9 : Cond.code yX7_party cX7_party 3 (some .int) ∈ lw_tbl := tb2 (List.mem_of_getElem? (i := 93) rfl)
theorem mw11_9 : Cond.code yX7_party cX7_party 3 (some .int) ∈ wsL_law := inr11 (List.mem_of_getElem? (i := 9) rfl)
theorem tw11_10 : Cond.fieldLink RX7 94 "TallowHours$Planner" "fresh" "Z" ∈ lw_tbl := tb1 (List.mem_of_getElem? (i := 109) rfl)
theorem mw11_10 : Cond.fieldLink RX7 94 "TallowHours$Planner" "fresh" "Z" ∈ wsL_law := inr11 (List.mem_of_getElem? (i := 10) rfl)
theorem tw11_11 : Cond.fieldLink RX7 98 "TallowHours$Party" "candles" "I" ∈ lw_tbl := tb1 (List.mem_of_getElem? (i := 207) rfl)
theorem mw11_11 : Cond.fieldLink RX7 98 "TallowHours$Party" "candles" "I" ∈ wsL_law := inr11 (List.mem_of_getElem? (i := 11) rfl)
theorem tw11_12 : Cond.fieldLink RX7 102 "TallowHours$Party" "guests" "I" ∈ lw_tbl := tb1 (List.mem_of_getElem? (i := 212) rfl)
theorem mw11_12 : Cond.fieldLink RX7 102 "TallowHours$Party" "guests" "I" ∈ wsL_law := inr11 (List.mem_of_getElem? (i := 12) rfl)
theorem tw11_13 : Cond.methodLink RX7 88 yX2_begin ∈ lw_tbl := tb2 (List.mem_of_getElem? (i := 94) rfl)
theorem mw11_13 : Cond.methodLink RX7 88 yX2_begin ∈ wsL_law := inr11 (List.mem_of_getElem? (i := 13) rfl)
theorem tw11_14 : Cond.instanceMethod yX2_begin ∈ lw_tbl := tb2 (List.mem_of_getElem? (i := 95) rfl)
theorem mw11_14 : Cond.instanceMethod yX2_begin ∈ wsL_law := inr11 (List.mem_of_getElem? (i := 14) rfl)
theorem tw11_15 : Cond.selects RX2 yX2_begin yX2_begin ∈ lw_tbl := tb2 (List.mem_of_getElem? (i := 96) rfl)
theorem mw11_15 : Cond.selects RX2 yX2_begin yX2_begin ∈ wsL_law := inr11 (List.mem_of_getElem? (i := 15) rfl)
theorem tw11_16 : Cond.code yX2_begin cX2_begin 3 none ∈ lw_tbl := tb2 (List.mem_of_getElem? (i := 97) rfl)
theorem mw11_16 : Cond.code yX2_begin cX2_begin 3 none ∈ wsL_law := inr11 (List.mem_of_getElem? (i := 16) rfl)
theorem tw11_17 : Cond.fieldLink RX2 31 "TallowHours$Party" "start" "[I" ∈ lw_tbl := tb1 (List.mem_of_getElem? (i := 169) rfl)
theorem mw11_17 : Cond.fieldLink RX2 31 "TallowHours$Party" "start" "[I" ∈ wsL_law := inr11 (List.mem_of_getElem? (i := 17) rfl)
theorem tw11_18 : Cond.fieldLink RX2 36 "TallowHours$Party" "inches" "[I" ∈ lw_tbl := tb1 (List.mem_of_getElem? (i := 173) rfl)
theorem mw11_18 : Cond.fieldLink RX2 36 "TallowHours$Party" "inches" "[I" ∈ wsL_law := inr11 (List.mem_of_getElem? (i := 18) rfl)
theorem tw11_19 : Cond.methodLink RX7 92 yX0_clear ∈ lw_tbl := tb2 (List.mem_of_getElem? (i := 98) rfl)
theorem mw11_19 : Cond.methodLink RX7 92 yX0_clear ∈ wsL_law := inr11 (List.mem_of_getElem? (i := 19) rfl)
theorem tw11_20 : Cond.instanceMethod yX0_clear ∈ lw_tbl := tb2 (List.mem_of_getElem? (i := 99) rfl)
theorem mw11_20 : Cond.instanceMethod yX0_clear ∈ wsL_law := inr11 (List.mem_of_getElem? (i := 20) rfl)
theorem tw11_21 : Cond.selects RX0 yX0_clear yX0_clear ∈ lw_tbl := tb2 (List.mem_of_getElem? (i := 100) rfl)
theorem mw11_21 : Cond.selects RX0 yX0_clear yX0_clear ∈ wsL_law := inr11 (List.mem_of_getElem? (i := 21) rfl)
theorem tw11_22 : Cond.code yX0_clear cX0_clear 1 none ∈ lw_tbl := tb2 (List.mem_of_getElem? (i := 101) rfl)
theorem mw11_22 : Cond.code yX0_clear cX0_clear 1 none ∈ wsL_law := inr11 (List.mem_of_getElem? (i := 22) rfl)
theorem tw11_23 : Cond.methodLink RL 30 yX8_party ∈ lw_tbl := tb4 (List.mem_of_getElem? (i := 70) rfl)
theorem mw11_23 : Cond.methodLink RL 30 yX8_party ∈ wsL_law := inr11 (List.mem_of_getElem? (i := 23) rfl)
theorem gdr11 : GoodIn lw_tbl wsL_law_r11 := List.forall_mem_cons.mpr ⟨⟨tw11_0, Or.inl rfl⟩, List.forall_mem_cons.mpr ⟨⟨tw11_1, Or.inl rfl⟩, List.forall_mem_cons.mpr ⟨⟨tw11_2, Or.inl rfl⟩, List.forall_mem_cons.mpr ⟨⟨tw11_3, Or.inl rfl⟩, List.forall_mem_cons.mpr ⟨⟨tw11_4, Or.inl rfl⟩, List.forall_mem_cons.mpr ⟨⟨tw11_5, Or.inl rfl⟩, List.forall_mem_cons.mpr ⟨⟨tw11_6, Or.inl rfl⟩, List.forall_mem_cons.mpr ⟨⟨tw11_7, Or.inl rfl⟩, List.forall_mem_cons.mpr ⟨⟨tw11_8, Or.inl rfl⟩, List.forall_mem_cons.mpr ⟨⟨tw11_9, Or.inl rfl⟩, List.forall_mem_cons.mpr ⟨⟨tw11_10, Or.inl rfl⟩, List.forall_mem_cons.mpr ⟨⟨tw11_11, Or.inl rfl⟩, List.forall_mem_cons.mpr ⟨⟨tw11_12, Or.inl rfl⟩, List.forall_mem_cons.mpr ⟨⟨tw11_13, Or.inl rfl⟩, List.forall_mem_cons.mpr ⟨⟨tw11_14, Or.inl rfl⟩, List.forall_mem_cons.mpr ⟨⟨tw11_15, Or.inl rfl⟩, List.forall_mem_cons.mpr ⟨⟨tw11_16, Or.inl rfl⟩, List.forall_mem_cons.mpr ⟨⟨tw11_17, Or.inl rfl⟩, List.forall_mem_cons.mpr ⟨⟨tw11_18, Or.inl rfl⟩, List.forall_mem_cons.mpr ⟨⟨tw11_19, Or.inl rfl⟩, List.forall_mem_cons.mpr ⟨⟨tw11_20, Or.inl rfl⟩, List.forall_mem_cons.mpr ⟨⟨tw11_21, Or.inl rfl⟩, List.forall_mem_cons.mpr ⟨⟨tw11_22, Or.inl rfl⟩, List.forall_mem_cons.mpr ⟨⟨tw11_23, Or.inl rfl⟩, fun _ h => absurd h List.not_mem_nil⟩⟩⟩⟩⟩⟩⟩⟩⟩⟩⟩⟩⟩⟩⟩⟩⟩⟩⟩⟩⟩⟩⟩⟩
theorem tw12_0 : Cond.instanceMethod yX8_party ∈ lw_tbl := tb4 (List.mem_of_getElem? (i := 71) rfl)
theorem mw12_0 : Cond.instanceMethod yX8_party ∈ wsL_law := inr12 (List.mem_of_getElem? (i := 0) rfl)
theorem tw12_1 : Cond.selects RX8 yX8_party yX8_party ∈ lw_tbl := tb4 (List.mem_of_getElem? (i := 72) rfl)
theorem mw12_1 : Cond.selects RX8 yX8_party yX8_party ∈ wsL_law := inr12 (List.mem_of_getElem? (i := 1) rfl)
theorem tw12_2 : Cond.code yX8_party cX8_party 2 (some .int) ∈ lw_tbl := tb4 (List.mem_of_getElem? (i := 73) rfl)
theorem mw12_2 : Cond.code yX8_party cX8_party 2 (some .int) ∈ wsL_law := inr12 (List.mem_of_getElem? (i := 2) rfl)
theorem tw12_3 : Cond.fieldLink RX8 122 "TallowHoursModel" "candles" "I" ∈ lw_tbl := tb3 (List.mem_of_getElem? (i := 175) rfl)
theorem mw12_3 : Cond.fieldLink RX8 122 "TallowHoursModel" "candles" "I" ∈ wsL_law := inr12 (List.mem_of_getElem? (i := 3) rfl)
theorem tw12_4 : Cond.fieldLink RX8 125 "TallowHoursModel" "guests" "I" ∈ lw_tbl := tb3 (List.mem_of_getElem? (i := 176) rfl)
theorem mw12_4 : Cond.fieldLink RX8 125 "TallowHoursModel" "guests" "I" ∈ wsL_law := inr12 (List.mem_of_getElem? (i := 4) rfl)
theorem tw12_5 : Cond.fieldLink RX8 128 "TallowHoursModel" "acts" "I" ∈ lw_tbl := tb3 (List.mem_of_getElem? (i := 196) rfl)
theorem mw12_5 : Cond.fieldLink RX8 128 "TallowHoursModel" "acts" "I" ∈ wsL_law := inr12 (List.mem_of_getElem? (i := 5) rfl)
theorem tw12_6 : Cond.methodLink RL 31 yX7_moment ∈ lw_tbl := tb2 (List.mem_of_getElem? (i := 102) rfl)
theorem mw12_6 : Cond.methodLink RL 31 yX7_moment ∈ wsL_law := inr12 (List.mem_of_getElem? (i := 6) rfl)
theorem tw12_7 : Cond.instanceMethod yX7_moment ∈ lw_tbl := tb2 (List.mem_of_getElem? (i := 103) rfl)
theorem mw12_7 : Cond.instanceMethod yX7_moment ∈ wsL_law := inr12 (List.mem_of_getElem? (i := 7) rfl)
theorem tw12_8 : Cond.selects RX7 yX7_moment yX7_moment ∈ lw_tbl := tb2 (List.mem_of_getElem? (i := 104) rfl)
theorem mw12_8 : Cond.selects RX7 yX7_moment yX7_moment ∈ wsL_law := inr12 (List.mem_of_getElem? (i := 8) rfl)
theorem tw12_9 : Cond.code yX7_moment cX7_moment 2 (some .int) ∈ lw_tbl := tb2 (List.mem_of_getElem? (i := 105) rfl)
theorem mw12_9 : Cond.code yX7_moment cX7_moment 2 (some .int) ∈ wsL_law := inr12 (List.mem_of_getElem? (i := 9) rfl)
theorem tw12_10 : Cond.fieldLink RX7 105 "TallowHours$Party" "moments" "I" ∈ lw_tbl := tb1 (List.mem_of_getElem? (i := 204) rfl)
theorem mw12_10 : Cond.fieldLink RX7 105 "TallowHours$Party" "moments" "I" ∈ wsL_law := inr12 (List.mem_of_getElem? (i := 10) rfl)
theorem tw12_11 : Cond.methodLink RX7 108 yX3_giftAt ∈ lw_tbl := tb2 (List.mem_of_getElem? (i := 106) rfl)
theorem mw12_11 : Cond.methodLink RX7 108 yX3_giftAt ∈ wsL_law := inr12 (List.mem_of_getElem? (i := 11) rfl)
theorem tw12_12 : Cond.instanceMethod yX3_giftAt ∈ lw_tbl := tb2 (List.mem_of_getElem? (i := 107) rfl)
theorem mw12_12 : Cond.instanceMethod yX3_giftAt ∈ wsL_law := inr12 (List.mem_of_getElem? (i := 12) rfl)
theorem tw12_13 : Cond.selects RX3 yX3_giftAt yX3_giftAt ∈ lw_tbl := tb2 (List.mem_of_getElem? (i := 108) rfl)
theorem mw12_13 : Cond.selects RX3 yX3_giftAt yX3_giftAt ∈ wsL_law := inr12 (List.mem_of_getElem? (i := 13) rfl)
theorem tw12_14 : Cond.code yX3_giftAt cX3_giftAt 2 (some .int) ∈ lw_tbl := tb2 (List.mem_of_getElem? (i := 109) rfl)
theorem mw12_14 : Cond.code yX3_giftAt cX3_giftAt 2 (some .int) ∈ wsL_law := inr12 (List.mem_of_getElem? (i := 14) rfl)
theorem tw12_15 : Cond.methodLink RL 34 yX8_moment ∈ lw_tbl := tb4 (List.mem_of_getElem? (i := 74) rfl)
theorem mw12_15 : Cond.methodLink RL 34 yX8_moment ∈ wsL_law := inr12 (List.mem_of_getElem? (i := 15) rfl)
theorem tw12_16 : Cond.instanceMethod yX8_moment ∈ lw_tbl := tb4 (List.mem_of_getElem? (i := 75) rfl)
theorem mw12_16 : Cond.instanceMethod yX8_moment ∈ wsL_law := inr12 (List.mem_of_getElem? (i := 16) rfl)
theorem tw12_17 : Cond.selects RX8 yX8_moment yX8_moment ∈ lw_tbl := tb4 (List.mem_of_getElem? (i := 76) rfl)
theorem mw12_17 : Cond.selects RX8 yX8_moment yX8_moment ∈ wsL_law := inr12 (List.mem_of_getElem? (i := 17) rfl)
theorem tw12_18 : Cond.code yX8_moment cX8_moment 2 (some .int) ∈ lw_tbl := tb4 (List.mem_of_getElem? (i := 77) rfl)
theorem mw12_18 : Cond.code yX8_moment cX8_moment 2 (some .int) ∈ wsL_law := inr12 (List.mem_of_getElem? (i := 18) rfl)
theorem tw12_19 : Cond.methodLink RL 35 yX7_candle ∈ lw_tbl := tb2 (List.mem_of_getElem? (i := 110) rfl)
theorem mw12_19 : Cond.methodLink RL 35 yX7_candle ∈ wsL_law := inr12 (List.mem_of_getElem? (i := 19) rfl)
theorem tw12_20 : Cond.instanceMethod yX7_candle ∈ lw_tbl := tb2 (List.mem_of_getElem? (i := 111) rfl)
theorem mw12_20 : Cond.instanceMethod yX7_candle ∈ wsL_law := inr12 (List.mem_of_getElem? (i := 20) rfl)
theorem tw12_21 : Cond.selects RX7 yX7_candle yX7_candle ∈ lw_tbl := tb2 (List.mem_of_getElem? (i := 112) rfl)
theorem mw12_21 : Cond.selects RX7 yX7_candle yX7_candle ∈ wsL_law := inr12 (List.mem_of_getElem? (i := 21) rfl)
theorem tw12_22 : Cond.code yX7_candle cX7_candle 3 (some .int) ∈ lw_tbl := tb2 (List.mem_of_getElem? (i := 113) rfl)
theorem mw12_22 : Cond.code yX7_candle cX7_candle 3 (some .int) ∈ wsL_law := inr12 (List.mem_of_getElem? (i := 22) rfl)
theorem tw12_23 : Cond.fieldLink RX7 115 "TallowHours$Burning" "left" "[I" ∈ lw_tbl := tb1 (List.mem_of_getElem? (i := 47) rfl)
theorem mw12_23 : Cond.fieldLink RX7 115 "TallowHours$Burning" "left" "[I" ∈ wsL_law := inr12 (List.mem_of_getElem? (i := 23) rfl)
theorem gdr12 : GoodIn lw_tbl wsL_law_r12 := List.forall_mem_cons.mpr ⟨⟨tw12_0, Or.inl rfl⟩, List.forall_mem_cons.mpr ⟨⟨tw12_1, Or.inl rfl⟩, List.forall_mem_cons.mpr ⟨⟨tw12_2, Or.inl rfl⟩, List.forall_mem_cons.mpr ⟨⟨tw12_3, Or.inl rfl⟩, List.forall_mem_cons.mpr ⟨⟨tw12_4, Or.inl rfl⟩, List.forall_mem_cons.mpr ⟨⟨tw12_5, Or.inl rfl⟩, List.forall_mem_cons.mpr ⟨⟨tw12_6, Or.inl rfl⟩, List.forall_mem_cons.mpr ⟨⟨tw12_7, Or.inl rfl⟩, List.forall_mem_cons.mpr ⟨⟨tw12_8, Or.inl rfl⟩, List.forall_mem_cons.mpr ⟨⟨tw12_9, Or.inl rfl⟩, List.forall_mem_cons.mpr ⟨⟨tw12_10, Or.inl rfl⟩, List.forall_mem_cons.mpr ⟨⟨tw12_11, Or.inl rfl⟩, List.forall_mem_cons.mpr ⟨⟨tw12_12, Or.inl rfl⟩, List.forall_mem_cons.mpr ⟨⟨tw12_13, Or.inl rfl⟩, List.forall_mem_cons.mpr ⟨⟨tw12_14, Or.inl rfl⟩, List.forall_mem_cons.mpr ⟨⟨tw12_15, Or.inl rfl⟩, List.forall_mem_cons.mpr ⟨⟨tw12_16, Or.inl rfl⟩, List.forall_mem_cons.mpr ⟨⟨tw12_17, Or.inl rfl⟩, List.forall_mem_cons.mpr ⟨⟨tw12_18, Or.inl rfl⟩, List.forall_mem_cons.mpr ⟨⟨tw12_19, Or.inl rfl⟩, List.forall_mem_cons.mpr ⟨⟨tw12_20, Or.inl rfl⟩, List.forall_mem_cons.mpr ⟨⟨tw12_21, Or.inl rfl⟩, List.forall_mem_cons.mpr ⟨⟨tw12_22, Or.inl rfl⟩, List.forall_mem_cons.mpr ⟨⟨tw12_23, Or.inl rfl⟩, fun _ h => absurd h List.not_mem_nil⟩⟩⟩⟩⟩⟩⟩⟩⟩⟩⟩⟩⟩⟩⟩⟩⟩⟩⟩⟩⟩⟩⟩⟩
theorem tw13_0 : Cond.fieldLink RX7 118 "TallowHours$Burning" "place" "[I" ∈ lw_tbl := tb1 (List.mem_of_getElem? (i := 44) rfl)
theorem mw13_0 : Cond.fieldLink RX7 118 "TallowHours$Burning" "place" "[I" ∈ wsL_law := inr13 (List.mem_of_getElem? (i := 0) rfl)
theorem tw13_1 : Cond.fieldLink RX7 121 "TallowHours$Party" "price" "[I" ∈ lw_tbl := tb1 (List.mem_of_getElem? (i := 179) rfl)
theorem mw13_1 : Cond.fieldLink RX7 121 "TallowHours$Party" "price" "[I" ∈ wsL_law := inr13 (List.mem_of_getElem? (i := 1) rfl)
theorem tw13_2 : Cond.fieldLink RX7 124 "TallowHours$Burning" "flame" "[I" ∈ lw_tbl := tb1 (List.mem_of_getElem? (i := 50) rfl)
theorem mw13_2 : Cond.fieldLink RX7 124 "TallowHours$Burning" "flame" "[I" ∈ wsL_law := inr13 (List.mem_of_getElem? (i := 2) rfl)
theorem tw13_3 : Cond.methodLink RX7 111 yX3_hasCandle ∈ lw_tbl := tb2 (List.mem_of_getElem? (i := 114) rfl)
theorem mw13_3 : Cond.methodLink RX7 111 yX3_hasCandle ∈ wsL_law := inr13 (List.mem_of_getElem? (i := 3) rfl)
theorem tw13_4 : Cond.instanceMethod yX3_hasCandle ∈ lw_tbl := tb2 (List.mem_of_getElem? (i := 115) rfl)
theorem mw13_4 : Cond.instanceMethod yX3_hasCandle ∈ wsL_law := inr13 (List.mem_of_getElem? (i := 4) rfl)
theorem tw13_5 : Cond.selects RX3 yX3_hasCandle yX3_hasCandle ∈ lw_tbl := tb2 (List.mem_of_getElem? (i := 116) rfl)
theorem mw13_5 : Cond.selects RX3 yX3_hasCandle yX3_hasCandle ∈ wsL_law := inr13 (List.mem_of_getElem? (i := 5) rfl)
theorem tw13_6 : Cond.code yX3_hasCandle cX3_hasCandle 2 (some .boolean) ∈ lw_tbl := tb2 (List.mem_of_getElem? (i := 117) rfl)
theorem mw13_6 : Cond.code yX3_hasCandle cX3_hasCandle 2 (some .boolean) ∈ wsL_law := inr13 (List.mem_of_getElem? (i := 6) rfl)
theorem tw13_7 : Cond.methodLink RL 39 yX8_candle ∈ lw_tbl := tb4 (List.mem_of_getElem? (i := 78) rfl)
theorem mw13_7 : Cond.methodLink RL 39 yX8_candle ∈ wsL_law := inr13 (List.mem_of_getElem? (i := 7) rfl)
theorem tw13_8 : Cond.instanceMethod yX8_candle ∈ lw_tbl := tb4 (List.mem_of_getElem? (i := 79) rfl)
theorem mw13_8 : Cond.instanceMethod yX8_candle ∈ wsL_law := inr13 (List.mem_of_getElem? (i := 8) rfl)
theorem tw13_9 : Cond.selects RX8 yX8_candle yX8_candle ∈ lw_tbl := tb4 (List.mem_of_getElem? (i := 80) rfl)
theorem mw13_9 : Cond.selects RX8 yX8_candle yX8_candle ∈ wsL_law := inr13 (List.mem_of_getElem? (i := 9) rfl)
theorem tw13_10 : Cond.code yX8_candle cX8_candle 3 (some .int) ∈ lw_tbl := tb4 (List.mem_of_getElem? (i := 81) rfl)
theorem mw13_10 : Cond.code yX8_candle cX8_candle 3 (some .int) ∈ wsL_law := inr13 (List.mem_of_getElem? (i := 10) rfl)
theorem tw13_11 : Cond.methodLink RX8 131 yX8_isCandle ∈ lw_tbl := tb4 (List.mem_of_getElem? (i := 82) rfl)
theorem mw13_11 : Cond.methodLink RX8 131 yX8_isCandle ∈ wsL_law := inr13 (List.mem_of_getElem? (i := 11) rfl)
theorem tw13_12 : Cond.instanceMethod yX8_isCandle ∈ lw_tbl := tb4 (List.mem_of_getElem? (i := 84) rfl)
theorem mw13_12 : Cond.instanceMethod yX8_isCandle ∈ wsL_law := inr13 (List.mem_of_getElem? (i := 12) rfl)
theorem tw13_13 : Cond.selects RX8 yX8_isCandle yX8_isCandle ∈ lw_tbl := List.mem_append_left _ (List.mem_of_getElem? (i := 22) rfl)
theorem mw13_13 : Cond.selects RX8 yX8_isCandle yX8_isCandle ∈ wsL_law := inr13 (List.mem_of_getElem? (i := 13) rfl)
theorem tw13_14 : Cond.code yX8_isCandle cX8_isCandle 2 (some .boolean) ∈ lw_tbl := tb4 (List.mem_of_getElem? (i := 85) rfl)
theorem mw13_14 : Cond.code yX8_isCandle cX8_isCandle 2 (some .boolean) ∈ wsL_law := inr13 (List.mem_of_getElem? (i := 14) rfl)
theorem tw13_15 : Cond.methodLink RL 40 yX7_guest ∈ lw_tbl := tb2 (List.mem_of_getElem? (i := 118) rfl)
theorem mw13_15 : Cond.methodLink RL 40 yX7_guest ∈ wsL_law := inr13 (List.mem_of_getElem? (i := 15) rfl)
theorem tw13_16 : Cond.instanceMethod yX7_guest ∈ lw_tbl := tb2 (List.mem_of_getElem? (i := 119) rfl)
theorem mw13_16 : Cond.instanceMethod yX7_guest ∈ wsL_law := inr13 (List.mem_of_getElem? (i := 16) rfl)
theorem tw13_17 : Cond.selects RX7 yX7_guest yX7_guest ∈ lw_tbl := tb2 (List.mem_of_getElem? (i := 120) rfl)
theorem mw13_17 : Cond.selects RX7 yX7_guest yX7_guest ∈ wsL_law := inr13 (List.mem_of_getElem? (i := 17) rfl)
theorem tw13_18 : Cond.code yX7_guest cX7_guest 3 (some .int) ∈ lw_tbl := tb2 (List.mem_of_getElem? (i := 121) rfl)
theorem mw13_18 : Cond.code yX7_guest cX7_guest 3 (some .int) ∈ wsL_law := inr13 (List.mem_of_getElem? (i := 18) rfl)
theorem tw13_19 : Cond.fieldLink RX7 130 "TallowHours$Party" "wish" "[I" ∈ lw_tbl := tb1 (List.mem_of_getElem? (i := 185) rfl)
theorem mw13_19 : Cond.fieldLink RX7 130 "TallowHours$Party" "wish" "[I" ∈ wsL_law := inr13 (List.mem_of_getElem? (i := 19) rfl)
theorem tw13_20 : Cond.fieldLink RX7 133 "TallowHours$Party" "wanted" "[I" ∈ lw_tbl := tb1 (List.mem_of_getElem? (i := 189) rfl)
theorem mw13_20 : Cond.fieldLink RX7 133 "TallowHours$Party" "wanted" "[I" ∈ wsL_law := inr13 (List.mem_of_getElem? (i := 20) rfl)
theorem tw13_21 : Cond.fieldLink RX7 136 "TallowHours$Party" "comes" "[I" ∈ lw_tbl := tb1 (List.mem_of_getElem? (i := 195) rfl)
theorem mw13_21 : Cond.fieldLink RX7 136 "TallowHours$Party" "comes" "[I" ∈ wsL_law := inr13 (List.mem_of_getElem? (i := 21) rfl)
theorem tw13_22 : Cond.fieldLink RX7 139 "TallowHours$Party" "goes" "[I" ∈ lw_tbl := tb1 (List.mem_of_getElem? (i := 200) rfl)
theorem mw13_22 : Cond.fieldLink RX7 139 "TallowHours$Party" "goes" "[I" ∈ wsL_law := inr13 (List.mem_of_getElem? (i := 22) rfl)
theorem tw13_23 : Cond.fieldLink RX7 142 "TallowHours$Burning" "had" "[I" ∈ lw_tbl := tb1 (List.mem_of_getElem? (i := 53) rfl)
theorem mw13_23 : Cond.fieldLink RX7 142 "TallowHours$Burning" "had" "[I" ∈ wsL_law := inr13 (List.mem_of_getElem? (i := 23) rfl)
theorem gdr13 : GoodIn lw_tbl wsL_law_r13 := List.forall_mem_cons.mpr ⟨⟨tw13_0, Or.inl rfl⟩, List.forall_mem_cons.mpr ⟨⟨tw13_1, Or.inl rfl⟩, List.forall_mem_cons.mpr ⟨⟨tw13_2, Or.inl rfl⟩, List.forall_mem_cons.mpr ⟨⟨tw13_3, Or.inl rfl⟩, List.forall_mem_cons.mpr ⟨⟨tw13_4, Or.inl rfl⟩, List.forall_mem_cons.mpr ⟨⟨tw13_5, Or.inl rfl⟩, List.forall_mem_cons.mpr ⟨⟨tw13_6, Or.inl rfl⟩, List.forall_mem_cons.mpr ⟨⟨tw13_7, Or.inl rfl⟩, List.forall_mem_cons.mpr ⟨⟨tw13_8, Or.inl rfl⟩, List.forall_mem_cons.mpr ⟨⟨tw13_9, Or.inl rfl⟩, List.forall_mem_cons.mpr ⟨⟨tw13_10, Or.inl rfl⟩, List.forall_mem_cons.mpr ⟨⟨tw13_11, Or.inl rfl⟩, List.forall_mem_cons.mpr ⟨⟨tw13_12, Or.inl rfl⟩, List.forall_mem_cons.mpr ⟨⟨tw13_13, Or.inl rfl⟩, List.forall_mem_cons.mpr ⟨⟨tw13_14, Or.inl rfl⟩, List.forall_mem_cons.mpr ⟨⟨tw13_15, Or.inl rfl⟩, List.forall_mem_cons.mpr ⟨⟨tw13_16, Or.inl rfl⟩, List.forall_mem_cons.mpr ⟨⟨tw13_17, Or.inl rfl⟩, List.forall_mem_cons.mpr ⟨⟨tw13_18, Or.inl rfl⟩, List.forall_mem_cons.mpr ⟨⟨tw13_19, Or.inl rfl⟩, List.forall_mem_cons.mpr ⟨⟨tw13_20, Or.inl rfl⟩, List.forall_mem_cons.mpr ⟨⟨tw13_21, Or.inl rfl⟩, List.forall_mem_cons.mpr ⟨⟨tw13_22, Or.inl rfl⟩, List.forall_mem_cons.mpr ⟨⟨tw13_23, Or.inl rfl⟩, fun _ h => absurd h List.not_mem_nil⟩⟩⟩⟩⟩⟩⟩⟩⟩⟩⟩⟩⟩⟩⟩⟩⟩⟩⟩⟩⟩⟩⟩⟩
theorem tw14_0 : Cond.methodLink RX7 127 yX3_hasGuest ∈ lw_tbl := tb2 (List.mem_of_getElem? (i := 122) rfl)
theorem mw14_0 : Cond.methodLink RX7 127 yX3_hasGuest ∈ wsL_law := inr14 (List.mem_of_getElem? (i := 0) rfl)
theorem tw14_1 : Cond.instanceMethod yX3_hasGuest ∈ lw_tbl := tb2 (List.mem_of_getElem? (i := 123) rfl)
theorem mw14_1 : Cond.instanceMethod yX3_hasGuest ∈ wsL_law := inr14 (List.mem_of_getElem? (i := 1) rfl)
theorem tw14_2 : Cond.selects RX3 yX3_hasGuest yX3_hasGuest ∈ lw_tbl := tb2 (List.mem_of_getElem? (i := 124) rfl)
theorem mw14_2 : Cond.selects RX3 yX3_hasGuest yX3_hasGuest ∈ wsL_law := inr14 (List.mem_of_getElem? (i := 2) rfl)
theorem tw14_3 : Cond.code yX3_hasGuest cX3_hasGuest 2 (some .boolean) ∈ lw_tbl := tb2 (List.mem_of_getElem? (i := 125) rfl)
theorem mw14_3 : Cond.code yX3_hasGuest cX3_hasGuest 2 (some .boolean) ∈ wsL_law := inr14 (List.mem_of_getElem? (i := 3) rfl)
theorem tw14_4 : Cond.methodLink RX7 145 yX2_isContent ∈ lw_tbl := tb2 (List.mem_of_getElem? (i := 126) rfl)
theorem mw14_4 : Cond.methodLink RX7 145 yX2_isContent ∈ wsL_law := inr14 (List.mem_of_getElem? (i := 4) rfl)
theorem tw14_5 : Cond.instanceMethod yX2_isContent ∈ lw_tbl := tb2 (List.mem_of_getElem? (i := 127) rfl)
theorem mw14_5 : Cond.instanceMethod yX2_isContent ∈ wsL_law := inr14 (List.mem_of_getElem? (i := 5) rfl)
theorem tw14_6 : Cond.selects RX2 yX2_isContent yX2_isContent ∈ lw_tbl := tb2 (List.mem_of_getElem? (i := 128) rfl)
theorem mw14_6 : Cond.selects RX2 yX2_isContent yX2_isContent ∈ wsL_law := inr14 (List.mem_of_getElem? (i := 6) rfl)
theorem tw14_7 : Cond.code yX2_isContent cX2_isContent 3 (some .boolean) ∈ lw_tbl := tb2 (List.mem_of_getElem? (i := 129) rfl)
theorem mw14_7 : Cond.code yX2_isContent cX2_isContent 3 (some .boolean) ∈ wsL_law := inr14 (List.mem_of_getElem? (i := 7) rfl)
theorem tw14_8 : Cond.fieldLink RX2 76 "TallowHours$Party" "wanted" "[I" ∈ lw_tbl := tb1 (List.mem_of_getElem? (i := 190) rfl)
theorem mw14_8 : Cond.fieldLink RX2 76 "TallowHours$Party" "wanted" "[I" ∈ wsL_law := inr14 (List.mem_of_getElem? (i := 8) rfl)
theorem tw14_9 : Cond.methodLink RX2 73 yX3_hasGuest ∈ lw_tbl := tb2 (List.mem_of_getElem? (i := 130) rfl)
theorem mw14_9 : Cond.methodLink RX2 73 yX3_hasGuest ∈ wsL_law := inr14 (List.mem_of_getElem? (i := 9) rfl)
theorem tw14_10 : Cond.methodLink RL 43 yX8_guest ∈ lw_tbl := tb4 (List.mem_of_getElem? (i := 86) rfl)
theorem mw14_10 : Cond.methodLink RL 43 yX8_guest ∈ wsL_law := inr14 (List.mem_of_getElem? (i := 10) rfl)
theorem tw14_11 : Cond.instanceMethod yX8_guest ∈ lw_tbl := tb4 (List.mem_of_getElem? (i := 87) rfl)
theorem mw14_11 : Cond.instanceMethod yX8_guest ∈ wsL_law := inr14 (List.mem_of_getElem? (i := 11) rfl)
theorem tw14_12 : Cond.selects RX8 yX8_guest yX8_guest ∈ lw_tbl := tb4 (List.mem_of_getElem? (i := 88) rfl)
theorem mw14_12 : Cond.selects RX8 yX8_guest yX8_guest ∈ wsL_law := inr14 (List.mem_of_getElem? (i := 12) rfl)
theorem tw14_13 : Cond.code yX8_guest cX8_guest 3 (some .int) ∈ lw_tbl := tb4 (List.mem_of_getElem? (i := 89) rfl)
theorem mw14_13 : Cond.code yX8_guest cX8_guest 3 (some .int) ∈ wsL_law := inr14 (List.mem_of_getElem? (i := 13) rfl)
theorem tw14_14 : Cond.methodLink RX8 135 yX8_isGuest ∈ lw_tbl := tb4 (List.mem_of_getElem? (i := 90) rfl)
theorem mw14_14 : Cond.methodLink RX8 135 yX8_isGuest ∈ wsL_law := inr14 (List.mem_of_getElem? (i := 14) rfl)
theorem tw14_15 : Cond.instanceMethod yX8_isGuest ∈ lw_tbl := tb4 (List.mem_of_getElem? (i := 92) rfl)
theorem mw14_15 : Cond.instanceMethod yX8_isGuest ∈ wsL_law := inr14 (List.mem_of_getElem? (i := 15) rfl)
theorem tw14_16 : Cond.selects RX8 yX8_isGuest yX8_isGuest ∈ lw_tbl := List.mem_append_left _ (List.mem_of_getElem? (i := 23) rfl)
theorem mw14_16 : Cond.selects RX8 yX8_isGuest yX8_isGuest ∈ wsL_law := inr14 (List.mem_of_getElem? (i := 16) rfl)
theorem tw14_17 : Cond.code yX8_isGuest cX8_isGuest 2 (some .boolean) ∈ lw_tbl := tb4 (List.mem_of_getElem? (i := 93) rfl)
theorem mw14_17 : Cond.code yX8_isGuest cX8_isGuest 2 (some .boolean) ∈ wsL_law := inr14 (List.mem_of_getElem? (i := 17) rfl)
theorem tw14_18 : Cond.methodLink RX8 138 yX8_isContent ∈ lw_tbl := tb4 (List.mem_of_getElem? (i := 94) rfl)
theorem mw14_18 : Cond.methodLink RX8 138 yX8_isContent ∈ wsL_law := inr14 (List.mem_of_getElem? (i := 18) rfl)
theorem tw14_19 : Cond.instanceMethod yX8_isContent ∈ lw_tbl := tb4 (List.mem_of_getElem? (i := 96) rfl)
theorem mw14_19 : Cond.instanceMethod yX8_isContent ∈ wsL_law := inr14 (List.mem_of_getElem? (i := 19) rfl)
theorem tw14_20 : Cond.selects RX8 yX8_isContent yX8_isContent ∈ lw_tbl := List.mem_append_left _ (List.mem_of_getElem? (i := 24) rfl)
theorem mw14_20 : Cond.selects RX8 yX8_isContent yX8_isContent ∈ wsL_law := inr14 (List.mem_of_getElem? (i := 20) rfl)
theorem tw14_21 : Cond.code yX8_isContent cX8_isContent 3 (some .boolean) ∈ lw_tbl := tb4 (List.mem_of_getElem? (i := 97) rfl)
theorem mw14_21 : Cond.code yX8_isContent cX8_isContent 3 (some .boolean) ∈ wsL_law := inr14 (List.mem_of_getElem? (i := 21) rfl)
theorem tw14_22 : Cond.methodLink RL 44 yX7_light ∈ lw_tbl := tb2 (List.mem_of_getElem? (i := 131) rfl)
theorem mw14_22 : Cond.methodLink RL 44 yX7_light ∈ wsL_law := inr14 (List.mem_of_getElem? (i := 22) rfl)
theorem tw14_23 : Cond.instanceMethod yX7_light ∈ lw_tbl := tb2 (List.mem_of_getElem? (i := 132) rfl)
theorem mw14_23 : Cond.instanceMethod yX7_light ∈ wsL_law := inr14 (List.mem_of_getElem? (i := 23) rfl)
theorem gdr14 : GoodIn lw_tbl wsL_law_r14 := List.forall_mem_cons.mpr ⟨⟨tw14_0, Or.inl rfl⟩, List.forall_mem_cons.mpr ⟨⟨tw14_1, Or.inl rfl⟩, List.forall_mem_cons.mpr ⟨⟨tw14_2, Or.inl rfl⟩, List.forall_mem_cons.mpr ⟨⟨tw14_3, Or.inl rfl⟩, List.forall_mem_cons.mpr ⟨⟨tw14_4, Or.inl rfl⟩, List.forall_mem_cons.mpr ⟨⟨tw14_5, Or.inl rfl⟩, List.forall_mem_cons.mpr ⟨⟨tw14_6, Or.inl rfl⟩, List.forall_mem_cons.mpr ⟨⟨tw14_7, Or.inl rfl⟩, List.forall_mem_cons.mpr ⟨⟨tw14_8, Or.inl rfl⟩, List.forall_mem_cons.mpr ⟨⟨tw14_9, Or.inl rfl⟩, List.forall_mem_cons.mpr ⟨⟨tw14_10, Or.inl rfl⟩, List.forall_mem_cons.mpr ⟨⟨tw14_11, Or.inl rfl⟩, List.forall_mem_cons.mpr ⟨⟨tw14_12, Or.inl rfl⟩, List.forall_mem_cons.mpr ⟨⟨tw14_13, Or.inl rfl⟩, List.forall_mem_cons.mpr ⟨⟨tw14_14, Or.inl rfl⟩, List.forall_mem_cons.mpr ⟨⟨tw14_15, Or.inl rfl⟩, List.forall_mem_cons.mpr ⟨⟨tw14_16, Or.inl rfl⟩, List.forall_mem_cons.mpr ⟨⟨tw14_17, Or.inl rfl⟩, List.forall_mem_cons.mpr ⟨⟨tw14_18, Or.inl rfl⟩, List.forall_mem_cons.mpr ⟨⟨tw14_19, Or.inl rfl⟩, List.forall_mem_cons.mpr ⟨⟨tw14_20, Or.inl rfl⟩, List.forall_mem_cons.mpr ⟨⟨tw14_21, Or.inl rfl⟩, List.forall_mem_cons.mpr ⟨⟨tw14_22, Or.inl rfl⟩, List.forall_mem_cons.mpr ⟨⟨tw14_23, Or.inl rfl⟩, fun _ h => absurd h List.not_mem_nil⟩⟩⟩⟩⟩⟩⟩⟩⟩⟩⟩⟩⟩⟩⟩⟩⟩⟩⟩⟩⟩⟩⟩⟩
theorem tw15_0 : Cond.selects RX7 yX7_light yX7_light ∈ lw_tbl := tb2 (List.mem_of_getElem? (i := 133) rfl)
theorem mw15_0 : Cond.selects RX7 yX7_light yX7_light ∈ wsL_law := inr15 (List.mem_of_getElem? (i := 0) rfl)
theorem tw15_1 : Cond.code yX7_light cX7_light 2 (some .int) ∈ lw_tbl := tb2 (List.mem_of_getElem? (i := 134) rfl)
theorem mw15_1 : Cond.code yX7_light cX7_light 2 (some .int) ∈ wsL_law := inr15 (List.mem_of_getElem? (i := 1) rfl)
theorem tw15_2 : Cond.methodLink RX7 149 yX7_rememberAct ∈ lw_tbl := tb2 (List.mem_of_getElem? (i := 135) rfl)
theorem mw15_2 : Cond.methodLink RX7 149 yX7_rememberAct ∈ wsL_law := inr15 (List.mem_of_getElem? (i := 2) rfl)
theorem tw15_3 : Cond.instanceMethod yX7_rememberAct ∈ lw_tbl := tb2 (List.mem_of_getElem? (i := 137) rfl)
theorem mw15_3 : Cond.instanceMethod yX7_rememberAct ∈ wsL_law := inr15 (List.mem_of_getElem? (i := 3) rfl)
theorem tw15_4 : Cond.selects RX7 yX7_rememberAct yX7_rememberAct ∈ lw_tbl := List.mem_append_left _ (List.mem_of_getElem? (i := 6) rfl)
theorem mw15_4 : Cond.selects RX7 yX7_rememberAct yX7_rememberAct ∈ wsL_law := inr15 (List.mem_of_getElem? (i := 4) rfl)
theorem tw15_5 : Cond.code yX7_rememberAct cX7_rememberAct 1 none ∈ lw_tbl := tb2 (List.mem_of_getElem? (i := 138) rfl)
theorem mw15_5 : Cond.code yX7_rememberAct cX7_rememberAct 1 none ∈ wsL_law := inr15 (List.mem_of_getElem? (i := 5) rfl)
theorem tw15_6 : Cond.methodLink RX7 174 yX0_add ∈ lw_tbl := tb2 (List.mem_of_getElem? (i := 139) rfl)
theorem mw15_6 : Cond.methodLink RX7 174 yX0_add ∈ wsL_law := inr15 (List.mem_of_getElem? (i := 6) rfl)
theorem tw15_7 : Cond.instanceMethod yX0_add ∈ lw_tbl := tb2 (List.mem_of_getElem? (i := 140) rfl)
theorem mw15_7 : Cond.instanceMethod yX0_add ∈ wsL_law := inr15 (List.mem_of_getElem? (i := 7) rfl)
theorem tw15_8 : Cond.selects RX0 yX0_add yX0_add ∈ lw_tbl := tb2 (List.mem_of_getElem? (i := 141) rfl)
theorem mw15_8 : Cond.selects RX0 yX0_add yX0_add ∈ wsL_law := inr15 (List.mem_of_getElem? (i := 8) rfl)
theorem tw15_9 : Cond.code yX0_add cX0_add 2 none ∈ lw_tbl := tb2 (List.mem_of_getElem? (i := 142) rfl)
theorem mw15_9 : Cond.code yX0_add cX0_add 2 none ∈ wsL_law := inr15 (List.mem_of_getElem? (i := 9) rfl)
theorem tw15_10 : Cond.methodLink RX0 24 yX2_saveTo ∈ lw_tbl := tb2 (List.mem_of_getElem? (i := 143) rfl)
theorem mw15_10 : Cond.methodLink RX0 24 yX2_saveTo ∈ wsL_law := inr15 (List.mem_of_getElem? (i := 10) rfl)
theorem tw15_11 : Cond.instanceMethod yX2_saveTo ∈ lw_tbl := tb2 (List.mem_of_getElem? (i := 144) rfl)
theorem mw15_11 : Cond.instanceMethod yX2_saveTo ∈ wsL_law := inr15 (List.mem_of_getElem? (i := 11) rfl)
theorem tw15_12 : Cond.selects RX2 yX2_saveTo yX2_saveTo ∈ lw_tbl := tb2 (List.mem_of_getElem? (i := 145) rfl)
theorem mw15_12 : Cond.selects RX2 yX2_saveTo yX2_saveTo ∈ wsL_law := inr15 (List.mem_of_getElem? (i := 12) rfl)
theorem tw15_13 : Cond.code yX2_saveTo cX2_saveTo 4 none ∈ lw_tbl := tb2 (List.mem_of_getElem? (i := 146) rfl)
theorem mw15_13 : Cond.code yX2_saveTo cX2_saveTo 4 none ∈ wsL_law := inr15 (List.mem_of_getElem? (i := 13) rfl)
theorem tw15_14 : Cond.methodLink RX7 152 yX2_withFlame ∈ lw_tbl := tb2 (List.mem_of_getElem? (i := 147) rfl)
theorem mw15_14 : Cond.methodLink RX7 152 yX2_withFlame ∈ wsL_law := inr15 (List.mem_of_getElem? (i := 14) rfl)
theorem tw15_15 : Cond.instanceMethod yX2_withFlame ∈ lw_tbl := tb2 (List.mem_of_getElem? (i := 148) rfl)
theorem mw15_15 : Cond.instanceMethod yX2_withFlame ∈ wsL_law := inr15 (List.mem_of_getElem? (i := 15) rfl)
theorem tw15_16 : Cond.selects RX2 yX2_withFlame yX2_withFlame ∈ lw_tbl := tb2 (List.mem_of_getElem? (i := 149) rfl)
theorem mw15_16 : Cond.selects RX2 yX2_withFlame yX2_withFlame ∈ wsL_law := inr15 (List.mem_of_getElem? (i := 16) rfl)
theorem tw15_17 : Cond.code yX2_withFlame cX2_withFlame 5 (some .int) ∈ lw_tbl := tb2 (List.mem_of_getElem? (i := 150) rfl)
theorem mw15_17 : Cond.code yX2_withFlame cX2_withFlame 5 (some .int) ∈ wsL_law := inr15 (List.mem_of_getElem? (i := 17) rfl)
theorem tw15_18 : Cond.fieldLink RX2 43 "TallowHours$Party" "candles" "I" ∈ lw_tbl := tb1 (List.mem_of_getElem? (i := 208) rfl)
theorem mw15_18 : Cond.fieldLink RX2 43 "TallowHours$Party" "candles" "I" ∈ wsL_law := inr15 (List.mem_of_getElem? (i := 18) rfl)
theorem tw15_19 : Cond.methodLink RX7 156 yJ6_bitCount_0f7a4 ∈ lw_tbl := tb2 (List.mem_of_getElem? (i := 151) rfl)
theorem mw15_19 : Cond.methodLink RX7 156 yJ6_bitCount_0f7a4 ∈ wsL_law := inr15 (List.mem_of_getElem? (i := 19) rfl)
theorem tw15_20 : Cond.static yJ6_bitCount_0f7a4 ∈ lw_tbl := tb2 (List.mem_of_getElem? (i := 152) rfl)
theorem mw15_20 : Cond.static yJ6_bitCount_0f7a4 ∈ wsL_law := inr15 (List.mem_of_getElem? (i := 20) rfl)
theorem tw15_21 : Cond.initialized RJ6 ∈ lw_tbl := tb1 (List.mem_of_getElem? (i := 11) rfl)
theorem mw15_21 : Cond.initialized RJ6 ∈ wsL_law := inr15 (List.mem_of_getElem? (i := 21) rfl)
theorem tw15_22 : Cond.code yJ6_bitCount_0f7a4 cJ6_bitCount_0f7a4 1 (some .int) ∈ lw_tbl := tb2 (List.mem_of_getElem? (i := 153) rfl)
theorem mw15_22 : Cond.code yJ6_bitCount_0f7a4 cJ6_bitCount_0f7a4 1 (some .int) ∈ wsL_law := inr15 (List.mem_of_getElem? (i := 22) rfl)
theorem tw15_23 : Cond.constant RJ6 265 (1431655765) ∈ lw_tbl := tb2 (List.mem_of_getElem? (i := 154) rfl)
theorem mw15_23 : Cond.constant RJ6 265 (1431655765) ∈ wsL_law := inr15 (List.mem_of_getElem? (i := 23) rfl)
theorem gdr15 : GoodIn lw_tbl wsL_law_r15 := List.forall_mem_cons.mpr ⟨⟨tw15_0, Or.inl rfl⟩, List.forall_mem_cons.mpr ⟨⟨tw15_1, Or.inl rfl⟩, List.forall_mem_cons.mpr ⟨⟨tw15_2, Or.inl rfl⟩, List.forall_mem_cons.mpr ⟨⟨tw15_3, Or.inl rfl⟩, List.forall_mem_cons.mpr ⟨⟨tw15_4, Or.inl rfl⟩, List.forall_mem_cons.mpr ⟨⟨tw15_5, Or.inl rfl⟩, List.forall_mem_cons.mpr ⟨⟨tw15_6, Or.inl rfl⟩, List.forall_mem_cons.mpr ⟨⟨tw15_7, Or.inl rfl⟩, List.forall_mem_cons.mpr ⟨⟨tw15_8, Or.inl rfl⟩, List.forall_mem_cons.mpr ⟨⟨tw15_9, Or.inl rfl⟩, List.forall_mem_cons.mpr ⟨⟨tw15_10, Or.inl rfl⟩, List.forall_mem_cons.mpr ⟨⟨tw15_11, Or.inl rfl⟩, List.forall_mem_cons.mpr ⟨⟨tw15_12, Or.inl rfl⟩, List.forall_mem_cons.mpr ⟨⟨tw15_13, Or.inl rfl⟩, List.forall_mem_cons.mpr ⟨⟨tw15_14, Or.inl rfl⟩, List.forall_mem_cons.mpr ⟨⟨tw15_15, Or.inl rfl⟩, List.forall_mem_cons.mpr ⟨⟨tw15_16, Or.inl rfl⟩, List.forall_mem_cons.mpr ⟨⟨tw15_17, Or.inl rfl⟩, List.forall_mem_cons.mpr ⟨⟨tw15_18, Or.inl rfl⟩, List.forall_mem_cons.mpr ⟨⟨tw15_19, Or.inl rfl⟩, List.forall_mem_cons.mpr ⟨⟨tw15_20, Or.inl rfl⟩, List.forall_mem_cons.mpr ⟨⟨tw15_21, Or.inl rfl⟩, List.forall_mem_cons.mpr ⟨⟨tw15_22, Or.inl rfl⟩, List.forall_mem_cons.mpr ⟨⟨tw15_23, Or.inl rfl⟩, fun _ h => absurd h List.not_mem_nil⟩⟩⟩⟩⟩⟩⟩⟩⟩⟩⟩⟩⟩⟩⟩⟩⟩⟩⟩⟩⟩⟩⟩⟩
theorem tw16_0 : Cond.constant RJ6 266 (858993459) ∈ lw_tbl := tb2 (List.mem_of_getElem? (i := 155) rfl)
theorem mw16_0 : Cond.constant RJ6 266 (858993459) ∈ wsL_law := inr16 (List.mem_of_getElem? (i := 0) rfl)
theorem tw16_1 : Cond.constant RJ6 267 (252645135) ∈ lw_tbl := tb2 (List.mem_of_getElem? (i := 156) rfl)
theorem mw16_1 : Cond.constant RJ6 267 (252645135) ∈ wsL_law := inr16 (List.mem_of_getElem? (i := 1) rfl)
theorem tw16_2 : Cond.methodLink RL 47 yX8_light ∈ lw_tbl := tb4 (List.mem_of_getElem? (i := 98) rfl)
theorem mw16_2 : Cond.methodLink RL 47 yX8_light ∈ wsL_law := inr16 (List.mem_of_getElem? (i := 2) rfl)
theorem tw16_3 : Cond.instanceMethod yX8_light ∈ lw_tbl := tb4 (List.mem_of_getElem? (i := 99) rfl)
theorem mw16_3 : Cond.instanceMethod yX8_light ∈ wsL_law := inr16 (List.mem_of_getElem? (i := 3) rfl)
theorem tw16_4 : Cond.selects RX8 yX8_light yX8_light ∈ lw_tbl := tb4 (List.mem_of_getElem? (i := 100) rfl)
theorem mw16_4 : Cond.selects RX8 yX8_light yX8_light ∈ wsL_law := inr16 (List.mem_of_getElem? (i := 4) rfl)
theorem tw16_5 : Cond.code yX8_light cX8_light 2 (some .int) ∈ lw_tbl := tb4 (List.mem_of_getElem? (i := 101) rfl)
theorem mw16_5 : Cond.code yX8_light cX8_light 2 (some .int) ∈ wsL_law := inr16 (List.mem_of_getElem? (i := 5) rfl)
theorem tw16_6 : Cond.methodLink RX8 148 yX8_keepAct ∈ lw_tbl := tb4 (List.mem_of_getElem? (i := 102) rfl)
theorem mw16_6 : Cond.methodLink RX8 148 yX8_keepAct ∈ wsL_law := inr16 (List.mem_of_getElem? (i := 6) rfl)
theorem tw16_7 : Cond.instanceMethod yX8_keepAct ∈ lw_tbl := tb4 (List.mem_of_getElem? (i := 104) rfl)
theorem mw16_7 : Cond.instanceMethod yX8_keepAct ∈ wsL_law := inr16 (List.mem_of_getElem? (i := 7) rfl)
theorem tw16_8 : Cond.selects RX8 yX8_keepAct yX8_keepAct ∈ lw_tbl := List.mem_append_left _ (List.mem_of_getElem? (i := 25) rfl)
theorem mw16_8 : Cond.selects RX8 yX8_keepAct yX8_keepAct ∈ wsL_law := inr16 (List.mem_of_getElem? (i := 8) rfl)
theorem tw16_9 : Cond.code yX8_keepAct cX8_keepAct 2 none ∈ lw_tbl := tb4 (List.mem_of_getElem? (i := 105) rfl)
theorem mw16_9 : Cond.code yX8_keepAct cX8_keepAct 2 none ∈ wsL_law := inr16 (List.mem_of_getElem? (i := 9) rfl)
theorem tw16_10 : Cond.fieldLink RX8 145 "TallowHoursModel" "nextAct" "I" ∈ lw_tbl := tb3 (List.mem_of_getElem? (i := 197) rfl)
theorem mw16_10 : Cond.fieldLink RX8 145 "TallowHoursModel" "nextAct" "I" ∈ wsL_law := inr16 (List.mem_of_getElem? (i := 10) rfl)
theorem tw16_11 : Cond.methodLink RX8 151 yX8_burning ∈ lw_tbl := tb4 (List.mem_of_getElem? (i := 106) rfl)
theorem mw16_11 : Cond.methodLink RX8 151 yX8_burning ∈ wsL_law := inr16 (List.mem_of_getElem? (i := 11) rfl)
theorem tw16_12 : Cond.instanceMethod yX8_burning ∈ lw_tbl := tb4 (List.mem_of_getElem? (i := 108) rfl)
theorem mw16_12 : Cond.instanceMethod yX8_burning ∈ wsL_law := inr16 (List.mem_of_getElem? (i := 12) rfl)
theorem tw16_13 : Cond.selects RX8 yX8_burning yX8_burning ∈ lw_tbl := List.mem_append_left _ (List.mem_of_getElem? (i := 26) rfl)
theorem mw16_13 : Cond.selects RX8 yX8_burning yX8_burning ∈ wsL_law := inr16 (List.mem_of_getElem? (i := 13) rfl)
theorem tw16_14 : Cond.code yX8_burning cX8_burning 4 (some .int) ∈ lw_tbl := tb4 (List.mem_of_getElem? (i := 109) rfl)
theorem mw16_14 : Cond.code yX8_burning cX8_burning 4 (some .int) ∈ wsL_law := inr16 (List.mem_of_getElem? (i := 14) rfl)
theorem tw16_15 : Cond.methodLink RL 48 yX7_out ∈ lw_tbl := tb2 (List.mem_of_getElem? (i := 157) rfl)
theorem mw16_15 : Cond.methodLink RL 48 yX7_out ∈ wsL_law := inr16 (List.mem_of_getElem? (i := 15) rfl)
theorem tw16_16 : Cond.instanceMethod yX7_out ∈ lw_tbl := tb2 (List.mem_of_getElem? (i := 158) rfl)
theorem mw16_16 : Cond.instanceMethod yX7_out ∈ wsL_law := inr16 (List.mem_of_getElem? (i := 16) rfl)
theorem tw16_17 : Cond.selects RX7 yX7_out yX7_out ∈ lw_tbl := tb2 (List.mem_of_getElem? (i := 159) rfl)
theorem mw16_17 : Cond.selects RX7 yX7_out yX7_out ∈ wsL_law := inr16 (List.mem_of_getElem? (i := 17) rfl)
theorem tw16_18 : Cond.code yX7_out cX7_out 2 (some .int) ∈ lw_tbl := tb2 (List.mem_of_getElem? (i := 160) rfl)
theorem mw16_18 : Cond.code yX7_out cX7_out 2 (some .int) ∈ wsL_law := inr16 (List.mem_of_getElem? (i := 18) rfl)
theorem tw16_19 : Cond.methodLink RL 51 yX8_out ∈ lw_tbl := tb4 (List.mem_of_getElem? (i := 110) rfl)
theorem mw16_19 : Cond.methodLink RL 51 yX8_out ∈ wsL_law := inr16 (List.mem_of_getElem? (i := 19) rfl)
theorem tw16_20 : Cond.instanceMethod yX8_out ∈ lw_tbl := tb4 (List.mem_of_getElem? (i := 111) rfl)
theorem mw16_20 : Cond.instanceMethod yX8_out ∈ wsL_law := inr16 (List.mem_of_getElem? (i := 20) rfl)
theorem tw16_21 : Cond.selects RX8 yX8_out yX8_out ∈ lw_tbl := tb4 (List.mem_of_getElem? (i := 112) rfl)
theorem mw16_21 : Cond.selects RX8 yX8_out yX8_out ∈ wsL_law := inr16 (List.mem_of_getElem? (i := 21) rfl)
theorem tw16_22 : Cond.code yX8_out cX8_out 2 (some .int) ∈ lw_tbl := tb4 (List.mem_of_getElem? (i := 113) rfl)
theorem mw16_22 : Cond.code yX8_out cX8_out 2 (some .int) ∈ wsL_law := inr16 (List.mem_of_getElem? (i := 22) rfl)
theorem tw16_23 : Cond.methodLink RL 52 yX7_trim ∈ lw_tbl := tb2 (List.mem_of_getElem? (i := 161) rfl)
theorem mw16_23 : Cond.methodLink RL 52 yX7_trim ∈ wsL_law := inr16 (List.mem_of_getElem? (i := 23) rfl)
theorem gdr16 : GoodIn lw_tbl wsL_law_r16 := List.forall_mem_cons.mpr ⟨⟨tw16_0, Or.inl rfl⟩, List.forall_mem_cons.mpr ⟨⟨tw16_1, Or.inl rfl⟩, List.forall_mem_cons.mpr ⟨⟨tw16_2, Or.inl rfl⟩, List.forall_mem_cons.mpr ⟨⟨tw16_3, Or.inl rfl⟩, List.forall_mem_cons.mpr ⟨⟨tw16_4, Or.inl rfl⟩, List.forall_mem_cons.mpr ⟨⟨tw16_5, Or.inl rfl⟩, List.forall_mem_cons.mpr ⟨⟨tw16_6, Or.inl rfl⟩, List.forall_mem_cons.mpr ⟨⟨tw16_7, Or.inl rfl⟩, List.forall_mem_cons.mpr ⟨⟨tw16_8, Or.inl rfl⟩, List.forall_mem_cons.mpr ⟨⟨tw16_9, Or.inl rfl⟩, List.forall_mem_cons.mpr ⟨⟨tw16_10, Or.inl rfl⟩, List.forall_mem_cons.mpr ⟨⟨tw16_11, Or.inl rfl⟩, List.forall_mem_cons.mpr ⟨⟨tw16_12, Or.inl rfl⟩, List.forall_mem_cons.mpr ⟨⟨tw16_13, Or.inl rfl⟩, List.forall_mem_cons.mpr ⟨⟨tw16_14, Or.inl rfl⟩, List.forall_mem_cons.mpr ⟨⟨tw16_15, Or.inl rfl⟩, List.forall_mem_cons.mpr ⟨⟨tw16_16, Or.inl rfl⟩, List.forall_mem_cons.mpr ⟨⟨tw16_17, Or.inl rfl⟩, List.forall_mem_cons.mpr ⟨⟨tw16_18, Or.inl rfl⟩, List.forall_mem_cons.mpr ⟨⟨tw16_19, Or.inl rfl⟩, List.forall_mem_cons.mpr ⟨⟨tw16_20, Or.inl rfl⟩, List.forall_mem_cons.mpr ⟨⟨tw16_21, Or.inl rfl⟩, List.forall_mem_cons.mpr ⟨⟨tw16_22, Or.inl rfl⟩, List.forall_mem_cons.mpr ⟨⟨tw16_23, Or.inl rfl⟩, fun _ h => absurd h List.not_mem_nil⟩⟩⟩⟩⟩⟩⟩⟩⟩⟩⟩⟩⟩⟩⟩⟩⟩⟩⟩⟩⟩⟩⟩⟩
theorem tw17_0 : Cond.instanceMethod yX7_trim ∈ lw_tbl := tb2 (List.mem_of_getElem? (i := 162) rfl)
theorem mw17_0 : Cond.instanceMethod yX7_trim ∈ wsL_law := inr17 (List.mem_of_getElem? (i := 0) rfl)
theorem tw17_1 : Cond.selects RX7 yX7_trim yX7_trim ∈ lw_tbl := tb2 (List.mem_of_getElem? (i := 163) rfl)
theorem mw17_1 : Cond.selects RX7 yX7_trim yX7_trim ∈ wsL_law := inr17 (List.mem_of_getElem? (i := 1) rfl)
theorem tw17_2 : Cond.code yX7_trim cX7_trim 3 (some .int) ∈ lw_tbl := tb2 (List.mem_of_getElem? (i := 164) rfl)
theorem mw17_2 : Cond.code yX7_trim cX7_trim 3 (some .int) ∈ wsL_law := inr17 (List.mem_of_getElem? (i := 2) rfl)
theorem tw17_3 : Cond.methodLink RL 55 yX8_trim ∈ lw_tbl := tb4 (List.mem_of_getElem? (i := 114) rfl)
theorem mw17_3 : Cond.methodLink RL 55 yX8_trim ∈ wsL_law := inr17 (List.mem_of_getElem? (i := 3) rfl)
theorem tw17_4 : Cond.instanceMethod yX8_trim ∈ lw_tbl := tb4 (List.mem_of_getElem? (i := 115) rfl)
theorem mw17_4 : Cond.instanceMethod yX8_trim ∈ wsL_law := inr17 (List.mem_of_getElem? (i := 4) rfl)
theorem tw17_5 : Cond.selects RX8 yX8_trim yX8_trim ∈ lw_tbl := tb4 (List.mem_of_getElem? (i := 116) rfl)
theorem mw17_5 : Cond.selects RX8 yX8_trim yX8_trim ∈ wsL_law := inr17 (List.mem_of_getElem? (i := 5) rfl)
theorem tw17_6 : Cond.code yX8_trim cX8_trim 3 (some .int) ∈ lw_tbl := tb4 (List.mem_of_getElem? (i := 117) rfl)
theorem mw17_6 : Cond.code yX8_trim cX8_trim 3 (some .int) ∈ wsL_law := inr17 (List.mem_of_getElem? (i := 6) rfl)
theorem tw17_7 : Cond.constantLong RX8 154 (5) ∈ lw_tbl := tb4 (List.mem_of_getElem? (i := 118) rfl)
theorem mw17_7 : Cond.constantLong RX8 154 (5) ∈ wsL_law := inr17 (List.mem_of_getElem? (i := 7) rfl)
theorem tw17_8 : Cond.methodLink RL 56 yX7_step ∈ lw_tbl := tb2 (List.mem_of_getElem? (i := 165) rfl)
theorem mw17_8 : Cond.methodLink RL 56 yX7_step ∈ wsL_law := inr17 (List.mem_of_getElem? (i := 8) rfl)
theorem tw17_9 : Cond.instanceMethod yX7_step ∈ lw_tbl := tb2 (List.mem_of_getElem? (i := 166) rfl)
theorem mw17_9 : Cond.instanceMethod yX7_step ∈ wsL_law := inr17 (List.mem_of_getElem? (i := 9) rfl)
theorem tw17_10 : Cond.selects RX7 yX7_step yX7_step ∈ lw_tbl := tb2 (List.mem_of_getElem? (i := 167) rfl)
theorem mw17_10 : Cond.selects RX7 yX7_step yX7_step ∈ wsL_law := inr17 (List.mem_of_getElem? (i := 10) rfl)
theorem tw17_11 : Cond.code yX7_step cX7_step 1 (some .int) ∈ lw_tbl := tb2 (List.mem_of_getElem? (i := 168) rfl)
theorem mw17_11 : Cond.code yX7_step cX7_step 1 (some .int) ∈ wsL_law := inr17 (List.mem_of_getElem? (i := 11) rfl)
theorem tw17_12 : Cond.fieldLink RX7 161 "TallowHours$Burning" "steps" "I" ∈ lw_tbl := tb1 (List.mem_of_getElem? (i := 58) rfl)
theorem mw17_12 : Cond.fieldLink RX7 161 "TallowHours$Burning" "steps" "I" ∈ wsL_law := inr17 (List.mem_of_getElem? (i := 12) rfl)
theorem tw17_13 : Cond.methodLink RX7 164 yX2_goBy ∈ lw_tbl := tb2 (List.mem_of_getElem? (i := 169) rfl)
theorem mw17_13 : Cond.methodLink RX7 164 yX2_goBy ∈ wsL_law := inr17 (List.mem_of_getElem? (i := 13) rfl)
theorem tw17_14 : Cond.instanceMethod yX2_goBy ∈ lw_tbl := tb2 (List.mem_of_getElem? (i := 170) rfl)
theorem mw17_14 : Cond.instanceMethod yX2_goBy ∈ wsL_law := inr17 (List.mem_of_getElem? (i := 14) rfl)
theorem tw17_15 : Cond.selects RX2 yX2_goBy yX2_goBy ∈ lw_tbl := tb2 (List.mem_of_getElem? (i := 171) rfl)
theorem mw17_15 : Cond.selects RX2 yX2_goBy yX2_goBy ∈ wsL_law := inr17 (List.mem_of_getElem? (i := 15) rfl)
theorem tw17_16 : Cond.code yX2_goBy cX2_goBy 6 (some .int) ∈ lw_tbl := tb2 (List.mem_of_getElem? (i := 172) rfl)
theorem mw17_16 : Cond.code yX2_goBy cX2_goBy 6 (some .int) ∈ wsL_law := inr17 (List.mem_of_getElem? (i := 16) rfl)
theorem tw17_17 : Cond.fieldLink RX2 54 "TallowHours$Party" "guests" "I" ∈ lw_tbl := tb1 (List.mem_of_getElem? (i := 213) rfl)
theorem mw17_17 : Cond.fieldLink RX2 54 "TallowHours$Party" "guests" "I" ∈ wsL_law := inr17 (List.mem_of_getElem? (i := 17) rfl)
theorem tw17_18 : Cond.fieldLink RX2 57 "TallowHours$Party" "comes" "[I" ∈ lw_tbl := tb1 (List.mem_of_getElem? (i := 193) rfl)
theorem mw17_18 : Cond.fieldLink RX2 57 "TallowHours$Party" "comes" "[I" ∈ wsL_law := inr17 (List.mem_of_getElem? (i := 18) rfl)
theorem tw17_19 : Cond.fieldLink RX2 60 "TallowHours$Party" "goes" "[I" ∈ lw_tbl := tb1 (List.mem_of_getElem? (i := 198) rfl)
theorem mw17_19 : Cond.fieldLink RX2 60 "TallowHours$Party" "goes" "[I" ∈ wsL_law := inr17 (List.mem_of_getElem? (i := 19) rfl)
theorem tw17_20 : Cond.fieldLink RX2 63 "TallowHours$Party" "wish" "[I" ∈ lw_tbl := tb1 (List.mem_of_getElem? (i := 184) rfl)
theorem mw17_20 : Cond.fieldLink RX2 63 "TallowHours$Party" "wish" "[I" ∈ wsL_law := inr17 (List.mem_of_getElem? (i := 20) rfl)
theorem tw17_21 : Cond.methodLink RX2 46 yX2_giftBit ∈ lw_tbl := tb2 (List.mem_of_getElem? (i := 173) rfl)
theorem mw17_21 : Cond.methodLink RX2 46 yX2_giftBit ∈ wsL_law := inr17 (List.mem_of_getElem? (i := 21) rfl)
theorem tw17_22 : Cond.instanceMethod yX2_giftBit ∈ lw_tbl := tb2 (List.mem_of_getElem? (i := 174) rfl)
theorem mw17_22 : Cond.instanceMethod yX2_giftBit ∈ wsL_law := inr17 (List.mem_of_getElem? (i := 22) rfl)
theorem tw17_23 : Cond.selects RX2 yX2_giftBit yX2_giftBit ∈ lw_tbl := tb2 (List.mem_of_getElem? (i := 175) rfl)
theorem mw17_23 : Cond.selects RX2 yX2_giftBit yX2_giftBit ∈ wsL_law := inr17 (List.mem_of_getElem? (i := 23) rfl)
theorem gdr17 : GoodIn lw_tbl wsL_law_r17 := List.forall_mem_cons.mpr ⟨⟨tw17_0, Or.inl rfl⟩, List.forall_mem_cons.mpr ⟨⟨tw17_1, Or.inl rfl⟩, List.forall_mem_cons.mpr ⟨⟨tw17_2, Or.inl rfl⟩, List.forall_mem_cons.mpr ⟨⟨tw17_3, Or.inl rfl⟩, List.forall_mem_cons.mpr ⟨⟨tw17_4, Or.inl rfl⟩, List.forall_mem_cons.mpr ⟨⟨tw17_5, Or.inl rfl⟩, List.forall_mem_cons.mpr ⟨⟨tw17_6, Or.inl rfl⟩, List.forall_mem_cons.mpr ⟨⟨tw17_7, Or.inl rfl⟩, List.forall_mem_cons.mpr ⟨⟨tw17_8, Or.inl rfl⟩, List.forall_mem_cons.mpr ⟨⟨tw17_9, Or.inl rfl⟩, List.forall_mem_cons.mpr ⟨⟨tw17_10, Or.inl rfl⟩, List.forall_mem_cons.mpr ⟨⟨tw17_11, Or.inl rfl⟩, List.forall_mem_cons.mpr ⟨⟨tw17_12, Or.inl rfl⟩, List.forall_mem_cons.mpr ⟨⟨tw17_13, Or.inl rfl⟩, List.forall_mem_cons.mpr ⟨⟨tw17_14, Or.inl rfl⟩, List.forall_mem_cons.mpr ⟨⟨tw17_15, Or.inl rfl⟩, List.forall_mem_cons.mpr ⟨⟨tw17_16, Or.inl rfl⟩, List.forall_mem_cons.mpr ⟨⟨tw17_17, Or.inl rfl⟩, List.forall_mem_cons.mpr ⟨⟨tw17_18, Or.inl rfl⟩, List.forall_mem_cons.mpr ⟨⟨tw17_19, Or.inl rfl⟩, List.forall_mem_cons.mpr ⟨⟨tw17_20, Or.inl rfl⟩, List.forall_mem_cons.mpr ⟨⟨tw17_21, Or.inl rfl⟩, List.forall_mem_cons.mpr ⟨⟨tw17_22, Or.inl rfl⟩, List.forall_mem_cons.mpr ⟨⟨tw17_23, Or.inl rfl⟩, fun _ h => absurd h List.not_mem_nil⟩⟩⟩⟩⟩⟩⟩⟩⟩⟩⟩⟩⟩⟩⟩⟩⟩⟩⟩⟩⟩⟩⟩⟩
theorem tw18_0 : Cond.code yX2_giftBit cX2_giftBit 5 (some .int) ∈ lw_tbl := tb2 (List.mem_of_getElem? (i := 176) rfl)
theorem mw18_0 : Cond.code yX2_giftBit cX2_giftBit 5 (some .int) ∈ wsL_law := inr18 (List.mem_of_getElem? (i := 0) rfl)
theorem tw18_1 : Cond.methodLink RX2 39 yX3_hasCandle ∈ lw_tbl := tb2 (List.mem_of_getElem? (i := 177) rfl)
theorem mw18_1 : Cond.methodLink RX2 39 yX3_hasCandle ∈ wsL_law := inr18 (List.mem_of_getElem? (i := 1) rfl)
theorem tw18_2 : Cond.methodLink RX2 69 yX3_giftAt ∈ lw_tbl := tb2 (List.mem_of_getElem? (i := 178) rfl)
theorem mw18_2 : Cond.methodLink RX2 69 yX3_giftAt ∈ wsL_law := inr18 (List.mem_of_getElem? (i := 2) rfl)
theorem tw18_3 : Cond.methodLink RX2 50 yX2_burnInch ∈ lw_tbl := tb2 (List.mem_of_getElem? (i := 179) rfl)
theorem mw18_3 : Cond.methodLink RX2 50 yX2_burnInch ∈ wsL_law := inr18 (List.mem_of_getElem? (i := 3) rfl)
theorem tw18_4 : Cond.instanceMethod yX2_burnInch ∈ lw_tbl := tb2 (List.mem_of_getElem? (i := 181) rfl)
theorem mw18_4 : Cond.instanceMethod yX2_burnInch ∈ wsL_law := inr18 (List.mem_of_getElem? (i := 4) rfl)
theorem tw18_5 : Cond.selects RX2 yX2_burnInch yX2_burnInch ∈ lw_tbl := List.mem_append_left _ (List.mem_of_getElem? (i := 7) rfl)
theorem mw18_5 : Cond.selects RX2 yX2_burnInch yX2_burnInch ∈ wsL_law := inr18 (List.mem_of_getElem? (i := 5) rfl)
theorem tw18_6 : Cond.code yX2_burnInch cX2_burnInch 3 none ∈ lw_tbl := tb2 (List.mem_of_getElem? (i := 182) rfl)
theorem mw18_6 : Cond.code yX2_burnInch cX2_burnInch 3 none ∈ wsL_law := inr18 (List.mem_of_getElem? (i := 6) rfl)
theorem tw18_7 : Cond.fieldLink RX2 66 "TallowHours$Party" "price" "[I" ∈ lw_tbl := tb1 (List.mem_of_getElem? (i := 180) rfl)
theorem mw18_7 : Cond.fieldLink RX2 66 "TallowHours$Party" "price" "[I" ∈ wsL_law := inr18 (List.mem_of_getElem? (i := 7) rfl)
theorem tw18_8 : Cond.methodLink RL 59 yX8_step ∈ lw_tbl := tb4 (List.mem_of_getElem? (i := 119) rfl)
theorem mw18_8 : Cond.methodLink RL 59 yX8_step ∈ wsL_law := inr18 (List.mem_of_getElem? (i := 8) rfl)
theorem tw18_9 : Cond.instanceMethod yX8_step ∈ lw_tbl := tb4 (List.mem_of_getElem? (i := 120) rfl)
theorem mw18_9 : Cond.instanceMethod yX8_step ∈ wsL_law := inr18 (List.mem_of_getElem? (i := 9) rfl)
theorem tw18_10 : Cond.selects RX8 yX8_step yX8_step ∈ lw_tbl := tb4 (List.mem_of_getElem? (i := 121) rfl)
theorem mw18_10 : Cond.selects RX8 yX8_step yX8_step ∈ wsL_law := inr18 (List.mem_of_getElem? (i := 10) rfl)
theorem tw18_11 : Cond.code yX8_step cX8_step 1 (some .int) ∈ lw_tbl := tb4 (List.mem_of_getElem? (i := 122) rfl)
theorem mw18_11 : Cond.code yX8_step cX8_step 1 (some .int) ∈ wsL_law := inr18 (List.mem_of_getElem? (i := 11) rfl)
theorem tw18_12 : Cond.methodLink RX8 156 yX8_pass ∈ lw_tbl := tb4 (List.mem_of_getElem? (i := 123) rfl)
theorem mw18_12 : Cond.methodLink RX8 156 yX8_pass ∈ wsL_law := inr18 (List.mem_of_getElem? (i := 12) rfl)
theorem tw18_13 : Cond.instanceMethod yX8_pass ∈ lw_tbl := tb4 (List.mem_of_getElem? (i := 125) rfl)
theorem mw18_13 : Cond.instanceMethod yX8_pass ∈ wsL_law := inr18 (List.mem_of_getElem? (i := 13) rfl)
theorem tw18_14 : Cond.selects RX8 yX8_pass yX8_pass ∈ lw_tbl := List.mem_append_left _ (List.mem_of_getElem? (i := 27) rfl)
theorem mw18_14 : Cond.selects RX8 yX8_pass yX8_pass ∈ wsL_law := inr18 (List.mem_of_getElem? (i := 14) rfl)
theorem tw18_15 : Cond.code yX8_pass cX8_pass 7 (some .int) ∈ lw_tbl := tb4 (List.mem_of_getElem? (i := 126) rfl)
theorem mw18_15 : Cond.code yX8_pass cX8_pass 7 (some .int) ∈ wsL_law := inr18 (List.mem_of_getElem? (i := 15) rfl)
theorem tw18_16 : Cond.methodLink RX8 142 yX8_has ∈ lw_tbl := tb4 (List.mem_of_getElem? (i := 127) rfl)
theorem mw18_16 : Cond.methodLink RX8 142 yX8_has ∈ wsL_law := inr18 (List.mem_of_getElem? (i := 16) rfl)
theorem tw18_17 : Cond.static yX8_has ∈ lw_tbl := tb4 (List.mem_of_getElem? (i := 128) rfl)
theorem mw18_17 : Cond.static yX8_has ∈ wsL_law := inr18 (List.mem_of_getElem? (i := 17) rfl)
theorem tw18_18 : Cond.code yX8_has cX8_has 2 (some .boolean) ∈ lw_tbl := tb4 (List.mem_of_getElem? (i := 129) rfl)
theorem mw18_18 : Cond.code yX8_has cX8_has 2 (some .boolean) ∈ wsL_law := inr18 (List.mem_of_getElem? (i := 18) rfl)
theorem tw18_19 : Cond.methodLink RL 60 yX7_undo ∈ lw_tbl := tb2 (List.mem_of_getElem? (i := 183) rfl)
theorem mw18_19 : Cond.methodLink RL 60 yX7_undo ∈ wsL_law := inr18 (List.mem_of_getElem? (i := 19) rfl)
theorem tw18_20 : Cond.instanceMethod yX7_undo ∈ lw_tbl := tb2 (List.mem_of_getElem? (i := 184) rfl)
theorem mw18_20 : Cond.instanceMethod yX7_undo ∈ wsL_law := inr18 (List.mem_of_getElem? (i := 20) rfl)
theorem tw18_21 : Cond.selects RX7 yX7_undo yX7_undo ∈ lw_tbl := tb2 (List.mem_of_getElem? (i := 185) rfl)
theorem mw18_21 : Cond.selects RX7 yX7_undo yX7_undo ∈ wsL_law := inr18 (List.mem_of_getElem? (i := 21) rfl)
theorem tw18_22 : Cond.code yX7_undo cX7_undo 1 (some .int) ∈ lw_tbl := tb2 (List.mem_of_getElem? (i := 186) rfl)
theorem mw18_22 : Cond.code yX7_undo cX7_undo 1 (some .int) ∈ wsL_law := inr18 (List.mem_of_getElem? (i := 22) rfl)
theorem tw18_23 : Cond.fieldLink RX7 167 "TallowHours$Acts" "size" "I" ∈ lw_tbl := tb1 (List.mem_of_getElem? (i := 81) rfl)
theorem mw18_23 : Cond.fieldLink RX7 167 "TallowHours$Acts" "size" "I" ∈ wsL_law := inr18 (List.mem_of_getElem? (i := 23) rfl)
theorem gdr18 : GoodIn lw_tbl wsL_law_r18 := List.forall_mem_cons.mpr ⟨⟨tw18_0, Or.inl rfl⟩, List.forall_mem_cons.mpr ⟨⟨tw18_1, Or.inl rfl⟩, List.forall_mem_cons.mpr ⟨⟨tw18_2, Or.inl rfl⟩, List.forall_mem_cons.mpr ⟨⟨tw18_3, Or.inl rfl⟩, List.forall_mem_cons.mpr ⟨⟨tw18_4, Or.inl rfl⟩, List.forall_mem_cons.mpr ⟨⟨tw18_5, Or.inl rfl⟩, List.forall_mem_cons.mpr ⟨⟨tw18_6, Or.inl rfl⟩, List.forall_mem_cons.mpr ⟨⟨tw18_7, Or.inl rfl⟩, List.forall_mem_cons.mpr ⟨⟨tw18_8, Or.inl rfl⟩, List.forall_mem_cons.mpr ⟨⟨tw18_9, Or.inl rfl⟩, List.forall_mem_cons.mpr ⟨⟨tw18_10, Or.inl rfl⟩, List.forall_mem_cons.mpr ⟨⟨tw18_11, Or.inl rfl⟩, List.forall_mem_cons.mpr ⟨⟨tw18_12, Or.inl rfl⟩, List.forall_mem_cons.mpr ⟨⟨tw18_13, Or.inl rfl⟩, List.forall_mem_cons.mpr ⟨⟨tw18_14, Or.inl rfl⟩, List.forall_mem_cons.mpr ⟨⟨tw18_15, Or.inl rfl⟩, List.forall_mem_cons.mpr ⟨⟨tw18_16, Or.inl rfl⟩, List.forall_mem_cons.mpr ⟨⟨tw18_17, Or.inl rfl⟩, List.forall_mem_cons.mpr ⟨⟨tw18_18, Or.inl rfl⟩, List.forall_mem_cons.mpr ⟨⟨tw18_19, Or.inl rfl⟩, List.forall_mem_cons.mpr ⟨⟨tw18_20, Or.inl rfl⟩, List.forall_mem_cons.mpr ⟨⟨tw18_21, Or.inl rfl⟩, List.forall_mem_cons.mpr ⟨⟨tw18_22, Or.inl rfl⟩, List.forall_mem_cons.mpr ⟨⟨tw18_23, Or.inl rfl⟩, fun _ h => absurd h List.not_mem_nil⟩⟩⟩⟩⟩⟩⟩⟩⟩⟩⟩⟩⟩⟩⟩⟩⟩⟩⟩⟩⟩⟩⟩⟩
theorem tw19_0 : Cond.methodLink RX7 170 yX0_takeBack ∈ lw_tbl := tb2 (List.mem_of_getElem? (i := 187) rfl)
theorem mw19_0 : Cond.methodLink RX7 170 yX0_takeBack ∈ wsL_law := inr19 (List.mem_of_getElem? (i := 0) rfl)
theorem tw19_1 : Cond.instanceMethod yX0_takeBack ∈ lw_tbl := tb2 (List.mem_of_getElem? (i := 188) rfl)
theorem mw19_1 : Cond.instanceMethod yX0_takeBack ∈ wsL_law := inr19 (List.mem_of_getElem? (i := 1) rfl)
theorem tw19_2 : Cond.selects RX0 yX0_takeBack yX0_takeBack ∈ lw_tbl := tb2 (List.mem_of_getElem? (i := 189) rfl)
theorem mw19_2 : Cond.selects RX0 yX0_takeBack yX0_takeBack ∈ wsL_law := inr19 (List.mem_of_getElem? (i := 2) rfl)
theorem tw19_3 : Cond.code yX0_takeBack cX0_takeBack 2 none ∈ lw_tbl := tb2 (List.mem_of_getElem? (i := 190) rfl)
theorem mw19_3 : Cond.code yX0_takeBack cX0_takeBack 2 none ∈ wsL_law := inr19 (List.mem_of_getElem? (i := 3) rfl)
theorem tw19_4 : Cond.methodLink RX0 28 yX2_loadFrom ∈ lw_tbl := tb2 (List.mem_of_getElem? (i := 191) rfl)
theorem mw19_4 : Cond.methodLink RX0 28 yX2_loadFrom ∈ wsL_law := inr19 (List.mem_of_getElem? (i := 4) rfl)
theorem tw19_5 : Cond.instanceMethod yX2_loadFrom ∈ lw_tbl := tb2 (List.mem_of_getElem? (i := 192) rfl)
theorem mw19_5 : Cond.instanceMethod yX2_loadFrom ∈ wsL_law := inr19 (List.mem_of_getElem? (i := 5) rfl)
theorem tw19_6 : Cond.selects RX2 yX2_loadFrom yX2_loadFrom ∈ lw_tbl := tb2 (List.mem_of_getElem? (i := 193) rfl)
theorem mw19_6 : Cond.selects RX2 yX2_loadFrom yX2_loadFrom ∈ wsL_law := inr19 (List.mem_of_getElem? (i := 6) rfl)
theorem tw19_7 : Cond.code yX2_loadFrom cX2_loadFrom 4 none ∈ lw_tbl := tb2 (List.mem_of_getElem? (i := 194) rfl)
theorem mw19_7 : Cond.code yX2_loadFrom cX2_loadFrom 4 none ∈ wsL_law := inr19 (List.mem_of_getElem? (i := 7) rfl)
theorem tw19_8 : Cond.methodLink RL 63 yX8_undo ∈ lw_tbl := tb4 (List.mem_of_getElem? (i := 130) rfl)
theorem mw19_8 : Cond.methodLink RL 63 yX8_undo ∈ wsL_law := inr19 (List.mem_of_getElem? (i := 8) rfl)
theorem tw19_9 : Cond.instanceMethod yX8_undo ∈ lw_tbl := tb4 (List.mem_of_getElem? (i := 131) rfl)
theorem mw19_9 : Cond.instanceMethod yX8_undo ∈ wsL_law := inr19 (List.mem_of_getElem? (i := 9) rfl)
theorem tw19_10 : Cond.selects RX8 yX8_undo yX8_undo ∈ lw_tbl := tb4 (List.mem_of_getElem? (i := 132) rfl)
theorem mw19_10 : Cond.selects RX8 yX8_undo yX8_undo ∈ wsL_law := inr19 (List.mem_of_getElem? (i := 10) rfl)
theorem tw19_11 : Cond.code yX8_undo cX8_undo 2 (some .int) ∈ lw_tbl := tb4 (List.mem_of_getElem? (i := 133) rfl)
theorem mw19_11 : Cond.code yX8_undo cX8_undo 2 (some .int) ∈ wsL_law := inr19 (List.mem_of_getElem? (i := 11) rfl)
theorem tw19_12 : Cond.methodLink RL 64 yX7_plan ∈ lw_tbl := tb2 (List.mem_of_getElem? (i := 195) rfl)
theorem mw19_12 : Cond.methodLink RL 64 yX7_plan ∈ wsL_law := inr19 (List.mem_of_getElem? (i := 12) rfl)
theorem tw19_13 : Cond.instanceMethod yX7_plan ∈ lw_tbl := tb2 (List.mem_of_getElem? (i := 196) rfl)
theorem mw19_13 : Cond.instanceMethod yX7_plan ∈ wsL_law := inr19 (List.mem_of_getElem? (i := 13) rfl)
theorem tw19_14 : Cond.selects RX7 yX7_plan yX7_plan ∈ lw_tbl := tb2 (List.mem_of_getElem? (i := 197) rfl)
theorem mw19_14 : Cond.selects RX7 yX7_plan yX7_plan ∈ wsL_law := inr19 (List.mem_of_getElem? (i := 14) rfl)
theorem tw19_15 : Cond.code yX7_plan cX7_plan 1 (some .int) ∈ lw_tbl := tb2 (List.mem_of_getElem? (i := 198) rfl)
theorem mw19_15 : Cond.code yX7_plan cX7_plan 1 (some .int) ∈ wsL_law := inr19 (List.mem_of_getElem? (i := 15) rfl)
theorem tw19_16 : Cond.methodLink RX7 177 yX4_work ∈ lw_tbl := tb2 (List.mem_of_getElem? (i := 199) rfl)
theorem mw19_16 : Cond.methodLink RX7 177 yX4_work ∈ wsL_law := inr19 (List.mem_of_getElem? (i := 16) rfl)
theorem tw19_17 : Cond.instanceMethod yX4_work ∈ lw_tbl := tb2 (List.mem_of_getElem? (i := 200) rfl)
theorem mw19_17 : Cond.instanceMethod yX4_work ∈ wsL_law := inr19 (List.mem_of_getElem? (i := 17) rfl)
theorem tw19_18 : Cond.selects RX4 yX4_work yX4_work ∈ lw_tbl := tb2 (List.mem_of_getElem? (i := 201) rfl)
theorem mw19_18 : Cond.selects RX4 yX4_work yX4_work ∈ wsL_law := inr19 (List.mem_of_getElem? (i := 18) rfl)
theorem tw19_19 : Cond.code yX4_work cX4_work 6 none ∈ lw_tbl := tb2 (List.mem_of_getElem? (i := 202) rfl)
theorem mw19_19 : Cond.code yX4_work cX4_work 6 none ∈ wsL_law := inr19 (List.mem_of_getElem? (i := 19) rfl)
theorem tw19_20 : Cond.fieldLink RX4 51 "TallowHours$Party" "guests" "I" ∈ lw_tbl := tb1 (List.mem_of_getElem? (i := 210) rfl)
theorem mw19_20 : Cond.fieldLink RX4 51 "TallowHours$Party" "guests" "I" ∈ wsL_law := inr19 (List.mem_of_getElem? (i := 20) rfl)
theorem tw19_21 : Cond.constant RX4 54 (1000000) ∈ lw_tbl := tb2 (List.mem_of_getElem? (i := 203) rfl)
theorem mw19_21 : Cond.constant RX4 54 (1000000) ∈ wsL_law := inr19 (List.mem_of_getElem? (i := 21) rfl)
theorem tw19_22 : Cond.methodLink RX4 55 yX4_layGuest ∈ lw_tbl := tb2 (List.mem_of_getElem? (i := 204) rfl)
theorem mw19_22 : Cond.methodLink RX4 55 yX4_layGuest ∈ wsL_law := inr19 (List.mem_of_getElem? (i := 22) rfl)
theorem tw19_23 : Cond.instanceMethod yX4_layGuest ∈ lw_tbl := tb2 (List.mem_of_getElem? (i := 206) rfl)
theorem mw19_23 : Cond.instanceMethod yX4_layGuest ∈ wsL_law := inr19 (List.mem_of_getElem? (i := 23) rfl)
theorem gdr19 : GoodIn lw_tbl wsL_law_r19 := List.forall_mem_cons.mpr ⟨⟨tw19_0, Or.inl rfl⟩, List.forall_mem_cons.mpr ⟨⟨tw19_1, Or.inl rfl⟩, List.forall_mem_cons.mpr ⟨⟨tw19_2, Or.inl rfl⟩, List.forall_mem_cons.mpr ⟨⟨tw19_3, Or.inl rfl⟩, List.forall_mem_cons.mpr ⟨⟨tw19_4, Or.inl rfl⟩, List.forall_mem_cons.mpr ⟨⟨tw19_5, Or.inl rfl⟩, List.forall_mem_cons.mpr ⟨⟨tw19_6, Or.inl rfl⟩, List.forall_mem_cons.mpr ⟨⟨tw19_7, Or.inl rfl⟩, List.forall_mem_cons.mpr ⟨⟨tw19_8, Or.inl rfl⟩, List.forall_mem_cons.mpr ⟨⟨tw19_9, Or.inl rfl⟩, List.forall_mem_cons.mpr ⟨⟨tw19_10, Or.inl rfl⟩, List.forall_mem_cons.mpr ⟨⟨tw19_11, Or.inl rfl⟩, List.forall_mem_cons.mpr ⟨⟨tw19_12, Or.inl rfl⟩, List.forall_mem_cons.mpr ⟨⟨tw19_13, Or.inl rfl⟩, List.forall_mem_cons.mpr ⟨⟨tw19_14, Or.inl rfl⟩, List.forall_mem_cons.mpr ⟨⟨tw19_15, Or.inl rfl⟩, List.forall_mem_cons.mpr ⟨⟨tw19_16, Or.inl rfl⟩, List.forall_mem_cons.mpr ⟨⟨tw19_17, Or.inl rfl⟩, List.forall_mem_cons.mpr ⟨⟨tw19_18, Or.inl rfl⟩, List.forall_mem_cons.mpr ⟨⟨tw19_19, Or.inl rfl⟩, List.forall_mem_cons.mpr ⟨⟨tw19_20, Or.inl rfl⟩, List.forall_mem_cons.mpr ⟨⟨tw19_21, Or.inl rfl⟩, List.forall_mem_cons.mpr ⟨⟨tw19_22, Or.inl rfl⟩, List.forall_mem_cons.mpr ⟨⟨tw19_23, Or.inl rfl⟩, fun _ h => absurd h List.not_mem_nil⟩⟩⟩⟩⟩⟩⟩⟩⟩⟩⟩⟩⟩⟩⟩⟩⟩⟩⟩⟩⟩⟩⟩⟩
theorem tw20_0 : Cond.selects RX4 yX4_layGuest yX4_layGuest ∈ lw_tbl := List.mem_append_left _ (List.mem_of_getElem? (i := 8) rfl)
theorem mw20_0 : Cond.selects RX4 yX4_layGuest yX4_layGuest ∈ wsL_law := inr20 (List.mem_of_getElem? (i := 0) rfl)
theorem tw20_1 : Cond.code yX4_layGuest cX4_layGuest 8 none ∈ lw_tbl := tb2 (List.mem_of_getElem? (i := 207) rfl)
theorem mw20_1 : Cond.code yX4_layGuest cX4_layGuest 8 none ∈ wsL_law := inr20 (List.mem_of_getElem? (i := 1) rfl)
theorem tw20_2 : Cond.fieldLink RX4 70 "TallowHours$Burning" "steps" "I" ∈ lw_tbl := tb1 (List.mem_of_getElem? (i := 57) rfl)
theorem mw20_2 : Cond.fieldLink RX4 70 "TallowHours$Burning" "steps" "I" ∈ wsL_law := inr20 (List.mem_of_getElem? (i := 2) rfl)
theorem tw20_3 : Cond.fieldLink RX4 75 "TallowHours$Party" "comes" "[I" ∈ lw_tbl := tb1 (List.mem_of_getElem? (i := 192) rfl)
theorem mw20_3 : Cond.fieldLink RX4 75 "TallowHours$Party" "comes" "[I" ∈ wsL_law := inr20 (List.mem_of_getElem? (i := 3) rfl)
theorem tw20_4 : Cond.fieldLink RX4 78 "TallowHours$Party" "goes" "[I" ∈ lw_tbl := tb1 (List.mem_of_getElem? (i := 197) rfl)
theorem mw20_4 : Cond.fieldLink RX4 78 "TallowHours$Party" "goes" "[I" ∈ wsL_law := inr20 (List.mem_of_getElem? (i := 4) rfl)
theorem tw20_5 : Cond.fieldLink RX4 81 "TallowHours$Party" "wish" "[I" ∈ lw_tbl := tb1 (List.mem_of_getElem? (i := 182) rfl)
theorem mw20_5 : Cond.fieldLink RX4 81 "TallowHours$Party" "wish" "[I" ∈ wsL_law := inr20 (List.mem_of_getElem? (i := 5) rfl)
theorem tw20_6 : Cond.fieldLink RX4 84 "TallowHours$Party" "wanted" "[I" ∈ lw_tbl := tb1 (List.mem_of_getElem? (i := 187) rfl)
theorem mw20_6 : Cond.fieldLink RX4 84 "TallowHours$Party" "wanted" "[I" ∈ wsL_law := inr20 (List.mem_of_getElem? (i := 6) rfl)
theorem tw20_7 : Cond.fieldLink RX4 87 "TallowHours$Burning" "had" "[I" ∈ lw_tbl := tb1 (List.mem_of_getElem? (i := 52) rfl)
theorem mw20_7 : Cond.fieldLink RX4 87 "TallowHours$Burning" "had" "[I" ∈ wsL_law := inr20 (List.mem_of_getElem? (i := 7) rfl)
theorem tw20_8 : Cond.methodLink RX4 59 yX4_layCandle ∈ lw_tbl := tb2 (List.mem_of_getElem? (i := 208) rfl)
theorem mw20_8 : Cond.methodLink RX4 59 yX4_layCandle ∈ wsL_law := inr20 (List.mem_of_getElem? (i := 8) rfl)
theorem tw20_9 : Cond.instanceMethod yX4_layCandle ∈ lw_tbl := tb2 (List.mem_of_getElem? (i := 210) rfl)
theorem mw20_9 : Cond.instanceMethod yX4_layCandle ∈ wsL_law := inr20 (List.mem_of_getElem? (i := 9) rfl)
theorem tw20_10 : Cond.selects RX4 yX4_layCandle yX4_layCandle ∈ lw_tbl := List.mem_append_left _ (List.mem_of_getElem? (i := 9) rfl)
theorem mw20_10 : Cond.selects RX4 yX4_layCandle yX4_layCandle ∈ wsL_law := inr20 (List.mem_of_getElem? (i := 10) rfl)
theorem tw20_11 : Cond.code yX4_layCandle cX4_layCandle 10 (some .long) ∈ lw_tbl := tb2 (List.mem_of_getElem? (i := 211) rfl)
theorem mw20_11 : Cond.code yX4_layCandle cX4_layCandle 10 (some .long) ∈ wsL_law := inr20 (List.mem_of_getElem? (i := 11) rfl)
theorem tw20_12 : Cond.fieldLink RX4 94 "TallowHours$Burning" "flame" "[I" ∈ lw_tbl := tb1 (List.mem_of_getElem? (i := 49) rfl)
theorem mw20_12 : Cond.fieldLink RX4 94 "TallowHours$Burning" "flame" "[I" ∈ wsL_law := inr20 (List.mem_of_getElem? (i := 12) rfl)
theorem tw20_13 : Cond.fieldLink RX4 107 "TallowHours$Party" "price" "[I" ∈ lw_tbl := tb1 (List.mem_of_getElem? (i := 177) rfl)
theorem mw20_13 : Cond.fieldLink RX4 107 "TallowHours$Party" "price" "[I" ∈ wsL_law := inr20 (List.mem_of_getElem? (i := 13) rfl)
theorem tw20_14 : Cond.fieldLink RX4 108 "TallowHours$Burning" "left" "[I" ∈ lw_tbl := tb1 (List.mem_of_getElem? (i := 46) rfl)
theorem mw20_14 : Cond.fieldLink RX4 108 "TallowHours$Burning" "left" "[I" ∈ wsL_law := inr20 (List.mem_of_getElem? (i := 14) rfl)
theorem tw20_15 : Cond.methodLink RX4 90 yX3_hasCandle ∈ lw_tbl := tb2 (List.mem_of_getElem? (i := 212) rfl)
theorem mw20_15 : Cond.methodLink RX4 90 yX3_hasCandle ∈ wsL_law := inr20 (List.mem_of_getElem? (i := 15) rfl)
theorem tw20_16 : Cond.methodLink RX4 97 yX2_giftBit ∈ lw_tbl := tb2 (List.mem_of_getElem? (i := 213) rfl)
theorem mw20_16 : Cond.methodLink RX4 97 yX2_giftBit ∈ wsL_law := inr20 (List.mem_of_getElem? (i := 16) rfl)
theorem tw20_17 : Cond.methodLink RX4 101 yJ6_numberOfTrailingZeros_0f7a4 ∈ lw_tbl := tb2 (List.mem_of_getElem? (i := 214) rfl)
theorem mw20_17 : Cond.methodLink RX4 101 yJ6_numberOfTrailingZeros_0f7a4 ∈ wsL_law := inr20 (List.mem_of_getElem? (i := 17) rfl)
theorem tw20_18 : Cond.static yJ6_numberOfTrailingZeros_0f7a4 ∈ lw_tbl := tb2 (List.mem_of_getElem? (i := 215) rfl)
theorem mw20_18 : Cond.static yJ6_numberOfTrailingZeros_0f7a4 ∈ wsL_law := inr20 (List.mem_of_getElem? (i := 18) rfl)
theorem tw20_19 : Cond.code yJ6_numberOfTrailingZeros_0f7a4 cJ6_numberOfTrailingZeros_0f7a4 2 (some .int) ∈ lw_tbl := tb2 (List.mem_of_getElem? (i := 216) rfl)
theorem mw20_19 : Cond.code yJ6_numberOfTrailingZeros_0f7a4 cJ6_numberOfTrailingZeros_0f7a4 2 (some .int) ∈ wsL_law := inr20 (List.mem_of_getElem? (i := 19) rfl)
theorem tw20_20 : Cond.constant RJ6 264 (65536) ∈ lw_tbl := tb2 (List.mem_of_getElem? (i := 217) rfl)
theorem mw20_20 : Cond.constant RJ6 264 (65536) ∈ wsL_law := inr20 (List.mem_of_getElem? (i := 20) rfl)
theorem tw20_21 : Cond.methodLink RX4 63 yX4_tryCandle ∈ lw_tbl := tb2 (List.mem_of_getElem? (i := 218) rfl)
theorem mw20_21 : Cond.methodLink RX4 63 yX4_tryCandle ∈ wsL_law := inr20 (List.mem_of_getElem? (i := 21) rfl)
theorem tw20_22 : Cond.static yX4_tryCandle ∈ lw_tbl := tb2 (List.mem_of_getElem? (i := 219) rfl)
theorem mw20_22 : Cond.static yX4_tryCandle ∈ wsL_law := inr20 (List.mem_of_getElem? (i := 22) rfl)
theorem tw20_23 : Cond.code yX4_tryCandle cX4_tryCandle 7 none ∈ lw_tbl := tb2 (List.mem_of_getElem? (i := 220) rfl)
theorem mw20_23 : Cond.code yX4_tryCandle cX4_tryCandle 7 none ∈ wsL_law := inr20 (List.mem_of_getElem? (i := 23) rfl)
theorem gdr20 : GoodIn lw_tbl wsL_law_r20 := List.forall_mem_cons.mpr ⟨⟨tw20_0, Or.inl rfl⟩, List.forall_mem_cons.mpr ⟨⟨tw20_1, Or.inl rfl⟩, List.forall_mem_cons.mpr ⟨⟨tw20_2, Or.inl rfl⟩, List.forall_mem_cons.mpr ⟨⟨tw20_3, Or.inl rfl⟩, List.forall_mem_cons.mpr ⟨⟨tw20_4, Or.inl rfl⟩, List.forall_mem_cons.mpr ⟨⟨tw20_5, Or.inl rfl⟩, List.forall_mem_cons.mpr ⟨⟨tw20_6, Or.inl rfl⟩, List.forall_mem_cons.mpr ⟨⟨tw20_7, Or.inl rfl⟩, List.forall_mem_cons.mpr ⟨⟨tw20_8, Or.inl rfl⟩, List.forall_mem_cons.mpr ⟨⟨tw20_9, Or.inl rfl⟩, List.forall_mem_cons.mpr ⟨⟨tw20_10, Or.inl rfl⟩, List.forall_mem_cons.mpr ⟨⟨tw20_11, Or.inl rfl⟩, List.forall_mem_cons.mpr ⟨⟨tw20_12, Or.inl rfl⟩, List.forall_mem_cons.mpr ⟨⟨tw20_13, Or.inl rfl⟩, List.forall_mem_cons.mpr ⟨⟨tw20_14, Or.inl rfl⟩, List.forall_mem_cons.mpr ⟨⟨tw20_15, Or.inl rfl⟩, List.forall_mem_cons.mpr ⟨⟨tw20_16, Or.inl rfl⟩, List.forall_mem_cons.mpr ⟨⟨tw20_17, Or.inl rfl⟩, List.forall_mem_cons.mpr ⟨⟨tw20_18, Or.inl rfl⟩, List.forall_mem_cons.mpr ⟨⟨tw20_19, Or.inl rfl⟩, List.forall_mem_cons.mpr ⟨⟨tw20_20, Or.inl rfl⟩, List.forall_mem_cons.mpr ⟨⟨tw20_21, Or.inl rfl⟩, List.forall_mem_cons.mpr ⟨⟨tw20_22, Or.inl rfl⟩, List.forall_mem_cons.mpr ⟨⟨tw20_23, Or.inl rfl⟩, fun _ h => absurd h List.not_mem_nil⟩⟩⟩⟩⟩⟩⟩⟩⟩⟩⟩⟩⟩⟩⟩⟩⟩⟩⟩⟩⟩⟩⟩⟩
theorem tw21_0 : Cond.methodLink RX4 111 yX4_weigh ∈ lw_tbl := tb2 (List.mem_of_getElem? (i := 221) rfl)
theorem mw21_0 : Cond.methodLink RX4 111 yX4_weigh ∈ wsL_law := inr21 (List.mem_of_getElem? (i := 0) rfl)
theorem tw21_1 : Cond.instanceMethod yX4_weigh ∈ lw_tbl := tb2 (List.mem_of_getElem? (i := 223) rfl)
theorem mw21_1 : Cond.instanceMethod yX4_weigh ∈ wsL_law := inr21 (List.mem_of_getElem? (i := 1) rfl)
theorem tw21_2 : Cond.selects RX4 yX4_weigh yX4_weigh ∈ lw_tbl := List.mem_append_left _ (List.mem_of_getElem? (i := 10) rfl)
theorem mw21_2 : Cond.selects RX4 yX4_weigh yX4_weigh ∈ wsL_law := inr21 (List.mem_of_getElem? (i := 2) rfl)
theorem tw21_3 : Cond.code yX4_weigh cX4_weigh 6 none ∈ lw_tbl := tb2 (List.mem_of_getElem? (i := 224) rfl)
theorem mw21_3 : Cond.code yX4_weigh cX4_weigh 6 none ∈ wsL_law := inr21 (List.mem_of_getElem? (i := 3) rfl)
theorem tw21_4 : Cond.methodLink RX4 121 arraycopyName ∈ lw_tbl := tb2 (List.mem_of_getElem? (i := 231) rfl)
theorem mw21_4 : Cond.methodLink RX4 121 arraycopyName ∈ wsL_law := inr21 (List.mem_of_getElem? (i := 4) rfl)
theorem tw21_5 : Cond.native arraycopyName ∈ lw_tbl := tb2 (List.mem_of_getElem? (i := 233) rfl)
theorem mw21_5 : Cond.native arraycopyName ∈ wsL_law := inr21 (List.mem_of_getElem? (i := 5) rfl)
theorem tw21_6 : Cond.static arraycopyName ∈ lw_tbl := tb2 (List.mem_of_getElem? (i := 232) rfl)
theorem mw21_6 : Cond.static arraycopyName ∈ wsL_law := inr21 (List.mem_of_getElem? (i := 6) rfl)
theorem tw21_7 : Cond.initialized "java/lang/System" ∈ lw_tbl := tb1 (List.mem_of_getElem? (i := 13) rfl)
theorem mw21_7 : Cond.initialized "java/lang/System" ∈ wsL_law := inr21 (List.mem_of_getElem? (i := 7) rfl)
theorem tw21_8 : Cond.methodLink RX4 115 yJ13_bitCount_95d88 ∈ lw_tbl := tb2 (List.mem_of_getElem? (i := 225) rfl)
theorem mw21_8 : Cond.methodLink RX4 115 yJ13_bitCount_95d88 ∈ wsL_law := inr21 (List.mem_of_getElem? (i := 8) rfl)
theorem tw21_9 : Cond.static yJ13_bitCount_95d88 ∈ lw_tbl := tb2 (List.mem_of_getElem? (i := 226) rfl)
theorem mw21_9 : Cond.static yJ13_bitCount_95d88 ∈ wsL_law := inr21 (List.mem_of_getElem? (i := 9) rfl)
theorem tw21_10 : Cond.initialized RJ13 ∈ lw_tbl := tb1 (List.mem_of_getElem? (i := 12) rfl)
theorem mw21_10 : Cond.initialized RJ13 ∈ wsL_law := inr21 (List.mem_of_getElem? (i := 10) rfl)
theorem tw21_11 : Cond.code yJ13_bitCount_95d88 cJ13_bitCount_95d88 2 (some .int) ∈ lw_tbl := tb2 (List.mem_of_getElem? (i := 227) rfl)
theorem mw21_11 : Cond.code yJ13_bitCount_95d88 cJ13_bitCount_95d88 2 (some .int) ∈ wsL_law := inr21 (List.mem_of_getElem? (i := 11) rfl)
theorem tw21_12 : Cond.constantLong RJ13 314 (6148914691236517205) ∈ lw_tbl := tb2 (List.mem_of_getElem? (i := 228) rfl)
theorem mw21_12 : Cond.constantLong RJ13 314 (6148914691236517205) ∈ wsL_law := inr21 (List.mem_of_getElem? (i := 12) rfl)
theorem tw21_13 : Cond.constantLong RJ13 316 (3689348814741910323) ∈ lw_tbl := tb2 (List.mem_of_getElem? (i := 229) rfl)
theorem mw21_13 : Cond.constantLong RJ13 316 (3689348814741910323) ∈ wsL_law := inr21 (List.mem_of_getElem? (i := 13) rfl)
theorem tw21_14 : Cond.constantLong RJ13 318 (1085102592571150095) ∈ lw_tbl := tb2 (List.mem_of_getElem? (i := 230) rfl)
theorem mw21_14 : Cond.constantLong RJ13 318 (1085102592571150095) ∈ wsL_law := inr21 (List.mem_of_getElem? (i := 14) rfl)
theorem tw21_15 : Cond.methodLink RX4 67 yX4_spreadToFewerGuests ∈ lw_tbl := tb2 (List.mem_of_getElem? (i := 234) rfl)
theorem mw21_15 : Cond.methodLink RX4 67 yX4_spreadToFewerGuests ∈ wsL_law := inr21 (List.mem_of_getElem? (i := 15) rfl)
theorem tw21_16 : Cond.instanceMethod yX4_spreadToFewerGuests ∈ lw_tbl := tb2 (List.mem_of_getElem? (i := 236) rfl)
theorem mw21_16 : Cond.instanceMethod yX4_spreadToFewerGuests ∈ wsL_law := inr21 (List.mem_of_getElem? (i := 16) rfl)
theorem tw21_17 : Cond.selects RX4 yX4_spreadToFewerGuests yX4_spreadToFewerGuests ∈ lw_tbl := List.mem_append_left _ (List.mem_of_getElem? (i := 11) rfl)
theorem mw21_17 : Cond.selects RX4 yX4_spreadToFewerGuests yX4_spreadToFewerGuests ∈ wsL_law := inr21 (List.mem_of_getElem? (i := 17) rfl)
theorem tw21_18 : Cond.code yX4_spreadToFewerGuests cX4_spreadToFewerGuests 3 none ∈ lw_tbl := tb2 (List.mem_of_getElem? (i := 237) rfl)
theorem mw21_18 : Cond.code yX4_spreadToFewerGuests cX4_spreadToFewerGuests 3 none ∈ wsL_law := inr21 (List.mem_of_getElem? (i := 18) rfl)
theorem tw21_19 : Cond.methodLink RX4 127 Lib.Math.min.name ∈ lw_tbl := tb2 (List.mem_of_getElem? (i := 238) rfl)
theorem mw21_19 : Cond.methodLink RX4 127 Lib.Math.min.name ∈ wsL_law := inr21 (List.mem_of_getElem? (i := 19) rfl)
theorem tw21_20 : Cond.methodLink RX7 181 yX4_costForAll ∈ lw_tbl := tb2 (List.mem_of_getElem? (i := 239) rfl)
theorem mw21_20 : Cond.methodLink RX7 181 yX4_costForAll ∈ wsL_law := inr21 (List.mem_of_getElem? (i := 20) rfl)
theorem tw21_21 : Cond.instanceMethod yX4_costForAll ∈ lw_tbl := tb3 (List.mem_of_getElem? (i := 0) rfl)
theorem mw21_21 : Cond.instanceMethod yX4_costForAll ∈ wsL_law := inr21 (List.mem_of_getElem? (i := 21) rfl)
theorem tw21_22 : Cond.selects RX4 yX4_costForAll yX4_costForAll ∈ lw_tbl := tb3 (List.mem_of_getElem? (i := 1) rfl)
theorem mw21_22 : Cond.selects RX4 yX4_costForAll yX4_costForAll ∈ wsL_law := inr21 (List.mem_of_getElem? (i := 22) rfl)
theorem tw21_23 : Cond.code yX4_costForAll cX4_costForAll 1 (some .int) ∈ lw_tbl := tb3 (List.mem_of_getElem? (i := 2) rfl)
theorem mw21_23 : Cond.code yX4_costForAll cX4_costForAll 1 (some .int) ∈ wsL_law := inr21 (List.mem_of_getElem? (i := 23) rfl)
theorem gdr21 : GoodIn lw_tbl wsL_law_r21 := List.forall_mem_cons.mpr ⟨⟨tw21_0, Or.inl rfl⟩, List.forall_mem_cons.mpr ⟨⟨tw21_1, Or.inl rfl⟩, List.forall_mem_cons.mpr ⟨⟨tw21_2, Or.inl rfl⟩, List.forall_mem_cons.mpr ⟨⟨tw21_3, Or.inl rfl⟩, List.forall_mem_cons.mpr ⟨⟨tw21_4, Or.inl rfl⟩, List.forall_mem_cons.mpr ⟨⟨tw21_5, Or.inl rfl⟩, List.forall_mem_cons.mpr ⟨⟨tw21_6, Or.inl rfl⟩, List.forall_mem_cons.mpr ⟨⟨tw21_7, Or.inl rfl⟩, List.forall_mem_cons.mpr ⟨⟨tw21_8, Or.inl rfl⟩, List.forall_mem_cons.mpr ⟨⟨tw21_9, Or.inl rfl⟩, List.forall_mem_cons.mpr ⟨⟨tw21_10, Or.inl rfl⟩, List.forall_mem_cons.mpr ⟨⟨tw21_11, Or.inl rfl⟩, List.forall_mem_cons.mpr ⟨⟨tw21_12, Or.inl rfl⟩, List.forall_mem_cons.mpr ⟨⟨tw21_13, Or.inl rfl⟩, List.forall_mem_cons.mpr ⟨⟨tw21_14, Or.inl rfl⟩, List.forall_mem_cons.mpr ⟨⟨tw21_15, Or.inl rfl⟩, List.forall_mem_cons.mpr ⟨⟨tw21_16, Or.inl rfl⟩, List.forall_mem_cons.mpr ⟨⟨tw21_17, Or.inl rfl⟩, List.forall_mem_cons.mpr ⟨⟨tw21_18, Or.inl rfl⟩, List.forall_mem_cons.mpr ⟨⟨tw21_19, Or.inl rfl⟩, List.forall_mem_cons.mpr ⟨⟨tw21_20, Or.inl rfl⟩, List.forall_mem_cons.mpr ⟨⟨tw21_21, Or.inl rfl⟩, List.forall_mem_cons.mpr ⟨⟨tw21_22, Or.inl rfl⟩, List.forall_mem_cons.mpr ⟨⟨tw21_23, Or.inl rfl⟩, fun _ h => absurd h List.not_mem_nil⟩⟩⟩⟩⟩⟩⟩⟩⟩⟩⟩⟩⟩⟩⟩⟩⟩⟩⟩⟩⟩⟩⟩⟩
theorem tw22_0 : Cond.methodLink RL 67 yX8_plan ∈ lw_tbl := tb4 (List.mem_of_getElem? (i := 134) rfl)
theorem mw22_0 : Cond.methodLink RL 67 yX8_plan ∈ wsL_law := inr22 (List.mem_of_getElem? (i := 0) rfl)
theorem tw22_1 : Cond.instanceMethod yX8_plan ∈ lw_tbl := tb4 (List.mem_of_getElem? (i := 135) rfl)
theorem mw22_1 : Cond.instanceMethod yX8_plan ∈ wsL_law := inr22 (List.mem_of_getElem? (i := 1) rfl)
theorem tw22_2 : Cond.selects RX8 yX8_plan yX8_plan ∈ lw_tbl := tb4 (List.mem_of_getElem? (i := 136) rfl)
theorem mw22_2 : Cond.selects RX8 yX8_plan yX8_plan ∈ wsL_law := inr22 (List.mem_of_getElem? (i := 2) rfl)
theorem tw22_3 : Cond.code yX8_plan cX8_plan 1 (some .int) ∈ lw_tbl := tb4 (List.mem_of_getElem? (i := 137) rfl)
theorem mw22_3 : Cond.code yX8_plan cX8_plan 1 (some .int) ∈ wsL_law := inr22 (List.mem_of_getElem? (i := 3) rfl)
theorem tw22_4 : Cond.methodLink RX8 179 yX8_layPlans ∈ lw_tbl := tb4 (List.mem_of_getElem? (i := 138) rfl)
theorem mw22_4 : Cond.methodLink RX8 179 yX8_layPlans ∈ wsL_law := inr22 (List.mem_of_getElem? (i := 4) rfl)
theorem tw22_5 : Cond.instanceMethod yX8_layPlans ∈ lw_tbl := tb4 (List.mem_of_getElem? (i := 140) rfl)
theorem mw22_5 : Cond.instanceMethod yX8_layPlans ∈ wsL_law := inr22 (List.mem_of_getElem? (i := 5) rfl)
theorem tw22_6 : Cond.selects RX8 yX8_layPlans yX8_layPlans ∈ lw_tbl := List.mem_append_left _ (List.mem_of_getElem? (i := 28) rfl)
theorem mw22_6 : Cond.selects RX8 yX8_layPlans yX8_layPlans ∈ wsL_law := inr22 (List.mem_of_getElem? (i := 6) rfl)
theorem tw22_7 : Cond.code yX8_layPlans cX8_layPlans 6 none ∈ lw_tbl := tb4 (List.mem_of_getElem? (i := 141) rfl)
theorem mw22_7 : Cond.code yX8_layPlans cX8_layPlans 6 none ∈ wsL_law := inr22 (List.mem_of_getElem? (i := 7) rfl)
theorem tw22_8 : Cond.methodLink RX8 170 yX8_isPlan ∈ lw_tbl := tb4 (List.mem_of_getElem? (i := 142) rfl)
theorem mw22_8 : Cond.methodLink RX8 170 yX8_isPlan ∈ wsL_law := inr22 (List.mem_of_getElem? (i := 8) rfl)
theorem tw22_9 : Cond.instanceMethod yX8_isPlan ∈ lw_tbl := tb4 (List.mem_of_getElem? (i := 144) rfl)
theorem mw22_9 : Cond.instanceMethod yX8_isPlan ∈ wsL_law := inr22 (List.mem_of_getElem? (i := 9) rfl)
theorem tw22_10 : Cond.selects RX8 yX8_isPlan yX8_isPlan ∈ lw_tbl := List.mem_append_left _ (List.mem_of_getElem? (i := 29) rfl)
theorem mw22_10 : Cond.selects RX8 yX8_isPlan yX8_isPlan ∈ wsL_law := inr22 (List.mem_of_getElem? (i := 10) rfl)
theorem tw22_11 : Cond.code yX8_isPlan cX8_isPlan 4 (some .boolean) ∈ lw_tbl := tb4 (List.mem_of_getElem? (i := 145) rfl)
theorem mw22_11 : Cond.code yX8_isPlan cX8_isPlan 4 (some .boolean) ∈ wsL_law := inr22 (List.mem_of_getElem? (i := 11) rfl)
theorem tw22_12 : Cond.methodLink RX8 163 yX8_figureOf ∈ lw_tbl := tb4 (List.mem_of_getElem? (i := 146) rfl)
theorem mw22_12 : Cond.methodLink RX8 163 yX8_figureOf ∈ wsL_law := inr22 (List.mem_of_getElem? (i := 12) rfl)
theorem tw22_13 : Cond.static yX8_figureOf ∈ lw_tbl := tb4 (List.mem_of_getElem? (i := 147) rfl)
theorem mw22_13 : Cond.static yX8_figureOf ∈ wsL_law := inr22 (List.mem_of_getElem? (i := 13) rfl)
theorem tw22_14 : Cond.code yX8_figureOf cX8_figureOf 2 (some .int) ∈ lw_tbl := tb4 (List.mem_of_getElem? (i := 148) rfl)
theorem mw22_14 : Cond.code yX8_figureOf cX8_figureOf 2 (some .int) ∈ wsL_law := inr22 (List.mem_of_getElem? (i := 14) rfl)
theorem tw22_15 : Cond.methodLink RX8 159 yX8_power ∈ lw_tbl := tb4 (List.mem_of_getElem? (i := 149) rfl)
theorem mw22_15 : Cond.methodLink RX8 159 yX8_power ∈ wsL_law := inr22 (List.mem_of_getElem? (i := 15) rfl)
theorem tw22_16 : Cond.static yX8_power ∈ lw_tbl := tb4 (List.mem_of_getElem? (i := 150) rfl)
theorem mw22_16 : Cond.static yX8_power ∈ wsL_law := inr22 (List.mem_of_getElem? (i := 16) rfl)
theorem tw22_17 : Cond.code yX8_power cX8_power 4 (some .int) ∈ lw_tbl := tb4 (List.mem_of_getElem? (i := 151) rfl)
theorem mw22_17 : Cond.code yX8_power cX8_power 4 (some .int) ∈ wsL_law := inr22 (List.mem_of_getElem? (i := 17) rfl)
theorem tw22_18 : Cond.methodLink RX8 173 yX8_contentBy ∈ lw_tbl := tb4 (List.mem_of_getElem? (i := 152) rfl)
theorem mw22_18 : Cond.methodLink RX8 173 yX8_contentBy ∈ wsL_law := inr22 (List.mem_of_getElem? (i := 18) rfl)
theorem tw22_19 : Cond.instanceMethod yX8_contentBy ∈ lw_tbl := tb4 (List.mem_of_getElem? (i := 154) rfl)
theorem mw22_19 : Cond.instanceMethod yX8_contentBy ∈ wsL_law := inr22 (List.mem_of_getElem? (i := 19) rfl)
theorem tw22_20 : Cond.selects RX8 yX8_contentBy yX8_contentBy ∈ lw_tbl := List.mem_append_left _ (List.mem_of_getElem? (i := 30) rfl)
theorem mw22_20 : Cond.selects RX8 yX8_contentBy yX8_contentBy ∈ wsL_law := inr22 (List.mem_of_getElem? (i := 20) rfl)
theorem tw22_21 : Cond.code yX8_contentBy cX8_contentBy 6 (some .int) ∈ lw_tbl := tb4 (List.mem_of_getElem? (i := 155) rfl)
theorem mw22_21 : Cond.code yX8_contentBy cX8_contentBy 6 (some .int) ∈ wsL_law := inr22 (List.mem_of_getElem? (i := 21) rfl)
theorem tw22_22 : Cond.methodLink RX8 166 yX8_lay ∈ lw_tbl := tb4 (List.mem_of_getElem? (i := 156) rfl)
theorem mw22_22 : Cond.methodLink RX8 166 yX8_lay ∈ wsL_law := inr22 (List.mem_of_getElem? (i := 22) rfl)
theorem tw22_23 : Cond.instanceMethod yX8_lay ∈ lw_tbl := tb4 (List.mem_of_getElem? (i := 158) rfl)
theorem mw22_23 : Cond.instanceMethod yX8_lay ∈ wsL_law := inr22 (List.mem_of_getElem? (i := 23) rfl)
theorem gdr22 : GoodIn lw_tbl wsL_law_r22 := List.forall_mem_cons.mpr ⟨⟨tw22_0, Or.inl rfl⟩, List.forall_mem_cons.mpr ⟨⟨tw22_1, Or.inl rfl⟩, List.forall_mem_cons.mpr ⟨⟨tw22_2, Or.inl rfl⟩, List.forall_mem_cons.mpr ⟨⟨tw22_3, Or.inl rfl⟩, List.forall_mem_cons.mpr ⟨⟨tw22_4, Or.inl rfl⟩, List.forall_mem_cons.mpr ⟨⟨tw22_5, Or.inl rfl⟩, List.forall_mem_cons.mpr ⟨⟨tw22_6, Or.inl rfl⟩, List.forall_mem_cons.mpr ⟨⟨tw22_7, Or.inl rfl⟩, List.forall_mem_cons.mpr ⟨⟨tw22_8, Or.inl rfl⟩, List.forall_mem_cons.mpr ⟨⟨tw22_9, Or.inl rfl⟩, List.forall_mem_cons.mpr ⟨⟨tw22_10, Or.inl rfl⟩, List.forall_mem_cons.mpr ⟨⟨tw22_11, Or.inl rfl⟩, List.forall_mem_cons.mpr ⟨⟨tw22_12, Or.inl rfl⟩, List.forall_mem_cons.mpr ⟨⟨tw22_13, Or.inl rfl⟩, List.forall_mem_cons.mpr ⟨⟨tw22_14, Or.inl rfl⟩, List.forall_mem_cons.mpr ⟨⟨tw22_15, Or.inl rfl⟩, List.forall_mem_cons.mpr ⟨⟨tw22_16, Or.inl rfl⟩, List.forall_mem_cons.mpr ⟨⟨tw22_17, Or.inl rfl⟩, List.forall_mem_cons.mpr ⟨⟨tw22_18, Or.inl rfl⟩, List.forall_mem_cons.mpr ⟨⟨tw22_19, Or.inl rfl⟩, List.forall_mem_cons.mpr ⟨⟨tw22_20, Or.inl rfl⟩, List.forall_mem_cons.mpr ⟨⟨tw22_21, Or.inl rfl⟩, List.forall_mem_cons.mpr ⟨⟨tw22_22, Or.inl rfl⟩, List.forall_mem_cons.mpr ⟨⟨tw22_23, Or.inl rfl⟩, fun _ h => absurd h List.not_mem_nil⟩⟩⟩⟩⟩⟩⟩⟩⟩⟩⟩⟩⟩⟩⟩⟩⟩⟩⟩⟩⟩⟩⟩⟩
theorem tw23_0 : Cond.selects RX8 yX8_lay yX8_lay ∈ lw_tbl := List.mem_append_left _ (List.mem_of_getElem? (i := 31) rfl)
theorem mw23_0 : Cond.selects RX8 yX8_lay yX8_lay ∈ wsL_law := inr23 (List.mem_of_getElem? (i := 0) rfl)
theorem tw23_1 : Cond.code yX8_lay cX8_lay 4 none ∈ lw_tbl := tb4 (List.mem_of_getElem? (i := 159) rfl)
theorem mw23_1 : Cond.code yX8_lay cX8_lay 4 none ∈ wsL_law := inr23 (List.mem_of_getElem? (i := 1) rfl)
theorem tw23_2 : Cond.methodLink RX8 176 yX8_costOf ∈ lw_tbl := tb4 (List.mem_of_getElem? (i := 160) rfl)
theorem mw23_2 : Cond.methodLink RX8 176 yX8_costOf ∈ wsL_law := inr23 (List.mem_of_getElem? (i := 2) rfl)
theorem tw23_3 : Cond.instanceMethod yX8_costOf ∈ lw_tbl := tb4 (List.mem_of_getElem? (i := 162) rfl)
theorem mw23_3 : Cond.instanceMethod yX8_costOf ∈ wsL_law := inr23 (List.mem_of_getElem? (i := 3) rfl)
theorem tw23_4 : Cond.selects RX8 yX8_costOf yX8_costOf ∈ lw_tbl := List.mem_append_left _ (List.mem_of_getElem? (i := 32) rfl)
theorem mw23_4 : Cond.selects RX8 yX8_costOf yX8_costOf ∈ wsL_law := inr23 (List.mem_of_getElem? (i := 4) rfl)
theorem tw23_5 : Cond.code yX8_costOf cX8_costOf 4 (some .int) ∈ lw_tbl := tb4 (List.mem_of_getElem? (i := 163) rfl)
theorem mw23_5 : Cond.code yX8_costOf cX8_costOf 4 (some .int) ∈ wsL_law := inr23 (List.mem_of_getElem? (i := 5) rfl)
theorem tw23_6 : Cond.methodLink RX8 182 yX8_all ∈ lw_tbl := tb4 (List.mem_of_getElem? (i := 164) rfl)
theorem mw23_6 : Cond.methodLink RX8 182 yX8_all ∈ wsL_law := inr23 (List.mem_of_getElem? (i := 6) rfl)
theorem tw23_7 : Cond.instanceMethod yX8_all ∈ lw_tbl := tb4 (List.mem_of_getElem? (i := 166) rfl)
theorem mw23_7 : Cond.instanceMethod yX8_all ∈ wsL_law := inr23 (List.mem_of_getElem? (i := 7) rfl)
theorem tw23_8 : Cond.selects RX8 yX8_all yX8_all ∈ lw_tbl := List.mem_append_left _ (List.mem_of_getElem? (i := 33) rfl)
theorem mw23_8 : Cond.selects RX8 yX8_all yX8_all ∈ wsL_law := inr23 (List.mem_of_getElem? (i := 8) rfl)
theorem tw23_9 : Cond.code yX8_all cX8_all 1 (some .int) ∈ lw_tbl := tb4 (List.mem_of_getElem? (i := 167) rfl)
theorem mw23_9 : Cond.code yX8_all cX8_all 1 (some .int) ∈ wsL_law := inr23 (List.mem_of_getElem? (i := 9) rfl)
theorem tw23_10 : Cond.methodLink RL 68 yX7_planOf ∈ lw_tbl := tb3 (List.mem_of_getElem? (i := 3) rfl)
theorem mw23_10 : Cond.methodLink RL 68 yX7_planOf ∈ wsL_law := inr23 (List.mem_of_getElem? (i := 10) rfl)
theorem tw23_11 : Cond.instanceMethod yX7_planOf ∈ lw_tbl := tb3 (List.mem_of_getElem? (i := 4) rfl)
theorem mw23_11 : Cond.instanceMethod yX7_planOf ∈ wsL_law := inr23 (List.mem_of_getElem? (i := 11) rfl)
theorem tw23_12 : Cond.selects RX7 yX7_planOf yX7_planOf ∈ lw_tbl := tb3 (List.mem_of_getElem? (i := 5) rfl)
theorem mw23_12 : Cond.selects RX7 yX7_planOf yX7_planOf ∈ wsL_law := inr23 (List.mem_of_getElem? (i := 12) rfl)
theorem tw23_13 : Cond.code yX7_planOf cX7_planOf 2 (some .int) ∈ lw_tbl := tb3 (List.mem_of_getElem? (i := 6) rfl)
theorem mw23_13 : Cond.code yX7_planOf cX7_planOf 2 (some .int) ∈ wsL_law := inr23 (List.mem_of_getElem? (i := 13) rfl)
theorem tw23_14 : Cond.fieldLink RX7 184 "TallowHours$Planner" "chosen" "[I" ∈ lw_tbl := tb1 (List.mem_of_getElem? (i := 102) rfl)
theorem mw23_14 : Cond.fieldLink RX7 184 "TallowHours$Planner" "chosen" "[I" ∈ wsL_law := inr23 (List.mem_of_getElem? (i := 14) rfl)
theorem tw23_15 : Cond.methodLink RL 71 yX8_planOf ∈ lw_tbl := tb4 (List.mem_of_getElem? (i := 168) rfl)
theorem mw23_15 : Cond.methodLink RL 71 yX8_planOf ∈ wsL_law := inr23 (List.mem_of_getElem? (i := 15) rfl)
theorem tw23_16 : Cond.instanceMethod yX8_planOf ∈ lw_tbl := tb4 (List.mem_of_getElem? (i := 169) rfl)
theorem mw23_16 : Cond.instanceMethod yX8_planOf ∈ wsL_law := inr23 (List.mem_of_getElem? (i := 16) rfl)
theorem tw23_17 : Cond.selects RX8 yX8_planOf yX8_planOf ∈ lw_tbl := tb4 (List.mem_of_getElem? (i := 170) rfl)
theorem mw23_17 : Cond.selects RX8 yX8_planOf yX8_planOf ∈ wsL_law := inr23 (List.mem_of_getElem? (i := 17) rfl)
theorem tw23_18 : Cond.code yX8_planOf cX8_planOf 2 (some .int) ∈ lw_tbl := tb4 (List.mem_of_getElem? (i := 171) rfl)
theorem mw23_18 : Cond.code yX8_planOf cX8_planOf 2 (some .int) ∈ wsL_law := inr23 (List.mem_of_getElem? (i := 18) rfl)
theorem tw23_19 : Cond.methodLink RL 72 yX7_bars ∈ lw_tbl := tb3 (List.mem_of_getElem? (i := 7) rfl)
theorem mw23_19 : Cond.methodLink RL 72 yX7_bars ∈ wsL_law := inr23 (List.mem_of_getElem? (i := 19) rfl)
theorem tw23_20 : Cond.instanceMethod yX7_bars ∈ lw_tbl := tb3 (List.mem_of_getElem? (i := 8) rfl)
theorem mw23_20 : Cond.instanceMethod yX7_bars ∈ wsL_law := inr23 (List.mem_of_getElem? (i := 20) rfl)
theorem tw23_21 : Cond.selects RX7 yX7_bars yX7_bars ∈ lw_tbl := tb3 (List.mem_of_getElem? (i := 9) rfl)
theorem mw23_21 : Cond.selects RX7 yX7_bars yX7_bars ∈ wsL_law := inr23 (List.mem_of_getElem? (i := 21) rfl)
theorem tw23_22 : Cond.code yX7_bars cX7_bars 2 (some .int) ∈ lw_tbl := tb3 (List.mem_of_getElem? (i := 10) rfl)
theorem mw23_22 : Cond.code yX7_bars cX7_bars 2 (some .int) ∈ wsL_law := inr23 (List.mem_of_getElem? (i := 22) rfl)
theorem tw23_23 : Cond.fieldLink RX7 187 "TallowHours$Planner" "reached" "I" ∈ lw_tbl := tb1 (List.mem_of_getElem? (i := 107) rfl)
theorem mw23_23 : Cond.fieldLink RX7 187 "TallowHours$Planner" "reached" "I" ∈ wsL_law := inr23 (List.mem_of_getElem? (i := 23) rfl)
theorem gdr23 : GoodIn lw_tbl wsL_law_r23 := List.forall_mem_cons.mpr ⟨⟨tw23_0, Or.inl rfl⟩, List.forall_mem_cons.mpr ⟨⟨tw23_1, Or.inl rfl⟩, List.forall_mem_cons.mpr ⟨⟨tw23_2, Or.inl rfl⟩, List.forall_mem_cons.mpr ⟨⟨tw23_3, Or.inl rfl⟩, List.forall_mem_cons.mpr ⟨⟨tw23_4, Or.inl rfl⟩, List.forall_mem_cons.mpr ⟨⟨tw23_5, Or.inl rfl⟩, List.forall_mem_cons.mpr ⟨⟨tw23_6, Or.inl rfl⟩, List.forall_mem_cons.mpr ⟨⟨tw23_7, Or.inl rfl⟩, List.forall_mem_cons.mpr ⟨⟨tw23_8, Or.inl rfl⟩, List.forall_mem_cons.mpr ⟨⟨tw23_9, Or.inl rfl⟩, List.forall_mem_cons.mpr ⟨⟨tw23_10, Or.inl rfl⟩, List.forall_mem_cons.mpr ⟨⟨tw23_11, Or.inl rfl⟩, List.forall_mem_cons.mpr ⟨⟨tw23_12, Or.inl rfl⟩, List.forall_mem_cons.mpr ⟨⟨tw23_13, Or.inl rfl⟩, List.forall_mem_cons.mpr ⟨⟨tw23_14, Or.inl rfl⟩, List.forall_mem_cons.mpr ⟨⟨tw23_15, Or.inl rfl⟩, List.forall_mem_cons.mpr ⟨⟨tw23_16, Or.inl rfl⟩, List.forall_mem_cons.mpr ⟨⟨tw23_17, Or.inl rfl⟩, List.forall_mem_cons.mpr ⟨⟨tw23_18, Or.inl rfl⟩, List.forall_mem_cons.mpr ⟨⟨tw23_19, Or.inl rfl⟩, List.forall_mem_cons.mpr ⟨⟨tw23_20, Or.inl rfl⟩, List.forall_mem_cons.mpr ⟨⟨tw23_21, Or.inl rfl⟩, List.forall_mem_cons.mpr ⟨⟨tw23_22, Or.inl rfl⟩, List.forall_mem_cons.mpr ⟨⟨tw23_23, Or.inl rfl⟩, fun _ h => absurd h List.not_mem_nil⟩⟩⟩⟩⟩⟩⟩⟩⟩⟩⟩⟩⟩⟩⟩⟩⟩⟩⟩⟩⟩⟩⟩⟩
theorem tw24_0 : Cond.methodLink RL 75 yX8_bars ∈ lw_tbl := tb4 (List.mem_of_getElem? (i := 172) rfl)
theorem mw24_0 : Cond.methodLink RL 75 yX8_bars ∈ wsL_law := inr24 (List.mem_of_getElem? (i := 0) rfl)
theorem tw24_1 : Cond.instanceMethod yX8_bars ∈ lw_tbl := tb4 (List.mem_of_getElem? (i := 173) rfl)
theorem mw24_1 : Cond.instanceMethod yX8_bars ∈ wsL_law := inr24 (List.mem_of_getElem? (i := 1) rfl)
theorem tw24_2 : Cond.selects RX8 yX8_bars yX8_bars ∈ lw_tbl := tb4 (List.mem_of_getElem? (i := 174) rfl)
theorem mw24_2 : Cond.selects RX8 yX8_bars yX8_bars ∈ wsL_law := inr24 (List.mem_of_getElem? (i := 2) rfl)
theorem tw24_3 : Cond.code yX8_bars cX8_bars 2 (some .int) ∈ lw_tbl := tb4 (List.mem_of_getElem? (i := 175) rfl)
theorem mw24_3 : Cond.code yX8_bars cX8_bars 2 (some .int) ∈ wsL_law := inr24 (List.mem_of_getElem? (i := 3) rfl)
theorem tw24_4 : Cond.methodLink RL 76 yX7_share ∈ lw_tbl := tb3 (List.mem_of_getElem? (i := 11) rfl)
theorem mw24_4 : Cond.methodLink RL 76 yX7_share ∈ wsL_law := inr24 (List.mem_of_getElem? (i := 4) rfl)
theorem tw24_5 : Cond.instanceMethod yX7_share ∈ lw_tbl := tb3 (List.mem_of_getElem? (i := 12) rfl)
theorem mw24_5 : Cond.instanceMethod yX7_share ∈ wsL_law := inr24 (List.mem_of_getElem? (i := 5) rfl)
theorem tw24_6 : Cond.selects RX7 yX7_share yX7_share ∈ lw_tbl := tb3 (List.mem_of_getElem? (i := 13) rfl)
theorem mw24_6 : Cond.selects RX7 yX7_share yX7_share ∈ wsL_law := inr24 (List.mem_of_getElem? (i := 6) rfl)
theorem tw24_7 : Cond.code yX7_share cX7_share 3 (some .int) ∈ lw_tbl := tb3 (List.mem_of_getElem? (i := 14) rfl)
theorem mw24_7 : Cond.code yX7_share cX7_share 3 (some .int) ∈ wsL_law := inr24 (List.mem_of_getElem? (i := 7) rfl)
theorem tw24_8 : Cond.fieldLink RX7 193 "TallowHours" "FACTORIALS" "[I" ∈ lw_tbl := tb3 (List.mem_of_getElem? (i := 22) rfl)
theorem mw24_8 : Cond.fieldLink RX7 193 "TallowHours" "FACTORIALS" "[I" ∈ wsL_law := inr24 (List.mem_of_getElem? (i := 8) rfl)
theorem tw24_9 : Cond.methodLink RX7 190 yX4_sharesOf ∈ lw_tbl := tb3 (List.mem_of_getElem? (i := 15) rfl)
theorem mw24_9 : Cond.methodLink RX7 190 yX4_sharesOf ∈ wsL_law := inr24 (List.mem_of_getElem? (i := 9) rfl)
theorem tw24_10 : Cond.instanceMethod yX4_sharesOf ∈ lw_tbl := tb3 (List.mem_of_getElem? (i := 16) rfl)
theorem mw24_10 : Cond.instanceMethod yX4_sharesOf ∈ wsL_law := inr24 (List.mem_of_getElem? (i := 10) rfl)
theorem tw24_11 : Cond.selects RX4 yX4_sharesOf yX4_sharesOf ∈ lw_tbl := tb3 (List.mem_of_getElem? (i := 17) rfl)
theorem mw24_11 : Cond.selects RX4 yX4_sharesOf yX4_sharesOf ∈ wsL_law := inr24 (List.mem_of_getElem? (i := 11) rfl)
theorem tw24_12 : Cond.code yX4_sharesOf cX4_sharesOf 6 (some .int) ∈ lw_tbl := tb3 (List.mem_of_getElem? (i := 18) rfl)
theorem mw24_12 : Cond.code yX4_sharesOf cX4_sharesOf 6 (some .int) ∈ wsL_law := inr24 (List.mem_of_getElem? (i := 12) rfl)
theorem tw24_13 : Cond.methodLink RX4 133 yJ6_bitCount_0f7a4 ∈ lw_tbl := tb3 (List.mem_of_getElem? (i := 19) rfl)
theorem mw24_13 : Cond.methodLink RX4 133 yJ6_bitCount_0f7a4 ∈ wsL_law := inr24 (List.mem_of_getElem? (i := 13) rfl)
theorem tw24_14 : Cond.methodLink RX7 196 yX7_fraction ∈ lw_tbl := tb3 (List.mem_of_getElem? (i := 23) rfl)
theorem mw24_14 : Cond.methodLink RX7 196 yX7_fraction ∈ wsL_law := inr24 (List.mem_of_getElem? (i := 14) rfl)
theorem tw24_15 : Cond.static yX7_fraction ∈ lw_tbl := tb3 (List.mem_of_getElem? (i := 24) rfl)
theorem mw24_15 : Cond.static yX7_fraction ∈ wsL_law := inr24 (List.mem_of_getElem? (i := 15) rfl)
theorem tw24_16 : Cond.code yX7_fraction cX7_fraction 7 (some .int) ∈ lw_tbl := tb3 (List.mem_of_getElem? (i := 25) rfl)
theorem mw24_16 : Cond.code yX7_fraction cX7_fraction 7 (some .int) ∈ wsL_law := inr24 (List.mem_of_getElem? (i := 16) rfl)
theorem tw24_17 : Cond.methodLink RL 80 yX8_share ∈ lw_tbl := tb4 (List.mem_of_getElem? (i := 176) rfl)
theorem mw24_17 : Cond.methodLink RL 80 yX8_share ∈ wsL_law := inr24 (List.mem_of_getElem? (i := 17) rfl)
theorem tw24_18 : Cond.instanceMethod yX8_share ∈ lw_tbl := tb4 (List.mem_of_getElem? (i := 177) rfl)
theorem mw24_18 : Cond.instanceMethod yX8_share ∈ wsL_law := inr24 (List.mem_of_getElem? (i := 18) rfl)
theorem tw24_19 : Cond.selects RX8 yX8_share yX8_share ∈ lw_tbl := tb4 (List.mem_of_getElem? (i := 178) rfl)
theorem mw24_19 : Cond.selects RX8 yX8_share yX8_share ∈ wsL_law := inr24 (List.mem_of_getElem? (i := 19) rfl)
theorem tw24_20 : Cond.code yX8_share cX8_share 5 (some .int) ∈ lw_tbl := tb4 (List.mem_of_getElem? (i := 179) rfl)
theorem mw24_20 : Cond.code yX8_share cX8_share 5 (some .int) ∈ wsL_law := inr24 (List.mem_of_getElem? (i := 20) rfl)
theorem tw24_21 : Cond.methodLink RX8 185 yX8_ones ∈ lw_tbl := tb4 (List.mem_of_getElem? (i := 180) rfl)
theorem mw24_21 : Cond.methodLink RX8 185 yX8_ones ∈ wsL_law := inr24 (List.mem_of_getElem? (i := 21) rfl)
theorem tw24_22 : Cond.static yX8_ones ∈ lw_tbl := tb4 (List.mem_of_getElem? (i := 181) rfl)
theorem mw24_22 : Cond.static yX8_ones ∈ wsL_law := inr24 (List.mem_of_getElem? (i := 22) rfl)
theorem tw24_23 : Cond.code yX8_ones cX8_ones 1 (some .int) ∈ lw_tbl := tb4 (List.mem_of_getElem? (i := 182) rfl)
theorem mw24_23 : Cond.code yX8_ones cX8_ones 1 (some .int) ∈ wsL_law := inr24 (List.mem_of_getElem? (i := 23) rfl)
theorem gdr24 : GoodIn lw_tbl wsL_law_r24 := List.forall_mem_cons.mpr ⟨⟨tw24_0, Or.inl rfl⟩, List.forall_mem_cons.mpr ⟨⟨tw24_1, Or.inl rfl⟩, List.forall_mem_cons.mpr ⟨⟨tw24_2, Or.inl rfl⟩, List.forall_mem_cons.mpr ⟨⟨tw24_3, Or.inl rfl⟩, List.forall_mem_cons.mpr ⟨⟨tw24_4, Or.inl rfl⟩, List.forall_mem_cons.mpr ⟨⟨tw24_5, Or.inl rfl⟩, List.forall_mem_cons.mpr ⟨⟨tw24_6, Or.inl rfl⟩, List.forall_mem_cons.mpr ⟨⟨tw24_7, Or.inl rfl⟩, List.forall_mem_cons.mpr ⟨⟨tw24_8, Or.inl rfl⟩, List.forall_mem_cons.mpr ⟨⟨tw24_9, Or.inl rfl⟩, List.forall_mem_cons.mpr ⟨⟨tw24_10, Or.inl rfl⟩, List.forall_mem_cons.mpr ⟨⟨tw24_11, Or.inl rfl⟩, List.forall_mem_cons.mpr ⟨⟨tw24_12, Or.inl rfl⟩, List.forall_mem_cons.mpr ⟨⟨tw24_13, Or.inl rfl⟩, List.forall_mem_cons.mpr ⟨⟨tw24_14, Or.inl rfl⟩, List.forall_mem_cons.mpr ⟨⟨tw24_15, Or.inl rfl⟩, List.forall_mem_cons.mpr ⟨⟨tw24_16, Or.inl rfl⟩, List.forall_mem_cons.mpr ⟨⟨tw24_17, Or.inl rfl⟩, List.forall_mem_cons.mpr ⟨⟨tw24_18, Or.inl rfl⟩, List.forall_mem_cons.mpr ⟨⟨tw24_19, Or.inl rfl⟩, List.forall_mem_cons.mpr ⟨⟨tw24_20, Or.inl rfl⟩, List.forall_mem_cons.mpr ⟨⟨tw24_21, Or.inl rfl⟩, List.forall_mem_cons.mpr ⟨⟨tw24_22, Or.inl rfl⟩, List.forall_mem_cons.mpr ⟨⟨tw24_23, Or.inl rfl⟩, fun _ h => absurd h List.not_mem_nil⟩⟩⟩⟩⟩⟩⟩⟩⟩⟩⟩⟩⟩⟩⟩⟩⟩⟩⟩⟩⟩⟩⟩⟩
theorem tw25_0 : Cond.methodLink RX8 188 yX8_factorial ∈ lw_tbl := tb4 (List.mem_of_getElem? (i := 183) rfl)
theorem mw25_0 : Cond.methodLink RX8 188 yX8_factorial ∈ wsL_law := inr25 (List.mem_of_getElem? (i := 0) rfl)
theorem tw25_1 : Cond.static yX8_factorial ∈ lw_tbl := tb4 (List.mem_of_getElem? (i := 184) rfl)
theorem mw25_1 : Cond.static yX8_factorial ∈ wsL_law := inr25 (List.mem_of_getElem? (i := 1) rfl)
theorem tw25_2 : Cond.code yX8_factorial cX8_factorial 3 (some .int) ∈ lw_tbl := tb4 (List.mem_of_getElem? (i := 185) rfl)
theorem mw25_2 : Cond.code yX8_factorial cX8_factorial 3 (some .int) ∈ wsL_law := inr25 (List.mem_of_getElem? (i := 2) rfl)
theorem tw25_3 : Cond.methodLink RX8 191 yX8_common ∈ lw_tbl := tb4 (List.mem_of_getElem? (i := 186) rfl)
theorem mw25_3 : Cond.methodLink RX8 191 yX8_common ∈ wsL_law := inr25 (List.mem_of_getElem? (i := 3) rfl)
theorem tw25_4 : Cond.static yX8_common ∈ lw_tbl := tb4 (List.mem_of_getElem? (i := 187) rfl)
theorem mw25_4 : Cond.static yX8_common ∈ wsL_law := inr25 (List.mem_of_getElem? (i := 4) rfl)
theorem tw25_5 : Cond.code yX8_common cX8_common 5 (some .int) ∈ lw_tbl := tb4 (List.mem_of_getElem? (i := 188) rfl)
theorem mw25_5 : Cond.code yX8_common cX8_common 5 (some .int) ∈ wsL_law := inr25 (List.mem_of_getElem? (i := 5) rfl)
theorem tw25_6 : Cond.methodLink RL 81 yX7_table ∈ lw_tbl := tb3 (List.mem_of_getElem? (i := 26) rfl)
theorem mw25_6 : Cond.methodLink RL 81 yX7_table ∈ wsL_law := inr25 (List.mem_of_getElem? (i := 6) rfl)
theorem tw25_7 : Cond.instanceMethod yX7_table ∈ lw_tbl := tb3 (List.mem_of_getElem? (i := 27) rfl)
theorem mw25_7 : Cond.instanceMethod yX7_table ∈ wsL_law := inr25 (List.mem_of_getElem? (i := 7) rfl)
theorem tw25_8 : Cond.selects RX7 yX7_table yX7_table ∈ lw_tbl := tb3 (List.mem_of_getElem? (i := 28) rfl)
theorem mw25_8 : Cond.selects RX7 yX7_table yX7_table ∈ wsL_law := inr25 (List.mem_of_getElem? (i := 8) rfl)
theorem tw25_9 : Cond.code yX7_table cX7_table 3 (some .int) ∈ lw_tbl := tb3 (List.mem_of_getElem? (i := 29) rfl)
theorem mw25_9 : Cond.code yX7_table cX7_table 3 (some .int) ∈ wsL_law := inr25 (List.mem_of_getElem? (i := 9) rfl)
theorem tw25_10 : Cond.methodLink RX7 200 yX7_giftsTogether ∈ lw_tbl := tb3 (List.mem_of_getElem? (i := 30) rfl)
theorem mw25_10 : Cond.methodLink RX7 200 yX7_giftsTogether ∈ wsL_law := inr25 (List.mem_of_getElem? (i := 10) rfl)
theorem tw25_11 : Cond.instanceMethod yX7_giftsTogether ∈ lw_tbl := tb3 (List.mem_of_getElem? (i := 32) rfl)
theorem mw25_11 : Cond.instanceMethod yX7_giftsTogether ∈ wsL_law := inr25 (List.mem_of_getElem? (i := 11) rfl)
theorem tw25_12 : Cond.selects RX7 yX7_giftsTogether yX7_giftsTogether ∈ lw_tbl := List.mem_append_left _ (List.mem_of_getElem? (i := 12) rfl)
theorem mw25_12 : Cond.selects RX7 yX7_giftsTogether yX7_giftsTogether ∈ wsL_law := inr25 (List.mem_of_getElem? (i := 12) rfl)
theorem tw25_13 : Cond.code yX7_giftsTogether cX7_giftsTogether 5 (some .int) ∈ lw_tbl := tb3 (List.mem_of_getElem? (i := 33) rfl)
theorem mw25_13 : Cond.code yX7_giftsTogether cX7_giftsTogether 5 (some .int) ∈ wsL_law := inr25 (List.mem_of_getElem? (i := 13) rfl)
theorem tw25_14 : Cond.methodLink RX7 234 yX2_giftBit ∈ lw_tbl := tb3 (List.mem_of_getElem? (i := 34) rfl)
theorem mw25_14 : Cond.methodLink RX7 234 yX2_giftBit ∈ wsL_law := inr25 (List.mem_of_getElem? (i := 14) rfl)
theorem tw25_15 : Cond.methodLink RL 84 yX8_table ∈ lw_tbl := tb4 (List.mem_of_getElem? (i := 189) rfl)
theorem mw25_15 : Cond.methodLink RL 84 yX8_table ∈ wsL_law := inr25 (List.mem_of_getElem? (i := 15) rfl)
theorem tw25_16 : Cond.instanceMethod yX8_table ∈ lw_tbl := tb4 (List.mem_of_getElem? (i := 190) rfl)
theorem mw25_16 : Cond.instanceMethod yX8_table ∈ wsL_law := inr25 (List.mem_of_getElem? (i := 16) rfl)
theorem tw25_17 : Cond.selects RX8 yX8_table yX8_table ∈ lw_tbl := tb4 (List.mem_of_getElem? (i := 191) rfl)
theorem mw25_17 : Cond.selects RX8 yX8_table yX8_table ∈ wsL_law := inr25 (List.mem_of_getElem? (i := 17) rfl)
theorem tw25_18 : Cond.code yX8_table cX8_table 3 (some .int) ∈ lw_tbl := tb4 (List.mem_of_getElem? (i := 192) rfl)
theorem mw25_18 : Cond.code yX8_table cX8_table 3 (some .int) ∈ wsL_law := inr25 (List.mem_of_getElem? (i := 18) rfl)
theorem tw25_19 : Cond.methodLink RX8 197 yX8_tableOf ∈ lw_tbl := tb4 (List.mem_of_getElem? (i := 193) rfl)
theorem mw25_19 : Cond.methodLink RX8 197 yX8_tableOf ∈ wsL_law := inr25 (List.mem_of_getElem? (i := 19) rfl)
theorem tw25_20 : Cond.instanceMethod yX8_tableOf ∈ lw_tbl := tb4 (List.mem_of_getElem? (i := 195) rfl)
theorem mw25_20 : Cond.instanceMethod yX8_tableOf ∈ wsL_law := inr25 (List.mem_of_getElem? (i := 20) rfl)
theorem tw25_21 : Cond.selects RX8 yX8_tableOf yX8_tableOf ∈ lw_tbl := List.mem_append_left _ (List.mem_of_getElem? (i := 34) rfl)
theorem mw25_21 : Cond.selects RX8 yX8_tableOf yX8_tableOf ∈ wsL_law := inr25 (List.mem_of_getElem? (i := 21) rfl)
theorem tw25_22 : Cond.code yX8_tableOf cX8_tableOf 5 (some .int) ∈ lw_tbl := tb4 (List.mem_of_getElem? (i := 196) rfl)
theorem mw25_22 : Cond.code yX8_tableOf cX8_tableOf 5 (some .int) ∈ wsL_law := inr25 (List.mem_of_getElem? (i := 22) rfl)
theorem tw25_23 : Cond.methodLink RX8 194 yX8_gives ∈ lw_tbl := tb4 (List.mem_of_getElem? (i := 197) rfl)
theorem mw25_23 : Cond.methodLink RX8 194 yX8_gives ∈ wsL_law := inr25 (List.mem_of_getElem? (i := 23) rfl)
theorem gdr25 : GoodIn lw_tbl wsL_law_r25 := List.forall_mem_cons.mpr ⟨⟨tw25_0, Or.inl rfl⟩, List.forall_mem_cons.mpr ⟨⟨tw25_1, Or.inl rfl⟩, List.forall_mem_cons.mpr ⟨⟨tw25_2, Or.inl rfl⟩, List.forall_mem_cons.mpr ⟨⟨tw25_3, Or.inl rfl⟩, List.forall_mem_cons.mpr ⟨⟨tw25_4, Or.inl rfl⟩, List.forall_mem_cons.mpr ⟨⟨tw25_5, Or.inl rfl⟩, List.forall_mem_cons.mpr ⟨⟨tw25_6, Or.inl rfl⟩, List.forall_mem_cons.mpr ⟨⟨tw25_7, Or.inl rfl⟩, List.forall_mem_cons.mpr ⟨⟨tw25_8, Or.inl rfl⟩, List.forall_mem_cons.mpr ⟨⟨tw25_9, Or.inl rfl⟩, List.forall_mem_cons.mpr ⟨⟨tw25_10, Or.inl rfl⟩, List.forall_mem_cons.mpr ⟨⟨tw25_11, Or.inl rfl⟩, List.forall_mem_cons.mpr ⟨⟨tw25_12, Or.inl rfl⟩, List.forall_mem_cons.mpr ⟨⟨tw25_13, Or.inl rfl⟩, List.forall_mem_cons.mpr ⟨⟨tw25_14, Or.inl rfl⟩, List.forall_mem_cons.mpr ⟨⟨tw25_15, Or.inl rfl⟩, List.forall_mem_cons.mpr ⟨⟨tw25_16, Or.inl rfl⟩, List.forall_mem_cons.mpr ⟨⟨tw25_17, Or.inl rfl⟩, List.forall_mem_cons.mpr ⟨⟨tw25_18, Or.inl rfl⟩, List.forall_mem_cons.mpr ⟨⟨tw25_19, Or.inl rfl⟩, List.forall_mem_cons.mpr ⟨⟨tw25_20, Or.inl rfl⟩, List.forall_mem_cons.mpr ⟨⟨tw25_21, Or.inl rfl⟩, List.forall_mem_cons.mpr ⟨⟨tw25_22, Or.inl rfl⟩, List.forall_mem_cons.mpr ⟨⟨tw25_23, Or.inl rfl⟩, fun _ h => absurd h List.not_mem_nil⟩⟩⟩⟩⟩⟩⟩⟩⟩⟩⟩⟩⟩⟩⟩⟩⟩⟩⟩⟩⟩⟩⟩⟩
theorem tw26_0 : Cond.instanceMethod yX8_gives ∈ lw_tbl := tb4 (List.mem_of_getElem? (i := 199) rfl)
theorem mw26_0 : Cond.instanceMethod yX8_gives ∈ wsL_law := inr26 (List.mem_of_getElem? (i := 0) rfl)
theorem tw26_1 : Cond.selects RX8 yX8_gives yX8_gives ∈ lw_tbl := List.mem_append_left _ (List.mem_of_getElem? (i := 35) rfl)
theorem mw26_1 : Cond.selects RX8 yX8_gives yX8_gives ∈ wsL_law := inr26 (List.mem_of_getElem? (i := 1) rfl)
theorem tw26_2 : Cond.code yX8_gives cX8_gives 3 (some .int) ∈ lw_tbl := tb4 (List.mem_of_getElem? (i := 200) rfl)
theorem mw26_2 : Cond.code yX8_gives cX8_gives 3 (some .int) ∈ wsL_law := inr26 (List.mem_of_getElem? (i := 2) rfl)
theorem tw26_3 : Cond.methodLink RL 85 yX7_pairs ∈ lw_tbl := tb3 (List.mem_of_getElem? (i := 35) rfl)
theorem mw26_3 : Cond.methodLink RL 85 yX7_pairs ∈ wsL_law := inr26 (List.mem_of_getElem? (i := 3) rfl)
theorem tw26_4 : Cond.instanceMethod yX7_pairs ∈ lw_tbl := tb3 (List.mem_of_getElem? (i := 36) rfl)
theorem mw26_4 : Cond.instanceMethod yX7_pairs ∈ wsL_law := inr26 (List.mem_of_getElem? (i := 4) rfl)
theorem tw26_5 : Cond.selects RX7 yX7_pairs yX7_pairs ∈ lw_tbl := tb3 (List.mem_of_getElem? (i := 37) rfl)
theorem mw26_5 : Cond.selects RX7 yX7_pairs yX7_pairs ∈ wsL_law := inr26 (List.mem_of_getElem? (i := 5) rfl)
theorem tw26_6 : Cond.code yX7_pairs cX7_pairs 2 (some .int) ∈ lw_tbl := tb3 (List.mem_of_getElem? (i := 38) rfl)
theorem mw26_6 : Cond.code yX7_pairs cX7_pairs 2 (some .int) ∈ wsL_law := inr26 (List.mem_of_getElem? (i := 6) rfl)
theorem tw26_7 : Cond.methodLink RX7 204 yX7_mostOfPairs ∈ lw_tbl := tb3 (List.mem_of_getElem? (i := 39) rfl)
theorem mw26_7 : Cond.methodLink RX7 204 yX7_mostOfPairs ∈ wsL_law := inr26 (List.mem_of_getElem? (i := 7) rfl)
theorem tw26_8 : Cond.instanceMethod yX7_mostOfPairs ∈ lw_tbl := tb3 (List.mem_of_getElem? (i := 41) rfl)
theorem mw26_8 : Cond.instanceMethod yX7_mostOfPairs ∈ wsL_law := inr26 (List.mem_of_getElem? (i := 8) rfl)
theorem tw26_9 : Cond.selects RX7 yX7_mostOfPairs yX7_mostOfPairs ∈ lw_tbl := List.mem_append_left _ (List.mem_of_getElem? (i := 13) rfl)
theorem mw26_9 : Cond.selects RX7 yX7_mostOfPairs yX7_mostOfPairs ∈ wsL_law := inr26 (List.mem_of_getElem? (i := 9) rfl)
theorem tw26_10 : Cond.code yX7_mostOfPairs cX7_mostOfPairs 8 (some .int) ∈ lw_tbl := tb3 (List.mem_of_getElem? (i := 42) rfl)
theorem mw26_10 : Cond.code yX7_mostOfPairs cX7_mostOfPairs 8 (some .int) ∈ wsL_law := inr26 (List.mem_of_getElem? (i := 10) rfl)
theorem tw26_11 : Cond.methodLink RX7 229 Lib.Math.max.name ∈ lw_tbl := tb3 (List.mem_of_getElem? (i := 47) rfl)
theorem mw26_11 : Cond.methodLink RX7 229 Lib.Math.max.name ∈ wsL_law := inr26 (List.mem_of_getElem? (i := 11) rfl)
theorem tw26_12 : Cond.static Lib.Math.max.name ∈ lw_tbl := tb3 (List.mem_of_getElem? (i := 48) rfl)
theorem mw26_12 : Cond.static Lib.Math.max.name ∈ wsL_law := inr26 (List.mem_of_getElem? (i := 12) rfl)
theorem tw26_13 : Cond.code Lib.Math.max.name Lib.Math.max.code 2 (some .int) ∈ lw_tbl := tb3 (List.mem_of_getElem? (i := 49) rfl)
theorem mw26_13 : Cond.code Lib.Math.max.name Lib.Math.max.code 2 (some .int) ∈ wsL_law := inr26 (List.mem_of_getElem? (i := 13) rfl)
theorem tw26_14 : Cond.methodLink RX7 223 yJ6_numberOfTrailingZeros_0f7a4 ∈ lw_tbl := tb3 (List.mem_of_getElem? (i := 43) rfl)
theorem mw26_14 : Cond.methodLink RX7 223 yJ6_numberOfTrailingZeros_0f7a4 ∈ wsL_law := inr26 (List.mem_of_getElem? (i := 14) rfl)
theorem tw26_15 : Cond.methodLink RX7 226 yJ6_numberOfLeadingZeros_0f7a4 ∈ lw_tbl := tb3 (List.mem_of_getElem? (i := 44) rfl)
theorem mw26_15 : Cond.methodLink RX7 226 yJ6_numberOfLeadingZeros_0f7a4 ∈ wsL_law := inr26 (List.mem_of_getElem? (i := 15) rfl)
theorem tw26_16 : Cond.static yJ6_numberOfLeadingZeros_0f7a4 ∈ lw_tbl := tb3 (List.mem_of_getElem? (i := 45) rfl)
theorem mw26_16 : Cond.static yJ6_numberOfLeadingZeros_0f7a4 ∈ wsL_law := inr26 (List.mem_of_getElem? (i := 16) rfl)
theorem tw26_17 : Cond.code yJ6_numberOfLeadingZeros_0f7a4 cJ6_numberOfLeadingZeros_0f7a4 2 (some .int) ∈ lw_tbl := tb3 (List.mem_of_getElem? (i := 46) rfl)
theorem mw26_17 : Cond.code yJ6_numberOfLeadingZeros_0f7a4 cJ6_numberOfLeadingZeros_0f7a4 2 (some .int) ∈ wsL_law := inr26 (List.mem_of_getElem? (i := 17) rfl)
theorem tw26_18 : Cond.methodLink RL 88 yX8_pairs ∈ lw_tbl := tb4 (List.mem_of_getElem? (i := 201) rfl)
theorem mw26_18 : Cond.methodLink RL 88 yX8_pairs ∈ wsL_law := inr26 (List.mem_of_getElem? (i := 18) rfl)
theorem tw26_19 : Cond.instanceMethod yX8_pairs ∈ lw_tbl := tb4 (List.mem_of_getElem? (i := 202) rfl)
theorem mw26_19 : Cond.instanceMethod yX8_pairs ∈ wsL_law := inr26 (List.mem_of_getElem? (i := 19) rfl)
theorem tw26_20 : Cond.selects RX8 yX8_pairs yX8_pairs ∈ lw_tbl := tb4 (List.mem_of_getElem? (i := 203) rfl)
theorem mw26_20 : Cond.selects RX8 yX8_pairs yX8_pairs ∈ wsL_law := inr26 (List.mem_of_getElem? (i := 20) rfl)
theorem tw26_21 : Cond.code yX8_pairs cX8_pairs 9 (some .int) ∈ lw_tbl := tb4 (List.mem_of_getElem? (i := 204) rfl)
theorem mw26_21 : Cond.code yX8_pairs cX8_pairs 9 (some .int) ∈ wsL_law := inr26 (List.mem_of_getElem? (i := 21) rfl)
theorem tw26_22 : Cond.methodLink RL 89 yX7_judge ∈ lw_tbl := tb3 (List.mem_of_getElem? (i := 50) rfl)
theorem mw26_22 : Cond.methodLink RL 89 yX7_judge ∈ wsL_law := inr26 (List.mem_of_getElem? (i := 22) rfl)
theorem tw26_23 : Cond.instanceMethod yX7_judge ∈ lw_tbl := tb3 (List.mem_of_getElem? (i := 51) rfl)
theorem mw26_23 : Cond.instanceMethod yX7_judge ∈ wsL_law := inr26 (List.mem_of_getElem? (i := 23) rfl)
theorem gdr26 : GoodIn lw_tbl wsL_law_r26 := List.forall_mem_cons.mpr ⟨⟨tw26_0, Or.inl rfl⟩, List.forall_mem_cons.mpr ⟨⟨tw26_1, Or.inl rfl⟩, List.forall_mem_cons.mpr ⟨⟨tw26_2, Or.inl rfl⟩, List.forall_mem_cons.mpr ⟨⟨tw26_3, Or.inl rfl⟩, List.forall_mem_cons.mpr ⟨⟨tw26_4, Or.inl rfl⟩, List.forall_mem_cons.mpr ⟨⟨tw26_5, Or.inl rfl⟩, List.forall_mem_cons.mpr ⟨⟨tw26_6, Or.inl rfl⟩, List.forall_mem_cons.mpr ⟨⟨tw26_7, Or.inl rfl⟩, List.forall_mem_cons.mpr ⟨⟨tw26_8, Or.inl rfl⟩, List.forall_mem_cons.mpr ⟨⟨tw26_9, Or.inl rfl⟩, List.forall_mem_cons.mpr ⟨⟨tw26_10, Or.inl rfl⟩, List.forall_mem_cons.mpr ⟨⟨tw26_11, Or.inl rfl⟩, List.forall_mem_cons.mpr ⟨⟨tw26_12, Or.inl rfl⟩, List.forall_mem_cons.mpr ⟨⟨tw26_13, Or.inl rfl⟩, List.forall_mem_cons.mpr ⟨⟨tw26_14, Or.inl rfl⟩, List.forall_mem_cons.mpr ⟨⟨tw26_15, Or.inl rfl⟩, List.forall_mem_cons.mpr ⟨⟨tw26_16, Or.inl rfl⟩, List.forall_mem_cons.mpr ⟨⟨tw26_17, Or.inl rfl⟩, List.forall_mem_cons.mpr ⟨⟨tw26_18, Or.inl rfl⟩, List.forall_mem_cons.mpr ⟨⟨tw26_19, Or.inl rfl⟩, List.forall_mem_cons.mpr ⟨⟨tw26_20, Or.inl rfl⟩, List.forall_mem_cons.mpr ⟨⟨tw26_21, Or.inl rfl⟩, List.forall_mem_cons.mpr ⟨⟨tw26_22, Or.inl rfl⟩, List.forall_mem_cons.mpr ⟨⟨tw26_23, Or.inl rfl⟩, fun _ h => absurd h List.not_mem_nil⟩⟩⟩⟩⟩⟩⟩⟩⟩⟩⟩⟩⟩⟩⟩⟩⟩⟩⟩⟩⟩⟩⟩⟩
theorem tw27_0 : Cond.selects RX7 yX7_judge yX7_judge ∈ lw_tbl := tb3 (List.mem_of_getElem? (i := 52) rfl)
theorem mw27_0 : Cond.selects RX7 yX7_judge yX7_judge ∈ wsL_law := inr27 (List.mem_of_getElem? (i := 0) rfl)
theorem tw27_1 : Cond.code yX7_judge cX7_judge 4 (some .int) ∈ lw_tbl := tb3 (List.mem_of_getElem? (i := 53) rfl)
theorem mw27_1 : Cond.code yX7_judge cX7_judge 4 (some .int) ∈ wsL_law := inr27 (List.mem_of_getElem? (i := 1) rfl)
theorem tw27_2 : Cond.fieldLink RX7 207 "TallowHours" "TENS" "[I" ∈ lw_tbl := tb3 (List.mem_of_getElem? (i := 54) rfl)
theorem mw27_2 : Cond.fieldLink RX7 207 "TallowHours" "TENS" "[I" ∈ wsL_law := inr27 (List.mem_of_getElem? (i := 2) rfl)
theorem tw27_3 : Cond.methodLink RX7 210 yX2_copy ∈ lw_tbl := tb3 (List.mem_of_getElem? (i := 56) rfl)
theorem mw27_3 : Cond.methodLink RX7 210 yX2_copy ∈ wsL_law := inr27 (List.mem_of_getElem? (i := 3) rfl)
theorem tw27_4 : Cond.instanceMethod yX2_copy ∈ lw_tbl := tb3 (List.mem_of_getElem? (i := 57) rfl)
theorem mw27_4 : Cond.instanceMethod yX2_copy ∈ wsL_law := inr27 (List.mem_of_getElem? (i := 4) rfl)
theorem tw27_5 : Cond.selects RX2 yX2_copy yX2_copy ∈ lw_tbl := tb3 (List.mem_of_getElem? (i := 58) rfl)
theorem mw27_5 : Cond.selects RX2 yX2_copy yX2_copy ∈ wsL_law := inr27 (List.mem_of_getElem? (i := 5) rfl)
theorem tw27_6 : Cond.code yX2_copy cX2_copy 3 none ∈ lw_tbl := tb3 (List.mem_of_getElem? (i := 59) rfl)
theorem mw27_6 : Cond.code yX2_copy cX2_copy 3 none ∈ wsL_law := inr27 (List.mem_of_getElem? (i := 6) rfl)
theorem tw27_7 : Cond.methodLink RX7 213 yX7_figure ∈ lw_tbl := tb3 (List.mem_of_getElem? (i := 60) rfl)
theorem mw27_7 : Cond.methodLink RX7 213 yX7_figure ∈ wsL_law := inr27 (List.mem_of_getElem? (i := 7) rfl)
theorem tw27_8 : Cond.static yX7_figure ∈ lw_tbl := tb3 (List.mem_of_getElem? (i := 61) rfl)
theorem mw27_8 : Cond.static yX7_figure ∈ wsL_law := inr27 (List.mem_of_getElem? (i := 8) rfl)
theorem tw27_9 : Cond.code yX7_figure cX7_figure 4 (some .int) ∈ lw_tbl := tb3 (List.mem_of_getElem? (i := 62) rfl)
theorem mw27_9 : Cond.code yX7_figure cX7_figure 4 (some .int) ∈ wsL_law := inr27 (List.mem_of_getElem? (i := 9) rfl)
theorem tw27_10 : Cond.methodLink RX7 217 yX7_goesWell ∈ lw_tbl := tb3 (List.mem_of_getElem? (i := 63) rfl)
theorem mw27_10 : Cond.methodLink RX7 217 yX7_goesWell ∈ wsL_law := inr27 (List.mem_of_getElem? (i := 10) rfl)
theorem tw27_11 : Cond.instanceMethod yX7_goesWell ∈ lw_tbl := tb3 (List.mem_of_getElem? (i := 65) rfl)
theorem mw27_11 : Cond.instanceMethod yX7_goesWell ∈ wsL_law := inr27 (List.mem_of_getElem? (i := 11) rfl)
theorem tw27_12 : Cond.selects RX7 yX7_goesWell yX7_goesWell ∈ lw_tbl := List.mem_append_left _ (List.mem_of_getElem? (i := 14) rfl)
theorem mw27_12 : Cond.selects RX7 yX7_goesWell yX7_goesWell ∈ wsL_law := inr27 (List.mem_of_getElem? (i := 12) rfl)
theorem tw27_13 : Cond.code yX7_goesWell cX7_goesWell 2 (some .boolean) ∈ lw_tbl := tb3 (List.mem_of_getElem? (i := 66) rfl)
theorem mw27_13 : Cond.code yX7_goesWell cX7_goesWell 2 (some .boolean) ∈ wsL_law := inr27 (List.mem_of_getElem? (i := 13) rfl)
theorem tw27_14 : Cond.methodLink RX7 220 yX2_lightIfCan ∈ lw_tbl := tb3 (List.mem_of_getElem? (i := 67) rfl)
theorem mw27_14 : Cond.methodLink RX7 220 yX2_lightIfCan ∈ wsL_law := inr27 (List.mem_of_getElem? (i := 14) rfl)
theorem tw27_15 : Cond.instanceMethod yX2_lightIfCan ∈ lw_tbl := tb3 (List.mem_of_getElem? (i := 68) rfl)
theorem mw27_15 : Cond.instanceMethod yX2_lightIfCan ∈ wsL_law := inr27 (List.mem_of_getElem? (i := 15) rfl)
theorem tw27_16 : Cond.selects RX2 yX2_lightIfCan yX2_lightIfCan ∈ lw_tbl := tb3 (List.mem_of_getElem? (i := 69) rfl)
theorem mw27_16 : Cond.selects RX2 yX2_lightIfCan yX2_lightIfCan ∈ wsL_law := inr27 (List.mem_of_getElem? (i := 16) rfl)
theorem tw27_17 : Cond.code yX2_lightIfCan cX2_lightIfCan 3 (some .boolean) ∈ lw_tbl := tb3 (List.mem_of_getElem? (i := 70) rfl)
theorem mw27_17 : Cond.code yX2_lightIfCan cX2_lightIfCan 3 (some .boolean) ∈ wsL_law := inr27 (List.mem_of_getElem? (i := 17) rfl)
theorem tw27_18 : Cond.methodLink RL 92 yX8_judge ∈ lw_tbl := tb4 (List.mem_of_getElem? (i := 205) rfl)
theorem mw27_18 : Cond.methodLink RL 92 yX8_judge ∈ wsL_law := inr27 (List.mem_of_getElem? (i := 18) rfl)
theorem tw27_19 : Cond.instanceMethod yX8_judge ∈ lw_tbl := tb4 (List.mem_of_getElem? (i := 206) rfl)
theorem mw27_19 : Cond.instanceMethod yX8_judge ∈ wsL_law := inr27 (List.mem_of_getElem? (i := 19) rfl)
theorem tw27_20 : Cond.selects RX8 yX8_judge yX8_judge ∈ lw_tbl := tb4 (List.mem_of_getElem? (i := 207) rfl)
theorem mw27_20 : Cond.selects RX8 yX8_judge yX8_judge ∈ wsL_law := inr27 (List.mem_of_getElem? (i := 20) rfl)
theorem tw27_21 : Cond.code yX8_judge cX8_judge 6 (some .int) ∈ lw_tbl := tb4 (List.mem_of_getElem? (i := 208) rfl)
theorem mw27_21 : Cond.code yX8_judge cX8_judge 6 (some .int) ∈ wsL_law := inr27 (List.mem_of_getElem? (i := 21) rfl)
theorem tw27_22 : Cond.constantLong RX8 200 (8) ∈ lw_tbl := tb4 (List.mem_of_getElem? (i := 209) rfl)
theorem mw27_22 : Cond.constantLong RX8 200 (8) ∈ wsL_law := inr27 (List.mem_of_getElem? (i := 22) rfl)
theorem tw27_23 : Cond.methodLink RL 93 yX7_stub ∈ lw_tbl := tb3 (List.mem_of_getElem? (i := 71) rfl)
theorem mw27_23 : Cond.methodLink RL 93 yX7_stub ∈ wsL_law := inr27 (List.mem_of_getElem? (i := 23) rfl)
theorem gdr27 : GoodIn lw_tbl wsL_law_r27 := List.forall_mem_cons.mpr ⟨⟨tw27_0, Or.inl rfl⟩, List.forall_mem_cons.mpr ⟨⟨tw27_1, Or.inl rfl⟩, List.forall_mem_cons.mpr ⟨⟨tw27_2, Or.inl rfl⟩, List.forall_mem_cons.mpr ⟨⟨tw27_3, Or.inl rfl⟩, List.forall_mem_cons.mpr ⟨⟨tw27_4, Or.inl rfl⟩, List.forall_mem_cons.mpr ⟨⟨tw27_5, Or.inl rfl⟩, List.forall_mem_cons.mpr ⟨⟨tw27_6, Or.inl rfl⟩, List.forall_mem_cons.mpr ⟨⟨tw27_7, Or.inl rfl⟩, List.forall_mem_cons.mpr ⟨⟨tw27_8, Or.inl rfl⟩, List.forall_mem_cons.mpr ⟨⟨tw27_9, Or.inl rfl⟩, List.forall_mem_cons.mpr ⟨⟨tw27_10, Or.inl rfl⟩, List.forall_mem_cons.mpr ⟨⟨tw27_11, Or.inl rfl⟩, List.forall_mem_cons.mpr ⟨⟨tw27_12, Or.inl rfl⟩, List.forall_mem_cons.mpr ⟨⟨tw27_13, Or.inl rfl⟩, List.forall_mem_cons.mpr ⟨⟨tw27_14, Or.inl rfl⟩, List.forall_mem_cons.mpr ⟨⟨tw27_15, Or.inl rfl⟩, List.forall_mem_cons.mpr ⟨⟨tw27_16, Or.inl rfl⟩, List.forall_mem_cons.mpr ⟨⟨tw27_17, Or.inl rfl⟩, List.forall_mem_cons.mpr ⟨⟨tw27_18, Or.inl rfl⟩, List.forall_mem_cons.mpr ⟨⟨tw27_19, Or.inl rfl⟩, List.forall_mem_cons.mpr ⟨⟨tw27_20, Or.inl rfl⟩, List.forall_mem_cons.mpr ⟨⟨tw27_21, Or.inl rfl⟩, List.forall_mem_cons.mpr ⟨⟨tw27_22, Or.inl rfl⟩, List.forall_mem_cons.mpr ⟨⟨tw27_23, Or.inl rfl⟩, fun _ h => absurd h List.not_mem_nil⟩⟩⟩⟩⟩⟩⟩⟩⟩⟩⟩⟩⟩⟩⟩⟩⟩⟩⟩⟩⟩⟩⟩⟩
theorem tw28_0 : Cond.instanceMethod yX7_stub ∈ lw_tbl := tb3 (List.mem_of_getElem? (i := 72) rfl)
theorem mw28_0 : Cond.instanceMethod yX7_stub ∈ wsL_law := inr28 (List.mem_of_getElem? (i := 0) rfl)
theorem tw28_1 : Cond.selects RX7 yX7_stub yX7_stub ∈ lw_tbl := tb3 (List.mem_of_getElem? (i := 73) rfl)
theorem mw28_1 : Cond.selects RX7 yX7_stub yX7_stub ∈ wsL_law := inr28 (List.mem_of_getElem? (i := 1) rfl)
theorem tw28_2 : Cond.code yX7_stub cX7_stub 5 (some .int) ∈ lw_tbl := tb3 (List.mem_of_getElem? (i := 74) rfl)
theorem mw28_2 : Cond.code yX7_stub cX7_stub 5 (some .int) ∈ wsL_law := inr28 (List.mem_of_getElem? (i := 2) rfl)
theorem tw28_3 : Cond.methodLink RX7 238 yX7_candlesEndingSo ∈ lw_tbl := tb3 (List.mem_of_getElem? (i := 75) rfl)
theorem mw28_3 : Cond.methodLink RX7 238 yX7_candlesEndingSo ∈ wsL_law := inr28 (List.mem_of_getElem? (i := 3) rfl)
theorem tw28_4 : Cond.instanceMethod yX7_candlesEndingSo ∈ lw_tbl := tb3 (List.mem_of_getElem? (i := 77) rfl)
theorem mw28_4 : Cond.instanceMethod yX7_candlesEndingSo ∈ wsL_law := inr28 (List.mem_of_getElem? (i := 4) rfl)
theorem tw28_5 : Cond.selects RX7 yX7_candlesEndingSo yX7_candlesEndingSo ∈ lw_tbl := List.mem_append_left _ (List.mem_of_getElem? (i := 15) rfl)
theorem mw28_5 : Cond.selects RX7 yX7_candlesEndingSo yX7_candlesEndingSo ∈ wsL_law := inr28 (List.mem_of_getElem? (i := 5) rfl)
theorem tw28_6 : Cond.code yX7_candlesEndingSo cX7_candlesEndingSo 5 (some .int) ∈ lw_tbl := tb3 (List.mem_of_getElem? (i := 78) rfl)
theorem mw28_6 : Cond.code yX7_candlesEndingSo cX7_candlesEndingSo 5 (some .int) ∈ wsL_law := inr28 (List.mem_of_getElem? (i := 6) rfl)
theorem tw28_7 : Cond.fieldLink RX7 244 "TallowHours$Party" "inches" "[I" ∈ lw_tbl := tb1 (List.mem_of_getElem? (i := 175) rfl)
theorem mw28_7 : Cond.fieldLink RX7 244 "TallowHours$Party" "inches" "[I" ∈ wsL_law := inr28 (List.mem_of_getElem? (i := 7) rfl)
theorem tw28_8 : Cond.fieldLink RX7 247 "TallowHours$Party" "start" "[I" ∈ lw_tbl := tb1 (List.mem_of_getElem? (i := 171) rfl)
theorem mw28_8 : Cond.fieldLink RX7 247 "TallowHours$Party" "start" "[I" ∈ wsL_law := inr28 (List.mem_of_getElem? (i := 8) rfl)
theorem tw28_9 : Cond.methodLink RX7 250 yX7_endsSo ∈ lw_tbl := tb3 (List.mem_of_getElem? (i := 79) rfl)
theorem mw28_9 : Cond.methodLink RX7 250 yX7_endsSo ∈ wsL_law := inr28 (List.mem_of_getElem? (i := 9) rfl)
theorem tw28_10 : Cond.instanceMethod yX7_endsSo ∈ lw_tbl := tb3 (List.mem_of_getElem? (i := 81) rfl)
theorem mw28_10 : Cond.instanceMethod yX7_endsSo ∈ wsL_law := inr28 (List.mem_of_getElem? (i := 10) rfl)
theorem tw28_11 : Cond.selects RX7 yX7_endsSo yX7_endsSo ∈ lw_tbl := List.mem_append_left _ (List.mem_of_getElem? (i := 16) rfl)
theorem mw28_11 : Cond.selects RX7 yX7_endsSo yX7_endsSo ∈ wsL_law := inr28 (List.mem_of_getElem? (i := 11) rfl)
theorem tw28_12 : Cond.code yX7_endsSo cX7_endsSo 6 (some .boolean) ∈ lw_tbl := tb3 (List.mem_of_getElem? (i := 82) rfl)
theorem mw28_12 : Cond.code yX7_endsSo cX7_endsSo 6 (some .boolean) ∈ wsL_law := inr28 (List.mem_of_getElem? (i := 12) rfl)
theorem tw28_13 : Cond.methodLink RX7 241 yX7_placesEndingSo ∈ lw_tbl := tb3 (List.mem_of_getElem? (i := 83) rfl)
theorem mw28_13 : Cond.methodLink RX7 241 yX7_placesEndingSo ∈ wsL_law := inr28 (List.mem_of_getElem? (i := 13) rfl)
theorem tw28_14 : Cond.instanceMethod yX7_placesEndingSo ∈ lw_tbl := tb3 (List.mem_of_getElem? (i := 85) rfl)
theorem mw28_14 : Cond.instanceMethod yX7_placesEndingSo ∈ wsL_law := inr28 (List.mem_of_getElem? (i := 14) rfl)
theorem tw28_15 : Cond.selects RX7 yX7_placesEndingSo yX7_placesEndingSo ∈ lw_tbl := List.mem_append_left _ (List.mem_of_getElem? (i := 17) rfl)
theorem mw28_15 : Cond.selects RX7 yX7_placesEndingSo yX7_placesEndingSo ∈ wsL_law := inr28 (List.mem_of_getElem? (i := 15) rfl)
theorem tw28_16 : Cond.code yX7_placesEndingSo cX7_placesEndingSo 5 (some .int) ∈ lw_tbl := tb3 (List.mem_of_getElem? (i := 86) rfl)
theorem mw28_16 : Cond.code yX7_placesEndingSo cX7_placesEndingSo 5 (some .int) ∈ wsL_law := inr28 (List.mem_of_getElem? (i := 16) rfl)
theorem tw28_17 : Cond.methodLink RL 97 yX8_stub ∈ lw_tbl := tb4 (List.mem_of_getElem? (i := 210) rfl)
theorem mw28_17 : Cond.methodLink RL 97 yX8_stub ∈ wsL_law := inr28 (List.mem_of_getElem? (i := 17) rfl)
theorem tw28_18 : Cond.instanceMethod yX8_stub ∈ lw_tbl := tb4 (List.mem_of_getElem? (i := 211) rfl)
theorem mw28_18 : Cond.instanceMethod yX8_stub ∈ wsL_law := inr28 (List.mem_of_getElem? (i := 18) rfl)
theorem tw28_19 : Cond.selects RX8 yX8_stub yX8_stub ∈ lw_tbl := tb4 (List.mem_of_getElem? (i := 212) rfl)
theorem mw28_19 : Cond.selects RX8 yX8_stub yX8_stub ∈ wsL_law := inr28 (List.mem_of_getElem? (i := 19) rfl)
theorem tw28_20 : Cond.code yX8_stub cX8_stub 7 (some .int) ∈ lw_tbl := tb4 (List.mem_of_getElem? (i := 213) rfl)
theorem mw28_20 : Cond.code yX8_stub cX8_stub 7 (some .int) ∈ wsL_law := inr28 (List.mem_of_getElem? (i := 20) rfl)
theorem tw28_21 : Cond.constantLong RX8 202 (3) ∈ lw_tbl := tb4 (List.mem_of_getElem? (i := 214) rfl)
theorem mw28_21 : Cond.constantLong RX8 202 (3) ∈ wsL_law := inr28 (List.mem_of_getElem? (i := 21) rfl)
theorem tw28_22 : Cond.methodLink RX8 204 yX8_isSo ∈ lw_tbl := tb4 (List.mem_of_getElem? (i := 215) rfl)
theorem mw28_22 : Cond.methodLink RX8 204 yX8_isSo ∈ wsL_law := inr28 (List.mem_of_getElem? (i := 22) rfl)
theorem tw28_23 : Cond.instanceMethod yX8_isSo ∈ lw_tbl := tb4 (List.mem_of_getElem? (i := 217) rfl)
theorem mw28_23 : Cond.instanceMethod yX8_isSo ∈ wsL_law := inr28 (List.mem_of_getElem? (i := 23) rfl)
theorem gdr28 : GoodIn lw_tbl wsL_law_r28 := List.forall_mem_cons.mpr ⟨⟨tw28_0, Or.inl rfl⟩, List.forall_mem_cons.mpr ⟨⟨tw28_1, Or.inl rfl⟩, List.forall_mem_cons.mpr ⟨⟨tw28_2, Or.inl rfl⟩, List.forall_mem_cons.mpr ⟨⟨tw28_3, Or.inl rfl⟩, List.forall_mem_cons.mpr ⟨⟨tw28_4, Or.inl rfl⟩, List.forall_mem_cons.mpr ⟨⟨tw28_5, Or.inl rfl⟩, List.forall_mem_cons.mpr ⟨⟨tw28_6, Or.inl rfl⟩, List.forall_mem_cons.mpr ⟨⟨tw28_7, Or.inl rfl⟩, List.forall_mem_cons.mpr ⟨⟨tw28_8, Or.inl rfl⟩, List.forall_mem_cons.mpr ⟨⟨tw28_9, Or.inl rfl⟩, List.forall_mem_cons.mpr ⟨⟨tw28_10, Or.inl rfl⟩, List.forall_mem_cons.mpr ⟨⟨tw28_11, Or.inl rfl⟩, List.forall_mem_cons.mpr ⟨⟨tw28_12, Or.inl rfl⟩, List.forall_mem_cons.mpr ⟨⟨tw28_13, Or.inl rfl⟩, List.forall_mem_cons.mpr ⟨⟨tw28_14, Or.inl rfl⟩, List.forall_mem_cons.mpr ⟨⟨tw28_15, Or.inl rfl⟩, List.forall_mem_cons.mpr ⟨⟨tw28_16, Or.inl rfl⟩, List.forall_mem_cons.mpr ⟨⟨tw28_17, Or.inl rfl⟩, List.forall_mem_cons.mpr ⟨⟨tw28_18, Or.inl rfl⟩, List.forall_mem_cons.mpr ⟨⟨tw28_19, Or.inl rfl⟩, List.forall_mem_cons.mpr ⟨⟨tw28_20, Or.inl rfl⟩, List.forall_mem_cons.mpr ⟨⟨tw28_21, Or.inl rfl⟩, List.forall_mem_cons.mpr ⟨⟨tw28_22, Or.inl rfl⟩, List.forall_mem_cons.mpr ⟨⟨tw28_23, Or.inl rfl⟩, fun _ h => absurd h List.not_mem_nil⟩⟩⟩⟩⟩⟩⟩⟩⟩⟩⟩⟩⟩⟩⟩⟩⟩⟩⟩⟩⟩⟩⟩⟩
theorem tw29_0 : Cond.selects RX8 yX8_isSo yX8_isSo ∈ lw_tbl := List.mem_append_left _ (List.mem_of_getElem? (i := 36) rfl)
theorem mw29_0 : Cond.selects RX8 yX8_isSo yX8_isSo ∈ wsL_law := inr29 (List.mem_of_getElem? (i := 0) rfl)
theorem tw29_1 : Cond.code yX8_isSo cX8_isSo 7 (some .boolean) ∈ lw_tbl := tb4 (List.mem_of_getElem? (i := 218) rfl)
theorem mw29_1 : Cond.code yX8_isSo cX8_isSo 7 (some .boolean) ∈ wsL_law := inr29 (List.mem_of_getElem? (i := 1) rfl)
theorem tw29_2 : Cond.methodLink RL 98 yX7_see ∈ lw_tbl := tb3 (List.mem_of_getElem? (i := 87) rfl)
theorem mw29_2 : Cond.methodLink RL 98 yX7_see ∈ wsL_law := inr29 (List.mem_of_getElem? (i := 2) rfl)
theorem tw29_3 : Cond.instanceMethod yX7_see ∈ lw_tbl := tb3 (List.mem_of_getElem? (i := 88) rfl)
theorem mw29_3 : Cond.instanceMethod yX7_see ∈ wsL_law := inr29 (List.mem_of_getElem? (i := 3) rfl)
theorem tw29_4 : Cond.selects RX7 yX7_see yX7_see ∈ lw_tbl := tb3 (List.mem_of_getElem? (i := 89) rfl)
theorem mw29_4 : Cond.selects RX7 yX7_see yX7_see ∈ wsL_law := inr29 (List.mem_of_getElem? (i := 4) rfl)
theorem tw29_5 : Cond.code yX7_see cX7_see 2 (some .int) ∈ lw_tbl := tb3 (List.mem_of_getElem? (i := 90) rfl)
theorem mw29_5 : Cond.code yX7_see cX7_see 2 (some .int) ∈ wsL_law := inr29 (List.mem_of_getElem? (i := 5) rfl)
theorem tw29_6 : Cond.methodLink RX7 254 yX1_add ∈ lw_tbl := tb3 (List.mem_of_getElem? (i := 91) rfl)
theorem mw29_6 : Cond.methodLink RX7 254 yX1_add ∈ wsL_law := inr29 (List.mem_of_getElem? (i := 6) rfl)
theorem tw29_7 : Cond.instanceMethod yX1_add ∈ lw_tbl := tb3 (List.mem_of_getElem? (i := 92) rfl)
theorem mw29_7 : Cond.instanceMethod yX1_add ∈ wsL_law := inr29 (List.mem_of_getElem? (i := 7) rfl)
theorem tw29_8 : Cond.selects RX1 yX1_add yX1_add ∈ lw_tbl := tb3 (List.mem_of_getElem? (i := 93) rfl)
theorem mw29_8 : Cond.selects RX1 yX1_add yX1_add ∈ wsL_law := inr29 (List.mem_of_getElem? (i := 8) rfl)
theorem tw29_9 : Cond.code yX1_add cX1_add 2 (some .int) ∈ lw_tbl := tb3 (List.mem_of_getElem? (i := 94) rfl)
theorem mw29_9 : Cond.code yX1_add cX1_add 2 (some .int) ∈ wsL_law := inr29 (List.mem_of_getElem? (i := 9) rfl)
theorem tw29_10 : Cond.methodLink RL 101 yX8_see ∈ lw_tbl := tb4 (List.mem_of_getElem? (i := 219) rfl)
theorem mw29_10 : Cond.methodLink RL 101 yX8_see ∈ wsL_law := inr29 (List.mem_of_getElem? (i := 10) rfl)
theorem tw29_11 : Cond.instanceMethod yX8_see ∈ lw_tbl := tb4 (List.mem_of_getElem? (i := 220) rfl)
theorem mw29_11 : Cond.instanceMethod yX8_see ∈ wsL_law := inr29 (List.mem_of_getElem? (i := 11) rfl)
theorem tw29_12 : Cond.selects RX8 yX8_see yX8_see ∈ lw_tbl := tb4 (List.mem_of_getElem? (i := 221) rfl)
theorem mw29_12 : Cond.selects RX8 yX8_see yX8_see ∈ wsL_law := inr29 (List.mem_of_getElem? (i := 12) rfl)
theorem tw29_13 : Cond.code yX8_see cX8_see 2 (some .int) ∈ lw_tbl := tb4 (List.mem_of_getElem? (i := 222) rfl)
theorem mw29_13 : Cond.code yX8_see cX8_see 2 (some .int) ∈ wsL_law := inr29 (List.mem_of_getElem? (i := 13) rfl)
theorem tw29_14 : Cond.constantLong RX8 208 (4) ∈ lw_tbl := tb4 (List.mem_of_getElem? (i := 223) rfl)
theorem mw29_14 : Cond.constantLong RX8 208 (4) ∈ wsL_law := inr29 (List.mem_of_getElem? (i := 14) rfl)
theorem tw29_15 : Cond.fieldLink RX8 210 "TallowHoursModel" "seen" "I" ∈ lw_tbl := tb3 (List.mem_of_getElem? (i := 202) rfl)
theorem mw29_15 : Cond.fieldLink RX8 210 "TallowHoursModel" "seen" "I" ∈ wsL_law := inr29 (List.mem_of_getElem? (i := 15) rfl)
theorem tw29_16 : Cond.methodLink RL 102 yX7_unsee ∈ lw_tbl := tb3 (List.mem_of_getElem? (i := 95) rfl)
theorem mw29_16 : Cond.methodLink RL 102 yX7_unsee ∈ wsL_law := inr29 (List.mem_of_getElem? (i := 16) rfl)
theorem tw29_17 : Cond.instanceMethod yX7_unsee ∈ lw_tbl := tb3 (List.mem_of_getElem? (i := 96) rfl)
theorem mw29_17 : Cond.instanceMethod yX7_unsee ∈ wsL_law := inr29 (List.mem_of_getElem? (i := 17) rfl)
theorem tw29_18 : Cond.selects RX7 yX7_unsee yX7_unsee ∈ lw_tbl := tb3 (List.mem_of_getElem? (i := 97) rfl)
theorem mw29_18 : Cond.selects RX7 yX7_unsee yX7_unsee ∈ wsL_law := inr29 (List.mem_of_getElem? (i := 18) rfl)
theorem tw29_19 : Cond.code yX7_unsee cX7_unsee 1 (some .int) ∈ lw_tbl := tb3 (List.mem_of_getElem? (i := 98) rfl)
theorem mw29_19 : Cond.code yX7_unsee cX7_unsee 1 (some .int) ∈ wsL_law := inr29 (List.mem_of_getElem? (i := 19) rfl)
theorem tw29_20 : Cond.methodLink RX7 256 yX1_clear ∈ lw_tbl := tb3 (List.mem_of_getElem? (i := 99) rfl)
theorem mw29_20 : Cond.methodLink RX7 256 yX1_clear ∈ wsL_law := inr29 (List.mem_of_getElem? (i := 20) rfl)
theorem tw29_21 : Cond.instanceMethod yX1_clear ∈ lw_tbl := tb3 (List.mem_of_getElem? (i := 100) rfl)
theorem mw29_21 : Cond.instanceMethod yX1_clear ∈ wsL_law := inr29 (List.mem_of_getElem? (i := 21) rfl)
theorem tw29_22 : Cond.selects RX1 yX1_clear yX1_clear ∈ lw_tbl := tb3 (List.mem_of_getElem? (i := 101) rfl)
theorem mw29_22 : Cond.selects RX1 yX1_clear yX1_clear ∈ wsL_law := inr29 (List.mem_of_getElem? (i := 22) rfl)
theorem tw29_23 : Cond.code yX1_clear cX1_clear 2 (some .int) ∈ lw_tbl := tb3 (List.mem_of_getElem? (i := 102) rfl)
theorem mw29_23 : Cond.code yX1_clear cX1_clear 2 (some .int) ∈ wsL_law := inr29 (List.mem_of_getElem? (i := 23) rfl)
theorem gdr29 : GoodIn lw_tbl wsL_law_r29 := List.forall_mem_cons.mpr ⟨⟨tw29_0, Or.inl rfl⟩, List.forall_mem_cons.mpr ⟨⟨tw29_1, Or.inl rfl⟩, List.forall_mem_cons.mpr ⟨⟨tw29_2, Or.inl rfl⟩, List.forall_mem_cons.mpr ⟨⟨tw29_3, Or.inl rfl⟩, List.forall_mem_cons.mpr ⟨⟨tw29_4, Or.inl rfl⟩, List.forall_mem_cons.mpr ⟨⟨tw29_5, Or.inl rfl⟩, List.forall_mem_cons.mpr ⟨⟨tw29_6, Or.inl rfl⟩, List.forall_mem_cons.mpr ⟨⟨tw29_7, Or.inl rfl⟩, List.forall_mem_cons.mpr ⟨⟨tw29_8, Or.inl rfl⟩, List.forall_mem_cons.mpr ⟨⟨tw29_9, Or.inl rfl⟩, List.forall_mem_cons.mpr ⟨⟨tw29_10, Or.inl rfl⟩, List.forall_mem_cons.mpr ⟨⟨tw29_11, Or.inl rfl⟩, List.forall_mem_cons.mpr ⟨⟨tw29_12, Or.inl rfl⟩, List.forall_mem_cons.mpr ⟨⟨tw29_13, Or.inl rfl⟩, List.forall_mem_cons.mpr ⟨⟨tw29_14, Or.inl rfl⟩, List.forall_mem_cons.mpr ⟨⟨tw29_15, Or.inl rfl⟩, List.forall_mem_cons.mpr ⟨⟨tw29_16, Or.inl rfl⟩, List.forall_mem_cons.mpr ⟨⟨tw29_17, Or.inl rfl⟩, List.forall_mem_cons.mpr ⟨⟨tw29_18, Or.inl rfl⟩, List.forall_mem_cons.mpr ⟨⟨tw29_19, Or.inl rfl⟩, List.forall_mem_cons.mpr ⟨⟨tw29_20, Or.inl rfl⟩, List.forall_mem_cons.mpr ⟨⟨tw29_21, Or.inl rfl⟩, List.forall_mem_cons.mpr ⟨⟨tw29_22, Or.inl rfl⟩, List.forall_mem_cons.mpr ⟨⟨tw29_23, Or.inl rfl⟩, fun _ h => absurd h List.not_mem_nil⟩⟩⟩⟩⟩⟩⟩⟩⟩⟩⟩⟩⟩⟩⟩⟩⟩⟩⟩⟩⟩⟩⟩⟩
theorem tw30_0 : Cond.methodLink RL 105 yX8_unsee ∈ lw_tbl := tb4 (List.mem_of_getElem? (i := 224) rfl)
theorem mw30_0 : Cond.methodLink RL 105 yX8_unsee ∈ wsL_law := inr30 (List.mem_of_getElem? (i := 0) rfl)
theorem tw30_1 : Cond.instanceMethod yX8_unsee ∈ lw_tbl := tb4 (List.mem_of_getElem? (i := 225) rfl)
theorem mw30_1 : Cond.instanceMethod yX8_unsee ∈ wsL_law := inr30 (List.mem_of_getElem? (i := 1) rfl)
theorem tw30_2 : Cond.selects RX8 yX8_unsee yX8_unsee ∈ lw_tbl := tb4 (List.mem_of_getElem? (i := 226) rfl)
theorem mw30_2 : Cond.selects RX8 yX8_unsee yX8_unsee ∈ wsL_law := inr30 (List.mem_of_getElem? (i := 2) rfl)
theorem tw30_3 : Cond.code yX8_unsee cX8_unsee 2 (some .int) ∈ lw_tbl := tb4 (List.mem_of_getElem? (i := 227) rfl)
theorem mw30_3 : Cond.code yX8_unsee cX8_unsee 2 (some .int) ∈ wsL_law := inr30 (List.mem_of_getElem? (i := 3) rfl)
theorem tw30_4 : Cond.methodLink RL 106 yX7_from ∈ lw_tbl := tb3 (List.mem_of_getElem? (i := 103) rfl)
theorem mw30_4 : Cond.methodLink RL 106 yX7_from ∈ wsL_law := inr30 (List.mem_of_getElem? (i := 4) rfl)
theorem tw30_5 : Cond.instanceMethod yX7_from ∈ lw_tbl := tb3 (List.mem_of_getElem? (i := 104) rfl)
theorem mw30_5 : Cond.instanceMethod yX7_from ∈ wsL_law := inr30 (List.mem_of_getElem? (i := 5) rfl)
theorem tw30_6 : Cond.selects RX7 yX7_from yX7_from ∈ lw_tbl := tb3 (List.mem_of_getElem? (i := 105) rfl)
theorem mw30_6 : Cond.selects RX7 yX7_from yX7_from ∈ wsL_law := inr30 (List.mem_of_getElem? (i := 6) rfl)
theorem tw30_7 : Cond.code yX7_from cX7_from 2 (some .int) ∈ lw_tbl := tb3 (List.mem_of_getElem? (i := 106) rfl)
theorem mw30_7 : Cond.code yX7_from cX7_from 2 (some .int) ∈ wsL_law := inr30 (List.mem_of_getElem? (i := 7) rfl)
theorem tw30_8 : Cond.methodLink RX7 257 yX1_origins ∈ lw_tbl := tb3 (List.mem_of_getElem? (i := 107) rfl)
theorem mw30_8 : Cond.methodLink RX7 257 yX1_origins ∈ wsL_law := inr30 (List.mem_of_getElem? (i := 8) rfl)
theorem tw30_9 : Cond.instanceMethod yX1_origins ∈ lw_tbl := tb3 (List.mem_of_getElem? (i := 108) rfl)
theorem mw30_9 : Cond.instanceMethod yX1_origins ∈ wsL_law := inr30 (List.mem_of_getElem? (i := 9) rfl)
theorem tw30_10 : Cond.selects RX1 yX1_origins yX1_origins ∈ lw_tbl := tb3 (List.mem_of_getElem? (i := 109) rfl)
theorem mw30_10 : Cond.selects RX1 yX1_origins yX1_origins ∈ wsL_law := inr30 (List.mem_of_getElem? (i := 10) rfl)
theorem tw30_11 : Cond.code yX1_origins cX1_origins 5 (some .int) ∈ lw_tbl := tb3 (List.mem_of_getElem? (i := 110) rfl)
theorem mw30_11 : Cond.code yX1_origins cX1_origins 5 (some .int) ∈ wsL_law := inr30 (List.mem_of_getElem? (i := 11) rfl)
theorem tw30_12 : Cond.fieldLink RX1 19 "TallowHours$Party" "moments" "I" ∈ lw_tbl := tb1 (List.mem_of_getElem? (i := 202) rfl)
theorem mw30_12 : Cond.fieldLink RX1 19 "TallowHours$Party" "moments" "I" ∈ wsL_law := inr30 (List.mem_of_getElem? (i := 12) rfl)
theorem tw30_13 : Cond.methodLink RX1 24 yX1_canBeFrom ∈ lw_tbl := tb3 (List.mem_of_getElem? (i := 111) rfl)
theorem mw30_13 : Cond.methodLink RX1 24 yX1_canBeFrom ∈ wsL_law := inr30 (List.mem_of_getElem? (i := 13) rfl)
theorem tw30_14 : Cond.instanceMethod yX1_canBeFrom ∈ lw_tbl := tb3 (List.mem_of_getElem? (i := 113) rfl)
theorem mw30_14 : Cond.instanceMethod yX1_canBeFrom ∈ wsL_law := inr30 (List.mem_of_getElem? (i := 14) rfl)
theorem tw30_15 : Cond.selects RX1 yX1_canBeFrom yX1_canBeFrom ∈ lw_tbl := List.mem_append_left _ (List.mem_of_getElem? (i := 18) rfl)
theorem mw30_15 : Cond.selects RX1 yX1_canBeFrom yX1_canBeFrom ∈ wsL_law := inr30 (List.mem_of_getElem? (i := 15) rfl)
theorem tw30_16 : Cond.code yX1_canBeFrom cX1_canBeFrom 4 (some .boolean) ∈ lw_tbl := tb3 (List.mem_of_getElem? (i := 114) rfl)
theorem mw30_16 : Cond.code yX1_canBeFrom cX1_canBeFrom 4 (some .boolean) ∈ wsL_law := inr30 (List.mem_of_getElem? (i := 16) rfl)
theorem tw30_17 : Cond.methodLink RX1 28 yX3_giftAt ∈ lw_tbl := tb3 (List.mem_of_getElem? (i := 115) rfl)
theorem mw30_17 : Cond.methodLink RX1 28 yX3_giftAt ∈ wsL_law := inr30 (List.mem_of_getElem? (i := 17) rfl)
theorem tw30_18 : Cond.methodLink RL 109 yX8_from ∈ lw_tbl := tb4 (List.mem_of_getElem? (i := 228) rfl)
theorem mw30_18 : Cond.methodLink RL 109 yX8_from ∈ wsL_law := inr30 (List.mem_of_getElem? (i := 18) rfl)
theorem tw30_19 : Cond.instanceMethod yX8_from ∈ lw_tbl := tb4 (List.mem_of_getElem? (i := 229) rfl)
theorem mw30_19 : Cond.instanceMethod yX8_from ∈ wsL_law := inr30 (List.mem_of_getElem? (i := 19) rfl)
theorem tw30_20 : Cond.selects RX8 yX8_from yX8_from ∈ lw_tbl := tb4 (List.mem_of_getElem? (i := 230) rfl)
theorem mw30_20 : Cond.selects RX8 yX8_from yX8_from ∈ wsL_law := inr30 (List.mem_of_getElem? (i := 20) rfl)
theorem tw30_21 : Cond.code yX8_from cX8_from 2 (some .int) ∈ lw_tbl := tb4 (List.mem_of_getElem? (i := 231) rfl)
theorem mw30_21 : Cond.code yX8_from cX8_from 2 (some .int) ∈ wsL_law := inr30 (List.mem_of_getElem? (i := 21) rfl)
theorem tw30_22 : Cond.constantLong RX8 213 (6) ∈ lw_tbl := tb4 (List.mem_of_getElem? (i := 232) rfl)
theorem mw30_22 : Cond.constantLong RX8 213 (6) ∈ wsL_law := inr30 (List.mem_of_getElem? (i := 22) rfl)
theorem tw30_23 : Cond.methodLink RX8 215 yX8_fromOf ∈ lw_tbl := tb4 (List.mem_of_getElem? (i := 233) rfl)
theorem mw30_23 : Cond.methodLink RX8 215 yX8_fromOf ∈ wsL_law := inr30 (List.mem_of_getElem? (i := 23) rfl)
theorem gdr30 : GoodIn lw_tbl wsL_law_r30 := List.forall_mem_cons.mpr ⟨⟨tw30_0, Or.inl rfl⟩, List.forall_mem_cons.mpr ⟨⟨tw30_1, Or.inl rfl⟩, List.forall_mem_cons.mpr ⟨⟨tw30_2, Or.inl rfl⟩, List.forall_mem_cons.mpr ⟨⟨tw30_3, Or.inl rfl⟩, List.forall_mem_cons.mpr ⟨⟨tw30_4, Or.inl rfl⟩, List.forall_mem_cons.mpr ⟨⟨tw30_5, Or.inl rfl⟩, List.forall_mem_cons.mpr ⟨⟨tw30_6, Or.inl rfl⟩, List.forall_mem_cons.mpr ⟨⟨tw30_7, Or.inl rfl⟩, List.forall_mem_cons.mpr ⟨⟨tw30_8, Or.inl rfl⟩, List.forall_mem_cons.mpr ⟨⟨tw30_9, Or.inl rfl⟩, List.forall_mem_cons.mpr ⟨⟨tw30_10, Or.inl rfl⟩, List.forall_mem_cons.mpr ⟨⟨tw30_11, Or.inl rfl⟩, List.forall_mem_cons.mpr ⟨⟨tw30_12, Or.inl rfl⟩, List.forall_mem_cons.mpr ⟨⟨tw30_13, Or.inl rfl⟩, List.forall_mem_cons.mpr ⟨⟨tw30_14, Or.inl rfl⟩, List.forall_mem_cons.mpr ⟨⟨tw30_15, Or.inl rfl⟩, List.forall_mem_cons.mpr ⟨⟨tw30_16, Or.inl rfl⟩, List.forall_mem_cons.mpr ⟨⟨tw30_17, Or.inl rfl⟩, List.forall_mem_cons.mpr ⟨⟨tw30_18, Or.inl rfl⟩, List.forall_mem_cons.mpr ⟨⟨tw30_19, Or.inl rfl⟩, List.forall_mem_cons.mpr ⟨⟨tw30_20, Or.inl rfl⟩, List.forall_mem_cons.mpr ⟨⟨tw30_21, Or.inl rfl⟩, List.forall_mem_cons.mpr ⟨⟨tw30_22, Or.inl rfl⟩, List.forall_mem_cons.mpr ⟨⟨tw30_23, Or.inl rfl⟩, fun _ h => absurd h List.not_mem_nil⟩⟩⟩⟩⟩⟩⟩⟩⟩⟩⟩⟩⟩⟩⟩⟩⟩⟩⟩⟩⟩⟩⟩⟩
theorem tw31_0 : Cond.instanceMethod yX8_fromOf ∈ lw_tbl := tb4 (List.mem_of_getElem? (i := 235) rfl)
theorem mw31_0 : Cond.instanceMethod yX8_fromOf ∈ wsL_law := inr31 (List.mem_of_getElem? (i := 0) rfl)
theorem tw31_1 : Cond.selects RX8 yX8_fromOf yX8_fromOf ∈ lw_tbl := List.mem_append_left _ (List.mem_of_getElem? (i := 37) rfl)
theorem mw31_1 : Cond.selects RX8 yX8_fromOf yX8_fromOf ∈ wsL_law := inr31 (List.mem_of_getElem? (i := 1) rfl)
theorem tw31_2 : Cond.code yX8_fromOf cX8_fromOf 6 (some .int) ∈ lw_tbl := tb4 (List.mem_of_getElem? (i := 236) rfl)
theorem mw31_2 : Cond.code yX8_fromOf cX8_fromOf 6 (some .int) ∈ wsL_law := inr31 (List.mem_of_getElem? (i := 2) rfl)
theorem tw31_3 : Cond.methodLink RL 110 yX7_next ∈ lw_tbl := tb3 (List.mem_of_getElem? (i := 116) rfl)
theorem mw31_3 : Cond.methodLink RL 110 yX7_next ∈ wsL_law := inr31 (List.mem_of_getElem? (i := 3) rfl)
theorem tw31_4 : Cond.instanceMethod yX7_next ∈ lw_tbl := tb3 (List.mem_of_getElem? (i := 117) rfl)
theorem mw31_4 : Cond.instanceMethod yX7_next ∈ wsL_law := inr31 (List.mem_of_getElem? (i := 4) rfl)
theorem tw31_5 : Cond.selects RX7 yX7_next yX7_next ∈ lw_tbl := tb3 (List.mem_of_getElem? (i := 118) rfl)
theorem mw31_5 : Cond.selects RX7 yX7_next yX7_next ∈ wsL_law := inr31 (List.mem_of_getElem? (i := 5) rfl)
theorem tw31_6 : Cond.code yX7_next cX7_next 7 (some .int) ∈ lw_tbl := tb3 (List.mem_of_getElem? (i := 119) rfl)
theorem mw31_6 : Cond.code yX7_next cX7_next 7 (some .int) ∈ wsL_law := inr31 (List.mem_of_getElem? (i := 6) rfl)
theorem tw31_7 : Cond.fieldLink RX7 260 "TallowHours$Box" "size" "I" ∈ lw_tbl := tb1 (List.mem_of_getElem? (i := 144) rfl)
theorem mw31_7 : Cond.fieldLink RX7 260 "TallowHours$Box" "size" "I" ∈ wsL_law := inr31 (List.mem_of_getElem? (i := 7) rfl)
theorem tw31_8 : Cond.methodLink RL 113 yX8_next ∈ lw_tbl := tb4 (List.mem_of_getElem? (i := 237) rfl)
theorem mw31_8 : Cond.methodLink RL 113 yX8_next ∈ wsL_law := inr31 (List.mem_of_getElem? (i := 8) rfl)
theorem tw31_9 : Cond.instanceMethod yX8_next ∈ lw_tbl := tb4 (List.mem_of_getElem? (i := 238) rfl)
theorem mw31_9 : Cond.instanceMethod yX8_next ∈ wsL_law := inr31 (List.mem_of_getElem? (i := 9) rfl)
theorem tw31_10 : Cond.selects RX8 yX8_next yX8_next ∈ lw_tbl := tb4 (List.mem_of_getElem? (i := 239) rfl)
theorem mw31_10 : Cond.selects RX8 yX8_next yX8_next ∈ wsL_law := inr31 (List.mem_of_getElem? (i := 10) rfl)
theorem tw31_11 : Cond.code yX8_next cX8_next 8 (some .int) ∈ lw_tbl := tb5 (List.mem_of_getElem? (i := 0) rfl)
theorem mw31_11 : Cond.code yX8_next cX8_next 8 (some .int) ∈ wsL_law := inr31 (List.mem_of_getElem? (i := 11) rfl)
theorem tw31_12 : Cond.methodLink RL 114 yX7_cut ∈ lw_tbl := tb3 (List.mem_of_getElem? (i := 120) rfl)
theorem mw31_12 : Cond.methodLink RL 114 yX7_cut ∈ wsL_law := inr31 (List.mem_of_getElem? (i := 12) rfl)
theorem tw31_13 : Cond.instanceMethod yX7_cut ∈ lw_tbl := tb3 (List.mem_of_getElem? (i := 121) rfl)
theorem mw31_13 : Cond.instanceMethod yX7_cut ∈ wsL_law := inr31 (List.mem_of_getElem? (i := 13) rfl)
theorem tw31_14 : Cond.selects RX7 yX7_cut yX7_cut ∈ lw_tbl := tb3 (List.mem_of_getElem? (i := 122) rfl)
theorem mw31_14 : Cond.selects RX7 yX7_cut yX7_cut ∈ wsL_law := inr31 (List.mem_of_getElem? (i := 14) rfl)
theorem tw31_15 : Cond.code yX7_cut cX7_cut 7 (some .int) ∈ lw_tbl := tb3 (List.mem_of_getElem? (i := 123) rfl)
theorem mw31_15 : Cond.code yX7_cut cX7_cut 7 (some .int) ∈ wsL_law := inr31 (List.mem_of_getElem? (i := 15) rfl)
theorem tw31_16 : Cond.methodLink RX7 261 yX5_fewest ∈ lw_tbl := tb3 (List.mem_of_getElem? (i := 124) rfl)
theorem mw31_16 : Cond.methodLink RX7 261 yX5_fewest ∈ wsL_law := inr31 (List.mem_of_getElem? (i := 16) rfl)
theorem tw31_17 : Cond.instanceMethod yX5_fewest ∈ lw_tbl := tb3 (List.mem_of_getElem? (i := 125) rfl)
theorem mw31_17 : Cond.instanceMethod yX5_fewest ∈ wsL_law := inr31 (List.mem_of_getElem? (i := 17) rfl)
theorem tw31_18 : Cond.selects RX5 yX5_fewest yX5_fewest ∈ lw_tbl := tb3 (List.mem_of_getElem? (i := 126) rfl)
theorem mw31_18 : Cond.selects RX5 yX5_fewest yX5_fewest ∈ wsL_law := inr31 (List.mem_of_getElem? (i := 18) rfl)
theorem tw31_19 : Cond.code yX5_fewest cX5_fewest 8 (some .int) ∈ lw_tbl := tb3 (List.mem_of_getElem? (i := 127) rfl)
theorem mw31_19 : Cond.code yX5_fewest cX5_fewest 8 (some .int) ∈ wsL_law := inr31 (List.mem_of_getElem? (i := 19) rfl)
theorem tw31_20 : Cond.constant RX5 15 (1000000) ∈ lw_tbl := tb3 (List.mem_of_getElem? (i := 128) rfl)
theorem mw31_20 : Cond.constant RX5 15 (1000000) ∈ wsL_law := inr31 (List.mem_of_getElem? (i := 20) rfl)
theorem tw31_21 : Cond.methodLink RX5 23 Lib.Math.min.name ∈ lw_tbl := tb3 (List.mem_of_getElem? (i := 133) rfl)
theorem mw31_21 : Cond.methodLink RX5 23 Lib.Math.min.name ∈ wsL_law := inr31 (List.mem_of_getElem? (i := 21) rfl)
theorem tw31_22 : Cond.methodLink RX5 20 yX5_withOrder ∈ lw_tbl := tb3 (List.mem_of_getElem? (i := 130) rfl)
theorem mw31_22 : Cond.methodLink RX5 20 yX5_withOrder ∈ wsL_law := inr31 (List.mem_of_getElem? (i := 22) rfl)
theorem tw31_23 : Cond.static yX5_withOrder ∈ lw_tbl := tb3 (List.mem_of_getElem? (i := 131) rfl)
theorem mw31_23 : Cond.static yX5_withOrder ∈ wsL_law := inr31 (List.mem_of_getElem? (i := 23) rfl)
theorem gdr31 : GoodIn lw_tbl wsL_law_r31 := List.forall_mem_cons.mpr ⟨⟨tw31_0, Or.inl rfl⟩, List.forall_mem_cons.mpr ⟨⟨tw31_1, Or.inl rfl⟩, List.forall_mem_cons.mpr ⟨⟨tw31_2, Or.inl rfl⟩, List.forall_mem_cons.mpr ⟨⟨tw31_3, Or.inl rfl⟩, List.forall_mem_cons.mpr ⟨⟨tw31_4, Or.inl rfl⟩, List.forall_mem_cons.mpr ⟨⟨tw31_5, Or.inl rfl⟩, List.forall_mem_cons.mpr ⟨⟨tw31_6, Or.inl rfl⟩, List.forall_mem_cons.mpr ⟨⟨tw31_7, Or.inl rfl⟩, List.forall_mem_cons.mpr ⟨⟨tw31_8, Or.inl rfl⟩, List.forall_mem_cons.mpr ⟨⟨tw31_9, Or.inl rfl⟩, List.forall_mem_cons.mpr ⟨⟨tw31_10, Or.inl rfl⟩, List.forall_mem_cons.mpr ⟨⟨tw31_11, Or.inl rfl⟩, List.forall_mem_cons.mpr ⟨⟨tw31_12, Or.inl rfl⟩, List.forall_mem_cons.mpr ⟨⟨tw31_13, Or.inl rfl⟩, List.forall_mem_cons.mpr ⟨⟨tw31_14, Or.inl rfl⟩, List.forall_mem_cons.mpr ⟨⟨tw31_15, Or.inl rfl⟩, List.forall_mem_cons.mpr ⟨⟨tw31_16, Or.inl rfl⟩, List.forall_mem_cons.mpr ⟨⟨tw31_17, Or.inl rfl⟩, List.forall_mem_cons.mpr ⟨⟨tw31_18, Or.inl rfl⟩, List.forall_mem_cons.mpr ⟨⟨tw31_19, Or.inl rfl⟩, List.forall_mem_cons.mpr ⟨⟨tw31_20, Or.inl rfl⟩, List.forall_mem_cons.mpr ⟨⟨tw31_21, Or.inl rfl⟩, List.forall_mem_cons.mpr ⟨⟨tw31_22, Or.inl rfl⟩, List.forall_mem_cons.mpr ⟨⟨tw31_23, Or.inl rfl⟩, fun _ h => absurd h List.not_mem_nil⟩⟩⟩⟩⟩⟩⟩⟩⟩⟩⟩⟩⟩⟩⟩⟩⟩⟩⟩⟩⟩⟩⟩⟩
theorem tw32_0 : Cond.code yX5_withOrder cX5_withOrder 4 (some .int) ∈ lw_tbl := tb3 (List.mem_of_getElem? (i := 132) rfl)
theorem mw32_0 : Cond.code yX5_withOrder cX5_withOrder 4 (some .int) ∈ wsL_law := inr32 (List.mem_of_getElem? (i := 0) rfl)
theorem tw32_1 : Cond.methodLink RL 118 yX8_cut ∈ lw_tbl := tb5 (List.mem_of_getElem? (i := 1) rfl)
theorem mw32_1 : Cond.methodLink RL 118 yX8_cut ∈ wsL_law := inr32 (List.mem_of_getElem? (i := 1) rfl)
theorem tw32_2 : Cond.instanceMethod yX8_cut ∈ lw_tbl := tb5 (List.mem_of_getElem? (i := 2) rfl)
theorem mw32_2 : Cond.instanceMethod yX8_cut ∈ wsL_law := inr32 (List.mem_of_getElem? (i := 2) rfl)
theorem tw32_3 : Cond.selects RX8 yX8_cut yX8_cut ∈ lw_tbl := tb5 (List.mem_of_getElem? (i := 3) rfl)
theorem mw32_3 : Cond.selects RX8 yX8_cut yX8_cut ∈ wsL_law := inr32 (List.mem_of_getElem? (i := 3) rfl)
theorem tw32_4 : Cond.code yX8_cut cX8_cut 7 (some .int) ∈ lw_tbl := tb5 (List.mem_of_getElem? (i := 4) rfl)
theorem mw32_4 : Cond.code yX8_cut cX8_cut 7 (some .int) ∈ wsL_law := inr32 (List.mem_of_getElem? (i := 4) rfl)
theorem tw32_5 : Cond.constantLong RX8 218 (30) ∈ lw_tbl := tb5 (List.mem_of_getElem? (i := 5) rfl)
theorem mw32_5 : Cond.constantLong RX8 218 (30) ∈ wsL_law := inr32 (List.mem_of_getElem? (i := 5) rfl)
theorem tw32_6 : Cond.methodLink RX8 220 yX8_sum ∈ lw_tbl := tb5 (List.mem_of_getElem? (i := 6) rfl)
theorem mw32_6 : Cond.methodLink RX8 220 yX8_sum ∈ wsL_law := inr32 (List.mem_of_getElem? (i := 6) rfl)
theorem tw32_7 : Cond.static yX8_sum ∈ lw_tbl := tb5 (List.mem_of_getElem? (i := 7) rfl)
theorem mw32_7 : Cond.static yX8_sum ∈ wsL_law := inr32 (List.mem_of_getElem? (i := 7) rfl)
theorem tw32_8 : Cond.code yX8_sum cX8_sum 5 (some .int) ∈ lw_tbl := tb5 (List.mem_of_getElem? (i := 8) rfl)
theorem mw32_8 : Cond.code yX8_sum cX8_sum 5 (some .int) ∈ wsL_law := inr32 (List.mem_of_getElem? (i := 8) rfl)
theorem tw32_9 : Cond.methodLink RL 119 yX7_draught ∈ lw_tbl := tb3 (List.mem_of_getElem? (i := 134) rfl)
theorem mw32_9 : Cond.methodLink RL 119 yX7_draught ∈ wsL_law := inr32 (List.mem_of_getElem? (i := 9) rfl)
theorem tw32_10 : Cond.instanceMethod yX7_draught ∈ lw_tbl := tb3 (List.mem_of_getElem? (i := 135) rfl)
theorem mw32_10 : Cond.instanceMethod yX7_draught ∈ wsL_law := inr32 (List.mem_of_getElem? (i := 10) rfl)
theorem tw32_11 : Cond.selects RX7 yX7_draught yX7_draught ∈ lw_tbl := tb3 (List.mem_of_getElem? (i := 136) rfl)
theorem mw32_11 : Cond.selects RX7 yX7_draught yX7_draught ∈ wsL_law := inr32 (List.mem_of_getElem? (i := 11) rfl)
theorem tw32_12 : Cond.code yX7_draught cX7_draught 8 (some .int) ∈ lw_tbl := tb3 (List.mem_of_getElem? (i := 137) rfl)
theorem mw32_12 : Cond.code yX7_draught cX7_draught 8 (some .int) ∈ wsL_law := inr32 (List.mem_of_getElem? (i := 12) rfl)
theorem tw32_13 : Cond.methodLink RL 123 yX8_draught ∈ lw_tbl := tb5 (List.mem_of_getElem? (i := 9) rfl)
theorem mw32_13 : Cond.methodLink RL 123 yX8_draught ∈ wsL_law := inr32 (List.mem_of_getElem? (i := 13) rfl)
theorem tw32_14 : Cond.instanceMethod yX8_draught ∈ lw_tbl := tb5 (List.mem_of_getElem? (i := 10) rfl)
theorem mw32_14 : Cond.instanceMethod yX8_draught ∈ wsL_law := inr32 (List.mem_of_getElem? (i := 14) rfl)
theorem tw32_15 : Cond.selects RX8 yX8_draught yX8_draught ∈ lw_tbl := tb5 (List.mem_of_getElem? (i := 11) rfl)
theorem mw32_15 : Cond.selects RX8 yX8_draught yX8_draught ∈ wsL_law := inr32 (List.mem_of_getElem? (i := 15) rfl)
theorem tw32_16 : Cond.code yX8_draught cX8_draught 8 (some .int) ∈ lw_tbl := tb5 (List.mem_of_getElem? (i := 12) rfl)
theorem mw32_16 : Cond.code yX8_draught cX8_draught 8 (some .int) ∈ wsL_law := inr32 (List.mem_of_getElem? (i := 16) rfl)
theorem tw32_17 : Cond.constantLong RX8 223 (10) ∈ lw_tbl := tb5 (List.mem_of_getElem? (i := 13) rfl)
theorem mw32_17 : Cond.constantLong RX8 223 (10) ∈ wsL_law := inr32 (List.mem_of_getElem? (i := 17) rfl)
theorem tw32_18 : Cond.methodLink RL 126 yX7_seed ∈ lw_tbl := tb3 (List.mem_of_getElem? (i := 138) rfl)
theorem mw32_18 : Cond.methodLink RL 126 yX7_seed ∈ wsL_law := inr32 (List.mem_of_getElem? (i := 18) rfl)
theorem tw32_19 : Cond.instanceMethod yX7_seed ∈ lw_tbl := tb3 (List.mem_of_getElem? (i := 139) rfl)
theorem mw32_19 : Cond.instanceMethod yX7_seed ∈ wsL_law := inr32 (List.mem_of_getElem? (i := 19) rfl)
theorem tw32_20 : Cond.selects RX7 yX7_seed yX7_seed ∈ lw_tbl := tb3 (List.mem_of_getElem? (i := 140) rfl)
theorem mw32_20 : Cond.selects RX7 yX7_seed yX7_seed ∈ wsL_law := inr32 (List.mem_of_getElem? (i := 20) rfl)
theorem tw32_21 : Cond.code yX7_seed cX7_seed 5 (some .long) ∈ lw_tbl := tb3 (List.mem_of_getElem? (i := 141) rfl)
theorem mw32_21 : Cond.code yX7_seed cX7_seed 5 (some .long) ∈ wsL_law := inr32 (List.mem_of_getElem? (i := 21) rfl)
theorem tw32_22 : Cond.methodLink RL 130 yX8_seed ∈ lw_tbl := tb5 (List.mem_of_getElem? (i := 14) rfl)
theorem mw32_22 : Cond.methodLink RL 130 yX8_seed ∈ wsL_law := inr32 (List.mem_of_getElem? (i := 22) rfl)
theorem tw32_23 : Cond.instanceMethod yX8_seed ∈ lw_tbl := tb5 (List.mem_of_getElem? (i := 15) rfl)
theorem mw32_23 : Cond.instanceMethod yX8_seed ∈ wsL_law := inr32 (List.mem_of_getElem? (i := 23) rfl)
theorem gdr32 : GoodIn lw_tbl wsL_law_r32 := List.forall_mem_cons.mpr ⟨⟨tw32_0, Or.inl rfl⟩, List.forall_mem_cons.mpr ⟨⟨tw32_1, Or.inl rfl⟩, List.forall_mem_cons.mpr ⟨⟨tw32_2, Or.inl rfl⟩, List.forall_mem_cons.mpr ⟨⟨tw32_3, Or.inl rfl⟩, List.forall_mem_cons.mpr ⟨⟨tw32_4, Or.inl rfl⟩, List.forall_mem_cons.mpr ⟨⟨tw32_5, Or.inl rfl⟩, List.forall_mem_cons.mpr ⟨⟨tw32_6, Or.inl rfl⟩, List.forall_mem_cons.mpr ⟨⟨tw32_7, Or.inl rfl⟩, List.forall_mem_cons.mpr ⟨⟨tw32_8, Or.inl rfl⟩, List.forall_mem_cons.mpr ⟨⟨tw32_9, Or.inl rfl⟩, List.forall_mem_cons.mpr ⟨⟨tw32_10, Or.inl rfl⟩, List.forall_mem_cons.mpr ⟨⟨tw32_11, Or.inl rfl⟩, List.forall_mem_cons.mpr ⟨⟨tw32_12, Or.inl rfl⟩, List.forall_mem_cons.mpr ⟨⟨tw32_13, Or.inl rfl⟩, List.forall_mem_cons.mpr ⟨⟨tw32_14, Or.inl rfl⟩, List.forall_mem_cons.mpr ⟨⟨tw32_15, Or.inl rfl⟩, List.forall_mem_cons.mpr ⟨⟨tw32_16, Or.inl rfl⟩, List.forall_mem_cons.mpr ⟨⟨tw32_17, Or.inl rfl⟩, List.forall_mem_cons.mpr ⟨⟨tw32_18, Or.inl rfl⟩, List.forall_mem_cons.mpr ⟨⟨tw32_19, Or.inl rfl⟩, List.forall_mem_cons.mpr ⟨⟨tw32_20, Or.inl rfl⟩, List.forall_mem_cons.mpr ⟨⟨tw32_21, Or.inl rfl⟩, List.forall_mem_cons.mpr ⟨⟨tw32_22, Or.inl rfl⟩, List.forall_mem_cons.mpr ⟨⟨tw32_23, Or.inl rfl⟩, fun _ h => absurd h List.not_mem_nil⟩⟩⟩⟩⟩⟩⟩⟩⟩⟩⟩⟩⟩⟩⟩⟩⟩⟩⟩⟩⟩⟩⟩⟩
theorem tw33_0 : Cond.selects RX8 yX8_seed yX8_seed ∈ lw_tbl := tb5 (List.mem_of_getElem? (i := 16) rfl)
theorem mw33_0 : Cond.selects RX8 yX8_seed yX8_seed ∈ wsL_law := inr33 (List.mem_of_getElem? (i := 0) rfl)
theorem tw33_1 : Cond.code yX8_seed cX8_seed 5 (some .long) ∈ lw_tbl := tb5 (List.mem_of_getElem? (i := 17) rfl)
theorem mw33_1 : Cond.code yX8_seed cX8_seed 5 (some .long) ∈ wsL_law := inr33 (List.mem_of_getElem? (i := 1) rfl)
theorem tw33_2 : Cond.fieldLink RX8 225 "TallowHoursModel" "seed" "J" ∈ lw_tbl := tb3 (List.mem_of_getElem? (i := 205) rfl)
theorem mw33_2 : Cond.fieldLink RX8 225 "TallowHoursModel" "seed" "J" ∈ wsL_law := inr33 (List.mem_of_getElem? (i := 2) rfl)
theorem tw33_3 : Cond.methodLink RL 131 yX7_night ∈ lw_tbl := tb3 (List.mem_of_getElem? (i := 142) rfl)
theorem mw33_3 : Cond.methodLink RL 131 yX7_night ∈ wsL_law := inr33 (List.mem_of_getElem? (i := 3) rfl)
theorem tw33_4 : Cond.instanceMethod yX7_night ∈ lw_tbl := tb3 (List.mem_of_getElem? (i := 143) rfl)
theorem mw33_4 : Cond.instanceMethod yX7_night ∈ wsL_law := inr33 (List.mem_of_getElem? (i := 4) rfl)
theorem tw33_5 : Cond.selects RX7 yX7_night yX7_night ∈ lw_tbl := tb3 (List.mem_of_getElem? (i := 144) rfl)
theorem mw33_5 : Cond.selects RX7 yX7_night yX7_night ∈ wsL_law := inr33 (List.mem_of_getElem? (i := 5) rfl)
theorem tw33_6 : Cond.code yX7_night cX7_night 4 (some .int) ∈ lw_tbl := tb3 (List.mem_of_getElem? (i := 145) rfl)
theorem mw33_6 : Cond.code yX7_night cX7_night 4 (some .int) ∈ wsL_law := inr33 (List.mem_of_getElem? (i := 6) rfl)
theorem tw33_7 : Cond.constantLong RX7 264 (6364136223846793005) ∈ lw_tbl := tb3 (List.mem_of_getElem? (i := 146) rfl)
theorem mw33_7 : Cond.constantLong RX7 264 (6364136223846793005) ∈ wsL_law := inr33 (List.mem_of_getElem? (i := 7) rfl)
theorem tw33_8 : Cond.constantLong RX7 266 (1442695040888963407) ∈ lw_tbl := tb3 (List.mem_of_getElem? (i := 147) rfl)
theorem mw33_8 : Cond.constantLong RX7 266 (1442695040888963407) ∈ wsL_law := inr33 (List.mem_of_getElem? (i := 8) rfl)
theorem tw33_9 : Cond.constantLong RX7 268 (4) ∈ lw_tbl := tb3 (List.mem_of_getElem? (i := 148) rfl)
theorem mw33_9 : Cond.constantLong RX7 268 (4) ∈ wsL_law := inr33 (List.mem_of_getElem? (i := 9) rfl)
theorem tw33_10 : Cond.methodLink RL 134 yX8_night ∈ lw_tbl := tb5 (List.mem_of_getElem? (i := 18) rfl)
theorem mw33_10 : Cond.methodLink RL 134 yX8_night ∈ wsL_law := inr33 (List.mem_of_getElem? (i := 10) rfl)
theorem tw33_11 : Cond.instanceMethod yX8_night ∈ lw_tbl := tb5 (List.mem_of_getElem? (i := 19) rfl)
theorem mw33_11 : Cond.instanceMethod yX8_night ∈ wsL_law := inr33 (List.mem_of_getElem? (i := 11) rfl)
theorem tw33_12 : Cond.selects RX8 yX8_night yX8_night ∈ lw_tbl := tb5 (List.mem_of_getElem? (i := 20) rfl)
theorem mw33_12 : Cond.selects RX8 yX8_night yX8_night ∈ wsL_law := inr33 (List.mem_of_getElem? (i := 12) rfl)
theorem tw33_13 : Cond.code yX8_night cX8_night 4 (some .int) ∈ lw_tbl := tb5 (List.mem_of_getElem? (i := 21) rfl)
theorem mw33_13 : Cond.code yX8_night cX8_night 4 (some .int) ∈ wsL_law := inr33 (List.mem_of_getElem? (i := 13) rfl)
theorem tw33_14 : Cond.constantLong RX8 229 (20) ∈ lw_tbl := tb5 (List.mem_of_getElem? (i := 22) rfl)
theorem mw33_14 : Cond.constantLong RX8 229 (20) ∈ wsL_law := inr33 (List.mem_of_getElem? (i := 14) rfl)
theorem tw33_15 : Cond.constantLong RX8 231 (6364136223846793005) ∈ lw_tbl := tb5 (List.mem_of_getElem? (i := 23) rfl)
theorem mw33_15 : Cond.constantLong RX8 231 (6364136223846793005) ∈ wsL_law := inr33 (List.mem_of_getElem? (i := 15) rfl)
theorem tw33_16 : Cond.constantLong RX8 233 (1442695040888963407) ∈ lw_tbl := tb5 (List.mem_of_getElem? (i := 24) rfl)
theorem mw33_16 : Cond.constantLong RX8 233 (1442695040888963407) ∈ wsL_law := inr33 (List.mem_of_getElem? (i := 16) rfl)
theorem tw33_17 : Cond.methodLink RL 135 yX7_keep ∈ lw_tbl := tb3 (List.mem_of_getElem? (i := 149) rfl)
theorem mw33_17 : Cond.methodLink RL 135 yX7_keep ∈ wsL_law := inr33 (List.mem_of_getElem? (i := 17) rfl)
theorem tw33_18 : Cond.instanceMethod yX7_keep ∈ lw_tbl := tb3 (List.mem_of_getElem? (i := 150) rfl)
theorem mw33_18 : Cond.instanceMethod yX7_keep ∈ wsL_law := inr33 (List.mem_of_getElem? (i := 18) rfl)
theorem tw33_19 : Cond.selects RX7 yX7_keep yX7_keep ∈ lw_tbl := tb3 (List.mem_of_getElem? (i := 151) rfl)
theorem mw33_19 : Cond.selects RX7 yX7_keep yX7_keep ∈ wsL_law := inr33 (List.mem_of_getElem? (i := 19) rfl)
theorem tw33_20 : Cond.code yX7_keep cX7_keep 2 (some .int) ∈ lw_tbl := tb3 (List.mem_of_getElem? (i := 152) rfl)
theorem mw33_20 : Cond.code yX7_keep cX7_keep 2 (some .int) ∈ wsL_law := inr33 (List.mem_of_getElem? (i := 20) rfl)
theorem tw33_21 : Cond.methodLink RX7 270 yX2_saveTo ∈ lw_tbl := tb3 (List.mem_of_getElem? (i := 153) rfl)
theorem mw33_21 : Cond.methodLink RX7 270 yX2_saveTo ∈ wsL_law := inr33 (List.mem_of_getElem? (i := 21) rfl)
theorem tw33_22 : Cond.methodLink RL 138 yX8_keep ∈ lw_tbl := tb5 (List.mem_of_getElem? (i := 25) rfl)
theorem mw33_22 : Cond.methodLink RL 138 yX8_keep ∈ wsL_law := inr33 (List.mem_of_getElem? (i := 22) rfl)
theorem tw33_23 : Cond.instanceMethod yX8_keep ∈ lw_tbl := tb5 (List.mem_of_getElem? (i := 26) rfl)
theorem mw33_23 : Cond.instanceMethod yX8_keep ∈ wsL_law := inr33 (List.mem_of_getElem? (i := 23) rfl)
theorem gdr33 : GoodIn lw_tbl wsL_law_r33 := List.forall_mem_cons.mpr ⟨⟨tw33_0, Or.inl rfl⟩, List.forall_mem_cons.mpr ⟨⟨tw33_1, Or.inl rfl⟩, List.forall_mem_cons.mpr ⟨⟨tw33_2, Or.inl rfl⟩, List.forall_mem_cons.mpr ⟨⟨tw33_3, Or.inl rfl⟩, List.forall_mem_cons.mpr ⟨⟨tw33_4, Or.inl rfl⟩, List.forall_mem_cons.mpr ⟨⟨tw33_5, Or.inl rfl⟩, List.forall_mem_cons.mpr ⟨⟨tw33_6, Or.inl rfl⟩, List.forall_mem_cons.mpr ⟨⟨tw33_7, Or.inl rfl⟩, List.forall_mem_cons.mpr ⟨⟨tw33_8, Or.inl rfl⟩, List.forall_mem_cons.mpr ⟨⟨tw33_9, Or.inl rfl⟩, List.forall_mem_cons.mpr ⟨⟨tw33_10, Or.inl rfl⟩, List.forall_mem_cons.mpr ⟨⟨tw33_11, Or.inl rfl⟩, List.forall_mem_cons.mpr ⟨⟨tw33_12, Or.inl rfl⟩, List.forall_mem_cons.mpr ⟨⟨tw33_13, Or.inl rfl⟩, List.forall_mem_cons.mpr ⟨⟨tw33_14, Or.inl rfl⟩, List.forall_mem_cons.mpr ⟨⟨tw33_15, Or.inl rfl⟩, List.forall_mem_cons.mpr ⟨⟨tw33_16, Or.inl rfl⟩, List.forall_mem_cons.mpr ⟨⟨tw33_17, Or.inl rfl⟩, List.forall_mem_cons.mpr ⟨⟨tw33_18, Or.inl rfl⟩, List.forall_mem_cons.mpr ⟨⟨tw33_19, Or.inl rfl⟩, List.forall_mem_cons.mpr ⟨⟨tw33_20, Or.inl rfl⟩, List.forall_mem_cons.mpr ⟨⟨tw33_21, Or.inl rfl⟩, List.forall_mem_cons.mpr ⟨⟨tw33_22, Or.inl rfl⟩, List.forall_mem_cons.mpr ⟨⟨tw33_23, Or.inl rfl⟩, fun _ h => absurd h List.not_mem_nil⟩⟩⟩⟩⟩⟩⟩⟩⟩⟩⟩⟩⟩⟩⟩⟩⟩⟩⟩⟩⟩⟩⟩⟩
theorem tw34_0 : Cond.selects RX8 yX8_keep yX8_keep ∈ lw_tbl := tb5 (List.mem_of_getElem? (i := 27) rfl)
theorem mw34_0 : Cond.selects RX8 yX8_keep yX8_keep ∈ wsL_law := inr34 (List.mem_of_getElem? (i := 0) rfl)
theorem tw34_1 : Cond.code yX8_keep cX8_keep 3 (some .int) ∈ lw_tbl := tb5 (List.mem_of_getElem? (i := 28) rfl)
theorem mw34_1 : Cond.code yX8_keep cX8_keep 3 (some .int) ∈ wsL_law := inr34 (List.mem_of_getElem? (i := 1) rfl)
theorem tw34_2 : Cond.methodLink RL 139 yX7_again ∈ lw_tbl := tb3 (List.mem_of_getElem? (i := 154) rfl)
theorem mw34_2 : Cond.methodLink RL 139 yX7_again ∈ wsL_law := inr34 (List.mem_of_getElem? (i := 2) rfl)
theorem tw34_3 : Cond.instanceMethod yX7_again ∈ lw_tbl := tb3 (List.mem_of_getElem? (i := 155) rfl)
theorem mw34_3 : Cond.instanceMethod yX7_again ∈ wsL_law := inr34 (List.mem_of_getElem? (i := 3) rfl)
theorem tw34_4 : Cond.selects RX7 yX7_again yX7_again ∈ lw_tbl := tb3 (List.mem_of_getElem? (i := 156) rfl)
theorem mw34_4 : Cond.selects RX7 yX7_again yX7_again ∈ wsL_law := inr34 (List.mem_of_getElem? (i := 4) rfl)
theorem tw34_5 : Cond.code yX7_again cX7_again 2 (some .int) ∈ lw_tbl := tb3 (List.mem_of_getElem? (i := 157) rfl)
theorem mw34_5 : Cond.code yX7_again cX7_again 2 (some .int) ∈ wsL_law := inr34 (List.mem_of_getElem? (i := 5) rfl)
theorem tw34_6 : Cond.methodLink RX7 274 yX2_loadFrom ∈ lw_tbl := tb3 (List.mem_of_getElem? (i := 158) rfl)
theorem mw34_6 : Cond.methodLink RX7 274 yX2_loadFrom ∈ wsL_law := inr34 (List.mem_of_getElem? (i := 6) rfl)
theorem tw34_7 : Cond.methodLink RL 142 yX8_again ∈ lw_tbl := tb5 (List.mem_of_getElem? (i := 29) rfl)
theorem mw34_7 : Cond.methodLink RL 142 yX8_again ∈ wsL_law := inr34 (List.mem_of_getElem? (i := 7) rfl)
theorem tw34_8 : Cond.instanceMethod yX8_again ∈ lw_tbl := tb5 (List.mem_of_getElem? (i := 30) rfl)
theorem mw34_8 : Cond.instanceMethod yX8_again ∈ wsL_law := inr34 (List.mem_of_getElem? (i := 8) rfl)
theorem tw34_9 : Cond.selects RX8 yX8_again yX8_again ∈ lw_tbl := tb5 (List.mem_of_getElem? (i := 31) rfl)
theorem mw34_9 : Cond.selects RX8 yX8_again yX8_again ∈ wsL_law := inr34 (List.mem_of_getElem? (i := 9) rfl)
theorem tw34_10 : Cond.code yX8_again cX8_again 3 (some .int) ∈ lw_tbl := tb5 (List.mem_of_getElem? (i := 32) rfl)
theorem mw34_10 : Cond.code yX8_again cX8_again 3 (some .int) ∈ wsL_law := inr34 (List.mem_of_getElem? (i := 10) rfl)
theorem tw34_11 : Cond.methodLink RL 143 yX7_count ∈ lw_tbl := tb3 (List.mem_of_getElem? (i := 159) rfl)
theorem mw34_11 : Cond.methodLink RL 143 yX7_count ∈ wsL_law := inr34 (List.mem_of_getElem? (i := 11) rfl)
theorem tw34_12 : Cond.instanceMethod yX7_count ∈ lw_tbl := tb3 (List.mem_of_getElem? (i := 160) rfl)
theorem mw34_12 : Cond.instanceMethod yX7_count ∈ wsL_law := inr34 (List.mem_of_getElem? (i := 12) rfl)
theorem tw34_13 : Cond.selects RX7 yX7_count yX7_count ∈ lw_tbl := tb3 (List.mem_of_getElem? (i := 161) rfl)
theorem mw34_13 : Cond.selects RX7 yX7_count yX7_count ∈ wsL_law := inr34 (List.mem_of_getElem? (i := 13) rfl)
theorem tw34_14 : Cond.code yX7_count cX7_count 2 (some .int) ∈ lw_tbl := tb3 (List.mem_of_getElem? (i := 162) rfl)
theorem mw34_14 : Cond.code yX7_count cX7_count 2 (some .int) ∈ wsL_law := inr34 (List.mem_of_getElem? (i := 14) rfl)
theorem tw34_15 : Cond.fieldLink RX7 277 "TallowHours$Text" "length" "I" ∈ lw_tbl := tb1 (List.mem_of_getElem? (i := 30) rfl)
theorem mw34_15 : Cond.fieldLink RX7 277 "TallowHours$Text" "length" "I" ∈ wsL_law := inr34 (List.mem_of_getElem? (i := 15) rfl)
theorem tw34_16 : Cond.fieldLink RX7 283 "TallowHours$Burning" "cost" "I" ∈ lw_tbl := tb1 (List.mem_of_getElem? (i := 55) rfl)
theorem mw34_16 : Cond.fieldLink RX7 283 "TallowHours$Burning" "cost" "I" ∈ wsL_law := inr34 (List.mem_of_getElem? (i := 16) rfl)
theorem tw34_17 : Cond.methodLink RX7 280 yX2_contentGuests ∈ lw_tbl := tb3 (List.mem_of_getElem? (i := 163) rfl)
theorem mw34_17 : Cond.methodLink RX7 280 yX2_contentGuests ∈ wsL_law := inr34 (List.mem_of_getElem? (i := 17) rfl)
theorem tw34_18 : Cond.instanceMethod yX2_contentGuests ∈ lw_tbl := tb3 (List.mem_of_getElem? (i := 164) rfl)
theorem mw34_18 : Cond.instanceMethod yX2_contentGuests ∈ wsL_law := inr34 (List.mem_of_getElem? (i := 18) rfl)
theorem tw34_19 : Cond.selects RX2 yX2_contentGuests yX2_contentGuests ∈ lw_tbl := tb3 (List.mem_of_getElem? (i := 165) rfl)
theorem mw34_19 : Cond.selects RX2 yX2_contentGuests yX2_contentGuests ∈ wsL_law := inr34 (List.mem_of_getElem? (i := 19) rfl)
theorem tw34_20 : Cond.code yX2_contentGuests cX2_contentGuests 4 (some .int) ∈ lw_tbl := tb3 (List.mem_of_getElem? (i := 166) rfl)
theorem mw34_20 : Cond.code yX2_contentGuests cX2_contentGuests 4 (some .int) ∈ wsL_law := inr34 (List.mem_of_getElem? (i := 20) rfl)
theorem tw34_21 : Cond.methodLink RX2 79 yX2_isContent ∈ lw_tbl := tb3 (List.mem_of_getElem? (i := 167) rfl)
theorem mw34_21 : Cond.methodLink RX2 79 yX2_isContent ∈ wsL_law := inr34 (List.mem_of_getElem? (i := 21) rfl)
theorem tw34_22 : Cond.methodLink RL 146 yX8_count ∈ lw_tbl := tb5 (List.mem_of_getElem? (i := 33) rfl)
theorem mw34_22 : Cond.methodLink RL 146 yX8_count ∈ wsL_law := inr34 (List.mem_of_getElem? (i := 22) rfl)
theorem tw34_23 : Cond.instanceMethod yX8_count ∈ lw_tbl := tb5 (List.mem_of_getElem? (i := 34) rfl)
theorem mw34_23 : Cond.instanceMethod yX8_count ∈ wsL_law := inr34 (List.mem_of_getElem? (i := 23) rfl)
theorem gdr34 : GoodIn lw_tbl wsL_law_r34 := List.forall_mem_cons.mpr ⟨⟨tw34_0, Or.inl rfl⟩, List.forall_mem_cons.mpr ⟨⟨tw34_1, Or.inl rfl⟩, List.forall_mem_cons.mpr ⟨⟨tw34_2, Or.inl rfl⟩, List.forall_mem_cons.mpr ⟨⟨tw34_3, Or.inl rfl⟩, List.forall_mem_cons.mpr ⟨⟨tw34_4, Or.inl rfl⟩, List.forall_mem_cons.mpr ⟨⟨tw34_5, Or.inl rfl⟩, List.forall_mem_cons.mpr ⟨⟨tw34_6, Or.inl rfl⟩, List.forall_mem_cons.mpr ⟨⟨tw34_7, Or.inl rfl⟩, List.forall_mem_cons.mpr ⟨⟨tw34_8, Or.inl rfl⟩, List.forall_mem_cons.mpr ⟨⟨tw34_9, Or.inl rfl⟩, List.forall_mem_cons.mpr ⟨⟨tw34_10, Or.inl rfl⟩, List.forall_mem_cons.mpr ⟨⟨tw34_11, Or.inl rfl⟩, List.forall_mem_cons.mpr ⟨⟨tw34_12, Or.inl rfl⟩, List.forall_mem_cons.mpr ⟨⟨tw34_13, Or.inl rfl⟩, List.forall_mem_cons.mpr ⟨⟨tw34_14, Or.inl rfl⟩, List.forall_mem_cons.mpr ⟨⟨tw34_15, Or.inl rfl⟩, List.forall_mem_cons.mpr ⟨⟨tw34_16, Or.inl rfl⟩, List.forall_mem_cons.mpr ⟨⟨tw34_17, Or.inl rfl⟩, List.forall_mem_cons.mpr ⟨⟨tw34_18, Or.inl rfl⟩, List.forall_mem_cons.mpr ⟨⟨tw34_19, Or.inl rfl⟩, List.forall_mem_cons.mpr ⟨⟨tw34_20, Or.inl rfl⟩, List.forall_mem_cons.mpr ⟨⟨tw34_21, Or.inl rfl⟩, List.forall_mem_cons.mpr ⟨⟨tw34_22, Or.inl rfl⟩, List.forall_mem_cons.mpr ⟨⟨tw34_23, Or.inl rfl⟩, fun _ h => absurd h List.not_mem_nil⟩⟩⟩⟩⟩⟩⟩⟩⟩⟩⟩⟩⟩⟩⟩⟩⟩⟩⟩⟩⟩⟩⟩⟩
theorem tw35_0 : Cond.selects RX8 yX8_count yX8_count ∈ lw_tbl := tb5 (List.mem_of_getElem? (i := 35) rfl)
theorem mw35_0 : Cond.selects RX8 yX8_count yX8_count ∈ wsL_law := inr35 (List.mem_of_getElem? (i := 0) rfl)
theorem tw35_1 : Cond.code yX8_count cX8_count 5 (some .int) ∈ lw_tbl := tb5 (List.mem_of_getElem? (i := 36) rfl)
theorem mw35_1 : Cond.code yX8_count cX8_count 5 (some .int) ∈ wsL_law := inr35 (List.mem_of_getElem? (i := 1) rfl)
theorem gdr35 : GoodIn lw_tbl wsL_law_r35 := List.forall_mem_cons.mpr ⟨⟨tw35_0, Or.inl rfl⟩, List.forall_mem_cons.mpr ⟨⟨tw35_1, Or.inl rfl⟩, fun _ h => absurd h List.not_mem_nil⟩⟩
set_option maxRecDepth 20000 in
theorem gdf7 : GoodIn lw_tbl wsX70 := goodIn_r _ [288, 290, 292, 294, 296, 298, 300, 302, 304, 306, 308, 310] (by decide +kernel) (by decide +kernel)
set_option maxRecDepth 20000 in
theorem gdf8 : GoodIn lw_tbl wsX80 := goodIn_r _ [726, 728, 730, 732, 734, 736, 738, 740, 742, 744, 746, 748, 750, 752, 754, 756, 758, 760, 762, 764, 766, 768, 770, 772, 774, 776, 778, 780, 782, 784, 786, 788, 790, 792] (by decide +kernel) (by decide +kernel)
set_option maxRecDepth 20000 in
theorem gdf6 : GoodIn lw_tbl wsX60 := goodIn_r _ [69, 71] (by decide +kernel) (by decide +kernel)
set_option maxRecDepth 20000 in
theorem gdf2 : GoodIn lw_tbl wsX20 := goodIn_r _ [97, 99, 101, 103, 105, 107] (by decide +kernel) (by decide +kernel)
set_option maxRecDepth 20000 in
theorem gdf0 : GoodIn lw_tbl wsX00 := goodIn_r _ [120, 122, 124] (by decide +kernel) (by decide +kernel)
set_option maxRecDepth 20000 in
theorem gdf4 : GoodIn lw_tbl wsX40 := goodIn_r _ [148, 150, 152, 154, 156, 158, 160, 162, 164, 166, 168, 170] (by decide +kernel) (by decide +kernel)
set_option maxRecDepth 20000 in
theorem gdf1 : GoodIn lw_tbl wsX10 := goodIn_r _ [183, 185] (by decide +kernel) (by decide +kernel)
set_option maxRecDepth 20000 in
theorem gdf5 : GoodIn lw_tbl wsX50 := goodIn_r _ [195] (by decide +kernel) (by decide +kernel)
set_option maxRecDepth 20000 in
theorem gdf3 : GoodIn lw_tbl wsX30 := goodIn_r _ [252, 254, 256, 258, 260, 262, 264, 266, 268, 270, 272] (by decide +kernel) (by decide +kernel)
theorem wsL_law_gd : GoodIn lw_tbl wsL_law := goodIn_app (goodIn_app (goodIn_app (goodIn_app (goodIn_app (goodIn_app (goodIn_app (goodIn_app (goodIn_app (goodIn_app (goodIn_app gdr1 (goodIn_app gdr2 (goodIn_app gdr3 (goodIn_app gdr4 (goodIn_app gdr5 (goodIn_app gdr6 (goodIn_app gdr7 (goodIn_app gdr8 (goodIn_app gdr9 (goodIn_app gdr10 (goodIn_app gdr11 (goodIn_app gdr12 (goodIn_app gdr13 (goodIn_app gdr14 (goodIn_app gdr15 (goodIn_app gdr16 (goodIn_app gdr17 (goodIn_app gdr18 (goodIn_app gdr19 (goodIn_app gdr20 (goodIn_app gdr21 (goodIn_app gdr22 (goodIn_app gdr23 (goodIn_app gdr24 (goodIn_app gdr25 (goodIn_app gdr26 (goodIn_app gdr27 (goodIn_app gdr28 (goodIn_app gdr29 (goodIn_app gdr30 (goodIn_app gdr31 (goodIn_app gdr32 (goodIn_app gdr33 (goodIn_app gdr34 (gdr35))))))))))))))))))))))))))))))))))) gdf7) gdf8) gdf6) gdf2) gdf0) gdf4) gdf1) gdf5) gdf3) (fun _ h => absurd h List.not_mem_nil)
theorem wsL_law_in : ∀ w ∈ wsL_law, w ∈ lw_tbl := fun w h => (wsL_law_gd w h).1
theorem inlX0 : ∀ w ∈ wsX00, w ∈ wsL_law := fun _ h => List.mem_append_left _ (List.mem_append_left _ (List.mem_append_left _ (List.mem_append_left _ (List.mem_append_left _ (List.mem_append_right _ h)))))
theorem inX0 : ∀ w ∈ wsX00, w ∈ lw_tbl := fun w h => wsL_law_in w (inlX0 w h)
theorem inlX1 : ∀ w ∈ wsX10, w ∈ wsL_law := fun _ h => List.mem_append_left _ (List.mem_append_left _ (List.mem_append_left _ (List.mem_append_right _ h)))
theorem inX1 : ∀ w ∈ wsX10, w ∈ lw_tbl := fun w h => wsL_law_in w (inlX1 w h)
theorem inlX2 : ∀ w ∈ wsX20, w ∈ wsL_law := fun _ h => List.mem_append_left _ (List.mem_append_left _ (List.mem_append_left _ (List.mem_append_left _ (List.mem_append_left _ (List.mem_append_left _ (List.mem_append_right _ h))))))
theorem inX2 : ∀ w ∈ wsX20, w ∈ lw_tbl := fun w h => wsL_law_in w (inlX2 w h)
theorem inlX3 : ∀ w ∈ wsX30, w ∈ wsL_law := fun _ h => List.mem_append_left _ (List.mem_append_right _ h)
theorem inX3 : ∀ w ∈ wsX30, w ∈ lw_tbl := fun w h => wsL_law_in w (inlX3 w h)
theorem inlX4 : ∀ w ∈ wsX40, w ∈ wsL_law := fun _ h => List.mem_append_left _ (List.mem_append_left _ (List.mem_append_left _ (List.mem_append_left _ (List.mem_append_right _ h))))
theorem inX4 : ∀ w ∈ wsX40, w ∈ lw_tbl := fun w h => wsL_law_in w (inlX4 w h)
theorem inlX5 : ∀ w ∈ wsX50, w ∈ wsL_law := fun _ h => List.mem_append_left _ (List.mem_append_left _ (List.mem_append_right _ h))
theorem inX5 : ∀ w ∈ wsX50, w ∈ lw_tbl := fun w h => wsL_law_in w (inlX5 w h)
theorem inlX6 : ∀ w ∈ wsX60, w ∈ wsL_law := fun _ h => List.mem_append_left _ (List.mem_append_left _ (List.mem_append_left _ (List.mem_append_left _ (List.mem_append_left _ (List.mem_append_left _ (List.mem_append_left _ (List.mem_append_right _ h)))))))
theorem inX6 : ∀ w ∈ wsX60, w ∈ lw_tbl := fun w h => wsL_law_in w (inlX6 w h)
theorem inlX7 : ∀ w ∈ wsX70, w ∈ wsL_law := fun _ h => List.mem_append_left _ (List.mem_append_left _ (List.mem_append_left _ (List.mem_append_left _ (List.mem_append_left _ (List.mem_append_left _ (List.mem_append_left _ (List.mem_append_left _ (List.mem_append_left _ (List.mem_append_right _ h)))))))))
theorem inX7 : ∀ w ∈ wsX70, w ∈ lw_tbl := fun w h => wsL_law_in w (inlX7 w h)
theorem inlX8 : ∀ w ∈ wsX80, w ∈ wsL_law := fun _ h => List.mem_append_left _ (List.mem_append_left _ (List.mem_append_left _ (List.mem_append_left _ (List.mem_append_left _ (List.mem_append_left _ (List.mem_append_left _ (List.mem_append_left _ (List.mem_append_right _ h))))))))
theorem inX8 : ∀ w ∈ wsX80, w ∈ lw_tbl := fun w h => wsL_law_in w (inlX8 w h)
abbrev vwCl : List vw_C := [(RX0, TX0, 3), (RX1, TX1, 2), (RX2, TX2, 6), (RX3, TX3, 11), (RX4, TX4, 12), (RX5, TX5, 1), (RX6, TX6, 2), (RX7, TX7, 12), (RX8, TX8, 34)]
