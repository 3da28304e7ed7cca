/-! ===== BEGIN words of one list among another's, by their places ===== -/
theorem goodIn_r {big : List Cond} (ws : List Cond) (ps : List Nat) (hp : ws = ps.filterMap (fun i => big[i]?)) (h : ws.all goodWord = true) : GoodIn big ws := by
  intro w hw
  have h1 := List.all_eq_true.mp h w hw
  rw [hp] at hw
  obtain ⟨i, -, hi⟩ := List.mem_filterMap.mp hw
  have hm : w ∈ big := by first | exact List.mem_of_getElem? hi | exact List.getElem?_mem hi
  exact ⟨hm, good_of_word h1⟩
theorem goodIn_app {big a b : List Cond} (ha : GoodIn big a) (hb : GoodIn big b) : GoodIn big (a ++ b) := fun w h => (List.mem_append.mp h).elim (ha w) (hb w)
theorem goodIn_ca {big a b : List Cond} {c : Cond} (ha : GoodIn big (c :: a)) (hb : GoodIn big b) : GoodIn big (c :: (a ++ b)) := fun w h => (List.mem_cons.mp h).elim (fun e => ha w (List.mem_cons.mpr (Or.inl e))) (fun h => (List.mem_append.mp h).elim (fun h => ha w (List.mem_cons.mpr (Or.inr h))) (hb w))
theorem goodIn_sub {big ws : List Cond} (hm : ∀ w ∈ ws, w ∈ big) (h : ws.all goodWord = true) : GoodIn big ws := fun w hw => ⟨hm w hw, good_of_word (List.all_eq_true.mp h w hw)⟩
/-! ===== END ===== -/

/-! ===== BEGIN printed: names, fields, word lists, decode rows ===== -/
def RX0 : String := "WetPrints$Blocks"
def TX0 : u_T := fun k => match k with
  | 0 => ("WetPrints$Blocks", "count", "I", false)
  | 1 => ("WetPrints$Blocks", "kinds", "[I", true)
  | 2 => ("WetPrints$Blocks", "colours", "[I", true)
  | 3 => ("WetPrints$Blocks", "drys", "[I", true)
  | 4 => ("WetPrints$Blocks", "areas", "[I", true)
  | 5 => ("WetPrints$Blocks", "xs", "[I", true)
  | 6 => ("WetPrints$Blocks", "ys", "[I", true)
  | 7 => ("WetPrints$Blocks", "places", "[I", true)
  | _ => ("WetPrints$Blocks", "behinds", "[I", true)
def tyX0 : Nat → FieldType := fun k => match k with
  | 0 => .int
  | 1 => .array .int
  | 2 => .array .int
  | 3 => .array .int
  | 4 => .array .int
  | 5 => .array .int
  | 6 => .array .int
  | 7 => .array .int
  | _ => .array .int
abbrev wsX00 : List Cond := u_ws RX0 TX0 9
theorem nmX0 : ∀ a, a < 9 → ∀ b, b < 9 → a ≠ b → (TX0 a).2.1 ≠ (TX0 b).2.1 := by decide +kernel
theorem tyX0_ok : ∀ k, k < 9 → parseFieldDescriptor (TX0 k).2.2.1 = some (tyX0 k) := by decide +kernel
abbrev cX0_init : ByteArray := prog_2_method_1_code
def yX0_init : MethodName := ⟨RX0, "<init>", "()V"⟩
abbrev cX0_has : ByteArray := prog_2_method_2_code
def yX0_has : MethodName := ⟨RX0, "has", "(I)Z"⟩
abbrev cX0_areUnlike : ByteArray := prog_2_method_3_code
def yX0_areUnlike : MethodName := ⟨RX0, "areUnlike", "(II)Z"⟩
abbrev cX0_placeOf : ByteArray := prog_2_method_4_code
def yX0_placeOf : MethodName := ⟨RX0, "placeOf", "(I)I"⟩
abbrev cX0_add : ByteArray := prog_2_method_5_code
def yX0_add : MethodName := ⟨RX0, "add", "(IIII)I"⟩
abbrev cX0_move : ByteArray := prog_2_method_6_code
def yX0_move : MethodName := ⟨RX0, "move", "(III)V"⟩
abbrev cX0_tellBehind : ByteArray := prog_2_method_7_code
def yX0_tellBehind : MethodName := ⟨RX0, "tellBehind", "(III)I"⟩
abbrev cX0_mayFollow : ByteArray := prog_2_method_8_code
def yX0_mayFollow : MethodName := ⟨RX0, "mayFollow", "(II)Z"⟩
abbrev cX0_printOn : ByteArray := prog_2_method_9_code
def yX0_printOn : MethodName := ⟨RX0, "printOn", "(LWetPrints$Sheet;I)V"⟩
abbrev cX0_smearBy : ByteArray := prog_2_method_10_code
def yX0_smearBy : MethodName := ⟨RX0, "smearBy", "(III)I"⟩
abbrev cX0_copyFrom : ByteArray := prog_2_method_11_code
def yX0_copyFrom : MethodName := ⟨RX0, "copyFrom", "(LWetPrints$Blocks;)V"⟩
def RX1 : String := "WetPrints$Cells"
def TX1 : u_T := fun k => match k with
  | _ => ("", "", "", false)
def tyX1 : Nat → FieldType := fun k => match k with
  | _ => .int
abbrev wsX10 : List Cond := u_ws RX1 TX1 0
theorem nmX1 : ∀ a, a < 0 → ∀ b, b < 0 → a ≠ b → (TX1 a).2.1 ≠ (TX1 b).2.1 := by decide +kernel
theorem tyX1_ok : ∀ k, k < 0 → parseFieldDescriptor (TX1 k).2.2.1 = some (tyX1 k) := by decide +kernel
abbrev cX1_nibble : ByteArray := prog_3_method_2_code
def yX1_nibble : MethodName := ⟨RX1, "nibble", "(JI)I"⟩
abbrev cX1_withNibble : ByteArray := prog_3_method_3_code
def yX1_withNibble : MethodName := ⟨RX1, "withNibble", "(JII)J"⟩
abbrev cX1_spread : ByteArray := prog_3_method_4_code
def yX1_spread : MethodName := ⟨RX1, "spread", "(I)J"⟩
abbrev cX1_filled : ByteArray := prog_3_method_5_code
def yX1_filled : MethodName := ⟨RX1, "filled", "(J)J"⟩
abbrev cX1_alike : ByteArray := prog_3_method_6_code
def yX1_alike : MethodName := ⟨RX1, "alike", "(JI)I"⟩
abbrev cX1_moved : ByteArray := prog_3_method_7_code
def yX1_moved : MethodName := ⟨RX1, "moved", "(III)I"⟩
def RX2 : String := "WetPrints$HandWork"
def TX2 : u_T := fun k => match k with
  | 0 => ("WetPrints$HandWork", "sheet", "LWetPrints$Sheet;", true)
  | 1 => ("WetPrints$HandWork", "hour", "I", false)
  | 2 => ("WetPrints$HandWork", "count", "I", false)
  | 3 => ("WetPrints$HandWork", "allSmear", "I", false)
  | 4 => ("WetPrints$HandWork", "numbers", "[I", true)
  | 5 => ("WetPrints$HandWork", "hours", "[I", true)
  | _ => ("WetPrints$HandWork", "places", "[I", true)
def tyX2 : Nat → FieldType := fun k => match k with
  | 0 => .object "WetPrints$Sheet"
  | 1 => .int
  | 2 => .int
  | 3 => .int
  | 4 => .array .int
  | 5 => .array .int
  | _ => .array .int
abbrev wsX20 : List Cond := u_ws RX2 TX2 7
theorem nmX2 : ∀ a, a < 7 → ∀ b, b < 7 → a ≠ b → (TX2 a).2.1 ≠ (TX2 b).2.1 := by decide +kernel
theorem tyX2_ok : ∀ k, k < 7 → parseFieldDescriptor (TX2 k).2.2.1 = some (tyX2 k) := by decide +kernel
abbrev cX2_init : ByteArray := prog_4_method_1_code
def yX2_init : MethodName := ⟨RX2, "<init>", "()V"⟩
abbrev cX2_printNext : ByteArray := prog_4_method_2_code
def yX2_printNext : MethodName := ⟨RX2, "printNext", "(LWetPrints$Blocks;II)I"⟩
abbrev cX2_smearOn : ByteArray := prog_4_method_3_code
def yX2_smearOn : MethodName := ⟨RX2, "smearOn", "(LWetPrints$Blocks;I)I"⟩
abbrev cX2_printed : ByteArray := prog_4_method_4_code
def yX2_printed : MethodName := ⟨RX2, "printed", "()I"⟩
abbrev cX2_wetHours : ByteArray := prog_4_method_5_code
def yX2_wetHours : MethodName := ⟨RX2, "wetHours", "(LWetPrints$Blocks;I)I"⟩
abbrev cX2_wetCells : ByteArray := prog_4_method_6_code
def yX2_wetCells : MethodName := ⟨RX2, "wetCells", "(LWetPrints$Blocks;)I"⟩
abbrev cX2_renew : ByteArray := prog_4_method_7_code
def yX2_renew : MethodName := ⟨RX2, "renew", "()I"⟩
abbrev cX2_copyFrom : ByteArray := prog_4_method_8_code
def yX2_copyFrom : MethodName := ⟨RX2, "copyFrom", "(LWetPrints$HandWork;)V"⟩
def RX3 : String := "WetPrints$History"
def TX3 : u_T := fun k => match k with
  | 0 => ("WetPrints$History", "ring", "[LWetPrints$State;", true)
  | 1 => ("WetPrints$History", "next", "I", false)
  | _ => ("WetPrints$History", "count", "I", false)
def tyX3 : Nat → FieldType := fun k => match k with
  | 0 => .array (.object "WetPrints$State")
  | 1 => .int
  | _ => .int
abbrev wsX30 : List Cond := u_ws RX3 TX3 3
theorem nmX3 : ∀ a, a < 3 → ∀ b, b < 3 → a ≠ b → (TX3 a).2.1 ≠ (TX3 b).2.1 := by decide +kernel
theorem tyX3_ok : ∀ k, k < 3 → parseFieldDescriptor (TX3 k).2.2.1 = some (tyX3 k) := by decide +kernel
abbrev cX3_init : ByteArray := prog_5_method_1_code
def yX3_init : MethodName := ⟨RX3, "<init>", "()V"⟩
abbrev cX3_keep : ByteArray := prog_5_method_2_code
def yX3_keep : MethodName := ⟨RX3, "keep", "(LWetPrints$State;)V"⟩
abbrev cX3_keptAt : ByteArray := prog_5_method_3_code
def yX3_keptAt : MethodName := ⟨RX3, "keptAt", "(I)LWetPrints$State;"⟩
abbrev cX3_restore : ByteArray := prog_5_method_4_code
def yX3_restore : MethodName := ⟨RX3, "restore", "(LWetPrints$State;)V"⟩
def RX4 : String := "WetPrints$OrderReader"
def TX4 : u_T := fun k => match k with
  | 0 => ("WetPrints$OrderReader", "letter", "I", false)
  | 1 => ("WetPrints$OrderReader", "numbers", "[I", true)
  | 2 => ("WetPrints$OrderReader", "hasOrder", "Z", false)
  | 3 => ("WetPrints$OrderReader", "inside", "Z", false)
  | 4 => ("WetPrints$OrderReader", "any", "Z", false)
  | 5 => ("WetPrints$OrderReader", "wanted", "I", false)
  | 6 => ("WetPrints$OrderReader", "ended", "I", false)
  | 7 => ("WetPrints$OrderReader", "value", "I", false)
  | 8 => ("WetPrints$OrderReader", "figures", "I", false)
  | _ => ("WetPrints$OrderReader", "negative", "Z", false)
def tyX4 : Nat → FieldType := fun k => match k with
  | 0 => .int
  | 1 => .array .int
  | 2 => .boolean
  | 3 => .boolean
  | 4 => .boolean
  | 5 => .int
  | 6 => .int
  | 7 => .int
  | 8 => .int
  | _ => .boolean
abbrev wsX40 : List Cond := u_ws RX4 TX4 10
theorem nmX4 : ∀ a, a < 10 → ∀ b, b < 10 → a ≠ b → (TX4 a).2.1 ≠ (TX4 b).2.1 := by decide +kernel
theorem tyX4_ok : ∀ k, k < 10 → parseFieldDescriptor (TX4 k).2.2.1 = some (tyX4 k) := by decide +kernel
abbrev cX4_init : ByteArray := prog_6_method_1_code
def yX4_init : MethodName := ⟨RX4, "<init>", "()V"⟩
abbrev cX4_restart : ByteArray := prog_6_method_2_code
def yX4_restart : MethodName := ⟨RX4, "restart", "()V"⟩
abbrev cX4_mayEnd : ByteArray := prog_6_method_3_code
def yX4_mayEnd : MethodName := ⟨RX4, "mayEnd", "()Z"⟩
abbrev cX4_takes : ByteArray := prog_6_method_4_code
def yX4_takes : MethodName := ⟨RX4, "takes", "(I)Z"⟩
abbrev cX4_begins : ByteArray := prog_6_method_5_code
def yX4_begins : MethodName := ⟨RX4, "begins", "(I)Z"⟩
abbrev cX4_numbersBehind : ByteArray := prog_6_method_6_code
def yX4_numbersBehind : MethodName := ⟨RX4, "numbersBehind", "(I)I"⟩
abbrev cX4_startNumber : ByteArray := prog_6_method_7_code
def yX4_startNumber : MethodName := ⟨RX4, "startNumber", "()V"⟩
abbrev cX4_figure : ByteArray := prog_6_method_8_code
def yX4_figure : MethodName := ⟨RX4, "figure", "(I)Z"⟩
abbrev cX4_endNumber : ByteArray := prog_6_method_9_code
def yX4_endNumber : MethodName := ⟨RX4, "endNumber", "()V"⟩
abbrev cX4_minus : ByteArray := prog_6_method_10_code
def yX4_minus : MethodName := ⟨RX4, "minus", "()Z"⟩
abbrev cX4_endOrder : ByteArray := prog_6_method_11_code
def yX4_endOrder : MethodName := ⟨RX4, "endOrder", "()Z"⟩
def RX5 : String := "WetPrints$Rows"
def TX5 : u_T := fun k => match k with
  | _ => ("", "", "", false)
def tyX5 : Nat → FieldType := fun k => match k with
  | _ => .int
abbrev wsX50 : List Cond := u_ws RX5 TX5 0
theorem nmX5 : ∀ a, a < 0 → ∀ b, b < 0 → a ≠ b → (TX5 a).2.1 ≠ (TX5 b).2.1 := by decide +kernel
theorem tyX5_ok : ∀ k, k < 0 → parseFieldDescriptor (TX5 k).2.2.1 = some (tyX5 k) := by decide +kernel
abbrev cX5_at : ByteArray := prog_7_method_2_code
def yX5_at : MethodName := ⟨RX5, "at", "([II)I"⟩
abbrev cX5_put : ByteArray := prog_7_method_3_code
def yX5_put : MethodName := ⟨RX5, "put", "([III)V"⟩
abbrev cX5_copy : ByteArray := prog_7_method_4_code
def yX5_copy : MethodName := ⟨RX5, "copy", "([I[I)V"⟩
def RX6 : String := "WetPrints$Search"
def TX6 : u_T := fun k => match k with
  | 0 => ("WetPrints$Search", "blocks", "LWetPrints$Blocks;", true)
  | 1 => ("WetPrints$Search", "sheet", "LWetPrints$Sheet;", true)
  | 2 => ("WetPrints$Search", "unlike", "LWetPrints$SheetSet;", true)
  | 3 => ("WetPrints$Search", "ways", "[I", true)
  | 4 => ("WetPrints$Search", "goal", "I", false)
  | 5 => ("WetPrints$Search", "gap", "I", false)
  | 6 => ("WetPrints$Search", "plan", "J", false)
  | 7 => ("WetPrints$Search", "found", "Z", false)
  | 8 => ("WetPrints$Search", "bestHits", "I", false)
  | 9 => ("WetPrints$Search", "bestSmear", "I", false)
  | _ => ("WetPrints$Search", "bestOrder", "J", false)
def tyX6 : Nat → FieldType := fun k => match k with
  | 0 => .object "WetPrints$Blocks"
  | 1 => .object "WetPrints$Sheet"
  | 2 => .object "WetPrints$SheetSet"
  | 3 => .array .int
  | 4 => .int
  | 5 => .int
  | 6 => .long
  | 7 => .boolean
  | 8 => .int
  | 9 => .int
  | _ => .long
abbrev wsX60 : List Cond := u_ws RX6 TX6 11
theorem nmX6 : ∀ a, a < 11 → ∀ b, b < 11 → a ≠ b → (TX6 a).2.1 ≠ (TX6 b).2.1 := by decide +kernel
theorem tyX6_ok : ∀ k, k < 11 → parseFieldDescriptor (TX6 k).2.2.1 = some (tyX6 k) := by decide +kernel
abbrev cX6_init : ByteArray := prog_8_method_1_code
def yX6_init : MethodName := ⟨RX6, "<init>", "(LWetPrints$Blocks;)V"⟩
abbrev cX6_countLawful : ByteArray := prog_8_method_2_code
def yX6_countLawful : MethodName := ⟨RX6, "countLawful", "()I"⟩
abbrev cX6_waysTo : ByteArray := prog_8_method_3_code
def yX6_waysTo : MethodName := ⟨RX6, "waysTo", "(I)I"⟩
abbrev cX6_run : ByteArray := prog_8_method_4_code
def yX6_run : MethodName := ⟨RX6, "run", "(IIJ)V"⟩
abbrev cX6_extend : ByteArray := prog_8_method_5_code
def yX6_extend : MethodName := ⟨RX6, "extend", "(LWetPrints$Search;IIJI)V"⟩
abbrev cX6_smearOf : ByteArray := prog_8_method_6_code
def yX6_smearOf : MethodName := ⟨RX6, "smearOf", "(IIJ)I"⟩
abbrev cX6_judge : ByteArray := prog_8_method_7_code
def yX6_judge : MethodName := ⟨RX6, "judge", "(JI)V"⟩
def RX7 : String := "WetPrints$Sheet"
def TX7 : u_T := fun k => match k with
  | 0 => ("WetPrints$Sheet", "colours", "J", false)
  | 1 => ("WetPrints$Sheet", "shines", "J", false)
  | _ => ("WetPrints$Sheet", "closed", "I", false)
def tyX7 : Nat → FieldType := fun k => match k with
  | 0 => .long
  | 1 => .long
  | _ => .int
abbrev wsX70 : List Cond := u_ws RX7 TX7 3
theorem nmX7 : ∀ a, a < 3 → ∀ b, b < 3 → a ≠ b → (TX7 a).2.1 ≠ (TX7 b).2.1 := by decide +kernel
theorem tyX7_ok : ∀ k, k < 3 → parseFieldDescriptor (TX7 k).2.2.1 = some (tyX7 k) := by decide +kernel
abbrev cX7_init : ByteArray := prog_9_method_1_code
def yX7_init : MethodName := ⟨RX7, "<init>", "()V"⟩
abbrev cX7_wipe : ByteArray := prog_9_method_2_code
def yX7_wipe : MethodName := ⟨RX7, "wipe", "()V"⟩
abbrev cX7_copyFrom : ByteArray := prog_9_method_3_code
def yX7_copyFrom : MethodName := ⟨RX7, "copyFrom", "(LWetPrints$Sheet;)V"⟩
abbrev cX7_lay : ByteArray := prog_9_method_4_code
def yX7_lay : MethodName := ⟨RX7, "lay", "(JJI)V"⟩
abbrev cX7_take : ByteArray := prog_9_method_5_code
def yX7_take : MethodName := ⟨RX7, "take", "(III)V"⟩
abbrev cX7_cover : ByteArray := prog_9_method_6_code
def yX7_cover : MethodName := ⟨RX7, "cover", "(IJ)V"⟩
abbrev cX7_mix : ByteArray := prog_9_method_7_code
def yX7_mix : MethodName := ⟨RX7, "mix", "(IJ)V"⟩
abbrev cX7_polish : ByteArray := prog_9_method_8_code
def yX7_polish : MethodName := ⟨RX7, "polish", "(J)V"⟩
abbrev cX7_hits : ByteArray := prog_9_method_9_code
def yX7_hits : MethodName := ⟨RX7, "hits", "(J)I"⟩
abbrev cX7_coloursAndClosed : ByteArray := prog_9_method_10_code
def yX7_coloursAndClosed : MethodName := ⟨RX7, "coloursAndClosed", "()J"⟩
def RX8 : String := "WetPrints$SheetSet"
def TX8 : u_T := fun k => match k with
  | 0 => ("WetPrints$SheetSet", "faces", "[J", true)
  | 1 => ("WetPrints$SheetSet", "shines", "[J", true)
  | 2 => ("WetPrints$SheetSet", "rounds", "[I", true)
  | 3 => ("WetPrints$SheetSet", "round", "I", false)
  | _ => ("WetPrints$SheetSet", "size", "I", false)
def tyX8 : Nat → FieldType := fun k => match k with
  | 0 => .array .long
  | 1 => .array .long
  | 2 => .array .int
  | 3 => .int
  | _ => .int
abbrev wsX80 : List Cond := u_ws RX8 TX8 5
theorem nmX8 : ∀ a, a < 5 → ∀ b, b < 5 → a ≠ b → (TX8 a).2.1 ≠ (TX8 b).2.1 := by decide +kernel
theorem tyX8_ok : ∀ k, k < 5 → parseFieldDescriptor (TX8 k).2.2.1 = some (tyX8 k) := by decide +kernel
abbrev cX8_init : ByteArray := prog_10_method_1_code
def yX8_init : MethodName := ⟨RX8, "<init>", "()V"⟩
abbrev cX8_empty : ByteArray := prog_10_method_2_code
def yX8_empty : MethodName := ⟨RX8, "empty", "()V"⟩
abbrev cX8_add : ByteArray := prog_10_method_3_code
def yX8_add : MethodName := ⟨RX8, "add", "(LWetPrints$Sheet;)V"⟩
def RX9 : String := "WetPrints$State"
def TX9 : u_T := fun k => match k with
  | 0 => ("WetPrints$State", "blocks", "LWetPrints$Blocks;", true)
  | 1 => ("WetPrints$State", "work", "LWetPrints$HandWork;", true)
  | _ => ("WetPrints$State", "plan", "J", false)
def tyX9 : Nat → FieldType := fun k => match k with
  | 0 => .object "WetPrints$Blocks"
  | 1 => .object "WetPrints$HandWork"
  | _ => .long
abbrev wsX90 : List Cond := u_ws RX9 TX9 3
theorem nmX9 : ∀ a, a < 3 → ∀ b, b < 3 → a ≠ b → (TX9 a).2.1 ≠ (TX9 b).2.1 := by decide +kernel
theorem tyX9_ok : ∀ k, k < 3 → parseFieldDescriptor (TX9 k).2.2.1 = some (tyX9 k) := by decide +kernel
abbrev cX9_init : ByteArray := prog_11_method_1_code
def yX9_init : MethodName := ⟨RX9, "<init>", "()V"⟩
abbrev cX9_copyFrom : ByteArray := prog_11_method_2_code
def yX9_copyFrom : MethodName := ⟨RX9, "copyFrom", "(LWetPrints$State;)V"⟩
def RX10 : String := "WetPrints$Text"
def TX10 : u_T := fun k => match k with
  | 0 => ("WetPrints$Text", "bytes", "[I", true)
  | _ => ("WetPrints$Text", "length", "I", false)
def tyX10 : Nat → FieldType := fun k => match k with
  | 0 => .array .int
  | _ => .int
abbrev wsX100 : List Cond := u_ws RX10 TX10 2
theorem nmX10 : ∀ a, a < 2 → ∀ b, b < 2 → a ≠ b → (TX10 a).2.1 ≠ (TX10 b).2.1 := by decide +kernel
theorem tyX10_ok : ∀ k, k < 2 → parseFieldDescriptor (TX10 k).2.2.1 = some (tyX10 k) := by decide +kernel
abbrev cX10_init : ByteArray := prog_12_method_1_code
def yX10_init : MethodName := ⟨RX10, "<init>", "()V"⟩
abbrev cX10_add : ByteArray := prog_12_method_2_code
def yX10_add : MethodName := ⟨RX10, "add", "(I)V"⟩
def RX11 : String := "WetPrints"
def TX11 : u_T := fun k => match k with
  | 0 => ("WetPrints", "now", "LWetPrints$State;", true)
  | 1 => ("WetPrints", "history", "LWetPrints$History;", true)
  | 2 => ("WetPrints", "search", "LWetPrints$Search;", true)
  | 3 => ("WetPrints", "text", "LWetPrints$Text;", true)
  | 4 => ("WetPrints", "reader", "LWetPrints$OrderReader;", true)
  | 5 => ("WetPrints", "bads", "I", false)
  | 6 => ("WetPrints", "nos", "I", false)
  | _ => ("WetPrints", "fulls", "I", false)
def tyX11 : Nat → FieldType := fun k => match k with
  | 0 => .object "WetPrints$State"
  | 1 => .object "WetPrints$History"
  | 2 => .object "WetPrints$Search"
  | 3 => .object "WetPrints$Text"
  | 4 => .object "WetPrints$OrderReader"
  | 5 => .int
  | 6 => .int
  | _ => .int
abbrev wsX110 : List Cond := u_ws RX11 TX11 8
theorem nmX11 : ∀ a, a < 8 → ∀ b, b < 8 → a ≠ b → (TX11 a).2.1 ≠ (TX11 b).2.1 := by decide +kernel
theorem tyX11_ok : ∀ k, k < 8 → parseFieldDescriptor (TX11 k).2.2.1 = some (tyX11 k) := by decide +kernel
abbrev cX11_init : ByteArray := prog_1_method_1_code
def yX11_init : MethodName := ⟨RX11, "<init>", "()V"⟩
abbrev cX11_block : ByteArray := prog_1_method_2_code
def yX11_block : MethodName := ⟨RX11, "block", "(IIII)I"⟩
abbrev cX11_shifts : ByteArray := prog_1_method_3_code
def yX11_shifts : MethodName := ⟨RX11, "shifts", "(III)I"⟩
abbrev cX11_behind : ByteArray := prog_1_method_4_code
def yX11_behind : MethodName := ⟨RX11, "behind", "(III)I"⟩
abbrev cX11_plans : ByteArray := prog_1_method_5_code
def yX11_plans : MethodName := ⟨RX11, "plans", "(II)I"⟩
abbrev cX11_of : ByteArray := prog_1_method_6_code
def yX11_of : MethodName := ⟨RX11, "of", "(II)I"⟩
abbrev cX11_common : ByteArray := prog_1_method_7_code
def yX11_common : MethodName := ⟨RX11, "common", "(III)I"⟩
abbrev cX11_fit : ByteArray := prog_1_method_8_code
def yX11_fit : MethodName := ⟨RX11, "fit", "(II)I"⟩
abbrev cX11_lawful : ByteArray := prog_1_method_9_code
def yX11_lawful : MethodName := ⟨RX11, "lawful", "()I"⟩
abbrev cX11_least : ByteArray := prog_1_method_10_code
def yX11_least : MethodName := ⟨RX11, "least", "(II)I"⟩
abbrev cX11_nearest : ByteArray := prog_1_method_11_code
def yX11_nearest : MethodName := ⟨RX11, "nearest", "(II)I"⟩
abbrev cX11_sheets : ByteArray := prog_1_method_12_code
def yX11_sheets : MethodName := ⟨RX11, "sheets", "()I"⟩
abbrev cX11_prints : ByteArray := prog_1_method_13_code
def yX11_prints : MethodName := ⟨RX11, "prints", "(II)I"⟩
abbrev cX11_news : ByteArray := prog_1_method_14_code
def yX11_news : MethodName := ⟨RX11, "news", "()I"⟩
abbrev cX11_cell : ByteArray := prog_1_method_15_code
def yX11_cell : MethodName := ⟨RX11, "cell", "(II)I"⟩
abbrev cX11_hand : ByteArray := prog_1_method_16_code
def yX11_hand : MethodName := ⟨RX11, "hand", "(I)I"⟩
abbrev cX11_print : ByteArray := prog_1_method_17_code
def yX11_print : MethodName := ⟨RX11, "print", "(II)I"⟩
abbrev cX11_type : ByteArray := prog_1_method_18_code
def yX11_type : MethodName := ⟨RX11, "type", "(I)I"⟩
abbrev cX11_clear : ByteArray := prog_1_method_19_code
def yX11_clear : MethodName := ⟨RX11, "clear", "()I"⟩
abbrev cX11_reads : ByteArray := prog_1_method_20_code
def yX11_reads : MethodName := ⟨RX11, "reads", "()I"⟩
abbrev cX11_back : ByteArray := prog_1_method_21_code
def yX11_back : MethodName := ⟨RX11, "back", "()I"⟩
abbrev cX11_told : ByteArray := prog_1_method_22_code
def yX11_told : MethodName := ⟨RX11, "told", "(I)I"⟩
abbrev cX11_digest : ByteArray := prog_1_method_23_code
def yX11_digest : MethodName := ⟨RX11, "digest", "()J"⟩
abbrev cX11_within : ByteArray := prog_1_method_24_code
def yX11_within : MethodName := ⟨RX11, "within", "(III)Z"⟩
abbrev cX11_refuse : ByteArray := prog_1_method_25_code
def yX11_refuse : MethodName := ⟨RX11, "refuse", "(I)I"⟩
abbrev cX11_refuseOrder : ByteArray := prog_1_method_26_code
def yX11_refuseOrder : MethodName := ⟨RX11, "refuseOrder", "(I)I"⟩
abbrev cX11_whyNoBlock : ByteArray := prog_1_method_27_code
def yX11_whyNoBlock : MethodName := ⟨RX11, "whyNoBlock", "(IIII)I"⟩
abbrev cX11_whyNoShift : ByteArray := prog_1_method_28_code
def yX11_whyNoShift : MethodName := ⟨RX11, "whyNoShift", "(III)I"⟩
abbrev cX11_whyNoBehind : ByteArray := prog_1_method_29_code
def yX11_whyNoBehind : MethodName := ⟨RX11, "whyNoBehind", "(III)I"⟩
abbrev cX11_whyNoPrint : ByteArray := prog_1_method_30_code
def yX11_whyNoPrint : MethodName := ⟨RX11, "whyNoPrint", "(II)I"⟩
abbrev cX11_gainOf : ByteArray := prog_1_method_31_code
def yX11_gainOf : MethodName := ⟨RX11, "gainOf", "(II)I"⟩
abbrev cX11_blockOfBest : ByteArray := prog_1_method_32_code
def yX11_blockOfBest : MethodName := ⟨RX11, "blockOfBest", "(I)I"⟩
abbrev cX11_faultOfText : ByteArray := prog_1_method_33_code
def yX11_faultOfText : MethodName := ⟨RX11, "faultOfText", "()I"⟩
abbrev cX11_doText : ByteArray := prog_1_method_34_code
def yX11_doText : MethodName := ⟨RX11, "doText", "()I"⟩
abbrev cX11_doOrder : ByteArray := prog_1_method_35_code
def yX11_doOrder : MethodName := ⟨RX11, "doOrder", "()Z"⟩
def RX12 : String := "WetPrintsModel"
def TX12 : u_T := fun k => match k with
  | 0 => ("WetPrintsModel", "now", "[I", true)
  | 1 => ("WetPrintsModel", "held", "[I", true)
  | 2 => ("WetPrintsModel", "past", "[I", true)
  | 3 => ("WetPrintsModel", "pasts", "I", false)
  | 4 => ("WetPrintsModel", "refused", "[I", true)
  | 5 => ("WetPrintsModel", "colour", "[I", true)
  | 6 => ("WetPrintsModel", "shine", "[I", true)
  | 7 => ("WetPrintsModel", "closed", "I", false)
  | 8 => ("WetPrintsModel", "order", "[I", true)
  | 9 => ("WetPrintsModel", "best", "[I", true)
  | 10 => ("WetPrintsModel", "bestSmear", "I", false)
  | 11 => ("WetPrintsModel", "bestHits", "I", false)
  | 12 => ("WetPrintsModel", "places", "[I", true)
  | 13 => ("WetPrintsModel", "colours", "[J", true)
  | 14 => ("WetPrintsModel", "shines", "[J", true)
  | 15 => ("WetPrintsModel", "closes", "[I", true)
  | 16 => ("WetPrintsModel", "text", "[I", true)
  | 17 => ("WetPrintsModel", "typed", "I", false)
  | 18 => ("WetPrintsModel", "at", "I", false)
  | 19 => ("WetPrintsModel", "fault", "I", false)
  | 20 => ("WetPrintsModel", "orders", "I", false)
  | 21 => ("WetPrintsModel", "letters", "[I", true)
  | 22 => ("WetPrintsModel", "numbers", "[I", true)
  | _ => ("WetPrintsModel", "h", "J", false)
def tyX12 : Nat → FieldType := fun k => match k with
  | 0 => .array .int
  | 1 => .array .int
  | 2 => .array .int
  | 3 => .int
  | 4 => .array .int
  | 5 => .array .int
  | 6 => .array .int
  | 7 => .int
  | 8 => .array .int
  | 9 => .array .int
  | 10 => .int
  | 11 => .int
  | 12 => .array .int
  | 13 => .array .long
  | 14 => .array .long
  | 15 => .array .int
  | 16 => .array .int
  | 17 => .int
  | 18 => .int
  | 19 => .int
  | 20 => .int
  | 21 => .array .int
  | 22 => .array .int
  | _ => .long
abbrev wsX120 : List Cond := u_ws RX12 TX12 24
theorem nmX12 : ∀ a, a < 24 → ∀ b, b < 24 → a ≠ b → (TX12 a).2.1 ≠ (TX12 b).2.1 := by decide +kernel
theorem tyX12_ok : ∀ k, k < 24 → parseFieldDescriptor (TX12 k).2.2.1 = some (tyX12 k) := by decide +kernel
abbrev cX12_init : ByteArray := prog_14_method_1_code
def yX12_init : MethodName := ⟨RX12, "<init>", "()V"⟩
abbrev cX12_in : ByteArray := prog_14_method_2_code
def yX12_in : MethodName := ⟨RX12, "in", "(III)Z"⟩
abbrev cX12_has : ByteArray := prog_14_method_3_code
def yX12_has : MethodName := ⟨RX12, "has", "(II)Z"⟩
abbrev cX12_bits : ByteArray := prog_14_method_4_code
def yX12_bits : MethodName := ⟨RX12, "bits", "(I)I"⟩
abbrev cX12_refuses : ByteArray := prog_14_method_5_code
def yX12_refuses : MethodName := ⟨RX12, "refuses", "(I)I"⟩
abbrev cX12_hold : ByteArray := prog_14_method_6_code
def yX12_hold : MethodName := ⟨RX12, "hold", "()V"⟩
abbrev cX12_push : ByteArray := prog_14_method_7_code
def yX12_push : MethodName := ⟨RX12, "push", "()V"⟩
abbrev cX12_ends : ByteArray := prog_14_method_8_code
def yX12_ends : MethodName := ⟨RX12, "ends", "(I)I"⟩
abbrev cX12_back : ByteArray := prog_14_method_9_code
def yX12_back : MethodName := ⟨RX12, "back", "()I"⟩
abbrev cX12_isBlock : ByteArray := prog_14_method_10_code
def yX12_isBlock : MethodName := ⟨RX12, "isBlock", "(I)Z"⟩
abbrev cX12_ofBlock : ByteArray := prog_14_method_11_code
def yX12_ofBlock : MethodName := ⟨RX12, "ofBlock", "(II)I"⟩
abbrev cX12_moved : ByteArray := prog_14_method_12_code
def yX12_moved : MethodName := ⟨RX12, "moved", "(III)I"⟩
abbrev cX12_placeOf : ByteArray := prog_14_method_13_code
def yX12_placeOf : MethodName := ⟨RX12, "placeOf", "(I)I"⟩
abbrev cX12_doBlock : ByteArray := prog_14_method_14_code
def yX12_doBlock : MethodName := ⟨RX12, "doBlock", "(IIII)I"⟩
abbrev cX12_doShifts : ByteArray := prog_14_method_15_code
def yX12_doShifts : MethodName := ⟨RX12, "doShifts", "(III)I"⟩
abbrev cX12_doBehind : ByteArray := prog_14_method_16_code
def yX12_doBehind : MethodName := ⟨RX12, "doBehind", "(III)I"⟩
abbrev cX12_block : ByteArray := prog_14_method_17_code
def yX12_block : MethodName := ⟨RX12, "block", "(IIII)I"⟩
abbrev cX12_shifts : ByteArray := prog_14_method_18_code
def yX12_shifts : MethodName := ⟨RX12, "shifts", "(III)I"⟩
abbrev cX12_behind : ByteArray := prog_14_method_19_code
def yX12_behind : MethodName := ⟨RX12, "behind", "(III)I"⟩
abbrev cX12_plans : ByteArray := prog_14_method_20_code
def yX12_plans : MethodName := ⟨RX12, "plans", "(II)I"⟩
abbrev cX12_ofAll : ByteArray := prog_14_method_21_code
def yX12_ofAll : MethodName := ⟨RX12, "ofAll", "(II)I"⟩
abbrev cX12_of : ByteArray := prog_14_method_22_code
def yX12_of : MethodName := ⟨RX12, "of", "(II)I"⟩
abbrev cX12_common : ByteArray := prog_14_method_23_code
def yX12_common : MethodName := ⟨RX12, "common", "(III)I"⟩
abbrev cX12_more : ByteArray := prog_14_method_24_code
def yX12_more : MethodName := ⟨RX12, "more", "(II)I"⟩
abbrev cX12_fit : ByteArray := prog_14_method_25_code
def yX12_fit : MethodName := ⟨RX12, "fit", "(II)I"⟩
abbrev cX12_printOn : ByteArray := prog_14_method_26_code
def yX12_printOn : MethodName := ⟨RX12, "printOn", "(II)V"⟩
abbrev cX12_clearSheet : ByteArray := prog_14_method_27_code
def yX12_clearSheet : MethodName := ⟨RX12, "clearSheet", "()V"⟩
abbrev cX12_hits : ByteArray := prog_14_method_28_code
def yX12_hits : MethodName := ⟨RX12, "hits", "()I"⟩
abbrev cX12_begin : ByteArray := prog_14_method_29_code
def yX12_begin : MethodName := ⟨RX12, "begin", "()V"⟩
abbrev cX12_goesOn : ByteArray := prog_14_method_30_code
def yX12_goesOn : MethodName := ⟨RX12, "goesOn", "()Z"⟩
abbrev cX12_exchange : ByteArray := prog_14_method_31_code
def yX12_exchange : MethodName := ⟨RX12, "exchange", "(II)V"⟩
abbrev cX12_isLawful : ByteArray := prog_14_method_32_code
def yX12_isLawful : MethodName := ⟨RX12, "isLawful", "()Z"⟩
abbrev cX12_smearBy : ByteArray := prog_14_method_33_code
def yX12_smearBy : MethodName := ⟨RX12, "smearBy", "(I)I"⟩
abbrev cX12_printAll : ByteArray := prog_14_method_34_code
def yX12_printAll : MethodName := ⟨RX12, "printAll", "()V"⟩
abbrev cX12_lawful : ByteArray := prog_14_method_35_code
def yX12_lawful : MethodName := ⟨RX12, "lawful", "()I"⟩
abbrev cX12_isFound : ByteArray := prog_14_method_36_code
def yX12_isFound : MethodName := ⟨RX12, "isFound", "(IZ)Z"⟩
abbrev cX12_asked : ByteArray := prog_14_method_37_code
def yX12_asked : MethodName := ⟨RX12, "asked", "(IIZ)I"⟩
abbrev cX12_least : ByteArray := prog_14_method_38_code
def yX12_least : MethodName := ⟨RX12, "least", "(II)I"⟩
abbrev cX12_nearest : ByteArray := prog_14_method_39_code
def yX12_nearest : MethodName := ⟨RX12, "nearest", "(II)I"⟩
abbrev cX12_sheets : ByteArray := prog_14_method_40_code
def yX12_sheets : MethodName := ⟨RX12, "sheets", "()I"⟩
abbrev cX12_isNew : ByteArray := prog_14_method_41_code
def yX12_isNew : MethodName := ⟨RX12, "isNew", "(I)Z"⟩
abbrev cX12_doPrints : ByteArray := prog_14_method_42_code
def yX12_doPrints : MethodName := ⟨RX12, "doPrints", "(II)I"⟩
abbrev cX12_takeSheet : ByteArray := prog_14_method_43_code
def yX12_takeSheet : MethodName := ⟨RX12, "takeSheet", "()V"⟩
abbrev cX12_giveSheet : ByteArray := prog_14_method_44_code
def yX12_giveSheet : MethodName := ⟨RX12, "giveSheet", "()V"⟩
abbrev cX12_doNews : ByteArray := prog_14_method_45_code
def yX12_doNews : MethodName := ⟨RX12, "doNews", "()I"⟩
abbrev cX12_prints : ByteArray := prog_14_method_46_code
def yX12_prints : MethodName := ⟨RX12, "prints", "(II)I"⟩
abbrev cX12_news : ByteArray := prog_14_method_47_code
def yX12_news : MethodName := ⟨RX12, "news", "()I"⟩
abbrev cX12_wet : ByteArray := prog_14_method_48_code
def yX12_wet : MethodName := ⟨RX12, "wet", "(I)I"⟩
abbrev cX12_ofCell : ByteArray := prog_14_method_49_code
def yX12_ofCell : MethodName := ⟨RX12, "ofCell", "(II)I"⟩
abbrev cX12_cell : ByteArray := prog_14_method_50_code
def yX12_cell : MethodName := ⟨RX12, "cell", "(II)I"⟩
abbrev cX12_ofHand : ByteArray := prog_14_method_51_code
def yX12_ofHand : MethodName := ⟨RX12, "ofHand", "(I)I"⟩
abbrev cX12_hand : ByteArray := prog_14_method_52_code
def yX12_hand : MethodName := ⟨RX12, "hand", "(I)I"⟩
abbrev cX12_print : ByteArray := prog_14_method_53_code
def yX12_print : MethodName := ⟨RX12, "print", "(II)I"⟩
abbrev cX12_type : ByteArray := prog_14_method_54_code
def yX12_type : MethodName := ⟨RX12, "type", "(I)I"⟩
abbrev cX12_clear : ByteArray := prog_14_method_55_code
def yX12_clear : MethodName := ⟨RX12, "clear", "()I"⟩
abbrev cX12_here : ByteArray := prog_14_method_56_code
def yX12_here : MethodName := ⟨RX12, "here", "()I"⟩
abbrev cX12_must : ByteArray := prog_14_method_57_code
def yX12_must : MethodName := ⟨RX12, "must", "(Z)V"⟩
abbrev cX12_isFigure : ByteArray := prog_14_method_58_code
def yX12_isFigure : MethodName := ⟨RX12, "isFigure", "()Z"⟩
abbrev cX12_number : ByteArray := prog_14_method_59_code
def yX12_number : MethodName := ⟨RX12, "number", "(Z)I"⟩
abbrev cX12_numbersOf : ByteArray := prog_14_method_60_code
def yX12_numbersOf : MethodName := ⟨RX12, "numbersOf", "(I)I"⟩
abbrev cX12_readOrder : ByteArray := prog_14_method_61_code
def yX12_readOrder : MethodName := ⟨RX12, "readOrder", "()V"⟩
abbrev cX12_doOrder : ByteArray := prog_14_method_62_code
def yX12_doOrder : MethodName := ⟨RX12, "doOrder", "(I)I"⟩
abbrev cX12_reads : ByteArray := prog_14_method_63_code
def yX12_reads : MethodName := ⟨RX12, "reads", "()I"⟩
abbrev cX12_toldOf : ByteArray := prog_14_method_64_code
def yX12_toldOf : MethodName := ⟨RX12, "toldOf", "(I)I"⟩
abbrev cX12_told : ByteArray := prog_14_method_65_code
def yX12_told : MethodName := ⟨RX12, "told", "(I)I"⟩
abbrev cX12_mix : ByteArray := prog_14_method_66_code
def yX12_mix : MethodName := ⟨RX12, "mix", "(I)V"⟩
abbrev cX12_digest : ByteArray := prog_14_method_67_code
def yX12_digest : MethodName := ⟨RX12, "digest", "()J"⟩
def RJ6 : String := "java/lang/Integer"
def TJ6 : u_T := fun k => match k with
  | _ => ("", "", "", false)
def tyJ6 : Nat → FieldType := fun k => match k with
  | _ => .int
abbrev wsJ60 : List Cond := u_ws RJ6 TJ6 0
theorem nmJ6 : ∀ a, a < 0 → ∀ b, b < 0 → a ≠ b → (TJ6 a).2.1 ≠ (TJ6 b).2.1 := by decide +kernel
theorem tyJ6_ok : ∀ k, k < 0 → parseFieldDescriptor (TJ6 k).2.2.1 = some (tyJ6 k) := by decide +kernel
abbrev cJ6_bitCount_0f7a4 : ByteArray := prog_15_method_49_code
def yJ6_bitCount_0f7a4 : MethodName := ⟨RJ6, "bitCount", "(I)I"⟩
def RJ13 : String := "java/lang/Long"
def TJ13 : u_T := fun k => match k with
  | _ => ("", "", "", false)
def tyJ13 : Nat → FieldType := fun k => match k with
  | _ => .int
abbrev wsJ130 : List Cond := u_ws RJ13 TJ13 0
theorem nmJ13 : ∀ a, a < 0 → ∀ b, b < 0 → a ≠ b → (TJ13 a).2.1 ≠ (TJ13 b).2.1 := by decide +kernel
theorem tyJ13_ok : ∀ k, k < 0 → parseFieldDescriptor (TJ13 k).2.2.1 = some (tyJ13 k) := by decide +kernel
abbrev cJ13_bitCount_95d88 : ByteArray := prog_16_method_50_code
def yJ13_bitCount_95d88 : MethodName := ⟨RJ13, "bitCount", "(J)I"⟩
def RJ9 : String := "java/lang/Math"
def TJ9 : u_T := fun k => match k with
  | _ => ("", "", "", false)
def tyJ9 : Nat → FieldType := fun k => match k with
  | _ => .int
abbrev wsJ90 : List Cond := u_ws RJ9 TJ9 0
theorem nmJ9 : ∀ a, a < 0 → ∀ b, b < 0 → a ≠ b → (TJ9 a).2.1 ≠ (TJ9 b).2.1 := by decide +kernel
theorem tyJ9_ok : ∀ k, k < 0 → parseFieldDescriptor (TJ9 k).2.2.1 = some (tyJ9 k) := by decide +kernel
abbrev cJ9_max_7cf53 : ByteArray := prog_17_method_65_code
def yJ9_max_7cf53 : MethodName := ⟨RJ9, "max", "(II)I"⟩
abbrev cJ9_min_7cf53 : ByteArray := prog_17_method_69_code
def yJ9_min_7cf53 : MethodName := ⟨RJ9, "min", "(II)I"⟩
def RL : String := "WetPrintsLaw"
abbrev cL_law : ByteArray := code
def yL_law : MethodName := ⟨RL, "law", "([I)Z"⟩
def wsL_law_r1 : List Cond := [Cond.classLink RL 7 RX11, Cond.instantiable RX11 8, Cond.initialized RX11, Cond.classLink RL 10 RX12, Cond.instantiable RX12 24, Cond.initialized RX12, Cond.methodLink RL 9 yX11_init, Cond.instanceMethod yX11_init, Cond.code yX11_init cX11_init 1 none, Cond.methodLink RX11 1 objectInit, Cond.instanceMethod objectInit, Cond.code objectInit ⟨#[0xb1]⟩ 1 none, Cond.classLink RX11 7 RX9, Cond.instantiable RX9 3, Cond.initialized RX9, Cond.fieldLink RX11 10 "WetPrints" "now" "LWetPrints$State;", Cond.classLink RX11 16 RX3, Cond.instantiable RX3 3, Cond.initialized RX3, Cond.fieldLink RX11 19 "WetPrints" "history" "LWetPrints$History;", Cond.classLink RX11 23 RX6, Cond.instantiable RX6 11, Cond.initialized RX6, Cond.fieldLink RX11 25 "WetPrints$State" "blocks" "LWetPrints$Blocks;"]
def wsL_law_r2 : List Cond := [Cond.fieldLink RX11 32 "WetPrints" "search" "LWetPrints$Search;", Cond.classLink RX11 36 RX10, Cond.instantiable RX10 2, Cond.initialized RX10, Cond.fieldLink RX11 39 "WetPrints" "text" "LWetPrints$Text;", Cond.classLink RX11 43 RX4, Cond.instantiable RX4 10, Cond.initialized RX4, Cond.fieldLink RX11 46 "WetPrints" "reader" "LWetPrints$OrderReader;", Cond.fieldLink RX11 50 "WetPrints" "bads" "I", Cond.fieldLink RX11 54 "WetPrints" "nos" "I", Cond.fieldLink RX11 57 "WetPrints" "fulls" "I", Cond.instanceMethod yX9_init, Cond.code yX9_init cX9_init 1 none, Cond.methodLink RX9 1 objectInit, Cond.classLink RX9 7 RX0, Cond.instantiable RX0 9, Cond.initialized RX0, Cond.fieldLink RX9 10 "WetPrints$State" "blocks" "LWetPrints$Blocks;", Cond.classLink RX9 16 RX2, Cond.instantiable RX2 7, Cond.initialized RX2, Cond.fieldLink RX9 19 "WetPrints$State" "work" "LWetPrints$HandWork;", Cond.fieldLink RX9 23 "WetPrints$State" "plan" "J"]
def wsL_law_r3 : List Cond := [Cond.instanceMethod yX0_init, Cond.code yX0_init cX0_init 1 none, Cond.methodLink RX0 3 objectInit, Cond.fieldLink RX0 9 "WetPrints$Blocks" "count" "I", Cond.arrayClass .int, Cond.fieldLink RX0 15 "WetPrints$Blocks" "kinds" "[I", Cond.fieldLink RX0 19 "WetPrints$Blocks" "colours" "[I", Cond.fieldLink RX0 22 "WetPrints$Blocks" "drys" "[I", Cond.fieldLink RX0 25 "WetPrints$Blocks" "areas" "[I", Cond.fieldLink RX0 28 "WetPrints$Blocks" "xs" "[I", Cond.fieldLink RX0 31 "WetPrints$Blocks" "ys" "[I", Cond.fieldLink RX0 34 "WetPrints$Blocks" "places" "[I", Cond.fieldLink RX0 37 "WetPrints$Blocks" "behinds" "[I", Cond.instanceMethod yX2_init, Cond.code yX2_init cX2_init 1 none, Cond.methodLink RX2 3 objectInit, Cond.classLink RX2 9 RX7, Cond.instantiable RX7 3, Cond.initialized RX7, Cond.fieldLink RX2 12 "WetPrints$HandWork" "sheet" "LWetPrints$Sheet;", Cond.fieldLink RX2 18 "WetPrints$HandWork" "hour" "I", Cond.fieldLink RX2 22 "WetPrints$HandWork" "count" "I", Cond.fieldLink RX2 25 "WetPrints$HandWork" "allSmear" "I", Cond.fieldLink RX2 28 "WetPrints$HandWork" "numbers" "[I"]
def wsL_law_r4 : List Cond := [Cond.fieldLink RX2 32 "WetPrints$HandWork" "hours" "[I", Cond.fieldLink RX2 35 "WetPrints$HandWork" "places" "[I", Cond.instanceMethod yX7_init, Cond.code yX7_init cX7_init 1 none, Cond.methodLink RX7 3 objectInit, Cond.fieldLink RX7 9 "WetPrints$Sheet" "colours" "J", Cond.fieldLink RX7 15 "WetPrints$Sheet" "shines" "J", Cond.fieldLink RX7 18 "WetPrints$Sheet" "closed" "I", Cond.methodLink RX11 18 yX3_init, Cond.instanceMethod yX3_init, Cond.code yX3_init cX3_init 2 none, Cond.methodLink RX3 3 objectInit, Cond.classLink RX3 9 RX9, Cond.fieldLink RX3 11 "WetPrints$History" "ring" "[LWetPrints$State;", Cond.fieldLink RX3 17 "WetPrints$History" "next" "I", Cond.fieldLink RX3 21 "WetPrints$History" "count" "I", Cond.methodLink RX11 29 yX6_init, Cond.instanceMethod yX6_init, Cond.code yX6_init cX6_init 2 none, Cond.methodLink RX6 3 objectInit, Cond.classLink RX6 9 RX7, Cond.fieldLink RX6 12 "WetPrints$Search" "sheet" "LWetPrints$Sheet;", Cond.classLink RX6 18 RX8, Cond.instantiable RX8 5]
def wsL_law_r5 : List Cond := [Cond.initialized RX8, Cond.fieldLink RX6 21 "WetPrints$Search" "unlike" "LWetPrints$SheetSet;", Cond.fieldLink RX6 25 "WetPrints$Search" "ways" "[I", Cond.fieldLink RX6 29 "WetPrints$Search" "goal" "I", Cond.fieldLink RX6 33 "WetPrints$Search" "gap" "I", Cond.fieldLink RX6 36 "WetPrints$Search" "plan" "J", Cond.fieldLink RX6 40 "WetPrints$Search" "found" "Z", Cond.fieldLink RX6 44 "WetPrints$Search" "bestHits" "I", Cond.fieldLink RX6 47 "WetPrints$Search" "bestSmear" "I", Cond.fieldLink RX6 50 "WetPrints$Search" "bestOrder" "J", Cond.fieldLink RX6 53 "WetPrints$Search" "blocks" "LWetPrints$Blocks;", Cond.instanceMethod yX8_init, Cond.code yX8_init cX8_init 1 none, Cond.methodLink RX8 1 objectInit, Cond.arrayClass .long, Cond.fieldLink RX8 9 "WetPrints$SheetSet" "faces" "[J", Cond.fieldLink RX8 13 "WetPrints$SheetSet" "shines" "[J", Cond.fieldLink RX8 16 "WetPrints$SheetSet" "rounds" "[I", Cond.fieldLink RX8 20 "WetPrints$SheetSet" "round" "I", Cond.fieldLink RX8 24 "WetPrints$SheetSet" "size" "I", Cond.instanceMethod yX10_init, Cond.code yX10_init cX10_init 1 none, Cond.methodLink RX10 3 objectInit, Cond.fieldLink RX10 9 "WetPrints$Text" "bytes" "[I"]
def wsL_law_r6 : List Cond := [Cond.fieldLink RX10 15 "WetPrints$Text" "length" "I", Cond.instanceMethod yX4_init, Cond.code yX4_init cX4_init 1 none, Cond.methodLink RX4 3 objectInit, Cond.fieldLink RX4 9 "WetPrints$OrderReader" "letter" "I", Cond.fieldLink RX4 15 "WetPrints$OrderReader" "numbers" "[I", Cond.fieldLink RX4 19 "WetPrints$OrderReader" "hasOrder" "Z", Cond.fieldLink RX4 23 "WetPrints$OrderReader" "inside" "Z", Cond.fieldLink RX4 26 "WetPrints$OrderReader" "any" "Z", Cond.fieldLink RX4 29 "WetPrints$OrderReader" "wanted" "I", Cond.fieldLink RX4 32 "WetPrints$OrderReader" "ended" "I", Cond.fieldLink RX4 35 "WetPrints$OrderReader" "value" "I", Cond.fieldLink RX4 38 "WetPrints$OrderReader" "figures" "I", Cond.fieldLink RX4 41 "WetPrints$OrderReader" "negative" "Z", Cond.methodLink RL 12 yX12_init, Cond.instanceMethod yX12_init, Cond.code yX12_init cX12_init 1 none, Cond.methodLink RX12 1 objectInit, Cond.fieldLink RX12 7 "WetPrintsModel" "now" "[I", Cond.fieldLink RX12 13 "WetPrintsModel" "held" "[I", Cond.fieldLink RX12 16 "WetPrintsModel" "past" "[I", Cond.fieldLink RX12 19 "WetPrintsModel" "refused" "[I", Cond.fieldLink RX12 22 "WetPrintsModel" "colour" "[I", Cond.fieldLink RX12 25 "WetPrintsModel" "shine" "[I"]
def wsL_law_r7 : List Cond := [Cond.fieldLink RX12 28 "WetPrintsModel" "order" "[I", Cond.fieldLink RX12 31 "WetPrintsModel" "best" "[I", Cond.fieldLink RX12 34 "WetPrintsModel" "places" "[I", Cond.fieldLink RX12 37 "WetPrintsModel" "colours" "[J", Cond.fieldLink RX12 41 "WetPrintsModel" "shines" "[J", Cond.fieldLink RX12 44 "WetPrintsModel" "closes" "[I", Cond.fieldLink RX12 47 "WetPrintsModel" "text" "[I", Cond.fieldLink RX12 50 "WetPrintsModel" "letters" "[I", Cond.fieldLink RX12 53 "WetPrintsModel" "numbers" "[I", Cond.fieldLink RX12 56 "WetPrintsModel" "pasts" "I", Cond.methodLink RL 13 yX11_block, Cond.instanceMethod yX11_block, Cond.selects RX11 yX11_block yX11_block, Cond.code yX11_block cX11_block 6 (some .int), Cond.methodLink RX11 60 yX11_whyNoBlock, Cond.instanceMethod yX11_whyNoBlock, Cond.selects RX11 yX11_whyNoBlock yX11_whyNoBlock, Cond.code yX11_whyNoBlock cX11_whyNoBlock 5 (some .int), Cond.constant RX11 299 (65535), Cond.fieldLink RX11 276 "WetPrints$Blocks" "count" "I", Cond.methodLink RX11 99 yX11_within, Cond.static yX11_within, Cond.code yX11_within cX11_within 3 (some .boolean), Cond.methodLink RX11 64 yX11_refuse]
def wsL_law_r8 : List Cond := [Cond.instanceMethod yX11_refuse, Cond.selects RX11 yX11_refuse yX11_refuse, Cond.code yX11_refuse cX11_refuse 2 (some .int), Cond.methodLink RX11 68 yX3_keep, Cond.instanceMethod yX3_keep, Cond.selects RX3 yX3_keep yX3_keep, Cond.code yX3_keep cX3_keep 3 none, Cond.methodLink RX3 33 Lib.Math.min.name, Cond.static Lib.Math.min.name, Cond.initialized "java/lang/Math", Cond.code Lib.Math.min.name Lib.Math.min.code 2 (some .int), Cond.methodLink RX3 25 yX3_keptAt, Cond.instanceMethod yX3_keptAt, Cond.selects RX3 yX3_keptAt yX3_keptAt, Cond.code yX3_keptAt cX3_keptAt 2 (some (.object "WetPrints$State")), Cond.methodLink RX3 29 yX9_copyFrom, Cond.instanceMethod yX9_copyFrom, Cond.selects RX9 yX9_copyFrom yX9_copyFrom, Cond.code yX9_copyFrom cX9_copyFrom 2 none, Cond.methodLink RX9 27 yX0_copyFrom, Cond.instanceMethod yX0_copyFrom, Cond.selects RX0 yX0_copyFrom yX0_copyFrom, Cond.code yX0_copyFrom cX0_copyFrom 2 none, Cond.methodLink RX0 78 yX5_copy]
def wsL_law_r9 : List Cond := [Cond.static yX5_copy, Cond.initialized RX5, Cond.code yX5_copy cX5_copy 3 none, Cond.methodLink RX9 31 yX2_copyFrom, Cond.instanceMethod yX2_copyFrom, Cond.selects RX2 yX2_copyFrom yX2_copyFrom, Cond.code yX2_copyFrom cX2_copyFrom 2 none, Cond.methodLink RX2 81 yX7_copyFrom, Cond.instanceMethod yX7_copyFrom, Cond.selects RX7 yX7_copyFrom yX7_copyFrom, Cond.code yX7_copyFrom cX7_copyFrom 2 none, Cond.methodLink RX7 22 yX7_lay, Cond.instanceMethod yX7_lay, Cond.selects RX7 yX7_lay yX7_lay, Cond.code yX7_lay cX7_lay 6 none, Cond.methodLink RX2 85 yX5_copy, Cond.methodLink RX11 72 yX0_add, Cond.instanceMethod yX0_add, Cond.selects RX0 yX0_add yX0_add, Cond.code yX0_add cX0_add 6 (some .int), Cond.methodLink RX0 50 yX5_put, Cond.static yX5_put, Cond.code yX5_put cX5_put 3 none, Cond.methodLink RX0 54 yX0_move]
def wsL_law_r10 : List Cond := [Cond.instanceMethod yX0_move, Cond.selects RX0 yX0_move yX0_move, Cond.code yX0_move cX0_move 4 none, Cond.methodLink RX0 44 yX5_at, Cond.static yX5_at, Cond.code yX5_at cX5_at 2 (some .int), Cond.methodLink RX0 58 yX1_moved, Cond.static yX1_moved, Cond.initialized RX1, Cond.code yX1_moved cX1_moved 8 (some .int), Cond.methodLink RL 17 yX12_block, Cond.instanceMethod yX12_block, Cond.selects RX12 yX12_block yX12_block, Cond.code yX12_block cX12_block 5 (some .int), Cond.methodLink RX12 94 yX12_hold, Cond.instanceMethod yX12_hold, Cond.selects RX12 yX12_hold yX12_hold, Cond.code yX12_hold cX12_hold 2 none, Cond.methodLink RX12 97 yX12_doBlock, Cond.instanceMethod yX12_doBlock, Cond.selects RX12 yX12_doBlock yX12_doBlock, Cond.code yX12_doBlock cX12_doBlock 6 (some .int), Cond.constant RX12 83 (65535), Cond.methodLink RX12 67 yX12_in]
def wsL_law_r11 : List Cond := [Cond.static yX12_in, Cond.code yX12_in cX12_in 3 (some .boolean), Cond.methodLink RX12 101 yX12_ends, Cond.instanceMethod yX12_ends, Cond.selects RX12 yX12_ends yX12_ends, Cond.code yX12_ends cX12_ends 2 (some .int), Cond.methodLink RX12 60 yX12_refuses, Cond.instanceMethod yX12_refuses, Cond.selects RX12 yX12_refuses yX12_refuses, Cond.code yX12_refuses cX12_refuses 2 (some .int), Cond.methodLink RX12 64 yX12_push, Cond.instanceMethod yX12_push, Cond.selects RX12 yX12_push yX12_push, Cond.code yX12_push cX12_push 2 none, Cond.methodLink RL 18 yX11_shifts, Cond.instanceMethod yX11_shifts, Cond.selects RX11 yX11_shifts yX11_shifts, Cond.code yX11_shifts cX11_shifts 5 (some .int), Cond.methodLink RX11 77 yX11_whyNoShift, Cond.instanceMethod yX11_whyNoShift, Cond.selects RX11 yX11_whyNoShift yX11_whyNoShift, Cond.code yX11_whyNoShift cX11_whyNoShift 4 (some .int), Cond.methodLink RX11 117 yX0_has, Cond.instanceMethod yX0_has]
def wsL_law_r12 : List Cond := [Cond.selects RX0 yX0_has yX0_has, Cond.code yX0_has cX0_has 2 (some .boolean), Cond.methodLink RX11 81 yX0_move, Cond.methodLink RX11 85 yX0_placeOf, Cond.instanceMethod yX0_placeOf, Cond.selects RX0 yX0_placeOf yX0_placeOf, Cond.code yX0_placeOf cX0_placeOf 2 (some .int), Cond.methodLink RX11 88 yJ6_bitCount_0f7a4, Cond.static yJ6_bitCount_0f7a4, Cond.initialized RJ6, Cond.code yJ6_bitCount_0f7a4 cJ6_bitCount_0f7a4 1 (some .int), Cond.constant RJ6 265 (1431655765), Cond.constant RJ6 266 (858993459), Cond.constant RJ6 267 (252645135), Cond.methodLink RL 22 yX12_shifts, Cond.instanceMethod yX12_shifts, Cond.selects RX12 yX12_shifts yX12_shifts, Cond.code yX12_shifts cX12_shifts 4 (some .int), Cond.methodLink RX12 104 yX12_doShifts, Cond.instanceMethod yX12_doShifts, Cond.selects RX12 yX12_doShifts yX12_doShifts, Cond.code yX12_doShifts cX12_doShifts 4 (some .int), Cond.methodLink RX12 84 yX12_isBlock, Cond.instanceMethod yX12_isBlock]
def wsL_law_r13 : List Cond := [Cond.selects RX12 yX12_isBlock yX12_isBlock, Cond.code yX12_isBlock cX12_isBlock 2 (some .boolean), Cond.methodLink RX12 88 yX12_placeOf, Cond.instanceMethod yX12_placeOf, Cond.selects RX12 yX12_placeOf yX12_placeOf, Cond.code yX12_placeOf cX12_placeOf 2 (some .int), Cond.methodLink RX12 75 yX12_ofBlock, Cond.instanceMethod yX12_ofBlock, Cond.selects RX12 yX12_ofBlock yX12_ofBlock, Cond.code yX12_ofBlock cX12_ofBlock 3 (some .int), Cond.methodLink RX12 79 yX12_moved, Cond.static yX12_moved, Cond.code yX12_moved cX12_moved 7 (some .int), Cond.methodLink RX12 71 yX12_has, Cond.static yX12_has, Cond.code yX12_has cX12_has 2 (some .boolean), Cond.methodLink RX12 91 yX12_bits, Cond.static yX12_bits, Cond.code yX12_bits cX12_bits 3 (some .int), Cond.methodLink RL 23 yX11_behind, Cond.instanceMethod yX11_behind, Cond.selects RX11 yX11_behind yX11_behind, Cond.code yX11_behind cX11_behind 5 (some .int), Cond.methodLink RX11 93 yX11_whyNoBehind]
def wsL_law_r14 : List Cond := [Cond.instanceMethod yX11_whyNoBehind, Cond.selects RX11 yX11_whyNoBehind yX11_whyNoBehind, Cond.code yX11_whyNoBehind cX11_whyNoBehind 4 (some .int), Cond.methodLink RX11 149 yX0_areUnlike, Cond.instanceMethod yX0_areUnlike, Cond.selects RX0 yX0_areUnlike yX0_areUnlike, Cond.code yX0_areUnlike cX0_areUnlike 3 (some .boolean), Cond.methodLink RX0 40 yX0_has, Cond.methodLink RX11 96 yX0_tellBehind, Cond.instanceMethod yX0_tellBehind, Cond.selects RX0 yX0_tellBehind yX0_tellBehind, Cond.code yX0_tellBehind cX0_tellBehind 5 (some .int), Cond.methodLink RL 26 yX12_behind, Cond.instanceMethod yX12_behind, Cond.selects RX12 yX12_behind yX12_behind, Cond.code yX12_behind cX12_behind 4 (some .int), Cond.methodLink RX12 107 yX12_doBehind, Cond.instanceMethod yX12_doBehind, Cond.selects RX12 yX12_doBehind yX12_doBehind, Cond.code yX12_doBehind cX12_doBehind 6 (some .int), Cond.methodLink RL 27 yX11_plans, Cond.instanceMethod yX11_plans, Cond.selects RX11 yX11_plans yX11_plans, Cond.code yX11_plans cX11_plans 4 (some .int)]
def wsL_law_r15 : List Cond := [Cond.fieldLink RX11 103 "WetPrints$State" "plan" "J", Cond.methodLink RX11 107 yX1_nibble, Cond.static yX1_nibble, Cond.code yX1_nibble cX1_nibble 3 (some .int), Cond.methodLink RX11 113 yX1_withNibble, Cond.static yX1_withNibble, Cond.code yX1_withNibble cX1_withNibble 4 (some .long), Cond.constantLong RX1 9 (15), Cond.constantLong RX1 11 (-1), Cond.methodLink RL 31 yX12_plans, Cond.instanceMethod yX12_plans, Cond.selects RX12 yX12_plans yX12_plans, Cond.code yX12_plans cX12_plans 4 (some .int), Cond.methodLink RL 32 yX11_of, Cond.instanceMethod yX11_of, Cond.selects RX11 yX11_of yX11_of, Cond.code yX11_of cX11_of 3 (some .int), Cond.fieldLink RX11 121 "WetPrints$Blocks" "kinds" "[I", Cond.fieldLink RX11 131 "WetPrints$Blocks" "colours" "[I", Cond.fieldLink RX11 134 "WetPrints$Blocks" "drys" "[I", Cond.fieldLink RX11 137 "WetPrints$Blocks" "areas" "[I", Cond.fieldLink RX11 140 "WetPrints$Blocks" "xs" "[I", Cond.fieldLink RX11 143 "WetPrints$Blocks" "ys" "[I", Cond.fieldLink RX11 146 "WetPrints$Blocks" "behinds" "[I"]
def wsL_law_r16 : List Cond := [Cond.methodLink RX11 125 yX5_at, Cond.methodLink RL 35 yX12_of, Cond.instanceMethod yX12_of, Cond.selects RX12 yX12_of yX12_of, Cond.code yX12_of cX12_of 3 (some .int), Cond.methodLink RX12 110 yX12_ofAll, Cond.instanceMethod yX12_ofAll, Cond.selects RX12 yX12_ofAll yX12_ofAll, Cond.code yX12_ofAll cX12_ofAll 3 (some .int), Cond.methodLink RL 36 yX11_common, Cond.instanceMethod yX11_common, Cond.selects RX11 yX11_common yX11_common, Cond.code yX11_common cX11_common 5 (some .int), Cond.methodLink RL 39 yX12_common, Cond.instanceMethod yX12_common, Cond.selects RX12 yX12_common yX12_common, Cond.code yX12_common cX12_common 5 (some .int), Cond.methodLink RL 40 yX11_fit, Cond.instanceMethod yX11_fit, Cond.selects RX11 yX11_fit yX11_fit, Cond.code yX11_fit cX11_fit 11 (some .int), Cond.methodLink RX11 153 yX1_alike, Cond.static yX1_alike, Cond.code yX1_alike cX1_alike 5 (some .int)]
def wsL_law_r17 : List Cond := [Cond.methodLink RX1 24 yX1_nibble, Cond.methodLink RX11 156 yX1_moved, Cond.methodLink RX11 159 yX11_gainOf, Cond.static yX11_gainOf, Cond.code yX11_gainOf cX11_gainOf 2 (some .int), Cond.methodLink RL 43 yX12_fit, Cond.instanceMethod yX12_fit, Cond.selects RX12 yX12_fit yX12_fit, Cond.code yX12_fit cX12_fit 7 (some .int), Cond.methodLink RX12 113 yX12_more, Cond.instanceMethod yX12_more, Cond.selects RX12 yX12_more yX12_more, Cond.code yX12_more cX12_more 5 (some .int), Cond.methodLink RL 44 yX11_lawful, Cond.instanceMethod yX11_lawful, Cond.selects RX11 yX11_lawful yX11_lawful, Cond.code yX11_lawful cX11_lawful 1 (some .int), Cond.methodLink RX11 163 yX6_countLawful, Cond.instanceMethod yX6_countLawful, Cond.selects RX6 yX6_countLawful yX6_countLawful, Cond.code yX6_countLawful cX6_countLawful 3 (some .int), Cond.fieldLink RX6 57 "WetPrints$Blocks" "count" "I", Cond.methodLink RX6 62 yX5_put, Cond.methodLink RX6 68 yX6_waysTo]
def wsL_law_r18 : List Cond := [Cond.instanceMethod yX6_waysTo, Cond.selects RX6 yX6_waysTo yX6_waysTo, Cond.code yX6_waysTo cX6_waysTo 5 (some .int), Cond.methodLink RX6 76 yX0_mayFollow, Cond.instanceMethod yX0_mayFollow, Cond.selects RX0 yX0_mayFollow yX0_mayFollow, Cond.code yX0_mayFollow cX0_mayFollow 3 (some .boolean), Cond.methodLink RX6 72 yX5_at, Cond.methodLink RL 48 yX12_lawful, Cond.instanceMethod yX12_lawful, Cond.selects RX12 yX12_lawful yX12_lawful, Cond.code yX12_lawful cX12_lawful 3 (some .int), Cond.methodLink RX12 129 yX12_begin, Cond.instanceMethod yX12_begin, Cond.selects RX12 yX12_begin yX12_begin, Cond.code yX12_begin cX12_begin 2 none, Cond.methodLink RX12 132 yX12_isLawful, Cond.instanceMethod yX12_isLawful, Cond.selects RX12 yX12_isLawful yX12_isLawful, Cond.code yX12_isLawful cX12_isLawful 4 (some .boolean), Cond.methodLink RX12 136 yX12_goesOn, Cond.instanceMethod yX12_goesOn, Cond.selects RX12 yX12_goesOn yX12_goesOn, Cond.code yX12_goesOn cX12_goesOn 5 (some .boolean)]
def wsL_law_r19 : List Cond := [Cond.methodLink RX12 119 yX12_exchange, Cond.instanceMethod yX12_exchange, Cond.selects RX12 yX12_exchange yX12_exchange, Cond.code yX12_exchange cX12_exchange 4 none, Cond.methodLink RL 49 yX11_least, Cond.instanceMethod yX11_least, Cond.selects RX11 yX11_least yX11_least, Cond.code yX11_least cX11_least 3 (some .int), Cond.fieldLink RX11 174 "WetPrints$Search" "bestSmear" "I", Cond.methodLink RX11 167 yX11_refuseOrder, Cond.instanceMethod yX11_refuseOrder, Cond.selects RX11 yX11_refuseOrder yX11_refuseOrder, Cond.code yX11_refuseOrder cX11_refuseOrder 2 (some .int), Cond.methodLink RX11 170 yX6_run, Cond.instanceMethod yX6_run, Cond.selects RX6 yX6_run yX6_run, Cond.code yX6_run cX6_run 5 none, Cond.methodLink RX6 80 yX8_empty, Cond.instanceMethod yX8_empty, Cond.selects RX8 yX8_empty yX8_empty, Cond.code yX8_empty cX8_empty 1 none, Cond.methodLink RX6 83 yX7_wipe, Cond.instanceMethod yX7_wipe, Cond.selects RX7 yX7_wipe yX7_wipe]
def wsL_law_r20 : List Cond := [Cond.code yX7_wipe cX7_wipe 1 none, Cond.methodLink RX6 86 yX6_extend, Cond.static yX6_extend, Cond.code yX6_extend cX6_extend 14 none, Cond.fieldLink RX6 94 "WetPrints$Sheet" "colours" "J", Cond.fieldLink RX6 97 "WetPrints$Sheet" "shines" "J", Cond.fieldLink RX6 100 "WetPrints$Sheet" "closed" "I", Cond.methodLink RX6 90 yX6_judge, Cond.instanceMethod yX6_judge, Cond.selects RX6 yX6_judge yX6_judge, Cond.code yX6_judge cX6_judge 6 none, Cond.methodLink RX6 132 yX8_add, Cond.instanceMethod yX8_add, Cond.selects RX8 yX8_add yX8_add, Cond.code yX8_add cX8_add 11 none, Cond.fieldLink RX8 33 "WetPrints$Sheet" "shines" "J", Cond.constantLong RX8 36 (-7046029254386353131), Cond.constantLong RX8 38 (-4417276706812531889), Cond.methodLink RX8 27 yX7_coloursAndClosed, Cond.instanceMethod yX7_coloursAndClosed, Cond.selects RX7 yX7_coloursAndClosed yX7_coloursAndClosed, Cond.code yX7_coloursAndClosed cX7_coloursAndClosed 1 (some .long), Cond.methodLink RX7 26 yX1_spread, Cond.static yX1_spread]
def wsL_law_r21 : List Cond := [Cond.code yX1_spread cX1_spread 3 (some .long), Cond.constant RX1 13 (65535), Cond.constantLong RX1 14 (1095216660735), Cond.constantLong RX1 16 (4222189076152335), Cond.constantLong RX1 18 (217020518514230019), Cond.constantLong RX1 22 (1229782938247303441), Cond.methodLink RX6 136 yX7_hits, Cond.instanceMethod yX7_hits, Cond.selects RX7 yX7_hits yX7_hits, Cond.code yX7_hits cX7_hits 3 (some .int), Cond.methodLink RX7 49 yX1_filled, Cond.static yX1_filled, Cond.code yX1_filled cX1_filled 2 (some .long), Cond.methodLink RX7 53 yJ13_bitCount_95d88, Cond.static yJ13_bitCount_95d88, Cond.initialized RJ13, Cond.code yJ13_bitCount_95d88 cJ13_bitCount_95d88 2 (some .int), Cond.constantLong RJ13 314 (6148914691236517205), Cond.constantLong RJ13 316 (3689348814741910323), Cond.constantLong RJ13 318 (1085102592571150095), Cond.methodLink RX6 103 yX7_lay, Cond.methodLink RX6 107 yX0_printOn, Cond.instanceMethod yX0_printOn, Cond.selects RX0 yX0_printOn yX0_printOn]
def wsL_law_r22 : List Cond := [Cond.code yX0_printOn cX0_printOn 3 none, Cond.methodLink RX0 64 yX0_placeOf, Cond.methodLink RX0 68 yX7_take, Cond.instanceMethod yX7_take, Cond.selects RX7 yX7_take yX7_take, Cond.code yX7_take cX7_take 6 none, Cond.methodLink RX7 32 yX7_cover, Cond.instanceMethod yX7_cover, Cond.selects RX7 yX7_cover yX7_cover, Cond.code yX7_cover cX7_cover 4 none, Cond.constantLong RX7 43 (15), Cond.constantLong RX7 45 (-1), Cond.methodLink RX7 36 yX7_mix, Cond.instanceMethod yX7_mix, Cond.selects RX7 yX7_mix yX7_mix, Cond.code yX7_mix cX7_mix 6 none, Cond.constantLong RX7 47 (8608480567731124087), Cond.methodLink RX7 39 yX7_polish, Cond.instanceMethod yX7_polish, Cond.selects RX7 yX7_polish yX7_polish, Cond.code yX7_polish cX7_polish 5 none, Cond.methodLink RX6 111 yX6_smearOf, Cond.instanceMethod yX6_smearOf, Cond.selects RX6 yX6_smearOf yX6_smearOf]
def wsL_law_r23 : List Cond := [Cond.code yX6_smearOf cX6_smearOf 9 (some .int), Cond.methodLink RX6 121 yX0_placeOf, Cond.methodLink RX6 124 yX1_nibble, Cond.methodLink RX6 128 yX0_smearBy, Cond.instanceMethod yX0_smearBy, Cond.selects RX0 yX0_smearBy yX0_smearBy, Cond.code yX0_smearBy cX0_smearBy 5 (some .int), Cond.methodLink RX0 73 yJ6_bitCount_0f7a4, Cond.methodLink RX6 115 yX1_withNibble, Cond.methodLink RX11 177 yX11_blockOfBest, Cond.instanceMethod yX11_blockOfBest, Cond.selects RX11 yX11_blockOfBest yX11_blockOfBest, Cond.code yX11_blockOfBest cX11_blockOfBest 2 (some .int), Cond.fieldLink RX11 306 "WetPrints$Search" "bestOrder" "J", Cond.methodLink RL 52 yX12_least, Cond.instanceMethod yX12_least, Cond.selects RX12 yX12_least yX12_least, Cond.code yX12_least cX12_least 3 (some .int), Cond.methodLink RX12 159 yX12_asked, Cond.instanceMethod yX12_asked, Cond.selects RX12 yX12_asked yX12_asked, Cond.code yX12_asked cX12_asked 4 (some .int), Cond.fieldLink RX12 149 "WetPrintsModel" "bestHits" "I", Cond.fieldLink RX12 152 "WetPrintsModel" "bestSmear" "I"]
def wsL_law_r24 : List Cond := [Cond.methodLink RX12 155 yX12_isFound, Cond.instanceMethod yX12_isFound, Cond.selects RX12 yX12_isFound yX12_isFound, Cond.code yX12_isFound cX12_isFound 8 (some .boolean), Cond.methodLink RX12 139 yX12_smearBy, Cond.instanceMethod yX12_smearBy, Cond.selects RX12 yX12_smearBy yX12_smearBy, Cond.code yX12_smearBy cX12_smearBy 6 (some .int), Cond.methodLink RX12 142 yX12_printAll, Cond.instanceMethod yX12_printAll, Cond.selects RX12 yX12_printAll yX12_printAll, Cond.code yX12_printAll cX12_printAll 2 none, Cond.methodLink RX12 123 yX12_clearSheet, Cond.instanceMethod yX12_clearSheet, Cond.selects RX12 yX12_clearSheet yX12_clearSheet, Cond.code yX12_clearSheet cX12_clearSheet 2 none, Cond.fieldLink RX12 116 "WetPrintsModel" "closed" "I", Cond.methodLink RX12 126 yX12_printOn, Cond.instanceMethod yX12_printOn, Cond.selects RX12 yX12_printOn yX12_printOn, Cond.code yX12_printOn cX12_printOn 7 none, Cond.methodLink RX12 145 yX12_hits, Cond.instanceMethod yX12_hits, Cond.selects RX12 yX12_hits yX12_hits]
def wsL_law_r25 : List Cond := [Cond.code yX12_hits cX12_hits 3 (some .int), Cond.methodLink RL 53 yX11_nearest, Cond.instanceMethod yX11_nearest, Cond.selects RX11 yX11_nearest yX11_nearest, Cond.code yX11_nearest cX11_nearest 3 (some .int), Cond.fieldLink RX11 180 "WetPrints$Search" "bestHits" "I", Cond.methodLink RL 56 yX12_nearest, Cond.instanceMethod yX12_nearest, Cond.selects RX12 yX12_nearest yX12_nearest, Cond.code yX12_nearest cX12_nearest 3 (some .int), Cond.methodLink RL 57 yX11_sheets, Cond.instanceMethod yX11_sheets, Cond.selects RX11 yX11_sheets yX11_sheets, Cond.code yX11_sheets cX11_sheets 1 (some .int), Cond.fieldLink RX11 183 "WetPrints$Search" "unlike" "LWetPrints$SheetSet;", Cond.fieldLink RX11 187 "WetPrints$SheetSet" "size" "I", Cond.methodLink RL 60 yX12_sheets, Cond.instanceMethod yX12_sheets, Cond.selects RX12 yX12_sheets yX12_sheets, Cond.code yX12_sheets cX12_sheets 3 (some .int), Cond.methodLink RX12 163 yX12_isNew, Cond.instanceMethod yX12_isNew, Cond.selects RX12 yX12_isNew yX12_isNew, Cond.code yX12_isNew cX12_isNew 8 (some .boolean)]
def wsL_law_r26 : List Cond := [Cond.methodLink RL 61 yX11_prints, Cond.instanceMethod yX11_prints, Cond.selects RX11 yX11_prints yX11_prints, Cond.code yX11_prints cX11_prints 4 (some .int), Cond.fieldLink RX11 195 "WetPrints$State" "work" "LWetPrints$HandWork;", Cond.methodLink RX11 192 yX11_whyNoPrint, Cond.instanceMethod yX11_whyNoPrint, Cond.selects RX11 yX11_whyNoPrint yX11_whyNoPrint, Cond.code yX11_whyNoPrint cX11_whyNoPrint 3 (some .int), Cond.fieldLink RX11 229 "WetPrints$HandWork" "count" "I", Cond.methodLink RX11 300 yX2_printed, Cond.instanceMethod yX2_printed, Cond.selects RX2 yX2_printed yX2_printed, Cond.code yX2_printed cX2_printed 3 (some .int), Cond.methodLink RX2 58 yX5_at, Cond.methodLink RX11 303 yX0_mayFollow, Cond.methodLink RX11 199 yX2_printNext, Cond.instanceMethod yX2_printNext, Cond.selects RX2 yX2_printNext yX2_printNext, Cond.code yX2_printNext cX2_printNext 6 (some .int), Cond.methodLink RX2 38 yX0_placeOf, Cond.methodLink RX2 44 yX2_smearOn, Cond.instanceMethod yX2_smearOn, Cond.selects RX2 yX2_smearOn yX2_smearOn]
def wsL_law_r27 : List Cond := [Cond.code yX2_smearOn cX2_smearOn 6 (some .int), Cond.methodLink RX2 62 yX0_smearBy, Cond.methodLink RX2 48 yX0_printOn, Cond.methodLink RX2 52 yX5_put, Cond.methodLink RL 64 yX12_prints, Cond.instanceMethod yX12_prints, Cond.selects RX12 yX12_prints yX12_prints, Cond.code yX12_prints cX12_prints 3 (some .int), Cond.methodLink RX12 172 yX12_doPrints, Cond.instanceMethod yX12_doPrints, Cond.selects RX12 yX12_doPrints yX12_doPrints, Cond.code yX12_doPrints cX12_doPrints 8 (some .int), Cond.methodLink RX12 166 yX12_takeSheet, Cond.instanceMethod yX12_takeSheet, Cond.selects RX12 yX12_takeSheet yX12_takeSheet, Cond.code yX12_takeSheet cX12_takeSheet 2 none, Cond.methodLink RX12 169 yX12_giveSheet, Cond.instanceMethod yX12_giveSheet, Cond.selects RX12 yX12_giveSheet yX12_giveSheet, Cond.code yX12_giveSheet cX12_giveSheet 2 none, Cond.methodLink RL 65 yX11_news, Cond.instanceMethod yX11_news, Cond.selects RX11 yX11_news yX11_news, Cond.code yX11_news cX11_news 1 (some .int)]
def wsL_law_r28 : List Cond := [Cond.methodLink RX11 205 yX2_renew, Cond.instanceMethod yX2_renew, Cond.selects RX2 yX2_renew yX2_renew, Cond.code yX2_renew cX2_renew 2 (some .int), Cond.methodLink RX2 78 yX7_wipe, Cond.methodLink RL 68 yX12_news, Cond.instanceMethod yX12_news, Cond.selects RX12 yX12_news yX12_news, Cond.code yX12_news cX12_news 1 (some .int), Cond.methodLink RX12 175 yX12_doNews, Cond.instanceMethod yX12_doNews, Cond.selects RX12 yX12_doNews yX12_doNews, Cond.code yX12_doNews cX12_doNews 2 (some .int), Cond.methodLink RL 69 yX11_cell, Cond.instanceMethod yX11_cell, Cond.selects RX11 yX11_cell yX11_cell, Cond.code yX11_cell cX11_cell 4 (some .int), Cond.fieldLink RX11 208 "WetPrints$HandWork" "sheet" "LWetPrints$Sheet;", Cond.fieldLink RX11 212 "WetPrints$Sheet" "colours" "J", Cond.fieldLink RX11 216 "WetPrints$Sheet" "shines" "J", Cond.fieldLink RX11 219 "WetPrints$Sheet" "closed" "I", Cond.methodLink RX11 222 yX2_wetHours, Cond.instanceMethod yX2_wetHours, Cond.selects RX2 yX2_wetHours yX2_wetHours]
def wsL_law_r29 : List Cond := [Cond.code yX2_wetHours cX2_wetHours 6 (some .int), Cond.fieldLink RX2 66 "WetPrints$Blocks" "drys" "[I", Cond.methodLink RX2 69 Lib.Math.max.name, Cond.static Lib.Math.max.name, Cond.code Lib.Math.max.name Lib.Math.max.code 2 (some .int), Cond.methodLink RL 72 yX12_cell, Cond.instanceMethod yX12_cell, Cond.selects RX12 yX12_cell yX12_cell, Cond.code yX12_cell cX12_cell 3 (some .int), Cond.methodLink RX12 181 yX12_ofCell, Cond.instanceMethod yX12_ofCell, Cond.selects RX12 yX12_ofCell yX12_ofCell, Cond.code yX12_ofCell cX12_ofCell 3 (some .int), Cond.methodLink RX12 178 yX12_wet, Cond.instanceMethod yX12_wet, Cond.selects RX12 yX12_wet yX12_wet, Cond.code yX12_wet cX12_wet 5 (some .int), Cond.methodLink RL 73 yX11_hand, Cond.instanceMethod yX11_hand, Cond.selects RX11 yX11_hand yX11_hand, Cond.code yX11_hand cX11_hand 3 (some .int), Cond.fieldLink RX11 226 "WetPrints$HandWork" "hour" "I", Cond.fieldLink RX11 232 "WetPrints$HandWork" "allSmear" "I", Cond.methodLink RX11 235 yX7_hits]
def wsL_law_r30 : List Cond := [Cond.methodLink RX11 239 yX2_wetCells, Cond.instanceMethod yX2_wetCells, Cond.selects RX2 yX2_wetCells yX2_wetCells, Cond.code yX2_wetCells cX2_wetCells 4 (some .int), Cond.methodLink RX2 75 yX2_wetHours, Cond.methodLink RX11 243 yX1_filled, Cond.methodLink RX11 247 yJ13_bitCount_95d88, Cond.methodLink RL 77 yX12_hand, Cond.instanceMethod yX12_hand, Cond.selects RX12 yX12_hand yX12_hand, Cond.code yX12_hand cX12_hand 2 (some .int), Cond.methodLink RX12 184 yX12_ofHand, Cond.instanceMethod yX12_ofHand, Cond.selects RX12 yX12_ofHand yX12_ofHand, Cond.code yX12_ofHand cX12_ofHand 4 (some .int), Cond.methodLink RL 78 yX11_print, Cond.instanceMethod yX11_print, Cond.selects RX11 yX11_print yX11_print, Cond.code yX11_print cX11_print 3 (some .int), Cond.fieldLink RX11 251 "WetPrints$HandWork" "numbers" "[I", Cond.fieldLink RX11 254 "WetPrints$HandWork" "hours" "[I", Cond.fieldLink RX11 257 "WetPrints$HandWork" "places" "[I", Cond.methodLink RL 81 yX12_print, Cond.instanceMethod yX12_print]
def wsL_law_r31 : List Cond := [Cond.selects RX12 yX12_print yX12_print, Cond.code yX12_print cX12_print 3 (some .int), Cond.methodLink RL 82 yX11_type, Cond.instanceMethod yX11_type, Cond.selects RX11 yX11_type yX11_type, Cond.code yX11_type cX11_type 2 (some .int), Cond.fieldLink RX11 260 "WetPrints$Text" "length" "I", Cond.methodLink RX11 263 yX10_add, Cond.instanceMethod yX10_add, Cond.selects RX10 yX10_add yX10_add, Cond.code yX10_add cX10_add 2 none, Cond.methodLink RX10 19 yX5_put, Cond.methodLink RL 85 yX12_type, Cond.instanceMethod yX12_type, Cond.selects RX12 yX12_type yX12_type, Cond.code yX12_type cX12_type 2 (some .int), Cond.fieldLink RX12 187 "WetPrintsModel" "typed" "I", Cond.methodLink RL 86 yX11_clear, Cond.instanceMethod yX11_clear, Cond.selects RX11 yX11_clear yX11_clear, Cond.code yX11_clear cX11_clear 2 (some .int), Cond.methodLink RL 89 yX12_clear, Cond.instanceMethod yX12_clear, Cond.selects RX12 yX12_clear yX12_clear]
def wsL_law_r32 : List Cond := [Cond.code yX12_clear cX12_clear 2 (some .int), Cond.methodLink RL 90 yX11_reads, Cond.instanceMethod yX11_reads, Cond.selects RX11 yX11_reads yX11_reads, Cond.code yX11_reads cX11_reads 2 (some .int), Cond.methodLink RX11 266 yX11_faultOfText, Cond.instanceMethod yX11_faultOfText, Cond.selects RX11 yX11_faultOfText yX11_faultOfText, Cond.code yX11_faultOfText cX11_faultOfText 2 (some .int), Cond.fieldLink RX11 312 "WetPrints$Text" "bytes" "[I", Cond.methodLink RX11 309 yX4_restart, Cond.instanceMethod yX4_restart, Cond.selects RX4 yX4_restart yX4_restart, Cond.code yX4_restart cX4_restart 1 none, Cond.methodLink RX11 315 yX4_takes, Cond.instanceMethod yX4_takes, Cond.selects RX4 yX4_takes yX4_takes, Cond.code yX4_takes cX4_takes 2 (some .boolean), Cond.methodLink RX4 44 yX4_begins, Cond.instanceMethod yX4_begins, Cond.selects RX4 yX4_begins yX4_begins, Cond.code yX4_begins cX4_begins 2 (some .boolean), Cond.methodLink RX4 61 yX4_numbersBehind, Cond.static yX4_numbersBehind]
def wsL_law_r33 : List Cond := [Cond.code yX4_numbersBehind cX4_numbersBehind 1 (some .int), Cond.methodLink RX4 65 yX4_startNumber, Cond.instanceMethod yX4_startNumber, Cond.selects RX4 yX4_startNumber yX4_startNumber, Cond.code yX4_startNumber cX4_startNumber 1 none, Cond.methodLink RX4 48 yX4_figure, Cond.instanceMethod yX4_figure, Cond.selects RX4 yX4_figure yX4_figure, Cond.code yX4_figure cX4_figure 2 (some .boolean), Cond.methodLink RX4 51 yX4_endNumber, Cond.instanceMethod yX4_endNumber, Cond.selects RX4 yX4_endNumber yX4_endNumber, Cond.code yX4_endNumber cX4_endNumber 1 none, Cond.methodLink RX4 68 yX5_put, Cond.methodLink RX4 54 yX4_minus, Cond.instanceMethod yX4_minus, Cond.selects RX4 yX4_minus yX4_minus, Cond.code yX4_minus cX4_minus 1 (some .boolean), Cond.methodLink RX4 58 yX4_endOrder, Cond.instanceMethod yX4_endOrder, Cond.selects RX4 yX4_endOrder yX4_endOrder, Cond.code yX4_endOrder cX4_endOrder 1 (some .boolean), Cond.methodLink RX11 318 yX4_mayEnd, Cond.instanceMethod yX4_mayEnd]
def wsL_law_r34 : List Cond := [Cond.selects RX4 yX4_mayEnd yX4_mayEnd, Cond.code yX4_mayEnd cX4_mayEnd 1 (some .boolean), Cond.methodLink RX11 269 yX11_doText, Cond.instanceMethod yX11_doText, Cond.selects RX11 yX11_doText yX11_doText, Cond.code yX11_doText cX11_doText 3 (some .int), Cond.fieldLink RX11 322 "WetPrints$OrderReader" "hasOrder" "Z", Cond.methodLink RX11 326 yX11_doOrder, Cond.instanceMethod yX11_doOrder, Cond.selects RX11 yX11_doOrder yX11_doOrder, Cond.code yX11_doOrder cX11_doOrder 5 (some .boolean), Cond.fieldLink RX11 329 "WetPrints$OrderReader" "numbers" "[I", Cond.fieldLink RX11 330 "WetPrints$OrderReader" "letter" "I", Cond.methodLink RL 93 yX12_reads, Cond.instanceMethod yX12_reads, Cond.selects RX12 yX12_reads yX12_reads, Cond.code yX12_reads cX12_reads 3 (some .int), Cond.fieldLink RX12 190 "WetPrintsModel" "at" "I", Cond.fieldLink RX12 193 "WetPrintsModel" "fault" "I", Cond.fieldLink RX12 209 "WetPrintsModel" "orders" "I", Cond.methodLink RX12 196 yX12_here, Cond.instanceMethod yX12_here, Cond.selects RX12 yX12_here yX12_here, Cond.code yX12_here cX12_here 1 (some .int)]
def wsL_law_r35 : List Cond := [Cond.methodLink RX12 202 yX12_must, Cond.instanceMethod yX12_must, Cond.selects RX12 yX12_must yX12_must, Cond.code yX12_must cX12_must 2 none, Cond.methodLink RX12 216 yX12_readOrder, Cond.instanceMethod yX12_readOrder, Cond.selects RX12 yX12_readOrder yX12_readOrder, Cond.code yX12_readOrder cX12_readOrder 4 none, Cond.methodLink RX12 206 yX12_numbersOf, Cond.static yX12_numbersOf, Cond.code yX12_numbersOf cX12_numbersOf 1 (some .int), Cond.methodLink RX12 212 yX12_number, Cond.instanceMethod yX12_number, Cond.selects RX12 yX12_number yX12_number, Cond.code yX12_number cX12_number 5 (some .int), Cond.methodLink RX12 199 yX12_isFigure, Cond.instanceMethod yX12_isFigure, Cond.selects RX12 yX12_isFigure yX12_isFigure, Cond.code yX12_isFigure cX12_isFigure 1 (some .boolean), Cond.methodLink RX12 219 yX12_doOrder, Cond.instanceMethod yX12_doOrder, Cond.selects RX12 yX12_doOrder yX12_doOrder, Cond.code yX12_doOrder cX12_doOrder 5 (some .int), Cond.methodLink RL 94 yX11_back]
def wsL_law_r36 : List Cond := [Cond.instanceMethod yX11_back, Cond.selects RX11 yX11_back yX11_back, Cond.code yX11_back cX11_back 1 (some .int), Cond.fieldLink RX11 272 "WetPrints$History" "count" "I", Cond.methodLink RX11 273 yX3_restore, Cond.instanceMethod yX3_restore, Cond.selects RX3 yX3_restore yX3_restore, Cond.code yX3_restore cX3_restore 4 none, Cond.methodLink RL 97 yX12_back, Cond.instanceMethod yX12_back, Cond.selects RX12 yX12_back yX12_back, Cond.code yX12_back cX12_back 2 (some .int), Cond.methodLink RL 98 yX11_told, Cond.instanceMethod yX11_told, Cond.selects RX11 yX11_told yX11_told, Cond.code yX11_told cX11_told 2 (some .int), Cond.methodLink RL 101 yX12_told, Cond.instanceMethod yX12_told, Cond.selects RX12 yX12_told yX12_told, Cond.code yX12_told cX12_told 2 (some .int), Cond.methodLink RX12 222 yX12_toldOf, Cond.instanceMethod yX12_toldOf, Cond.selects RX12 yX12_toldOf yX12_toldOf, Cond.code yX12_toldOf cX12_toldOf 2 (some .int)]
def wsL_law_r37 : List Cond := [Cond.methodLink RL 102 yX11_digest, Cond.instanceMethod yX11_digest, Cond.selects RX11 yX11_digest yX11_digest, Cond.code yX11_digest cX11_digest 5 (some .long), Cond.constantLong RX11 277 (2393), Cond.constantLong RX11 279 (31), Cond.methodLink RX11 281 yX11_told, Cond.methodLink RX11 284 yX11_of, Cond.methodLink RX11 287 yX11_lawful, Cond.methodLink RX11 290 yX11_hand, Cond.methodLink RX11 293 yX11_cell, Cond.methodLink RX11 296 yX11_print, Cond.methodLink RL 106 yX12_digest, Cond.instanceMethod yX12_digest, Cond.selects RX12 yX12_digest yX12_digest, Cond.code yX12_digest cX12_digest 2 (some .long), Cond.constantLong RX12 231 (2393), Cond.fieldLink RX12 227 "WetPrintsModel" "h" "J", Cond.methodLink RX12 233 yX12_mix, Cond.instanceMethod yX12_mix, Cond.selects RX12 yX12_mix yX12_mix, Cond.code yX12_mix cX12_mix 2 none, Cond.constantLong RX12 225 (31), Cond.methodLink RX12 237 yX12_lawful]
def wsL_law : List Cond := (wsL_law_r1 ++ (wsL_law_r2 ++ (wsL_law_r3 ++ (wsL_law_r4 ++ (wsL_law_r5 ++ (wsL_law_r6 ++ (wsL_law_r7 ++ (wsL_law_r8 ++ (wsL_law_r9 ++ (wsL_law_r10 ++ (wsL_law_r11 ++ (wsL_law_r12 ++ (wsL_law_r13 ++ (wsL_law_r14 ++ (wsL_law_r15 ++ (wsL_law_r16 ++ (wsL_law_r17 ++ (wsL_law_r18 ++ (wsL_law_r19 ++ (wsL_law_r20 ++ (wsL_law_r21 ++ (wsL_law_r22 ++ (wsL_law_r23 ++ (wsL_law_r24 ++ (wsL_law_r25 ++ (wsL_law_r26 ++ (wsL_law_r27 ++ (wsL_law_r28 ++ (wsL_law_r29 ++ (wsL_law_r30 ++ (wsL_law_r31 ++ (wsL_law_r32 ++ (wsL_law_r33 ++ (wsL_law_r34 ++ (wsL_law_r35 ++ (wsL_law_r36 ++ wsL_law_r37)))))))))))))))))))))))))))))))))))) ++ wsX110 ++ wsX120 ++ wsX90 ++ wsX30 ++ wsX60 ++ wsX100 ++ wsX40 ++ wsX00 ++ wsX20 ++ wsX70 ++ wsX80 ++ ([] : List Cond)
theorem inlX0 : ∀ w ∈ wsX00, w ∈ wsL_law := fun _ h => List.mem_append_left _ (List.mem_append_left _ (List.mem_append_left _ (List.mem_append_left _ (List.mem_append_right _ h))))
theorem inlX2 : ∀ w ∈ wsX20, w ∈ wsL_law := fun _ h => List.mem_append_left _ (List.mem_append_left _ (List.mem_append_left _ (List.mem_append_right _ h)))
theorem inlX3 : ∀ w ∈ wsX30, w ∈ wsL_law := fun _ h => List.mem_append_left _ (List.mem_append_left _ (List.mem_append_left _ (List.mem_append_left _ (List.mem_append_left _ (List.mem_append_left _ (List.mem_append_left _ (List.mem_append_left _ (List.mem_append_right _ h))))))))
theorem inlX4 : ∀ w ∈ wsX40, w ∈ wsL_law := fun _ h => List.mem_append_left _ (List.mem_append_left _ (List.mem_append_left _ (List.mem_append_left _ (List.mem_append_left _ (List.mem_append_right _ h)))))
theorem inlX6 : ∀ w ∈ wsX60, w ∈ wsL_law := fun _ h => List.mem_append_left _ (List.mem_append_left _ (List.mem_append_left _ (List.mem_append_left _ (List.mem_append_left _ (List.mem_append_left _ (List.mem_append_left _ (List.mem_append_right _ h)))))))
theorem inlX7 : ∀ w ∈ wsX70, w ∈ wsL_law := fun _ h => List.mem_append_left _ (List.mem_append_left _ (List.mem_append_right _ h))
theorem inlX8 : ∀ w ∈ wsX80, w ∈ wsL_law := fun _ h => List.mem_append_left _ (List.mem_append_right _ h)
theorem inlX9 : ∀ w ∈ wsX90, w ∈ wsL_law := fun _ h => List.mem_append_left _ (List.mem_append_left _ (List.mem_append_left _ (List.mem_append_left _ (List.mem_append_left _ (List.mem_append_left _ (List.mem_append_left _ (List.mem_append_left _ (List.mem_append_left _ (List.mem_append_right _ h)))))))))
theorem inlX10 : ∀ w ∈ wsX100, w ∈ wsL_law := fun _ h => List.mem_append_left _ (List.mem_append_left _ (List.mem_append_left _ (List.mem_append_left _ (List.mem_append_left _ (List.mem_append_left _ (List.mem_append_right _ h))))))
theorem inlX11 : ∀ w ∈ wsX110, w ∈ wsL_law := fun _ h => List.mem_append_left _ (List.mem_append_left _ (List.mem_append_left _ (List.mem_append_left _ (List.mem_append_left _ (List.mem_append_left _ (List.mem_append_left _ (List.mem_append_left _ (List.mem_append_left _ (List.mem_append_left _ (List.mem_append_left _ (List.mem_append_right _ h)))))))))))
theorem inlX12 : ∀ w ∈ wsX120, w ∈ wsL_law := fun _ h => List.mem_append_left _ (List.mem_append_left _ (List.mem_append_left _ (List.mem_append_left _ (List.mem_append_left _ (List.mem_append_left _ (List.mem_append_left _ (List.mem_append_left _ (List.mem_append_left _ (List.mem_append_left _ (List.mem_append_right _ h))))))))))
abbrev vwCl : List vw_C := [(RX0, TX0, 9), (RX2, TX2, 7), (RX3, TX3, 3), (RX4, TX4, 10), (RX6, TX6, 11), (RX7, TX7, 3), (RX8, TX8, 5), (RX9, TX9, 3), (RX10, TX10, 2), (RX11, TX11, 8), (RX12, TX12, 24)]
theorem wm_1 : ∀ w ∈ wsL_law_r1, w ∈ wsL_law := fun _ h => (List.mem_append_left _ (List.mem_append_left _ (List.mem_append_left _ (List.mem_append_left _ (List.mem_append_left _ (List.mem_append_left _ (List.mem_append_left _ (List.mem_append_left _ (List.mem_append_left _ (List.mem_append_left _ (List.mem_append_left _ (List.mem_append_left _ (List.mem_append_left _ h)))))))))))))
theorem wm_2 : ∀ w ∈ wsL_law_r2, w ∈ wsL_law := fun _ h => (List.mem_append_left _ (List.mem_append_left _ (List.mem_append_left _ (List.mem_append_left _ (List.mem_append_left _ (List.mem_append_left _ (List.mem_append_left _ (List.mem_append_left _ (List.mem_append_left _ (List.mem_append_left _ (List.mem_append_left _ (List.mem_append_left _ (List.mem_append_right _ (List.mem_append_left _ h))))))))))))))
theorem wm_3 : ∀ w ∈ wsL_law_r3, w ∈ wsL_law := fun _ h => (List.mem_append_left _ (List.mem_append_left _ (List.mem_append_left _ (List.mem_append_left _ (List.mem_append_left _ (List.mem_append_left _ (List.mem_append_left _ (List.mem_append_left _ (List.mem_append_left _ (List.mem_append_left _ (List.mem_append_left _ (List.mem_append_left _ (List.mem_append_right _ (List.mem_append_right _ (List.mem_append_left _ h)))))))))))))))
theorem wm_4 : ∀ w ∈ wsL_law_r4, w ∈ wsL_law := fun _ h => (List.mem_append_left _ (List.mem_append_left _ (List.mem_append_left _ (List.mem_append_left _ (List.mem_append_left _ (List.mem_append_left _ (List.mem_append_left _ (List.mem_append_left _ (List.mem_append_left _ (List.mem_append_left _ (List.mem_append_left _ (List.mem_append_left _ (List.mem_append_right _ (List.mem_append_right _ (List.mem_append_right _ (List.mem_append_left _ h))))))))))))))))
theorem wm_5 : ∀ w ∈ wsL_law_r5, w ∈ wsL_law := fun _ h => (List.mem_append_left _ (List.mem_append_left _ (List.mem_append_left _ (List.mem_append_left _ (List.mem_append_left _ (List.mem_append_left _ (List.mem_append_left _ (List.mem_append_left _ (List.mem_append_left _ (List.mem_append_left _ (List.mem_append_left _ (List.mem_append_left _ (List.mem_append_right _ (List.mem_append_right _ (List.mem_append_right _ (List.mem_append_right _ (List.mem_append_left _ h)))))))))))))))))
theorem wm_6 : ∀ w ∈ wsL_law_r6, w ∈ wsL_law := fun _ h => (List.mem_append_left _ (List.mem_append_left _ (List.mem_append_left _ (List.mem_append_left _ (List.mem_append_left _ (List.mem_append_left _ (List.mem_append_left _ (List.mem_append_left _ (List.mem_append_left _ (List.mem_append_left _ (List.mem_append_left _ (List.mem_append_left _ (List.mem_append_right _ (List.mem_append_right _ (List.mem_append_right _ (List.mem_append_right _ (List.mem_append_right _ (List.mem_append_left _ h))))))))))))))))))
theorem wm_7 : ∀ w ∈ wsL_law_r7, w ∈ wsL_law := fun _ h => (List.mem_append_left _ (List.mem_append_left _ (List.mem_append_left _ (List.mem_append_left _ (List.mem_append_left _ (List.mem_append_left _ (List.mem_append_left _ (List.mem_append_left _ (List.mem_append_left _ (List.mem_append_left _ (List.mem_append_left _ (List.mem_append_left _ (List.mem_append_right _ (List.mem_append_right _ (List.mem_append_right _ (List.mem_append_right _ (List.mem_append_right _ (List.mem_append_right _ (List.mem_append_left _ h)))))))))))))))))))
theorem wm_8 : ∀ w ∈ wsL_law_r8, w ∈ wsL_law := fun _ h => (List.mem_append_left _ (List.mem_append_left _ (List.mem_append_left _ (List.mem_append_left _ (List.mem_append_left _ (List.mem_append_left _ (List.mem_append_left _ (List.mem_append_left _ (List.mem_append_left _ (List.mem_append_left _ (List.mem_append_left _ (List.mem_append_left _ (List.mem_append_right _ (List.mem_append_right _ (List.mem_append_right _ (List.mem_append_right _ (List.mem_append_right _ (List.mem_append_right _ (List.mem_append_right _ (List.mem_append_left _ h))))))))))))))))))))
theorem wm_9 : ∀ w ∈ wsL_law_r9, w ∈ wsL_law := fun _ h => (List.mem_append_left _ (List.mem_append_left _ (List.mem_append_left _ (List.mem_append_left _ (List.mem_append_left _ (List.mem_append_left _ (List.mem_append_left _ (List.mem_append_left _ (List.mem_append_left _ (List.mem_append_left _ (List.mem_append_left _ (List.mem_append_left _ (List.mem_append_right _ (List.mem_append_right _ (List.mem_append_right _ (List.mem_append_right _ (List.mem_append_right _ (List.mem_append_right _ (List.mem_append_right _ (List.mem_append_right _ (List.mem_append_left _ h)))))))))))))))))))))
theorem wm_10 : ∀ w ∈ wsL_law_r10, w ∈ wsL_law := fun _ h => (List.mem_append_left _ (List.mem_append_left _ (List.mem_append_left _ (List.mem_append_left _ (List.mem_append_left _ (List.mem_append_left _ (List.mem_append_left _ (List.mem_append_left _ (List.mem_append_left _ (List.mem_append_left _ (List.mem_append_left _ (List.mem_append_left _ (List.mem_append_right _ (List.mem_append_right _ (List.mem_append_right _ (List.mem_append_right _ (List.mem_append_right _ (List.mem_append_right _ (List.mem_append_right _ (List.mem_append_right _ (List.mem_append_right _ (List.mem_append_left _ h))))))))))))))))))))))
theorem wm_11 : ∀ w ∈ wsL_law_r11, w ∈ wsL_law := fun _ h => (List.mem_append_left _ (List.mem_append_left _ (List.mem_append_left _ (List.mem_append_left _ (List.mem_append_left _ (List.mem_append_left _ (List.mem_append_left _ (List.mem_append_left _ (List.mem_append_left _ (List.mem_append_left _ (List.mem_append_left _ (List.mem_append_left _ (List.mem_append_right _ (List.mem_append_right _ (List.mem_append_right _ (List.mem_append_right _ (List.mem_append_right _ (List.mem_append_right _ (List.mem_append_right _ (List.mem_append_right _ (List.mem_append_right _ (List.mem_append_right _ (List.mem_append_left _ h)))))))))))))))))))))))
theorem wm_12 : ∀ w ∈ wsL_law_r12, w ∈ wsL_law := fun _ h => (List.mem_append_left _ (List.mem_append_left _ (List.mem_append_left _ (List.mem_append_left _ (List.mem_append_left _ (List.mem_append_left _ (List.mem_append_left _ (List.mem_append_left _ (List.mem_append_left _ (List.mem_append_left _ (List.mem_append_left _ (List.mem_append_left _ (List.mem_append_right _ (List.mem_append_right _ (List.mem_append_right _ (List.mem_append_right _ (List.mem_append_right _ (List.mem_append_right _ (List.mem_append_right _ (List.mem_append_right _ (List.mem_append_right _ (List.mem_append_right _ (List.mem_append_right _ (List.mem_append_left _ h))))))))))))))))))))))))
theorem wm_13 : ∀ w ∈ wsL_law_r13, w ∈ wsL_law := fun _ h => (List.mem_append_left _ (List.mem_append_left _ (List.mem_append_left _ (List.mem_append_left _ (List.mem_append_left _ (List.mem_append_left _ (List.mem_append_left _ (List.mem_append_left _ (List.mem_append_left _ (List.mem_append_left _ (List.mem_append_left _ (List.mem_append_left _ (List.mem_append_right _ (List.mem_append_right _ (List.mem_append_right _ (List.mem_append_right _ (List.mem_append_right _ (List.mem_append_right _ (List.mem_append_right _ (List.mem_append_right _ (List.mem_append_right _ (List.mem_append_right _ (List.mem_append_right _ (List.mem_append_right _ (List.mem_append_left _ h)))))))))))))))))))))))))
theorem wm_14 : ∀ w ∈ wsL_law_r14, w ∈ wsL_law := fun _ h => (List.mem_append_left _ (List.mem_append_left _ (List.mem_append_left _ (List.mem_append_left _ (List.mem_append_left _ (List.mem_append_left _ (List.mem_append_left _ (List.mem_append_left _ (List.mem_append_left _ (List.mem_append_left _ (List.mem_append_left _ (List.mem_append_left _ (List.mem_append_right _ (List.mem_append_right _ (List.mem_append_right _ (List.mem_append_right _ (List.mem_append_right _ (List.mem_append_right _ (List.mem_append_right _ (List.mem_append_right _ (List.mem_append_right _ (List.mem_append_right _ (List.mem_append_right _ (List.mem_append_right _ (List.mem_append_right _ (List.mem_append_left _ h))))))))))))))))))))))))))
theorem wm_15 : ∀ w ∈ wsL_law_r15, w ∈ wsL_law := fun _ h => (List.mem_append_left _ (List.mem_append_left _ (List.mem_append_left _ (List.mem_append_left _ (List.mem_append_left _ (List.mem_append_left _ (List.mem_append_left _ (List.mem_append_left _ (List.mem_append_left _ (List.mem_append_left _ (List.mem_append_left _ (List.mem_append_left _ (List.mem_append_right _ (List.mem_append_right _ (List.mem_append_right _ (List.mem_append_right _ (List.mem_append_right _ (List.mem_append_right _ (List.mem_append_right _ (List.mem_append_right _ (List.mem_append_right _ (List.mem_append_right _ (List.mem_append_right _ (List.mem_append_right _ (List.mem_append_right _ (List.mem_append_right _ (List.mem_append_left _ h)))))))))))))))))))))))))))
theorem wm_16 : ∀ w ∈ wsL_law_r16, w ∈ wsL_law := fun _ h => (List.mem_append_left _ (List.mem_append_left _ (List.mem_append_left _ (List.mem_append_left _ (List.mem_append_left _ (List.mem_append_left _ (List.mem_append_left _ (List.mem_append_left _ (List.mem_append_left _ (List.mem_append_left _ (List.mem_append_left _ (List.mem_append_left _ (List.mem_append_right _ (List.mem_append_right _ (List.mem_append_right _ (List.mem_append_right _ (List.mem_append_right _ (List.mem_append_right _ (List.mem_append_right _ (List.mem_append_right _ (List.mem_append_right _ (List.mem_append_right _ (List.mem_append_right _ (List.mem_append_right _ (List.mem_append_right _ (List.mem_append_right _ (List.mem_append_right _ (List.mem_append_left _ h))))))))))))))))))))))))))))
theorem wm_17 : ∀ w ∈ wsL_law_r17, w ∈ wsL_law := fun _ h => (List.mem_append_left _ (List.mem_append_left _ (List.mem_append_left _ (List.mem_append_left _ (List.mem_append_left _ (List.mem_append_left _ (List.mem_append_left _ (List.mem_append_left _ (List.mem_append_left _ (List.mem_append_left _ (List.mem_append_left _ (List.mem_append_left _ (List.mem_append_right _ (List.mem_append_right _ (List.mem_append_right _ (List.mem_append_right _ (List.mem_append_right _ (List.mem_append_right _ (List.mem_append_right _ (List.mem_append_right _ (List.mem_append_right _ (List.mem_append_right _ (List.mem_append_right _ (List.mem_append_right _ (List.mem_append_right _ (List.mem_append_right _ (List.mem_append_right _ (List.mem_append_right _ (List.mem_append_left _ h)))))))))))))))))))))))))))))
theorem wm_18 : ∀ w ∈ wsL_law_r18, w ∈ wsL_law := fun _ h => (List.mem_append_left _ (List.mem_append_left _ (List.mem_append_left _ (List.mem_append_left _ (List.mem_append_left _ (List.mem_append_left _ (List.mem_append_left _ (List.mem_append_left _ (List.mem_append_left _ (List.mem_append_left _ (List.mem_append_left _ (List.mem_append_left _ (List.mem_append_right _ (List.mem_append_right _ (List.mem_append_right _ (List.mem_append_right _ (List.mem_append_right _ (List.mem_append_right _ (List.mem_append_right _ (List.mem_append_right _ (List.mem_append_right _ (List.mem_append_right _ (List.mem_append_right _ (List.mem_append_right _ (List.mem_append_right _ (List.mem_append_right _ (List.mem_append_right _ (List.mem_append_right _ (List.mem_append_right _ (List.mem_append_left _ h))))))))))))))))))))))))))))))
theorem wm_19 : ∀ w ∈ wsL_law_r19, w ∈ wsL_law := fun _ h => (List.mem_append_left _ (List.mem_append_left _ (List.mem_append_left _ (List.mem_append_left _ (List.mem_append_left _ (List.mem_append_left _ (List.mem_append_left _ (List.mem_append_left _ (List.mem_append_left _ (List.mem_append_left _ (List.mem_append_left _ (List.mem_append_left _ (List.mem_append_right _ (List.mem_append_right _ (List.mem_append_right _ (List.mem_append_right _ (List.mem_append_right _ (List.mem_append_right _ (List.mem_append_right _ (List.mem_append_right _ (List.mem_append_right _ (List.mem_append_right _ (List.mem_append_right _ (List.mem_append_right _ (List.mem_append_right _ (List.mem_append_right _ (List.mem_append_right _ (List.mem_append_right _ (List.mem_append_right _ (List.mem_append_right _ (List.mem_append_left _ h)))))))))))))))))))))))))))))))
theorem wm_20 : ∀ w ∈ wsL_law_r20, w ∈ wsL_law := fun _ h => (List.mem_append_left _ (List.mem_append_left _ (List.mem_append_left _ (List.mem_append_left _ (List.mem_append_left _ (List.mem_append_left _ (List.mem_append_left _ (List.mem_append_left _ (List.mem_append_left _ (List.mem_append_left _ (List.mem_append_left _ (List.mem_append_left _ (List.mem_append_right _ (List.mem_append_right _ (List.mem_append_right _ (List.mem_append_right _ (List.mem_append_right _ (List.mem_append_right _ (List.mem_append_right _ (List.mem_append_right _ (List.mem_append_right _ (List.mem_append_right _ (List.mem_append_right _ (List.mem_append_right _ (List.mem_append_right _ (List.mem_append_right _ (List.mem_append_right _ (List.mem_append_right _ (List.mem_append_right _ (List.mem_append_right _ (List.mem_append_right _ (List.mem_append_left _ h))))))))))))))))))))))))))))))))
theorem wm_21 : ∀ w ∈ wsL_law_r21, w ∈ wsL_law := fun _ h => (List.mem_append_left _ (List.mem_append_left _ (List.mem_append_left _ (List.mem_append_left _ (List.mem_append_left _ (List.mem_append_left _ (List.mem_append_left _ (List.mem_append_left _ (List.mem_append_left _ (List.mem_append_left _ (List.mem_append_left _ (List.mem_append_left _ (List.mem_append_right _ (List.mem_append_right _ (List.mem_append_right _ (List.mem_append_right _ (List.mem_append_right _ (List.mem_append_right _ (List.mem_append_right _ (List.mem_append_right _ (List.mem_append_right _ (List.mem_append_right _ (List.mem_append_right _ (List.mem_append_right _ (List.mem_append_right _ (List.mem_append_right _ (List.mem_append_right _ (List.mem_append_right _ (List.mem_append_right _ (List.mem_append_right _ (List.mem_append_right _ (List.mem_append_right _ (List.mem_append_left _ h)))))))))))))))))))))))))))))))))
theorem wm_22 : ∀ w ∈ wsL_law_r22, w ∈ wsL_law := fun _ h => (List.mem_append_left _ (List.mem_append_left _ (List.mem_append_left _ (List.mem_append_left _ (List.mem_append_left _ (List.mem_append_left _ (List.mem_append_left _ (List.mem_append_left _ (List.mem_append_left _ (List.mem_append_left _ (List.mem_append_left _ (List.mem_append_left _ (List.mem_append_right _ (List.mem_append_right _ (List.mem_append_right _ (List.mem_append_right _ (List.mem_append_right _ (List.mem_append_right _ (List.mem_append_right _ (List.mem_append_right _ (List.mem_append_right _ (List.mem_append_right _ (List.mem_append_right _ (List.mem_append_right _ (List.mem_append_right _ (List.mem_append_right _ (List.mem_append_right _ (List.mem_append_right _ (List.mem_append_right _ (List.mem_append_right _ (List.mem_append_right _ (List.mem_append_right _ (List.mem_append_right _ (List.mem_append_left _ h))))))))))))))))))))))))))))))))))
theorem wm_23 : ∀ w ∈ wsL_law_r23, w ∈ wsL_law := fun _ h => (List.mem_append_left _ (List.mem_append_left _ (List.mem_append_left _ (List.mem_append_left _ (List.mem_append_left _ (List.mem_append_left _ (List.mem_append_left _ (List.mem_append_left _ (List.mem_append_left _ (List.mem_append_left _ (List.mem_append_left _ (List.mem_append_left _ (List.mem_append_right _ (List.mem_append_right _ (List.mem_append_right _ (List.mem_append_right _ (List.mem_append_right _ (List.mem_append_right _ (List.mem_append_right _ (List.mem_append_right _ (List.mem_append_right _ (List.mem_append_right _ (List.mem_append_right _ (List.mem_append_right _ (List.mem_append_right _ (List.mem_append_right _ (List.mem_append_right _ (List.mem_append_right _ (List.mem_append_right _ (List.mem_append_right _ (List.mem_append_right _ (List.mem_append_right _ (List.mem_append_right _ (List.mem_append_right _ (List.mem_append_left _ h)))))))))))))))))))))))))))))))))))
theorem wm_24 : ∀ w ∈ wsL_law_r24, w ∈ wsL_law := fun _ h => (List.mem_append_left _ (List.mem_append_left _ (List.mem_append_left _ (List.mem_append_left _ (List.mem_append_left _ (List.mem_append_left _ (List.mem_append_left _ (List.mem_append_left _ (List.mem_append_left _ (List.mem_append_left _ (List.mem_append_left _ (List.mem_append_left _ (List.mem_append_right _ (List.mem_append_right _ (List.mem_append_right _ (List.mem_append_right _ (List.mem_append_right _ (List.mem_append_right _ (List.mem_append_right _ (List.mem_append_right _ (List.mem_append_right _ (List.mem_append_right _ (List.mem_append_right _ (List.mem_append_right _ (List.mem_append_right _ (List.mem_append_right _ (List.mem_append_right _ (List.mem_append_right _ (List.mem_append_right _ (List.mem_append_right _ (List.mem_append_right _ (List.mem_append_right _ (List.mem_append_right _ (List.mem_append_right _ (List.mem_append_right _ (List.mem_append_left _ h))))))))))))))))))))))))))))))))))))
theorem wm_25 : ∀ w ∈ wsL_law_r25, w ∈ wsL_law := fun _ h => (List.mem_append_left _ (List.mem_append_left _ (List.mem_append_left _ (List.mem_append_left _ (List.mem_append_left _ (List.mem_append_left _ (List.mem_append_left _ (List.mem_append_left _ (List.mem_append_left _ (List.mem_append_left _ (List.mem_append_left _ (List.mem_append_left _ (List.mem_append_right _ (List.mem_append_right _ (List.mem_append_right _ (List.mem_append_right _ (List.mem_append_right _ (List.mem_append_right _ (List.mem_append_right _ (List.mem_append_right _ (List.mem_append_right _ (List.mem_append_right _ (List.mem_append_right _ (List.mem_append_right _ (List.mem_append_right _ (List.mem_append_right _ (List.mem_append_right _ (List.mem_append_right _ (List.mem_append_right _ (List.mem_append_right _ (List.mem_append_right _ (List.mem_append_right _ (List.mem_append_right _ (List.mem_append_right _ (List.mem_append_right _ (List.mem_append_right _ (List.mem_append_left _ h)))))))))))))))))))))))))))))))))))))
theorem wm_26 : ∀ w ∈ wsL_law_r26, w ∈ wsL_law := fun _ h => (List.mem_append_left _ (List.mem_append_left _ (List.mem_append_left _ (List.mem_append_left _ (List.mem_append_left _ (List.mem_append_left _ (List.mem_append_left _ (List.mem_append_left _ (List.mem_append_left _ (List.mem_append_left _ (List.mem_append_left _ (List.mem_append_left _ (List.mem_append_right _ (List.mem_append_right _ (List.mem_append_right _ (List.mem_append_right _ (List.mem_append_right _ (List.mem_append_right _ (List.mem_append_right _ (List.mem_append_right _ (List.mem_append_right _ (List.mem_append_right _ (List.mem_append_right _ (List.mem_append_right _ (List.mem_append_right _ (List.mem_append_right _ (List.mem_append_right _ (List.mem_append_right _ (List.mem_append_right _ (List.mem_append_right _ (List.mem_append_right _ (List.mem_append_right _ (List.mem_append_right _ (List.mem_append_right _ (List.mem_append_right _ (List.mem_append_right _ (List.mem_append_right _ (List.mem_append_left _ h))))))))))))))))))))))))))))))))))))))
theorem wm_27 : ∀ w ∈ wsL_law_r27, w ∈ wsL_law := fun _ h => (List.mem_append_left _ (List.mem_append_left _ (List.mem_append_left _ (List.mem_append_left _ (List.mem_append_left _ (List.mem_append_left _ (List.mem_append_left _ (List.mem_append_left _ (List.mem_append_left _ (List.mem_append_left _ (List.mem_append_left _ (List.mem_append_left _ (List.mem_append_right _ (List.mem_append_right _ (List.mem_append_right _ (List.mem_append_right _ (List.mem_append_right _ (List.mem_append_right _ (List.mem_append_right _ (List.mem_append_right _ (List.mem_append_right _ (List.mem_append_right _ (List.mem_append_right _ (List.mem_append_right _ (List.mem_append_right _ (List.mem_append_right _ (List.mem_append_right _ (List.mem_append_right _ (List.mem_append_right _ (List.mem_append_right _ (List.mem_append_right _ (List.mem_append_right _ (List.mem_append_right _ (List.mem_append_right _ (List.mem_append_right _ (List.mem_append_right _ (List.mem_append_right _ (List.mem_append_right _ (List.mem_append_left _ h)))))))))))))))))))))))))))))))))))))))
theorem wm_28 : ∀ w ∈ wsL_law_r28, w ∈ wsL_law := fun _ h => (List.mem_append_left _ (List.mem_append_left _ (List.mem_append_left _ (List.mem_append_left _ (List.mem_append_left _ (List.mem_append_left _ (List.mem_append_left _ (List.mem_append_left _ (List.mem_append_left _ (List.mem_append_left _ (List.mem_append_left _ (List.mem_append_left _ (List.mem_append_right _ (List.mem_append_right _ (List.mem_append_right _ (List.mem_append_right _ (List.mem_append_right _ (List.mem_append_right _ (List.mem_append_right _ (List.mem_append_right _ (List.mem_append_right _ (List.mem_append_right _ (List.mem_append_right _ (List.mem_append_right _ (List.mem_append_right _ (List.mem_append_right _ (List.mem_append_right _ (List.mem_append_right _ (List.mem_append_right _ (List.mem_append_right _ (List.mem_append_right _ (List.mem_append_right _ (List.mem_append_right _ (List.mem_append_right _ (List.mem_append_right _ (List.mem_append_right _ (List.mem_append_right _ (List.mem_append_right _ (List.mem_append_right _ (List.mem_append_left _ h))))))))))))))))))))))))))))))))))))))))
theorem wm_29 : ∀ w ∈ wsL_law_r29, w ∈ wsL_law := fun _ h => (List.mem_append_left _ (List.mem_append_left _ (List.mem_append_left _ (List.mem_append_left _ (List.mem_append_left _ (List.mem_append_left _ (List.mem_append_left _ (List.mem_append_left _ (List.mem_append_left _ (List.mem_append_left _ (List.mem_append_left _ (List.mem_append_left _ (List.mem_append_right _ (List.mem_append_right _ (List.mem_append_right _ (List.mem_append_right _ (List.mem_append_right _ (List.mem_append_right _ (List.mem_append_right _ (List.mem_append_right _ (List.mem_append_right _ (List.mem_append_right _ (List.mem_append_right _ (List.mem_append_right _ (List.mem_append_right _ (List.mem_append_right _ (List.mem_append_right _ (List.mem_append_right _ (List.mem_append_right _ (List.mem_append_right _ (List.mem_append_right _ (List.mem_append_right _ (List.mem_append_right _ (List.mem_append_right _ (List.mem_append_right _ (List.mem_append_right _ (List.mem_append_right _ (List.mem_append_right _ (List.mem_append_right _ (List.mem_append_right _ (List.mem_append_left _ h)))))))))))))))))))))))))))))))))))))))))
theorem wm_30 : ∀ w ∈ wsL_law_r30, w ∈ wsL_law := fun _ h => (List.mem_append_left _ (List.mem_append_left _ (List.mem_append_left _ (List.mem_append_left _ (List.mem_append_left _ (List.mem_append_left _ (List.mem_append_left _ (List.mem_append_left _ (List.mem_append_left _ (List.mem_append_left _ (List.mem_append_left _ (List.mem_append_left _ (List.mem_append_right _ (List.mem_append_right _ (List.mem_append_right _ (List.mem_append_right _ (List.mem_append_right _ (List.mem_append_right _ (List.mem_append_right _ (List.mem_append_right _ (List.mem_append_right _ (List.mem_append_right _ (List.mem_append_right _ (List.mem_append_right _ (List.mem_append_right _ (List.mem_append_right _ (List.mem_append_right _ (List.mem_append_right _ (List.mem_append_right _ (List.mem_append_right _ (List.mem_append_right _ (List.mem_append_right _ (List.mem_append_right _ (List.mem_append_right _ (List.mem_append_right _ (List.mem_append_right _ (List.mem_append_right _ (List.mem_append_right _ (List.mem_append_right _ (List.mem_append_right _ (List.mem_append_right _ (List.mem_append_left _ h))))))))))))))))))))))))))))))))))))))))))
theorem wm_31 : ∀ w ∈ wsL_law_r31, w ∈ wsL_law := fun _ h => (List.mem_append_left _ (List.mem_append_left _ (List.mem_append_left _ (List.mem_append_left _ (List.mem_append_left _ (List.mem_append_left _ (List.mem_append_left _ (List.mem_append_left _ (List.mem_append_left _ (List.mem_append_left _ (List.mem_append_left _ (List.mem_append_left _ (List.mem_append_right _ (List.mem_append_right _ (List.mem_append_right _ (List.mem_append_right _ (List.mem_append_right _ (List.mem_append_right _ (List.mem_append_right _ (List.mem_append_right _ (List.mem_append_right _ (List.mem_append_right _ (List.mem_append_right _ (List.mem_append_right _ (List.mem_append_right _ (List.mem_append_right _ (List.mem_append_right _ (List.mem_append_right _ (List.mem_append_right _ (List.mem_append_right _ (List.mem_append_right _ (List.mem_append_right _ (List.mem_append_right _ (List.mem_append_right _ (List.mem_append_right _ (List.mem_append_right _ (List.mem_append_right _ (List.mem_append_right _ (List.mem_append_right _ (List.mem_append_right _ (List.mem_append_right _ (List.mem_append_right _ (List.mem_append_left _ h)))))))))))))))))))))))))))))))))))))))))))
theorem wm_32 : ∀ w ∈ wsL_law_r32, w ∈ wsL_law := fun _ h => (List.mem_append_left _ (List.mem_append_left _ (List.mem_append_left _ (List.mem_append_left _ (List.mem_append_left _ (List.mem_append_left _ (List.mem_append_left _ (List.mem_append_left _ (List.mem_append_left _ (List.mem_append_left _ (List.mem_append_left _ (List.mem_append_left _ (List.mem_append_right _ (List.mem_append_right _ (List.mem_append_right _ (List.mem_append_right _ (List.mem_append_right _ (List.mem_append_right _ (List.mem_append_right _ (List.mem_append_right _ (List.mem_append_right _ (List.mem_append_right _ (List.mem_append_right _ (List.mem_append_right _ (List.mem_append_right _ (List.mem_append_right _ (List.mem_append_right _ (List.mem_append_right _ (List.mem_append_right _ (List.mem_append_right _ (List.mem_append_right _ (List.mem_append_right _ (List.mem_append_right _ (List.mem_append_right _ (List.mem_append_right _ (List.mem_append_right _ (List.mem_append_right _ (List.mem_append_right _ (List.mem_append_right _ (List.mem_append_right _ (List.mem_append_right _ (List.mem_append_right _ (List.mem_append_right _ (List.mem_append_left _ h))))))))))))))))))))))))))))))))))))))))))))
theorem wm_33 : ∀ w ∈ wsL_law_r33, w ∈ wsL_law := fun _ h => (List.mem_append_left _ (List.mem_append_left _ (List.mem_append_left _ (List.mem_append_left _ (List.mem_append_left _ (List.mem_append_left _ (List.mem_append_left _ (List.mem_append_left _ (List.mem_append_left _ (List.mem_append_left _ (List.mem_append_left _ (List.mem_append_left _ (List.mem_append_right _ (List.mem_append_right _ (List.mem_append_right _ (List.mem_append_right _ (List.mem_append_right _ (List.mem_append_right _ (List.mem_append_right _ (List.mem_append_right _ (List.mem_append_right _ (List.mem_append_right _ (List.mem_append_right _ (List.mem_append_right _ (List.mem_append_right _ (List.mem_append_right _ (List.mem_append_right _ (List.mem_append_right _ (List.mem_append_right _ (List.mem_append_right _ (List.mem_append_right _ (List.mem_append_right _ (List.mem_append_right _ (List.mem_append_right _ (List.mem_append_right _ (List.mem_append_right _ (List.mem_append_right _ (List.mem_append_right _ (List.mem_append_right _ (List.mem_append_right _ (List.mem_append_right _ (List.mem_append_right _ (List.mem_append_right _ (List.mem_append_right _ (List.mem_append_left _ h)))))))))))))))))))))))))))))))))))))))))))))
theorem wm_34 : ∀ w ∈ wsL_law_r34, w ∈ wsL_law := fun _ h => (List.mem_append_left _ (List.mem_append_left _ (List.mem_append_left _ (List.mem_append_left _ (List.mem_append_left _ (List.mem_append_left _ (List.mem_append_left _ (List.mem_append_left _ (List.mem_append_left _ (List.mem_append_left _ (List.mem_append_left _ (List.mem_append_left _ (List.mem_append_right _ (List.mem_append_right _ (List.mem_append_right _ (List.mem_append_right _ (List.mem_append_right _ (List.mem_append_right _ (List.mem_append_right _ (List.mem_append_right _ (List.mem_append_right _ (List.mem_append_right _ (List.mem_append_right _ (List.mem_append_right _ (List.mem_append_right _ (List.mem_append_right _ (List.mem_append_right _ (List.mem_append_right _ (List.mem_append_right _ (List.mem_append_right _ (List.mem_append_right _ (List.mem_append_right _ (List.mem_append_right _ (List.mem_append_right _ (List.mem_append_right _ (List.mem_append_right _ (List.mem_append_right _ (List.mem_append_right _ (List.mem_append_right _ (List.mem_append_right _ (List.mem_append_right _ (List.mem_append_right _ (List.mem_append_right _ (List.mem_append_right _ (List.mem_append_right _ (List.mem_append_left _ h))))))))))))))))))))))))))))))))))))))))))))))
theorem wm_35 : ∀ w ∈ wsL_law_r35, w ∈ wsL_law := fun _ h => (List.mem_append_left _ (List.mem_append_left _ (List.mem_append_left _ (List.mem_append_left _ (List.mem_append_left _ (List.mem_append_left _ (List.mem_append_left _ (List.mem_append_left _ (List.mem_append_left _ (List.mem_append_left _ (List.mem_append_left _ (List.mem_append_left _ (List.mem_append_right _ (List.mem_append_right _ (List.mem_append_right _ (List.mem_append_right _ (List.mem_append_right _ (List.mem_append_right _ (List.mem_append_right _ (List.mem_append_right _ (List.mem_append_right _ (List.mem_append_right _ (List.mem_append_right _ (List.mem_append_right _ (List.mem_append_right _ (List.mem_append_right _ (List.mem_append_right _ (List.mem_append_right _ (List.mem_append_right _ (List.mem_append_right _ (List.mem_append_right _ (List.mem_append_right _ (List.mem_append_right _ (List.mem_append_right _ (List.mem_append_right _ (List.mem_append_right _ (List.mem_append_right _ (List.mem_append_right _ (List.mem_append_right _ (List.mem_append_right _ (List.mem_append_right _ (List.mem_append_right _ (List.mem_append_right _ (List.mem_append_right _ (List.mem_append_right _ (List.mem_append_right _ (List.mem_append_left _ h)))))))))))))))))))))))))))))))))))))))))))))))
theorem wm_36 : ∀ w ∈ wsL_law_r36, w ∈ wsL_law := fun _ h => (List.mem_append_left _ (List.mem_append_left _ (List.mem_append_left _ (List.mem_append_left _ (List.mem_append_left _ (List.mem_append_left _ (List.mem_append_left _ (List.mem_append_left _ (List.mem_append_left _ (List.mem_append_left _ (List.mem_append_left _ (List.mem_append_left _ (List.mem_append_right _ (List.mem_append_right _ (List.mem_append_right _ (List.mem_append_right _ (List.mem_append_right _ (List.mem_append_right _ (List.mem_append_right _ (List.mem_append_right _ (List.mem_append_right _ (List.mem_append_right _ (List.mem_append_right _ (List.mem_append_right _ (List.mem_append_right _ (List.mem_append_right _ (List.mem_append_right _ (List.mem_append_right _ (List.mem_append_right _ (List.mem_append_right _ (List.mem_append_right _ (List.mem_append_right _ (List.mem_append_right _ (List.mem_append_right _ (List.mem_append_right _ (List.mem_append_right _ (List.mem_append_right _ (List.mem_append_right _ (List.mem_append_right _ (List.mem_append_right _ (List.mem_append_right _ (List.mem_append_right _ (List.mem_append_right _ (List.mem_append_right _ (List.mem_append_right _ (List.mem_append_right _ (List.mem_append_right _ (List.mem_append_left _ h))))))))))))))))))))))))))))))))))))))))))))))))
theorem wm_37 : ∀ w ∈ wsL_law_r37, w ∈ wsL_law := fun _ h => (List.mem_append_left _ (List.mem_append_left _ (List.mem_append_left _ (List.mem_append_left _ (List.mem_append_left _ (List.mem_append_left _ (List.mem_append_left _ (List.mem_append_left _ (List.mem_append_left _ (List.mem_append_left _ (List.mem_append_left _ (List.mem_append_left _ (List.mem_append_right _ (List.mem_append_right _ (List.mem_append_right _ (List.mem_append_right _ (List.mem_append_right _ (List.mem_append_right _ (List.mem_append_right _ (List.mem_append_right _ (List.mem_append_right _ (List.mem_append_right _ (List.mem_append_right _ (List.mem_append_right _ (List.mem_append_right _ (List.mem_append_right _ (List.mem_append_right _ (List.mem_append_right _ (List.mem_append_right _ (List.mem_append_right _ (List.mem_append_right _ (List.mem_append_right _ (List.mem_append_right _ (List.mem_append_right _ (List.mem_append_right _ (List.mem_append_right _ (List.mem_append_right _ (List.mem_append_right _ (List.mem_append_right _ (List.mem_append_right _ (List.mem_append_right _ (List.mem_append_right _ (List.mem_append_right _ (List.mem_append_right _ (List.mem_append_right _ (List.mem_append_right _ (List.mem_append_right _ (List.mem_append_right _ h))))))))))))))))))))))))))))))))))))))))))))))))
set_option maxRecDepth 20000 in
theorem xT_all : wsL_law.all goodWord = true := by decide +kernel
theorem xT_good : ∀ w ∈ wsL_law, (w.onTables && w.keeps) = true ∨ ∃ ty, w = .arrayClass ty := fun w h => good_of_word (List.all_eq_true.mp xT_all w h)
