/-! ===== BEGIN words of one list among another's, by their places ===== -/
theorem goodIn_r {big : List Cond} (ws : List Cond) (ps : List Nat) (hp : ws = ps.filterMap (fun i => big[i]?)) (h : ws.all goodWord = true) : GoodIn big ws := by
  intro w hw
  have h1 := List.all_eq_true.mp h w hw
  rw [hp] at hw
  obtain ⟨i, -, hi⟩ := List.mem_filterMap.mp hw
  have hm : w ∈ big := by first | exact List.mem_of_getElem? hi | exact List.getElem?_mem hi
  exact ⟨hm, good_of_word h1⟩
theorem goodIn_app {big a b : List Cond} (ha : GoodIn big a) (hb : GoodIn big b) : GoodIn big (a ++ b) := fun w h => (List.mem_append.mp h).elim (ha w) (hb w)
theorem goodIn_ca {big a b : List Cond} {c : Cond} (ha : GoodIn big (c :: a)) (hb : GoodIn big b) : GoodIn big (c :: (a ++ b)) := fun w h => (List.mem_cons.mp h).elim (fun e => ha w (List.mem_cons.mpr (Or.inl e))) (fun h => (List.mem_append.mp h).elim (fun h => ha w (List.mem_cons.mpr (Or.inr h))) (hb w))
theorem goodIn_sub {big ws : List Cond} (hm : ∀ w ∈ ws, w ∈ big) (h : ws.all goodWord = true) : GoodIn big ws := fun w hw => ⟨hm w hw, good_of_word (List.all_eq_true.mp h w hw)⟩
/-! ===== END ===== -/

def RX0 : String := "BentShares$Chance"
def TX0 : u_T := fun k => match k with
  | 0 => ("BentShares$Chance", "plan", "LBentShares$Plan;", true)
  | 1 => ("BentShares$Chance", "line", "LBentShares$Line;", true)
  | 2 => ("BentShares$Chance", "later", "LBentShares$Line;", true)
  | _ => ("BentShares$Chance", "seed", "I", false)
def tyX0 : Nat → FieldType := fun k => match k with
  | 0 => .object "BentShares$Plan"
  | 1 => .object "BentShares$Line"
  | 2 => .object "BentShares$Line"
  | _ => .int
theorem nmX0 : ∀ a, a < 4 → ∀ b, b < 4 → a ≠ b → (TX0 a).2.1 ≠ (TX0 b).2.1 := by decide +kernel
theorem tyX0_ok : ∀ k, k < 4 → parseFieldDescriptor (TX0 k).2.2.1 = some (tyX0 k) := by decide +kernel
abbrev cX0_init : ByteArray := prog_2_method_1_code
def yX0_init : MethodName := ⟨RX0, "<init>", "(LBentShares$Plan;LBentShares$Line;LBentShares$Line;)V"⟩
abbrev cX0_liveThrough : ByteArray := prog_2_method_4_code
def yX0_liveThrough : MethodName := ⟨RX0, "liveThrough", "(III)I"⟩
abbrev cX0_happen : ByteArray := prog_2_method_5_code
def yX0_happen : MethodName := ⟨RX0, "happen", "(I)V"⟩
abbrev cX0_happenTo : ByteArray := prog_2_method_6_code
def yX0_happenTo : MethodName := ⟨RX0, "happenTo", "(II)V"⟩
abbrev cX0_draw : ByteArray := prog_2_method_7_code
def yX0_draw : MethodName := ⟨RX0, "draw", "(I)I"⟩
def RX1 : String := "BentShares$Curves"
def TX1 : u_T := fun k => match k with
  | 0 => ("BentShares$Curves", "m1", "[I", true)
  | 1 => ("BentShares$Curves", "d", "[I", true)
  | 2 => ("BentShares$Curves", "m2", "[I", true)
  | 3 => ("BentShares$Curves", "toBend", "[I", true)
  | 4 => ("BentShares$Curves", "laid", "[I", true)
  | 5 => ("BentShares$Curves", "x", "[I", true)
  | _ => ("BentShares$Curves", "y", "[I", true)
def tyX1 : Nat → FieldType := fun k => match k with
  | 0 => .array .int
  | 1 => .array .int
  | 2 => .array .int
  | 3 => .array .int
  | 4 => .array .int
  | 5 => .array .int
  | _ => .array .int
theorem nmX1 : ∀ a, a < 7 → ∀ b, b < 7 → a ≠ b → (TX1 a).2.1 ≠ (TX1 b).2.1 := by decide +kernel
theorem tyX1_ok : ∀ k, k < 7 → parseFieldDescriptor (TX1 k).2.2.1 = some (tyX1 k) := by decide +kernel
abbrev cX1_init : ByteArray := prog_3_method_1_code
def yX1_init : MethodName := ⟨RX1, "<init>", "()V"⟩
abbrev cX1_clear : ByteArray := prog_3_method_3_code
def yX1_clear : MethodName := ⟨RX1, "clear", "()V"⟩
abbrev cX1_copyFrom : ByteArray := prog_3_method_4_code
def yX1_copyFrom : MethodName := ⟨RX1, "copyFrom", "(LBentShares$Curves;I)V"⟩
abbrev cX1_has : ByteArray := prog_3_method_5_code
def yX1_has : MethodName := ⟨RX1, "has", "(I)Z"⟩
abbrev cX1_put : ByteArray := prog_3_method_7_code
def yX1_put : MethodName := ⟨RX1, "put", "(IIII)V"⟩
abbrev cX1_drop : ByteArray := prog_3_method_8_code
def yX1_drop : MethodName := ⟨RX1, "drop", "(I)V"⟩
abbrev cX1_lay : ByteArray := prog_3_method_9_code
def yX1_lay : MethodName := ⟨RX1, "lay", "(III)V"⟩
abbrev cX1_reached : ByteArray := prog_3_method_10_code
def yX1_reached : MethodName := ⟨RX1, "reached", "(III)I"⟩
def RX2 : String := "BentShares$Forecast"
def TX2 : u_T := fun k => match k with
  | 0 => ("BentShares$Forecast", "plan", "LBentShares$Plan;", true)
  | 1 => ("BentShares$Forecast", "line", "LBentShares$Line;", true)
  | 2 => ("BentShares$Forecast", "later", "LBentShares$Line;", true)
  | _ => ("BentShares$Forecast", "came", "[I", true)
def tyX2 : Nat → FieldType := fun k => match k with
  | 0 => .object "BentShares$Plan"
  | 1 => .object "BentShares$Line"
  | 2 => .object "BentShares$Line"
  | _ => .array .int
theorem nmX2 : ∀ a, a < 4 → ∀ b, b < 4 → a ≠ b → (TX2 a).2.1 ≠ (TX2 b).2.1 := by decide +kernel
theorem tyX2_ok : ∀ k, k < 4 → parseFieldDescriptor (TX2 k).2.2.1 = some (tyX2 k) := by decide +kernel
abbrev cX2_init : ByteArray := prog_4_method_1_code
def yX2_init : MethodName := ⟨RX2, "<init>", "(LBentShares$Plan;LBentShares$Line;LBentShares$Line;)V"⟩
abbrev cX2_chosenAt : ByteArray := prog_4_method_3_code
def yX2_chosenAt : MethodName := ⟨RX2, "chosenAt", "(II)I"⟩
def RX3 : String := "BentShares$Grants"
def TX3 : u_T := fun k => match k with
  | 0 => ("BentShares$Grants", "plan", "LBentShares$Plan;", true)
  | 1 => ("BentShares$Grants", "line", "LBentShares$Line;", true)
  | 2 => ("BentShares$Grants", "firstOver", "I", false)
  | _ => ("BentShares$Grants", "over", "I", false)
def tyX3 : Nat → FieldType := fun k => match k with
  | 0 => .object "BentShares$Plan"
  | 1 => .object "BentShares$Line"
  | 2 => .int
  | _ => .int
theorem nmX3 : ∀ a, a < 4 → ∀ b, b < 4 → a ≠ b → (TX3 a).2.1 ≠ (TX3 b).2.1 := by decide +kernel
theorem tyX3_ok : ∀ k, k < 4 → parseFieldDescriptor (TX3 k).2.2.1 = some (tyX3 k) := by decide +kernel
abbrev cX3_init : ByteArray := prog_5_method_1_code
def yX3_init : MethodName := ⟨RX3, "<init>", "(LBentShares$Plan;LBentShares$Line;)V"⟩
def RX4 : String := "BentShares$Guess"
def TX4 : u_T := fun k => match k with
  | 0 => ("BentShares$Guess", "plan", "LBentShares$Plan;", true)
  | 1 => ("BentShares$Guess", "line", "LBentShares$Line;", true)
  | 2 => ("BentShares$Guess", "later", "LBentShares$Line;", true)
  | 3 => ("BentShares$Guess", "notes", "LBentShares$Notes;", true)
  | 4 => ("BentShares$Guess", "many", "I", false)
  | 5 => ("BentShares$Guess", "first", "I", false)
  | 6 => ("BentShares$Guess", "seen", "[I", true)
  | _ => ("BentShares$Guess", "unlike", "[I", true)
def tyX4 : Nat → FieldType := fun k => match k with
  | 0 => .object "BentShares$Plan"
  | 1 => .object "BentShares$Line"
  | 2 => .object "BentShares$Line"
  | 3 => .object "BentShares$Notes"
  | 4 => .int
  | 5 => .int
  | 6 => .array .int
  | _ => .array .int
theorem nmX4 : ∀ a, a < 8 → ∀ b, b < 8 → a ≠ b → (TX4 a).2.1 ≠ (TX4 b).2.1 := by decide +kernel
theorem tyX4_ok : ∀ k, k < 8 → parseFieldDescriptor (TX4 k).2.2.1 = some (tyX4 k) := by decide +kernel
abbrev cX4_init : ByteArray := prog_6_method_1_code
def yX4_init : MethodName := ⟨RX4, "<init>", "(LBentShares$Plan;LBentShares$Line;LBentShares$Line;LBentShares$Notes;)V"⟩
def RX5 : String := "BentShares$History"
def TX5 : u_T := fun k => match k with
  | 0 => ("BentShares$History", "kept", "[LBentShares$Line;", true)
  | 1 => ("BentShares$History", "oldest", "I", false)
  | _ => ("BentShares$History", "many", "I", false)
def tyX5 : Nat → FieldType := fun k => match k with
  | 0 => .array (.object "BentShares$Line")
  | 1 => .int
  | _ => .int
theorem nmX5 : ∀ a, a < 3 → ∀ b, b < 3 → a ≠ b → (TX5 a).2.1 ≠ (TX5 b).2.1 := by decide +kernel
theorem tyX5_ok : ∀ k, k < 3 → parseFieldDescriptor (TX5 k).2.2.1 = some (tyX5 k) := by decide +kernel
abbrev cX5_init : ByteArray := prog_7_method_1_code
def yX5_init : MethodName := ⟨RX5, "<init>", "(LBentShares$Plan;)V"⟩
abbrev cX5_size : ByteArray := prog_7_method_2_code
def yX5_size : MethodName := ⟨RX5, "size", "()I"⟩
abbrev cX5_clear : ByteArray := prog_7_method_3_code
def yX5_clear : MethodName := ⟨RX5, "clear", "()V"⟩
abbrev cX5_keep : ByteArray := prog_7_method_4_code
def yX5_keep : MethodName := ⟨RX5, "keep", "(LBentShares$Line;)V"⟩
abbrev cX5_takeBack : ByteArray := prog_7_method_5_code
def yX5_takeBack : MethodName := ⟨RX5, "takeBack", "(LBentShares$Line;)V"⟩
abbrev cX5_copyFrom : ByteArray := prog_7_method_6_code
def yX5_copyFrom : MethodName := ⟨RX5, "copyFrom", "(LBentShares$History;)V"⟩
def RX6 : String := "BentShares$Line"
def TX6 : u_T := fun k => match k with
  | 0 => ("BentShares$Line", "plan", "LBentShares$Plan;", true)
  | 1 => ("BentShares$Line", "time", "I", false)
  | 2 => ("BentShares$Line", "busy", "I", false)
  | 3 => ("BentShares$Line", "chosen", "I", false)
  | 4 => ("BentShares$Line", "byGrant", "I", false)
  | 5 => ("BentShares$Line", "last", "I", false)
  | 6 => ("BentShares$Line", "stopped", "I", false)
  | 7 => ("BentShares$Line", "sent", "[I", true)
  | 8 => ("BentShares$Line", "granted", "[I", true)
  | 9 => ("BentShares$Line", "virtual", "[I", true)
  | 10 => ("BentShares$Line", "peak", "[I", true)
  | 11 => ("BentShares$Line", "lost", "[I", true)
  | 12 => ("BentShares$Line", "held", "[I", true)
  | 13 => ("BentShares$Line", "queue", "[I", true)
  | 14 => ("BentShares$Line", "head", "[I", true)
  | 15 => ("BentShares$Line", "flowSize", "[I", true)
  | 16 => ("BentShares$Line", "curves", "LBentShares$Curves;", true)
  | _ => ("BentShares$Line", "fit", "[I", true)
def tyX6 : Nat → FieldType := fun k => match k with
  | 0 => .object "BentShares$Plan"
  | 1 => .int
  | 2 => .int
  | 3 => .int
  | 4 => .int
  | 5 => .int
  | 6 => .int
  | 7 => .array .int
  | 8 => .array .int
  | 9 => .array .int
  | 10 => .array .int
  | 11 => .array .int
  | 12 => .array .int
  | 13 => .array .int
  | 14 => .array .int
  | 15 => .array .int
  | 16 => .object "BentShares$Curves"
  | _ => .array .int
theorem nmX6 : ∀ a, a < 18 → ∀ b, b < 18 → a ≠ b → (TX6 a).2.1 ≠ (TX6 b).2.1 := by decide +kernel
theorem tyX6_ok : ∀ k, k < 18 → parseFieldDescriptor (TX6 k).2.2.1 = some (tyX6 k) := by decide +kernel
abbrev cX6_init : ByteArray := prog_8_method_1_code
def yX6_init : MethodName := ⟨RX6, "<init>", "(LBentShares$Plan;)V"⟩
abbrev cX6_begin : ByteArray := prog_8_method_2_code
def yX6_begin : MethodName := ⟨RX6, "begin", "()V"⟩
abbrev cX6_copyFrom : ByteArray := prog_8_method_3_code
def yX6_copyFrom : MethodName := ⟨RX6, "copyFrom", "(LBentShares$Line;)V"⟩
abbrev cX6_isActive : ByteArray := prog_8_method_4_code
def yX6_isActive : MethodName := ⟨RX6, "isActive", "(I)Z"⟩
abbrev cX6_hasCurve : ByteArray := prog_8_method_5_code
def yX6_hasCurve : MethodName := ⟨RX6, "hasCurve", "(II)Z"⟩
abbrev cX6_packets : ByteArray := prog_8_method_6_code
def yX6_packets : MethodName := ⟨RX6, "packets", "(I)I"⟩
abbrev cX6_sizeOf : ByteArray := prog_8_method_7_code
def yX6_sizeOf : MethodName := ⟨RX6, "sizeOf", "(II)I"⟩
abbrev cX6_bytes : ByteArray := prog_8_method_8_code
def yX6_bytes : MethodName := ⟨RX6, "bytes", "(I)I"⟩
abbrev cX6_activeLeaves : ByteArray := prog_8_method_9_code
def yX6_activeLeaves : MethodName := ⟨RX6, "activeLeaves", "()I"⟩
abbrev cX6_allLost : ByteArray := prog_8_method_10_code
def yX6_allLost : MethodName := ⟨RX6, "allLost", "()I"⟩
abbrev cX6_allSent : ByteArray := prog_8_method_11_code
def yX6_allSent : MethodName := ⟨RX6, "allSent", "()I"⟩
abbrev cX6_eligible : ByteArray := prog_8_method_12_code
def yX6_eligible : MethodName := ⟨RX6, "eligible", "(I)I"⟩
abbrev cX6_deadline : ByteArray := prog_8_method_13_code
def yX6_deadline : MethodName := ⟨RX6, "deadline", "(I)I"⟩
abbrev cX6_fitOf : ByteArray := prog_8_method_14_code
def yX6_fitOf : MethodName := ⟨RX6, "fitOf", "(I)I"⟩
abbrev cX6_weighFits : ByteArray := prog_8_method_15_code
def yX6_weighFits : MethodName := ⟨RX6, "weighFits", "()V"⟩
abbrev cX6_accept : ByteArray := prog_8_method_16_code
def yX6_accept : MethodName := ⟨RX6, "accept", "(II)V"⟩
abbrev cX6_wake : ByteArray := prog_8_method_17_code
def yX6_wake : MethodName := ⟨RX6, "wake", "(I)V"⟩
abbrev cX6_pass : ByteArray := prog_8_method_18_code
def yX6_pass : MethodName := ⟨RX6, "pass", "(I)V"⟩
abbrev cX6_advance : ByteArray := prog_8_method_19_code
def yX6_advance : MethodName := ⟨RX6, "advance", "(I)V"⟩
abbrev cX6_quietUnits : ByteArray := prog_8_method_20_code
def yX6_quietUnits : MethodName := ⟨RX6, "quietUnits", "(I)I"⟩
abbrev cX6_pickByDeadline : ByteArray := prog_8_method_21_code
def yX6_pickByDeadline : MethodName := ⟨RX6, "pickByDeadline", "()I"⟩
abbrev cX6_pickByShare : ByteArray := prog_8_method_22_code
def yX6_pickByShare : MethodName := ⟨RX6, "pickByShare", "()I"⟩
abbrev cX6_send : ByteArray := prog_8_method_23_code
def yX6_send : MethodName := ⟨RX6, "send", "(IZ)V"⟩
abbrev cX6_changeCurve : ByteArray := prog_8_method_24_code
def yX6_changeCurve : MethodName := ⟨RX6, "changeCurve", "(IIIII)V"⟩
abbrev cX6_emptyQueue : ByteArray := prog_8_method_25_code
def yX6_emptyQueue : MethodName := ⟨RX6, "emptyQueue", "(I)I"⟩
abbrev cX6_toggleFlow : ByteArray := prog_8_method_26_code
def yX6_toggleFlow : MethodName := ⟨RX6, "toggleFlow", "(I)V"⟩
def RX7 : String := "BentShares$Notes"
def TX7 : u_T := fun k => match k with
  | 0 => ("BentShares$Notes", "many", "I", false)
  | 1 => ("BentShares$Notes", "cls", "[I", true)
  | 2 => ("BentShares$Notes", "units", "[I", true)
  | _ => ("BentShares$Notes", "bytes", "[I", true)
def tyX7 : Nat → FieldType := fun k => match k with
  | 0 => .int
  | 1 => .array .int
  | 2 => .array .int
  | _ => .array .int
theorem nmX7 : ∀ a, a < 4 → ∀ b, b < 4 → a ≠ b → (TX7 a).2.1 ≠ (TX7 b).2.1 := by decide +kernel
theorem tyX7_ok : ∀ k, k < 4 → parseFieldDescriptor (TX7 k).2.2.1 = some (tyX7 k) := by decide +kernel
abbrev cX7_init : ByteArray := prog_9_method_1_code
def yX7_init : MethodName := ⟨RX7, "<init>", "()V"⟩
abbrev cX7_clear : ByteArray := prog_9_method_2_code
def yX7_clear : MethodName := ⟨RX7, "clear", "()V"⟩
abbrev cX7_copyFrom : ByteArray := prog_9_method_4_code
def yX7_copyFrom : MethodName := ⟨RX7, "copyFrom", "(LBentShares$Notes;)V"⟩
def RX8 : String := "BentShares$Plan"
def TX8 : u_T := fun k => match k with
  | 0 => ("BentShares$Plan", "classes", "I", false)
  | 1 => ("BentShares$Plan", "flows", "I", false)
  | 2 => ("BentShares$Plan", "parent", "[I", true)
  | 3 => ("BentShares$Plan", "kids", "[I", true)
  | 4 => ("BentShares$Plan", "kid", "[I", true)
  | 5 => ("BentShares$Plan", "flowLeaf", "[I", true)
  | 6 => ("BentShares$Plan", "every", "[I", true)
  | 7 => ("BentShares$Plan", "phase", "[I", true)
  | 8 => ("BentShares$Plan", "size", "[I", true)
  | _ => ("BentShares$Plan", "first", "LBentShares$Curves;", true)
def tyX8 : Nat → FieldType := fun k => match k with
  | 0 => .int
  | 1 => .int
  | 2 => .array .int
  | 3 => .array .int
  | 4 => .array .int
  | 5 => .array .int
  | 6 => .array .int
  | 7 => .array .int
  | 8 => .array .int
  | _ => .object "BentShares$Curves"
theorem nmX8 : ∀ a, a < 10 → ∀ b, b < 10 → a ≠ b → (TX8 a).2.1 ≠ (TX8 b).2.1 := by decide +kernel
theorem tyX8_ok : ∀ k, k < 10 → parseFieldDescriptor (TX8 k).2.2.1 = some (tyX8 k) := by decide +kernel
abbrev cX8_init : ByteArray := prog_10_method_1_code
def yX8_init : MethodName := ⟨RX8, "<init>", "()V"⟩
abbrev cX8_clear : ByteArray := prog_10_method_2_code
def yX8_clear : MethodName := ⟨RX8, "clear", "()V"⟩
abbrev cX8_copyFrom : ByteArray := prog_10_method_3_code
def yX8_copyFrom : MethodName := ⟨RX8, "copyFrom", "(LBentShares$Plan;)V"⟩
abbrev cX8_hasClass : ByteArray := prog_10_method_4_code
def yX8_hasClass : MethodName := ⟨RX8, "hasClass", "(I)Z"⟩
abbrev cX8_isLeaf : ByteArray := prog_10_method_5_code
def yX8_isLeaf : MethodName := ⟨RX8, "isLeaf", "(I)Z"⟩
abbrev cX8_hasLeaf : ByteArray := prog_10_method_6_code
def yX8_hasLeaf : MethodName := ⟨RX8, "hasLeaf", "(I)Z"⟩
abbrev cX8_mayHoldClass : ByteArray := prog_10_method_8_code
def yX8_mayHoldClass : MethodName := ⟨RX8, "mayHoldClass", "(I)Z"⟩
abbrev cX8_addClass : ByteArray := prog_10_method_9_code
def yX8_addClass : MethodName := ⟨RX8, "addClass", "(I)V"⟩
abbrev cX8_addFlow : ByteArray := prog_10_method_10_code
def yX8_addFlow : MethodName := ⟨RX8, "addFlow", "(IIII)V"⟩
abbrev cX8_untilTold : ByteArray := prog_10_method_11_code
def yX8_untilTold : MethodName := ⟨RX8, "untilTold", "(II)I"⟩
def RX9 : String := "BentShares$Reader"
def TX9 : u_T := fun k => match k with
  | 0 => ("BentShares$Reader", "text", "[I", true)
  | 1 => ("BentShares$Reader", "plan", "LBentShares$Plan;", true)
  | 2 => ("BentShares$Reader", "end", "I", false)
  | 3 => ("BentShares$Reader", "at", "I", false)
  | 4 => ("BentShares$Reader", "behind", "I", false)
  | 5 => ("BentShares$Reader", "kind", "I", false)
  | _ => ("BentShares$Reader", "number", "I", false)
def tyX9 : Nat → FieldType := fun k => match k with
  | 0 => .array .int
  | 1 => .object "BentShares$Plan"
  | 2 => .int
  | 3 => .int
  | 4 => .int
  | 5 => .int
  | _ => .int
theorem nmX9 : ∀ a, a < 7 → ∀ b, b < 7 → a ≠ b → (TX9 a).2.1 ≠ (TX9 b).2.1 := by decide +kernel
theorem tyX9_ok : ∀ k, k < 7 → parseFieldDescriptor (TX9 k).2.2.1 = some (tyX9 k) := by decide +kernel
abbrev cX9_init : ByteArray := prog_11_method_1_code
def yX9_init : MethodName := ⟨RX9, "<init>", "([ILBentShares$Plan;)V"⟩
abbrev cX9_place : ByteArray := prog_11_method_2_code
def yX9_place : MethodName := ⟨RX9, "place", "()I"⟩
abbrev cX9_read : ByteArray := prog_11_method_3_code
def yX9_read : MethodName := ⟨RX9, "read", "(I)I"⟩
abbrev cX9_readClass : ByteArray := prog_11_method_4_code
def yX9_readClass : MethodName := ⟨RX9, "readClass", "()I"⟩
abbrev cX9_readCurves : ByteArray := prog_11_method_5_code
def yX9_readCurves : MethodName := ⟨RX9, "readCurves", "(I)I"⟩
abbrev cX9_readCurve : ByteArray := prog_11_method_6_code
def yX9_readCurve : MethodName := ⟨RX9, "readCurve", "(I)I"⟩
abbrev cX9_readFlow : ByteArray := prog_11_method_7_code
def yX9_readFlow : MethodName := ⟨RX9, "readFlow", "()I"⟩
abbrev cX9_readNumber : ByteArray := prog_11_method_8_code
def yX9_readNumber : MethodName := ⟨RX9, "readNumber", "(II)I"⟩
abbrev cX9_takeToken : ByteArray := prog_11_method_9_code
def yX9_takeToken : MethodName := ⟨RX9, "takeToken", "()V"⟩
abbrev cX9_takeWord : ByteArray := prog_11_method_10_code
def yX9_takeWord : MethodName := ⟨RX9, "takeWord", "()V"⟩
abbrev cX9_takeNumber : ByteArray := prog_11_method_11_code
def yX9_takeNumber : MethodName := ⟨RX9, "takeNumber", "()V"⟩
abbrev cX9_isLetter : ByteArray := prog_11_method_12_code
def yX9_isLetter : MethodName := ⟨RX9, "isLetter", "(I)Z"⟩
abbrev cX9_isDigit : ByteArray := prog_11_method_13_code
def yX9_isDigit : MethodName := ⟨RX9, "isDigit", "(I)Z"⟩
abbrev cX9_isWord : ByteArray := prog_11_method_14_code
def yX9_isWord : MethodName := ⟨RX9, "isWord", "(Ljava/lang/String;)Z"⟩
def RX10 : String := "BentShares$Teller"
def TX10 : u_T := fun k => match k with
  | 0 => ("BentShares$Teller", "signs", "[I", true)
  | _ => ("BentShares$Teller", "length", "I", false)
def tyX10 : Nat → FieldType := fun k => match k with
  | 0 => .array .int
  | _ => .int
theorem nmX10 : ∀ a, a < 2 → ∀ b, b < 2 → a ≠ b → (TX10 a).2.1 ≠ (TX10 b).2.1 := by decide +kernel
theorem tyX10_ok : ∀ k, k < 2 → parseFieldDescriptor (TX10 k).2.2.1 = some (tyX10 k) := by decide +kernel
abbrev cX10_init : ByteArray := prog_12_method_1_code
def yX10_init : MethodName := ⟨RX10, "<init>", "()V"⟩
abbrev cX10_tell : ByteArray := prog_12_method_2_code
def yX10_tell : MethodName := ⟨RX10, "tell", "(ILBentShares$Plan;LBentShares$Curves;)V"⟩
abbrev cX10_putText : ByteArray := prog_12_method_3_code
def yX10_putText : MethodName := ⟨RX10, "putText", "(Ljava/lang/String;)V"⟩
abbrev cX10_putNumber : ByteArray := prog_12_method_4_code
def yX10_putNumber : MethodName := ⟨RX10, "putNumber", "(I)V"⟩
abbrev cX10_putSign : ByteArray := prog_12_method_5_code
def yX10_putSign : MethodName := ⟨RX10, "putSign", "(I)V"⟩
def RX11 : String := "BentShares"
def TX11 : u_T := fun k => match k with
  | 0 => ("BentShares", "tape", "[I", true)
  | 1 => ("BentShares", "taped", "I", false)
  | 2 => ("BentShares", "faultPlace", "I", false)
  | 3 => ("BentShares", "status", "[I", true)
  | 4 => ("BentShares", "plan", "LBentShares$Plan;", true)
  | 5 => ("BentShares", "draft", "LBentShares$Plan;", true)
  | 6 => ("BentShares", "reader", "LBentShares$Reader;", true)
  | 7 => ("BentShares", "line", "LBentShares$Line;", true)
  | 8 => ("BentShares", "history", "LBentShares$History;", true)
  | 9 => ("BentShares", "notes", "LBentShares$Notes;", true)
  | 10 => ("BentShares", "hasImage", "Z", false)
  | 11 => ("BentShares", "imageLine", "LBentShares$Line;", true)
  | 12 => ("BentShares", "imageHistory", "LBentShares$History;", true)
  | 13 => ("BentShares", "imageNotes", "LBentShares$Notes;", true)
  | 14 => ("BentShares", "imageStatus", "[I", true)
  | 15 => ("BentShares", "later", "LBentShares$Line;", true)
  | 16 => ("BentShares", "grants", "LBentShares$Grants;", true)
  | 17 => ("BentShares", "forecast", "LBentShares$Forecast;", true)
  | 18 => ("BentShares", "guess", "LBentShares$Guess;", true)
  | 19 => ("BentShares", "chance", "LBentShares$Chance;", true)
  | _ => ("BentShares", "teller", "LBentShares$Teller;", true)
def tyX11 : Nat → FieldType := fun k => match k with
  | 0 => .array .int
  | 1 => .int
  | 2 => .int
  | 3 => .array .int
  | 4 => .object "BentShares$Plan"
  | 5 => .object "BentShares$Plan"
  | 6 => .object "BentShares$Reader"
  | 7 => .object "BentShares$Line"
  | 8 => .object "BentShares$History"
  | 9 => .object "BentShares$Notes"
  | 10 => .boolean
  | 11 => .object "BentShares$Line"
  | 12 => .object "BentShares$History"
  | 13 => .object "BentShares$Notes"
  | 14 => .array .int
  | 15 => .object "BentShares$Line"
  | 16 => .object "BentShares$Grants"
  | 17 => .object "BentShares$Forecast"
  | 18 => .object "BentShares$Guess"
  | 19 => .object "BentShares$Chance"
  | _ => .object "BentShares$Teller"
theorem nmX11 : ∀ a, a < 21 → ∀ b, b < 21 → a ≠ b → (TX11 a).2.1 ≠ (TX11 b).2.1 := by decide +kernel
theorem tyX11_ok : ∀ k, k < 21 → parseFieldDescriptor (TX11 k).2.2.1 = some (tyX11 k) := by decide +kernel
abbrev cX11_init : ByteArray := prog_1_method_1_code
def yX11_init : MethodName := ⟨RX11, "<init>", "()V"⟩
abbrev cX11_feed : ByteArray := prog_1_method_2_code
def yX11_feed : MethodName := ⟨RX11, "feed", "(IIIII)I"⟩
abbrev cX11_putNumber : ByteArray := prog_1_method_3_code
def yX11_putNumber : MethodName := ⟨RX11, "putNumber", "(I)V"⟩
abbrev cX11_link : ByteArray := prog_1_method_4_code
def yX11_link : MethodName := ⟨RX11, "link", "(I)I"⟩
abbrev cX11_count : ByteArray := prog_1_method_6_code
def yX11_count : MethodName := ⟨RX11, "count", "(I)I"⟩
abbrev cX11_of : ByteArray := prog_1_method_7_code
def yX11_of : MethodName := ⟨RX11, "of", "(II)I"⟩
abbrev cX11_due : ByteArray := prog_1_method_10_code
def yX11_due : MethodName := ⟨RX11, "due", "(II)I"⟩
abbrev cX11_come : ByteArray := prog_1_method_11_code
def yX11_come : MethodName := ⟨RX11, "come", "(II)I"⟩
abbrev cX11_units : ByteArray := prog_1_method_12_code
def yX11_units : MethodName := ⟨RX11, "units", "(I)I"⟩
abbrev cX11_undo : ByteArray := prog_1_method_17_code
def yX11_undo : MethodName := ⟨RX11, "undo", "()I"⟩
abbrev cX11_next : ByteArray := prog_1_method_22_code
def yX11_next : MethodName := ⟨RX11, "next", "(II)I"⟩
abbrev cX11_years : ByteArray := prog_1_method_34_code
def yX11_years : MethodName := ⟨RX11, "years", "(III)I"⟩
abbrev cX11_told : ByteArray := prog_1_method_35_code
def yX11_told : MethodName := ⟨RX11, "told", "(II)I"⟩
abbrev cX11_image : ByteArray := prog_1_method_36_code
def yX11_image : MethodName := ⟨RX11, "image", "()V"⟩
abbrev cX11_restore : ByteArray := prog_1_method_37_code
def yX11_restore : MethodName := ⟨RX11, "restore", "()Z"⟩
abbrev cX11_refuse : ByteArray := prog_1_method_38_code
def yX11_refuse : MethodName := ⟨RX11, "refuse", "(I)I"⟩
abbrev cX11_needClass : ByteArray := prog_1_method_40_code
def yX11_needClass : MethodName := ⟨RX11, "needClass", "(I)V"⟩
abbrev cX11_needRange : ByteArray := prog_1_method_43_code
def yX11_needRange : MethodName := ⟨RX11, "needRange", "(III)V"⟩
def RX12 : String := "BentSharesModel"
def TX12 : u_T := fun k => match k with
  | _ => ("", "", "", false)
def tyX12 : Nat → FieldType := fun k => match k with
  | _ => .int
theorem nmX12 : ∀ a, a < 0 → ∀ b, b < 0 → a ≠ b → (TX12 a).2.1 ≠ (TX12 b).2.1 := by decide +kernel
theorem tyX12_ok : ∀ k, k < 0 → parseFieldDescriptor (TX12 k).2.2.1 = some (tyX12 k) := by decide +kernel
def RJ9 : String := "java/lang/Math"
def TJ9 : u_T := fun k => match k with
  | _ => ("", "", "", false)
def tyJ9 : Nat → FieldType := fun k => match k with
  | _ => .int
abbrev cJ9_max_7cf53 : ByteArray := prog_20_method_65_code
def yJ9_max_7cf53 : MethodName := ⟨RJ9, "max", "(II)I"⟩
def RJ0 : String := "java/lang/String"
def TJ0 : u_T := fun k => match k with
  | _ => ("", "", "", false)
def tyJ0 : Nat → FieldType := fun k => match k with
  | _ => .int
abbrev cJ0_length_8abf5 : ByteArray := prog_22_method_54_code
def yJ0_length_8abf5 : MethodName := ⟨RJ0, "length", "()I"⟩
abbrev cJ0_charAt_5068e : ByteArray := prog_22_method_56_code
def yJ0_charAt_5068e : MethodName := ⟨RJ0, "charAt", "(I)C"⟩
abbrev cJ0_coder_7d493 : ByteArray := prog_22_method_152_code
def yJ0_coder_7d493 : MethodName := ⟨RJ0, "coder", "()B"⟩
abbrev cJ0_isLatin1_aae02 : ByteArray := prog_22_method_154_code
def yJ0_isLatin1_aae02 : MethodName := ⟨RJ0, "isLatin1", "()Z"⟩
abbrev cJ0_checkIndex_df160 : ByteArray := prog_22_method_155_code
def yJ0_checkIndex_df160 : MethodName := ⟨RJ0, "checkIndex", "(II)V"⟩
def RJ1 : String := "java/lang/StringLatin1"
def TJ1 : u_T := fun k => match k with
  | _ => ("", "", "", false)
def tyJ1 : Nat → FieldType := fun k => match k with
  | _ => .int
abbrev cJ1_charAt_3b067 : ByteArray := prog_23_method_2_code
def yJ1_charAt_3b067 : MethodName := ⟨RJ1, "charAt", "([BI)C"⟩
def RJ2 : String := "java/lang/StringUTF16"
def TJ2 : u_T := fun k => match k with
  | _ => ("", "", "", false)
def tyJ2 : Nat → FieldType := fun k => match k with
  | _ => .int
abbrev cJ2_getChar_3b067 : ByteArray := prog_24_method_5_code
def yJ2_getChar_3b067 : MethodName := ⟨RJ2, "getChar", "([BI)C"⟩
abbrev cJ2_length_9d52b : ByteArray := prog_24_method_6_code
def yJ2_length_9d52b : MethodName := ⟨RJ2, "length", "([B)I"⟩
abbrev cJ2_charAt_3b067 : ByteArray := prog_24_method_83_code
def yJ2_charAt_3b067 : MethodName := ⟨RJ2, "charAt", "([BI)C"⟩
abbrev cJ2_checkIndex_2214a : ByteArray := prog_24_method_91_code
def yJ2_checkIndex_2214a : MethodName := ⟨RJ2, "checkIndex", "(I[B)V"⟩
def RJ10 : String := "java/lang/System"
def TJ10 : u_T := fun k => match k with
  | _ => ("", "", "", false)
def tyJ10 : Nat → FieldType := fun k => match k with
  | _ => .int
def RJ7 : String := "java/util/Arrays"
def TJ7 : u_T := fun k => match k with
  | _ => ("", "", "", false)
def tyJ7 : Nat → FieldType := fun k => match k with
  | _ => .int
abbrev cJ7_fill_53178 : ByteArray := prog_29_method_103_code
def yJ7_fill_53178 : MethodName := ⟨RJ7, "fill", "([II)V"⟩
def RJ3 : String := "jdk/internal/util/Preconditions"
def TJ3 : u_T := fun k => match k with
  | _ => ("", "", "", false)
def tyJ3 : Nat → FieldType := fun k => match k with
  | _ => .int
abbrev cJ3_checkIndex_8e157 : ByteArray := prog_31_method_11_code
def yJ3_checkIndex_8e157 : MethodName := ⟨RJ3, "checkIndex", "(IILjava/util/function/BiFunction;)I"⟩
def RL : String := "BentSharesLaw"
abbrev cL_most : ByteArray := method_2_code
def yL_most : MethodName := ⟨RL, "most", "(II)I"⟩
abbrev cL_cell : ByteArray := method_3_code
def yL_cell : MethodName := ⟨RL, "cell", "([II)I"⟩
abbrev cL_add : ByteArray := method_4_code
def yL_add : MethodName := ⟨RL, "add", "(LBentShares;[II)V"⟩
abbrev cL_say : ByteArray := method_5_code
def yL_say : MethodName := ⟨RL, "say", "(LBentShares;[IJI)V"⟩
abbrev cL_number : ByteArray := method_6_code
def yL_number : MethodName := ⟨RL, "number", "(LBentShares;[II)V"⟩
abbrev cL_end : ByteArray := method_7_code
def yL_end : MethodName := ⟨RL, "end", "(LBentShares;[I)I"⟩
abbrev cL_parents : ByteArray := method_8_code
def yL_parents : MethodName := ⟨RL, "parents", "([II)[I"⟩
abbrev cL_isLeaf : ByteArray := method_9_code
def yL_isLeaf : MethodName := ⟨RL, "isLeaf", "([II)Z"⟩
abbrev cL_curve : ByteArray := method_10_code
def yL_curve : MethodName := ⟨RL, "curve", "(I)[I"⟩
abbrev cL_curves : ByteArray := method_11_code
def yL_curves : MethodName := ⟨RL, "curves", "([II[I)[[[I"⟩
abbrev cL_three : ByteArray := method_13_code
def yL_three : MethodName := ⟨RL, "three", "(LBentShares;[IIII)V"⟩
abbrev cL_tell : ByteArray := method_14_code
def yL_tell : MethodName := ⟨RL, "tell", "(LBentShares;[I[I[[[I[[I)Z"⟩
abbrev cL_isToldAgain : ByteArray := method_15_code
def yL_isToldAgain : MethodName := ⟨RL, "isToldAgain", "(LBentShares;[ILBentShares;[I)Z"⟩
abbrev cL_isRight : ByteArray := method_16_code
def yL_isRight : MethodName := ⟨RL, "isRight", "(LBentShares;[I)Z"⟩
abbrev cL_isChosen : ByteArray := method_17_code
def yL_isChosen : MethodName := ⟨RL, "isChosen", "(LBentShares;[I[[[I)Z"⟩
abbrev cL_law : ByteArray := code
def yL_law : MethodName := ⟨RL, "law", "([I)Z"⟩
abbrev vwCl : List vw_C := [(RX0, TX0, 4), (RX1, TX1, 7), (RX2, TX2, 4), (RX3, TX3, 4), (RX4, TX4, 8), (RX5, TX5, 3), (RX6, TX6, 18), (RX7, TX7, 4), (RX8, TX8, 10), (RX9, TX9, 7), (RX10, TX10, 2), (RX11, TX11, 21)]
