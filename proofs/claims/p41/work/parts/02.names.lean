/-! ===== BEGIN words of one list among another's, by their places ===== -/
theorem goodIn_r {big : List Cond} (ws : List Cond) (ps : List Nat) (hp : ws = ps.filterMap (fun i => big[i]?)) (h : ws.all goodWord = true) : GoodIn big ws := by
  intro w hw
  have h1 := List.all_eq_true.mp h w hw
  rw [hp] at hw
  obtain ⟨i, -, hi⟩ := List.mem_filterMap.mp hw
  have hm : w ∈ big := by first | exact List.mem_of_getElem? hi | exact List.getElem?_mem hi
  exact ⟨hm, good_of_word h1⟩
theorem goodIn_app {big a b : List Cond} (ha : GoodIn big a) (hb : GoodIn big b) : GoodIn big (a ++ b) := fun w h => (List.mem_append.mp h).elim (ha w) (hb w)
theorem goodIn_ca {big a b : List Cond} {c : Cond} (ha : GoodIn big (c :: a)) (hb : GoodIn big b) : GoodIn big (c :: (a ++ b)) := fun w h => (List.mem_cons.mp h).elim (fun e => ha w (List.mem_cons.mpr (Or.inl e))) (fun h => (List.mem_append.mp h).elim (fun h => ha w (List.mem_cons.mpr (Or.inr h))) (hb w))
theorem goodIn_sub {big ws : List Cond} (hm : ∀ w ∈ ws, w ∈ big) (h : ws.all goodWord = true) : GoodIn big ws := fun w hw => ⟨hm w hw, good_of_word (List.all_eq_true.mp h w hw)⟩
/-! ===== END ===== -/

/-! ===== BEGIN printed: names, fields, word lists, decode rows ===== -/
def RX0 : String := "BoxedProofs$Buffer"
def TX0 : u_T := fun k => match k with
  | 0 => ("BoxedProofs$Buffer", "count", "I", false)
  | 1 => ("BoxedProofs$Buffer", "codes", "LBoxedProofs$Row;", true)
  | 2 => ("BoxedProofs$Buffer", "opened", "I", false)
  | 3 => ("BoxedProofs$Buffer", "signed", "I", false)
  | _ => ("BoxedProofs$Buffer", "isPartRead", "Z", false)
def tyX0 : Nat → FieldType := fun k => match k with
  | 0 => .int
  | 1 => .object "BoxedProofs$Row"
  | 2 => .int
  | 3 => .int
  | _ => .boolean
abbrev wsX00 : List Cond := u_ws RX0 TX0 5
theorem nmX0 : ∀ a, a < 5 → ∀ b, b < 5 → a ≠ b → (TX0 a).2.1 ≠ (TX0 b).2.1 := by decide +kernel
theorem tyX0_ok : ∀ k, k < 5 → parseFieldDescriptor (TX0 k).2.2.1 = some (tyX0 k) := by decide +kernel
abbrev cX0_init : ByteArray := prog_2_method_1_code
def yX0_init : MethodName := ⟨RX0, "<init>", "()V"⟩
def RX1 : String := "BoxedProofs$Builder"
def TX1 : u_T := fun k => match k with
  | 0 => ("BoxedProofs$Builder", "height", "I", false)
  | 1 => ("BoxedProofs$Builder", "waiting", "LBoxedProofs$Row;", true)
  | _ => ("BoxedProofs$Builder", "waitingLefts", "LBoxedProofs$Row;", true)
def tyX1 : Nat → FieldType := fun k => match k with
  | 0 => .int
  | 1 => .object "BoxedProofs$Row"
  | _ => .object "BoxedProofs$Row"
abbrev wsX10 : List Cond := u_ws RX1 TX1 3
theorem nmX1 : ∀ a, a < 3 → ∀ b, b < 3 → a ≠ b → (TX1 a).2.1 ≠ (TX1 b).2.1 := by decide +kernel
theorem tyX1_ok : ∀ k, k < 3 → parseFieldDescriptor (TX1 k).2.2.1 = some (tyX1 k) := by decide +kernel
abbrev cX1_init : ByteArray := prog_3_method_1_code
def yX1_init : MethodName := ⟨RX1, "<init>", "()V"⟩
def RX2 : String := "BoxedProofs$Formulas"
def TX2 : u_T := fun k => match k with
  | 0 => ("BoxedProofs$Formulas", "count", "I", false)
  | 1 => ("BoxedProofs$Formulas", "kinds", "LBoxedProofs$Row;", true)
  | 2 => ("BoxedProofs$Formulas", "lefts", "LBoxedProofs$Row;", true)
  | _ => ("BoxedProofs$Formulas", "rights", "LBoxedProofs$Row;", true)
def tyX2 : Nat → FieldType := fun k => match k with
  | 0 => .int
  | 1 => .object "BoxedProofs$Row"
  | 2 => .object "BoxedProofs$Row"
  | _ => .object "BoxedProofs$Row"
abbrev wsX20 : List Cond := u_ws RX2 TX2 4
theorem nmX2 : ∀ a, a < 4 → ∀ b, b < 4 → a ≠ b → (TX2 a).2.1 ≠ (TX2 b).2.1 := by decide +kernel
theorem tyX2_ok : ∀ k, k < 4 → parseFieldDescriptor (TX2 k).2.2.1 = some (tyX2 k) := by decide +kernel
abbrev cX2_init : ByteArray := prog_4_method_1_code
def yX2_init : MethodName := ⟨RX2, "<init>", "()V"⟩
abbrev cX2_copyFrom : ByteArray := prog_4_method_2_code
def yX2_copyFrom : MethodName := ⟨RX2, "copyFrom", "(LBoxedProofs$Formulas;)V"⟩
abbrev cX2_has : ByteArray := prog_4_method_3_code
def yX2_has : MethodName := ⟨RX2, "has", "(I)Z"⟩
abbrev cX2_isOfKind : ByteArray := prog_4_method_4_code
def yX2_isOfKind : MethodName := ⟨RX2, "isOfKind", "(II)Z"⟩
abbrev cX2_isPartOfDisjunction : ByteArray := prog_4_method_5_code
def yX2_isPartOfDisjunction : MethodName := ⟨RX2, "isPartOfDisjunction", "(II)Z"⟩
abbrev cX2_takenOut : ByteArray := prog_4_method_6_code
def yX2_takenOut : MethodName := ⟨RX2, "takenOut", "(II)I"⟩
abbrev cX2_find : ByteArray := prog_4_method_7_code
def yX2_find : MethodName := ⟨RX2, "find", "(III)I"⟩
abbrev cX2_hasRoomFor : ByteArray := prog_4_method_8_code
def yX2_hasRoomFor : MethodName := ⟨RX2, "hasRoomFor", "(III)Z"⟩
abbrev cX2_make : ByteArray := prog_4_method_9_code
def yX2_make : MethodName := ⟨RX2, "make", "(III)I"⟩
abbrev cX2_evaluate : ByteArray := prog_4_method_13_code
def yX2_evaluate : MethodName := ⟨RX2, "evaluate", "(ILBoxedProofs$Row;)V"⟩
abbrev cX2_truthOf : ByteArray := prog_4_method_14_code
def yX2_truthOf : MethodName := ⟨RX2, "truthOf", "(IILBoxedProofs$Row;)I"⟩
abbrev cX2_truthOfAtom : ByteArray := prog_4_method_15_code
def yX2_truthOfAtom : MethodName := ⟨RX2, "truthOfAtom", "(II)I"⟩
def RX3 : String := "BoxedProofs$History"
def TX3 : u_T := fun k => match k with
  | 0 => ("BoxedProofs$History", "count", "I", false)
  | 1 => ("BoxedProofs$History", "next", "I", false)
  | _ => ("BoxedProofs$History", "ring", "[LBoxedProofs$State;", true)
def tyX3 : Nat → FieldType := fun k => match k with
  | 0 => .int
  | 1 => .int
  | _ => .array (.object "BoxedProofs$State")
abbrev wsX30 : List Cond := u_ws RX3 TX3 3
theorem nmX3 : ∀ a, a < 3 → ∀ b, b < 3 → a ≠ b → (TX3 a).2.1 ≠ (TX3 b).2.1 := by decide +kernel
theorem tyX3_ok : ∀ k, k < 3 → parseFieldDescriptor (TX3 k).2.2.1 = some (tyX3 k) := by decide +kernel
abbrev cX3_init : ByteArray := prog_5_method_1_code
def yX3_init : MethodName := ⟨RX3, "<init>", "()V"⟩
abbrev cX3_at : ByteArray := prog_5_method_2_code
def yX3_at : MethodName := ⟨RX3, "at", "(I)LBoxedProofs$State;"⟩
abbrev cX3_record : ByteArray := prog_5_method_3_code
def yX3_record : MethodName := ⟨RX3, "record", "(LBoxedProofs$State;)V"⟩
def RX4 : String := "BoxedProofs$Proof"
def TX4 : u_T := fun k => match k with
  | 0 => ("BoxedProofs$Proof", "lineCount", "I", false)
  | 1 => ("BoxedProofs$Proof", "boxCount", "I", false)
  | 2 => ("BoxedProofs$Proof", "innermost", "I", false)
  | 3 => ("BoxedProofs$Proof", "lineFormulas", "LBoxedProofs$Row;", true)
  | 4 => ("BoxedProofs$Proof", "rules", "LBoxedProofs$Row;", true)
  | 5 => ("BoxedProofs$Proof", "homes", "LBoxedProofs$Row;", true)
  | 6 => ("BoxedProofs$Proof", "firsts", "LBoxedProofs$Row;", true)
  | 7 => ("BoxedProofs$Proof", "seconds", "LBoxedProofs$Row;", true)
  | 8 => ("BoxedProofs$Proof", "thirds", "LBoxedProofs$Row;", true)
  | 9 => ("BoxedProofs$Proof", "starts", "LBoxedProofs$Row;", true)
  | 10 => ("BoxedProofs$Proof", "ends", "LBoxedProofs$Row;", true)
  | _ => ("BoxedProofs$Proof", "parents", "LBoxedProofs$Row;", true)
def tyX4 : Nat → FieldType := fun k => match k with
  | 0 => .int
  | 1 => .int
  | 2 => .int
  | 3 => .object "BoxedProofs$Row"
  | 4 => .object "BoxedProofs$Row"
  | 5 => .object "BoxedProofs$Row"
  | 6 => .object "BoxedProofs$Row"
  | 7 => .object "BoxedProofs$Row"
  | 8 => .object "BoxedProofs$Row"
  | 9 => .object "BoxedProofs$Row"
  | 10 => .object "BoxedProofs$Row"
  | _ => .object "BoxedProofs$Row"
abbrev wsX40 : List Cond := u_ws RX4 TX4 12
theorem nmX4 : ∀ a, a < 12 → ∀ b, b < 12 → a ≠ b → (TX4 a).2.1 ≠ (TX4 b).2.1 := by decide +kernel
theorem tyX4_ok : ∀ k, k < 12 → parseFieldDescriptor (TX4 k).2.2.1 = some (tyX4 k) := by decide +kernel
abbrev cX4_init : ByteArray := prog_6_method_1_code
def yX4_init : MethodName := ⟨RX4, "<init>", "()V"⟩
abbrev cX4_copyFrom : ByteArray := prog_6_method_2_code
def yX4_copyFrom : MethodName := ⟨RX4, "copyFrom", "(LBoxedProofs$Proof;)V"⟩
abbrev cX4_hasLine : ByteArray := prog_6_method_3_code
def yX4_hasLine : MethodName := ⟨RX4, "hasLine", "(I)Z"⟩
abbrev cX4_hasBox : ByteArray := prog_6_method_4_code
def yX4_hasBox : MethodName := ⟨RX4, "hasBox", "(I)Z"⟩
abbrev cX4_isFull : ByteArray := prog_6_method_5_code
def yX4_isFull : MethodName := ⟨RX4, "isFull", "()Z"⟩
abbrev cX4_addLine : ByteArray := prog_6_method_6_code
def yX4_addLine : MethodName := ⟨RX4, "addLine", "(IIIII)I"⟩
abbrev cX4_openBox : ByteArray := prog_6_method_7_code
def yX4_openBox : MethodName := ⟨RX4, "openBox", "(I)I"⟩
abbrev cX4_canCloseBox : ByteArray := prog_6_method_8_code
def yX4_canCloseBox : MethodName := ⟨RX4, "canCloseBox", "()Z"⟩
abbrev cX4_closeBox : ByteArray := prog_6_method_9_code
def yX4_closeBox : MethodName := ⟨RX4, "closeBox", "()I"⟩
abbrev cX4_isNoneOrOpen : ByteArray := prog_6_method_10_code
def yX4_isNoneOrOpen : MethodName := ⟨RX4, "isNoneOrOpen", "(I)Z"⟩
abbrev cX4_isLineAvailable : ByteArray := prog_6_method_11_code
def yX4_isLineAvailable : MethodName := ⟨RX4, "isLineAvailable", "(I)Z"⟩
abbrev cX4_isBoxAvailable : ByteArray := prog_6_method_12_code
def yX4_isBoxAvailable : MethodName := ⟨RX4, "isBoxAvailable", "(I)Z"⟩
abbrev cX4_assumptionOf : ByteArray := prog_6_method_13_code
def yX4_assumptionOf : MethodName := ⟨RX4, "assumptionOf", "(I)I"⟩
abbrev cX4_conclusionOf : ByteArray := prog_6_method_14_code
def yX4_conclusionOf : MethodName := ⟨RX4, "conclusionOf", "(I)I"⟩
abbrev cX4_nesting : ByteArray := prog_6_method_15_code
def yX4_nesting : MethodName := ⟨RX4, "nesting", "(I)I"⟩
abbrev cX4_referenceAt : ByteArray := prog_6_method_16_code
def yX4_referenceAt : MethodName := ⟨RX4, "referenceAt", "(II)I"⟩
abbrev cX4_countLineReferences : ByteArray := prog_6_method_17_code
def yX4_countLineReferences : MethodName := ⟨RX4, "countLineReferences", "(I)I"⟩
abbrev cX4_bit : ByteArray := prog_6_method_18_code
def yX4_bit : MethodName := ⟨RX4, "bit", "(I)J"⟩
abbrev cX4_contains : ByteArray := prog_6_method_19_code
def yX4_contains : MethodName := ⟨RX4, "contains", "(JI)Z"⟩
abbrev cX4_directNeeds : ByteArray := prog_6_method_20_code
def yX4_directNeeds : MethodName := ⟨RX4, "directNeeds", "(I)J"⟩
abbrev cX4_countUsers : ByteArray := prog_6_method_21_code
def yX4_countUsers : MethodName := ⟨RX4, "countUsers", "(I)I"⟩
abbrev cX4_assumptionsFrom : ByteArray := prog_6_method_22_code
def yX4_assumptionsFrom : MethodName := ⟨RX4, "assumptionsFrom", "(I)J"⟩
abbrev cX4_allNeeds : ByteArray := prog_6_method_23_code
def yX4_allNeeds : MethodName := ⟨RX4, "allNeeds", "(I)J"⟩
abbrev cX4_bypassOf : ByteArray := prog_6_method_24_code
def yX4_bypassOf : MethodName := ⟨RX4, "bypassOf", "(I)I"⟩
abbrev cX4_countDetours : ByteArray := prog_6_method_25_code
def yX4_countDetours : MethodName := ⟨RX4, "countDetours", "()I"⟩
abbrev cX4_bypassDetours : ByteArray := prog_6_method_26_code
def yX4_bypassDetours : MethodName := ⟨RX4, "bypassDetours", "()I"⟩
abbrev cX4_bypassIn : ByteArray := prog_6_method_27_code
def yX4_bypassIn : MethodName := ⟨RX4, "bypassIn", "(LBoxedProofs$Row;I)I"⟩
abbrev cX4_allowedValuations : ByteArray := prog_6_method_28_code
def yX4_allowedValuations : MethodName := ⟨RX4, "allowedValuations", "(ILBoxedProofs$Row;)I"⟩
abbrev cX4_keepOnly : ByteArray := prog_6_method_29_code
def yX4_keepOnly : MethodName := ⟨RX4, "keepOnly", "(J)I"⟩
abbrev cX4_renumbered : ByteArray := prog_6_method_30_code
def yX4_renumbered : MethodName := ⟨RX4, "renumbered", "(IJ)I"⟩
abbrev cX4_moveLine : ByteArray := prog_6_method_31_code
def yX4_moveLine : MethodName := ⟨RX4, "moveLine", "(IIJJ)V"⟩
abbrev cX4_keepBoxes : ByteArray := prog_6_method_32_code
def yX4_keepBoxes : MethodName := ⟨RX4, "keepBoxes", "(J)J"⟩
abbrev cX4_findEnds : ByteArray := prog_6_method_33_code
def yX4_findEnds : MethodName := ⟨RX4, "findEnds", "()V"⟩
def RX5 : String := "BoxedProofs$Row"
def TX5 : u_T := fun k => match k with
  | _ => ("BoxedProofs$Row", "cells", "[I", true)
def tyX5 : Nat → FieldType := fun k => match k with
  | _ => .array .int
abbrev wsX50 : List Cond := u_ws RX5 TX5 1
theorem nmX5 : ∀ a, a < 1 → ∀ b, b < 1 → a ≠ b → (TX5 a).2.1 ≠ (TX5 b).2.1 := by decide +kernel
theorem tyX5_ok : ∀ k, k < 1 → parseFieldDescriptor (TX5 k).2.2.1 = some (tyX5 k) := by decide +kernel
abbrev cX5_init : ByteArray := prog_7_method_1_code
def yX5_init : MethodName := ⟨RX5, "<init>", "(I)V"⟩
abbrev cX5_get : ByteArray := prog_7_method_2_code
def yX5_get : MethodName := ⟨RX5, "get", "(I)I"⟩
abbrev cX5_set : ByteArray := prog_7_method_3_code
def yX5_set : MethodName := ⟨RX5, "set", "(II)V"⟩
abbrev cX5_copyFrom : ByteArray := prog_7_method_4_code
def yX5_copyFrom : MethodName := ⟨RX5, "copyFrom", "(LBoxedProofs$Row;)V"⟩
def RX6 : String := "BoxedProofs$Signs"
def TX6 : u_T := fun k => match k with
  | _ => ("", "", "", false)
def tyX6 : Nat → FieldType := fun k => match k with
  | _ => .int
abbrev wsX60 : List Cond := u_ws RX6 TX6 0
theorem nmX6 : ∀ a, a < 0 → ∀ b, b < 0 → a ≠ b → (TX6 a).2.1 ≠ (TX6 b).2.1 := by decide +kernel
theorem tyX6_ok : ∀ k, k < 0 → parseFieldDescriptor (TX6 k).2.2.1 = some (tyX6 k) := by decide +kernel
def RX7 : String := "BoxedProofs$State"
def TX7 : u_T := fun k => match k with
  | 0 => ("BoxedProofs$State", "formulas", "LBoxedProofs$Formulas;", true)
  | _ => ("BoxedProofs$State", "proof", "LBoxedProofs$Proof;", true)
def tyX7 : Nat → FieldType := fun k => match k with
  | 0 => .object "BoxedProofs$Formulas"
  | _ => .object "BoxedProofs$Proof"
abbrev wsX70 : List Cond := u_ws RX7 TX7 2
theorem nmX7 : ∀ a, a < 2 → ∀ b, b < 2 → a ≠ b → (TX7 a).2.1 ≠ (TX7 b).2.1 := by decide +kernel
theorem tyX7_ok : ∀ k, k < 2 → parseFieldDescriptor (TX7 k).2.2.1 = some (tyX7 k) := by decide +kernel
abbrev cX7_init : ByteArray := prog_9_method_1_code
def yX7_init : MethodName := ⟨RX7, "<init>", "()V"⟩
abbrev cX7_copyFrom : ByteArray := prog_9_method_2_code
def yX7_copyFrom : MethodName := ⟨RX7, "copyFrom", "(LBoxedProofs$State;)V"⟩
def RX8 : String := "BoxedProofs"
def TX8 : u_T := fun k => match k with
  | 0 => ("BoxedProofs", "now", "LBoxedProofs$State;", true)
  | 1 => ("BoxedProofs", "kept", "LBoxedProofs$State;", true)
  | 2 => ("BoxedProofs", "history", "LBoxedProofs$History;", true)
  | 3 => ("BoxedProofs", "buffer", "LBoxedProofs$Buffer;", true)
  | 4 => ("BoxedProofs", "builder", "LBoxedProofs$Builder;", true)
  | 5 => ("BoxedProofs", "draft", "LBoxedProofs$Formulas;", true)
  | 6 => ("BoxedProofs", "lengths", "LBoxedProofs$Row;", true)
  | 7 => ("BoxedProofs", "truths", "LBoxedProofs$Row;", true)
  | _ => ("BoxedProofs", "isKept", "Z", false)
def tyX8 : Nat → FieldType := fun k => match k with
  | 0 => .object "BoxedProofs$State"
  | 1 => .object "BoxedProofs$State"
  | 2 => .object "BoxedProofs$History"
  | 3 => .object "BoxedProofs$Buffer"
  | 4 => .object "BoxedProofs$Builder"
  | 5 => .object "BoxedProofs$Formulas"
  | 6 => .object "BoxedProofs$Row"
  | 7 => .object "BoxedProofs$Row"
  | _ => .boolean
abbrev wsX80 : List Cond := u_ws RX8 TX8 9
theorem nmX8 : ∀ a, a < 9 → ∀ b, b < 9 → a ≠ b → (TX8 a).2.1 ≠ (TX8 b).2.1 := by decide +kernel
theorem tyX8_ok : ∀ k, k < 9 → parseFieldDescriptor (TX8 k).2.2.1 = some (tyX8 k) := by decide +kernel
abbrev cX8_init : ByteArray := prog_1_method_1_code
def yX8_init : MethodName := ⟨RX8, "<init>", "()V"⟩
abbrev cX8_atom : ByteArray := prog_1_method_2_code
def yX8_atom : MethodName := ⟨RX8, "atom", "(I)I"⟩
abbrev cX8_falsum : ByteArray := prog_1_method_3_code
def yX8_falsum : MethodName := ⟨RX8, "falsum", "()I"⟩
abbrev cX8_not : ByteArray := prog_1_method_4_code
def yX8_not : MethodName := ⟨RX8, "not", "(I)I"⟩
abbrev cX8_pair : ByteArray := prog_1_method_5_code
def yX8_pair : MethodName := ⟨RX8, "pair", "(III)I"⟩
abbrev cX8_makeFormula : ByteArray := prog_1_method_6_code
def yX8_makeFormula : MethodName := ⟨RX8, "makeFormula", "(III)I"⟩
abbrev cX8_formulas : ByteArray := prog_1_method_7_code
def yX8_formulas : MethodName := ⟨RX8, "formulas", "()I"⟩
abbrev cX8_part : ByteArray := prog_1_method_8_code
def yX8_part : MethodName := ⟨RX8, "part", "(II)I"⟩
abbrev cX8_isTrue : ByteArray := prog_1_method_11_code
def yX8_isTrue : MethodName := ⟨RX8, "isTrue", "(II)I"⟩
abbrev cX8_premise : ByteArray := prog_1_method_12_code
def yX8_premise : MethodName := ⟨RX8, "premise", "(I)I"⟩
abbrev cX8_open : ByteArray := prog_1_method_13_code
def yX8_open : MethodName := ⟨RX8, "open", "(I)I"⟩
abbrev cX8_close : ByteArray := prog_1_method_14_code
def yX8_close : MethodName := ⟨RX8, "close", "()I"⟩
abbrev cX8_repeat : ByteArray := prog_1_method_15_code
def yX8_repeat : MethodName := ⟨RX8, "repeat", "(I)I"⟩
abbrev cX8_fromTwo : ByteArray := prog_1_method_16_code
def yX8_fromTwo : MethodName := ⟨RX8, "fromTwo", "(III)I"⟩
abbrev cX8_fromOne : ByteArray := prog_1_method_17_code
def yX8_fromOne : MethodName := ⟨RX8, "fromOne", "(II)I"⟩
abbrev cX8_toFormula : ByteArray := prog_1_method_18_code
def yX8_toFormula : MethodName := ⟨RX8, "toFormula", "(III)I"⟩
abbrev cX8_fromBox : ByteArray := prog_1_method_19_code
def yX8_fromBox : MethodName := ⟨RX8, "fromBox", "(II)I"⟩
abbrev cX8_cases : ByteArray := prog_1_method_20_code
def yX8_cases : MethodName := ⟨RX8, "cases", "(III)I"⟩
abbrev cX8_write : ByteArray := prog_1_method_21_code
def yX8_write : MethodName := ⟨RX8, "write", "(IIIII)I"⟩
abbrev cX8_writeMade : ByteArray := prog_1_method_22_code
def yX8_writeMade : MethodName := ⟨RX8, "writeMade", "(IIIIII)I"⟩
abbrev cX8_lines : ByteArray := prog_1_method_23_code
def yX8_lines : MethodName := ⟨RX8, "lines", "()I"⟩
abbrev cX8_line : ByteArray := prog_1_method_24_code
def yX8_line : MethodName := ⟨RX8, "line", "(II)I"⟩
abbrev cX8_reference : ByteArray := prog_1_method_25_code
def yX8_reference : MethodName := ⟨RX8, "reference", "(II)I"⟩
abbrev cX8_boxes : ByteArray := prog_1_method_26_code
def yX8_boxes : MethodName := ⟨RX8, "boxes", "()I"⟩
abbrev cX8_box : ByteArray := prog_1_method_27_code
def yX8_box : MethodName := ⟨RX8, "box", "(II)I"⟩
abbrev cX8_depth : ByteArray := prog_1_method_28_code
def yX8_depth : MethodName := ⟨RX8, "depth", "()I"⟩
abbrev cX8_needs : ByteArray := prog_1_method_29_code
def yX8_needs : MethodName := ⟨RX8, "needs", "(I)J"⟩
abbrev cX8_bypass : ByteArray := prog_1_method_30_code
def yX8_bypass : MethodName := ⟨RX8, "bypass", "(I)I"⟩
abbrev cX8_detours : ByteArray := prog_1_method_31_code
def yX8_detours : MethodName := ⟨RX8, "detours", "()I"⟩
abbrev cX8_failure : ByteArray := prog_1_method_32_code
def yX8_failure : MethodName := ⟨RX8, "failure", "(I)I"⟩
abbrev cX8_counterexample : ByteArray := prog_1_method_33_code
def yX8_counterexample : MethodName := ⟨RX8, "counterexample", "(I)I"⟩
abbrev cX8_lowestFailure : ByteArray := prog_1_method_34_code
def yX8_lowestFailure : MethodName := ⟨RX8, "lowestFailure", "(II)I"⟩
abbrev cX8_lowestBit : ByteArray := prog_1_method_35_code
def yX8_lowestBit : MethodName := ⟨RX8, "lowestBit", "(I)I"⟩
abbrev cX8_shorten : ByteArray := prog_1_method_36_code
def yX8_shorten : MethodName := ⟨RX8, "shorten", "()I"⟩
abbrev cX8_trim : ByteArray := prog_1_method_37_code
def yX8_trim : MethodName := ⟨RX8, "trim", "(I)I"⟩
def RX9 : String := "BoxedProofsModel"
def TX9 : u_T := fun k => match k with
  | _ => ("", "", "", false)
def tyX9 : Nat → FieldType := fun k => match k with
  | _ => .int
abbrev wsX90 : List Cond := u_ws RX9 TX9 0
theorem nmX9 : ∀ a, a < 0 → ∀ b, b < 0 → a ≠ b → (TX9 a).2.1 ≠ (TX9 b).2.1 := by decide +kernel
theorem tyX9_ok : ∀ k, k < 0 → parseFieldDescriptor (TX9 k).2.2.1 = some (tyX9 k) := by decide +kernel
def RJ6 : String := "java/lang/Integer"
def TJ6 : u_T := fun k => match k with
  | _ => ("", "", "", false)
def tyJ6 : Nat → FieldType := fun k => match k with
  | _ => .int
abbrev wsJ60 : List Cond := u_ws RJ6 TJ6 0
theorem nmJ6 : ∀ a, a < 0 → ∀ b, b < 0 → a ≠ b → (TJ6 a).2.1 ≠ (TJ6 b).2.1 := by decide +kernel
theorem tyJ6_ok : ∀ k, k < 0 → parseFieldDescriptor (TJ6 k).2.2.1 = some (tyJ6 k) := by decide +kernel
abbrev cJ6_bitCount_0f7a4 : ByteArray := prog_12_method_49_code
def yJ6_bitCount_0f7a4 : MethodName := ⟨RJ6, "bitCount", "(I)I"⟩
def RJ13 : String := "java/lang/Long"
def TJ13 : u_T := fun k => match k with
  | _ => ("", "", "", false)
def tyJ13 : Nat → FieldType := fun k => match k with
  | _ => .int
abbrev wsJ130 : List Cond := u_ws RJ13 TJ13 0
theorem nmJ13 : ∀ a, a < 0 → ∀ b, b < 0 → a ≠ b → (TJ13 a).2.1 ≠ (TJ13 b).2.1 := by decide +kernel
theorem tyJ13_ok : ∀ k, k < 0 → parseFieldDescriptor (TJ13 k).2.2.1 = some (tyJ13 k) := by decide +kernel
abbrev cJ13_bitCount_95d88 : ByteArray := prog_13_method_50_code
def yJ13_bitCount_95d88 : MethodName := ⟨RJ13, "bitCount", "(J)I"⟩
def RJ9 : String := "java/lang/Math"
def TJ9 : u_T := fun k => match k with
  | _ => ("", "", "", false)
def tyJ9 : Nat → FieldType := fun k => match k with
  | _ => .int
abbrev wsJ90 : List Cond := u_ws RJ9 TJ9 0
theorem nmJ9 : ∀ a, a < 0 → ∀ b, b < 0 → a ≠ b → (TJ9 a).2.1 ≠ (TJ9 b).2.1 := by decide +kernel
theorem tyJ9_ok : ∀ k, k < 0 → parseFieldDescriptor (TJ9 k).2.2.1 = some (tyJ9 k) := by decide +kernel
abbrev cJ9_max_7cf53 : ByteArray := prog_14_method_65_code
def yJ9_max_7cf53 : MethodName := ⟨RJ9, "max", "(II)I"⟩
abbrev cJ9_min_7cf53 : ByteArray := prog_14_method_69_code
def yJ9_min_7cf53 : MethodName := ⟨RJ9, "min", "(II)I"⟩
def RJ10 : String := "java/lang/System"
def TJ10 : u_T := fun k => match k with
  | _ => ("", "", "", false)
def tyJ10 : Nat → FieldType := fun k => match k with
  | _ => .int
abbrev wsJ100 : List Cond := u_ws RJ10 TJ10 0
theorem nmJ10 : ∀ a, a < 0 → ∀ b, b < 0 → a ≠ b → (TJ10 a).2.1 ≠ (TJ10 b).2.1 := by decide +kernel
theorem tyJ10_ok : ∀ k, k < 0 → parseFieldDescriptor (TJ10 k).2.2.1 = some (tyJ10 k) := by decide +kernel
def RL : String := "BoxedProofsLaw"
abbrev cL_cell : ByteArray := method_2_code
def yL_cell : MethodName := ⟨RL, "cell", "([II)I"⟩
abbrev cL_low : ByteArray := method_3_code
def yL_low : MethodName := ⟨RL, "low", "(II)I"⟩
abbrev cL_find : ByteArray := method_4_code
def yL_find : MethodName := ⟨RL, "find", "([I[I[I[IIII)I"⟩
abbrev cL_make : ByteArray := method_5_code
def yL_make : MethodName := ⟨RL, "make", "([I[I[I[IIII)I"⟩
abbrev cL_truth : ByteArray := method_6_code
def yL_truth : MethodName := ⟨RL, "truth", "([I[I[I[II)J"⟩
abbrev cL_shut : ByteArray := method_7_code
def yL_shut : MethodName := ⟨RL, "shut", "([I[II)Z"⟩
abbrev cL_latest : ByteArray := method_8_code
def yL_latest : MethodName := ⟨RL, "latest", "([I[I)I"⟩
abbrev cL_write : ByteArray := method_9_code
def yL_write : MethodName := ⟨RL, "write", "([I[I[I[I[I[I[I[IIII)I"⟩
abbrev cL_direct : ByteArray := method_10_code
def yL_direct : MethodName := ⟨RL, "direct", "([I[I[I[I[I[II)J"⟩
abbrev cL_assumed : ByteArray := method_11_code
def yL_assumed : MethodName := ⟨RL, "assumed", "([I[I[II)J"⟩
abbrev cL_needs : ByteArray := method_12_code
def yL_needs : MethodName := ⟨RL, "needs", "([I[I[I[I[I[I[I[I[II)J"⟩
abbrev cL_bypass : ByteArray := method_13_code
def yL_bypass : MethodName := ⟨RL, "bypass", "([I[I[II)I"⟩
abbrev cL_bits : ByteArray := method_14_code
def yL_bits : MethodName := ⟨RL, "bits", "(J)I"⟩
abbrev cL_formulas : ByteArray := method_15_code
def yL_formulas : MethodName := ⟨RL, "formulas", "(LBoxedProofs;[I[I[I[II)Z"⟩
abbrev cL_lines : ByteArray := method_16_code
def yL_lines : MethodName := ⟨RL, "lines", "(LBoxedProofs;[I[I[I[I[I[I[I[I[I[I)Z"⟩
abbrev cL_follows : ByteArray := method_17_code
def yL_follows : MethodName := ⟨RL, "follows", "(LBoxedProofs;[I[I[I[I[I[I[I[I[I[III)Z"⟩
abbrev cL_shorten : ByteArray := method_18_code
def yL_shorten : MethodName := ⟨RL, "shorten", "([I[I[I[I)I"⟩
abbrev cL_trim : ByteArray := method_19_code
def yL_trim : MethodName := ⟨RL, "trim", "([I[I[I[I[I[I[I[I[I[IJ)V"⟩
abbrev cL_rule : ByteArray := method_20_code
def yL_rule : MethodName := ⟨RL, "rule", "([I[I[I[I[I[I[I[IIIII)J"⟩
abbrev cL_law : ByteArray := code
def yL_law : MethodName := ⟨RL, "law", "([I)Z"⟩
abbrev vwCl : List vw_C := [(RX0, TX0, 5), (RX1, TX1, 3), (RX2, TX2, 4), (RX3, TX3, 3), (RX4, TX4, 12), (RX5, TX5, 1), (RX7, TX7, 2), (RX8, TX8, 9)]
