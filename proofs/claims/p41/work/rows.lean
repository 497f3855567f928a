section
-- ===== PART A: goes FIRST, ahead of the names: the tables' words, and 'selects' of the private methods out of them =====
/-- a private method of a class that the tables say can be made, by its rows of tables_1 -/
def lw_okq (q : MethodName × Nat) : Prop := (q.1.cls ≠ "java/lang/invoke/MethodHandle" ∧ q.1.cls ≠ "java/lang/invoke/VarHandle") ∧ Cond.instantiable q.1.cls q.2 ∈ tables_1 ∧ Cond.privateMethod q.1 ∈ tables_1 ∧ Cond.instanceMethod q.1 ∈ tables_1
theorem lw_p0 : lw_okq (⟨"BoxedProofs", "makeFormula", "(III)I"⟩, 9) := ⟨⟨by decide +kernel, by decide +kernel⟩, List.mem_of_getElem? (i := 14) (by decide +kernel), List.mem_of_getElem? (i := 225) (by decide +kernel), List.mem_of_getElem? (i := 226) (by decide +kernel)⟩
theorem lw_p1 : lw_okq (⟨"BoxedProofs$Formulas", "find", "(III)I"⟩, 4) := ⟨⟨by decide +kernel, by decide +kernel⟩, List.mem_of_getElem? (i := 28) (by decide +kernel), List.mem_of_getElem? (i := 233) (by decide +kernel), List.mem_of_getElem? (i := 234) (by decide +kernel)⟩
theorem lw_p2 : lw_okq (⟨"BoxedProofs$History", "at", "(I)LBoxedProofs$State;"⟩, 3) := ⟨⟨by decide +kernel, by decide +kernel⟩, List.mem_of_getElem? (i := 128) (by decide +kernel), List.mem_of_getElem? (i := 245) (by decide +kernel), List.mem_of_getElem? (i := 246) (by decide +kernel)⟩
theorem lw_p3 : lw_okq (⟨"BoxedProofs", "write", "(IIIII)I"⟩, 9) := ⟨⟨by decide +kernel, by decide +kernel⟩, List.mem_of_getElem? (i := 14) (by decide +kernel), List.mem_of_getElem? (i := 301) (by decide +kernel), List.mem_of_getElem? (i := 302) (by decide +kernel)⟩
theorem lw_p4 : lw_okq (⟨"BoxedProofs$Proof", "isNoneOrOpen", "(I)Z"⟩, 12) := ⟨⟨by decide +kernel, by decide +kernel⟩, List.mem_of_getElem? (i := 65) (by decide +kernel), List.mem_of_getElem? (i := 360) (by decide +kernel), List.mem_of_getElem? (i := 361) (by decide +kernel)⟩
theorem lw_p5 : lw_okq (⟨"BoxedProofs", "writeMade", "(IIIIII)I"⟩, 9) := ⟨⟨by decide +kernel, by decide +kernel⟩, List.mem_of_getElem? (i := 14) (by decide +kernel), List.mem_of_getElem? (i := 369) (by decide +kernel), List.mem_of_getElem? (i := 370) (by decide +kernel)⟩
theorem lw_p6 : lw_okq (⟨"BoxedProofs$Proof", "countLineReferences", "(I)I"⟩, 12) := ⟨⟨by decide +kernel, by decide +kernel⟩, List.mem_of_getElem? (i := 65) (by decide +kernel), List.mem_of_getElem? (i := 423) (by decide +kernel), List.mem_of_getElem? (i := 424) (by decide +kernel)⟩
theorem lw_p7 : lw_okq (⟨"BoxedProofs$Proof", "bypassIn", "(LBoxedProofs$Row;I)I"⟩, 12) := ⟨⟨by decide +kernel, by decide +kernel⟩, List.mem_of_getElem? (i := 65) (by decide +kernel), List.mem_of_getElem? (i := 427) (by decide +kernel), List.mem_of_getElem? (i := 428) (by decide +kernel)⟩
theorem lw_p8 : lw_okq (⟨"BoxedProofs$Proof", "directNeeds", "(I)J"⟩, 12) := ⟨⟨by decide +kernel, by decide +kernel⟩, List.mem_of_getElem? (i := 65) (by decide +kernel), List.mem_of_getElem? (i := 449) (by decide +kernel), List.mem_of_getElem? (i := 450) (by decide +kernel)⟩
theorem lw_p9 : lw_okq (⟨"BoxedProofs$Proof", "assumptionsFrom", "(I)J"⟩, 12) := ⟨⟨by decide +kernel, by decide +kernel⟩, List.mem_of_getElem? (i := 65) (by decide +kernel), List.mem_of_getElem? (i := 457) (by decide +kernel), List.mem_of_getElem? (i := 458) (by decide +kernel)⟩
theorem lw_p10 : lw_okq (⟨"BoxedProofs$Proof", "keepBoxes", "(J)J"⟩, 12) := ⟨⟨by decide +kernel, by decide +kernel⟩, List.mem_of_getElem? (i := 65) (by decide +kernel), List.mem_of_getElem? (i := 465) (by decide +kernel), List.mem_of_getElem? (i := 466) (by decide +kernel)⟩
theorem lw_p11 : lw_okq (⟨"BoxedProofs$Proof", "moveLine", "(IIJJ)V"⟩, 12) := ⟨⟨by decide +kernel, by decide +kernel⟩, List.mem_of_getElem? (i := 65) (by decide +kernel), List.mem_of_getElem? (i := 478) (by decide +kernel), List.mem_of_getElem? (i := 479) (by decide +kernel)⟩
theorem lw_p12 : lw_okq (⟨"BoxedProofs$Proof", "findEnds", "()V"⟩, 12) := ⟨⟨by decide +kernel, by decide +kernel⟩, List.mem_of_getElem? (i := 65) (by decide +kernel), List.mem_of_getElem? (i := 482) (by decide +kernel), List.mem_of_getElem? (i := 483) (by decide +kernel)⟩
theorem lw_p13 : lw_okq (⟨"BoxedProofs$Formulas", "truthOf", "(IILBoxedProofs$Row;)I"⟩, 4) := ⟨⟨by decide +kernel, by decide +kernel⟩, List.mem_of_getElem? (i := 28) (by decide +kernel), List.mem_of_getElem? (i := 537) (by decide +kernel), List.mem_of_getElem? (i := 538) (by decide +kernel)⟩
theorem lw_p14 : lw_okq (⟨"BoxedProofs", "lowestFailure", "(II)I"⟩, 9) := ⟨⟨by decide +kernel, by decide +kernel⟩, List.mem_of_getElem? (i := 14) (by decide +kernel), List.mem_of_getElem? (i := 613) (by decide +kernel), List.mem_of_getElem? (i := 614) (by decide +kernel)⟩
def lw_privs_1 : List (MethodName × Nat) := [(⟨"BoxedProofs", "makeFormula", "(III)I"⟩, 9), (⟨"BoxedProofs$Formulas", "find", "(III)I"⟩, 4), (⟨"BoxedProofs$History", "at", "(I)LBoxedProofs$State;"⟩, 3), (⟨"BoxedProofs", "write", "(IIIII)I"⟩, 9), (⟨"BoxedProofs$Proof", "isNoneOrOpen", "(I)Z"⟩, 12), (⟨"BoxedProofs", "writeMade", "(IIIIII)I"⟩, 9), (⟨"BoxedProofs$Proof", "countLineReferences", "(I)I"⟩, 12), (⟨"BoxedProofs$Proof", "bypassIn", "(LBoxedProofs$Row;I)I"⟩, 12), (⟨"BoxedProofs$Proof", "directNeeds", "(I)J"⟩, 12), (⟨"BoxedProofs$Proof", "assumptionsFrom", "(I)J"⟩, 12), (⟨"BoxedProofs$Proof", "keepBoxes", "(J)J"⟩, 12), (⟨"BoxedProofs$Proof", "moveLine", "(IIJJ)V"⟩, 12), (⟨"BoxedProofs$Proof", "findEnds", "()V"⟩, 12), (⟨"BoxedProofs$Formulas", "truthOf", "(IILBoxedProofs$Row;)I"⟩, 4), (⟨"BoxedProofs", "lowestFailure", "(II)I"⟩, 9)]
theorem lw_r1 : ∀ q ∈ lw_privs_1, lw_okq q := List.forall_mem_cons.mpr ⟨lw_p0, List.forall_mem_cons.mpr ⟨lw_p1, List.forall_mem_cons.mpr ⟨lw_p2, List.forall_mem_cons.mpr ⟨lw_p3, List.forall_mem_cons.mpr ⟨lw_p4, List.forall_mem_cons.mpr ⟨lw_p5, List.forall_mem_cons.mpr ⟨lw_p6, List.forall_mem_cons.mpr ⟨lw_p7, List.forall_mem_cons.mpr ⟨lw_p8, List.forall_mem_cons.mpr ⟨lw_p9, List.forall_mem_cons.mpr ⟨lw_p10, List.forall_mem_cons.mpr ⟨lw_p11, List.forall_mem_cons.mpr ⟨lw_p12, List.forall_mem_cons.mpr ⟨lw_p13, List.forall_mem_cons.mpr ⟨lw_p14, fun _ h => absurd h List.not_mem_nil⟩⟩⟩⟩⟩⟩⟩⟩⟩⟩⟩⟩⟩⟩⟩
def lw_privs : List (MethodName × Nat) := lw_privs_1
def lw_tbl : List Cond := k2_sels lw_privs ++ tables_1
theorem lw_privs_ok : ∀ q ∈ lw_privs, lw_okq q := lw_r1
end
section
/-! ===== BEGIN words of one list among another's, by their places ===== -/
theorem goodIn_r {big : List Cond} (ws : List Cond) (ps : List Nat) (hp : ws = ps.filterMap (fun i => big[i]?)) (h : ws.all goodWord = true) : GoodIn big ws := by
  intro w hw
  have h1 := List.all_eq_true.mp h w hw
  rw [hp] at hw
  obtain ⟨i, -, hi⟩ := List.mem_filterMap.mp hw
  have hm : w ∈ big := by first | exact List.mem_of_getElem? hi | exact List.getElem?_mem hi
  exact ⟨hm, good_of_word h1⟩
theorem goodIn_app {big a b : List Cond} (ha : GoodIn big a) (hb : GoodIn big b) : GoodIn big (a ++ b) := fun w h => (List.mem_append.mp h).elim (ha w) (hb w)
theorem goodIn_ca {big a b : List Cond} {c : Cond} (ha : GoodIn big (c :: a)) (hb : GoodIn big b) : GoodIn big (c :: (a ++ b)) := fun w h => (List.mem_cons.mp h).elim (fun e => ha w (List.mem_cons.mpr (Or.inl e))) (fun h => (List.mem_append.mp h).elim (fun h => ha w (List.mem_cons.mpr (Or.inr h))) (hb w))
theorem goodIn_sub {big ws : List Cond} (hm : ∀ w ∈ ws, w ∈ big) (h : ws.all goodWord = true) : GoodIn big ws := fun w hw => ⟨hm w hw, good_of_word (List.all_eq_true.mp h w hw)⟩
/-! ===== END ===== -/

/-! ===== BEGIN printed: names, fields, word lists, decode rows ===== -/
def RX0 : String := "BoxedProofs$Buffer"
def TX0 : u_T := fun k => match k with
  | 0 => ("BoxedProofs$Buffer", "count", "I", false)
  | 1 => ("BoxedProofs$Buffer", "codes", "LBoxedProofs$Row;", true)
  | 2 => ("BoxedProofs$Buffer", "opened", "I", false)
  | 3 => ("BoxedProofs$Buffer", "signed", "I", false)
  | _ => ("BoxedProofs$Buffer", "isPartRead", "Z", false)
def tyX0 : Nat → FieldType := fun k => match k with
  | 0 => .int
  | 1 => .object "BoxedProofs$Row"
  | 2 => .int
  | 3 => .int
  | _ => .boolean
abbrev wsX00 : List Cond := u_ws RX0 TX0 5
theorem nmX0 : ∀ a, a < 5 → ∀ b, b < 5 → a ≠ b → (TX0 a).2.1 ≠ (TX0 b).2.1 := by decide +kernel
theorem tyX0_ok : ∀ k, k < 5 → parseFieldDescriptor (TX0 k).2.2.1 = some (tyX0 k) := by decide +kernel
abbrev cX0_init : ByteArray := prog_2_method_1_code
def yX0_init : MethodName := ⟨RX0, "<init>", "()V"⟩
def RX1 : String := "BoxedProofs$Builder"
def TX1 : u_T := fun k => match k with
  | 0 => ("BoxedProofs$Builder", "height", "I", false)
  | 1 => ("BoxedProofs$Builder", "waiting", "LBoxedProofs$Row;", true)
  | _ => ("BoxedProofs$Builder", "waitingLefts", "LBoxedProofs$Row;", true)
def tyX1 : Nat → FieldType := fun k => match k with
  | 0 => .int
  | 1 => .object "BoxedProofs$Row"
  | _ => .object "BoxedProofs$Row"
abbrev wsX10 : List Cond := u_ws RX1 TX1 3
theorem nmX1 : ∀ a, a < 3 → ∀ b, b < 3 → a ≠ b → (TX1 a).2.1 ≠ (TX1 b).2.1 := by decide +kernel
theorem tyX1_ok : ∀ k, k < 3 → parseFieldDescriptor (TX1 k).2.2.1 = some (tyX1 k) := by decide +kernel
abbrev cX1_init : ByteArray := prog_3_method_1_code
def yX1_init : MethodName := ⟨RX1, "<init>", "()V"⟩
def RX2 : String := "BoxedProofs$Formulas"
def TX2 : u_T := fun k => match k with
  | 0 => ("BoxedProofs$Formulas", "count", "I", false)
  | 1 => ("BoxedProofs$Formulas", "kinds", "LBoxedProofs$Row;", true)
  | 2 => ("BoxedProofs$Formulas", "lefts", "LBoxedProofs$Row;", true)
  | _ => ("BoxedProofs$Formulas", "rights", "LBoxedProofs$Row;", true)
def tyX2 : Nat → FieldType := fun k => match k with
  | 0 => .int
  | 1 => .object "BoxedProofs$Row"
  | 2 => .object "BoxedProofs$Row"
  | _ => .object "BoxedProofs$Row"
abbrev wsX20 : List Cond := u_ws RX2 TX2 4
theorem nmX2 : ∀ a, a < 4 → ∀ b, b < 4 → a ≠ b → (TX2 a).2.1 ≠ (TX2 b).2.1 := by decide +kernel
theorem tyX2_ok : ∀ k, k < 4 → parseFieldDescriptor (TX2 k).2.2.1 = some (tyX2 k) := by decide +kernel
abbrev cX2_init : ByteArray := prog_4_method_1_code
def yX2_init : MethodName := ⟨RX2, "<init>", "()V"⟩
abbrev cX2_copyFrom : ByteArray := prog_4_method_2_code
def yX2_copyFrom : MethodName := ⟨RX2, "copyFrom", "(LBoxedProofs$Formulas;)V"⟩
abbrev cX2_has : ByteArray := prog_4_method_3_code
def yX2_has : MethodName := ⟨RX2, "has", "(I)Z"⟩
abbrev cX2_isOfKind : ByteArray := prog_4_method_4_code
def yX2_isOfKind : MethodName := ⟨RX2, "isOfKind", "(II)Z"⟩
abbrev cX2_isPartOfDisjunction : ByteArray := prog_4_method_5_code
def yX2_isPartOfDisjunction : MethodName := ⟨RX2, "isPartOfDisjunction", "(II)Z"⟩
abbrev cX2_takenOut : ByteArray := prog_4_method_6_code
def yX2_takenOut : MethodName := ⟨RX2, "takenOut", "(II)I"⟩
abbrev cX2_find : ByteArray := prog_4_method_7_code
def yX2_find : MethodName := ⟨RX2, "find", "(III)I"⟩
abbrev cX2_hasRoomFor : ByteArray := prog_4_method_8_code
def yX2_hasRoomFor : MethodName := ⟨RX2, "hasRoomFor", "(III)Z"⟩
abbrev cX2_make : ByteArray := prog_4_method_9_code
def yX2_make : MethodName := ⟨RX2, "make", "(III)I"⟩
abbrev cX2_evaluate : ByteArray := prog_4_method_13_code
def yX2_evaluate : MethodName := ⟨RX2, "evaluate", "(ILBoxedProofs$Row;)V"⟩
abbrev cX2_truthOf : ByteArray := prog_4_method_14_code
def yX2_truthOf : MethodName := ⟨RX2, "truthOf", "(IILBoxedProofs$Row;)I"⟩
abbrev cX2_truthOfAtom : ByteArray := prog_4_method_15_code
def yX2_truthOfAtom : MethodName := ⟨RX2, "truthOfAtom", "(II)I"⟩
def RX3 : String := "BoxedProofs$History"
def TX3 : u_T := fun k => match k with
  | 0 => ("BoxedProofs$History", "count", "I", false)
  | 1 => ("BoxedProofs$History", "next", "I", false)
  | _ => ("BoxedProofs$History", "ring", "[LBoxedProofs$State;", true)
def tyX3 : Nat → FieldType := fun k => match k with
  | 0 => .int
  | 1 => .int
  | _ => .array (.object "BoxedProofs$State")
abbrev wsX30 : List Cond := u_ws RX3 TX3 3
theorem nmX3 : ∀ a, a < 3 → ∀ b, b < 3 → a ≠ b → (TX3 a).2.1 ≠ (TX3 b).2.1 := by decide +kernel
theorem tyX3_ok : ∀ k, k < 3 → parseFieldDescriptor (TX3 k).2.2.1 = some (tyX3 k) := by decide +kernel
abbrev cX3_init : ByteArray := prog_5_method_1_code
def yX3_init : MethodName := ⟨RX3, "<init>", "()V"⟩
abbrev cX3_at : ByteArray := prog_5_method_2_code
def yX3_at : MethodName := ⟨RX3, "at", "(I)LBoxedProofs$State;"⟩
abbrev cX3_record : ByteArray := prog_5_method_3_code
def yX3_record : MethodName := ⟨RX3, "record", "(LBoxedProofs$State;)V"⟩
def RX4 : String := "BoxedProofs$Proof"
def TX4 : u_T := fun k => match k with
  | 0 => ("BoxedProofs$Proof", "lineCount", "I", false)
  | 1 => ("BoxedProofs$Proof", "boxCount", "I", false)
  | 2 => ("BoxedProofs$Proof", "innermost", "I", false)
  | 3 => ("BoxedProofs$Proof", "lineFormulas", "LBoxedProofs$Row;", true)
  | 4 => ("BoxedProofs$Proof", "rules", "LBoxedProofs$Row;", true)
  | 5 => ("BoxedProofs$Proof", "homes", "LBoxedProofs$Row;", true)
  | 6 => ("BoxedProofs$Proof", "firsts", "LBoxedProofs$Row;", true)
  | 7 => ("BoxedProofs$Proof", "seconds", "LBoxedProofs$Row;", true)
  | 8 => ("BoxedProofs$Proof", "thirds", "LBoxedProofs$Row;", true)
  | 9 => ("BoxedProofs$Proof", "starts", "LBoxedProofs$Row;", true)
  | 10 => ("BoxedProofs$Proof", "ends", "LBoxedProofs$Row;", true)
  | _ => ("BoxedProofs$Proof", "parents", "LBoxedProofs$Row;", true)
def tyX4 : Nat → FieldType := fun k => match k with
  | 0 => .int
  | 1 => .int
  | 2 => .int
  | 3 => .object "BoxedProofs$Row"
  | 4 => .object "BoxedProofs$Row"
  | 5 => .object "BoxedProofs$Row"
  | 6 => .object "BoxedProofs$Row"
  | 7 => .object "BoxedProofs$Row"
  | 8 => .object "BoxedProofs$Row"
  | 9 => .object "BoxedProofs$Row"
  | 10 => .object "BoxedProofs$Row"
  | _ => .object "BoxedProofs$Row"
abbrev wsX40 : List Cond := u_ws RX4 TX4 12
theorem nmX4 : ∀ a, a < 12 → ∀ b, b < 12 → a ≠ b → (TX4 a).2.1 ≠ (TX4 b).2.1 := by decide +kernel
theorem tyX4_ok : ∀ k, k < 12 → parseFieldDescriptor (TX4 k).2.2.1 = some (tyX4 k) := by decide +kernel
abbrev cX4_init : ByteArray := prog_6_method_1_code
def yX4_init : MethodName := ⟨RX4, "<init>", "()V"⟩
abbrev cX4_copyFrom : ByteArray := prog_6_method_2_code
def yX4_copyFrom : MethodName := ⟨RX4, "copyFrom", "(LBoxedProofs$Proof;)V"⟩
abbrev cX4_hasLine : ByteArray := prog_6_method_3_code
def yX4_hasLine : MethodName := ⟨RX4, "hasLine", "(I)Z"⟩
abbrev cX4_hasBox : ByteArray := prog_6_method_4_code
def yX4_hasBox : MethodName := ⟨RX4, "hasBox", "(I)Z"⟩
abbrev cX4_isFull : ByteArray := prog_6_method_5_code
def yX4_isFull : MethodName := ⟨RX4, "isFull", "()Z"⟩
abbrev cX4_addLine : ByteArray := prog_6_method_6_code
def yX4_addLine : MethodName := ⟨RX4, "addLine", "(IIIII)I"⟩
abbrev cX4_openBox : ByteArray := prog_6_method_7_code
def yX4_openBox : MethodName := ⟨RX4, "openBox", "(I)I"⟩
abbrev cX4_canCloseBox : ByteArray := prog_6_method_8_code
def yX4_canCloseBox : MethodName := ⟨RX4, "canCloseBox", "()Z"⟩
abbrev cX4_closeBox : ByteArray := prog_6_method_9_code
def yX4_closeBox : MethodName := ⟨RX4, "closeBox", "()I"⟩
abbrev cX4_isNoneOrOpen : ByteArray := prog_6_method_10_code
def yX4_isNoneOrOpen : MethodName := ⟨RX4, "isNoneOrOpen", "(I)Z"⟩
abbrev cX4_isLineAvailable : ByteArray := prog_6_method_11_code
def yX4_isLineAvailable : MethodName := ⟨RX4, "isLineAvailable", "(I)Z"⟩
abbrev cX4_isBoxAvailable : ByteArray := prog_6_method_12_code
def yX4_isBoxAvailable : MethodName := ⟨RX4, "isBoxAvailable", "(I)Z"⟩
abbrev cX4_assumptionOf : ByteArray := prog_6_method_13_code
def yX4_assumptionOf : MethodName := ⟨RX4, "assumptionOf", "(I)I"⟩
abbrev cX4_conclusionOf : ByteArray := prog_6_method_14_code
def yX4_conclusionOf : MethodName := ⟨RX4, "conclusionOf", "(I)I"⟩
abbrev cX4_nesting : ByteArray := prog_6_method_15_code
def yX4_nesting : MethodName := ⟨RX4, "nesting", "(I)I"⟩
abbrev cX4_referenceAt : ByteArray := prog_6_method_16_code
def yX4_referenceAt : MethodName := ⟨RX4, "referenceAt", "(II)I"⟩
abbrev cX4_countLineReferences : ByteArray := prog_6_method_17_code
def yX4_countLineReferences : MethodName := ⟨RX4, "countLineReferences", "(I)I"⟩
abbrev cX4_bit : ByteArray := prog_6_method_18_code
def yX4_bit : MethodName := ⟨RX4, "bit", "(I)J"⟩
abbrev cX4_contains : ByteArray := prog_6_method_19_code
def yX4_contains : MethodName := ⟨RX4, "contains", "(JI)Z"⟩
abbrev cX4_directNeeds : ByteArray := prog_6_method_20_code
def yX4_directNeeds : MethodName := ⟨RX4, "directNeeds", "(I)J"⟩
abbrev cX4_countUsers : ByteArray := prog_6_method_21_code
def yX4_countUsers : MethodName := ⟨RX4, "countUsers", "(I)I"⟩
abbrev cX4_assumptionsFrom : ByteArray := prog_6_method_22_code
def yX4_assumptionsFrom : MethodName := ⟨RX4, "assumptionsFrom", "(I)J"⟩
abbrev cX4_allNeeds : ByteArray := prog_6_method_23_code
def yX4_allNeeds : MethodName := ⟨RX4, "allNeeds", "(I)J"⟩
abbrev cX4_bypassOf : ByteArray := prog_6_method_24_code
def yX4_bypassOf : MethodName := ⟨RX4, "bypassOf", "(I)I"⟩
abbrev cX4_countDetours : ByteArray := prog_6_method_25_code
def yX4_countDetours : MethodName := ⟨RX4, "countDetours", "()I"⟩
abbrev cX4_bypassDetours : ByteArray := prog_6_method_26_code
def yX4_bypassDetours : MethodName := ⟨RX4, "bypassDetours", "()I"⟩
abbrev cX4_bypassIn : ByteArray := prog_6_method_27_code
def yX4_bypassIn : MethodName := ⟨RX4, "bypassIn", "(LBoxedProofs$Row;I)I"⟩
abbrev cX4_allowedValuations : ByteArray := prog_6_method_28_code
def yX4_allowedValuations : MethodName := ⟨RX4, "allowedValuations", "(ILBoxedProofs$Row;)I"⟩
abbrev cX4_keepOnly : ByteArray := prog_6_method_29_code
def yX4_keepOnly : MethodName := ⟨RX4, "keepOnly", "(J)I"⟩
abbrev cX4_renumbered : ByteArray := prog_6_method_30_code
def yX4_renumbered : MethodName := ⟨RX4, "renumbered", "(IJ)I"⟩
abbrev cX4_moveLine : ByteArray := prog_6_method_31_code
def yX4_moveLine : MethodName := ⟨RX4, "moveLine", "(IIJJ)V"⟩
abbrev cX4_keepBoxes : ByteArray := prog_6_method_32_code
def yX4_keepBoxes : MethodName := ⟨RX4, "keepBoxes", "(J)J"⟩
abbrev cX4_findEnds : ByteArray := prog_6_method_33_code
def yX4_findEnds : MethodName := ⟨RX4, "findEnds", "()V"⟩
def RX5 : String := "BoxedProofs$Row"
def TX5 : u_T := fun k => match k with
  | _ => ("BoxedProofs$Row", "cells", "[I", true)
def tyX5 : Nat → FieldType := fun k => match k with
  | _ => .array .int
abbrev wsX50 : List Cond := u_ws RX5 TX5 1
theorem nmX5 : ∀ a, a < 1 → ∀ b, b < 1 → a ≠ b → (TX5 a).2.1 ≠ (TX5 b).2.1 := by decide +kernel
theorem tyX5_ok : ∀ k, k < 1 → parseFieldDescriptor (TX5 k).2.2.1 = some (tyX5 k) := by decide +kernel
abbrev cX5_init : ByteArray := prog_7_method_1_code
def yX5_init : MethodName := ⟨RX5, "<init>", "(I)V"⟩
abbrev cX5_get : ByteArray := prog_7_method_2_code
def yX5_get : MethodName := ⟨RX5, "get", "(I)I"⟩
abbrev cX5_set : ByteArray := prog_7_method_3_code
def yX5_set : MethodName := ⟨RX5, "set", "(II)V"⟩
abbrev cX5_copyFrom : ByteArray := prog_7_method_4_code
def yX5_copyFrom : MethodName := ⟨RX5, "copyFrom", "(LBoxedProofs$Row;)V"⟩
def RX6 : String := "BoxedProofs$Signs"
def TX6 : u_T := fun k => match k with
  | _ => ("", "", "", false)
def tyX6 : Nat → FieldType := fun k => match k with
  | _ => .int
abbrev wsX60 : List Cond := u_ws RX6 TX6 0
theorem nmX6 : ∀ a, a < 0 → ∀ b, b < 0 → a ≠ b → (TX6 a).2.1 ≠ (TX6 b).2.1 := by decide +kernel
theorem tyX6_ok : ∀ k, k < 0 → parseFieldDescriptor (TX6 k).2.2.1 = some (tyX6 k) := by decide +kernel
def RX7 : String := "BoxedProofs$State"
def TX7 : u_T := fun k => match k with
  | 0 => ("BoxedProofs$State", "formulas", "LBoxedProofs$Formulas;", true)
  | _ => ("BoxedProofs$State", "proof", "LBoxedProofs$Proof;", true)
def tyX7 : Nat → FieldType := fun k => match k with
  | 0 => .object "BoxedProofs$Formulas"
  | _ => .object "BoxedProofs$Proof"
abbrev wsX70 : List Cond := u_ws RX7 TX7 2
theorem nmX7 : ∀ a, a < 2 → ∀ b, b < 2 → a ≠ b → (TX7 a).2.1 ≠ (TX7 b).2.1 := by decide +kernel
theorem tyX7_ok : ∀ k, k < 2 → parseFieldDescriptor (TX7 k).2.2.1 = some (tyX7 k) := by decide +kernel
abbrev cX7_init : ByteArray := prog_9_method_1_code
def yX7_init : MethodName := ⟨RX7, "<init>", "()V"⟩
abbrev cX7_copyFrom : ByteArray := prog_9_method_2_code
def yX7_copyFrom : MethodName := ⟨RX7, "copyFrom", "(LBoxedProofs$State;)V"⟩
def RX8 : String := "BoxedProofs"
def TX8 : u_T := fun k => match k with
  | 0 => ("BoxedProofs", "now", "LBoxedProofs$State;", true)
  | 1 => ("BoxedProofs", "kept", "LBoxedProofs$State;", true)
  | 2 => ("BoxedProofs", "history", "LBoxedProofs$History;", true)
  | 3 => ("BoxedProofs", "buffer", "LBoxedProofs$Buffer;", true)
  | 4 => ("BoxedProofs", "builder", "LBoxedProofs$Builder;", true)
  | 5 => ("BoxedProofs", "draft", "LBoxedProofs$Formulas;", true)
  | 6 => ("BoxedProofs", "lengths", "LBoxedProofs$Row;", true)
  | 7 => ("BoxedProofs", "truths", "LBoxedProofs$Row;", true)
  | _ => ("BoxedProofs", "isKept", "Z", false)
def tyX8 : Nat → FieldType := fun k => match k with
  | 0 => .object "BoxedProofs$State"
  | 1 => .object "BoxedProofs$State"
  | 2 => .object "BoxedProofs$History"
  | 3 => .object "BoxedProofs$Buffer"
  | 4 => .object "BoxedProofs$Builder"
  | 5 => .object "BoxedProofs$Formulas"
  | 6 => .object "BoxedProofs$Row"
  | 7 => .object "BoxedProofs$Row"
  | _ => .boolean
abbrev wsX80 : List Cond := u_ws RX8 TX8 9
theorem nmX8 : ∀ a, a < 9 → ∀ b, b < 9 → a ≠ b → (TX8 a).2.1 ≠ (TX8 b).2.1 := by decide +kernel
theorem tyX8_ok : ∀ k, k < 9 → parseFieldDescriptor (TX8 k).2.2.1 = some (tyX8 k) := by decide +kernel
abbrev cX8_init : ByteArray := prog_1_method_1_code
def yX8_init : MethodName := ⟨RX8, "<init>", "()V"⟩
abbrev cX8_atom : ByteArray := prog_1_method_2_code
def yX8_atom : MethodName := ⟨RX8, "atom", "(I)I"⟩
abbrev cX8_falsum : ByteArray := prog_1_method_3_code
def yX8_falsum : MethodName := ⟨RX8, "falsum", "()I"⟩
abbrev cX8_not : ByteArray := prog_1_method_4_code
def yX8_not : MethodName := ⟨RX8, "not", "(I)I"⟩
abbrev cX8_pair : ByteArray := prog_1_method_5_code
def yX8_pair : MethodName := ⟨RX8, "pair", "(III)I"⟩
abbrev cX8_makeFormula : ByteArray := prog_1_method_6_code
def yX8_makeFormula : MethodName := ⟨RX8, "makeFormula", "(III)I"⟩
abbrev cX8_formulas : ByteArray := prog_1_method_7_code
def yX8_formulas : MethodName := ⟨RX8, "formulas", "()I"⟩
abbrev cX8_part : ByteArray := prog_1_method_8_code
def yX8_part : MethodName := ⟨RX8, "part", "(II)I"⟩
abbrev cX8_isTrue : ByteArray := prog_1_method_11_code
def yX8_isTrue : MethodName := ⟨RX8, "isTrue", "(II)I"⟩
abbrev cX8_premise : ByteArray := prog_1_method_12_code
def yX8_premise : MethodName := ⟨RX8, "premise", "(I)I"⟩
abbrev cX8_open : ByteArray := prog_1_method_13_code
def yX8_open : MethodName := ⟨RX8, "open", "(I)I"⟩
abbrev cX8_close : ByteArray := prog_1_method_14_code
def yX8_close : MethodName := ⟨RX8, "close", "()I"⟩
abbrev cX8_repeat : ByteArray := prog_1_method_15_code
def yX8_repeat : MethodName := ⟨RX8, "repeat", "(I)I"⟩
abbrev cX8_fromTwo : ByteArray := prog_1_method_16_code
def yX8_fromTwo : MethodName := ⟨RX8, "fromTwo", "(III)I"⟩
abbrev cX8_fromOne : ByteArray := prog_1_method_17_code
def yX8_fromOne : MethodName := ⟨RX8, "fromOne", "(II)I"⟩
abbrev cX8_toFormula : ByteArray := prog_1_method_18_code
def yX8_toFormula : MethodName := ⟨RX8, "toFormula", "(III)I"⟩
abbrev cX8_fromBox : ByteArray := prog_1_method_19_code
def yX8_fromBox : MethodName := ⟨RX8, "fromBox", "(II)I"⟩
abbrev cX8_cases : ByteArray := prog_1_method_20_code
def yX8_cases : MethodName := ⟨RX8, "cases", "(III)I"⟩
abbrev cX8_write : ByteArray := prog_1_method_21_code
def yX8_write : MethodName := ⟨RX8, "write", "(IIIII)I"⟩
abbrev cX8_writeMade : ByteArray := prog_1_method_22_code
def yX8_writeMade : MethodName := ⟨RX8, "writeMade", "(IIIIII)I"⟩
abbrev cX8_lines : ByteArray := prog_1_method_23_code
def yX8_lines : MethodName := ⟨RX8, "lines", "()I"⟩
abbrev cX8_line : ByteArray := prog_1_method_24_code
def yX8_line : MethodName := ⟨RX8, "line", "(II)I"⟩
abbrev cX8_reference : ByteArray := prog_1_method_25_code
def yX8_reference : MethodName := ⟨RX8, "reference", "(II)I"⟩
abbrev cX8_boxes : ByteArray := prog_1_method_26_code
def yX8_boxes : MethodName := ⟨RX8, "boxes", "()I"⟩
abbrev cX8_box : ByteArray := prog_1_method_27_code
def yX8_box : MethodName := ⟨RX8, "box", "(II)I"⟩
abbrev cX8_depth : ByteArray := prog_1_method_28_code
def yX8_depth : MethodName := ⟨RX8, "depth", "()I"⟩
abbrev cX8_needs : ByteArray := prog_1_method_29_code
def yX8_needs : MethodName := ⟨RX8, "needs", "(I)J"⟩
abbrev cX8_bypass : ByteArray := prog_1_method_30_code
def yX8_bypass : MethodName := ⟨RX8, "bypass", "(I)I"⟩
abbrev cX8_detours : ByteArray := prog_1_method_31_code
def yX8_detours : MethodName := ⟨RX8, "detours", "()I"⟩
abbrev cX8_failure : ByteArray := prog_1_method_32_code
def yX8_failure : MethodName := ⟨RX8, "failure", "(I)I"⟩
abbrev cX8_counterexample : ByteArray := prog_1_method_33_code
def yX8_counterexample : MethodName := ⟨RX8, "counterexample", "(I)I"⟩
abbrev cX8_lowestFailure : ByteArray := prog_1_method_34_code
def yX8_lowestFailure : MethodName := ⟨RX8, "lowestFailure", "(II)I"⟩
abbrev cX8_lowestBit : ByteArray := prog_1_method_35_code
def yX8_lowestBit : MethodName := ⟨RX8, "lowestBit", "(I)I"⟩
abbrev cX8_shorten : ByteArray := prog_1_method_36_code
def yX8_shorten : MethodName := ⟨RX8, "shorten", "()I"⟩
abbrev cX8_trim : ByteArray := prog_1_method_37_code
def yX8_trim : MethodName := ⟨RX8, "trim", "(I)I"⟩
def RX9 : String := "BoxedProofsModel"
def TX9 : u_T := fun k => match k with
  | _ => ("", "", "", false)
def tyX9 : Nat → FieldType := fun k => match k with
  | _ => .int
abbrev wsX90 : List Cond := u_ws RX9 TX9 0
theorem nmX9 : ∀ a, a < 0 → ∀ b, b < 0 → a ≠ b → (TX9 a).2.1 ≠ (TX9 b).2.1 := by decide +kernel
theorem tyX9_ok : ∀ k, k < 0 → parseFieldDescriptor (TX9 k).2.2.1 = some (tyX9 k) := by decide +kernel
def RJ6 : String := "java/lang/Integer"
def TJ6 : u_T := fun k => match k with
  | _ => ("", "", "", false)
def tyJ6 : Nat → FieldType := fun k => match k with
  | _ => .int
abbrev wsJ60 : List Cond := u_ws RJ6 TJ6 0
theorem nmJ6 : ∀ a, a < 0 → ∀ b, b < 0 → a ≠ b → (TJ6 a).2.1 ≠ (TJ6 b).2.1 := by decide +kernel
theorem tyJ6_ok : ∀ k, k < 0 → parseFieldDescriptor (TJ6 k).2.2.1 = some (tyJ6 k) := by decide +kernel
abbrev cJ6_bitCount_0f7a4 : ByteArray := prog_12_method_49_code
def yJ6_bitCount_0f7a4 : MethodName := ⟨RJ6, "bitCount", "(I)I"⟩
def RJ13 : String := "java/lang/Long"
def TJ13 : u_T := fun k => match k with
  | _ => ("", "", "", false)
def tyJ13 : Nat → FieldType := fun k => match k with
  | _ => .int
abbrev wsJ130 : List Cond := u_ws RJ13 TJ13 0
theorem nmJ13 : ∀ a, a < 0 → ∀ b, b < 0 → a ≠ b → (TJ13 a).2.1 ≠ (TJ13 b).2.1 := by decide +kernel
theorem tyJ13_ok : ∀ k, k < 0 → parseFieldDescriptor (TJ13 k).2.2.1 = some (tyJ13 k) := by decide +kernel
abbrev cJ13_bitCount_95d88 : ByteArray := prog_13_method_50_code
def yJ13_bitCount_95d88 : MethodName := ⟨RJ13, "bitCount", "(J)I"⟩
def RJ9 : String := "java/lang/Math"
def TJ9 : u_T := fun k => match k with
  | _ => ("", "", "", false)
def tyJ9 : Nat → FieldType := fun k => match k with
  | _ => .int
abbrev wsJ90 : List Cond := u_ws RJ9 TJ9 0
theorem nmJ9 : ∀ a, a < 0 → ∀ b, b < 0 → a ≠ b → (TJ9 a).2.1 ≠ (TJ9 b).2.1 := by decide +kernel
theorem tyJ9_ok : ∀ k, k < 0 → parseFieldDescriptor (TJ9 k).2.2.1 = some (tyJ9 k) := by decide +kernel
abbrev cJ9_max_7cf53 : ByteArray := prog_14_method_65_code
def yJ9_max_7cf53 : MethodName := ⟨RJ9, "max", "(II)I"⟩
abbrev cJ9_min_7cf53 : ByteArray := prog_14_method_69_code
def yJ9_min_7cf53 : MethodName := ⟨RJ9, "min", "(II)I"⟩
def RJ10 : String := "java/lang/System"
def TJ10 : u_T := fun k => match k with
  | _ => ("", "", "", false)
def tyJ10 : Nat → FieldType := fun k => match k with
  | _ => .int
abbrev wsJ100 : List Cond := u_ws RJ10 TJ10 0
theorem nmJ10 : ∀ a, a < 0 → ∀ b, b < 0 → a ≠ b → (TJ10 a).2.1 ≠ (TJ10 b).2.1 := by decide +kernel
theorem tyJ10_ok : ∀ k, k < 0 → parseFieldDescriptor (TJ10 k).2.2.1 = some (tyJ10 k) := by decide +kernel
def RL : String := "BoxedProofsLaw"
abbrev cL_cell : ByteArray := method_2_code
def yL_cell : MethodName := ⟨RL, "cell", "([II)I"⟩
abbrev cL_low : ByteArray := method_3_code
def yL_low : MethodName := ⟨RL, "low", "(II)I"⟩
abbrev cL_find : ByteArray := method_4_code
def yL_find : MethodName := ⟨RL, "find", "([I[I[I[IIII)I"⟩
abbrev cL_make : ByteArray := method_5_code
def yL_make : MethodName := ⟨RL, "make", "([I[I[I[IIII)I"⟩
abbrev cL_truth : ByteArray := method_6_code
def yL_truth : MethodName := ⟨RL, "truth", "([I[I[I[II)J"⟩
abbrev cL_shut : ByteArray := method_7_code
def yL_shut : MethodName := ⟨RL, "shut", "([I[II)Z"⟩
abbrev cL_latest : ByteArray := method_8_code
def yL_latest : MethodName := ⟨RL, "latest", "([I[I)I"⟩
abbrev cL_write : ByteArray := method_9_code
def yL_write : MethodName := ⟨RL, "write", "([I[I[I[I[I[I[I[IIII)I"⟩
abbrev cL_direct : ByteArray := method_10_code
def yL_direct : MethodName := ⟨RL, "direct", "([I[I[I[I[I[II)J"⟩
abbrev cL_assumed : ByteArray := method_11_code
def yL_assumed : MethodName := ⟨RL, "assumed", "([I[I[II)J"⟩
abbrev cL_needs : ByteArray := method_12_code
def yL_needs : MethodName := ⟨RL, "needs", "([I[I[I[I[I[I[I[I[II)J"⟩
abbrev cL_bypass : ByteArray := method_13_code
def yL_bypass : MethodName := ⟨RL, "bypass", "([I[I[II)I"⟩
abbrev cL_bits : ByteArray := method_14_code
def yL_bits : MethodName := ⟨RL, "bits", "(J)I"⟩
abbrev cL_formulas : ByteArray := method_15_code
def yL_formulas : MethodName := ⟨RL, "formulas", "(LBoxedProofs;[I[I[I[II)Z"⟩
abbrev cL_lines : ByteArray := method_16_code
def yL_lines : MethodName := ⟨RL, "lines", "(LBoxedProofs;[I[I[I[I[I[I[I[I[I[I)Z"⟩
abbrev cL_follows : ByteArray := method_17_code
def yL_follows : MethodName := ⟨RL, "follows", "(LBoxedProofs;[I[I[I[I[I[I[I[I[I[III)Z"⟩
abbrev cL_shorten : ByteArray := method_18_code
def yL_shorten : MethodName := ⟨RL, "shorten", "([I[I[I[I)I"⟩
abbrev cL_trim : ByteArray := method_19_code
def yL_trim : MethodName := ⟨RL, "trim", "([I[I[I[I[I[I[I[I[I[IJ)V"⟩
abbrev cL_rule : ByteArray := method_20_code
def yL_rule : MethodName := ⟨RL, "rule", "([I[I[I[I[I[I[I[IIIII)J"⟩
abbrev cL_law : ByteArray := code
def yL_law : MethodName := ⟨RL, "law", "([I)Z"⟩
abbrev vwCl : List vw_C := [(RX0, TX0, 5), (RX1, TX1, 3), (RX2, TX2, 4), (RX3, TX3, 3), (RX4, TX4, 12), (RX5, TX5, 1), (RX7, TX7, 2), (RX8, TX8, 9)]
end
section
/-! THE SMALL MACHINE: values, memory, shapes, one step as a condition. Cell ids are (kind, instance, column); references never change once the objects are made. -/
abbrev xI : Type := Nat × Nat × Nat
abbrev xV : Type := Int32 ⊕ Int64 ⊕ Option xI
abbrev xM : Type := xI → Nat → Int32
abbrev vI (x : Int32) : xV := Sum.inl x
abbrev vL (x : Int64) : xV := Sum.inr (Sum.inl x)
abbrev vR (q : xI) : xV := Sum.inr (Sum.inr (some q))
abbrev vN : xV := Sum.inr (Sum.inr none)
abbrev xP : Type := Option xV → xM → Prop
/-- a method: name, bytes, locals, what it returns, how many arguments (the receiver not counted) -/
abbrev xD : Type := MethodName × ByteArray × Nat × Option FieldType × Nat
/-- an instruction: place, instruction, length, numbers (a local, targets, a field), a constant -/
abbrev xT : Type := Nat × Instr × Nat × List Nat × xV
abbrev xC : Type := xD → List xV → xM → xP → Prop
abbrev xK : Type := List xT → List xV → List xV → xM → Prop
/-- of a class: fields (entry, class, place, kind), methods of objects (entry, class, method), static methods, constants, natives (entry, which) -/
abbrev xCE : Type := List (Nat × Nat × Nat × Nat) × List (Nat × Nat × xD) × List (Nat × Nat × xD) × List (Nat × xV) × List (Nat × Nat)
/-- a method's text: its class's number, the method, its instructions, its heads with their live locals, its class's tables -/
abbrev xE : Type := Nat × xD × List xT × List (Nat × List Bool) × xCE
def xst (μ : xM) (q : xI) (k : Nat) (v : Int32) : xM := fun p => if p = q then upd (μ q) k v else μ p
def xcp (μ : xM) (a b : xI) (sp dp n : Nat) : xM := fun p => if p = b then va_cpy (μ a) (μ b) sp dp n else μ p
def xlenc : Nat → Nat
  | 0 => 60 | 1 => 60 | 2 => 60
  | 3 => 48 | 4 => 48 | 5 => 48 | 6 => 48 | 7 => 48 | 8 => 48 | 9 => 48 | 10 => 48 | 11 => 48
  | 12 => 60 | 13 => 60 | 14 => 70 | 15 => 70 | 16 => 70
  | 20 => 60 | 21 => 60 | 22 => 60 | 23 => 48 | 24 => 48 | 25 => 48 | 26 => 48 | 27 => 48 | 28 => 48 | 29 => 48 | 30 => 48 | 31 => 48
  | 32 => 3 | 33 => 48 | 34 => 48
  | _ => 0
def xarr : xI → Option (Nat × Nat)
  | (1, _, c) => some (0, xlenc c)
  | _ => none
def xobj : xI → Option (Nat × List (Option xI))
  | (0, j, c) => some (5, [some (1, j, c)])
  | (2, j, _) => some (2, [none, some (0, j, 0), some (0, j, 1), some (0, j, 2)])
  | (3, j, _) => some (4, [none, none, none, some (0, j, 3), some (0, j, 4), some (0, j, 5), some (0, j, 6), some (0, j, 7), some (0, j, 8), some (0, j, 9), some (0, j, 10), some (0, j, 11)])
  | (4, j, _) => some (6, [some (2, j, 0), some (3, j, 0)])
  | (5, _, _) => some (3, [none, none, some (10, 0, 0)])
  | (6, _, _) => some (0, [none, some (0, 0, 14), none, none, none])
  | (7, _, _) => some (1, [none, some (0, 0, 15), some (0, 0, 16)])
  | (8, _, _) => some (7, [some (4, 0, 0), some (4, 1, 0), some (5, 0, 0), some (6, 0, 0), some (7, 0, 0), some (2, 7, 0), some (0, 0, 12), some (0, 0, 13), none])
  | _ => none
/-- the cells of the world: with the two rows that come and go, or without -/
def xok (b : Bool) (q : xI) : Bool :=
  if q.1 = 0 then (decide (q.2.2 < 3) && decide (q.2.1 < 8)) || (decide (3 ≤ q.2.2) && decide (q.2.2 < 12) && decide (q.2.1 < 7)) || (decide (12 ≤ q.2.2) && decide (q.2.2 < 17) && decide (q.2.1 = 0))
  else if q.1 = 1 then (decide (q.2.2 < 3) && decide (q.2.1 < 8)) || (decide (3 ≤ q.2.2) && decide (q.2.2 < 12) && decide (q.2.1 < 7)) || (decide (12 ≤ q.2.2) && decide (q.2.2 < 17) && decide (q.2.1 = 0)) || (decide (20 ≤ q.2.2) && decide (q.2.2 < 33) && decide (q.2.1 = 0)) || (b && decide (33 ≤ q.2.2) && decide (q.2.2 < 35) && decide (q.2.1 = 0))
  else if q.1 = 2 then decide (q.2.2 = 0) && decide (q.2.1 < 8)
  else if q.1 = 3 then decide (q.2.2 = 0) && decide (q.2.1 < 7)
  else if q.1 = 4 then decide (q.2.2 = 0) && decide (q.2.1 < 7)
  else decide (q.1 < 11) && decide (q.1 ≠ 9) && decide (q.2.1 = 0) && decide (q.2.2 = 0)
def xids (b : Bool) : List xI := ((List.range 11).flatMap fun k => (List.range 8).flatMap fun j => (List.range 35).map fun c => (k, j, c)).filter (xok b)
/-- the script -/
abbrev xsc : xI := (13, 0, 0)
/-- a machine's value -/
def xrv (ad : xI → Nat) : xV → Value
  | .inl x => .int x
  | .inr (.inl x) => .long x
  | .inr (.inr (some q)) => .ref (ad q)
  | .inr (.inr none) => .null
def xvok (b : Bool) : xV → Prop
  | .inr (.inr (some q)) => q = xsc ∨ xok b q = true
  | _ => True
def xfs (ad : xI → Nat) (f : Nat → Int32) : Nat → List (Option xI) → List Value
  | _, [] => []
  | k, none :: l => .int (f k) :: xfs ad f (k + 1) l
  | k, some r :: l => .ref (ad r) :: xfs ad f (k + 1) l
def xcell (ad : xI → Nat) (cA : Nat → ClassId) (μ : xM) (q : xI) : va_E := match xobj q with
  | some (ci, fs) => .inr (ci, xfs ad (μ q) 0 fs)
  | none => match xarr q with
    | some (t, n) => .inl (cA t, n, .inl (μ q))
    | none => .inl (cA 1, 5, .inr (.inr (.inr (.inr fun i => some (ad (4, 2 + i, 0))))))
def xwld (b : Bool) (ad : xI → Nat) (cA : Nat → ClassId) (μ : xM) : va_W := (xids b).map fun q => (ad q, xcell ad cA μ q)
def xtys (cA : Nat → ClassId) : List (ClassId × FieldType) := [(cA 0, .int), (cA 1, .object "BoxedProofs$State")]
-- reading stack and locals
def xpI (st : List xV) (f : Int32 → List xV → Prop) : Prop := match st with
  | .inl x :: r => f x r
  | _ => False
def xpL (st : List xV) (f : Int64 → List xV → Prop) : Prop := match st with
  | .inr (.inl x) :: r => f x r
  | _ => False
def xpR (st : List xV) (f : xI → List xV → Prop) : Prop := match st with
  | .inr (.inr (some q)) :: r => f q r
  | _ => False
def xnth : List xV → Nat → xV
  | [], _ => vN
  | v :: _, 0 => v
  | _ :: l, i + 1 => xnth l i
def xgI (lv : List xV) (i : Nat) (f : Int32 → Prop) : Prop := match xnth lv i with
  | .inl x => f x
  | _ => False
def xgL (lv : List xV) (i : Nat) (f : Int64 → Prop) : Prop := match xnth lv i with
  | .inr (.inl x) => f x
  | _ => False
def xgR (lv : List xV) (i : Nat) (f : xI → Prop) : Prop := match xnth lv i with
  | .inr (.inr (some q)) => f q
  | _ => False
def xcI (c : xV) (f : Int32 → Prop) : Prop := match c with
  | .inl x => f x
  | _ => False
def xcL (c : xV) (f : Int64 → Prop) : Prop := match c with
  | .inr (.inl x) => f x
  | _ => False
def xax (q : xI) (t : Nat) (f : Nat → Prop) : Prop := match xarr q with
  | some (t', n) => (match Nat.beq t' t with | true => f n | false => False)
  | none => False
def xal (q : xI) (f : Nat → Prop) : Prop := match xarr q with
  | some (_, n) => f n
  | none => (match q with | (10, _, _) => f 5 | _ => False)
def xrg (q : xI) (f : Prop) : Prop := match q with
  | (10, _, _) => f
  | _ => False
def xro (q : xI) (t : Nat) (f : Prop) : Prop := match xobj q with
  | some (ci, _) => (match Nat.beq ci t with | true => f | false => False)
  | none => False
def xpQ (st : List xV) (f : Option xI → List xV → Prop) : Prop := match st with
  | .inr (.inr q) :: r => f q r
  | _ => False
def xnil (l : List xV) (f : Prop) : Prop := match l with
  | [] => f
  | _ => False
def xri (rt : Option FieldType) (x : Int32) (f : Prop) : Prop := match rt with
  | some .int => f
  | some .boolean => (x = 0 ∨ x = 1) ∧ f
  | _ => False
def xrl (rt : Option FieldType) (f : Prop) : Prop := match rt with
  | some .long => f
  | _ => False
def xra (rt : Option FieldType) (f : Prop) : Prop := match rt with
  | some (.object _) => f
  | _ => False
def xrn (rt : Option FieldType) (f : Prop) : Prop := match rt with
  | none => f
  | _ => False
def xpb (c : xV) (x : Int32) (f : Prop) : Prop := match c with
  | .inl _ => (x = 0 ∨ x = 1) ∧ f
  | _ => f
def xset : List xV → Nat → xV → List xV
  | [], _, _ => []
  | _ :: l, 0, v => v :: l
  | a :: l, i + 1, v => a :: xset l i v
def xclr (lv : List xV) : Nat → List xV
  | 0 => lv
  | i + 1 => match xnth lv i with
    | .inr (.inl _) => xset lv i vN
    | _ => lv
def xs1 (lv : List xV) (i : Nat) (v : xV) : List xV := xset (xclr lv i) i v
def xs2 (lv : List xV) (i : Nat) (v : xV) : List xV := xset (xset (xclr lv i) (i + 1) vN) i v
def xmask : List Bool → List xV → List xV
  | true :: b, v :: l => v :: xmask b l
  | false :: b, _ :: l => vN :: xmask b l
  | _, _ => []
def xlook : List (Nat × List Bool) → Nat → Option (List Bool)
  | [], _ => none
  | (a, b) :: l, n => match Nat.beq a n with
    | true => some b
    | false => xlook l n
def xt0 : List Nat → Nat
  | a :: _ => a
  | [] => 0
def xt1 : List Nat → Nat
  | _ :: a :: _ => a
  | _ => 0
def xcats : List xV → Nat
  | [] => 0
  | .inr (.inl _) :: l => 2 + xcats l
  | _ :: l => 1 + xcats l
def xargs : Nat → List xV → List xV → (List xV → List xV → Prop) → Prop
  | 0, st, acc, f => f acc st
  | n + 1, v :: r, acc, f => xargs n r (v :: acc) f
  | _ + 1, [], _, _ => False
def xfind (l : List (Nat × Nat × xD)) (i : Nat) (f : xD → Prop) : Prop := match l, i with
  | [], _ => False
  | (_, _, D) :: _, 0 => f D
  | _ :: l, i + 1 => xfind l i f
def xif8 (l : List xV) (f : Prop) : Prop := match Nat.ble (xcats l) 8 with
  | true => f
  | false => False
def xifv (l : List xV) (D : xD) (f : Prop) : Prop := match Nat.ble (xcats l) 8 with
  | true => (match Nat.ble D.2.2.1 18 with | true => f | false => False)
  | false => False
def xif26 (l : List xV) (D : xD) (f : Prop) : Prop := match Nat.ble (xcats l + D.2.2.1) 26 with
  | true => f
  | false => False
def xrI (k : Int32 → xM → Prop) : xP := fun r μ' => match r with
  | some (.inl x) => k x μ'
  | _ => False
def xrL (k : Int64 → xM → Prop) : xP := fun r μ' => match r with
  | some (.inr (.inl x)) => k x μ'
  | _ => False
def xrR (k : xI → xM → Prop) : xP := fun r μ' => match r with
  | some (.inr (.inr (some q))) => k q μ'
  | _ => False
def xrV (k : xM → Prop) : xP := fun r μ' => match r with
  | none => k μ'
  | _ => False
/-- behind a call: what it returned goes onto the stack -/
def xret (rt : Option FieldType) (rest : List xV) (k : List xV → xM → Prop) : xP := match rt with
  | none => xrV fun μ' => k rest μ'
  | some .long => xrL fun x μ' => k (vL x :: rest) μ'
  | some (.object _) => xrR fun q μ' => k (vR q :: rest) μ'
  | some _ => xrI fun x μ' => k (vI x :: rest) μ'
def xtsw (x : Int32) : Int → List Nat → (Nat → Prop) → Prop → Prop
  | _, [], _, d => d
  | lo, t :: l, k, d => (x = Int32.ofInt lo → k t) ∧ (¬ x = Int32.ofInt lo → xtsw x (lo + 1) l k d)
def xlsw (x : Int32) : List (Int × Int) → List Nat → (Nat → Prop) → Prop → Prop
  | [], _, _, d => d
  | (a, _) :: l, t :: ts, k, d => (x = Int32.ofInt a → k t) ∧ (¬ x = Int32.ofInt a → xlsw x l ts k d)
  | _ :: _, [], _, _ => False
def xif (c : Prop) (a b : Prop) : Prop := (c → a) ∧ (¬ c → b)
def xfld (q : xI) (ci k : Nat) (fi : Prop) (fr : xI → Prop) : Prop := match xobj q with
  | some (ci', fs) => (match Nat.beq ci' ci with
    | true => (match fs[k]? with
      | some none => fi
      | some (some r) => fr r
      | none => False)
    | false => False)
  | none => False
def xstep (cl : xC) (E : xE) (Q : xP) (e : xT) (r : List xT) (lv st : List xV) (μ : xM) (k : xK) : Prop :=
  match e.2.1 with
  | .aload_n _ => xgR lv (xt0 e.2.2.2.1) fun q => k r lv (vR q :: st) μ
  | .aload _ => xgR lv (xt0 e.2.2.2.1) fun q => k r lv (vR q :: st) μ
  | .iload_n _ => xgI lv (xt0 e.2.2.2.1) fun x => k r lv (vI x :: st) μ
  | .iload _ => xgI lv (xt0 e.2.2.2.1) fun x => k r lv (vI x :: st) μ
  | .lload_n _ => xgL lv (xt0 e.2.2.2.1) fun x => k r lv (vL x :: st) μ
  | .lload _ => xgL lv (xt0 e.2.2.2.1) fun x => k r lv (vL x :: st) μ
  | .istore_n _ => xpI st fun x s' => k r (xs1 lv (xt0 e.2.2.2.1) (vI x)) s' μ
  | .istore _ => xpI st fun x s' => k r (xs1 lv (xt0 e.2.2.2.1) (vI x)) s' μ
  | .lstore_n _ => xpL st fun x s' => k r (xs2 lv (xt0 e.2.2.2.1) (vL x)) s' μ
  | .lstore _ => xpL st fun x s' => k r (xs2 lv (xt0 e.2.2.2.1) (vL x)) s' μ
  | .astore_n _ => xpR st fun q s' => k r (xs1 lv (xt0 e.2.2.2.1) (vR q)) s' μ
  | .astore _ => xpR st fun q s' => k r (xs1 lv (xt0 e.2.2.2.1) (vR q)) s' μ
  | .iconst _ => xcI e.2.2.2.2 fun x => k r lv (vI x :: st) μ
  | .bipush _ => xcI e.2.2.2.2 fun x => k r lv (vI x :: st) μ
  | .sipush _ => xcI e.2.2.2.2 fun x => k r lv (vI x :: st) μ
  | .ldc _ => xcI e.2.2.2.2 fun x => k r lv (vI x :: st) μ
  | .ldc_w _ => xcI e.2.2.2.2 fun x => k r lv (vI x :: st) μ
  | .lconst _ => xcL e.2.2.2.2 fun x => k r lv (vL x :: st) μ
  | .ldc2_w _ => xcL e.2.2.2.2 fun x => k r lv (vL x :: st) μ
  | .aconst_null => k r lv (vN :: st) μ
  | .iadd => xpI st fun y s' => xpI s' fun x s' => k r lv (vI (x + y) :: s') μ
  | .isub => xpI st fun y s' => xpI s' fun x s' => k r lv (vI (x - y) :: s') μ
  | .imul => xpI st fun y s' => xpI s' fun x s' => k r lv (vI (x * y) :: s') μ
  | .iand => xpI st fun y s' => xpI s' fun x s' => k r lv (vI (x &&& y) :: s') μ
  | .ior => xpI st fun y s' => xpI s' fun x s' => k r lv (vI (x ||| y) :: s') μ
  | .ixor => xpI st fun y s' => xpI s' fun x s' => k r lv (vI (x ^^^ y) :: s') μ
  | .idiv => xpI st fun y s' => xpI s' fun x s' => ¬ y = 0 ∧ k r lv (vI (x / y) :: s') μ
  | .irem => xpI st fun y s' => xpI s' fun x s' => ¬ y = 0 ∧ k r lv (vI (x - x / y * y) :: s') μ
  | .ineg => xpI st fun x s' => k r lv (vI (-x) :: s') μ
  | .ishl => xpI st fun y s' => xpI s' fun x s' => k r lv (vI (x <<< (y &&& 31)) :: s') μ
  | .ishr => xpI st fun y s' => xpI s' fun x s' => k r lv (vI (x >>> (y &&& 31)) :: s') μ
  | .iushr => xpI st fun y s' => xpI s' fun x s' => k r lv (vI ((x.toUInt32 >>> (y.toUInt32 &&& Int32.toUInt32 31)).toInt32) :: s') μ
  | .i2c => xpI st fun x s' => k r lv (vI ((x.toUInt32 % 65536).toInt32) :: s') μ
  | .i2l => xpI st fun x s' => k r lv (vL x.toInt64 :: s') μ
  | .l2i => xpL st fun x s' => k r lv (vI x.toInt32 :: s') μ
  | .ladd => xpL st fun y s' => xpL s' fun x s' => k r lv (vL (x + y) :: s') μ
  | .lmul => xpL st fun y s' => xpL s' fun x s' => k r lv (vL (x * y) :: s') μ
  | .ldiv => xpL st fun y s' => xpL s' fun x s' => ¬ y = 0 ∧ k r lv (vL (x / y) :: s') μ
  | .lrem => xpL st fun y s' => xpL s' fun x s' => ¬ y = 0 ∧ k r lv (vL (x - x / y * y) :: s') μ
  | .lsub => xpL st fun y s' => xpL s' fun x s' => k r lv (vL (x - y) :: s') μ
  | .land => xpL st fun y s' => xpL s' fun x s' => k r lv (vL (x &&& y) :: s') μ
  | .lor => xpL st fun y s' => xpL s' fun x s' => k r lv (vL (x ||| y) :: s') μ
  | .lshl => xpI st fun y s' => xpL s' fun x s' => k r lv (vL (x <<< (y.toInt64 &&& 63)) :: s') μ
  | .lshr => xpI st fun y s' => xpL s' fun x s' => k r lv (vL (x >>> (y.toInt64 &&& 63)) :: s') μ
  | .lushr => xpI st fun y s' => xpL s' fun x s' => k r lv (vL ((x.toUInt64 >>> (y.toInt64.toUInt64 &&& Int64.toUInt64 63)).toInt64) :: s') μ
  | .lcmp => xpL st fun y s' => xpL s' fun x s' => k r lv (vI (lg_cmp x y) :: s') μ
  | .iinc _ _ => xcI e.2.2.2.2 fun n => xgI lv (xt0 e.2.2.2.1) fun x => k r (xs1 lv (xt0 e.2.2.2.1) (vI (x + n))) st μ
  | .dup => (match st with | .inl x :: s' => k r lv (vI x :: vI x :: s') μ | .inr (.inr (some q)) :: s' => k r lv (vR q :: vR q :: s') μ | _ => False)
  | .dup2 => xpI st fun x s' => xpR s' fun q s' => k r lv (vI x :: vR q :: vI x :: vR q :: s') μ
  | .pop => xpI st fun _ s' => k r lv s' μ
  | .ifCond .eq _ => xpI st fun x s' => xif (x = 0) (k (E.2.2.1.drop (xt0 e.2.2.2.1)) lv s' μ) (k r lv s' μ)
  | .ifCond .ne _ => xpI st fun x s' => xif (x = 0) (k r lv s' μ) (k (E.2.2.1.drop (xt0 e.2.2.2.1)) lv s' μ)
  | .ifCond .lt _ => xpI st fun x s' => xif (x < 0) (k (E.2.2.1.drop (xt0 e.2.2.2.1)) lv s' μ) (k r lv s' μ)
  | .ifCond .ge _ => xpI st fun x s' => xif (0 ≤ x) (k (E.2.2.1.drop (xt0 e.2.2.2.1)) lv s' μ) (k r lv s' μ)
  | .ifCond .gt _ => xpI st fun x s' => xif (0 < x) (k (E.2.2.1.drop (xt0 e.2.2.2.1)) lv s' μ) (k r lv s' μ)
  | .ifCond .le _ => xpI st fun x s' => xif (x ≤ 0) (k (E.2.2.1.drop (xt0 e.2.2.2.1)) lv s' μ) (k r lv s' μ)
  | .if_icmp .eq _ => xpI st fun y s' => xpI s' fun x s' => xif (x = y) (k (E.2.2.1.drop (xt0 e.2.2.2.1)) lv s' μ) (k r lv s' μ)
  | .if_icmp .ne _ => xpI st fun y s' => xpI s' fun x s' => xif (x = y) (k r lv s' μ) (k (E.2.2.1.drop (xt0 e.2.2.2.1)) lv s' μ)
  | .if_icmp .lt _ => xpI st fun y s' => xpI s' fun x s' => xif (x < y) (k (E.2.2.1.drop (xt0 e.2.2.2.1)) lv s' μ) (k r lv s' μ)
  | .if_icmp .ge _ => xpI st fun y s' => xpI s' fun x s' => xif (y ≤ x) (k (E.2.2.1.drop (xt0 e.2.2.2.1)) lv s' μ) (k r lv s' μ)
  | .if_icmp .gt _ => xpI st fun y s' => xpI s' fun x s' => xif (y < x) (k (E.2.2.1.drop (xt0 e.2.2.2.1)) lv s' μ) (k r lv s' μ)
  | .if_icmp .le _ => xpI st fun y s' => xpI s' fun x s' => xif (x ≤ y) (k (E.2.2.1.drop (xt0 e.2.2.2.1)) lv s' μ) (k r lv s' μ)
  | .ifnull _ => xpR st fun _ s' => k r lv s' μ
  | .goto _ => k (E.2.2.1.drop (xt0 e.2.2.2.1)) lv st μ
  | .tableswitch _ lo _ _ => xpI st fun x s' => (match e.2.2.2.1 with | d :: l => xtsw x lo l (fun t => k (E.2.2.1.drop t) lv s' μ) (k (E.2.2.1.drop d) lv s' μ) | [] => False)
  | .lookupswitch _ ps => xpI st fun x s' => (match e.2.2.2.1 with | d :: l => xlsw x ps.toList l (fun t => k (E.2.2.1.drop t) lv s' μ) (k (E.2.2.1.drop d) lv s' μ) | [] => False)
  | .getfield _ => xpR st fun q s' => xfld q (xt0 e.2.2.2.1) (xt1 e.2.2.2.1) (k r lv (vI (μ q (xt1 e.2.2.2.1)) :: s') μ) (fun p => k r lv (vR p :: s') μ)
  | .putfield _ => xpI st fun x s' => xpR s' fun q s' => xfld q (xt0 e.2.2.2.1) (xt1 e.2.2.2.1) (xpb e.2.2.2.2 x (k r lv s' (xst μ q (xt1 e.2.2.2.1) x))) (fun _ => False)
  | .arraylength => xpR st fun q s' => xal q fun n => k r lv (vI (Int32.ofNat n) :: s') μ
  | .iaload => xpI st fun i s' => xpR s' fun q s' => xax q 0 fun n => vp_in i n ∧ k r lv (vI (μ q i.toNatClampNeg) :: s') μ
  | .iastore => xpI st fun x s' => xpI s' fun i s' => xpR s' fun q s' => xax q 0 fun n => vp_in i n ∧ k r lv s' (xst μ q i.toNatClampNeg x)
  | .aaload => xpI st fun i s' => xpR s' fun q s' => xrg q (vp_in i 5 ∧ k r lv (vR (4, 2 + i.toNatClampNeg, 0) :: s') μ)
  | .invokevirtual _ => xfind E.2.2.2.2.2.1 (xt0 e.2.2.2.1) fun D => xargs D.2.2.2.2 st [] fun As s' => xpR s' fun q s' => xro q (xt1 e.2.2.2.1) (xifv s' D (cl D (vR q :: As) μ (xret D.2.2.2.1 s' fun s'' μ' => k r lv s'' μ')))
  | .invokestatic _ => (match xt1 e.2.2.2.1 with
    | 0 => xfind E.2.2.2.2.2.2.1 (xt0 e.2.2.2.1) fun D => xargs D.2.2.2.2 st [] fun As s' => xif26 s' D (cl D As μ (xret D.2.2.2.1 s' fun s'' μ' => k r lv s'' μ'))
    | 1 => xpI st fun y s' => xpI s' fun x s' => xif8 s' (k r lv (vI (if y < x then y else x) :: s') μ)
    | 2 => xpI st fun n s' => xpI s' fun dp s' => xpR s' fun b s' => xpI s' fun sp s' => xpR s' fun a s' => xax a 0 fun n0 => xax b 0 fun n1 => xnil s' (¬ sp < 0 ∧ ¬ dp < 0 ∧ ¬ n < 0 ∧ sp.toNatClampNeg + n.toNatClampNeg ≤ n0 ∧ dp.toNatClampNeg + n.toNatClampNeg ≤ n1 ∧ k r lv [] (xcp μ a b sp.toNatClampNeg dp.toNatClampNeg n.toNatClampNeg))
    | _ => False)
  | .ireturn => xpI st fun x s' => xnil s' (xri E.2.1.2.2.2.1 x (Q (some (vI x)) μ))
  | .lreturn => xpL st fun x s' => xnil s' (xrl E.2.1.2.2.2.1 (Q (some (vL x)) μ))
  | .areturn => xpQ st fun q s' => xnil s' (xra E.2.1.2.2.2.1 (Q (some (.inr (.inr q))) μ))
  | .return_ => xnil st (xrn E.2.1.2.2.2.1 (Q none μ))
  | _ => False
end
section
/-! THE SMALL MACHINE'S WORLD in the heap; contracts (MW) and places (WS) as conditions over it -/
/-- the tables' words that a call takes along -/
def xgw : List Cond := lw_tbl.filter goodWord
theorem xgood {w : Cond} (h : w ∈ xgw) : (w.onTables && w.keeps) = true ∨ ∃ ty, w = .arrayClass ty := good_of_word (List.mem_filter.mp h).2
theorem xok_bd {b : Bool} {q : xI} (h : xok b q = true) : q.1 < 11 ∧ q.2.1 < 8 ∧ q.2.2 < 35 := by
  obtain ⟨k, j, c⟩ := q
  simp only [xok] at h ⊢
  repeat' split at h
  all_goals simp at h
  all_goals omega
theorem xids_mem {b : Bool} {q : xI} (h : xok b q = true) : q ∈ xids b := by
  obtain ⟨h1, h2, h3⟩ := xok_bd h
  obtain ⟨k, j, c⟩ := q
  simp only [xids, List.mem_filter, List.mem_flatMap, List.mem_map, List.mem_range]
  exact ⟨⟨k, h1, j, h2, c, h3, rfl⟩, h⟩
theorem xids_ok {b : Bool} {q : xI} (h : q ∈ xids b) : xok b q = true := by
  simp only [xids, List.mem_filter] at h
  exact h.2
set_option maxRecDepth 100000 in
theorem xids_nd (b : Bool) : (xids b).Nodup := by cases b <;> decide +kernel
theorem xids_inj {b : Bool} {i j : Nat} {q : xI} (h1 : (xids b)[i]? = some q) (h2 : (xids b)[j]? = some q) : i = j := by
  have hi := (List.getElem?_eq_some_iff.mp h1).1
  exact (List.getElem?_inj hi (xids_nd b)).mp (h1.trans h2.symm)
theorem xwld_get {b : Bool} {ad : xI → Nat} {cA : Nat → ClassId} {q : xI} (μ : xM) (h : xok b q = true) : ∃ n : Nat, (xids b)[n]? = some q ∧ (xwld b ad cA μ)[n]? = some (ad q, xcell ad cA μ q) := by
  obtain ⟨n, hn⟩ := List.getElem?_of_mem (xids_mem h)
  exact ⟨n, hn, by rw [xwld, List.getElem?_map, hn]; rfl⟩
theorem xcell_cg {ad : xI → Nat} {cA : Nat → ClassId} {μ μ' : xM} {q : xI} (h : μ q = μ' q) : xcell ad cA μ q = xcell ad cA μ' q := by
  unfold xcell
  rw [h]
theorem xwld_set {b : Bool} {ad : xI → Nat} {cA : Nat → ClassId} {μ μ' : xM} {n : Nat} {q : xI} (hn : (xids b)[n]? = some q) (h : ∀ p, p ≠ q → μ p = μ' p) : (xwld b ad cA μ).set n (ad q, xcell ad cA μ' q) = xwld b ad cA μ' := by
  have hl := (List.getElem?_eq_some_iff.mp hn).1
  apply List.ext_getElem?
  intro i
  by_cases hi : i = n
  · subst hi
    rw [List.getElem?_set_self (by simpa [xwld] using hl), xwld, List.getElem?_map, hn]
    rfl
  · rw [List.getElem?_set_ne (Ne.symm hi), xwld, xwld, List.getElem?_map, List.getElem?_map]
    cases hp : (xids b)[i]? with
    | none => rfl
    | some p =>
      have hne : p ≠ q := fun e => hi (xids_inj hp (by rw [e]; exact hn))
      simp only [Option.map_some, xcell_cg (h p hne)]
abbrev xG : Type := Launch × (xI → Nat) × va_G × (Nat → ClassId) × Bool
def xA (G : xG) : Nat → Prop := fun q => ∃ x : xI, xok G.2.2.2.2 x = true ∧ G.2.1 x = q
abbrev xZ : Type := Program × Env × State × MethodId × Array Value × List Frame × Method × Code × Room × Nat × Nat × (State → Prop) × (Nat → Prop)
def xws (D : xD) : List Cond := Cond.code D.1 D.2.1 D.2.2.1 D.2.2.2.1 :: xgw
def xrm (d : Nat) : Room := { frames := d, cells := 0, slots := 0, locals := 37 * d }
def xGok (G : xG) : Prop := ∀ p q, xok G.2.2.2.2 p = true → xok G.2.2.2.2 q = true → G.2.1 p = G.2.1 q → p = q
def xB (G : xG) (μ : xM) (U : State) : Prop := va_P G.2.2.1 vwCl (xwld G.2.2.2.2 G.2.1 G.2.2.2.1 μ) U.heap ∧ va_K G.2.2.1 vwCl (xtys G.2.2.2.1) U
def xQc (G : xG) (Q : xP) : Array Value → State → Outcome → State → Prop := fun _ st oc t => (∃ (r : Option xV) (μ' : xM), Q r μ' ∧ oc = .returned (r.map (xrv G.2.1)) ∧ (∀ v, r = some v → xvok G.2.2.2.2 v) ∧ xB G μ' t) ∧ va_F (xA G) st t
/-- the contract of a method at a memory: it returns, Q of what it returns and of the memory then -/
def MW (G : xG) (d : Nat) (D : xD) (args : List xV) (μ : xM) (Q : xP) : Prop :=
  xGok G → (∀ v ∈ args, xvok G.2.2.2.2 v) → Met G.1 D.1 (xws D) (xrm d) (va_Pc (args.map (xrv G.2.1)) (xB G μ)) (xQc G Q) 0 0 (xA G)
def xLv (ad : xI → Nat) (ls : Array Slot) (n : Nat) (lv : List xV) : Prop := ls.size = n ∧ lv_wf ls ∧ ∀ i, xnth lv i ≠ vN → ls[i]? = some (.val (xrv ad (xnth lv i)))
def xoks (b : Bool) : List xV → Prop
  | [] => True
  | v :: l => xvok b v ∧ xoks b l
def xlok (b : Bool) (lv : List xV) : Prop := ∀ i, xvok b (xnth lv i)
def xcn : Nat → String
  | 0 => RX0 | 1 => RX1 | 2 => RX2 | 3 => RX3 | 4 => RX4 | 5 => RX5 | 6 => RX6 | 7 => RX7 | 8 => RX8 | 9 => RX8 | 10 => RJ6 | 11 => RJ13 | _ => RL
def xCx (G : xG) (E : xE) (p : Program) (s : State) (m : MethodId) (args : Array Value) (meth : Method) (c : Code) : Prop :=
  p.tables.exec = Jvm.exec ∧ c.code = E.2.1.2.1 ∧ meth.sig.returnType = E.2.1.2.2.2.1 ∧ c.maxLocals = E.2.1.2.2.1 ∧ s.vm.findClass (xcn E.1) = some m.cls ∧ (∀ w ∈ xws E.2.1, w.before args s = true) ∧ va_K G.2.2.1 vwCl (xtys G.2.2.2.1) s ∧ meth.locks = false
/-- a place's room, its end, what it may write -/
def xCy (G : xG) (Q : xP) (d : Nat) (args : Array Value) (below : List Frame) (s : State) (R : Room) (nc ns : Nat) (QS : State → Prop) (A : Nat → Prop) : Prop :=
  (d ≤ R.frames ∧ 37 * d ≤ R.locals ∧ nc ≤ R.cells ∧ ns ≤ R.slots) ∧ (∀ q, xA G q → A q) ∧ ((∀ r μ, ¬ Q r μ) ∨ (R = xrm d ∧ nc = 0 ∧ ns = 0 ∧ QS = MQ below (xQc G Q) args s 0 0 (xA G) ∧ A = xA G))
/-- at a place of a method: it will return, with Q -/
def WS (G : xG) (E : xE) (d : Nat) (Z : xZ) (Q : xP) (pc : Nat) (lv st : List xV) (μ : xM) : Prop :=
  match Z with
  | (p, e, s, m, args, below, meth, c, R, nc, ns, QS, A) => xGok G → xCx G E p s m args meth c → xCy G Q d args below s R nc ns QS A → ∀ (H : Heap) (locs : List Loc) (ls : Array Slot), va_P G.2.2.1 vwCl (xwld G.2.2.2.2 G.2.1 G.2.2.2.1 μ) H → va_S A s.heap H locs → xLv G.2.1 ls E.2.1.2.2.1 lv → xlok G.2.2.2.2 lv → xoks G.2.2.2.2 st →
    W p G.1 e R s m args below meth c H locs nc ns QS (F0 m pc ls (st.map (xrv G.2.1)))
theorem xD_wld {G : xG} {A : Nat → Prop} (hG : xGok G) (hA : ∀ q, xA G q → A q) (μ : xM) : va_D A (xwld G.2.2.2.2 G.2.1 G.2.2.2.1 μ) := by
  have key : ∀ (i : Nat) (p : Nat × va_E), (xwld G.2.2.2.2 G.2.1 G.2.2.2.1 μ)[i]? = some p → ∃ q, (xids G.2.2.2.2)[i]? = some q ∧ G.2.1 q = p.1 := by
    intro i p hp
    rw [xwld, List.getElem?_map] at hp
    cases hq : (xids G.2.2.2.2)[i]? with
    | none => rw [hq] at hp; cases hp
    | some q => rw [hq] at hp; cases hp; exact ⟨q, rfl, rfl⟩
  refine ⟨fun i j p q hp hq hpq => ?_, fun k q hq => ?_⟩
  · obtain ⟨a, ha, ea⟩ := key i p hp
    obtain ⟨b, hb, eb⟩ := key j q hq
    have hab := hG a b (xids_ok (List.mem_of_getElem? ha)) (xids_ok (List.mem_of_getElem? hb)) (by rw [ea, eb, hpq])
    subst hab
    exact xids_inj ha hb
  · obtain ⟨a, ha, ea⟩ := key k q hq
    exact hA _ ⟨a, xids_ok (List.mem_of_getElem? ha), ea⟩
-- locals
theorem xnth_set (l : List xV) (i j : Nat) (v : xV) : xnth (xset l i v) j = if j = i ∧ i < l.length then v else xnth l j := by
  induction l generalizing i j with
  | nil => cases i <;> simp [xset, xnth]
  | cons a l ih =>
    cases i with
    | zero => cases j <;> simp [xset, xnth]
    | succ i =>
      cases j with
      | zero => simp [xset, xnth]
      | succ j => simp [xset, xnth, ih]
theorem xlok_set {b : Bool} {l : List xV} (h : xlok b l) (i : Nat) {v : xV} (hv : xvok b v) : xlok b (xset l i v) := by
  intro j
  rw [xnth_set]
  split
  · exact hv
  · exact h j
theorem xclr_s (lv : List xV) (i : Nat) : xclr lv (i + 1) = match xnth lv i with
    | .inr (.inl _) => xset lv i vN
    | _ => lv := rfl
theorem xlok_clr {b : Bool} {l : List xV} (h : xlok b l) (i : Nat) : xlok b (xclr l i) := by
  cases i with
  | zero => exact h
  | succ i =>
    rw [xclr_s]
    split
    · exact xlok_set h i (v := vN) trivial
    · exact h
theorem xnth_clr (l : List xV) (i j : Nat) : xnth (xclr l i) j = vN ∨ (xnth (xclr l i) j = xnth l j ∧ ∀ x, ¬ (j + 1 = i ∧ xnth l j = vL x)) := by
  cases i with
  | zero => exact Or.inr ⟨rfl, fun x h => by omega⟩
  | succ i =>
    rw [xclr_s]
    split
    · rename_i x hx
      rw [xnth_set]
      by_cases hj : j = i
      · subst hj
        split
        · exact Or.inl rfl
        · rename_i hn
          rw [show xnth l j = vN from by
            have : l.length ≤ j := by
              rcases Nat.lt_or_ge j l.length with q | q
              · exact absurd ⟨rfl, q⟩ hn
              · exact q
            clear hn hx
            induction l generalizing j with
            | nil => rfl
            | cons a l ih => cases j with
              | zero => simp at this
              | succ j => exact ih j (by simpa using this)] at hx
          cases hx
      · right
        rw [if_neg (fun h => hj h.1)]
        exact ⟨rfl, fun x h => hj (by omega)⟩
    · rename_i hx
      right
      refine ⟨rfl, fun x h => ?_⟩
      obtain ⟨h1, h2⟩ := h
      have : j = i := by omega
      subst this
      exact hx x h2
theorem xrv_cat2 {ad : xI → Nat} {v : xV} (h : (xrv ad v).category = 2) : ∃ x, v = vL x := by
  rcases v with x | x | _ | q
  · exact absurd h (by simp [xrv, Value.category])
  · exact ⟨x, rfl⟩
  · exact absurd h (by simp [xrv, Value.category])
  · exact absurd h (by simp [xrv, Value.category])
theorem xLv_s1 {ad : xI → Nat} {ls ls' : Array Slot} {n i : Nat} {lv : List xV} {v : xV} {V : Value} (h : xLv ad ls n lv) (hi : i < n) (hV : xrv ad v = V) (hc : V.category = 1) (hst : storeLocals ls i V = some ls') : xLv ad ls' n (xs1 lv i v) := by
  obtain ⟨h1, h2, h3⟩ := h
  have base : ∀ l : List (Nat × Value), (∀ q ∈ l, ls[q.1]? = some (.val q.2)) → lv_has ls' n ((i, V) :: l.filter (fun q => !(q.1 == i) && !(q.1 + 1 == i && q.2.category == 2))) := by
    intro l hl
    obtain ⟨ls2, e1, e2⟩ := lv_store1 (ls := ls) (nL := n) (l := l) ⟨h1, h2, hl⟩ hi hc
    rw [hst] at e1
    cases e1
    exact e2
  obtain ⟨b1, b2, b3⟩ := base [] (by simp)
  refine ⟨b1, b2, fun j hj => ?_⟩
  unfold xs1 at hj ⊢
  rw [xnth_set] at hj ⊢
  by_cases hji : j = i
  · subst hji
    by_cases hlt : j < (xclr lv j).length
    · rw [if_pos ⟨rfl, hlt⟩, hV]
      exact b3 (j, V) (by simp)
    · rw [if_neg (fun q => hlt q.2)] at hj
      exfalso
      apply hj
      generalize xclr lv j = l at hlt
      clear hj h3 hV hi hst base b3
      induction l generalizing j with
      | nil => rfl
      | cons a l ih => cases j with
        | zero => simp at hlt
        | succ j => exact ih j (by simpa using hlt)
  · rw [if_neg (fun q => hji q.1)] at hj ⊢
    rcases xnth_clr lv i j with e | ⟨e, hx⟩
    · exact absurd e hj
    · rw [e] at hj ⊢
      obtain ⟨-, -, c3⟩ := base [(j, xrv ad (xnth lv j))] (by simpa using h3 j hj)
      apply c3 (j, xrv ad (xnth lv j))
      simp only [List.mem_cons, List.mem_filter, List.not_mem_nil, or_false]
      right
      refine ⟨trivial, ?_⟩
      simp only [Bool.and_eq_true, Bool.not_eq_true', beq_eq_false_iff_ne, ne_eq, Bool.and_eq_false_iff]
      refine ⟨hji, ?_⟩
      by_cases h9 : j + 1 = i
      · right
        intro hcat
        obtain ⟨x, ex⟩ := xrv_cat2 hcat
        exact hx x ⟨h9, ex⟩
      · exact Or.inl h9
theorem xLv_s2 {ad : xI → Nat} {ls ls' : Array Slot} {n i : Nat} {lv : List xV} {v : xV} {V : Value} (h : xLv ad ls n lv) (hi : i + 1 < n) (hV : xrv ad v = V) (hc : V.category = 2) (hst : storeLocals ls i V = some ls') : xLv ad ls' n (xs2 lv i v) := by
  obtain ⟨h1, h2, h3⟩ := h
  have base : ∀ l : List (Nat × Value), (∀ q ∈ l, ls[q.1]? = some (.val q.2)) → lv_has ls' n ((i, V) :: l.filter (fun q => !(q.1 == i) && (!(q.1 == i + 1) && !(q.1 + 1 == i && q.2.category == 2)))) := by
    intro l hl
    obtain ⟨ls2, e1, e2⟩ := lv_store2 (ls := ls) (nL := n) (l := l) ⟨h1, h2, hl⟩ hi hc
    rw [hst] at e1
    cases e1
    exact e2
  obtain ⟨b1, b2, b3⟩ := base [] (by simp)
  have past : ∀ (l : List xV) (j : Nat), ¬ j < l.length → xnth l j = vN := by
    intro l
    induction l with
    | nil => intro j _; rfl
    | cons a l ih => intro j hj; cases j with
      | zero => simp at hj
      | succ j => exact ih j (by simpa using hj)
  refine ⟨b1, b2, fun j hj => ?_⟩
  unfold xs2 at hj ⊢
  rw [xnth_set] at hj ⊢
  by_cases hji : j = i
  · subst hji
    by_cases hlt : j < (xset (xclr lv j) (j + 1) vN).length
    · rw [if_pos ⟨rfl, hlt⟩, hV]
      exact b3 (j, V) (by simp)
    · rw [if_neg (fun q => hlt q.2)] at hj
      exact absurd (past _ j hlt) hj
  · rw [if_neg (fun q => hji q.1)] at hj ⊢
    rw [xnth_set] at hj ⊢
    by_cases hj1 : j = i + 1
    · subst hj1
      by_cases hlt : i + 1 < (xclr lv i).length
      · rw [if_pos ⟨rfl, hlt⟩] at hj
        exact absurd rfl hj
      · rw [if_neg (fun q => hlt q.2)] at hj
        exact absurd (past _ _ hlt) hj
    · rw [if_neg (fun q => hj1 q.1)] at hj ⊢
      rcases xnth_clr lv i j with e | ⟨e, hx⟩
      · exact absurd e hj
      · rw [e] at hj ⊢
        obtain ⟨-, -, c3⟩ := base [(j, xrv ad (xnth lv j))] (by simpa using h3 j hj)
        apply c3 (j, xrv ad (xnth lv j))
        simp only [List.mem_cons, List.mem_filter, List.not_mem_nil, or_false]
        right
        refine ⟨trivial, ?_⟩
        simp only [Bool.and_eq_true, Bool.not_eq_true', beq_eq_false_iff_ne, ne_eq, Bool.and_eq_false_iff]
        refine ⟨hji, hj1, ?_⟩
        by_cases h9 : j + 1 = i
        · right
          intro hcat
          obtain ⟨x, ex⟩ := xrv_cat2 hcat
          exact hx x ⟨h9, ex⟩
        · exact Or.inl h9
theorem xLv_mask {ad : xI → Nat} {ls : Array Slot} {n : Nat} {lv : List xV} (b : List Bool) (h : xLv ad ls n lv) : xLv ad ls n (xmask b lv) := by
  refine ⟨h.1, h.2.1, fun i hi => ?_⟩
  have key : ∀ (b : List Bool) (l : List xV) (i : Nat), xnth (xmask b l) i ≠ vN → xnth (xmask b l) i = xnth l i := by
    intro b
    induction b with
    | nil => intro l i h; exact absurd (by unfold xmask; rfl) h
    | cons a b ih =>
      intro l i h
      cases l with
      | nil => cases a <;> exact absurd rfl h
      | cons v l =>
        cases a with
        | true => cases i with
          | zero => rfl
          | succ i => exact ih l i h
        | false => cases i with
          | zero => exact absurd rfl h
          | succ i => exact ih l i h
  have e := key b lv i hi
  rw [e]
  exact h.2.2 i (fun z => hi (e.trans z))
theorem xlok_mask {b0 : Bool} {lv : List xV} (b : List Bool) (h : xlok b0 lv) : xlok b0 (xmask b lv) := by
  intro i
  have key : ∀ (b : List Bool) (l : List xV) (i : Nat), xnth (xmask b l) i = vN ∨ xnth (xmask b l) i = xnth l i := by
    intro b
    induction b with
    | nil => intro l i; exact Or.inl (by unfold xmask; rfl)
    | cons a b ih =>
      intro l i
      cases l with
      | nil => cases a <;> exact Or.inl rfl
      | cons v l =>
        cases a with
        | true => cases i with
          | zero => exact Or.inr rfl
          | succ i => exact ih l i
        | false => cases i with
          | zero => exact Or.inl rfl
          | succ i => exact ih l i
  rcases key b lv i with e | e
  · rw [e]; exact trivial
  · rw [e]; exact h i
-- shapes
theorem xfs_int {ad : xI → Nat} {f : Nat → Int32} : ∀ (fs : List (Option xI)) (b k : Nat), fs[k]? = some none → (xfs ad f b fs)[k]? = some (.int (f (b + k)))
  | [], b, k, h => by simp at h
  | none :: l, b, 0, h => rfl
  | some r :: l, b, 0, h => by simp at h
  | none :: l, b, k + 1, h => by
    rw [show b + (k + 1) = (b + 1) + k by omega]
    exact xfs_int l (b + 1) k (by simpa using h)
  | some r :: l, b, k + 1, h => by
    rw [show b + (k + 1) = (b + 1) + k by omega]
    exact xfs_int l (b + 1) k (by simpa using h)
theorem xfs_ref {ad : xI → Nat} {f : Nat → Int32} {r : xI} : ∀ (fs : List (Option xI)) (b k : Nat), fs[k]? = some (some r) → (xfs ad f b fs)[k]? = some (.ref (ad r))
  | [], b, k, h => by simp at h
  | none :: l, b, 0, h => by simp at h
  | some r' :: l, b, 0, h => by
    have : r' = r := by simpa using h
    subst this
    rfl
  | none :: l, b, k + 1, h => xfs_ref l (b + 1) k (by simpa using h)
  | some r :: l, b, k + 1, h => xfs_ref l (b + 1) k (by simpa using h)
theorem xfs_set {ad : xI → Nat} {f : Nat → Int32} {v : Int32} : ∀ (fs : List (Option xI)) (b k : Nat), fs[k]? = some none → (xfs ad f b fs).set k (.int v) = xfs ad (upd f (b + k) v) b fs
  | [], b, k, h => by simp at h
  | none :: l, b, 0, h => by
    have : ∀ (l : List (Option xI)) (c : Nat), b < c → xfs ad f c l = xfs ad (upd f b v) c l := by
      intro l
      induction l with
      | nil => intro c _; rfl
      | cons a l ih => intro c hc; cases a with
        | none => show _ :: _ = _ :: _; rw [ih (c + 1) (by omega), pk_un (show c ≠ b by omega)]
        | some r => show _ :: _ = _ :: _; rw [ih (c + 1) (by omega)]
    show _ :: _ = _ :: _
    simp only [Nat.add_zero]
    rw [this l (b + 1) (by omega), pk_us]
  | some r :: l, b, 0, h => by simp at h
  | none :: l, b, k + 1, h => by
    rw [show b + (k + 1) = (b + 1) + k by omega]
    show _ :: _ = _ :: _
    rw [xfs_set l (b + 1) k (by simpa using h), pk_un (show b ≠ b + 1 + k by omega)]
  | some r :: l, b, k + 1, h => by
    rw [show b + (k + 1) = (b + 1) + k by omega]
    show _ :: _ = _ :: _
    rw [xfs_set l (b + 1) k (by simpa using h)]
theorem xfs_len {ad : xI → Nat} {f : Nat → Int32} : ∀ (fs : List (Option xI)) (b : Nat), (xfs ad f b fs).length = fs.length
  | [], b => rfl
  | none :: l, b => by simp [xfs, xfs_len l]
  | some r :: l, b => by simp [xfs, xfs_len l]
theorem xobj_ok {b : Bool} {q r : xI} {ci : Nat} {fs : List (Option xI)} (h : xok b q = true) (hq : xobj q = some (ci, fs)) (hr : some r ∈ fs) : xok b r = true := by
  obtain ⟨k, j, c⟩ := q
  unfold xobj at hq
  split at hq <;> cases hq <;> rename_i heq <;> cases heq <;> simp at hr
  all_goals repeat' (refine Or.elim hr ?_ ?_ <;> clear hr <;> intro hr)
  all_goals (subst hr; simp [xok] at h ⊢; try omega)
theorem xvo_o {b : Bool} {q : xI} {x : Nat × List (Option xI)} (h : xvok b (vR q)) (ho : xobj q = some x) : xok b q = true := by
  rcases h with rfl | h
  · cases ho
  · exact h
theorem xvo_a {b : Bool} {q : xI} {x : Nat × Nat} (h : xvok b (vR q)) (ho : xarr q = some x) : xok b q = true := by
  rcases h with rfl | h
  · cases ho
  · exact h
theorem xvo_l {b : Bool} {q : xI} {f : Nat → Prop} (h : xvok b (vR q)) (ho : xal q f) : xok b q = true := by
  rcases h with rfl | h
  · exact ho.elim
  · exact h
theorem xvo_g {b : Bool} {q : xI} {f : Prop} (h : xvok b (vR q)) (ho : xrg q f) : xok b q = true := by
  rcases h with rfl | h
  · exact ho.elim
  · exact h
end
section
/-! THE SMALL MACHINE IS SOUND: a step of it is a step of the machine-/
def xin (w : Cond) : Prop := w ∈ lw_tbl ∧ goodWord w = true
theorem xin_gw {w : Cond} (h : xin w) : w ∈ xgw := List.mem_filter.mpr h
def xfF (o : Nat) (f : Nat × Nat × Nat × Nat) : Prop := ∃ (C : String) (T : u_T) (N : Nat), vwCl[f.2.1]? = some (C, T, N) ∧ f.2.2.1 < N ∧ xin (Cond.fieldLink (xcn o) f.1 (T f.2.2.1).1 (T f.2.2.1).2.1 (T f.2.2.1).2.2.1) ∧ (f.2.2.2 = 1 → (T f.2.2.1).2.2.2 = false ∧ (T f.2.2.1).2.2.1 = "I") ∧ (f.2.2.2 = 2 → (T f.2.2.1).2.2.2 = false ∧ (T f.2.2.1).2.2.1 = "Z")
def xmF (o : Nat) (idx : Nat) (D : xD) : Prop := xin (Cond.methodLink (xcn o) idx D.1) ∧ xin (Cond.code D.1 D.2.1 D.2.2.1 D.2.2.2.1) ∧ xin (Cond.initialized D.1.cls) ∧ D.1.cls ≠ "java/lang/invoke/MethodHandle" ∧ D.1.cls ≠ "java/lang/invoke/VarHandle" ∧ (parseMethodDescriptor D.1.desc).map (fun d => d.parameters.length) = some D.2.2.2.2 ∧ D.2.2.1 ≤ 26
def xvF (o : Nat) (q : Nat × Nat × xD) : Prop := (∃ (T : u_T) (N : Nat), vwCl[q.2.1]? = some (q.2.2.1.cls, T, N)) ∧ xmF o q.1 q.2.2 ∧ xin (Cond.instanceMethod q.2.2.1) ∧ xin (Cond.selects q.2.2.1.cls q.2.2.1 q.2.2.1)
def xsF (o : Nat) (q : Nat × Nat × xD) : Prop := xmF o q.1 q.2.2 ∧ xin (Cond.static q.2.2.1)
def xkF (o : Nat) (q : Nat × xV) : Prop := match q.2 with
  | .inl v => xin (Cond.constant (xcn o) q.1 v)
  | .inr (.inl v) => xin (Cond.constantLong (xcn o) q.1 v)
  | _ => False
def xnF (o : Nat) (q : Nat × Nat) : Prop := (q.2 = 1 → xin (Cond.methodLink (xcn o) q.1 Lib.Math.min.name) ∧ xin (Cond.static Lib.Math.min.name) ∧ xin (Cond.initialized "java/lang/Math") ∧ xin (Cond.code Lib.Math.min.name Lib.Math.min.code 2 (some .int))) ∧ (q.2 = 2 → xin (Cond.methodLink (xcn o) q.1 arraycopyName) ∧ xin (Cond.native arraycopyName) ∧ xin (Cond.static arraycopyName) ∧ xin (Cond.initialized "java/lang/System"))
def xCEok (o : Nat) (ce : xCE) : Prop := (∀ f ∈ ce.1, xfF o f) ∧ (∀ q ∈ ce.2.1, xvF o q) ∧ (∀ q ∈ ce.2.2.1, xsF o q) ∧ (∀ q ∈ ce.2.2.2.1, xkF o q) ∧ (∀ q ∈ ce.2.2.2.2, xnF o q)
def xtgt (tb : List xT) (pc : Nat) (off : Int) (t : Nat) : Bool := match tb.drop t with
  | e :: _ => decide ((pc : Int) + off = (e.1 : Int))
  | [] => false
theorem xtgt_ok {tb : List xT} {pc : Nat} {off : Int} {t : Nat} (h : xtgt tb pc off t = true) : ∃ e r, tb.drop t = e :: r ∧ (pc : Int) + off = (e.1 : Int) := by
  unfold xtgt at h
  split at h
  · rename_i e r he
    exact ⟨e, r, he, of_decide_eq_true h⟩
  · cases h
def xtgts (tb : List xT) (pc : Nat) : List Int → List Nat → Bool
  | [], [] => true
  | o :: os, t :: ts => xtgt tb pc o t && xtgts tb pc os ts
  | _, _ => false
def xkeys : List (Int × Int) → Bool
  | [] => true
  | (a, _) :: l => decide (-2147483648 ≤ a ∧ a ≤ 2147483647) && xkeys l
def xcI1 (c : xV) (x : Int32) : Bool := match c with | .inl v => decide (x = v) | _ => false
def xcL1 (c : xV) (x : Int64) : Bool := match c with | .inr (.inl v) => decide (x = v) | _ => false
def xisI (c : xV) : Bool := match c with | .inl _ => true | _ => false
def xme (l : List (Nat × Nat × xD)) (t : Nat) (idx ci : Nat) : Bool := match l.drop t with
  | q :: _ => decide (q.1 = idx) && decide (q.2.1 = ci)
  | [] => false
def xme0 (l : List (Nat × Nat × xD)) (t : Nat) (idx : Nat) : Bool := match l.drop t with
  | q :: _ => decide (q.1 = idx)
  | [] => false
def xchk (E : xE) (e : xT) : Bool :=
  match e.2.1 with
  | .aload_n n => decide (e.2.2.1 = 1 ∧ n.val = (xt0 e.2.2.2.1))
  | .iload_n n => decide (e.2.2.1 = 1 ∧ n.val = (xt0 e.2.2.2.1))
  | .lload_n n => decide (e.2.2.1 = 1 ∧ n.val = (xt0 e.2.2.2.1))
  | .aload n => decide (e.2.2.1 = 2 ∧ n = (xt0 e.2.2.2.1))
  | .iload n => decide (e.2.2.1 = 2 ∧ n = (xt0 e.2.2.2.1))
  | .lload n => decide (e.2.2.1 = 2 ∧ n = (xt0 e.2.2.2.1))
  | .istore_n n => decide (e.2.2.1 = 1 ∧ n.val = (xt0 e.2.2.2.1) ∧ (xt0 e.2.2.2.1) < E.2.1.2.2.1)
  | .astore_n n => decide (e.2.2.1 = 1 ∧ n.val = (xt0 e.2.2.2.1) ∧ (xt0 e.2.2.2.1) < E.2.1.2.2.1)
  | .istore n => decide (e.2.2.1 = 2 ∧ n = (xt0 e.2.2.2.1) ∧ (xt0 e.2.2.2.1) < E.2.1.2.2.1)
  | .astore n => decide (e.2.2.1 = 2 ∧ n = (xt0 e.2.2.2.1) ∧ (xt0 e.2.2.2.1) < E.2.1.2.2.1)
  | .lstore_n n => decide (e.2.2.1 = 1 ∧ n.val = (xt0 e.2.2.2.1) ∧ (xt0 e.2.2.2.1) + 1 < E.2.1.2.2.1)
  | .lstore n => decide (e.2.2.1 = 2 ∧ n = (xt0 e.2.2.2.1) ∧ (xt0 e.2.2.2.1) + 1 < E.2.1.2.2.1)
  | .iconst n => decide (e.2.2.1 = 1) && xcI1 e.2.2.2.2 (Int32.ofInt n)
  | .bipush n => decide (e.2.2.1 = 2) && xcI1 e.2.2.2.2 (Int8.ofInt n).toInt32
  | .sipush n => decide (e.2.2.1 = 3) && xcI1 e.2.2.2.2 (Int16.ofInt n).toInt32
  | .lconst n => decide (e.2.2.1 = 1) && xcL1 e.2.2.2.2 (Int64.ofNat n.val)
  | .ldc i => decide (e.2.2.1 = 2) && E.2.2.2.2.2.2.2.1.any (fun q => decide (q = (i, e.2.2.2.2)))
  | .ldc_w i => decide (e.2.2.1 = 3) && E.2.2.2.2.2.2.2.1.any (fun q => decide (q = (i, e.2.2.2.2)))
  | .ldc2_w i => decide (e.2.2.1 = 3) && E.2.2.2.2.2.2.2.1.any (fun q => decide (q = (i, e.2.2.2.2)))
  | .aconst_null => decide (e.2.2.1 = 1)
  | .iadd => decide (e.2.2.1 = 1)
  | .isub => decide (e.2.2.1 = 1)
  | .imul => decide (e.2.2.1 = 1)
  | .iand => decide (e.2.2.1 = 1)
  | .ior => decide (e.2.2.1 = 1)
  | .ixor => decide (e.2.2.1 = 1)
  | .idiv => decide (e.2.2.1 = 1)
  | .irem => decide (e.2.2.1 = 1)
  | .ineg => decide (e.2.2.1 = 1)
  | .ishl => decide (e.2.2.1 = 1)
  | .ishr => decide (e.2.2.1 = 1)
  | .iushr => decide (e.2.2.1 = 1)
  | .i2c => decide (e.2.2.1 = 1)
  | .i2l => decide (e.2.2.1 = 1)
  | .l2i => decide (e.2.2.1 = 1)
  | .ladd => decide (e.2.2.1 = 1)
  | .lsub => decide (e.2.2.1 = 1)
  | .lmul => decide (e.2.2.1 = 1)
  | .ldiv => decide (e.2.2.1 = 1)
  | .lrem => decide (e.2.2.1 = 1)
  | .land => decide (e.2.2.1 = 1)
  | .lor => decide (e.2.2.1 = 1)
  | .lshl => decide (e.2.2.1 = 1)
  | .lshr => decide (e.2.2.1 = 1)
  | .lushr => decide (e.2.2.1 = 1)
  | .lcmp => decide (e.2.2.1 = 1)
  | .dup => decide (e.2.2.1 = 1)
  | .dup2 => decide (e.2.2.1 = 1)
  | .pop => decide (e.2.2.1 = 1)
  | .arraylength => decide (e.2.2.1 = 1)
  | .iaload => decide (e.2.2.1 = 1)
  | .iastore => decide (e.2.2.1 = 1)
  | .aaload => decide (e.2.2.1 = 1)
  | .ireturn => decide (e.2.2.1 = 1)
  | .lreturn => decide (e.2.2.1 = 1)
  | .areturn => decide (e.2.2.1 = 1)
  | .return_ => decide (e.2.2.1 = 1)
  | .iinc i n => decide (e.2.2.1 = 3 ∧ i = (xt0 e.2.2.2.1) ∧ (xt0 e.2.2.2.1) < E.2.1.2.2.1) && xcI1 e.2.2.2.2 (Int32.ofInt n)
  | .ifCond _ o => decide (e.2.2.1 = 3) && xtgt E.2.2.1 e.1 o (xt0 e.2.2.2.1)
  | .if_icmp _ o => decide (e.2.2.1 = 3) && xtgt E.2.2.1 e.1 o (xt0 e.2.2.2.1)
  | .ifnull _ => decide (e.2.2.1 = 3)
  | .goto o => decide (e.2.2.1 = 3) && xtgt E.2.2.1 e.1 o (xt0 e.2.2.2.1)
  | .tableswitch d lo hi offs => (match e.2.2.2.1 with | t :: ts => xtgt E.2.2.1 e.1 d t && xtgts E.2.2.1 e.1 offs.toList ts && decide (hi - lo + 1 = (offs.size : Int) ∧ -2147483648 ≤ lo ∧ hi ≤ 2147483647) | [] => false)
  | .lookupswitch d ps => (match e.2.2.2.1 with | t :: ts => xtgt E.2.2.1 e.1 d t && xtgts E.2.2.1 e.1 (ps.toList.map (·.2)) ts && xkeys ps.toList && (ps.toList.zip (ps.toList.drop 1)).all (fun (a, next) => a.1 < next.1) | [] => false)
  | .getfield i => decide (e.2.2.1 = 3) && E.2.2.2.2.1.any (fun f => decide (f.1 = i ∧ f.2.1 = (xt0 e.2.2.2.1) ∧ f.2.2.1 = xt1 e.2.2.2.1))
  | .putfield i => decide (e.2.2.1 = 3) && E.2.2.2.2.1.any (fun f => decide (f.1 = i ∧ f.2.1 = (xt0 e.2.2.2.1) ∧ f.2.2.1 = xt1 e.2.2.2.1 ∧ f.2.2.2 = (if xisI e.2.2.2.2 = true then 2 else 1)))
  | .invokevirtual i => decide (e.2.2.1 = 3) && xme E.2.2.2.2.2.1 (xt0 e.2.2.2.1) i (xt1 e.2.2.2.1)
  | .invokestatic i => decide (e.2.2.1 = 3) && (match xt1 e.2.2.2.1 with | 0 => xme0 E.2.2.2.2.2.2.1 (xt0 e.2.2.2.1) i | 1 => E.2.2.2.2.2.2.2.2.any (fun q => decide (q = (i, 1))) | 2 => E.2.2.2.2.2.2.2.2.any (fun q => decide (q = (i, 2))) | _ => true)
  | _ => false
def xcont : List xT → Bool
  | [] => true
  | e :: l => (match l with
    | [] => true
    | e' :: _ => decide (e'.1 = e.1 + e.2.2.1)) && xcont l
def xEok (E : xE) : Prop := (∀ e ∈ E.2.2.1, decode E.2.1.2.1 e.1 = .ok (e.2.1, e.2.2.1)) ∧ E.2.2.1.all (xchk E) = true ∧ xcont E.2.2.1 = true ∧ xCEok E.1 E.2.2.2.2 ∧ E.2.1.1.cls = xcn E.1 ∧ plainName E.2.1.1.cls = true
-- what the conditions of a step say
theorem xpI_ex {st : List xV} {f : Int32 → List xV → Prop} (h : xpI st f) : ∃ x r, st = vI x :: r ∧ f x r := by
  rcases st with _ | ⟨x | x | _ | q, r⟩ <;> first | exact h.elim | exact ⟨_, _, rfl, h⟩
theorem xpL_ex {st : List xV} {f : Int64 → List xV → Prop} (h : xpL st f) : ∃ x r, st = vL x :: r ∧ f x r := by
  rcases st with _ | ⟨x | x | _ | q, r⟩ <;> first | exact h.elim | exact ⟨_, _, rfl, h⟩
theorem xpR_ex {st : List xV} {f : xI → List xV → Prop} (h : xpR st f) : ∃ q r, st = vR q :: r ∧ f q r := by
  rcases st with _ | ⟨x | x | _ | q, r⟩ <;> first | exact h.elim | exact ⟨_, _, rfl, h⟩
theorem xgI_ex {lv : List xV} {i : Nat} {f : Int32 → Prop} (h : xgI lv i f) : ∃ x, xnth lv i = vI x ∧ f x := by
  revert h
  unfold xgI
  rcases xnth lv i with x | x | _ | q <;> intro h <;> first | exact h.elim | exact ⟨_, rfl, h⟩
theorem xgL_ex {lv : List xV} {i : Nat} {f : Int64 → Prop} (h : xgL lv i f) : ∃ x, xnth lv i = vL x ∧ f x := by
  revert h
  unfold xgL
  rcases xnth lv i with x | x | _ | q <;> intro h <;> first | exact h.elim | exact ⟨_, rfl, h⟩
theorem xgR_ex {lv : List xV} {i : Nat} {f : xI → Prop} (h : xgR lv i f) : ∃ x, xnth lv i = vR x ∧ f x := by
  revert h
  unfold xgR
  rcases xnth lv i with x | x | _ | q <;> intro h <;> first | exact h.elim | exact ⟨_, rfl, h⟩
theorem xcI_ex {c : xV} {f : Int32 → Prop} (h : xcI c f) : ∃ x, c = vI x ∧ f x := by
  unfold xcI at h
  rcases c with x | x | _ | q <;> first | exact h.elim | exact ⟨_, rfl, h⟩
theorem xcL_ex {c : xV} {f : Int64 → Prop} (h : xcL c f) : ∃ x, c = vL x ∧ f x := by
  unfold xcL at h
  rcases c with x | x | _ | q <;> first | exact h.elim | exact ⟨_, rfl, h⟩
theorem xax_ex {q : xI} {t : Nat} {f : Nat → Prop} (h : xax q t f) : ∃ n, xarr q = some (t, n) ∧ f n := by
  unfold xax at h
  split at h
  · rename_i t' n e
    cases hb : Nat.beq t' t with
    | false => rw [hb] at h; exact h.elim
    | true => rw [hb] at h; exact ⟨n, by rw [e, Nat.eq_of_beq_eq_true hb], h⟩
  · exact h.elim
theorem xro_ex {q : xI} {t : Nat} {f : Prop} (h : xro q t f) : (∃ fs, xobj q = some (t, fs)) ∧ f := by
  unfold xro at h
  split at h
  · rename_i t' fs e
    cases hb : Nat.beq t' t with
    | false => rw [hb] at h; exact h.elim
    | true => rw [hb] at h; exact ⟨⟨fs, by rw [e, Nat.eq_of_beq_eq_true hb]⟩, h⟩
  · exact h.elim
theorem xif8_ex {l : List xV} {f : Prop} (h : xif8 l f) : xcats l ≤ 8 ∧ f := by
  unfold xif8 at h
  cases hb : Nat.ble (xcats l) 8 with
  | false => rw [hb] at h; exact h.elim
  | true => rw [hb] at h; exact ⟨Nat.le_of_ble_eq_true hb, h⟩
theorem xifv_ex {l : List xV} {D : xD} {f : Prop} (h : xifv l D f) : xcats l ≤ 8 ∧ D.2.2.1 ≤ 18 ∧ f := by
  unfold xifv at h
  cases hb : Nat.ble (xcats l) 8 with
  | false => rw [hb] at h; exact h.elim
  | true =>
    rw [hb] at h
    cases hc : Nat.ble D.2.2.1 18 with
    | false => simp only [hc] at h
    | true => simp only [hc] at h; exact ⟨Nat.le_of_ble_eq_true hb, Nat.le_of_ble_eq_true hc, h⟩
theorem xif26_ex {l : List xV} {D : xD} {f : Prop} (h : xif26 l D f) : xcats l + D.2.2.1 ≤ 26 ∧ f := by
  unfold xif26 at h
  cases hb : Nat.ble (xcats l + D.2.2.1) 26 with
  | false => rw [hb] at h; exact h.elim
  | true => rw [hb] at h; exact ⟨Nat.le_of_ble_eq_true hb, h⟩
theorem xcats_eq (ad : xI → Nat) (l : List xV) : ((l.map (xrv ad)).map fun v => v.category).sum = xcats l := by
  induction l with
  | nil => rfl
  | cons v l ih =>
    rw [List.map_cons, List.map_cons, List.sum_cons, ih]
    rcases v with x | x | _ | q <;> rfl
theorem xfind_ex {l : List (Nat × Nat × xD)} {i : Nat} {f : xD → Prop} (h : xfind l i f) : ∃ q r, l.drop i = q :: r ∧ f q.2.2 := by
  induction l generalizing i with
  | nil => unfold xfind at h; exact h.elim
  | cons a l ih =>
    cases i with
    | zero => exact ⟨a, l, rfl, h⟩
    | succ i => exact ih h
theorem xdrop_mem {α : Type} {l : List α} {i : Nat} {q : α} {r : List α} (h : l.drop i = q :: r) : q ∈ l := List.mem_of_mem_drop (by rw [h]; exact List.mem_cons_self)
theorem xargs_ex : ∀ (n : Nat) (st acc : List xV) (f : List xV → List xV → Prop), xargs n st acc f → ∃ B s', st = B.reverse ++ s' ∧ B.length = n ∧ f (B ++ acc) s'
  | 0, st, acc, f, h => ⟨[], st, rfl, rfl, h⟩
  | n + 1, [], acc, f, h => h.elim
  | n + 1, v :: r, acc, f, h => by
    obtain ⟨B, s', e1, e2, e3⟩ := xargs_ex n r (v :: acc) f h
    refine ⟨B ++ [v], s', ?_, by simp [e2], by simpa using e3⟩
    rw [e1]
    simp
theorem xoks_app {b0 : Bool} {a b : List xV} (h : xoks b0 (a ++ b)) : xoks b0 a ∧ xoks b0 b := by
  induction a with
  | nil => exact ⟨trivial, h⟩
  | cons v a ih => exact ⟨⟨h.1, (ih h.2).1⟩, (ih h.2).2⟩
theorem xoks_mem {b0 : Bool} {a : List xV} (h : xoks b0 a) : ∀ v ∈ a, xvok b0 v := by
  induction a with
  | nil => intro v hv; cases hv
  | cons w a ih =>
    intro v hv
    rcases List.mem_cons.mp hv with rfl | hv
    · exact h.1
    · exact ih h.2 v hv
end
section
-- a class's words, by their places in the tables
theorem xu_of {ws : List Cond} (ps : List Nat) (hp : ws = ps.filterMap (fun i => lw_tbl[i]?)) (h : ws.all goodWord = true) : ∀ w ∈ ws, xin w := by
  intro w hw
  have h1 := List.all_eq_true.mp h w hw
  rw [hp] at hw
  obtain ⟨i, -, hi⟩ := List.mem_filterMap.mp hw
  exact ⟨List.mem_of_getElem? hi, h1⟩
set_option maxRecDepth 100000 in
theorem xu_X0 : ∀ w ∈ u_ws RX0 TX0 5, xin w := xu_of [174, 176, 178, 180, 182] (by decide +kernel) (by decide +kernel)
set_option maxRecDepth 100000 in
theorem xu_X1 : ∀ w ∈ u_ws RX1 TX1 3, xin w := xu_of [196, 198, 200] (by decide +kernel) (by decide +kernel)
set_option maxRecDepth 100000 in
theorem xu_X2 : ∀ w ∈ u_ws RX2 TX2 4, xin w := xu_of [70, 72, 74, 76] (by decide +kernel) (by decide +kernel)
set_option maxRecDepth 100000 in
theorem xu_X3 : ∀ w ∈ u_ws RX3 TX3 3, xin w := xu_of [154, 156, 158] (by decide +kernel) (by decide +kernel)
set_option maxRecDepth 100000 in
theorem xu_X4 : ∀ w ∈ u_ws RX4 TX4 12, xin w := xu_of [108, 110, 112, 114, 116, 118, 120, 122, 124, 126, 128, 130] (by decide +kernel) (by decide +kernel)
set_option maxRecDepth 100000 in
theorem xu_X5 : ∀ w ∈ u_ws RX5 TX5 1, xin w := xu_of [58] (by decide +kernel) (by decide +kernel)
set_option maxRecDepth 100000 in
theorem xu_X7 : ∀ w ∈ u_ws RX7 TX7 2, xin w := xu_of [137, 139] (by decide +kernel) (by decide +kernel)
set_option maxRecDepth 100000 in
theorem xu_X8 : ∀ w ∈ u_ws RX8 TX8 9, xin w := xu_of [216, 218, 220, 222, 224, 226, 228, 230, 232] (by decide +kernel) (by decide +kernel)
theorem xcl_ok : ∀ (ci : Nat) (C : String) (T : u_T) (N : Nat), vwCl[ci]? = some (C, T, N) → (∀ w ∈ u_ws C T N, xin w) ∧ (∃ ty : Nat → FieldType, ∀ k, k < N → parseFieldDescriptor (T k).2.2.1 = some (ty k)) ∧ (∀ a, a < N → ∀ b, b < N → a ≠ b → (T a).2.1 ≠ (T b).2.1) := by
  intro ci C T N h
  match ci, h with
  | 0, h => cases h; exact ⟨xu_X0, ⟨tyX0, tyX0_ok⟩, nmX0⟩
  | 1, h => cases h; exact ⟨xu_X1, ⟨tyX1, tyX1_ok⟩, nmX1⟩
  | 2, h => cases h; exact ⟨xu_X2, ⟨tyX2, tyX2_ok⟩, nmX2⟩
  | 3, h => cases h; exact ⟨xu_X3, ⟨tyX3, tyX3_ok⟩, nmX3⟩
  | 4, h => cases h; exact ⟨xu_X4, ⟨tyX4, tyX4_ok⟩, nmX4⟩
  | 5, h => cases h; exact ⟨xu_X5, ⟨tyX5, tyX5_ok⟩, nmX5⟩
  | 6, h => cases h; exact ⟨xu_X7, ⟨tyX7, tyX7_ok⟩, nmX7⟩
  | 7, h => cases h; exact ⟨xu_X8, ⟨tyX8, tyX8_ok⟩, nmX8⟩
  | n + 8, h => simp [vwCl] at h
end
section
section
variable {p : Program} {l : Launch} {e : Env} {R : Room} {s : State} {m : MethodId} {args : Array Value} {below : List Frame} {meth : Method} {c : Code} {H : Heap} {locs : List Loc} {QS : State → Prop}
variable {pc : Nat} {ls : Array Slot} {rest st0 : List Value} {a : Array Value} {H0 : Heap}
theorem xroom {st : List Value} {W : Nat} (h : (st.map fun v => v.category).sum ≤ W) : 2 * (F0 m pc ls rest).monitorRoom + (st.map fun v => v.category).sum ≤ W := by
  show 2 * 0 + _ ≤ W
  omega
/-- a static call, with any stack below it for which there is room -/
theorem xrunS {y : MethodName} {bytes cc : ByteArray} {maxL nL n index W : Nat} {ret : Option FieldType} {ws ws' : List Cond} {rm : Room} {mc ms cells slots : Nat} {Pc : Array Value → State → Prop} {Qc : Array Value → State → Outcome → State → Prop} {free : Addr → Prop} {Ts : List Cond} {own : String} {As rest : List Value} {g : JFrame}
    (S : CallFix p m c cc nL s args Ts own) (hM : Met l y ws rm Pc Qc mc ms free) (ht : ∀ w ∈ Ts, w.before args s = true) (hGo : GoodIn Ts ws) (hws : ws = Cond.code y bytes maxL ret :: ws') (hrc : rm.cells = mc) (hrs : rm.slots = ms) (hini : (Cond.initialized y.cls).before args s = true) (hli : (Cond.methodLink own index y).before args s = true)
    (hd : y.cls ≠ "java/lang/invoke/MethodHandle" ∧ y.cls ≠ "java/lang/invoke/VarHandle" ∧ (parseMethodDescriptor y.desc).map (fun d => d.parameters.length) = some n) (hfr : rm.frames + 1 ≤ R.frames) (hlo : W + (maxL + 11) + rm.locals ≤ R.locals) (hstt : (Cond.static y).before args s = true) (hp : PreS s H Pc As)
    (hg : g.method = m) (hn : As.length = n) (hsize : g.locals.size = nL) (hstack : g.stack = As.reverse ++ rest) (hW : 2 * g.monitorRoom + (rest.map fun v => v.category).sum ≤ W) (hdg : decode cc g.pc = .ok (.invokestatic index, 3)) (hf : cells + mc ≤ R.cells ∧ slots + ms ≤ R.slots) :
    va_Run p l e R s m args below meth c H locs cells slots mc ms g rest (Qc As.toArray) (free) := by
  have hc : Cond.code y bytes maxL ret ∈ ws := by rw [hws]; exact List.mem_cons_self
  have hK : Back l R p e below s args y 3 W (PreOf R mc ms Pc) (PostOf Qc mc ms free) := back_of (bytes := bytes) (maxL := maxL) (ret := ret) hM hp.1 hrc hrs hfr hlo (pay_in ht hGo) hc (fun a' U hW => word_at hW (Or.inl (by first | rfl | simp [Cond.onTables, Cond.keeps, Cond.steady])) hini)
  obtain ⟨hx, hb, hml, ho, -⟩ := S
  intro T hT X
  obtain ⟨v, vm₁, ⟨U', l2, c2, s2⟩, hW₁, X', ⟨g', mk, t, L, e1, e2, hq, h1, hL, h2, h3⟩, st⟩ := callS X hx (bytes := bytes) (maxL := maxL) (ret := ret) ho hli hstt hini (ht _ (hGo _ hc).1) ⟨hd.1, hd.2.1⟩ hK hg (hsize.trans hml.symm) (argsL := As) (rest := rest) (fun sig h => by
    have h2 := hd.2.2
    rw [h] at h2
    have h2 : sig.parameters.length = n := by simpa using h2
    rw [hn, h2]) hstack hW (by rw [hb]; exact hdg)
    (fun vm₁ hW₁ => ⟨hf.1, hf.2, hp.2 (T.setVm vm₁) hT hW₁⟩)
  dsimp only [Pt.U, Pt.locs, Pt.cells, Pt.slots] at X' e1 e2 h1 h2 h3 st
  subst h1; subst h2; subst h3
  exact ⟨v, (T.setVm vm₁).calling g' mk As.toArray, t, U', L, hT, X', hL, e1, e2, hq, st⟩
/-- behind a call by a small contract -/
theorem xcall_go {G : xG} {Q : xP} {A : Nat → Prop} {nc ns : Nat} (hA : ∀ q, xA G q → A q) (hr : va_Run p l e R s m args below meth c H locs nc ns 0 0 (F0 m pc ls st0) rest (xQc G Q a) (xA G)) (hS : va_S A H0 H locs)
    (kk : ∀ (r : Option xV) (μ' : xM) (H1 : Heap) (locs1 : List Loc), Q r μ' → (∀ v, r = some v → xvok G.2.2.2.2 v) → va_P G.2.2.1 vwCl (xwld G.2.2.2.2 G.2.1 G.2.2.2.1 μ') H1 → va_S A H0 H1 locs1 → W p l e R s m args below meth c H1 locs1 nc ns QS (F0 m (pc + 3) ls ((r.map (xrv G.2.1)).toList ++ rest))) : W p l e R s m args below meth c H locs nc ns QS (F0 m pc ls st0) := by
  intro T hT X
  obtain ⟨v, st₀, t, T', L, h0, X', hL, e1, e2, ⟨⟨r, μ', hq, hv, hok, hP1, -⟩, hz, hk⟩, st⟩ := hr T hT X
  cases hv
  rw [h0] at hz hk
  rw [← e1] at hP1
  obtain ⟨t2, a1, b1⟩ := kk r μ' T'.heap (locs ++ L) hq hok hP1
    ⟨Nat.le_trans hS.1 (by rw [e1]; exact hz), fun q h1 h2 => by rw [e1, hk q (Nat.lt_of_lt_of_le h1 hS.1) fun z => h2 (hA q z)]; exact hS.2.1 q h1 h2, fun q hq => by
      rcases List.mem_append.mp hq with h | h
      · exact hS.2.2 q h
      · exact hA _ (hL q h)⟩ T' rfl X'
  exact ⟨t2, st t2 a1, b1⟩
theorem xblind (G : xG) (As : List Value) (μ : xM) : FrameBlind (va_Pc As (xB G μ)) := by
  intro a U g mk q
  obtain ⟨h1, qP, qK⟩ := q
  exact ⟨h1, qP, va_K.moved (u := U) (U := U.calling g mk a) (Vm.Alike.refl U.vm) qK⟩

theorem xw_istore_n (hexec : p.tables.exec = Jvm.exec) {cc : ByteArray} (hb : c.code = cc) {ad : xI → Nat} {n i : Nat} {k : Fin 4} {lv : List xV} {x : Int32} {cells slots : Nat} (hl : xLv ad ls n lv) (hi : i < n) (hdg : decode cc pc = .ok (.istore_n k, 1)) (hk : k.val = i)
    (kk : ∀ ls' : Array Slot, xLv ad ls' n (xs1 lv i (vI x)) → W p l e R s m args below meth c H locs cells slots QS (F0 m (pc + 1) ls' rest)) : W p l e R s m args below meth c H locs cells slots QS (F0 m pc ls (.int x :: rest)) := by
  subst hk
  obtain ⟨ls', e', -⟩ := lv_store1 (l := []) (v := .int x) ⟨hl.1, hl.2.1, fun q hq => by cases hq⟩ hi rfl
  intro T hT X
  obtain ⟨t, a, b⟩ := kk ls' (xLv_s1 hl hi rfl rfl e') T hT X
  refine ⟨t, ?_, b⟩
  jvm_step X.here [X.here.top, ↓top_set X.here.top, hexec, hb, hdg, e']
  exact a
theorem xw_istore (hexec : p.tables.exec = Jvm.exec) {cc : ByteArray} (hb : c.code = cc) {ad : xI → Nat} {n i : Nat} {lv : List xV} {x : Int32} {cells slots : Nat} (hl : xLv ad ls n lv) (hi : i < n) (hdg : decode cc pc = .ok (.istore i, 2))
    (kk : ∀ ls' : Array Slot, xLv ad ls' n (xs1 lv i (vI x)) → W p l e R s m args below meth c H locs cells slots QS (F0 m (pc + 2) ls' rest)) : W p l e R s m args below meth c H locs cells slots QS (F0 m pc ls (.int x :: rest)) := by
  obtain ⟨ls', e', -⟩ := lv_store1 (l := []) (v := .int x) ⟨hl.1, hl.2.1, fun q hq => by cases hq⟩ hi rfl
  intro T hT X
  obtain ⟨t, a, b⟩ := kk ls' (xLv_s1 hl hi rfl rfl e') T hT X
  refine ⟨t, ?_, b⟩
  jvm_step X.here [X.here.top, ↓top_set X.here.top, hexec, hb, hdg, e']
  exact a
theorem xw_lstore_n (hexec : p.tables.exec = Jvm.exec) {cc : ByteArray} (hb : c.code = cc) {ad : xI → Nat} {n i : Nat} {k : Fin 4} {lv : List xV} {x : Int64} {cells slots : Nat} (hl : xLv ad ls n lv) (hi : i + 1 < n) (hdg : decode cc pc = .ok (.lstore_n k, 1)) (hk : k.val = i)
    (kk : ∀ ls' : Array Slot, xLv ad ls' n (xs2 lv i (vL x)) → W p l e R s m args below meth c H locs cells slots QS (F0 m (pc + 1) ls' rest)) : W p l e R s m args below meth c H locs cells slots QS (F0 m pc ls (.long x :: rest)) := by
  subst hk
  obtain ⟨ls', e', -⟩ := lv_store2 (l := []) (v := .long x) ⟨hl.1, hl.2.1, fun q hq => by cases hq⟩ hi rfl
  intro T hT X
  obtain ⟨t, a, b⟩ := kk ls' (xLv_s2 hl hi rfl rfl e') T hT X
  refine ⟨t, ?_, b⟩
  jvm_step X.here [X.here.top, ↓top_set X.here.top, hexec, hb, hdg, e']
  exact a
theorem xw_lstore (hexec : p.tables.exec = Jvm.exec) {cc : ByteArray} (hb : c.code = cc) {ad : xI → Nat} {n i : Nat} {lv : List xV} {x : Int64} {cells slots : Nat} (hl : xLv ad ls n lv) (hi : i + 1 < n) (hdg : decode cc pc = .ok (.lstore i, 2))
    (kk : ∀ ls' : Array Slot, xLv ad ls' n (xs2 lv i (vL x)) → W p l e R s m args below meth c H locs cells slots QS (F0 m (pc + 2) ls' rest)) : W p l e R s m args below meth c H locs cells slots QS (F0 m pc ls (.long x :: rest)) := by
  obtain ⟨ls', e', -⟩ := lv_store2 (l := []) (v := .long x) ⟨hl.1, hl.2.1, fun q hq => by cases hq⟩ hi rfl
  intro T hT X
  obtain ⟨t, a, b⟩ := kk ls' (xLv_s2 hl hi rfl rfl e') T hT X
  refine ⟨t, ?_, b⟩
  jvm_step X.here [X.here.top, ↓top_set X.here.top, hexec, hb, hdg, e']
  exact a
theorem xw_astore_n (hexec : p.tables.exec = Jvm.exec) {cc : ByteArray} (hb : c.code = cc) {ad : xI → Nat} {n i : Nat} {k : Fin 4} {lv : List xV} {x : xI} {cells slots : Nat} (hl : xLv ad ls n lv) (hi : i < n) (hdg : decode cc pc = .ok (.astore_n k, 1)) (hk : k.val = i)
    (kk : ∀ ls' : Array Slot, xLv ad ls' n (xs1 lv i (vR x)) → W p l e R s m args below meth c H locs cells slots QS (F0 m (pc + 1) ls' rest)) : W p l e R s m args below meth c H locs cells slots QS (F0 m pc ls (.ref (ad x) :: rest)) := by
  subst hk
  obtain ⟨ls', e', -⟩ := lv_store1 (l := []) (v := .ref (ad x)) ⟨hl.1, hl.2.1, fun q hq => by cases hq⟩ hi rfl
  intro T hT X
  obtain ⟨t, a, b⟩ := kk ls' (xLv_s1 hl hi rfl rfl e') T hT X
  refine ⟨t, ?_, b⟩
  jvm_step X.here [X.here.top, ↓top_set X.here.top, hexec, hb, hdg, e', Value.isRef]
  exact a
theorem xw_astore (hexec : p.tables.exec = Jvm.exec) {cc : ByteArray} (hb : c.code = cc) {ad : xI → Nat} {n i : Nat} {lv : List xV} {x : xI} {cells slots : Nat} (hl : xLv ad ls n lv) (hi : i < n) (hdg : decode cc pc = .ok (.astore i, 2))
    (kk : ∀ ls' : Array Slot, xLv ad ls' n (xs1 lv i (vR x)) → W p l e R s m args below meth c H locs cells slots QS (F0 m (pc + 2) ls' rest)) : W p l e R s m args below meth c H locs cells slots QS (F0 m pc ls (.ref (ad x) :: rest)) := by
  obtain ⟨ls', e', -⟩ := lv_store1 (l := []) (v := .ref (ad x)) ⟨hl.1, hl.2.1, fun q hq => by cases hq⟩ hi rfl
  intro T hT X
  obtain ⟨t, a, b⟩ := kk ls' (xLv_s1 hl hi rfl rfl e') T hT X
  refine ⟨t, ?_, b⟩
  jvm_step X.here [X.here.top, ↓top_set X.here.top, hexec, hb, hdg, e', Value.isRef]
  exact a
theorem xw_iinc (hexec : p.tables.exec = Jvm.exec) {cc : ByteArray} (hb : c.code = cc) {ad : xI → Nat} {n i : Nat} {lv : List xV} {x v : Int32} {q : Int} {cells slots : Nat} (hl : xLv ad ls n lv) (hi : i < n) (hdg : decode cc pc = .ok (.iinc i q, 3)) (hx : xnth lv i = vI x) (hv : Int32.ofInt q = v)
    (kk : ∀ ls' : Array Slot, xLv ad ls' n (xs1 lv i (vI (x + v))) → W p l e R s m args below meth c H locs cells slots QS (F0 m (pc + 3) ls' rest)) : W p l e R s m args below meth c H locs cells slots QS (F0 m pc ls rest) := by
  subst hv
  have hg := hl.2.2 i (by rw [hx]; intro z; cases z)
  rw [hx] at hg
  have hg : ls[i]? = some (.val (.int x)) := hg
  obtain ⟨ls', e', -⟩ := lv_store1 (l := []) (v := .int (x + Int32.ofInt q)) ⟨hl.1, hl.2.1, fun q hq => by cases hq⟩ hi rfl
  intro T hT X
  obtain ⟨t, a, b⟩ := kk ls' (xLv_s1 hl hi rfl rfl e') T hT X
  refine ⟨t, ?_, b⟩
  jvm_step X.here [X.here.top, ↓top_set X.here.top, hexec, hb, hdg, hg, e']
  exact a
end
-- switches
theorem xnat_le : 0 + (nativeFrameWords "java/lang/System" "arraycopy" 5 + 11) ≤ 37 := by decide +kernel
theorem xtgts_get {tb : List xT} {pc : Nat} : ∀ (os : List Int) (ts : List Nat), xtgts tb pc os ts = true → os.length = ts.length ∧ ∀ (j t : Nat), ts[j]? = some t → ∃ o, os[j]? = some o ∧ xtgt tb pc o t = true
  | [], [], _ => ⟨rfl, fun j t h => by simp at h⟩
  | [], _ :: _, h => by simp [xtgts] at h
  | _ :: _, [], h => by simp [xtgts] at h
  | o :: os, t :: ts, h => by
    simp only [xtgts, Bool.and_eq_true] at h
    obtain ⟨e, f⟩ := xtgts_get os ts h.2
    refine ⟨by simp [e], fun j t' hj => ?_⟩
    cases j with
    | zero =>
      have : t = t' := by simpa using hj
      subst this
      exact ⟨o, rfl, h.1⟩
    | succ j => exact f j t' (by simpa using hj)
theorem xtsw_ex {x : Int32} {kt : Nat → Prop} {kd : Prop} : ∀ (ts : List Nat) (lo : Int), xtsw x lo ts kt kd → (∃ (j t : Nat), ts[j]? = some t ∧ x = Int32.ofInt (lo + (j : Int)) ∧ kt t) ∨ ((∀ j, j < ts.length → ¬ x = Int32.ofInt (lo + (j : Int))) ∧ kd)
  | [], lo, h => Or.inr ⟨fun j hj => by simp at hj, h⟩
  | t :: ts, lo, h => by
    by_cases hx : x = Int32.ofInt lo
    · exact Or.inl ⟨0, t, by simp, by simpa using hx, h.1 hx⟩
    · rcases xtsw_ex ts (lo + 1) (h.2 hx) with ⟨j, t', e1, e2, e3⟩ | ⟨e1, e2⟩
      · exact Or.inl ⟨j + 1, t', by simpa using e1, by rw [e2]; congr 1; omega, e3⟩
      · refine Or.inr ⟨fun j hj => ?_, e2⟩
        cases j with
        | zero => simpa using hx
        | succ j =>
          have := e1 j (by simpa using hj)
          rwa [show lo + 1 + (j : Int) = lo + ((j + 1 : Nat) : Int) by omega] at this
theorem xofI {x : Int32} {z : Int} (h : x = Int32.ofInt z) (h1 : -2147483648 ≤ z) (h2 : z ≤ 2147483647) : x.toInt = z := by
  subst h
  exact Int32.toInt_ofInt_of_le (by simpa using h1) (by simpa using (by omega : z < 2147483648))
theorem xlsw_ex {x : Int32} {tb : List xT} {pc : Nat} {d : Int} {kt : Nat → Prop} {kd : Prop} : ∀ (ps : List (Int × Int)) (ts : List Nat), xtgts tb pc (ps.map (·.2)) ts = true → xkeys ps = true → xlsw x ps ts kt kd → (∃ o t, Op.lookupswitch.offset ps d x.toInt = o ∧ xtgt tb pc o t = true ∧ kt t) ∨ (Op.lookupswitch.offset ps d x.toInt = d ∧ kd)
  | [], [], _, _, h => Or.inr ⟨by simp [Op.lookupswitch.offset], h⟩
  | [], _ :: _, h, _, _ => by simp [xtgts] at h
  | (a, o) :: ps, [], h, _, _ => by simp [xtgts] at h
  | (a, o) :: ps, t :: ts, hg, hk, h => by
    simp only [List.map_cons, xtgts, Bool.and_eq_true] at hg
    simp only [xkeys, Bool.and_eq_true, decide_eq_true_eq] at hk
    by_cases hx : x = Int32.ofInt a
    · refine Or.inl ⟨o, t, ?_, hg.1, h.1 hx⟩
      rw [xofI hx hk.1.1 hk.1.2]
      simp [Op.lookupswitch.offset]
    · have hne : ¬ x = Int32.ofInt a := hx
      have hka : (Int32.ofInt a).toInt = a := xofI rfl hk.1.1 hk.1.2
      rw [lv_osw hne hka]
      exact xlsw_ex ps ts hg.2 hk.2 (h.2 hx)
-- cells
theorem xfld_ex {q : xI} {ci k : Nat} {fi : Prop} {fr : xI → Prop} (h : xfld q ci k fi fr) : ∃ fs, xobj q = some (ci, fs) ∧ ((fs[k]? = some none ∧ fi) ∨ ∃ r, fs[k]? = some (some r) ∧ fr r) := by
  unfold xfld at h
  split at h
  · rename_i ci' fs e
    cases hb : Nat.beq ci' ci with
    | false => rw [hb] at h; exact h.elim
    | true =>
      rw [hb] at h
      refine ⟨fs, by rw [e, Nat.eq_of_beq_eq_true hb], ?_⟩
      simp only at h
      split at h
      · exact Or.inl ⟨by assumption, h⟩
      · rename_i r e2
        exact Or.inr ⟨r, e2, h⟩
      · exact h.elim
  · exact h.elim
theorem xcell_obj {ad : xI → Nat} {cA : Nat → ClassId} {μ : xM} {q : xI} {ci : Nat} {fs : List (Option xI)} (h : xobj q = some (ci, fs)) : xcell ad cA μ q = .inr (ci, xfs ad (μ q) 0 fs) := by
  unfold xcell
  rw [h]
theorem xarr_obj {q : xI} {t n : Nat} (h : xarr q = some (t, n)) : xobj q = none := by
  unfold xarr at h
  split at h
  · rfl
  · cases h
theorem xcell_arr {ad : xI → Nat} {cA : Nat → ClassId} {μ : xM} {q : xI} {t n : Nat} (h : xarr q = some (t, n)) : xcell ad cA μ q = .inl (cA t, n, .inl (μ q)) := by
  unfold xcell
  rw [xarr_obj h]
  simp only [h]
theorem xst_self (μ : xM) (q : xI) (k : Nat) (v : Int32) : xst μ q k v q = upd (μ q) k v := by simp [xst]
theorem xst_ne (μ : xM) {p q : xI} (k : Nat) (v : Int32) (h : p ≠ q) : xst μ q k v p = μ p := by simp [xst, h]
theorem xwld_put {b : Bool} {ad : xI → Nat} {cA : Nat → ClassId} {μ : xM} {n : Nat} {q : xI} {ci k : Nat} {fs : List (Option xI)} {x : Int32} (hn : (xids b)[n]? = some q) (h : xobj q = some (ci, fs)) (hk : fs[k]? = some none) : (xwld b ad cA μ).set n (ad q, .inr (ci, (xfs ad (μ q) 0 fs).set k (.int x))) = xwld b ad cA (xst μ q k x) := by
  have e : (.inr (ci, (xfs ad (μ q) 0 fs).set k (.int x)) : va_E) = xcell ad cA (xst μ q k x) q := by
    rw [xcell_obj h, xst_self, xfs_set fs 0 k hk, Nat.zero_add]
  rw [e]
  exact xwld_set hn (fun p hp => (xst_ne μ k x hp).symm)
theorem xwld_arr {b : Bool} {ad : xI → Nat} {cA : Nat → ClassId} {μ : xM} {n : Nat} {q : xI} {t z k : Nat} {x : Int32} (hn : (xids b)[n]? = some q) (h : xarr q = some (t, z)) : (xwld b ad cA μ).set n (ad q, .inl (cA t, z, .inl (upd (μ q) k x))) = xwld b ad cA (xst μ q k x) := by
  have e : (.inl (cA t, z, .inl (upd (μ q) k x)) : va_E) = xcell ad cA (xst μ q k x) q := by
    rw [xcell_arr h, xst_self]
  rw [e]
  exact xwld_set hn (fun p hp => (xst_ne μ k x hp).symm)
theorem xwld_cpy {b : Bool} {ad : xI → Nat} {cA : Nat → ClassId} {μ : xM} {n : Nat} {a q : xI} {t z sp dp k : Nat} (hn : (xids b)[n]? = some q) (h : xarr q = some (t, z)) : (xwld b ad cA μ).set n (ad q, .inl (cA t, z, .inl (va_cpy (μ a) (μ q) sp dp k))) = xwld b ad cA (xcp μ a q sp dp k) := by
  have e : (.inl (cA t, z, .inl (va_cpy (μ a) (μ q) sp dp k)) : va_E) = xcell ad cA (xcp μ a q sp dp k) q := by
    rw [xcell_arr h]
    simp [xcp]
  rw [e]
  exact xwld_set hn (fun p hp => by simp [xcp, hp])
theorem xal_ex {ad : xI → Nat} {cA : Nat → ClassId} {μ : xM} {q : xI} {f : Nat → Prop} (h : xal q f) : ∃ (t : Nat) (ty : FieldType) (x : vp_A), xcell ad cA μ q = .inl (cA t, x) ∧ (xtys cA)[t]? = some (cA t, ty) ∧ f x.1 := by
  unfold xal at h
  split at h
  · rename_i t n e
    have ht : t = 0 := by
      unfold xarr at e
      split at e <;> cases e <;> rfl
    subst ht
    exact ⟨0, .int, (n, .inl (μ q)), xcell_arr e, rfl, h⟩
  · split at h
    · exact ⟨1, .object "BoxedProofs$State", (5, _), rfl, rfl, h⟩
    · exact h.elim
theorem xret_ex {ad : xI → Nat} {rt : Option FieldType} {rest : List xV} {k : List xV → xM → Prop} {r : Option xV} {μ' : xM} (h : xret rt rest k r μ') : ∃ st', k st' μ' ∧ (r.map (xrv ad)).toList ++ rest.map (xrv ad) = st'.map (xrv ad) ∧ ∀ b : Bool, xoks b rest → (∀ v, r = some v → xvok b v) → xoks b st' := by
  unfold xret at h
  split at h
  · rcases r with _ | v
    · exact ⟨rest, h, rfl, fun _ a _ => a⟩
    · exact (show False from h).elim
  · rcases r with _ | x | x | _ | q <;> first | exact (show False from h).elim | exact ⟨_, h, rfl, fun _ a b => ⟨b _ rfl, a⟩⟩
  · rcases r with _ | x | x | _ | q <;> first | exact (show False from h).elim | exact ⟨_, h, rfl, fun _ a b => ⟨b _ rfl, a⟩⟩
  · rcases r with _ | x | x | _ | q <;> first | exact (show False from h).elim | exact ⟨_, h, rfl, fun _ a b => ⟨b _ rfl, a⟩⟩
end
section
set_option maxHeartbeats 1000000 in
theorem xso_iload_n {G : xG} {E : xE} {d : Nat} {Q : xP} {pc len : Nat} {tg : List Nat} {cst : xV} {r : List xT} {lv st : List xV} {μ : xM} {k : xK} {p : Program} {e : Env} {s : State} {m : MethodId} {args : Array Value} {below : List Frame} {meth : Method} {c : Code} {R : Room} {nc ns : Nat} {QS : State → Prop} {A : Nat → Prop} (n : Fin 4) (hE : xEok E)
    (kN : ∀ lv st μ, k r lv st μ → WS G E (d + 1) (p, e, s, m, args, below, meth, c, R, nc, ns, QS, A) Q (pc + len) lv st μ)
    (kJ : ∀ t e' r', E.2.2.1.drop t = e' :: r' → ∀ lv st μ, k (E.2.2.1.drop t) lv st μ → WS G E (d + 1) (p, e, s, m, args, below, meth, c, R, nc, ns, QS, A) Q e'.1 lv st μ)
    (hdec : decode E.2.1.2.1 pc = .ok ((.iload_n n), len)) (hch : xchk E (pc, (.iload_n n), len, tg, cst) = true)
    (h : xstep (MW G d) E Q (pc, (.iload_n n), len, tg, cst) r lv st μ k) : WS G E (d + 1) (p, e, s, m, args, below, meth, c, R, nc, ns, QS, A) Q pc lv st μ := by
  intro hG hC hY H locs ls hP hS hl hlo hso
  obtain ⟨hx, hb, hr, hml, hown, hts, hK, hlocks⟩ := id hC
  have hD := xD_wld hG hY.2.1 μ
  have htw : ∀ w, xin w → w.before args s = true := fun w hw => hts w (List.mem_cons_of_mem _ (xin_gw hw))
  simp only [xchk, decide_eq_true_eq] at hch
  obtain ⟨hlen, hi⟩ := hch
  subst hlen
  
  obtain ⟨x, ex, h⟩ := xgI_ex (show xgI lv _ _ from h)
  have h2 := hl.2.2 _ (show xnth lv (xt0 tg) ≠ vN by rw [ex]; intro z; cases z)
  have hq := hlo (xt0 tg)
  rw [ex] at h2 hq
  exact lv_iload_n hx hb hdec hi h2 (kN _ _ _ h hG hC hY H locs ls hP hS hl hlo ⟨trivial, hso⟩)
set_option maxHeartbeats 1000000 in
theorem xso_iload {G : xG} {E : xE} {d : Nat} {Q : xP} {pc len : Nat} {tg : List Nat} {cst : xV} {r : List xT} {lv st : List xV} {μ : xM} {k : xK} {p : Program} {e : Env} {s : State} {m : MethodId} {args : Array Value} {below : List Frame} {meth : Method} {c : Code} {R : Room} {nc ns : Nat} {QS : State → Prop} {A : Nat → Prop} (n : Nat) (hE : xEok E)
    (kN : ∀ lv st μ, k r lv st μ → WS G E (d + 1) (p, e, s, m, args, below, meth, c, R, nc, ns, QS, A) Q (pc + len) lv st μ)
    (kJ : ∀ t e' r', E.2.2.1.drop t = e' :: r' → ∀ lv st μ, k (E.2.2.1.drop t) lv st μ → WS G E (d + 1) (p, e, s, m, args, below, meth, c, R, nc, ns, QS, A) Q e'.1 lv st μ)
    (hdec : decode E.2.1.2.1 pc = .ok ((.iload n), len)) (hch : xchk E (pc, (.iload n), len, tg, cst) = true)
    (h : xstep (MW G d) E Q (pc, (.iload n), len, tg, cst) r lv st μ k) : WS G E (d + 1) (p, e, s, m, args, below, meth, c, R, nc, ns, QS, A) Q pc lv st μ := by
  intro hG hC hY H locs ls hP hS hl hlo hso
  obtain ⟨hx, hb, hr, hml, hown, hts, hK, hlocks⟩ := id hC
  have hD := xD_wld hG hY.2.1 μ
  have htw : ∀ w, xin w → w.before args s = true := fun w hw => hts w (List.mem_cons_of_mem _ (xin_gw hw))
  simp only [xchk, decide_eq_true_eq] at hch
  obtain ⟨hlen, hi⟩ := hch
  subst hlen
  subst hi
  obtain ⟨x, ex, h⟩ := xgI_ex (show xgI lv _ _ from h)
  have h2 := hl.2.2 _ (show xnth lv (xt0 tg) ≠ vN by rw [ex]; intro z; cases z)
  have hq := hlo (xt0 tg)
  rw [ex] at h2 hq
  exact lv_iload hx hb hdec h2 (kN _ _ _ h hG hC hY H locs ls hP hS hl hlo ⟨trivial, hso⟩)
set_option maxHeartbeats 1000000 in
theorem xso_lload_n {G : xG} {E : xE} {d : Nat} {Q : xP} {pc len : Nat} {tg : List Nat} {cst : xV} {r : List xT} {lv st : List xV} {μ : xM} {k : xK} {p : Program} {e : Env} {s : State} {m : MethodId} {args : Array Value} {below : List Frame} {meth : Method} {c : Code} {R : Room} {nc ns : Nat} {QS : State → Prop} {A : Nat → Prop} (n : Fin 4) (hE : xEok E)
    (kN : ∀ lv st μ, k r lv st μ → WS G E (d + 1) (p, e, s, m, args, below, meth, c, R, nc, ns, QS, A) Q (pc + len) lv st μ)
    (kJ : ∀ t e' r', E.2.2.1.drop t = e' :: r' → ∀ lv st μ, k (E.2.2.1.drop t) lv st μ → WS G E (d + 1) (p, e, s, m, args, below, meth, c, R, nc, ns, QS, A) Q e'.1 lv st μ)
    (hdec : decode E.2.1.2.1 pc = .ok ((.lload_n n), len)) (hch : xchk E (pc, (.lload_n n), len, tg, cst) = true)
    (h : xstep (MW G d) E Q (pc, (.lload_n n), len, tg, cst) r lv st μ k) : WS G E (d + 1) (p, e, s, m, args, below, meth, c, R, nc, ns, QS, A) Q pc lv st μ := by
  intro hG hC hY H locs ls hP hS hl hlo hso
  obtain ⟨hx, hb, hr, hml, hown, hts, hK, hlocks⟩ := id hC
  have hD := xD_wld hG hY.2.1 μ
  have htw : ∀ w, xin w → w.before args s = true := fun w hw => hts w (List.mem_cons_of_mem _ (xin_gw hw))
  simp only [xchk, decide_eq_true_eq] at hch
  obtain ⟨hlen, hi⟩ := hch
  subst hlen
  
  obtain ⟨x, ex, h⟩ := xgL_ex (show xgL lv _ _ from h)
  have h2 := hl.2.2 _ (show xnth lv (xt0 tg) ≠ vN by rw [ex]; intro z; cases z)
  have hq := hlo (xt0 tg)
  rw [ex] at h2 hq
  exact lv_lload_n hx hb hdec hi h2 (kN _ _ _ h hG hC hY H locs ls hP hS hl hlo ⟨trivial, hso⟩)
set_option maxHeartbeats 1000000 in
theorem xso_lload {G : xG} {E : xE} {d : Nat} {Q : xP} {pc len : Nat} {tg : List Nat} {cst : xV} {r : List xT} {lv st : List xV} {μ : xM} {k : xK} {p : Program} {e : Env} {s : State} {m : MethodId} {args : Array Value} {below : List Frame} {meth : Method} {c : Code} {R : Room} {nc ns : Nat} {QS : State → Prop} {A : Nat → Prop} (n : Nat) (hE : xEok E)
    (kN : ∀ lv st μ, k r lv st μ → WS G E (d + 1) (p, e, s, m, args, below, meth, c, R, nc, ns, QS, A) Q (pc + len) lv st μ)
    (kJ : ∀ t e' r', E.2.2.1.drop t = e' :: r' → ∀ lv st μ, k (E.2.2.1.drop t) lv st μ → WS G E (d + 1) (p, e, s, m, args, below, meth, c, R, nc, ns, QS, A) Q e'.1 lv st μ)
    (hdec : decode E.2.1.2.1 pc = .ok ((.lload n), len)) (hch : xchk E (pc, (.lload n), len, tg, cst) = true)
    (h : xstep (MW G d) E Q (pc, (.lload n), len, tg, cst) r lv st μ k) : WS G E (d + 1) (p, e, s, m, args, below, meth, c, R, nc, ns, QS, A) Q pc lv st μ := by
  intro hG hC hY H locs ls hP hS hl hlo hso
  obtain ⟨hx, hb, hr, hml, hown, hts, hK, hlocks⟩ := id hC
  have hD := xD_wld hG hY.2.1 μ
  have htw : ∀ w, xin w → w.before args s = true := fun w hw => hts w (List.mem_cons_of_mem _ (xin_gw hw))
  simp only [xchk, decide_eq_true_eq] at hch
  obtain ⟨hlen, hi⟩ := hch
  subst hlen
  subst hi
  obtain ⟨x, ex, h⟩ := xgL_ex (show xgL lv _ _ from h)
  have h2 := hl.2.2 _ (show xnth lv (xt0 tg) ≠ vN by rw [ex]; intro z; cases z)
  have hq := hlo (xt0 tg)
  rw [ex] at h2 hq
  exact lv_lload hx hb hdec h2 (kN _ _ _ h hG hC hY H locs ls hP hS hl hlo ⟨trivial, hso⟩)
set_option maxHeartbeats 1000000 in
theorem xso_aload_n {G : xG} {E : xE} {d : Nat} {Q : xP} {pc len : Nat} {tg : List Nat} {cst : xV} {r : List xT} {lv st : List xV} {μ : xM} {k : xK} {p : Program} {e : Env} {s : State} {m : MethodId} {args : Array Value} {below : List Frame} {meth : Method} {c : Code} {R : Room} {nc ns : Nat} {QS : State → Prop} {A : Nat → Prop} (n : Fin 4) (hE : xEok E)
    (kN : ∀ lv st μ, k r lv st μ → WS G E (d + 1) (p, e, s, m, args, below, meth, c, R, nc, ns, QS, A) Q (pc + len) lv st μ)
    (kJ : ∀ t e' r', E.2.2.1.drop t = e' :: r' → ∀ lv st μ, k (E.2.2.1.drop t) lv st μ → WS G E (d + 1) (p, e, s, m, args, below, meth, c, R, nc, ns, QS, A) Q e'.1 lv st μ)
    (hdec : decode E.2.1.2.1 pc = .ok ((.aload_n n), len)) (hch : xchk E (pc, (.aload_n n), len, tg, cst) = true)
    (h : xstep (MW G d) E Q (pc, (.aload_n n), len, tg, cst) r lv st μ k) : WS G E (d + 1) (p, e, s, m, args, below, meth, c, R, nc, ns, QS, A) Q pc lv st μ := by
  intro hG hC hY H locs ls hP hS hl hlo hso
  obtain ⟨hx, hb, hr, hml, hown, hts, hK, hlocks⟩ := id hC
  have hD := xD_wld hG hY.2.1 μ
  have htw : ∀ w, xin w → w.before args s = true := fun w hw => hts w (List.mem_cons_of_mem _ (xin_gw hw))
  simp only [xchk, decide_eq_true_eq] at hch
  obtain ⟨hlen, hi⟩ := hch
  subst hlen
  
  obtain ⟨x, ex, h⟩ := xgR_ex (show xgR lv _ _ from h)
  have h2 := hl.2.2 _ (show xnth lv (xt0 tg) ≠ vN by rw [ex]; intro z; cases z)
  have hq := hlo (xt0 tg)
  rw [ex] at h2 hq
  exact lv_aload_n hx hb hdec hi h2 (kN _ _ _ h hG hC hY H locs ls hP hS hl hlo ⟨hq, hso⟩)
set_option maxHeartbeats 1000000 in
theorem xso_aload {G : xG} {E : xE} {d : Nat} {Q : xP} {pc len : Nat} {tg : List Nat} {cst : xV} {r : List xT} {lv st : List xV} {μ : xM} {k : xK} {p : Program} {e : Env} {s : State} {m : MethodId} {args : Array Value} {below : List Frame} {meth : Method} {c : Code} {R : Room} {nc ns : Nat} {QS : State → Prop} {A : Nat → Prop} (n : Nat) (hE : xEok E)
    (kN : ∀ lv st μ, k r lv st μ → WS G E (d + 1) (p, e, s, m, args, below, meth, c, R, nc, ns, QS, A) Q (pc + len) lv st μ)
    (kJ : ∀ t e' r', E.2.2.1.drop t = e' :: r' → ∀ lv st μ, k (E.2.2.1.drop t) lv st μ → WS G E (d + 1) (p, e, s, m, args, below, meth, c, R, nc, ns, QS, A) Q e'.1 lv st μ)
    (hdec : decode E.2.1.2.1 pc = .ok ((.aload n), len)) (hch : xchk E (pc, (.aload n), len, tg, cst) = true)
    (h : xstep (MW G d) E Q (pc, (.aload n), len, tg, cst) r lv st μ k) : WS G E (d + 1) (p, e, s, m, args, below, meth, c, R, nc, ns, QS, A) Q pc lv st μ := by
  intro hG hC hY H locs ls hP hS hl hlo hso
  obtain ⟨hx, hb, hr, hml, hown, hts, hK, hlocks⟩ := id hC
  have hD := xD_wld hG hY.2.1 μ
  have htw : ∀ w, xin w → w.before args s = true := fun w hw => hts w (List.mem_cons_of_mem _ (xin_gw hw))
  simp only [xchk, decide_eq_true_eq] at hch
  obtain ⟨hlen, hi⟩ := hch
  subst hlen
  subst hi
  obtain ⟨x, ex, h⟩ := xgR_ex (show xgR lv _ _ from h)
  have h2 := hl.2.2 _ (show xnth lv (xt0 tg) ≠ vN by rw [ex]; intro z; cases z)
  have hq := hlo (xt0 tg)
  rw [ex] at h2 hq
  exact lv_aload hx hb hdec h2 (kN _ _ _ h hG hC hY H locs ls hP hS hl hlo ⟨hq, hso⟩)
set_option maxHeartbeats 1000000 in
theorem xso_istore_n {G : xG} {E : xE} {d : Nat} {Q : xP} {pc len : Nat} {tg : List Nat} {cst : xV} {r : List xT} {lv st : List xV} {μ : xM} {k : xK} {p : Program} {e : Env} {s : State} {m : MethodId} {args : Array Value} {below : List Frame} {meth : Method} {c : Code} {R : Room} {nc ns : Nat} {QS : State → Prop} {A : Nat → Prop} (n : Fin 4) (hE : xEok E)
    (kN : ∀ lv st μ, k r lv st μ → WS G E (d + 1) (p, e, s, m, args, below, meth, c, R, nc, ns, QS, A) Q (pc + len) lv st μ)
    (kJ : ∀ t e' r', E.2.2.1.drop t = e' :: r' → ∀ lv st μ, k (E.2.2.1.drop t) lv st μ → WS G E (d + 1) (p, e, s, m, args, below, meth, c, R, nc, ns, QS, A) Q e'.1 lv st μ)
    (hdec : decode E.2.1.2.1 pc = .ok ((.istore_n n), len)) (hch : xchk E (pc, (.istore_n n), len, tg, cst) = true)
    (h : xstep (MW G d) E Q (pc, (.istore_n n), len, tg, cst) r lv st μ k) : WS G E (d + 1) (p, e, s, m, args, below, meth, c, R, nc, ns, QS, A) Q pc lv st μ := by
  intro hG hC hY H locs ls hP hS hl hlo hso
  obtain ⟨hx, hb, hr, hml, hown, hts, hK, hlocks⟩ := id hC
  have hD := xD_wld hG hY.2.1 μ
  have htw : ∀ w, xin w → w.before args s = true := fun w hw => hts w (List.mem_cons_of_mem _ (xin_gw hw))
  simp only [xchk, decide_eq_true_eq] at hch
  obtain ⟨hlen, hi, hlt⟩ := hch
  subst hlen
  
  obtain ⟨x, s1, rfl, hh⟩ := xpI_ex (show xpI st _ from h)
  clear h
  have h := hh
  clear hh
  exact xw_istore_n hx hb hl hlt hdec hi (fun ls' hl' => kN _ _ _ h hG hC hY H locs ls' hP hS hl' (xlok_set (xlok_clr hlo _) _ trivial) hso.2)
set_option maxHeartbeats 1000000 in
theorem xso_istore {G : xG} {E : xE} {d : Nat} {Q : xP} {pc len : Nat} {tg : List Nat} {cst : xV} {r : List xT} {lv st : List xV} {μ : xM} {k : xK} {p : Program} {e : Env} {s : State} {m : MethodId} {args : Array Value} {below : List Frame} {meth : Method} {c : Code} {R : Room} {nc ns : Nat} {QS : State → Prop} {A : Nat → Prop} (n : Nat) (hE : xEok E)
    (kN : ∀ lv st μ, k r lv st μ → WS G E (d + 1) (p, e, s, m, args, below, meth, c, R, nc, ns, QS, A) Q (pc + len) lv st μ)
    (kJ : ∀ t e' r', E.2.2.1.drop t = e' :: r' → ∀ lv st μ, k (E.2.2.1.drop t) lv st μ → WS G E (d + 1) (p, e, s, m, args, below, meth, c, R, nc, ns, QS, A) Q e'.1 lv st μ)
    (hdec : decode E.2.1.2.1 pc = .ok ((.istore n), len)) (hch : xchk E (pc, (.istore n), len, tg, cst) = true)
    (h : xstep (MW G d) E Q (pc, (.istore n), len, tg, cst) r lv st μ k) : WS G E (d + 1) (p, e, s, m, args, below, meth, c, R, nc, ns, QS, A) Q pc lv st μ := by
  intro hG hC hY H locs ls hP hS hl hlo hso
  obtain ⟨hx, hb, hr, hml, hown, hts, hK, hlocks⟩ := id hC
  have hD := xD_wld hG hY.2.1 μ
  have htw : ∀ w, xin w → w.before args s = true := fun w hw => hts w (List.mem_cons_of_mem _ (xin_gw hw))
  simp only [xchk, decide_eq_true_eq] at hch
  obtain ⟨hlen, hi, hlt⟩ := hch
  subst hlen
  subst hi
  obtain ⟨x, s1, rfl, hh⟩ := xpI_ex (show xpI st _ from h)
  clear h
  have h := hh
  clear hh
  exact xw_istore hx hb hl hlt hdec (fun ls' hl' => kN _ _ _ h hG hC hY H locs ls' hP hS hl' (xlok_set (xlok_clr hlo _) _ trivial) hso.2)
set_option maxHeartbeats 1000000 in
theorem xso_lstore_n {G : xG} {E : xE} {d : Nat} {Q : xP} {pc len : Nat} {tg : List Nat} {cst : xV} {r : List xT} {lv st : List xV} {μ : xM} {k : xK} {p : Program} {e : Env} {s : State} {m : MethodId} {args : Array Value} {below : List Frame} {meth : Method} {c : Code} {R : Room} {nc ns : Nat} {QS : State → Prop} {A : Nat → Prop} (n : Fin 4) (hE : xEok E)
    (kN : ∀ lv st μ, k r lv st μ → WS G E (d + 1) (p, e, s, m, args, below, meth, c, R, nc, ns, QS, A) Q (pc + len) lv st μ)
    (kJ : ∀ t e' r', E.2.2.1.drop t = e' :: r' → ∀ lv st μ, k (E.2.2.1.drop t) lv st μ → WS G E (d + 1) (p, e, s, m, args, below, meth, c, R, nc, ns, QS, A) Q e'.1 lv st μ)
    (hdec : decode E.2.1.2.1 pc = .ok ((.lstore_n n), len)) (hch : xchk E (pc, (.lstore_n n), len, tg, cst) = true)
    (h : xstep (MW G d) E Q (pc, (.lstore_n n), len, tg, cst) r lv st μ k) : WS G E (d + 1) (p, e, s, m, args, below, meth, c, R, nc, ns, QS, A) Q pc lv st μ := by
  intro hG hC hY H locs ls hP hS hl hlo hso
  obtain ⟨hx, hb, hr, hml, hown, hts, hK, hlocks⟩ := id hC
  have hD := xD_wld hG hY.2.1 μ
  have htw : ∀ w, xin w → w.before args s = true := fun w hw => hts w (List.mem_cons_of_mem _ (xin_gw hw))
  simp only [xchk, decide_eq_true_eq] at hch
  obtain ⟨hlen, hi, hlt⟩ := hch
  subst hlen
  
  obtain ⟨x, s1, rfl, hh⟩ := xpL_ex (show xpL st _ from h)
  clear h
  have h := hh
  clear hh
  exact xw_lstore_n hx hb hl hlt hdec hi (fun ls' hl' => kN _ _ _ h hG hC hY H locs ls' hP hS hl' (xlok_set (xlok_set (xlok_clr hlo _) _ (v := vN) trivial) _ trivial) hso.2)
set_option maxHeartbeats 1000000 in
theorem xso_lstore {G : xG} {E : xE} {d : Nat} {Q : xP} {pc len : Nat} {tg : List Nat} {cst : xV} {r : List xT} {lv st : List xV} {μ : xM} {k : xK} {p : Program} {e : Env} {s : State} {m : MethodId} {args : Array Value} {below : List Frame} {meth : Method} {c : Code} {R : Room} {nc ns : Nat} {QS : State → Prop} {A : Nat → Prop} (n : Nat) (hE : xEok E)
    (kN : ∀ lv st μ, k r lv st μ → WS G E (d + 1) (p, e, s, m, args, below, meth, c, R, nc, ns, QS, A) Q (pc + len) lv st μ)
    (kJ : ∀ t e' r', E.2.2.1.drop t = e' :: r' → ∀ lv st μ, k (E.2.2.1.drop t) lv st μ → WS G E (d + 1) (p, e, s, m, args, below, meth, c, R, nc, ns, QS, A) Q e'.1 lv st μ)
    (hdec : decode E.2.1.2.1 pc = .ok ((.lstore n), len)) (hch : xchk E (pc, (.lstore n), len, tg, cst) = true)
    (h : xstep (MW G d) E Q (pc, (.lstore n), len, tg, cst) r lv st μ k) : WS G E (d + 1) (p, e, s, m, args, below, meth, c, R, nc, ns, QS, A) Q pc lv st μ := by
  intro hG hC hY H locs ls hP hS hl hlo hso
  obtain ⟨hx, hb, hr, hml, hown, hts, hK, hlocks⟩ := id hC
  have hD := xD_wld hG hY.2.1 μ
  have htw : ∀ w, xin w → w.before args s = true := fun w hw => hts w (List.mem_cons_of_mem _ (xin_gw hw))
  simp only [xchk, decide_eq_true_eq] at hch
  obtain ⟨hlen, hi, hlt⟩ := hch
  subst hlen
  subst hi
  obtain ⟨x, s1, rfl, hh⟩ := xpL_ex (show xpL st _ from h)
  clear h
  have h := hh
  clear hh
  exact xw_lstore hx hb hl hlt hdec (fun ls' hl' => kN _ _ _ h hG hC hY H locs ls' hP hS hl' (xlok_set (xlok_set (xlok_clr hlo _) _ (v := vN) trivial) _ trivial) hso.2)
set_option maxHeartbeats 1000000 in
theorem xso_astore_n {G : xG} {E : xE} {d : Nat} {Q : xP} {pc len : Nat} {tg : List Nat} {cst : xV} {r : List xT} {lv st : List xV} {μ : xM} {k : xK} {p : Program} {e : Env} {s : State} {m : MethodId} {args : Array Value} {below : List Frame} {meth : Method} {c : Code} {R : Room} {nc ns : Nat} {QS : State → Prop} {A : Nat → Prop} (n : Fin 4) (hE : xEok E)
    (kN : ∀ lv st μ, k r lv st μ → WS G E (d + 1) (p, e, s, m, args, below, meth, c, R, nc, ns, QS, A) Q (pc + len) lv st μ)
    (kJ : ∀ t e' r', E.2.2.1.drop t = e' :: r' → ∀ lv st μ, k (E.2.2.1.drop t) lv st μ → WS G E (d + 1) (p, e, s, m, args, below, meth, c, R, nc, ns, QS, A) Q e'.1 lv st μ)
    (hdec : decode E.2.1.2.1 pc = .ok ((.astore_n n), len)) (hch : xchk E (pc, (.astore_n n), len, tg, cst) = true)
    (h : xstep (MW G d) E Q (pc, (.astore_n n), len, tg, cst) r lv st μ k) : WS G E (d + 1) (p, e, s, m, args, below, meth, c, R, nc, ns, QS, A) Q pc lv st μ := by
  intro hG hC hY H locs ls hP hS hl hlo hso
  obtain ⟨hx, hb, hr, hml, hown, hts, hK, hlocks⟩ := id hC
  have hD := xD_wld hG hY.2.1 μ
  have htw : ∀ w, xin w → w.before args s = true := fun w hw => hts w (List.mem_cons_of_mem _ (xin_gw hw))
  simp only [xchk, decide_eq_true_eq] at hch
  obtain ⟨hlen, hi, hlt⟩ := hch
  subst hlen
  
  obtain ⟨x, s1, rfl, hh⟩ := xpR_ex (show xpR st _ from h)
  clear h
  have h := hh
  clear hh
  exact xw_astore_n hx hb hl hlt hdec hi (fun ls' hl' => kN _ _ _ h hG hC hY H locs ls' hP hS hl' (xlok_set (xlok_clr hlo _) _ hso.1) hso.2)
set_option maxHeartbeats 1000000 in
theorem xso_astore {G : xG} {E : xE} {d : Nat} {Q : xP} {pc len : Nat} {tg : List Nat} {cst : xV} {r : List xT} {lv st : List xV} {μ : xM} {k : xK} {p : Program} {e : Env} {s : State} {m : MethodId} {args : Array Value} {below : List Frame} {meth : Method} {c : Code} {R : Room} {nc ns : Nat} {QS : State → Prop} {A : Nat → Prop} (n : Nat) (hE : xEok E)
    (kN : ∀ lv st μ, k r lv st μ → WS G E (d + 1) (p, e, s, m, args, below, meth, c, R, nc, ns, QS, A) Q (pc + len) lv st μ)
    (kJ : ∀ t e' r', E.2.2.1.drop t = e' :: r' → ∀ lv st μ, k (E.2.2.1.drop t) lv st μ → WS G E (d + 1) (p, e, s, m, args, below, meth, c, R, nc, ns, QS, A) Q e'.1 lv st μ)
    (hdec : decode E.2.1.2.1 pc = .ok ((.astore n), len)) (hch : xchk E (pc, (.astore n), len, tg, cst) = true)
    (h : xstep (MW G d) E Q (pc, (.astore n), len, tg, cst) r lv st μ k) : WS G E (d + 1) (p, e, s, m, args, below, meth, c, R, nc, ns, QS, A) Q pc lv st μ := by
  intro hG hC hY H locs ls hP hS hl hlo hso
  obtain ⟨hx, hb, hr, hml, hown, hts, hK, hlocks⟩ := id hC
  have hD := xD_wld hG hY.2.1 μ
  have htw : ∀ w, xin w → w.before args s = true := fun w hw => hts w (List.mem_cons_of_mem _ (xin_gw hw))
  simp only [xchk, decide_eq_true_eq] at hch
  obtain ⟨hlen, hi, hlt⟩ := hch
  subst hlen
  subst hi
  obtain ⟨x, s1, rfl, hh⟩ := xpR_ex (show xpR st _ from h)
  clear h
  have h := hh
  clear hh
  exact xw_astore hx hb hl hlt hdec (fun ls' hl' => kN _ _ _ h hG hC hY H locs ls' hP hS hl' (xlok_set (xlok_clr hlo _) _ hso.1) hso.2)
set_option maxHeartbeats 1000000 in
theorem xso_iconst {G : xG} {E : xE} {d : Nat} {Q : xP} {pc len : Nat} {tg : List Nat} {cst : xV} {r : List xT} {lv st : List xV} {μ : xM} {k : xK} {p : Program} {e : Env} {s : State} {m : MethodId} {args : Array Value} {below : List Frame} {meth : Method} {c : Code} {R : Room} {nc ns : Nat} {QS : State → Prop} {A : Nat → Prop} (n : Int) (hE : xEok E)
    (kN : ∀ lv st μ, k r lv st μ → WS G E (d + 1) (p, e, s, m, args, below, meth, c, R, nc, ns, QS, A) Q (pc + len) lv st μ)
    (kJ : ∀ t e' r', E.2.2.1.drop t = e' :: r' → ∀ lv st μ, k (E.2.2.1.drop t) lv st μ → WS G E (d + 1) (p, e, s, m, args, below, meth, c, R, nc, ns, QS, A) Q e'.1 lv st μ)
    (hdec : decode E.2.1.2.1 pc = .ok ((.iconst n), len)) (hch : xchk E (pc, (.iconst n), len, tg, cst) = true)
    (h : xstep (MW G d) E Q (pc, (.iconst n), len, tg, cst) r lv st μ k) : WS G E (d + 1) (p, e, s, m, args, below, meth, c, R, nc, ns, QS, A) Q pc lv st μ := by
  intro hG hC hY H locs ls hP hS hl hlo hso
  obtain ⟨hx, hb, hr, hml, hown, hts, hK, hlocks⟩ := id hC
  have hD := xD_wld hG hY.2.1 μ
  have htw : ∀ w, xin w → w.before args s = true := fun w hw => hts w (List.mem_cons_of_mem _ (xin_gw hw))
  simp only [xchk, Bool.and_eq_true, decide_eq_true_eq] at hch
  obtain ⟨hlen, hc⟩ := hch
  subst hlen
  obtain ⟨x, rfl, hh⟩ := xcI_ex (show xcI cst _ from h)
  clear h
  have h := hh
  clear hh
  exact lv_iconst hx hb hdec (of_decide_eq_true (show decide (Int32.ofInt n = x) = true from hc)) (kN _ _ _ h hG hC hY H locs ls hP hS hl hlo ⟨trivial, hso⟩)
set_option maxHeartbeats 1000000 in
theorem xso_bipush {G : xG} {E : xE} {d : Nat} {Q : xP} {pc len : Nat} {tg : List Nat} {cst : xV} {r : List xT} {lv st : List xV} {μ : xM} {k : xK} {p : Program} {e : Env} {s : State} {m : MethodId} {args : Array Value} {below : List Frame} {meth : Method} {c : Code} {R : Room} {nc ns : Nat} {QS : State → Prop} {A : Nat → Prop} (n : Int) (hE : xEok E)
    (kN : ∀ lv st μ, k r lv st μ → WS G E (d + 1) (p, e, s, m, args, below, meth, c, R, nc, ns, QS, A) Q (pc + len) lv st μ)
    (kJ : ∀ t e' r', E.2.2.1.drop t = e' :: r' → ∀ lv st μ, k (E.2.2.1.drop t) lv st μ → WS G E (d + 1) (p, e, s, m, args, below, meth, c, R, nc, ns, QS, A) Q e'.1 lv st μ)
    (hdec : decode E.2.1.2.1 pc = .ok ((.bipush n), len)) (hch : xchk E (pc, (.bipush n), len, tg, cst) = true)
    (h : xstep (MW G d) E Q (pc, (.bipush n), len, tg, cst) r lv st μ k) : WS G E (d + 1) (p, e, s, m, args, below, meth, c, R, nc, ns, QS, A) Q pc lv st μ := by
  intro hG hC hY H locs ls hP hS hl hlo hso
  obtain ⟨hx, hb, hr, hml, hown, hts, hK, hlocks⟩ := id hC
  have hD := xD_wld hG hY.2.1 μ
  have htw : ∀ w, xin w → w.before args s = true := fun w hw => hts w (List.mem_cons_of_mem _ (xin_gw hw))
  simp only [xchk, Bool.and_eq_true, decide_eq_true_eq] at hch
  obtain ⟨hlen, hc⟩ := hch
  subst hlen
  obtain ⟨x, rfl, hh⟩ := xcI_ex (show xcI cst _ from h)
  clear h
  have h := hh
  clear hh
  exact lv_bipush hx hb hdec (of_decide_eq_true (show decide ((Int8.ofInt n).toInt32 = x) = true from hc)) (kN _ _ _ h hG hC hY H locs ls hP hS hl hlo ⟨trivial, hso⟩)
set_option maxHeartbeats 1000000 in
theorem xso_sipush {G : xG} {E : xE} {d : Nat} {Q : xP} {pc len : Nat} {tg : List Nat} {cst : xV} {r : List xT} {lv st : List xV} {μ : xM} {k : xK} {p : Program} {e : Env} {s : State} {m : MethodId} {args : Array Value} {below : List Frame} {meth : Method} {c : Code} {R : Room} {nc ns : Nat} {QS : State → Prop} {A : Nat → Prop} (n : Int) (hE : xEok E)
    (kN : ∀ lv st μ, k r lv st μ → WS G E (d + 1) (p, e, s, m, args, below, meth, c, R, nc, ns, QS, A) Q (pc + len) lv st μ)
    (kJ : ∀ t e' r', E.2.2.1.drop t = e' :: r' → ∀ lv st μ, k (E.2.2.1.drop t) lv st μ → WS G E (d + 1) (p, e, s, m, args, below, meth, c, R, nc, ns, QS, A) Q e'.1 lv st μ)
    (hdec : decode E.2.1.2.1 pc = .ok ((.sipush n), len)) (hch : xchk E (pc, (.sipush n), len, tg, cst) = true)
    (h : xstep (MW G d) E Q (pc, (.sipush n), len, tg, cst) r lv st μ k) : WS G E (d + 1) (p, e, s, m, args, below, meth, c, R, nc, ns, QS, A) Q pc lv st μ := by
  intro hG hC hY H locs ls hP hS hl hlo hso
  obtain ⟨hx, hb, hr, hml, hown, hts, hK, hlocks⟩ := id hC
  have hD := xD_wld hG hY.2.1 μ
  have htw : ∀ w, xin w → w.before args s = true := fun w hw => hts w (List.mem_cons_of_mem _ (xin_gw hw))
  simp only [xchk, Bool.and_eq_true, decide_eq_true_eq] at hch
  obtain ⟨hlen, hc⟩ := hch
  subst hlen
  obtain ⟨x, rfl, hh⟩ := xcI_ex (show xcI cst _ from h)
  clear h
  have h := hh
  clear hh
  exact lv_sipush hx hb hdec (of_decide_eq_true (show decide ((Int16.ofInt n).toInt32 = x) = true from hc)) (kN _ _ _ h hG hC hY H locs ls hP hS hl hlo ⟨trivial, hso⟩)
set_option maxHeartbeats 1000000 in
theorem xso_lconst {G : xG} {E : xE} {d : Nat} {Q : xP} {pc len : Nat} {tg : List Nat} {cst : xV} {r : List xT} {lv st : List xV} {μ : xM} {k : xK} {p : Program} {e : Env} {s : State} {m : MethodId} {args : Array Value} {below : List Frame} {meth : Method} {c : Code} {R : Room} {nc ns : Nat} {QS : State → Prop} {A : Nat → Prop} (n : Fin 2) (hE : xEok E)
    (kN : ∀ lv st μ, k r lv st μ → WS G E (d + 1) (p, e, s, m, args, below, meth, c, R, nc, ns, QS, A) Q (pc + len) lv st μ)
    (kJ : ∀ t e' r', E.2.2.1.drop t = e' :: r' → ∀ lv st μ, k (E.2.2.1.drop t) lv st μ → WS G E (d + 1) (p, e, s, m, args, below, meth, c, R, nc, ns, QS, A) Q e'.1 lv st μ)
    (hdec : decode E.2.1.2.1 pc = .ok ((.lconst n), len)) (hch : xchk E (pc, (.lconst n), len, tg, cst) = true)
    (h : xstep (MW G d) E Q (pc, (.lconst n), len, tg, cst) r lv st μ k) : WS G E (d + 1) (p, e, s, m, args, below, meth, c, R, nc, ns, QS, A) Q pc lv st μ := by
  intro hG hC hY H locs ls hP hS hl hlo hso
  obtain ⟨hx, hb, hr, hml, hown, hts, hK, hlocks⟩ := id hC
  have hD := xD_wld hG hY.2.1 μ
  have htw : ∀ w, xin w → w.before args s = true := fun w hw => hts w (List.mem_cons_of_mem _ (xin_gw hw))
  simp only [xchk, Bool.and_eq_true, decide_eq_true_eq] at hch
  obtain ⟨hlen, hc⟩ := hch
  subst hlen
  obtain ⟨x, rfl, hh⟩ := xcL_ex (show xcL cst _ from h)
  clear h
  have h := hh
  clear hh
  exact lv_lconst hx hb hdec (of_decide_eq_true (show decide (Int64.ofNat n.val = x) = true from hc)) (kN _ _ _ h hG hC hY H locs ls hP hS hl hlo ⟨trivial, hso⟩)
set_option maxHeartbeats 1000000 in
theorem xso_ldc {G : xG} {E : xE} {d : Nat} {Q : xP} {pc len : Nat} {tg : List Nat} {cst : xV} {r : List xT} {lv st : List xV} {μ : xM} {k : xK} {p : Program} {e : Env} {s : State} {m : MethodId} {args : Array Value} {below : List Frame} {meth : Method} {c : Code} {R : Room} {nc ns : Nat} {QS : State → Prop} {A : Nat → Prop} (n : Nat) (hE : xEok E)
    (kN : ∀ lv st μ, k r lv st μ → WS G E (d + 1) (p, e, s, m, args, below, meth, c, R, nc, ns, QS, A) Q (pc + len) lv st μ)
    (kJ : ∀ t e' r', E.2.2.1.drop t = e' :: r' → ∀ lv st μ, k (E.2.2.1.drop t) lv st μ → WS G E (d + 1) (p, e, s, m, args, below, meth, c, R, nc, ns, QS, A) Q e'.1 lv st μ)
    (hdec : decode E.2.1.2.1 pc = .ok ((.ldc n), len)) (hch : xchk E (pc, (.ldc n), len, tg, cst) = true)
    (h : xstep (MW G d) E Q (pc, (.ldc n), len, tg, cst) r lv st μ k) : WS G E (d + 1) (p, e, s, m, args, below, meth, c, R, nc, ns, QS, A) Q pc lv st μ := by
  intro hG hC hY H locs ls hP hS hl hlo hso
  obtain ⟨hx, hb, hr, hml, hown, hts, hK, hlocks⟩ := id hC
  have hD := xD_wld hG hY.2.1 μ
  have htw : ∀ w, xin w → w.before args s = true := fun w hw => hts w (List.mem_cons_of_mem _ (xin_gw hw))
  simp only [xchk, Bool.and_eq_true, decide_eq_true_eq] at hch
  obtain ⟨hlen, hc⟩ := hch
  subst hlen
  obtain ⟨q, hq, eq⟩ := List.any_eq_true.mp hc
  have eq := of_decide_eq_true eq
  obtain ⟨x, rfl, hh⟩ := xcI_ex (show xcI cst _ from h)
  clear h
  have h := hh
  clear hh
  have hF := hE.2.2.2.1.2.2.2.1 q hq
  subst eq
  exact lv_ldc hx hb hown (htw _ hF) hdec (kN _ _ _ h hG hC hY H locs ls hP hS hl hlo ⟨trivial, hso⟩)
set_option maxHeartbeats 1000000 in
theorem xso_ldc_w {G : xG} {E : xE} {d : Nat} {Q : xP} {pc len : Nat} {tg : List Nat} {cst : xV} {r : List xT} {lv st : List xV} {μ : xM} {k : xK} {p : Program} {e : Env} {s : State} {m : MethodId} {args : Array Value} {below : List Frame} {meth : Method} {c : Code} {R : Room} {nc ns : Nat} {QS : State → Prop} {A : Nat → Prop} (n : Nat) (hE : xEok E)
    (kN : ∀ lv st μ, k r lv st μ → WS G E (d + 1) (p, e, s, m, args, below, meth, c, R, nc, ns, QS, A) Q (pc + len) lv st μ)
    (kJ : ∀ t e' r', E.2.2.1.drop t = e' :: r' → ∀ lv st μ, k (E.2.2.1.drop t) lv st μ → WS G E (d + 1) (p, e, s, m, args, below, meth, c, R, nc, ns, QS, A) Q e'.1 lv st μ)
    (hdec : decode E.2.1.2.1 pc = .ok ((.ldc_w n), len)) (hch : xchk E (pc, (.ldc_w n), len, tg, cst) = true)
    (h : xstep (MW G d) E Q (pc, (.ldc_w n), len, tg, cst) r lv st μ k) : WS G E (d + 1) (p, e, s, m, args, below, meth, c, R, nc, ns, QS, A) Q pc lv st μ := by
  intro hG hC hY H locs ls hP hS hl hlo hso
  obtain ⟨hx, hb, hr, hml, hown, hts, hK, hlocks⟩ := id hC
  have hD := xD_wld hG hY.2.1 μ
  have htw : ∀ w, xin w → w.before args s = true := fun w hw => hts w (List.mem_cons_of_mem _ (xin_gw hw))
  simp only [xchk, Bool.and_eq_true, decide_eq_true_eq] at hch
  obtain ⟨hlen, hc⟩ := hch
  subst hlen
  obtain ⟨q, hq, eq⟩ := List.any_eq_true.mp hc
  have eq := of_decide_eq_true eq
  obtain ⟨x, rfl, hh⟩ := xcI_ex (show xcI cst _ from h)
  clear h
  have h := hh
  clear hh
  have hF := hE.2.2.2.1.2.2.2.1 q hq
  subst eq
  exact lv_ldcw hx hb hown (htw _ hF) hdec (kN _ _ _ h hG hC hY H locs ls hP hS hl hlo ⟨trivial, hso⟩)
set_option maxHeartbeats 1000000 in
theorem xso_ldc2_w {G : xG} {E : xE} {d : Nat} {Q : xP} {pc len : Nat} {tg : List Nat} {cst : xV} {r : List xT} {lv st : List xV} {μ : xM} {k : xK} {p : Program} {e : Env} {s : State} {m : MethodId} {args : Array Value} {below : List Frame} {meth : Method} {c : Code} {R : Room} {nc ns : Nat} {QS : State → Prop} {A : Nat → Prop} (n : Nat) (hE : xEok E)
    (kN : ∀ lv st μ, k r lv st μ → WS G E (d + 1) (p, e, s, m, args, below, meth, c, R, nc, ns, QS, A) Q (pc + len) lv st μ)
    (kJ : ∀ t e' r', E.2.2.1.drop t = e' :: r' → ∀ lv st μ, k (E.2.2.1.drop t) lv st μ → WS G E (d + 1) (p, e, s, m, args, below, meth, c, R, nc, ns, QS, A) Q e'.1 lv st μ)
    (hdec : decode E.2.1.2.1 pc = .ok ((.ldc2_w n), len)) (hch : xchk E (pc, (.ldc2_w n), len, tg, cst) = true)
    (h : xstep (MW G d) E Q (pc, (.ldc2_w n), len, tg, cst) r lv st μ k) : WS G E (d + 1) (p, e, s, m, args, below, meth, c, R, nc, ns, QS, A) Q pc lv st μ := by
  intro hG hC hY H locs ls hP hS hl hlo hso
  obtain ⟨hx, hb, hr, hml, hown, hts, hK, hlocks⟩ := id hC
  have hD := xD_wld hG hY.2.1 μ
  have htw : ∀ w, xin w → w.before args s = true := fun w hw => hts w (List.mem_cons_of_mem _ (xin_gw hw))
  simp only [xchk, Bool.and_eq_true, decide_eq_true_eq] at hch
  obtain ⟨hlen, hc⟩ := hch
  subst hlen
  obtain ⟨q, hq, eq⟩ := List.any_eq_true.mp hc
  have eq := of_decide_eq_true eq
  obtain ⟨x, rfl, hh⟩ := xcL_ex (show xcL cst _ from h)
  clear h
  have h := hh
  clear hh
  have hF := hE.2.2.2.1.2.2.2.1 q hq
  subst eq
  exact lv_ldc2 hx hb hown (htw _ hF) hdec (kN _ _ _ h hG hC hY H locs ls hP hS hl hlo ⟨trivial, hso⟩)
set_option maxHeartbeats 1000000 in
theorem xso_aconst_null {G : xG} {E : xE} {d : Nat} {Q : xP} {pc len : Nat} {tg : List Nat} {cst : xV} {r : List xT} {lv st : List xV} {μ : xM} {k : xK} {p : Program} {e : Env} {s : State} {m : MethodId} {args : Array Value} {below : List Frame} {meth : Method} {c : Code} {R : Room} {nc ns : Nat} {QS : State → Prop} {A : Nat → Prop} (hE : xEok E)
    (kN : ∀ lv st μ, k r lv st μ → WS G E (d + 1) (p, e, s, m, args, below, meth, c, R, nc, ns, QS, A) Q (pc + len) lv st μ)
    (kJ : ∀ t e' r', E.2.2.1.drop t = e' :: r' → ∀ lv st μ, k (E.2.2.1.drop t) lv st μ → WS G E (d + 1) (p, e, s, m, args, below, meth, c, R, nc, ns, QS, A) Q e'.1 lv st μ)
    (hdec : decode E.2.1.2.1 pc = .ok ((.aconst_null), len)) (hch : xchk E (pc, (.aconst_null), len, tg, cst) = true)
    (h : xstep (MW G d) E Q (pc, (.aconst_null), len, tg, cst) r lv st μ k) : WS G E (d + 1) (p, e, s, m, args, below, meth, c, R, nc, ns, QS, A) Q pc lv st μ := by
  intro hG hC hY H locs ls hP hS hl hlo hso
  obtain ⟨hx, hb, hr, hml, hown, hts, hK, hlocks⟩ := id hC
  have hD := xD_wld hG hY.2.1 μ
  have htw : ∀ w, xin w → w.before args s = true := fun w hw => hts w (List.mem_cons_of_mem _ (xin_gw hw))
  simp only [xchk, decide_eq_true_eq] at hch
  subst hch
  exact lv_null hx hb hdec (kN _ _ _ h hG hC hY H locs ls hP hS hl hlo ⟨trivial, hso⟩)
set_option maxHeartbeats 1000000 in
theorem xso_iadd {G : xG} {E : xE} {d : Nat} {Q : xP} {pc len : Nat} {tg : List Nat} {cst : xV} {r : List xT} {lv st : List xV} {μ : xM} {k : xK} {p : Program} {e : Env} {s : State} {m : MethodId} {args : Array Value} {below : List Frame} {meth : Method} {c : Code} {R : Room} {nc ns : Nat} {QS : State → Prop} {A : Nat → Prop} (hE : xEok E)
    (kN : ∀ lv st μ, k r lv st μ → WS G E (d + 1) (p, e, s, m, args, below, meth, c, R, nc, ns, QS, A) Q (pc + len) lv st μ)
    (kJ : ∀ t e' r', E.2.2.1.drop t = e' :: r' → ∀ lv st μ, k (E.2.2.1.drop t) lv st μ → WS G E (d + 1) (p, e, s, m, args, below, meth, c, R, nc, ns, QS, A) Q e'.1 lv st μ)
    (hdec : decode E.2.1.2.1 pc = .ok ((.iadd), len)) (hch : xchk E (pc, (.iadd), len, tg, cst) = true)
    (h : xstep (MW G d) E Q (pc, (.iadd), len, tg, cst) r lv st μ k) : WS G E (d + 1) (p, e, s, m, args, below, meth, c, R, nc, ns, QS, A) Q pc lv st μ := by
  intro hG hC hY H locs ls hP hS hl hlo hso
  obtain ⟨hx, hb, hr, hml, hown, hts, hK, hlocks⟩ := id hC
  have hD := xD_wld hG hY.2.1 μ
  have htw : ∀ w, xin w → w.before args s = true := fun w hw => hts w (List.mem_cons_of_mem _ (xin_gw hw))
  simp only [xchk, decide_eq_true_eq] at hch
  subst hch
  obtain ⟨y, s1, rfl, hh⟩ := xpI_ex (show xpI st _ from h)
  clear h
  have h := hh
  clear hh
  obtain ⟨x, s2, rfl, hh⟩ := xpI_ex h
  clear h
  have h := hh
  clear hh
  exact lv_iadd hx hb hdec (kN _ _ _ h hG hC hY H locs ls hP hS hl hlo ⟨trivial, hso.2.2⟩)
set_option maxHeartbeats 1000000 in
theorem xso_isub {G : xG} {E : xE} {d : Nat} {Q : xP} {pc len : Nat} {tg : List Nat} {cst : xV} {r : List xT} {lv st : List xV} {μ : xM} {k : xK} {p : Program} {e : Env} {s : State} {m : MethodId} {args : Array Value} {below : List Frame} {meth : Method} {c : Code} {R : Room} {nc ns : Nat} {QS : State → Prop} {A : Nat → Prop} (hE : xEok E)
    (kN : ∀ lv st μ, k r lv st μ → WS G E (d + 1) (p, e, s, m, args, below, meth, c, R, nc, ns, QS, A) Q (pc + len) lv st μ)
    (kJ : ∀ t e' r', E.2.2.1.drop t = e' :: r' → ∀ lv st μ, k (E.2.2.1.drop t) lv st μ → WS G E (d + 1) (p, e, s, m, args, below, meth, c, R, nc, ns, QS, A) Q e'.1 lv st μ)
    (hdec : decode E.2.1.2.1 pc = .ok ((.isub), len)) (hch : xchk E (pc, (.isub), len, tg, cst) = true)
    (h : xstep (MW G d) E Q (pc, (.isub), len, tg, cst) r lv st μ k) : WS G E (d + 1) (p, e, s, m, args, below, meth, c, R, nc, ns, QS, A) Q pc lv st μ := by
  intro hG hC hY H locs ls hP hS hl hlo hso
  obtain ⟨hx, hb, hr, hml, hown, hts, hK, hlocks⟩ := id hC
  have hD := xD_wld hG hY.2.1 μ
  have htw : ∀ w, xin w → w.before args s = true := fun w hw => hts w (List.mem_cons_of_mem _ (xin_gw hw))
  simp only [xchk, decide_eq_true_eq] at hch
  subst hch
  obtain ⟨y, s1, rfl, hh⟩ := xpI_ex (show xpI st _ from h)
  clear h
  have h := hh
  clear hh
  obtain ⟨x, s2, rfl, hh⟩ := xpI_ex h
  clear h
  have h := hh
  clear hh
  exact lv_isub hx hb hdec (kN _ _ _ h hG hC hY H locs ls hP hS hl hlo ⟨trivial, hso.2.2⟩)
set_option maxHeartbeats 1000000 in
theorem xso_imul {G : xG} {E : xE} {d : Nat} {Q : xP} {pc len : Nat} {tg : List Nat} {cst : xV} {r : List xT} {lv st : List xV} {μ : xM} {k : xK} {p : Program} {e : Env} {s : State} {m : MethodId} {args : Array Value} {below : List Frame} {meth : Method} {c : Code} {R : Room} {nc ns : Nat} {QS : State → Prop} {A : Nat → Prop} (hE : xEok E)
    (kN : ∀ lv st μ, k r lv st μ → WS G E (d + 1) (p, e, s, m, args, below, meth, c, R, nc, ns, QS, A) Q (pc + len) lv st μ)
    (kJ : ∀ t e' r', E.2.2.1.drop t = e' :: r' → ∀ lv st μ, k (E.2.2.1.drop t) lv st μ → WS G E (d + 1) (p, e, s, m, args, below, meth, c, R, nc, ns, QS, A) Q e'.1 lv st μ)
    (hdec : decode E.2.1.2.1 pc = .ok ((.imul), len)) (hch : xchk E (pc, (.imul), len, tg, cst) = true)
    (h : xstep (MW G d) E Q (pc, (.imul), len, tg, cst) r lv st μ k) : WS G E (d + 1) (p, e, s, m, args, below, meth, c, R, nc, ns, QS, A) Q pc lv st μ := by
  intro hG hC hY H locs ls hP hS hl hlo hso
  obtain ⟨hx, hb, hr, hml, hown, hts, hK, hlocks⟩ := id hC
  have hD := xD_wld hG hY.2.1 μ
  have htw : ∀ w, xin w → w.before args s = true := fun w hw => hts w (List.mem_cons_of_mem _ (xin_gw hw))
  simp only [xchk, decide_eq_true_eq] at hch
  subst hch
  obtain ⟨y, s1, rfl, hh⟩ := xpI_ex (show xpI st _ from h)
  clear h
  have h := hh
  clear hh
  obtain ⟨x, s2, rfl, hh⟩ := xpI_ex h
  clear h
  have h := hh
  clear hh
  exact lv_imul hx hb hdec (kN _ _ _ h hG hC hY H locs ls hP hS hl hlo ⟨trivial, hso.2.2⟩)
set_option maxHeartbeats 1000000 in
theorem xso_iand {G : xG} {E : xE} {d : Nat} {Q : xP} {pc len : Nat} {tg : List Nat} {cst : xV} {r : List xT} {lv st : List xV} {μ : xM} {k : xK} {p : Program} {e : Env} {s : State} {m : MethodId} {args : Array Value} {below : List Frame} {meth : Method} {c : Code} {R : Room} {nc ns : Nat} {QS : State → Prop} {A : Nat → Prop} (hE : xEok E)
    (kN : ∀ lv st μ, k r lv st μ → WS G E (d + 1) (p, e, s, m, args, below, meth, c, R, nc, ns, QS, A) Q (pc + len) lv st μ)
    (kJ : ∀ t e' r', E.2.2.1.drop t = e' :: r' → ∀ lv st μ, k (E.2.2.1.drop t) lv st μ → WS G E (d + 1) (p, e, s, m, args, below, meth, c, R, nc, ns, QS, A) Q e'.1 lv st μ)
    (hdec : decode E.2.1.2.1 pc = .ok ((.iand), len)) (hch : xchk E (pc, (.iand), len, tg, cst) = true)
    (h : xstep (MW G d) E Q (pc, (.iand), len, tg, cst) r lv st μ k) : WS G E (d + 1) (p, e, s, m, args, below, meth, c, R, nc, ns, QS, A) Q pc lv st μ := by
  intro hG hC hY H locs ls hP hS hl hlo hso
  obtain ⟨hx, hb, hr, hml, hown, hts, hK, hlocks⟩ := id hC
  have hD := xD_wld hG hY.2.1 μ
  have htw : ∀ w, xin w → w.before args s = true := fun w hw => hts w (List.mem_cons_of_mem _ (xin_gw hw))
  simp only [xchk, decide_eq_true_eq] at hch
  subst hch
  obtain ⟨y, s1, rfl, hh⟩ := xpI_ex (show xpI st _ from h)
  clear h
  have h := hh
  clear hh
  obtain ⟨x, s2, rfl, hh⟩ := xpI_ex h
  clear h
  have h := hh
  clear hh
  exact lv_iand hx hb hdec (kN _ _ _ h hG hC hY H locs ls hP hS hl hlo ⟨trivial, hso.2.2⟩)
set_option maxHeartbeats 1000000 in
theorem xso_ior {G : xG} {E : xE} {d : Nat} {Q : xP} {pc len : Nat} {tg : List Nat} {cst : xV} {r : List xT} {lv st : List xV} {μ : xM} {k : xK} {p : Program} {e : Env} {s : State} {m : MethodId} {args : Array Value} {below : List Frame} {meth : Method} {c : Code} {R : Room} {nc ns : Nat} {QS : State → Prop} {A : Nat → Prop} (hE : xEok E)
    (kN : ∀ lv st μ, k r lv st μ → WS G E (d + 1) (p, e, s, m, args, below, meth, c, R, nc, ns, QS, A) Q (pc + len) lv st μ)
    (kJ : ∀ t e' r', E.2.2.1.drop t = e' :: r' → ∀ lv st μ, k (E.2.2.1.drop t) lv st μ → WS G E (d + 1) (p, e, s, m, args, below, meth, c, R, nc, ns, QS, A) Q e'.1 lv st μ)
    (hdec : decode E.2.1.2.1 pc = .ok ((.ior), len)) (hch : xchk E (pc, (.ior), len, tg, cst) = true)
    (h : xstep (MW G d) E Q (pc, (.ior), len, tg, cst) r lv st μ k) : WS G E (d + 1) (p, e, s, m, args, below, meth, c, R, nc, ns, QS, A) Q pc lv st μ := by
  intro hG hC hY H locs ls hP hS hl hlo hso
  obtain ⟨hx, hb, hr, hml, hown, hts, hK, hlocks⟩ := id hC
  have hD := xD_wld hG hY.2.1 μ
  have htw : ∀ w, xin w → w.before args s = true := fun w hw => hts w (List.mem_cons_of_mem _ (xin_gw hw))
  simp only [xchk, decide_eq_true_eq] at hch
  subst hch
  obtain ⟨y, s1, rfl, hh⟩ := xpI_ex (show xpI st _ from h)
  clear h
  have h := hh
  clear hh
  obtain ⟨x, s2, rfl, hh⟩ := xpI_ex h
  clear h
  have h := hh
  clear hh
  exact lv_ior hx hb hdec (kN _ _ _ h hG hC hY H locs ls hP hS hl hlo ⟨trivial, hso.2.2⟩)
set_option maxHeartbeats 1000000 in
theorem xso_ixor {G : xG} {E : xE} {d : Nat} {Q : xP} {pc len : Nat} {tg : List Nat} {cst : xV} {r : List xT} {lv st : List xV} {μ : xM} {k : xK} {p : Program} {e : Env} {s : State} {m : MethodId} {args : Array Value} {below : List Frame} {meth : Method} {c : Code} {R : Room} {nc ns : Nat} {QS : State → Prop} {A : Nat → Prop} (hE : xEok E)
    (kN : ∀ lv st μ, k r lv st μ → WS G E (d + 1) (p, e, s, m, args, below, meth, c, R, nc, ns, QS, A) Q (pc + len) lv st μ)
    (kJ : ∀ t e' r', E.2.2.1.drop t = e' :: r' → ∀ lv st μ, k (E.2.2.1.drop t) lv st μ → WS G E (d + 1) (p, e, s, m, args, below, meth, c, R, nc, ns, QS, A) Q e'.1 lv st μ)
    (hdec : decode E.2.1.2.1 pc = .ok ((.ixor), len)) (hch : xchk E (pc, (.ixor), len, tg, cst) = true)
    (h : xstep (MW G d) E Q (pc, (.ixor), len, tg, cst) r lv st μ k) : WS G E (d + 1) (p, e, s, m, args, below, meth, c, R, nc, ns, QS, A) Q pc lv st μ := by
  intro hG hC hY H locs ls hP hS hl hlo hso
  obtain ⟨hx, hb, hr, hml, hown, hts, hK, hlocks⟩ := id hC
  have hD := xD_wld hG hY.2.1 μ
  have htw : ∀ w, xin w → w.before args s = true := fun w hw => hts w (List.mem_cons_of_mem _ (xin_gw hw))
  simp only [xchk, decide_eq_true_eq] at hch
  subst hch
  obtain ⟨y, s1, rfl, hh⟩ := xpI_ex (show xpI st _ from h)
  clear h
  have h := hh
  clear hh
  obtain ⟨x, s2, rfl, hh⟩ := xpI_ex h
  clear h
  have h := hh
  clear hh
  exact lv_ixor hx hb hdec (kN _ _ _ h hG hC hY H locs ls hP hS hl hlo ⟨trivial, hso.2.2⟩)
set_option maxHeartbeats 1000000 in
theorem xso_ishl {G : xG} {E : xE} {d : Nat} {Q : xP} {pc len : Nat} {tg : List Nat} {cst : xV} {r : List xT} {lv st : List xV} {μ : xM} {k : xK} {p : Program} {e : Env} {s : State} {m : MethodId} {args : Array Value} {below : List Frame} {meth : Method} {c : Code} {R : Room} {nc ns : Nat} {QS : State → Prop} {A : Nat → Prop} (hE : xEok E)
    (kN : ∀ lv st μ, k r lv st μ → WS G E (d + 1) (p, e, s, m, args, below, meth, c, R, nc, ns, QS, A) Q (pc + len) lv st μ)
    (kJ : ∀ t e' r', E.2.2.1.drop t = e' :: r' → ∀ lv st μ, k (E.2.2.1.drop t) lv st μ → WS G E (d + 1) (p, e, s, m, args, below, meth, c, R, nc, ns, QS, A) Q e'.1 lv st μ)
    (hdec : decode E.2.1.2.1 pc = .ok ((.ishl), len)) (hch : xchk E (pc, (.ishl), len, tg, cst) = true)
    (h : xstep (MW G d) E Q (pc, (.ishl), len, tg, cst) r lv st μ k) : WS G E (d + 1) (p, e, s, m, args, below, meth, c, R, nc, ns, QS, A) Q pc lv st μ := by
  intro hG hC hY H locs ls hP hS hl hlo hso
  obtain ⟨hx, hb, hr, hml, hown, hts, hK, hlocks⟩ := id hC
  have hD := xD_wld hG hY.2.1 μ
  have htw : ∀ w, xin w → w.before args s = true := fun w hw => hts w (List.mem_cons_of_mem _ (xin_gw hw))
  simp only [xchk, decide_eq_true_eq] at hch
  subst hch
  obtain ⟨y, s1, rfl, hh⟩ := xpI_ex (show xpI st _ from h)
  clear h
  have h := hh
  clear hh
  obtain ⟨x, s2, rfl, hh⟩ := xpI_ex h
  clear h
  have h := hh
  clear hh
  exact lv_ishl hx hb hdec (kN _ _ _ h hG hC hY H locs ls hP hS hl hlo ⟨trivial, hso.2.2⟩)
set_option maxHeartbeats 1000000 in
theorem xso_ishr {G : xG} {E : xE} {d : Nat} {Q : xP} {pc len : Nat} {tg : List Nat} {cst : xV} {r : List xT} {lv st : List xV} {μ : xM} {k : xK} {p : Program} {e : Env} {s : State} {m : MethodId} {args : Array Value} {below : List Frame} {meth : Method} {c : Code} {R : Room} {nc ns : Nat} {QS : State → Prop} {A : Nat → Prop} (hE : xEok E)
    (kN : ∀ lv st μ, k r lv st μ → WS G E (d + 1) (p, e, s, m, args, below, meth, c, R, nc, ns, QS, A) Q (pc + len) lv st μ)
    (kJ : ∀ t e' r', E.2.2.1.drop t = e' :: r' → ∀ lv st μ, k (E.2.2.1.drop t) lv st μ → WS G E (d + 1) (p, e, s, m, args, below, meth, c, R, nc, ns, QS, A) Q e'.1 lv st μ)
    (hdec : decode E.2.1.2.1 pc = .ok ((.ishr), len)) (hch : xchk E (pc, (.ishr), len, tg, cst) = true)
    (h : xstep (MW G d) E Q (pc, (.ishr), len, tg, cst) r lv st μ k) : WS G E (d + 1) (p, e, s, m, args, below, meth, c, R, nc, ns, QS, A) Q pc lv st μ := by
  intro hG hC hY H locs ls hP hS hl hlo hso
  obtain ⟨hx, hb, hr, hml, hown, hts, hK, hlocks⟩ := id hC
  have hD := xD_wld hG hY.2.1 μ
  have htw : ∀ w, xin w → w.before args s = true := fun w hw => hts w (List.mem_cons_of_mem _ (xin_gw hw))
  simp only [xchk, decide_eq_true_eq] at hch
  subst hch
  obtain ⟨y, s1, rfl, hh⟩ := xpI_ex (show xpI st _ from h)
  clear h
  have h := hh
  clear hh
  obtain ⟨x, s2, rfl, hh⟩ := xpI_ex h
  clear h
  have h := hh
  clear hh
  exact lv_ishr hx hb hdec (kN _ _ _ h hG hC hY H locs ls hP hS hl hlo ⟨trivial, hso.2.2⟩)
set_option maxHeartbeats 1000000 in
theorem xso_iushr {G : xG} {E : xE} {d : Nat} {Q : xP} {pc len : Nat} {tg : List Nat} {cst : xV} {r : List xT} {lv st : List xV} {μ : xM} {k : xK} {p : Program} {e : Env} {s : State} {m : MethodId} {args : Array Value} {below : List Frame} {meth : Method} {c : Code} {R : Room} {nc ns : Nat} {QS : State → Prop} {A : Nat → Prop} (hE : xEok E)
    (kN : ∀ lv st μ, k r lv st μ → WS G E (d + 1) (p, e, s, m, args, below, meth, c, R, nc, ns, QS, A) Q (pc + len) lv st μ)
    (kJ : ∀ t e' r', E.2.2.1.drop t = e' :: r' → ∀ lv st μ, k (E.2.2.1.drop t) lv st μ → WS G E (d + 1) (p, e, s, m, args, below, meth, c, R, nc, ns, QS, A) Q e'.1 lv st μ)
    (hdec : decode E.2.1.2.1 pc = .ok ((.iushr), len)) (hch : xchk E (pc, (.iushr), len, tg, cst) = true)
    (h : xstep (MW G d) E Q (pc, (.iushr), len, tg, cst) r lv st μ k) : WS G E (d + 1) (p, e, s, m, args, below, meth, c, R, nc, ns, QS, A) Q pc lv st μ := by
  intro hG hC hY H locs ls hP hS hl hlo hso
  obtain ⟨hx, hb, hr, hml, hown, hts, hK, hlocks⟩ := id hC
  have hD := xD_wld hG hY.2.1 μ
  have htw : ∀ w, xin w → w.before args s = true := fun w hw => hts w (List.mem_cons_of_mem _ (xin_gw hw))
  simp only [xchk, decide_eq_true_eq] at hch
  subst hch
  obtain ⟨y, s1, rfl, hh⟩ := xpI_ex (show xpI st _ from h)
  clear h
  have h := hh
  clear hh
  obtain ⟨x, s2, rfl, hh⟩ := xpI_ex h
  clear h
  have h := hh
  clear hh
  exact lv_iushr hx hb hdec rfl (kN _ _ _ h hG hC hY H locs ls hP hS hl hlo ⟨trivial, hso.2.2⟩)
set_option maxHeartbeats 1000000 in
theorem xso_idiv {G : xG} {E : xE} {d : Nat} {Q : xP} {pc len : Nat} {tg : List Nat} {cst : xV} {r : List xT} {lv st : List xV} {μ : xM} {k : xK} {p : Program} {e : Env} {s : State} {m : MethodId} {args : Array Value} {below : List Frame} {meth : Method} {c : Code} {R : Room} {nc ns : Nat} {QS : State → Prop} {A : Nat → Prop} (hE : xEok E)
    (kN : ∀ lv st μ, k r lv st μ → WS G E (d + 1) (p, e, s, m, args, below, meth, c, R, nc, ns, QS, A) Q (pc + len) lv st μ)
    (kJ : ∀ t e' r', E.2.2.1.drop t = e' :: r' → ∀ lv st μ, k (E.2.2.1.drop t) lv st μ → WS G E (d + 1) (p, e, s, m, args, below, meth, c, R, nc, ns, QS, A) Q e'.1 lv st μ)
    (hdec : decode E.2.1.2.1 pc = .ok ((.idiv), len)) (hch : xchk E (pc, (.idiv), len, tg, cst) = true)
    (h : xstep (MW G d) E Q (pc, (.idiv), len, tg, cst) r lv st μ k) : WS G E (d + 1) (p, e, s, m, args, below, meth, c, R, nc, ns, QS, A) Q pc lv st μ := by
  intro hG hC hY H locs ls hP hS hl hlo hso
  obtain ⟨hx, hb, hr, hml, hown, hts, hK, hlocks⟩ := id hC
  have hD := xD_wld hG hY.2.1 μ
  have htw : ∀ w, xin w → w.before args s = true := fun w hw => hts w (List.mem_cons_of_mem _ (xin_gw hw))
  simp only [xchk, decide_eq_true_eq] at hch
  subst hch
  obtain ⟨y, s1, rfl, hh⟩ := xpI_ex (show xpI st _ from h)
  clear h
  have h := hh
  clear hh
  obtain ⟨x, s2, rfl, hh⟩ := xpI_ex h
  clear h
  have h := hh
  clear hh
  exact lv_idiv hx hb hdec h.1 (kN _ _ _ h.2 hG hC hY H locs ls hP hS hl hlo ⟨trivial, hso.2.2⟩)
set_option maxHeartbeats 1000000 in
theorem xso_irem {G : xG} {E : xE} {d : Nat} {Q : xP} {pc len : Nat} {tg : List Nat} {cst : xV} {r : List xT} {lv st : List xV} {μ : xM} {k : xK} {p : Program} {e : Env} {s : State} {m : MethodId} {args : Array Value} {below : List Frame} {meth : Method} {c : Code} {R : Room} {nc ns : Nat} {QS : State → Prop} {A : Nat → Prop} (hE : xEok E)
    (kN : ∀ lv st μ, k r lv st μ → WS G E (d + 1) (p, e, s, m, args, below, meth, c, R, nc, ns, QS, A) Q (pc + len) lv st μ)
    (kJ : ∀ t e' r', E.2.2.1.drop t = e' :: r' → ∀ lv st μ, k (E.2.2.1.drop t) lv st μ → WS G E (d + 1) (p, e, s, m, args, below, meth, c, R, nc, ns, QS, A) Q e'.1 lv st μ)
    (hdec : decode E.2.1.2.1 pc = .ok ((.irem), len)) (hch : xchk E (pc, (.irem), len, tg, cst) = true)
    (h : xstep (MW G d) E Q (pc, (.irem), len, tg, cst) r lv st μ k) : WS G E (d + 1) (p, e, s, m, args, below, meth, c, R, nc, ns, QS, A) Q pc lv st μ := by
  intro hG hC hY H locs ls hP hS hl hlo hso
  obtain ⟨hx, hb, hr, hml, hown, hts, hK, hlocks⟩ := id hC
  have hD := xD_wld hG hY.2.1 μ
  have htw : ∀ w, xin w → w.before args s = true := fun w hw => hts w (List.mem_cons_of_mem _ (xin_gw hw))
  simp only [xchk, decide_eq_true_eq] at hch
  subst hch
  obtain ⟨y, s1, rfl, hh⟩ := xpI_ex (show xpI st _ from h)
  clear h
  have h := hh
  clear hh
  obtain ⟨x, s2, rfl, hh⟩ := xpI_ex h
  clear h
  have h := hh
  clear hh
  exact lv_irem hx hb hdec h.1 (kN _ _ _ h.2 hG hC hY H locs ls hP hS hl hlo ⟨trivial, hso.2.2⟩)
set_option maxHeartbeats 1000000 in
theorem xso_ladd {G : xG} {E : xE} {d : Nat} {Q : xP} {pc len : Nat} {tg : List Nat} {cst : xV} {r : List xT} {lv st : List xV} {μ : xM} {k : xK} {p : Program} {e : Env} {s : State} {m : MethodId} {args : Array Value} {below : List Frame} {meth : Method} {c : Code} {R : Room} {nc ns : Nat} {QS : State → Prop} {A : Nat → Prop} (hE : xEok E)
    (kN : ∀ lv st μ, k r lv st μ → WS G E (d + 1) (p, e, s, m, args, below, meth, c, R, nc, ns, QS, A) Q (pc + len) lv st μ)
    (kJ : ∀ t e' r', E.2.2.1.drop t = e' :: r' → ∀ lv st μ, k (E.2.2.1.drop t) lv st μ → WS G E (d + 1) (p, e, s, m, args, below, meth, c, R, nc, ns, QS, A) Q e'.1 lv st μ)
    (hdec : decode E.2.1.2.1 pc = .ok ((.ladd), len)) (hch : xchk E (pc, (.ladd), len, tg, cst) = true)
    (h : xstep (MW G d) E Q (pc, (.ladd), len, tg, cst) r lv st μ k) : WS G E (d + 1) (p, e, s, m, args, below, meth, c, R, nc, ns, QS, A) Q pc lv st μ := by
  intro hG hC hY H locs ls hP hS hl hlo hso
  obtain ⟨hx, hb, hr, hml, hown, hts, hK, hlocks⟩ := id hC
  have hD := xD_wld hG hY.2.1 μ
  have htw : ∀ w, xin w → w.before args s = true := fun w hw => hts w (List.mem_cons_of_mem _ (xin_gw hw))
  simp only [xchk, decide_eq_true_eq] at hch
  subst hch
  obtain ⟨y, s1, rfl, hh⟩ := xpL_ex (show xpL st _ from h)
  clear h
  have h := hh
  clear hh
  obtain ⟨x, s2, rfl, hh⟩ := xpL_ex h
  clear h
  have h := hh
  clear hh
  exact lv_ladd hx hb hdec (kN _ _ _ h hG hC hY H locs ls hP hS hl hlo ⟨trivial, hso.2.2⟩)
set_option maxHeartbeats 1000000 in
theorem xso_lsub {G : xG} {E : xE} {d : Nat} {Q : xP} {pc len : Nat} {tg : List Nat} {cst : xV} {r : List xT} {lv st : List xV} {μ : xM} {k : xK} {p : Program} {e : Env} {s : State} {m : MethodId} {args : Array Value} {below : List Frame} {meth : Method} {c : Code} {R : Room} {nc ns : Nat} {QS : State → Prop} {A : Nat → Prop} (hE : xEok E)
    (kN : ∀ lv st μ, k r lv st μ → WS G E (d + 1) (p, e, s, m, args, below, meth, c, R, nc, ns, QS, A) Q (pc + len) lv st μ)
    (kJ : ∀ t e' r', E.2.2.1.drop t = e' :: r' → ∀ lv st μ, k (E.2.2.1.drop t) lv st μ → WS G E (d + 1) (p, e, s, m, args, below, meth, c, R, nc, ns, QS, A) Q e'.1 lv st μ)
    (hdec : decode E.2.1.2.1 pc = .ok ((.lsub), len)) (hch : xchk E (pc, (.lsub), len, tg, cst) = true)
    (h : xstep (MW G d) E Q (pc, (.lsub), len, tg, cst) r lv st μ k) : WS G E (d + 1) (p, e, s, m, args, below, meth, c, R, nc, ns, QS, A) Q pc lv st μ := by
  intro hG hC hY H locs ls hP hS hl hlo hso
  obtain ⟨hx, hb, hr, hml, hown, hts, hK, hlocks⟩ := id hC
  have hD := xD_wld hG hY.2.1 μ
  have htw : ∀ w, xin w → w.before args s = true := fun w hw => hts w (List.mem_cons_of_mem _ (xin_gw hw))
  simp only [xchk, decide_eq_true_eq] at hch
  subst hch
  obtain ⟨y, s1, rfl, hh⟩ := xpL_ex (show xpL st _ from h)
  clear h
  have h := hh
  clear hh
  obtain ⟨x, s2, rfl, hh⟩ := xpL_ex h
  clear h
  have h := hh
  clear hh
  exact lv_lsub hx hb hdec (kN _ _ _ h hG hC hY H locs ls hP hS hl hlo ⟨trivial, hso.2.2⟩)
set_option maxHeartbeats 1000000 in
theorem xso_land {G : xG} {E : xE} {d : Nat} {Q : xP} {pc len : Nat} {tg : List Nat} {cst : xV} {r : List xT} {lv st : List xV} {μ : xM} {k : xK} {p : Program} {e : Env} {s : State} {m : MethodId} {args : Array Value} {below : List Frame} {meth : Method} {c : Code} {R : Room} {nc ns : Nat} {QS : State → Prop} {A : Nat → Prop} (hE : xEok E)
    (kN : ∀ lv st μ, k r lv st μ → WS G E (d + 1) (p, e, s, m, args, below, meth, c, R, nc, ns, QS, A) Q (pc + len) lv st μ)
    (kJ : ∀ t e' r', E.2.2.1.drop t = e' :: r' → ∀ lv st μ, k (E.2.2.1.drop t) lv st μ → WS G E (d + 1) (p, e, s, m, args, below, meth, c, R, nc, ns, QS, A) Q e'.1 lv st μ)
    (hdec : decode E.2.1.2.1 pc = .ok ((.land), len)) (hch : xchk E (pc, (.land), len, tg, cst) = true)
    (h : xstep (MW G d) E Q (pc, (.land), len, tg, cst) r lv st μ k) : WS G E (d + 1) (p, e, s, m, args, below, meth, c, R, nc, ns, QS, A) Q pc lv st μ := by
  intro hG hC hY H locs ls hP hS hl hlo hso
  obtain ⟨hx, hb, hr, hml, hown, hts, hK, hlocks⟩ := id hC
  have hD := xD_wld hG hY.2.1 μ
  have htw : ∀ w, xin w → w.before args s = true := fun w hw => hts w (List.mem_cons_of_mem _ (xin_gw hw))
  simp only [xchk, decide_eq_true_eq] at hch
  subst hch
  obtain ⟨y, s1, rfl, hh⟩ := xpL_ex (show xpL st _ from h)
  clear h
  have h := hh
  clear hh
  obtain ⟨x, s2, rfl, hh⟩ := xpL_ex h
  clear h
  have h := hh
  clear hh
  exact lv_land hx hb hdec (kN _ _ _ h hG hC hY H locs ls hP hS hl hlo ⟨trivial, hso.2.2⟩)
set_option maxHeartbeats 1000000 in
theorem xso_lor {G : xG} {E : xE} {d : Nat} {Q : xP} {pc len : Nat} {tg : List Nat} {cst : xV} {r : List xT} {lv st : List xV} {μ : xM} {k : xK} {p : Program} {e : Env} {s : State} {m : MethodId} {args : Array Value} {below : List Frame} {meth : Method} {c : Code} {R : Room} {nc ns : Nat} {QS : State → Prop} {A : Nat → Prop} (hE : xEok E)
    (kN : ∀ lv st μ, k r lv st μ → WS G E (d + 1) (p, e, s, m, args, below, meth, c, R, nc, ns, QS, A) Q (pc + len) lv st μ)
    (kJ : ∀ t e' r', E.2.2.1.drop t = e' :: r' → ∀ lv st μ, k (E.2.2.1.drop t) lv st μ → WS G E (d + 1) (p, e, s, m, args, below, meth, c, R, nc, ns, QS, A) Q e'.1 lv st μ)
    (hdec : decode E.2.1.2.1 pc = .ok ((.lor), len)) (hch : xchk E (pc, (.lor), len, tg, cst) = true)
    (h : xstep (MW G d) E Q (pc, (.lor), len, tg, cst) r lv st μ k) : WS G E (d + 1) (p, e, s, m, args, below, meth, c, R, nc, ns, QS, A) Q pc lv st μ := by
  intro hG hC hY H locs ls hP hS hl hlo hso
  obtain ⟨hx, hb, hr, hml, hown, hts, hK, hlocks⟩ := id hC
  have hD := xD_wld hG hY.2.1 μ
  have htw : ∀ w, xin w → w.before args s = true := fun w hw => hts w (List.mem_cons_of_mem _ (xin_gw hw))
  simp only [xchk, decide_eq_true_eq] at hch
  subst hch
  obtain ⟨y, s1, rfl, hh⟩ := xpL_ex (show xpL st _ from h)
  clear h
  have h := hh
  clear hh
  obtain ⟨x, s2, rfl, hh⟩ := xpL_ex h
  clear h
  have h := hh
  clear hh
  exact lv_lor hx hb hdec (kN _ _ _ h hG hC hY H locs ls hP hS hl hlo ⟨trivial, hso.2.2⟩)
set_option maxHeartbeats 1000000 in
theorem xso_lcmp {G : xG} {E : xE} {d : Nat} {Q : xP} {pc len : Nat} {tg : List Nat} {cst : xV} {r : List xT} {lv st : List xV} {μ : xM} {k : xK} {p : Program} {e : Env} {s : State} {m : MethodId} {args : Array Value} {below : List Frame} {meth : Method} {c : Code} {R : Room} {nc ns : Nat} {QS : State → Prop} {A : Nat → Prop} (hE : xEok E)
    (kN : ∀ lv st μ, k r lv st μ → WS G E (d + 1) (p, e, s, m, args, below, meth, c, R, nc, ns, QS, A) Q (pc + len) lv st μ)
    (kJ : ∀ t e' r', E.2.2.1.drop t = e' :: r' → ∀ lv st μ, k (E.2.2.1.drop t) lv st μ → WS G E (d + 1) (p, e, s, m, args, below, meth, c, R, nc, ns, QS, A) Q e'.1 lv st μ)
    (hdec : decode E.2.1.2.1 pc = .ok ((.lcmp), len)) (hch : xchk E (pc, (.lcmp), len, tg, cst) = true)
    (h : xstep (MW G d) E Q (pc, (.lcmp), len, tg, cst) r lv st μ k) : WS G E (d + 1) (p, e, s, m, args, below, meth, c, R, nc, ns, QS, A) Q pc lv st μ := by
  intro hG hC hY H locs ls hP hS hl hlo hso
  obtain ⟨hx, hb, hr, hml, hown, hts, hK, hlocks⟩ := id hC
  have hD := xD_wld hG hY.2.1 μ
  have htw : ∀ w, xin w → w.before args s = true := fun w hw => hts w (List.mem_cons_of_mem _ (xin_gw hw))
  simp only [xchk, decide_eq_true_eq] at hch
  subst hch
  obtain ⟨y, s1, rfl, hh⟩ := xpL_ex (show xpL st _ from h)
  clear h
  have h := hh
  clear hh
  obtain ⟨x, s2, rfl, hh⟩ := xpL_ex h
  clear h
  have h := hh
  clear hh
  exact W.lcmp hx hb hdec (kN _ _ _ h hG hC hY H locs ls hP hS hl hlo ⟨trivial, hso.2.2⟩)
set_option maxHeartbeats 1000000 in
theorem xso_lshl {G : xG} {E : xE} {d : Nat} {Q : xP} {pc len : Nat} {tg : List Nat} {cst : xV} {r : List xT} {lv st : List xV} {μ : xM} {k : xK} {p : Program} {e : Env} {s : State} {m : MethodId} {args : Array Value} {below : List Frame} {meth : Method} {c : Code} {R : Room} {nc ns : Nat} {QS : State → Prop} {A : Nat → Prop} (hE : xEok E)
    (kN : ∀ lv st μ, k r lv st μ → WS G E (d + 1) (p, e, s, m, args, below, meth, c, R, nc, ns, QS, A) Q (pc + len) lv st μ)
    (kJ : ∀ t e' r', E.2.2.1.drop t = e' :: r' → ∀ lv st μ, k (E.2.2.1.drop t) lv st μ → WS G E (d + 1) (p, e, s, m, args, below, meth, c, R, nc, ns, QS, A) Q e'.1 lv st μ)
    (hdec : decode E.2.1.2.1 pc = .ok ((.lshl), len)) (hch : xchk E (pc, (.lshl), len, tg, cst) = true)
    (h : xstep (MW G d) E Q (pc, (.lshl), len, tg, cst) r lv st μ k) : WS G E (d + 1) (p, e, s, m, args, below, meth, c, R, nc, ns, QS, A) Q pc lv st μ := by
  intro hG hC hY H locs ls hP hS hl hlo hso
  obtain ⟨hx, hb, hr, hml, hown, hts, hK, hlocks⟩ := id hC
  have hD := xD_wld hG hY.2.1 μ
  have htw : ∀ w, xin w → w.before args s = true := fun w hw => hts w (List.mem_cons_of_mem _ (xin_gw hw))
  simp only [xchk, decide_eq_true_eq] at hch
  subst hch
  obtain ⟨y, s1, rfl, hh⟩ := xpI_ex (show xpI st _ from h)
  clear h
  have h := hh
  clear hh
  obtain ⟨x, s2, rfl, hh⟩ := xpL_ex h
  clear h
  have h := hh
  clear hh
  exact lv_lshl hx hb hdec rfl (kN _ _ _ h hG hC hY H locs ls hP hS hl hlo ⟨trivial, hso.2.2⟩)
set_option maxHeartbeats 1000000 in
theorem xso_lshr {G : xG} {E : xE} {d : Nat} {Q : xP} {pc len : Nat} {tg : List Nat} {cst : xV} {r : List xT} {lv st : List xV} {μ : xM} {k : xK} {p : Program} {e : Env} {s : State} {m : MethodId} {args : Array Value} {below : List Frame} {meth : Method} {c : Code} {R : Room} {nc ns : Nat} {QS : State → Prop} {A : Nat → Prop} (hE : xEok E)
    (kN : ∀ lv st μ, k r lv st μ → WS G E (d + 1) (p, e, s, m, args, below, meth, c, R, nc, ns, QS, A) Q (pc + len) lv st μ)
    (kJ : ∀ t e' r', E.2.2.1.drop t = e' :: r' → ∀ lv st μ, k (E.2.2.1.drop t) lv st μ → WS G E (d + 1) (p, e, s, m, args, below, meth, c, R, nc, ns, QS, A) Q e'.1 lv st μ)
    (hdec : decode E.2.1.2.1 pc = .ok ((.lshr), len)) (hch : xchk E (pc, (.lshr), len, tg, cst) = true)
    (h : xstep (MW G d) E Q (pc, (.lshr), len, tg, cst) r lv st μ k) : WS G E (d + 1) (p, e, s, m, args, below, meth, c, R, nc, ns, QS, A) Q pc lv st μ := by
  intro hG hC hY H locs ls hP hS hl hlo hso
  obtain ⟨hx, hb, hr, hml, hown, hts, hK, hlocks⟩ := id hC
  have hD := xD_wld hG hY.2.1 μ
  have htw : ∀ w, xin w → w.before args s = true := fun w hw => hts w (List.mem_cons_of_mem _ (xin_gw hw))
  simp only [xchk, decide_eq_true_eq] at hch
  subst hch
  obtain ⟨y, s1, rfl, hh⟩ := xpI_ex (show xpI st _ from h)
  clear h
  have h := hh
  clear hh
  obtain ⟨x, s2, rfl, hh⟩ := xpL_ex h
  clear h
  have h := hh
  clear hh
  exact lv_lshr hx hb hdec rfl (kN _ _ _ h hG hC hY H locs ls hP hS hl hlo ⟨trivial, hso.2.2⟩)
set_option maxHeartbeats 1000000 in
theorem xso_lushr {G : xG} {E : xE} {d : Nat} {Q : xP} {pc len : Nat} {tg : List Nat} {cst : xV} {r : List xT} {lv st : List xV} {μ : xM} {k : xK} {p : Program} {e : Env} {s : State} {m : MethodId} {args : Array Value} {below : List Frame} {meth : Method} {c : Code} {R : Room} {nc ns : Nat} {QS : State → Prop} {A : Nat → Prop} (hE : xEok E)
    (kN : ∀ lv st μ, k r lv st μ → WS G E (d + 1) (p, e, s, m, args, below, meth, c, R, nc, ns, QS, A) Q (pc + len) lv st μ)
    (kJ : ∀ t e' r', E.2.2.1.drop t = e' :: r' → ∀ lv st μ, k (E.2.2.1.drop t) lv st μ → WS G E (d + 1) (p, e, s, m, args, below, meth, c, R, nc, ns, QS, A) Q e'.1 lv st μ)
    (hdec : decode E.2.1.2.1 pc = .ok ((.lushr), len)) (hch : xchk E (pc, (.lushr), len, tg, cst) = true)
    (h : xstep (MW G d) E Q (pc, (.lushr), len, tg, cst) r lv st μ k) : WS G E (d + 1) (p, e, s, m, args, below, meth, c, R, nc, ns, QS, A) Q pc lv st μ := by
  intro hG hC hY H locs ls hP hS hl hlo hso
  obtain ⟨hx, hb, hr, hml, hown, hts, hK, hlocks⟩ := id hC
  have hD := xD_wld hG hY.2.1 μ
  have htw : ∀ w, xin w → w.before args s = true := fun w hw => hts w (List.mem_cons_of_mem _ (xin_gw hw))
  simp only [xchk, decide_eq_true_eq] at hch
  subst hch
  obtain ⟨y, s1, rfl, hh⟩ := xpI_ex (show xpI st _ from h)
  clear h
  have h := hh
  clear hh
  obtain ⟨x, s2, rfl, hh⟩ := xpL_ex h
  clear h
  have h := hh
  clear hh
  exact lv_lushr hx hb hdec rfl (kN _ _ _ h hG hC hY H locs ls hP hS hl hlo ⟨trivial, hso.2.2⟩)
set_option maxHeartbeats 1000000 in
theorem xso_ineg {G : xG} {E : xE} {d : Nat} {Q : xP} {pc len : Nat} {tg : List Nat} {cst : xV} {r : List xT} {lv st : List xV} {μ : xM} {k : xK} {p : Program} {e : Env} {s : State} {m : MethodId} {args : Array Value} {below : List Frame} {meth : Method} {c : Code} {R : Room} {nc ns : Nat} {QS : State → Prop} {A : Nat → Prop} (hE : xEok E)
    (kN : ∀ lv st μ, k r lv st μ → WS G E (d + 1) (p, e, s, m, args, below, meth, c, R, nc, ns, QS, A) Q (pc + len) lv st μ)
    (kJ : ∀ t e' r', E.2.2.1.drop t = e' :: r' → ∀ lv st μ, k (E.2.2.1.drop t) lv st μ → WS G E (d + 1) (p, e, s, m, args, below, meth, c, R, nc, ns, QS, A) Q e'.1 lv st μ)
    (hdec : decode E.2.1.2.1 pc = .ok ((.ineg), len)) (hch : xchk E (pc, (.ineg), len, tg, cst) = true)
    (h : xstep (MW G d) E Q (pc, (.ineg), len, tg, cst) r lv st μ k) : WS G E (d + 1) (p, e, s, m, args, below, meth, c, R, nc, ns, QS, A) Q pc lv st μ := by
  intro hG hC hY H locs ls hP hS hl hlo hso
  obtain ⟨hx, hb, hr, hml, hown, hts, hK, hlocks⟩ := id hC
  have hD := xD_wld hG hY.2.1 μ
  have htw : ∀ w, xin w → w.before args s = true := fun w hw => hts w (List.mem_cons_of_mem _ (xin_gw hw))
  simp only [xchk, decide_eq_true_eq] at hch
  subst hch
  obtain ⟨x, s1, rfl, hh⟩ := xpI_ex (show xpI st _ from h)
  clear h
  have h := hh
  clear hh
  exact lv_ineg hx hb hdec (kN _ _ _ h hG hC hY H locs ls hP hS hl hlo ⟨trivial, hso.2⟩)
set_option maxHeartbeats 1000000 in
theorem xso_i2c {G : xG} {E : xE} {d : Nat} {Q : xP} {pc len : Nat} {tg : List Nat} {cst : xV} {r : List xT} {lv st : List xV} {μ : xM} {k : xK} {p : Program} {e : Env} {s : State} {m : MethodId} {args : Array Value} {below : List Frame} {meth : Method} {c : Code} {R : Room} {nc ns : Nat} {QS : State → Prop} {A : Nat → Prop} (hE : xEok E)
    (kN : ∀ lv st μ, k r lv st μ → WS G E (d + 1) (p, e, s, m, args, below, meth, c, R, nc, ns, QS, A) Q (pc + len) lv st μ)
    (kJ : ∀ t e' r', E.2.2.1.drop t = e' :: r' → ∀ lv st μ, k (E.2.2.1.drop t) lv st μ → WS G E (d + 1) (p, e, s, m, args, below, meth, c, R, nc, ns, QS, A) Q e'.1 lv st μ)
    (hdec : decode E.2.1.2.1 pc = .ok ((.i2c), len)) (hch : xchk E (pc, (.i2c), len, tg, cst) = true)
    (h : xstep (MW G d) E Q (pc, (.i2c), len, tg, cst) r lv st μ k) : WS G E (d + 1) (p, e, s, m, args, below, meth, c, R, nc, ns, QS, A) Q pc lv st μ := by
  intro hG hC hY H locs ls hP hS hl hlo hso
  obtain ⟨hx, hb, hr, hml, hown, hts, hK, hlocks⟩ := id hC
  have hD := xD_wld hG hY.2.1 μ
  have htw : ∀ w, xin w → w.before args s = true := fun w hw => hts w (List.mem_cons_of_mem _ (xin_gw hw))
  simp only [xchk, decide_eq_true_eq] at hch
  subst hch
  obtain ⟨x, s1, rfl, hh⟩ := xpI_ex (show xpI st _ from h)
  clear h
  have h := hh
  clear hh
  exact lv_i2c hx hb hdec rfl (kN _ _ _ h hG hC hY H locs ls hP hS hl hlo ⟨trivial, hso.2⟩)
set_option maxHeartbeats 1000000 in
theorem xso_i2l {G : xG} {E : xE} {d : Nat} {Q : xP} {pc len : Nat} {tg : List Nat} {cst : xV} {r : List xT} {lv st : List xV} {μ : xM} {k : xK} {p : Program} {e : Env} {s : State} {m : MethodId} {args : Array Value} {below : List Frame} {meth : Method} {c : Code} {R : Room} {nc ns : Nat} {QS : State → Prop} {A : Nat → Prop} (hE : xEok E)
    (kN : ∀ lv st μ, k r lv st μ → WS G E (d + 1) (p, e, s, m, args, below, meth, c, R, nc, ns, QS, A) Q (pc + len) lv st μ)
    (kJ : ∀ t e' r', E.2.2.1.drop t = e' :: r' → ∀ lv st μ, k (E.2.2.1.drop t) lv st μ → WS G E (d + 1) (p, e, s, m, args, below, meth, c, R, nc, ns, QS, A) Q e'.1 lv st μ)
    (hdec : decode E.2.1.2.1 pc = .ok ((.i2l), len)) (hch : xchk E (pc, (.i2l), len, tg, cst) = true)
    (h : xstep (MW G d) E Q (pc, (.i2l), len, tg, cst) r lv st μ k) : WS G E (d + 1) (p, e, s, m, args, below, meth, c, R, nc, ns, QS, A) Q pc lv st μ := by
  intro hG hC hY H locs ls hP hS hl hlo hso
  obtain ⟨hx, hb, hr, hml, hown, hts, hK, hlocks⟩ := id hC
  have hD := xD_wld hG hY.2.1 μ
  have htw : ∀ w, xin w → w.before args s = true := fun w hw => hts w (List.mem_cons_of_mem _ (xin_gw hw))
  simp only [xchk, decide_eq_true_eq] at hch
  subst hch
  obtain ⟨x, s1, rfl, hh⟩ := xpI_ex (show xpI st _ from h)
  clear h
  have h := hh
  clear hh
  exact lv_i2l hx hb hdec rfl (kN _ _ _ h hG hC hY H locs ls hP hS hl hlo ⟨trivial, hso.2⟩)
set_option maxHeartbeats 1000000 in
theorem xso_l2i {G : xG} {E : xE} {d : Nat} {Q : xP} {pc len : Nat} {tg : List Nat} {cst : xV} {r : List xT} {lv st : List xV} {μ : xM} {k : xK} {p : Program} {e : Env} {s : State} {m : MethodId} {args : Array Value} {below : List Frame} {meth : Method} {c : Code} {R : Room} {nc ns : Nat} {QS : State → Prop} {A : Nat → Prop} (hE : xEok E)
    (kN : ∀ lv st μ, k r lv st μ → WS G E (d + 1) (p, e, s, m, args, below, meth, c, R, nc, ns, QS, A) Q (pc + len) lv st μ)
    (kJ : ∀ t e' r', E.2.2.1.drop t = e' :: r' → ∀ lv st μ, k (E.2.2.1.drop t) lv st μ → WS G E (d + 1) (p, e, s, m, args, below, meth, c, R, nc, ns, QS, A) Q e'.1 lv st μ)
    (hdec : decode E.2.1.2.1 pc = .ok ((.l2i), len)) (hch : xchk E (pc, (.l2i), len, tg, cst) = true)
    (h : xstep (MW G d) E Q (pc, (.l2i), len, tg, cst) r lv st μ k) : WS G E (d + 1) (p, e, s, m, args, below, meth, c, R, nc, ns, QS, A) Q pc lv st μ := by
  intro hG hC hY H locs ls hP hS hl hlo hso
  obtain ⟨hx, hb, hr, hml, hown, hts, hK, hlocks⟩ := id hC
  have hD := xD_wld hG hY.2.1 μ
  have htw : ∀ w, xin w → w.before args s = true := fun w hw => hts w (List.mem_cons_of_mem _ (xin_gw hw))
  simp only [xchk, decide_eq_true_eq] at hch
  subst hch
  obtain ⟨x, s1, rfl, hh⟩ := xpL_ex (show xpL st _ from h)
  clear h
  have h := hh
  clear hh
  exact lv_l2i hx hb hdec rfl (kN _ _ _ h hG hC hY H locs ls hP hS hl hlo ⟨trivial, hso.2⟩)
set_option maxHeartbeats 1000000 in
theorem xso_iinc {G : xG} {E : xE} {d : Nat} {Q : xP} {pc len : Nat} {tg : List Nat} {cst : xV} {r : List xT} {lv st : List xV} {μ : xM} {k : xK} {p : Program} {e : Env} {s : State} {m : MethodId} {args : Array Value} {below : List Frame} {meth : Method} {c : Code} {R : Room} {nc ns : Nat} {QS : State → Prop} {A : Nat → Prop} (n : Nat) (q : Int) (hE : xEok E)
    (kN : ∀ lv st μ, k r lv st μ → WS G E (d + 1) (p, e, s, m, args, below, meth, c, R, nc, ns, QS, A) Q (pc + len) lv st μ)
    (kJ : ∀ t e' r', E.2.2.1.drop t = e' :: r' → ∀ lv st μ, k (E.2.2.1.drop t) lv st μ → WS G E (d + 1) (p, e, s, m, args, below, meth, c, R, nc, ns, QS, A) Q e'.1 lv st μ)
    (hdec : decode E.2.1.2.1 pc = .ok ((.iinc n q), len)) (hch : xchk E (pc, (.iinc n q), len, tg, cst) = true)
    (h : xstep (MW G d) E Q (pc, (.iinc n q), len, tg, cst) r lv st μ k) : WS G E (d + 1) (p, e, s, m, args, below, meth, c, R, nc, ns, QS, A) Q pc lv st μ := by
  intro hG hC hY H locs ls hP hS hl hlo hso
  obtain ⟨hx, hb, hr, hml, hown, hts, hK, hlocks⟩ := id hC
  have hD := xD_wld hG hY.2.1 μ
  have htw : ∀ w, xin w → w.before args s = true := fun w hw => hts w (List.mem_cons_of_mem _ (xin_gw hw))
  simp only [xchk, Bool.and_eq_true, decide_eq_true_eq] at hch
  obtain ⟨⟨hlen, hi, hlt⟩, hc⟩ := hch
  subst hlen
  subst hi
  obtain ⟨y, rfl, hh⟩ := xcI_ex (show xcI cst _ from h)
  clear h
  have h := hh
  clear hh
  obtain ⟨x, ex, h⟩ := xgI_ex h
  exact xw_iinc hx hb hl hlt hdec ex (of_decide_eq_true (show decide (Int32.ofInt q = y) = true from hc)) (fun ls' hl' => kN _ _ _ h hG hC hY H locs ls' hP hS hl' (xlok_set (xlok_clr hlo _) _ trivial) hso)
set_option maxHeartbeats 1000000 in
theorem xso_dup {G : xG} {E : xE} {d : Nat} {Q : xP} {pc len : Nat} {tg : List Nat} {cst : xV} {r : List xT} {lv st : List xV} {μ : xM} {k : xK} {p : Program} {e : Env} {s : State} {m : MethodId} {args : Array Value} {below : List Frame} {meth : Method} {c : Code} {R : Room} {nc ns : Nat} {QS : State → Prop} {A : Nat → Prop} (hE : xEok E)
    (kN : ∀ lv st μ, k r lv st μ → WS G E (d + 1) (p, e, s, m, args, below, meth, c, R, nc, ns, QS, A) Q (pc + len) lv st μ)
    (kJ : ∀ t e' r', E.2.2.1.drop t = e' :: r' → ∀ lv st μ, k (E.2.2.1.drop t) lv st μ → WS G E (d + 1) (p, e, s, m, args, below, meth, c, R, nc, ns, QS, A) Q e'.1 lv st μ)
    (hdec : decode E.2.1.2.1 pc = .ok ((.dup), len)) (hch : xchk E (pc, (.dup), len, tg, cst) = true)
    (h : xstep (MW G d) E Q (pc, (.dup), len, tg, cst) r lv st μ k) : WS G E (d + 1) (p, e, s, m, args, below, meth, c, R, nc, ns, QS, A) Q pc lv st μ := by
  intro hG hC hY H locs ls hP hS hl hlo hso
  obtain ⟨hx, hb, hr, hml, hown, hts, hK, hlocks⟩ := id hC
  have hD := xD_wld hG hY.2.1 μ
  have htw : ∀ w, xin w → w.before args s = true := fun w hw => hts w (List.mem_cons_of_mem _ (xin_gw hw))
  simp only [xchk, decide_eq_true_eq] at hch
  subst hch
  rcases st with _ | ⟨x | x | _ | q, s1⟩
  · exact (show False from h).elim
  · exact lv_dup hx hb hdec rfl (kN _ _ _ h hG hC hY H locs ls hP hS hl hlo ⟨trivial, hso⟩)
  · exact (show False from h).elim
  · exact (show False from h).elim
  · exact lv_dup hx hb hdec rfl (kN _ _ _ h hG hC hY H locs ls hP hS hl hlo ⟨hso.1, hso⟩)
set_option maxHeartbeats 1000000 in
theorem xso_dup2 {G : xG} {E : xE} {d : Nat} {Q : xP} {pc len : Nat} {tg : List Nat} {cst : xV} {r : List xT} {lv st : List xV} {μ : xM} {k : xK} {p : Program} {e : Env} {s : State} {m : MethodId} {args : Array Value} {below : List Frame} {meth : Method} {c : Code} {R : Room} {nc ns : Nat} {QS : State → Prop} {A : Nat → Prop} (hE : xEok E)
    (kN : ∀ lv st μ, k r lv st μ → WS G E (d + 1) (p, e, s, m, args, below, meth, c, R, nc, ns, QS, A) Q (pc + len) lv st μ)
    (kJ : ∀ t e' r', E.2.2.1.drop t = e' :: r' → ∀ lv st μ, k (E.2.2.1.drop t) lv st μ → WS G E (d + 1) (p, e, s, m, args, below, meth, c, R, nc, ns, QS, A) Q e'.1 lv st μ)
    (hdec : decode E.2.1.2.1 pc = .ok ((.dup2), len)) (hch : xchk E (pc, (.dup2), len, tg, cst) = true)
    (h : xstep (MW G d) E Q (pc, (.dup2), len, tg, cst) r lv st μ k) : WS G E (d + 1) (p, e, s, m, args, below, meth, c, R, nc, ns, QS, A) Q pc lv st μ := by
  intro hG hC hY H locs ls hP hS hl hlo hso
  obtain ⟨hx, hb, hr, hml, hown, hts, hK, hlocks⟩ := id hC
  have hD := xD_wld hG hY.2.1 μ
  have htw : ∀ w, xin w → w.before args s = true := fun w hw => hts w (List.mem_cons_of_mem _ (xin_gw hw))
  simp only [xchk, decide_eq_true_eq] at hch
  subst hch
  obtain ⟨x, s1, rfl, hh⟩ := xpI_ex (show xpI st _ from h)
  clear h
  have h := hh
  clear hh
  obtain ⟨q, s2, rfl, hh⟩ := xpR_ex h
  clear h
  have h := hh
  clear hh
  exact lv_dup2_11 hx hb hdec rfl rfl (kN _ _ _ h hG hC hY H locs ls hP hS hl hlo ⟨trivial, hso.2.1, hso⟩)
set_option maxHeartbeats 1000000 in
theorem xso_pop {G : xG} {E : xE} {d : Nat} {Q : xP} {pc len : Nat} {tg : List Nat} {cst : xV} {r : List xT} {lv st : List xV} {μ : xM} {k : xK} {p : Program} {e : Env} {s : State} {m : MethodId} {args : Array Value} {below : List Frame} {meth : Method} {c : Code} {R : Room} {nc ns : Nat} {QS : State → Prop} {A : Nat → Prop} (hE : xEok E)
    (kN : ∀ lv st μ, k r lv st μ → WS G E (d + 1) (p, e, s, m, args, below, meth, c, R, nc, ns, QS, A) Q (pc + len) lv st μ)
    (kJ : ∀ t e' r', E.2.2.1.drop t = e' :: r' → ∀ lv st μ, k (E.2.2.1.drop t) lv st μ → WS G E (d + 1) (p, e, s, m, args, below, meth, c, R, nc, ns, QS, A) Q e'.1 lv st μ)
    (hdec : decode E.2.1.2.1 pc = .ok ((.pop), len)) (hch : xchk E (pc, (.pop), len, tg, cst) = true)
    (h : xstep (MW G d) E Q (pc, (.pop), len, tg, cst) r lv st μ k) : WS G E (d + 1) (p, e, s, m, args, below, meth, c, R, nc, ns, QS, A) Q pc lv st μ := by
  intro hG hC hY H locs ls hP hS hl hlo hso
  obtain ⟨hx, hb, hr, hml, hown, hts, hK, hlocks⟩ := id hC
  have hD := xD_wld hG hY.2.1 μ
  have htw : ∀ w, xin w → w.before args s = true := fun w hw => hts w (List.mem_cons_of_mem _ (xin_gw hw))
  simp only [xchk, decide_eq_true_eq] at hch
  subst hch
  obtain ⟨x, s1, rfl, hh⟩ := xpI_ex (show xpI st _ from h)
  clear h
  have h := hh
  clear hh
  exact lv_pop hx hb hdec rfl (kN _ _ _ h hG hC hY H locs ls hP hS hl hlo hso.2)
set_option maxHeartbeats 1000000 in
theorem xso_lmul {G : xG} {E : xE} {d : Nat} {Q : xP} {pc len : Nat} {tg : List Nat} {cst : xV} {r : List xT} {lv st : List xV} {μ : xM} {k : xK} {p : Program} {e : Env} {s : State} {m : MethodId} {args : Array Value} {below : List Frame} {meth : Method} {c : Code} {R : Room} {nc ns : Nat} {QS : State → Prop} {A : Nat → Prop} (hE : xEok E)
    (kN : ∀ lv st μ, k r lv st μ → WS G E (d + 1) (p, e, s, m, args, below, meth, c, R, nc, ns, QS, A) Q (pc + len) lv st μ)
    (kJ : ∀ t e' r', E.2.2.1.drop t = e' :: r' → ∀ lv st μ, k (E.2.2.1.drop t) lv st μ → WS G E (d + 1) (p, e, s, m, args, below, meth, c, R, nc, ns, QS, A) Q e'.1 lv st μ)
    (hdec : decode E.2.1.2.1 pc = .ok ((.lmul), len)) (hch : xchk E (pc, (.lmul), len, tg, cst) = true)
    (h : xstep (MW G d) E Q (pc, (.lmul), len, tg, cst) r lv st μ k) : WS G E (d + 1) (p, e, s, m, args, below, meth, c, R, nc, ns, QS, A) Q pc lv st μ := by
  intro hG hC hY H locs ls hP hS hl hlo hso
  obtain ⟨hx, hb, hr, hml, hown, hts, hK, hlocks⟩ := id hC
  have hD := xD_wld hG hY.2.1 μ
  have htw : ∀ w, xin w → w.before args s = true := fun w hw => hts w (List.mem_cons_of_mem _ (xin_gw hw))
  simp only [xchk, decide_eq_true_eq] at hch
  subst hch
  obtain ⟨y, s1, rfl, hh⟩ := xpL_ex (show xpL st _ from h)
  clear h
  have h := hh
  clear hh
  obtain ⟨x, s2, rfl, hh⟩ := xpL_ex h
  clear h
  have h := hh
  clear hh
  exact lv_lmul hx hb hdec (kN _ _ _ h hG hC hY H locs ls hP hS hl hlo ⟨trivial, hso.2.2⟩)
set_option maxHeartbeats 1000000 in
theorem xso_ldiv {G : xG} {E : xE} {d : Nat} {Q : xP} {pc len : Nat} {tg : List Nat} {cst : xV} {r : List xT} {lv st : List xV} {μ : xM} {k : xK} {p : Program} {e : Env} {s : State} {m : MethodId} {args : Array Value} {below : List Frame} {meth : Method} {c : Code} {R : Room} {nc ns : Nat} {QS : State → Prop} {A : Nat → Prop} (hE : xEok E)
    (kN : ∀ lv st μ, k r lv st μ → WS G E (d + 1) (p, e, s, m, args, below, meth, c, R, nc, ns, QS, A) Q (pc + len) lv st μ)
    (kJ : ∀ t e' r', E.2.2.1.drop t = e' :: r' → ∀ lv st μ, k (E.2.2.1.drop t) lv st μ → WS G E (d + 1) (p, e, s, m, args, below, meth, c, R, nc, ns, QS, A) Q e'.1 lv st μ)
    (hdec : decode E.2.1.2.1 pc = .ok ((.ldiv), len)) (hch : xchk E (pc, (.ldiv), len, tg, cst) = true)
    (h : xstep (MW G d) E Q (pc, (.ldiv), len, tg, cst) r lv st μ k) : WS G E (d + 1) (p, e, s, m, args, below, meth, c, R, nc, ns, QS, A) Q pc lv st μ := by
  intro hG hC hY H locs ls hP hS hl hlo hso
  obtain ⟨hx, hb, hr, hml, hown, hts, hK, hlocks⟩ := id hC
  have hD := xD_wld hG hY.2.1 μ
  have htw : ∀ w, xin w → w.before args s = true := fun w hw => hts w (List.mem_cons_of_mem _ (xin_gw hw))
  simp only [xchk, decide_eq_true_eq] at hch
  subst hch
  obtain ⟨y, s1, rfl, hh⟩ := xpL_ex (show xpL st _ from h)
  clear h
  have h := hh
  clear hh
  obtain ⟨x, s2, rfl, hh⟩ := xpL_ex h
  clear h
  have h := hh
  clear hh
  exact lv_ldiv hx hb hdec h.1 (kN _ _ _ h.2 hG hC hY H locs ls hP hS hl hlo ⟨trivial, hso.2.2⟩)
set_option maxHeartbeats 1000000 in
theorem xso_lrem {G : xG} {E : xE} {d : Nat} {Q : xP} {pc len : Nat} {tg : List Nat} {cst : xV} {r : List xT} {lv st : List xV} {μ : xM} {k : xK} {p : Program} {e : Env} {s : State} {m : MethodId} {args : Array Value} {below : List Frame} {meth : Method} {c : Code} {R : Room} {nc ns : Nat} {QS : State → Prop} {A : Nat → Prop} (hE : xEok E)
    (kN : ∀ lv st μ, k r lv st μ → WS G E (d + 1) (p, e, s, m, args, below, meth, c, R, nc, ns, QS, A) Q (pc + len) lv st μ)
    (kJ : ∀ t e' r', E.2.2.1.drop t = e' :: r' → ∀ lv st μ, k (E.2.2.1.drop t) lv st μ → WS G E (d + 1) (p, e, s, m, args, below, meth, c, R, nc, ns, QS, A) Q e'.1 lv st μ)
    (hdec : decode E.2.1.2.1 pc = .ok ((.lrem), len)) (hch : xchk E (pc, (.lrem), len, tg, cst) = true)
    (h : xstep (MW G d) E Q (pc, (.lrem), len, tg, cst) r lv st μ k) : WS G E (d + 1) (p, e, s, m, args, below, meth, c, R, nc, ns, QS, A) Q pc lv st μ := by
  intro hG hC hY H locs ls hP hS hl hlo hso
  obtain ⟨hx, hb, hr, hml, hown, hts, hK, hlocks⟩ := id hC
  have hD := xD_wld hG hY.2.1 μ
  have htw : ∀ w, xin w → w.before args s = true := fun w hw => hts w (List.mem_cons_of_mem _ (xin_gw hw))
  simp only [xchk, decide_eq_true_eq] at hch
  subst hch
  obtain ⟨y, s1, rfl, hh⟩ := xpL_ex (show xpL st _ from h)
  clear h
  have h := hh
  clear hh
  obtain ⟨x, s2, rfl, hh⟩ := xpL_ex h
  clear h
  have h := hh
  clear hh
  exact lv_lrem hx hb hdec h.1 (kN _ _ _ h.2 hG hC hY H locs ls hP hS hl hlo ⟨trivial, hso.2.2⟩)
end
section
set_option maxHeartbeats 1000000 in
theorem xso_ifCond {G : xG} {E : xE} {d : Nat} {Q : xP} {pc len : Nat} {tg : List Nat} {cst : xV} {r : List xT} {lv st : List xV} {μ : xM} {k : xK} {p : Program} {e : Env} {s : State} {m : MethodId} {args : Array Value} {below : List Frame} {meth : Method} {c : Code} {R : Room} {nc ns : Nat} {QS : State → Prop} {A : Nat → Prop} (cnd : ClassFile.Cond) (o : Int) (hE : xEok E)
    (kN : ∀ lv st μ, k r lv st μ → WS G E (d + 1) (p, e, s, m, args, below, meth, c, R, nc, ns, QS, A) Q (pc + len) lv st μ)
    (kJ : ∀ t e' r', E.2.2.1.drop t = e' :: r' → ∀ lv st μ, k (E.2.2.1.drop t) lv st μ → WS G E (d + 1) (p, e, s, m, args, below, meth, c, R, nc, ns, QS, A) Q e'.1 lv st μ)
    (hdec : decode E.2.1.2.1 pc = .ok ((.ifCond cnd o), len)) (hch : xchk E (pc, (.ifCond cnd o), len, tg, cst) = true)
    (h : xstep (MW G d) E Q (pc, (.ifCond cnd o), len, tg, cst) r lv st μ k) : WS G E (d + 1) (p, e, s, m, args, below, meth, c, R, nc, ns, QS, A) Q pc lv st μ := by
  intro hG hC hY H locs ls hP hS hl hlo hso
  obtain ⟨hx, hb, hr, hml, hown, hts, hK, hlocks⟩ := id hC
  have hD := xD_wld hG hY.2.1 μ
  have htw : ∀ w, xin w → w.before args s = true := fun w hw => hts w (List.mem_cons_of_mem _ (xin_gw hw))
  simp only [xchk, Bool.and_eq_true, decide_eq_true_eq] at hch
  obtain ⟨hlen, hc⟩ := hch
  subst hlen
  obtain ⟨e', r', he, ht⟩ := xtgt_ok hc
  cases cnd
  case eq =>
    obtain ⟨x, s1, rfl, hh⟩ := xpI_ex (show xpI st _ from h)
    clear h
    have h := hh
    clear hh
    exact lv_if_eq hx hb hdec ht (fun c1 => kJ _ e' r' he _ _ _ (h.1 c1) hG hC hY H locs ls hP hS hl hlo hso.2) (fun c1 => kN _ _ _ (h.2 c1) hG hC hY H locs ls hP hS hl hlo hso.2)
  case ne =>
    obtain ⟨x, s1, rfl, hh⟩ := xpI_ex (show xpI st _ from h)
    clear h
    have h := hh
    clear hh
    exact lv_if_ne hx hb hdec ht (fun c1 => kJ _ e' r' he _ _ _ (h.2 c1) hG hC hY H locs ls hP hS hl hlo hso.2) (fun c1 => kN _ _ _ (h.1 c1) hG hC hY H locs ls hP hS hl hlo hso.2)
  case lt =>
    obtain ⟨x, s1, rfl, hh⟩ := xpI_ex (show xpI st _ from h)
    clear h
    have h := hh
    clear hh
    exact lv_if_lt hx hb hdec ht (fun c1 => kJ _ e' r' he _ _ _ (h.1 c1) hG hC hY H locs ls hP hS hl hlo hso.2) (fun c1 => kN _ _ _ (h.2 c1) hG hC hY H locs ls hP hS hl hlo hso.2)
  case ge =>
    obtain ⟨x, s1, rfl, hh⟩ := xpI_ex (show xpI st _ from h)
    clear h
    have h := hh
    clear hh
    exact lv_if_ge hx hb hdec ht (fun c1 => kJ _ e' r' he _ _ _ (h.1 c1) hG hC hY H locs ls hP hS hl hlo hso.2) (fun c1 => kN _ _ _ (h.2 c1) hG hC hY H locs ls hP hS hl hlo hso.2)
  case gt =>
    obtain ⟨x, s1, rfl, hh⟩ := xpI_ex (show xpI st _ from h)
    clear h
    have h := hh
    clear hh
    exact lv_if_gt hx hb hdec ht (fun c1 => kJ _ e' r' he _ _ _ (h.1 c1) hG hC hY H locs ls hP hS hl hlo hso.2) (fun c1 => kN _ _ _ (h.2 c1) hG hC hY H locs ls hP hS hl hlo hso.2)
  case le =>
    obtain ⟨x, s1, rfl, hh⟩ := xpI_ex (show xpI st _ from h)
    clear h
    have h := hh
    clear hh
    exact lv_if_le hx hb hdec ht (fun c1 => kJ _ e' r' he _ _ _ (h.1 c1) hG hC hY H locs ls hP hS hl hlo hso.2) (fun c1 => kN _ _ _ (h.2 c1) hG hC hY H locs ls hP hS hl hlo hso.2)
set_option maxHeartbeats 1000000 in
theorem xso_if_icmp {G : xG} {E : xE} {d : Nat} {Q : xP} {pc len : Nat} {tg : List Nat} {cst : xV} {r : List xT} {lv st : List xV} {μ : xM} {k : xK} {p : Program} {e : Env} {s : State} {m : MethodId} {args : Array Value} {below : List Frame} {meth : Method} {c : Code} {R : Room} {nc ns : Nat} {QS : State → Prop} {A : Nat → Prop} (cnd : ClassFile.Cond) (o : Int) (hE : xEok E)
    (kN : ∀ lv st μ, k r lv st μ → WS G E (d + 1) (p, e, s, m, args, below, meth, c, R, nc, ns, QS, A) Q (pc + len) lv st μ)
    (kJ : ∀ t e' r', E.2.2.1.drop t = e' :: r' → ∀ lv st μ, k (E.2.2.1.drop t) lv st μ → WS G E (d + 1) (p, e, s, m, args, below, meth, c, R, nc, ns, QS, A) Q e'.1 lv st μ)
    (hdec : decode E.2.1.2.1 pc = .ok ((.if_icmp cnd o), len)) (hch : xchk E (pc, (.if_icmp cnd o), len, tg, cst) = true)
    (h : xstep (MW G d) E Q (pc, (.if_icmp cnd o), len, tg, cst) r lv st μ k) : WS G E (d + 1) (p, e, s, m, args, below, meth, c, R, nc, ns, QS, A) Q pc lv st μ := by
  intro hG hC hY H locs ls hP hS hl hlo hso
  obtain ⟨hx, hb, hr, hml, hown, hts, hK, hlocks⟩ := id hC
  have hD := xD_wld hG hY.2.1 μ
  have htw : ∀ w, xin w → w.before args s = true := fun w hw => hts w (List.mem_cons_of_mem _ (xin_gw hw))
  simp only [xchk, Bool.and_eq_true, decide_eq_true_eq] at hch
  obtain ⟨hlen, hc⟩ := hch
  subst hlen
  obtain ⟨e', r', he, ht⟩ := xtgt_ok hc
  cases cnd
  case eq =>
    obtain ⟨y, s1, rfl, hh⟩ := xpI_ex (show xpI st _ from h)
    clear h
    have h := hh
    clear hh
    obtain ⟨x, s2, rfl, hh⟩ := xpI_ex h
    clear h
    have h := hh
    clear hh
    exact lv_icmp_eq hx hb hdec ht (fun c1 => kJ _ e' r' he _ _ _ (h.1 c1) hG hC hY H locs ls hP hS hl hlo hso.2.2) (fun c1 => kN _ _ _ (h.2 c1) hG hC hY H locs ls hP hS hl hlo hso.2.2)
  case ne =>
    obtain ⟨y, s1, rfl, hh⟩ := xpI_ex (show xpI st _ from h)
    clear h
    have h := hh
    clear hh
    obtain ⟨x, s2, rfl, hh⟩ := xpI_ex h
    clear h
    have h := hh
    clear hh
    exact lv_icmp_ne hx hb hdec ht (fun c1 => kJ _ e' r' he _ _ _ (h.2 c1) hG hC hY H locs ls hP hS hl hlo hso.2.2) (fun c1 => kN _ _ _ (h.1 c1) hG hC hY H locs ls hP hS hl hlo hso.2.2)
  case lt =>
    obtain ⟨y, s1, rfl, hh⟩ := xpI_ex (show xpI st _ from h)
    clear h
    have h := hh
    clear hh
    obtain ⟨x, s2, rfl, hh⟩ := xpI_ex h
    clear h
    have h := hh
    clear hh
    exact lv_icmp_lt hx hb hdec ht (fun c1 => kJ _ e' r' he _ _ _ (h.1 c1) hG hC hY H locs ls hP hS hl hlo hso.2.2) (fun c1 => kN _ _ _ (h.2 c1) hG hC hY H locs ls hP hS hl hlo hso.2.2)
  case ge =>
    obtain ⟨y, s1, rfl, hh⟩ := xpI_ex (show xpI st _ from h)
    clear h
    have h := hh
    clear hh
    obtain ⟨x, s2, rfl, hh⟩ := xpI_ex h
    clear h
    have h := hh
    clear hh
    exact lv_icmp_ge hx hb hdec ht (fun c1 => kJ _ e' r' he _ _ _ (h.1 c1) hG hC hY H locs ls hP hS hl hlo hso.2.2) (fun c1 => kN _ _ _ (h.2 c1) hG hC hY H locs ls hP hS hl hlo hso.2.2)
  case gt =>
    obtain ⟨y, s1, rfl, hh⟩ := xpI_ex (show xpI st _ from h)
    clear h
    have h := hh
    clear hh
    obtain ⟨x, s2, rfl, hh⟩ := xpI_ex h
    clear h
    have h := hh
    clear hh
    exact lv_icmp_gt hx hb hdec ht (fun c1 => kJ _ e' r' he _ _ _ (h.1 c1) hG hC hY H locs ls hP hS hl hlo hso.2.2) (fun c1 => kN _ _ _ (h.2 c1) hG hC hY H locs ls hP hS hl hlo hso.2.2)
  case le =>
    obtain ⟨y, s1, rfl, hh⟩ := xpI_ex (show xpI st _ from h)
    clear h
    have h := hh
    clear hh
    obtain ⟨x, s2, rfl, hh⟩ := xpI_ex h
    clear h
    have h := hh
    clear hh
    exact lv_icmp_le hx hb hdec ht (fun c1 => kJ _ e' r' he _ _ _ (h.1 c1) hG hC hY H locs ls hP hS hl hlo hso.2.2) (fun c1 => kN _ _ _ (h.2 c1) hG hC hY H locs ls hP hS hl hlo hso.2.2)
set_option maxHeartbeats 1000000 in
theorem xso_ifnull {G : xG} {E : xE} {d : Nat} {Q : xP} {pc len : Nat} {tg : List Nat} {cst : xV} {r : List xT} {lv st : List xV} {μ : xM} {k : xK} {p : Program} {e : Env} {s : State} {m : MethodId} {args : Array Value} {below : List Frame} {meth : Method} {c : Code} {R : Room} {nc ns : Nat} {QS : State → Prop} {A : Nat → Prop} (o : Int) (hE : xEok E)
    (kN : ∀ lv st μ, k r lv st μ → WS G E (d + 1) (p, e, s, m, args, below, meth, c, R, nc, ns, QS, A) Q (pc + len) lv st μ)
    (kJ : ∀ t e' r', E.2.2.1.drop t = e' :: r' → ∀ lv st μ, k (E.2.2.1.drop t) lv st μ → WS G E (d + 1) (p, e, s, m, args, below, meth, c, R, nc, ns, QS, A) Q e'.1 lv st μ)
    (hdec : decode E.2.1.2.1 pc = .ok ((.ifnull o), len)) (hch : xchk E (pc, (.ifnull o), len, tg, cst) = true)
    (h : xstep (MW G d) E Q (pc, (.ifnull o), len, tg, cst) r lv st μ k) : WS G E (d + 1) (p, e, s, m, args, below, meth, c, R, nc, ns, QS, A) Q pc lv st μ := by
  intro hG hC hY H locs ls hP hS hl hlo hso
  obtain ⟨hx, hb, hr, hml, hown, hts, hK, hlocks⟩ := id hC
  have hD := xD_wld hG hY.2.1 μ
  have htw : ∀ w, xin w → w.before args s = true := fun w hw => hts w (List.mem_cons_of_mem _ (xin_gw hw))
  simp only [xchk, decide_eq_true_eq] at hch
  subst hch
  obtain ⟨q, s1, rfl, hh⟩ := xpR_ex (show xpR st _ from h)
  clear h
  have h := hh
  clear hh
  exact lv_ifnull hx hb hdec (kN _ _ _ h hG hC hY H locs ls hP hS hl hlo hso.2)
set_option maxHeartbeats 1000000 in
theorem xso_goto {G : xG} {E : xE} {d : Nat} {Q : xP} {pc len : Nat} {tg : List Nat} {cst : xV} {r : List xT} {lv st : List xV} {μ : xM} {k : xK} {p : Program} {e : Env} {s : State} {m : MethodId} {args : Array Value} {below : List Frame} {meth : Method} {c : Code} {R : Room} {nc ns : Nat} {QS : State → Prop} {A : Nat → Prop} (o : Int) (hE : xEok E)
    (kN : ∀ lv st μ, k r lv st μ → WS G E (d + 1) (p, e, s, m, args, below, meth, c, R, nc, ns, QS, A) Q (pc + len) lv st μ)
    (kJ : ∀ t e' r', E.2.2.1.drop t = e' :: r' → ∀ lv st μ, k (E.2.2.1.drop t) lv st μ → WS G E (d + 1) (p, e, s, m, args, below, meth, c, R, nc, ns, QS, A) Q e'.1 lv st μ)
    (hdec : decode E.2.1.2.1 pc = .ok ((.goto o), len)) (hch : xchk E (pc, (.goto o), len, tg, cst) = true)
    (h : xstep (MW G d) E Q (pc, (.goto o), len, tg, cst) r lv st μ k) : WS G E (d + 1) (p, e, s, m, args, below, meth, c, R, nc, ns, QS, A) Q pc lv st μ := by
  intro hG hC hY H locs ls hP hS hl hlo hso
  obtain ⟨hx, hb, hr, hml, hown, hts, hK, hlocks⟩ := id hC
  have hD := xD_wld hG hY.2.1 μ
  have htw : ∀ w, xin w → w.before args s = true := fun w hw => hts w (List.mem_cons_of_mem _ (xin_gw hw))
  simp only [xchk, Bool.and_eq_true, decide_eq_true_eq] at hch
  obtain ⟨hlen, hc⟩ := hch
  subst hlen
  obtain ⟨e', r', he, ht⟩ := xtgt_ok hc
  exact lv_goto hx hb hdec ht (kJ _ e' r' he _ _ _ h hG hC hY H locs ls hP hS hl hlo hso)
set_option maxHeartbeats 1000000 in
theorem xso_tableswitch {G : xG} {E : xE} {d : Nat} {Q : xP} {pc len : Nat} {tg : List Nat} {cst : xV} {r : List xT} {lv st : List xV} {μ : xM} {k : xK} {p : Program} {e : Env} {s : State} {m : MethodId} {args : Array Value} {below : List Frame} {meth : Method} {c : Code} {R : Room} {nc ns : Nat} {QS : State → Prop} {A : Nat → Prop} (dd lo hi : Int) (offs : Array Int) (hE : xEok E)
    (kN : ∀ lv st μ, k r lv st μ → WS G E (d + 1) (p, e, s, m, args, below, meth, c, R, nc, ns, QS, A) Q (pc + len) lv st μ)
    (kJ : ∀ t e' r', E.2.2.1.drop t = e' :: r' → ∀ lv st μ, k (E.2.2.1.drop t) lv st μ → WS G E (d + 1) (p, e, s, m, args, below, meth, c, R, nc, ns, QS, A) Q e'.1 lv st μ)
    (hdec : decode E.2.1.2.1 pc = .ok ((.tableswitch dd lo hi offs), len)) (hch : xchk E (pc, (.tableswitch dd lo hi offs), len, tg, cst) = true)
    (h : xstep (MW G d) E Q (pc, (.tableswitch dd lo hi offs), len, tg, cst) r lv st μ k) : WS G E (d + 1) (p, e, s, m, args, below, meth, c, R, nc, ns, QS, A) Q pc lv st μ := by
  intro hG hC hY H locs ls hP hS hl hlo hso
  obtain ⟨hx, hb, hr, hml, hown, hts, hK, hlocks⟩ := id hC
  have hD := xD_wld hG hY.2.1 μ
  have htw : ∀ w, xin w → w.before args s = true := fun w hw => hts w (List.mem_cons_of_mem _ (xin_gw hw))
  rcases tg with _ | ⟨t, ts⟩
  · simp [xchk] at hch
  simp only [xchk, Bool.and_eq_true, decide_eq_true_eq] at hch
  obtain ⟨⟨hd1, hts1⟩, hsz, hlo1, hhi1⟩ := hch
  obtain ⟨x, s1, rfl, hh⟩ := xpI_ex (show xpI st _ from h)
  clear h
  have h := hh
  clear hh
  obtain ⟨hlen1, hget⟩ := xtgts_get _ _ hts1
  have hlen2 : offs.size = ts.length := by simpa using hlen1
  have h : xtsw x lo ts _ _ := h
  rcases xtsw_ex ts lo h with ⟨j, t', e1, e2, e3⟩ | ⟨e1, e2⟩
  · obtain ⟨o, ho, hot⟩ := hget j t' e1
    obtain ⟨e', r', he, ht⟩ := xtgt_ok hot
    have hj : j < ts.length := (List.getElem?_eq_some_iff.mp e1).1
    have hxi : x.toInt = lo + (j : Int) := xofI e2 (by omega) (by omega)
    refine lv_tableIn hx hb hdec (by rw [hxi]; omega) (by rw [hxi]; omega) (off := o) ?_ ht (kJ _ e' r' he _ _ _ e3 hG hC hY H locs ls hP hS hl hlo hso.2)
    rw [hxi, show lo + (j : Int) - lo = (j : Int) by omega, Int.toNat_natCast]
    simpa using ho
  · obtain ⟨e', r', he, ht⟩ := xtgt_ok hd1
    refine lv_tableOut hx hb hdec ?_ ht (kJ _ e' r' he _ _ _ e2 hG hC hY H locs ls hP hS hl hlo hso.2)
    rcases Int.lt_or_le x.toInt lo with q | q
    · exact Or.inl q
    · rcases Int.lt_or_le hi x.toInt with q2 | q2
      · exact Or.inr q2
      · exfalso
        refine e1 (x.toInt - lo).toNat (by omega) ?_
        rw [show lo + ((x.toInt - lo).toNat : Int) = x.toInt by omega]
        exact (Int32.ofInt_toInt x).symm
set_option maxHeartbeats 1000000 in
theorem xso_lookupswitch {G : xG} {E : xE} {d : Nat} {Q : xP} {pc len : Nat} {tg : List Nat} {cst : xV} {r : List xT} {lv st : List xV} {μ : xM} {k : xK} {p : Program} {e : Env} {s : State} {m : MethodId} {args : Array Value} {below : List Frame} {meth : Method} {c : Code} {R : Room} {nc ns : Nat} {QS : State → Prop} {A : Nat → Prop} (dd : Int) (ps : Array (Int × Int)) (hE : xEok E)
    (kN : ∀ lv st μ, k r lv st μ → WS G E (d + 1) (p, e, s, m, args, below, meth, c, R, nc, ns, QS, A) Q (pc + len) lv st μ)
    (kJ : ∀ t e' r', E.2.2.1.drop t = e' :: r' → ∀ lv st μ, k (E.2.2.1.drop t) lv st μ → WS G E (d + 1) (p, e, s, m, args, below, meth, c, R, nc, ns, QS, A) Q e'.1 lv st μ)
    (hdec : decode E.2.1.2.1 pc = .ok ((.lookupswitch dd ps), len)) (hch : xchk E (pc, (.lookupswitch dd ps), len, tg, cst) = true)
    (h : xstep (MW G d) E Q (pc, (.lookupswitch dd ps), len, tg, cst) r lv st μ k) : WS G E (d + 1) (p, e, s, m, args, below, meth, c, R, nc, ns, QS, A) Q pc lv st μ := by
  intro hG hC hY H locs ls hP hS hl hlo hso
  obtain ⟨hx, hb, hr, hml, hown, hts, hK, hlocks⟩ := id hC
  have hD := xD_wld hG hY.2.1 μ
  have htw : ∀ w, xin w → w.before args s = true := fun w hw => hts w (List.mem_cons_of_mem _ (xin_gw hw))
  rcases tg with _ | ⟨t, ts⟩
  · simp [xchk] at hch
  simp only [xchk, Bool.and_eq_true] at hch
  obtain ⟨⟨⟨hd1, hts1⟩, hky⟩, hsrt⟩ := hch
  obtain ⟨x, s1, rfl, hh⟩ := xpI_ex (show xpI st _ from h)
  clear h
  have h := hh
  clear hh
  have h : xlsw x ps.toList ts _ _ := h
  rcases xlsw_ex (d := dd) ps.toList ts hts1 hky h with ⟨o, t', e1, e2, e3⟩ | ⟨e1, e2⟩
  · obtain ⟨e', r', he, ht⟩ := xtgt_ok e2
    exact lv_lookup hx hb hdec hsrt e1 ht (kJ _ e' r' he _ _ _ e3 hG hC hY H locs ls hP hS hl hlo hso.2)
  · obtain ⟨e', r', he, ht⟩ := xtgt_ok hd1
    exact lv_lookup hx hb hdec hsrt e1 ht (kJ _ e' r' he _ _ _ e2 hG hC hY H locs ls hP hS hl hlo hso.2)
end
section
set_option maxHeartbeats 1000000 in
theorem xso_getfield {G : xG} {E : xE} {d : Nat} {Q : xP} {pc len : Nat} {tg : List Nat} {cst : xV} {r : List xT} {lv st : List xV} {μ : xM} {k : xK} {p : Program} {e : Env} {s : State} {m : MethodId} {args : Array Value} {below : List Frame} {meth : Method} {c : Code} {R : Room} {nc ns : Nat} {QS : State → Prop} {A : Nat → Prop} (n : Nat) (hE : xEok E)
    (kN : ∀ lv st μ, k r lv st μ → WS G E (d + 1) (p, e, s, m, args, below, meth, c, R, nc, ns, QS, A) Q (pc + len) lv st μ)
    (kJ : ∀ t e' r', E.2.2.1.drop t = e' :: r' → ∀ lv st μ, k (E.2.2.1.drop t) lv st μ → WS G E (d + 1) (p, e, s, m, args, below, meth, c, R, nc, ns, QS, A) Q e'.1 lv st μ)
    (hdec : decode E.2.1.2.1 pc = .ok ((.getfield n), len)) (hch : xchk E (pc, (.getfield n), len, tg, cst) = true)
    (h : xstep (MW G d) E Q (pc, (.getfield n), len, tg, cst) r lv st μ k) : WS G E (d + 1) (p, e, s, m, args, below, meth, c, R, nc, ns, QS, A) Q pc lv st μ := by
  intro hG hC hY H locs ls hP hS hl hlo hso
  obtain ⟨hx, hb, hr, hml, hown, hts, hK, hlocks⟩ := id hC
  have hD := xD_wld hG hY.2.1 μ
  have htw : ∀ w, xin w → w.before args s = true := fun w hw => hts w (List.mem_cons_of_mem _ (xin_gw hw))
  simp only [xchk, Bool.and_eq_true, decide_eq_true_eq] at hch
  obtain ⟨hlen, hc⟩ := hch
  subst hlen
  obtain ⟨f, hf, ef⟩ := List.any_eq_true.mp hc
  obtain ⟨e1, e2, e3⟩ := of_decide_eq_true ef
  obtain ⟨C, T, N, hc1, hkN, hlink, -⟩ := hE.2.2.2.1.1 f hf
  rw [e2] at hc1
  rw [e3] at hkN
  rw [e1, e3] at hlink
  obtain ⟨hu, -, -⟩ := xcl_ok _ C T N hc1
  obtain ⟨q, s1, rfl, hh⟩ := xpR_ex (show xpR st _ from h)
  clear h
  have h := hh
  clear hh
  obtain ⟨fs, ho, h⟩ := xfld_ex h
  have hq : xok G.2.2.2.2 q = true := xvo_o hso.1 ho
  obtain ⟨n1, hn1, hw1⟩ := xwld_get (ad := G.2.1) (b := G.2.2.2.2) (cA := G.2.2.2.1) μ hq
  rw [xcell_obj ho] at hw1
  rcases h with ⟨hk, h⟩ | ⟨r1, hk, h⟩
  · exact va_get (D := G.2.2.1) (v := .int (μ q (xt1 tg))) hx hb hts (fun w hw => List.mem_cons_of_mem _ (xin_gw (hu w hw))) hown hK hP n1 hw1 hc1 _ hkN (htw _ hlink) (fun _ h9 => h9) (by have := xfs_int (ad := G.2.1) (f := μ q) fs 0 _ hk; rwa [Nat.zero_add] at this) hdec (kN _ _ _ h hG hC hY H locs ls hP hS hl hlo ⟨trivial, hso.2⟩)
  · exact va_get (D := G.2.2.1) (v := .ref (G.2.1 r1)) hx hb hts (fun w hw => List.mem_cons_of_mem _ (xin_gw (hu w hw))) hown hK hP n1 hw1 hc1 _ hkN (htw _ hlink) (fun _ h9 => h9) (xfs_ref fs 0 _ hk) hdec (kN _ _ _ h hG hC hY H locs ls hP hS hl hlo ⟨Or.inr (xobj_ok hq ho (List.mem_of_getElem? hk)), hso.2⟩)
set_option maxHeartbeats 1000000 in
theorem xso_putfield {G : xG} {E : xE} {d : Nat} {Q : xP} {pc len : Nat} {tg : List Nat} {cst : xV} {r : List xT} {lv st : List xV} {μ : xM} {k : xK} {p : Program} {e : Env} {s : State} {m : MethodId} {args : Array Value} {below : List Frame} {meth : Method} {c : Code} {R : Room} {nc ns : Nat} {QS : State → Prop} {A : Nat → Prop} (n : Nat) (hE : xEok E)
    (kN : ∀ lv st μ, k r lv st μ → WS G E (d + 1) (p, e, s, m, args, below, meth, c, R, nc, ns, QS, A) Q (pc + len) lv st μ)
    (kJ : ∀ t e' r', E.2.2.1.drop t = e' :: r' → ∀ lv st μ, k (E.2.2.1.drop t) lv st μ → WS G E (d + 1) (p, e, s, m, args, below, meth, c, R, nc, ns, QS, A) Q e'.1 lv st μ)
    (hdec : decode E.2.1.2.1 pc = .ok ((.putfield n), len)) (hch : xchk E (pc, (.putfield n), len, tg, cst) = true)
    (h : xstep (MW G d) E Q (pc, (.putfield n), len, tg, cst) r lv st μ k) : WS G E (d + 1) (p, e, s, m, args, below, meth, c, R, nc, ns, QS, A) Q pc lv st μ := by
  intro hG hC hY H locs ls hP hS hl hlo hso
  obtain ⟨hx, hb, hr, hml, hown, hts, hK, hlocks⟩ := id hC
  have hD := xD_wld hG hY.2.1 μ
  have htw : ∀ w, xin w → w.before args s = true := fun w hw => hts w (List.mem_cons_of_mem _ (xin_gw hw))
  simp only [xchk, Bool.and_eq_true, decide_eq_true_eq] at hch
  obtain ⟨hlen, hc⟩ := hch
  subst hlen
  obtain ⟨f, hf, ef⟩ := List.any_eq_true.mp hc
  obtain ⟨e1, e2, e3, e4⟩ := of_decide_eq_true ef
  obtain ⟨C, T, N, hc1, hkN, hlink, hkI, hkZ⟩ := hE.2.2.2.1.1 f hf
  rw [e2] at hc1
  rw [e3] at hkN hkI hkZ
  rw [e1, e3] at hlink
  obtain ⟨hu, ⟨ty0, hty⟩, hnm⟩ := xcl_ok _ C T N hc1
  obtain ⟨x, s0, rfl, hh⟩ := xpI_ex (show xpI st _ from h)
  clear h
  have h := hh
  clear hh
  obtain ⟨q, s1, rfl, hh⟩ := xpR_ex h
  clear h
  have h := hh
  clear hh
  obtain ⟨fs, ho, h⟩ := xfld_ex h
  have hq : xok G.2.2.2.2 q = true := xvo_o hso.2.1 ho
  obtain ⟨n1, hn1, hw1⟩ := xwld_get (ad := G.2.1) (b := G.2.2.2.2) (cA := G.2.2.2.1) μ hq
  rw [xcell_obj ho] at hw1
  rcases h with ⟨hk, h⟩ | ⟨r1, hk, h⟩
  · have hkl : xt1 tg < (xfs G.2.1 (μ q) 0 fs).length := by rw [xfs_len]; exact (List.getElem?_eq_some_iff.mp hk).1
    have key : ∀ (ty : FieldType), (T (xt1 tg)).2.2.2 = false → parseFieldDescriptor (T (xt1 tg)).2.2.1 = some ty → narrow ty (.int x) = .int x → fits ty (.int x) = true → k r lv s1 (xst μ q (xt1 tg) x) → W p G.1 e R s m args below meth c H locs nc ns QS (F0 m pc ls ((vI x :: vR q :: s1).map (xrv G.2.1))) := by
      intro ty h1 h2 h3 h4 h5
      refine va_put (D := G.2.2.1) (v := .int x) (ty := ty) hx hb hts (fun w hw => List.mem_cons_of_mem _ (xin_gw (hu w hw))) ty0 hty hnm hown hK hP hD hS n1 hw1 hc1 _ hkN (htw _ hlink) (fun _ h9 => h9) h1 h2 h3 h4 hkl hdec (fun H1 locs1 hP1 hD1 hS1 => ?_)
      rw [xwld_put hn1 ho hk] at hP1
      exact kN _ _ _ h5 hG hC hY H1 locs1 ls hP1 hS1 hl hlo hso.2.2
    rcases cst with v | v
    · obtain ⟨h1, h2⟩ := hkZ e4
      have h : (x = 0 ∨ x = 1) ∧ k r lv s1 (xst μ q (xt1 tg) x) := h
      refine key .boolean h1 (by rw [h2]; decide +kernel) ?_ ?_ h.2 <;> rcases h.1 with rfl | rfl <;> rfl
    · obtain ⟨h1, h2⟩ := hkI e4
      exact key .int h1 (by rw [h2]; decide +kernel) rfl rfl h
  · exact h.elim
set_option maxHeartbeats 1000000 in
theorem xso_arraylength {G : xG} {E : xE} {d : Nat} {Q : xP} {pc len : Nat} {tg : List Nat} {cst : xV} {r : List xT} {lv st : List xV} {μ : xM} {k : xK} {p : Program} {e : Env} {s : State} {m : MethodId} {args : Array Value} {below : List Frame} {meth : Method} {c : Code} {R : Room} {nc ns : Nat} {QS : State → Prop} {A : Nat → Prop} (hE : xEok E)
    (kN : ∀ lv st μ, k r lv st μ → WS G E (d + 1) (p, e, s, m, args, below, meth, c, R, nc, ns, QS, A) Q (pc + len) lv st μ)
    (kJ : ∀ t e' r', E.2.2.1.drop t = e' :: r' → ∀ lv st μ, k (E.2.2.1.drop t) lv st μ → WS G E (d + 1) (p, e, s, m, args, below, meth, c, R, nc, ns, QS, A) Q e'.1 lv st μ)
    (hdec : decode E.2.1.2.1 pc = .ok ((.arraylength), len)) (hch : xchk E (pc, (.arraylength), len, tg, cst) = true)
    (h : xstep (MW G d) E Q (pc, (.arraylength), len, tg, cst) r lv st μ k) : WS G E (d + 1) (p, e, s, m, args, below, meth, c, R, nc, ns, QS, A) Q pc lv st μ := by
  intro hG hC hY H locs ls hP hS hl hlo hso
  obtain ⟨hx, hb, hr, hml, hown, hts, hK, hlocks⟩ := id hC
  have hD := xD_wld hG hY.2.1 μ
  have htw : ∀ w, xin w → w.before args s = true := fun w hw => hts w (List.mem_cons_of_mem _ (xin_gw hw))
  simp only [xchk, decide_eq_true_eq] at hch
  subst hch
  obtain ⟨q, s1, rfl, hh⟩ := xpR_ex (show xpR st _ from h)
  clear h
  have h := hh
  clear hh
  have hq : xok G.2.2.2.2 q = true := xvo_l hso.1 h
  obtain ⟨t, ty, x, hcl, htys, h⟩ := xal_ex (ad := G.2.1) (cA := G.2.2.2.1) (μ := μ) h
  obtain ⟨n1, hn1, hw1⟩ := xwld_get (ad := G.2.1) (b := G.2.2.2.2) (cA := G.2.2.2.1) μ hq
  rw [hcl] at hw1
  exact va_alen hx hb hK hP n1 t hw1 htys rfl hdec (kN _ _ _ h hG hC hY H locs ls hP hS hl hlo ⟨trivial, hso.2⟩)
set_option maxHeartbeats 1000000 in
theorem xso_iaload {G : xG} {E : xE} {d : Nat} {Q : xP} {pc len : Nat} {tg : List Nat} {cst : xV} {r : List xT} {lv st : List xV} {μ : xM} {k : xK} {p : Program} {e : Env} {s : State} {m : MethodId} {args : Array Value} {below : List Frame} {meth : Method} {c : Code} {R : Room} {nc ns : Nat} {QS : State → Prop} {A : Nat → Prop} (hE : xEok E)
    (kN : ∀ lv st μ, k r lv st μ → WS G E (d + 1) (p, e, s, m, args, below, meth, c, R, nc, ns, QS, A) Q (pc + len) lv st μ)
    (kJ : ∀ t e' r', E.2.2.1.drop t = e' :: r' → ∀ lv st μ, k (E.2.2.1.drop t) lv st μ → WS G E (d + 1) (p, e, s, m, args, below, meth, c, R, nc, ns, QS, A) Q e'.1 lv st μ)
    (hdec : decode E.2.1.2.1 pc = .ok ((.iaload), len)) (hch : xchk E (pc, (.iaload), len, tg, cst) = true)
    (h : xstep (MW G d) E Q (pc, (.iaload), len, tg, cst) r lv st μ k) : WS G E (d + 1) (p, e, s, m, args, below, meth, c, R, nc, ns, QS, A) Q pc lv st μ := by
  intro hG hC hY H locs ls hP hS hl hlo hso
  obtain ⟨hx, hb, hr, hml, hown, hts, hK, hlocks⟩ := id hC
  have hD := xD_wld hG hY.2.1 μ
  have htw : ∀ w, xin w → w.before args s = true := fun w hw => hts w (List.mem_cons_of_mem _ (xin_gw hw))
  simp only [xchk, decide_eq_true_eq] at hch
  subst hch
  obtain ⟨j, s1, rfl, hh⟩ := xpI_ex (show xpI st _ from h)
  clear h
  have h := hh
  clear hh
  obtain ⟨q, s2, rfl, hh⟩ := xpR_ex h
  clear h
  have h := hh
  clear hh
  obtain ⟨n, ha, hin, h⟩ := xax_ex h
  have hq : xok G.2.2.2.2 q = true := xvo_a hso.2.1 ha
  obtain ⟨n1, hn1, hw1⟩ := xwld_get (ad := G.2.1) (b := G.2.2.2.2) (cA := G.2.2.2.1) μ hq
  rw [xcell_arr ha] at hw1
  exact va_iald hx hb hK hP n1 0 hw1 rfl hin hdec (kN _ _ _ h hG hC hY H locs ls hP hS hl hlo ⟨trivial, hso.2.2⟩)
set_option maxHeartbeats 1000000 in
theorem xso_iastore {G : xG} {E : xE} {d : Nat} {Q : xP} {pc len : Nat} {tg : List Nat} {cst : xV} {r : List xT} {lv st : List xV} {μ : xM} {k : xK} {p : Program} {e : Env} {s : State} {m : MethodId} {args : Array Value} {below : List Frame} {meth : Method} {c : Code} {R : Room} {nc ns : Nat} {QS : State → Prop} {A : Nat → Prop} (hE : xEok E)
    (kN : ∀ lv st μ, k r lv st μ → WS G E (d + 1) (p, e, s, m, args, below, meth, c, R, nc, ns, QS, A) Q (pc + len) lv st μ)
    (kJ : ∀ t e' r', E.2.2.1.drop t = e' :: r' → ∀ lv st μ, k (E.2.2.1.drop t) lv st μ → WS G E (d + 1) (p, e, s, m, args, below, meth, c, R, nc, ns, QS, A) Q e'.1 lv st μ)
    (hdec : decode E.2.1.2.1 pc = .ok ((.iastore), len)) (hch : xchk E (pc, (.iastore), len, tg, cst) = true)
    (h : xstep (MW G d) E Q (pc, (.iastore), len, tg, cst) r lv st μ k) : WS G E (d + 1) (p, e, s, m, args, below, meth, c, R, nc, ns, QS, A) Q pc lv st μ := by
  intro hG hC hY H locs ls hP hS hl hlo hso
  obtain ⟨hx, hb, hr, hml, hown, hts, hK, hlocks⟩ := id hC
  have hD := xD_wld hG hY.2.1 μ
  have htw : ∀ w, xin w → w.before args s = true := fun w hw => hts w (List.mem_cons_of_mem _ (xin_gw hw))
  simp only [xchk, decide_eq_true_eq] at hch
  subst hch
  obtain ⟨x, s0, rfl, hh⟩ := xpI_ex (show xpI st _ from h)
  clear h
  have h := hh
  clear hh
  obtain ⟨j, s1, rfl, hh⟩ := xpI_ex h
  clear h
  have h := hh
  clear hh
  obtain ⟨q, s2, rfl, hh⟩ := xpR_ex h
  clear h
  have h := hh
  clear hh
  obtain ⟨n, ha, hin, h⟩ := xax_ex h
  have hq : xok G.2.2.2.2 q = true := xvo_a hso.2.2.1 ha
  obtain ⟨n1, hn1, hw1⟩ := xwld_get (ad := G.2.1) (b := G.2.2.2.2) (cA := G.2.2.2.1) μ hq
  rw [xcell_arr ha] at hw1
  refine va_iast hx hb hK hP hD hS n1 0 hw1 rfl hin hdec (fun H1 locs1 hP1 hD1 hS1 => ?_)
  rw [xwld_arr hn1 ha] at hP1
  exact kN _ _ _ h hG hC hY H1 locs1 ls hP1 hS1 hl hlo hso.2.2.2
set_option maxHeartbeats 1000000 in
theorem xso_aaload {G : xG} {E : xE} {d : Nat} {Q : xP} {pc len : Nat} {tg : List Nat} {cst : xV} {r : List xT} {lv st : List xV} {μ : xM} {k : xK} {p : Program} {e : Env} {s : State} {m : MethodId} {args : Array Value} {below : List Frame} {meth : Method} {c : Code} {R : Room} {nc ns : Nat} {QS : State → Prop} {A : Nat → Prop} (hE : xEok E)
    (kN : ∀ lv st μ, k r lv st μ → WS G E (d + 1) (p, e, s, m, args, below, meth, c, R, nc, ns, QS, A) Q (pc + len) lv st μ)
    (kJ : ∀ t e' r', E.2.2.1.drop t = e' :: r' → ∀ lv st μ, k (E.2.2.1.drop t) lv st μ → WS G E (d + 1) (p, e, s, m, args, below, meth, c, R, nc, ns, QS, A) Q e'.1 lv st μ)
    (hdec : decode E.2.1.2.1 pc = .ok ((.aaload), len)) (hch : xchk E (pc, (.aaload), len, tg, cst) = true)
    (h : xstep (MW G d) E Q (pc, (.aaload), len, tg, cst) r lv st μ k) : WS G E (d + 1) (p, e, s, m, args, below, meth, c, R, nc, ns, QS, A) Q pc lv st μ := by
  intro hG hC hY H locs ls hP hS hl hlo hso
  obtain ⟨hx, hb, hr, hml, hown, hts, hK, hlocks⟩ := id hC
  have hD := xD_wld hG hY.2.1 μ
  have htw : ∀ w, xin w → w.before args s = true := fun w hw => hts w (List.mem_cons_of_mem _ (xin_gw hw))
  simp only [xchk, decide_eq_true_eq] at hch
  subst hch
  obtain ⟨j, s1, rfl, hh⟩ := xpI_ex (show xpI st _ from h)
  clear h
  have h := hh
  clear hh
  obtain ⟨q, s2, rfl, hh⟩ := xpR_ex h
  clear h
  have h := hh
  clear hh
  have hq : xok G.2.2.2.2 q = true := xvo_g hso.2.1 h
  obtain ⟨k1, j1, c1⟩ := q
  have hk1 : k1 = 10 := by
    unfold xrg at h
    split at h
    · rename_i heq; cases heq; rfl
    · exact h.elim
  subst hk1
  have h : vp_in j 5 ∧ k r lv (vR (4, 2 + j.toNatClampNeg, 0) :: s2) μ := h
  obtain ⟨n1, hn1, hw1⟩ := xwld_get (ad := G.2.1) (b := G.2.2.2.2) (cA := G.2.2.2.1) μ hq
  have hlt : j.toNatClampNeg < 5 := Nat.not_le.mp fun z => h.1 (Or.inr z)
  exact va_aldq hx hb hK hP n1 1 hw1 rfl h.1 hdec (kN _ _ _ h.2 hG hC hY H locs ls hP hS hl hlo ⟨Or.inr (by show xok _ _ = true; simp [xok]; omega), hso.2.2⟩)
set_option maxHeartbeats 1000000 in
theorem xso_invokevirtual {G : xG} {E : xE} {d : Nat} {Q : xP} {pc len : Nat} {tg : List Nat} {cst : xV} {r : List xT} {lv st : List xV} {μ : xM} {k : xK} {p : Program} {e : Env} {s : State} {m : MethodId} {args : Array Value} {below : List Frame} {meth : Method} {c : Code} {R : Room} {nc ns : Nat} {QS : State → Prop} {A : Nat → Prop} (n : Nat) (hE : xEok E)
    (kN : ∀ lv st μ, k r lv st μ → WS G E (d + 1) (p, e, s, m, args, below, meth, c, R, nc, ns, QS, A) Q (pc + len) lv st μ)
    (kJ : ∀ t e' r', E.2.2.1.drop t = e' :: r' → ∀ lv st μ, k (E.2.2.1.drop t) lv st μ → WS G E (d + 1) (p, e, s, m, args, below, meth, c, R, nc, ns, QS, A) Q e'.1 lv st μ)
    (hdec : decode E.2.1.2.1 pc = .ok ((.invokevirtual n), len)) (hch : xchk E (pc, (.invokevirtual n), len, tg, cst) = true)
    (h : xstep (MW G d) E Q (pc, (.invokevirtual n), len, tg, cst) r lv st μ k) : WS G E (d + 1) (p, e, s, m, args, below, meth, c, R, nc, ns, QS, A) Q pc lv st μ := by
  intro hG hC hY H locs ls hP hS hl hlo hso
  obtain ⟨hx, hb, hr, hml, hown, hts, hK, hlocks⟩ := id hC
  have hD := xD_wld hG hY.2.1 μ
  have htw : ∀ w, xin w → w.before args s = true := fun w hw => hts w (List.mem_cons_of_mem _ (xin_gw hw))
  simp only [xchk, Bool.and_eq_true, decide_eq_true_eq] at hch
  obtain ⟨hlen, hc⟩ := hch
  subst hlen
  obtain ⟨qe, rr, hd1, h⟩ := xfind_ex (show xfind _ _ _ from h)
  have hc : qe.1 = n ∧ qe.2.1 = xt1 tg := by
    unfold xme at hc
    rw [hd1] at hc
    simpa using hc
  obtain ⟨B1, s1, rfl, hB1, hh⟩ := xargs_ex _ _ _ _ h
  clear h
  have h := hh
  clear hh
  obtain ⟨q, s2, rfl, hh⟩ := xpR_ex h
  clear h
  have h := hh
  clear hh
  obtain ⟨⟨fs, ho⟩, h⟩ := xro_ex h
  obtain ⟨h8, h18, h⟩ := xifv_ex h
  obtain ⟨⟨T, N, hcl⟩, ⟨hml1, hcode, hini, hn1, hn2, hpar, h21⟩, hinst, hsel⟩ := hE.2.2.2.1.2.1 qe (xdrop_mem hd1)
  rw [hc.2] at hcl
  rw [hc.1] at hml1
  rw [List.append_nil] at h
  obtain ⟨hso1, hso2⟩ := xoks_app hso
  have hq : xok G.2.2.2.2 q = true := xvo_o hso2.1 ho
  have hM := h hG (fun v hv => by
    rcases List.mem_cons.mp hv with rfl | hv
    · exact Or.inr hq
    · exact xoks_mem hso1 v (List.mem_reverse.mpr hv))
  obtain ⟨n2, hn2', hw2⟩ := xwld_get (ad := G.2.1) (b := G.2.2.2.2) (cA := G.2.2.2.1) μ hq
  rw [xcell_obj ho] at hw2
  have hgood : GoodIn (xws E.2.1) (xws qe.2.2) := by
    intro w hw
    rcases List.mem_cons.mp hw with rfl | hw
    · exact ⟨List.mem_cons_of_mem _ (xin_gw hcode), xgood (xin_gw hcode)⟩
    · exact ⟨List.mem_cons_of_mem _ hw, xgood hw⟩
  refine xcall_go hY.2.1 (va_runV (As := B1.map (xrv G.2.1)) (rest := s2.map (xrv G.2.1)) (b := G.2.1 q) ⟨hx, hb, hml, hown, hts⟩ hM ⟨callB_of qe.2.2.2.2.2.2 hts hgood rfl rfl rfl (htw _ hini) (htw _ hml1) ⟨hn1, hn2, hpar⟩ ⟨hY.1.1, by have := hY.1.2.1; show 8 + (qe.2.2.2.2.1 + 11) + 37 * d ≤ R.locals; omega⟩, htw _ hinst, htw _ hsel⟩ ⟨xblind G _ μ, va_recv hK hP (ci := xt1 tg) (q0 := n2) hcl hw2, fun U hU hW => ⟨rfl, by rw [hU]; exact hP, va_K.moved hW.alike hK⟩⟩ rfl (by rw [List.length_map]; exact hB1) hl.1 (by simp [xrv]) (lv_room (by rw [xcats_eq]; exact h8)) hdec ⟨hY.1.2.2.1, hY.1.2.2.2⟩) hS (fun r1 μ' H1 locs1 hq1 hv1 hP1 hS1 => ?_)
  obtain ⟨st', hk', est, hok'⟩ := xret_ex (ad := G.2.1) hq1
  rw [est]
  exact kN _ _ _ hk' hG hC hY H1 locs1 ls hP1 hS1 hl hlo (hok' _ hso2.2 hv1)
set_option maxHeartbeats 1000000 in
theorem xso_invokestatic {G : xG} {E : xE} {d : Nat} {Q : xP} {pc len : Nat} {tg : List Nat} {cst : xV} {r : List xT} {lv st : List xV} {μ : xM} {k : xK} {p : Program} {e : Env} {s : State} {m : MethodId} {args : Array Value} {below : List Frame} {meth : Method} {c : Code} {R : Room} {nc ns : Nat} {QS : State → Prop} {A : Nat → Prop} (n : Nat) (hE : xEok E)
    (kN : ∀ lv st μ, k r lv st μ → WS G E (d + 1) (p, e, s, m, args, below, meth, c, R, nc, ns, QS, A) Q (pc + len) lv st μ)
    (kJ : ∀ t e' r', E.2.2.1.drop t = e' :: r' → ∀ lv st μ, k (E.2.2.1.drop t) lv st μ → WS G E (d + 1) (p, e, s, m, args, below, meth, c, R, nc, ns, QS, A) Q e'.1 lv st μ)
    (hdec : decode E.2.1.2.1 pc = .ok ((.invokestatic n), len)) (hch : xchk E (pc, (.invokestatic n), len, tg, cst) = true)
    (h : xstep (MW G d) E Q (pc, (.invokestatic n), len, tg, cst) r lv st μ k) : WS G E (d + 1) (p, e, s, m, args, below, meth, c, R, nc, ns, QS, A) Q pc lv st μ := by
  intro hG hC hY H locs ls hP hS hl hlo hso
  obtain ⟨hx, hb, hr, hml, hown, hts, hK, hlocks⟩ := id hC
  have hD := xD_wld hG hY.2.1 μ
  have htw : ∀ w, xin w → w.before args s = true := fun w hw => hts w (List.mem_cons_of_mem _ (xin_gw hw))
  simp only [xchk, Bool.and_eq_true, decide_eq_true_eq] at hch
  obtain ⟨hlen, hc⟩ := hch
  subst hlen
  simp only [xstep] at h
  split at h
  · rename_i h0
    rw [h0] at hc
    obtain ⟨qe, rr, hd1, h⟩ := xfind_ex h
    have hc : qe.1 = n := by
      have hc : xme0 _ _ _ = true := hc
      unfold xme0 at hc
      rw [hd1] at hc
      simpa using hc
    obtain ⟨B1, s1, rfl, hB1, hh⟩ := xargs_ex _ _ _ _ h
    clear h
    have h := hh
    clear hh
    obtain ⟨h26, h⟩ := xif26_ex h
    obtain ⟨⟨hml1, hcode, hini, hn1, hn2, hpar, h21⟩, hstat⟩ := hE.2.2.2.1.2.2.1 qe (xdrop_mem hd1)
    rw [hc] at hml1
    rw [List.append_nil] at h
    obtain ⟨hso1, hso2⟩ := xoks_app hso
    have hM := h hG (fun v hv => xoks_mem hso1 v (List.mem_reverse.mpr hv))
    have hgood : GoodIn (xws E.2.1) (xws qe.2.2) := by
      intro w hw
      rcases List.mem_cons.mp hw with rfl | hw
      · exact ⟨List.mem_cons_of_mem _ (xin_gw hcode), xgood (xin_gw hcode)⟩
      · exact ⟨List.mem_cons_of_mem _ hw, xgood hw⟩
    refine xcall_go hY.2.1 (xrunS (W := xcats s1) (As := B1.map (xrv G.2.1)) (rest := s1.map (xrv G.2.1)) ⟨hx, hb, hml, hown, hts⟩ hM hts hgood rfl rfl rfl (htw _ hini) (htw _ hml1) ⟨hn1, hn2, hpar⟩ hY.1.1 (by have := hY.1.2.1; show xcats s1 + (qe.2.2.2.2.1 + 11) + 37 * d ≤ R.locals; omega) (htw _ hstat) ⟨xblind G _ μ, fun U hU hW => ⟨rfl, by rw [hU]; exact hP, va_K.moved hW.alike hK⟩⟩ rfl (by rw [List.length_map]; exact hB1) hl.1 (by simp) (xroom (by rw [xcats_eq]; exact Nat.le_refl _)) hdec ⟨hY.1.2.2.1, hY.1.2.2.2⟩) hS (fun r1 μ' H1 locs1 hq1 hv1 hP1 hS1 => ?_)
    obtain ⟨st', hk', est, hok'⟩ := xret_ex (ad := G.2.1) hq1
    rw [est]
    exact kN _ _ _ hk' hG hC hY H1 locs1 ls hP1 hS1 hl hlo (hok' _ hso2 hv1)
  · rename_i h0
    rw [h0] at hc
    obtain ⟨q, hq, eq⟩ := List.any_eq_true.mp (show List.any _ _ = true from hc)
    have eq := of_decide_eq_true eq
    have hF := (hE.2.2.2.1.2.2.2.2 q hq).1 (by rw [eq])
    rw [eq] at hF
    obtain ⟨f1, f2, f3, f4⟩ := hF
    obtain ⟨y, s1, rfl, hh⟩ := xpI_ex h
    clear h
    have h := hh
    clear hh
    obtain ⟨x, s2, rfl, hh⟩ := xpI_ex h
    clear h
    have h := hh
    clear hh
    obtain ⟨h8, h⟩ := xif8_ex h
    exact va_mmin hx hb (hml.trans hl.1.symm) hown (htw _ f1) (htw _ f2) (htw _ f3) (htw _ f4) (by have := hY.1.1; omega) (by have := hY.1.2.1; rw [xcats_eq]; omega) hY.1.2.2.1 hY.1.2.2.2 hdec (kN _ _ _ h hG hC hY H locs ls hP hS hl hlo ⟨trivial, hso.2.2⟩)
  · rename_i h0
    rw [h0] at hc
    obtain ⟨q, hq, eq⟩ := List.any_eq_true.mp (show List.any _ _ = true from hc)
    have eq := of_decide_eq_true eq
    have hF := (hE.2.2.2.1.2.2.2.2 q hq).2 (by rw [eq])
    rw [eq] at hF
    obtain ⟨f1, f2, f3, f4⟩ := hF
    obtain ⟨z, s1, rfl, hh⟩ := xpI_ex h
    clear h
    have h := hh
    clear hh
    obtain ⟨dp, s2, rfl, hh⟩ := xpI_ex h
    clear h
    have h := hh
    clear hh
    obtain ⟨qb, s3, rfl, hh⟩ := xpR_ex h
    clear h
    have h := hh
    clear hh
    obtain ⟨sp, s4, rfl, hh⟩ := xpI_ex h
    clear h
    have h := hh
    clear hh
    obtain ⟨qa, s5, rfl, hh⟩ := xpR_ex h
    clear h
    have h := hh
    clear hh
    obtain ⟨za, ha, h⟩ := xax_ex h
    obtain ⟨zb, hb1, h⟩ := xax_ex h
    rcases s5 with _ | ⟨v, s5⟩
    · obtain ⟨g1, g2, g3, g4, g5, h⟩ := (show _ ∧ _ ∧ _ ∧ _ ∧ _ ∧ _ from h)
      have hqb : xok G.2.2.2.2 qb = true := xvo_a hso.2.2.1 hb1
      have hqa : xok G.2.2.2.2 qa = true := xvo_a hso.2.2.2.2.1 ha
      obtain ⟨na, hna, hwa⟩ := xwld_get (ad := G.2.1) (b := G.2.2.2.2) (cA := G.2.2.2.1) μ hqa
      obtain ⟨nb, hnb, hwb⟩ := xwld_get (ad := G.2.1) (b := G.2.2.2.2) (cA := G.2.2.2.1) μ hqb
      rw [xcell_arr ha] at hwa
      rw [xcell_arr hb1] at hwb
      refine va_copyi hx hb (hml.trans hl.1.symm) hown (htw _ f1) (htw _ f2) (htw _ f3) (htw _ f4) hK hP hD hS na nb 0 0 hwa hwb rfl rfl rfl g1 g2 g3 g4 g5 (fun _ _ => rfl) (by have := hY.1.1; omega) (by have := hY.1.2.1; rw [show (List.map (fun v => Value.category v) (List.map (xrv G.2.1) [])).sum = 0 from rfl]; show 0 + (nativeFrameWords "java/lang/System" "arraycopy" 5 + 11) ≤ R.locals; exact Nat.le_trans xnat_le (by omega)) hdec (fun H1 locs1 hP1 hD1 hS1 => ?_)
      rw [xwld_cpy hnb hb1] at hP1
      exact kN _ _ _ h hG hC hY H1 locs1 ls hP1 hS1 hl hlo trivial
    · exact (show False from h).elim
  · exact h.elim
set_option maxHeartbeats 1000000 in
theorem xso_ireturn {G : xG} {E : xE} {d : Nat} {Q : xP} {pc len : Nat} {tg : List Nat} {cst : xV} {r : List xT} {lv st : List xV} {μ : xM} {k : xK} {p : Program} {e : Env} {s : State} {m : MethodId} {args : Array Value} {below : List Frame} {meth : Method} {c : Code} {R : Room} {nc ns : Nat} {QS : State → Prop} {A : Nat → Prop} (hE : xEok E)
    (kN : ∀ lv st μ, k r lv st μ → WS G E (d + 1) (p, e, s, m, args, below, meth, c, R, nc, ns, QS, A) Q (pc + len) lv st μ)
    (kJ : ∀ t e' r', E.2.2.1.drop t = e' :: r' → ∀ lv st μ, k (E.2.2.1.drop t) lv st μ → WS G E (d + 1) (p, e, s, m, args, below, meth, c, R, nc, ns, QS, A) Q e'.1 lv st μ)
    (hdec : decode E.2.1.2.1 pc = .ok ((.ireturn), len)) (hch : xchk E (pc, (.ireturn), len, tg, cst) = true)
    (h : xstep (MW G d) E Q (pc, (.ireturn), len, tg, cst) r lv st μ k) : WS G E (d + 1) (p, e, s, m, args, below, meth, c, R, nc, ns, QS, A) Q pc lv st μ := by
  intro hG hC hY H locs ls hP hS hl hlo hso
  obtain ⟨hx, hb, hr, hml, hown, hts, hK, hlocks⟩ := id hC
  have hD := xD_wld hG hY.2.1 μ
  have htw : ∀ w, xin w → w.before args s = true := fun w hw => hts w (List.mem_cons_of_mem _ (xin_gw hw))
  simp only [xchk, decide_eq_true_eq] at hch
  subst hch
  obtain ⟨x, s1, rfl, hh⟩ := xpI_ex (show xpI st _ from h)
  clear h
  have h := hh
  clear hh
  rcases s1 with _ | ⟨v, s1⟩
  · have h : xri E.2.1.2.2.2.1 x (Q (some (vI x)) μ) := h
    unfold xri at h
    split at h
    · rename_i hrt
      rcases hY.2.2 with hY2 | ⟨rfl, rfl, rfl, rfl, rfl⟩
      · exact (hY2 _ _ h).elim
      · exact W.iret hx hb (hr.trans hrt) (fun t ht hW => ⟨⟨some (vI x), μ, h, rfl, fun v hv => by cases hv; exact trivial, by rw [xB, ht]; exact ⟨hP, va_K.moved hW.alike hK⟩⟩, hS.F ht⟩) hS.2.2 hdec hlocks
    · rename_i hrt
      rcases hY.2.2 with hY2 | ⟨rfl, rfl, rfl, rfl, rfl⟩
      · exact (hY2 _ _ h.2).elim
      · exact W.zret hx hb (hr.trans hrt) (by rcases h.1 with rfl | rfl <;> rfl) (fun t ht hW => ⟨⟨some (vI x), μ, h.2, rfl, fun v hv => by cases hv; exact trivial, by rw [xB, ht]; exact ⟨hP, va_K.moved hW.alike hK⟩⟩, hS.F ht⟩) hS.2.2 hdec hlocks
    · exact h.elim
  · exact (show False from h).elim
set_option maxHeartbeats 1000000 in
theorem xso_lreturn {G : xG} {E : xE} {d : Nat} {Q : xP} {pc len : Nat} {tg : List Nat} {cst : xV} {r : List xT} {lv st : List xV} {μ : xM} {k : xK} {p : Program} {e : Env} {s : State} {m : MethodId} {args : Array Value} {below : List Frame} {meth : Method} {c : Code} {R : Room} {nc ns : Nat} {QS : State → Prop} {A : Nat → Prop} (hE : xEok E)
    (kN : ∀ lv st μ, k r lv st μ → WS G E (d + 1) (p, e, s, m, args, below, meth, c, R, nc, ns, QS, A) Q (pc + len) lv st μ)
    (kJ : ∀ t e' r', E.2.2.1.drop t = e' :: r' → ∀ lv st μ, k (E.2.2.1.drop t) lv st μ → WS G E (d + 1) (p, e, s, m, args, below, meth, c, R, nc, ns, QS, A) Q e'.1 lv st μ)
    (hdec : decode E.2.1.2.1 pc = .ok ((.lreturn), len)) (hch : xchk E (pc, (.lreturn), len, tg, cst) = true)
    (h : xstep (MW G d) E Q (pc, (.lreturn), len, tg, cst) r lv st μ k) : WS G E (d + 1) (p, e, s, m, args, below, meth, c, R, nc, ns, QS, A) Q pc lv st μ := by
  intro hG hC hY H locs ls hP hS hl hlo hso
  obtain ⟨hx, hb, hr, hml, hown, hts, hK, hlocks⟩ := id hC
  have hD := xD_wld hG hY.2.1 μ
  have htw : ∀ w, xin w → w.before args s = true := fun w hw => hts w (List.mem_cons_of_mem _ (xin_gw hw))
  simp only [xchk, decide_eq_true_eq] at hch
  subst hch
  obtain ⟨x, s1, rfl, hh⟩ := xpL_ex (show xpL st _ from h)
  clear h
  have h := hh
  clear hh
  rcases s1 with _ | ⟨v, s1⟩
  · have h : xrl E.2.1.2.2.2.1 (Q (some (vL x)) μ) := h
    unfold xrl at h
    split at h
    · rename_i hrt
      rcases hY.2.2 with hY2 | ⟨rfl, rfl, rfl, rfl, rfl⟩
      · exact (hY2 _ _ h).elim
      · exact W.lret hx hb (hr.trans hrt) (fun t ht hW => ⟨⟨some (vL x), μ, h, rfl, fun v hv => by cases hv; exact trivial, by rw [xB, ht]; exact ⟨hP, va_K.moved hW.alike hK⟩⟩, hS.F ht⟩) hS.2.2 hdec hlocks
    · exact h.elim
  · exact (show False from h).elim
set_option maxHeartbeats 1000000 in
theorem xso_areturn {G : xG} {E : xE} {d : Nat} {Q : xP} {pc len : Nat} {tg : List Nat} {cst : xV} {r : List xT} {lv st : List xV} {μ : xM} {k : xK} {p : Program} {e : Env} {s : State} {m : MethodId} {args : Array Value} {below : List Frame} {meth : Method} {c : Code} {R : Room} {nc ns : Nat} {QS : State → Prop} {A : Nat → Prop} (hE : xEok E)
    (kN : ∀ lv st μ, k r lv st μ → WS G E (d + 1) (p, e, s, m, args, below, meth, c, R, nc, ns, QS, A) Q (pc + len) lv st μ)
    (kJ : ∀ t e' r', E.2.2.1.drop t = e' :: r' → ∀ lv st μ, k (E.2.2.1.drop t) lv st μ → WS G E (d + 1) (p, e, s, m, args, below, meth, c, R, nc, ns, QS, A) Q e'.1 lv st μ)
    (hdec : decode E.2.1.2.1 pc = .ok ((.areturn), len)) (hch : xchk E (pc, (.areturn), len, tg, cst) = true)
    (h : xstep (MW G d) E Q (pc, (.areturn), len, tg, cst) r lv st μ k) : WS G E (d + 1) (p, e, s, m, args, below, meth, c, R, nc, ns, QS, A) Q pc lv st μ := by
  intro hG hC hY H locs ls hP hS hl hlo hso
  obtain ⟨hx, hb, hr, hml, hown, hts, hK, hlocks⟩ := id hC
  have hD := xD_wld hG hY.2.1 μ
  have htw : ∀ w, xin w → w.before args s = true := fun w hw => hts w (List.mem_cons_of_mem _ (xin_gw hw))
  simp only [xchk, decide_eq_true_eq] at hch
  subst hch
  have key : ∀ q : Option xI, st = [.inr (.inr q)] → W p G.1 e R s m args below meth c H locs nc ns QS (F0 m pc ls (st.map (xrv G.2.1))) := by
    intro q hq
    subst hq
    have h : xra E.2.1.2.2.2.1 (Q (some (.inr (.inr q))) μ) := h
    unfold xra at h
    split at h
    · rename_i nm hrt
      rcases hY.2.2 with hY2 | ⟨rfl, rfl, rfl, rfl, rfl⟩
      · exact (hY2 _ _ h).elim
      · refine W.aret (v := xrv G.2.1 (.inr (.inr q))) hx hb (hr.trans hrt) (Or.inl ⟨_, rfl⟩) ?_ (fun t ht hW => ⟨⟨some (.inr (.inr q)), μ, h, rfl, fun v hv => by cases hv; exact hso.1, by rw [xB, ht]; exact ⟨hP, va_K.moved hW.alike hK⟩⟩, hS.F ht⟩) hS.2.2 hdec hlocks
        cases q with
        | none => exact Or.inl rfl
        | some q => exact Or.inr ⟨_, rfl⟩
    · exact h.elim
  rcases st with _ | ⟨x | x | q, _ | ⟨v, s1⟩⟩ <;> first | exact (show False from h).elim | exact key _ rfl
set_option maxHeartbeats 1000000 in
theorem xso_return_ {G : xG} {E : xE} {d : Nat} {Q : xP} {pc len : Nat} {tg : List Nat} {cst : xV} {r : List xT} {lv st : List xV} {μ : xM} {k : xK} {p : Program} {e : Env} {s : State} {m : MethodId} {args : Array Value} {below : List Frame} {meth : Method} {c : Code} {R : Room} {nc ns : Nat} {QS : State → Prop} {A : Nat → Prop} (hE : xEok E)
    (kN : ∀ lv st μ, k r lv st μ → WS G E (d + 1) (p, e, s, m, args, below, meth, c, R, nc, ns, QS, A) Q (pc + len) lv st μ)
    (kJ : ∀ t e' r', E.2.2.1.drop t = e' :: r' → ∀ lv st μ, k (E.2.2.1.drop t) lv st μ → WS G E (d + 1) (p, e, s, m, args, below, meth, c, R, nc, ns, QS, A) Q e'.1 lv st μ)
    (hdec : decode E.2.1.2.1 pc = .ok ((.return_), len)) (hch : xchk E (pc, (.return_), len, tg, cst) = true)
    (h : xstep (MW G d) E Q (pc, (.return_), len, tg, cst) r lv st μ k) : WS G E (d + 1) (p, e, s, m, args, below, meth, c, R, nc, ns, QS, A) Q pc lv st μ := by
  intro hG hC hY H locs ls hP hS hl hlo hso
  obtain ⟨hx, hb, hr, hml, hown, hts, hK, hlocks⟩ := id hC
  have hD := xD_wld hG hY.2.1 μ
  have htw : ∀ w, xin w → w.before args s = true := fun w hw => hts w (List.mem_cons_of_mem _ (xin_gw hw))
  simp only [xchk, decide_eq_true_eq] at hch
  subst hch
  rcases st with _ | ⟨v, s1⟩
  · have h : xrn E.2.1.2.2.2.1 (Q none μ) := h
    unfold xrn at h
    split at h
    · rename_i hrt
      rcases hY.2.2 with hY2 | ⟨rfl, rfl, rfl, rfl, rfl⟩
      · exact (hY2 _ _ h).elim
      · exact W.vret hx hb (hr.trans hrt) (fun t ht hW => ⟨⟨none, μ, h, rfl, fun v hv => (by cases hv), by rw [xB, ht]; exact ⟨hP, va_K.moved hW.alike hK⟩⟩, hS.F ht⟩) hS.2.2 hdec hlocks
    · exact h.elim
  · exact (show False from h).elim
end
section
theorem xstep_sound {G : xG} {E : xE} {d : Nat} {Z : xZ} {Q : xP} {pc : Nat} {i : Instr} {len : Nat} {tg : List Nat} {cst : xV} {r : List xT} {lv st : List xV} {μ : xM} {k : xK} (hE : xEok E) (hmem : (pc, i, len, tg, cst) ∈ E.2.2.1)
    (kN : ∀ lv st μ, k r lv st μ → WS G E (d + 1) Z Q (pc + len) lv st μ)
    (kJ : ∀ t e' r', E.2.2.1.drop t = e' :: r' → ∀ lv st μ, k (E.2.2.1.drop t) lv st μ → WS G E (d + 1) Z Q e'.1 lv st μ)
    (h : xstep (MW G d) E Q (pc, i, len, tg, cst) r lv st μ k) : WS G E (d + 1) Z Q pc lv st μ := by
  obtain ⟨p, e, s, m, args, below, meth, c, R, nc, ns, QS, A⟩ := Z
  have hdec := hE.1 (pc, i, len, tg, cst) hmem
  have hch := List.all_eq_true.mp hE.2.1 (pc, i, len, tg, cst) hmem
  clear hmem
  cases i
  case iload_n n => exact xso_iload_n _ hE kN kJ hdec hch h
  case iload n => exact xso_iload _ hE kN kJ hdec hch h
  case lload_n n => exact xso_lload_n _ hE kN kJ hdec hch h
  case lload n => exact xso_lload _ hE kN kJ hdec hch h
  case aload_n n => exact xso_aload_n _ hE kN kJ hdec hch h
  case aload n => exact xso_aload _ hE kN kJ hdec hch h
  case istore_n n => exact xso_istore_n _ hE kN kJ hdec hch h
  case istore n => exact xso_istore _ hE kN kJ hdec hch h
  case lstore_n n => exact xso_lstore_n _ hE kN kJ hdec hch h
  case lstore n => exact xso_lstore _ hE kN kJ hdec hch h
  case astore_n n => exact xso_astore_n _ hE kN kJ hdec hch h
  case astore n => exact xso_astore _ hE kN kJ hdec hch h
  case iconst n => exact xso_iconst _ hE kN kJ hdec hch h
  case bipush n => exact xso_bipush _ hE kN kJ hdec hch h
  case sipush n => exact xso_sipush _ hE kN kJ hdec hch h
  case lconst n => exact xso_lconst _ hE kN kJ hdec hch h
  case ldc n => exact xso_ldc _ hE kN kJ hdec hch h
  case ldc_w n => exact xso_ldc_w _ hE kN kJ hdec hch h
  case ldc2_w n => exact xso_ldc2_w _ hE kN kJ hdec hch h
  case aconst_null => exact xso_aconst_null hE kN kJ hdec hch h
  case iadd => exact xso_iadd hE kN kJ hdec hch h
  case isub => exact xso_isub hE kN kJ hdec hch h
  case imul => exact xso_imul hE kN kJ hdec hch h
  case iand => exact xso_iand hE kN kJ hdec hch h
  case ior => exact xso_ior hE kN kJ hdec hch h
  case ixor => exact xso_ixor hE kN kJ hdec hch h
  case ishl => exact xso_ishl hE kN kJ hdec hch h
  case ishr => exact xso_ishr hE kN kJ hdec hch h
  case iushr => exact xso_iushr hE kN kJ hdec hch h
  case idiv => exact xso_idiv hE kN kJ hdec hch h
  case irem => exact xso_irem hE kN kJ hdec hch h
  case ladd => exact xso_ladd hE kN kJ hdec hch h
  case lmul => exact xso_lmul hE kN kJ hdec hch h
  case ldiv => exact xso_ldiv hE kN kJ hdec hch h
  case lrem => exact xso_lrem hE kN kJ hdec hch h
  case lsub => exact xso_lsub hE kN kJ hdec hch h
  case land => exact xso_land hE kN kJ hdec hch h
  case lor => exact xso_lor hE kN kJ hdec hch h
  case lcmp => exact xso_lcmp hE kN kJ hdec hch h
  case lshl => exact xso_lshl hE kN kJ hdec hch h
  case lshr => exact xso_lshr hE kN kJ hdec hch h
  case lushr => exact xso_lushr hE kN kJ hdec hch h
  case ineg => exact xso_ineg hE kN kJ hdec hch h
  case i2c => exact xso_i2c hE kN kJ hdec hch h
  case i2l => exact xso_i2l hE kN kJ hdec hch h
  case l2i => exact xso_l2i hE kN kJ hdec hch h
  case iinc n q => exact xso_iinc _ _ hE kN kJ hdec hch h
  case dup => exact xso_dup hE kN kJ hdec hch h
  case dup2 => exact xso_dup2 hE kN kJ hdec hch h
  case pop => exact xso_pop hE kN kJ hdec hch h
  case ifCond cnd o => exact xso_ifCond _ _ hE kN kJ hdec hch h
  case if_icmp cnd o => exact xso_if_icmp _ _ hE kN kJ hdec hch h
  case ifnull o => exact xso_ifnull _ hE kN kJ hdec hch h
  case goto o => exact xso_goto _ hE kN kJ hdec hch h
  case tableswitch dd lo hi offs => exact xso_tableswitch _ _ _ _ hE kN kJ hdec hch h
  case lookupswitch dd ps => exact xso_lookupswitch _ _ hE kN kJ hdec hch h
  case getfield n => exact xso_getfield _ hE kN kJ hdec hch h
  case putfield n => exact xso_putfield _ hE kN kJ hdec hch h
  case arraylength => exact xso_arraylength hE kN kJ hdec hch h
  case iaload => exact xso_iaload hE kN kJ hdec hch h
  case iastore => exact xso_iastore hE kN kJ hdec hch h
  case aaload => exact xso_aaload hE kN kJ hdec hch h
  case invokevirtual n => exact xso_invokevirtual _ hE kN kJ hdec hch h
  case invokestatic n => exact xso_invokestatic _ hE kN kJ hdec hch h
  case ireturn => exact xso_ireturn hE kN kJ hdec hch h
  case lreturn => exact xso_lreturn hE kN kJ hdec hch h
  case areturn => exact xso_areturn hE kN kJ hdec hch h
  case return_ => exact xso_return_ hE kN kJ hdec hch h
  all_goals exact (show False from h).elim
end
section
/-! many steps at once, up to the next heads; a method's contract from its first place -/
def wpC (G : xG) (E : xE) (d : Nat) (Z : xZ) (Q : xP) : Nat → xK
  | 0, _, _, _, _ => False
  | n + 1, rest, lv, st, μ => match rest with
    | [] => False
    | e :: r => match xlook E.2.2.2.1 e.1 with
      | some b => WS G E (d + 1) Z Q e.1 (xmask b lv) st μ
      | none => xstep (MW G d) E Q e r lv st μ (wpC G E d Z Q n)
def xfrom : List xT → Nat → List xT
  | [], _ => []
  | e :: l, n => match Nat.beq e.1 n with
    | true => e :: l
    | false => xfrom l n
def xgo (G : xG) (E : xE) (d : Nat) (Z : xZ) (Q : xP) (n pc : Nat) (lv st : List xV) (μ : xM) : Prop := match xfrom E.2.2.1 pc with
  | e :: r => xstep (MW G d) E Q e r lv st μ (wpC G E d Z Q n)
  | [] => False
theorem WS_mask {G : xG} {E : xE} {d : Nat} {Z : xZ} {Q : xP} {pc : Nat} {lv st : List xV} {μ : xM} (b : List Bool) (h : WS G E d Z Q pc (xmask b lv) st μ) : WS G E d Z Q pc lv st μ := by
  obtain ⟨p, e, s, m, args, below, meth, c, R, nc, ns, QS, A⟩ := Z
  intro hG hC hY H locs ls hP hS hl hlo hso
  exact h hG hC hY H locs ls hP hS (xLv_mask b hl) (xlok_mask b hlo) hso
theorem xcont_suf : ∀ (a l : List xT), xcont (a ++ l) = true → xcont l = true
  | [], l, h => h
  | e :: a, l, h => by
    have h : (_ && xcont (a ++ l)) = true := h
    rw [Bool.and_eq_true] at h
    exact xcont_suf a l h.2
theorem xcont_next {tb : List xT} (h : xcont tb = true) {e e' : xT} {r : List xT} (hs : e :: e' :: r <:+ tb) : e'.1 = e.1 + e.2.2.1 := by
  obtain ⟨a, rfl⟩ := hs
  have h1 := xcont_suf a _ h
  have h2 : (decide (e'.1 = e.1 + e.2.2.1) && xcont (e' :: r)) = true := h1
  rw [Bool.and_eq_true] at h2
  exact of_decide_eq_true h2.1
theorem wpC_nil {G : xG} {E : xE} {d : Nat} {Z : xZ} {Q : xP} {n : Nat} {lv st : List xV} {μ : xM} (h : wpC G E d Z Q n [] lv st μ) : False := by
  cases n <;> exact h
theorem wpC_sound {G : xG} {E : xE} {d : Nat} {Z : xZ} {Q : xP} (hE : xEok E) : ∀ (n : Nat) (e : xT) (r : List xT) (lv st : List xV) (μ : xM), e :: r <:+ E.2.2.1 → wpC G E d Z Q n (e :: r) lv st μ → WS G E (d + 1) Z Q e.1 lv st μ := by
  intro n
  induction n with
  | zero => intro e r lv st μ _ h; exact h.elim
  | succ n ih =>
    intro e r lv st μ hs h
    have h : (match xlook E.2.2.2.1 e.1 with
      | some b => WS G E (d + 1) Z Q e.1 (xmask b lv) st μ
      | none => xstep (MW G d) E Q e r lv st μ (wpC G E d Z Q n)) := h
    split at h
    · rename_i b hb
      exact WS_mask b h
    · obtain ⟨pc, i, len, tg, cst⟩ := e
      refine xstep_sound hE (hs.subset List.mem_cons_self) (fun lv st μ hk => ?_) (fun t e' r' hd lv st μ hk => ?_) h
      · cases r with
        | nil => exact (wpC_nil hk).elim
        | cons e' r' =>
          have h1 := xcont_next hE.2.2.1 hs
          have h2 := ih e' r' lv st μ ((List.suffix_cons _ _).trans hs) hk
          rw [h1] at h2
          exact h2
      · rw [hd] at hk
        exact ih e' r' lv st μ (by rw [← hd]; exact List.drop_suffix t _) hk
theorem xfrom_suf : ∀ (tb : List xT) (pc : Nat) (e : xT) (r : List xT), xfrom tb pc = e :: r → e :: r <:+ tb ∧ e.1 = pc
  | [], pc, e, r, h => by cases h
  | a :: l, pc, e, r, h => by
    cases hb : Nat.beq a.1 pc with
    | true =>
      have h : (match Nat.beq a.1 pc with | true => a :: l | false => xfrom l pc) = e :: r := h
      rw [hb] at h
      cases h
      exact ⟨List.suffix_refl _, Nat.eq_of_beq_eq_true hb⟩
    | false =>
      have h : (match Nat.beq a.1 pc with | true => a :: l | false => xfrom l pc) = e :: r := h
      rw [hb] at h
      obtain ⟨h1, h2⟩ := xfrom_suf l pc e r h
      exact ⟨h1.trans (List.suffix_cons _ _), h2⟩
/-- a stretch of a method, computed -/
theorem WS.go {G : xG} {E : xE} {d : Nat} {Z : xZ} {Q : xP} {pc : Nat} {lv st : List xV} {μ : xM} (hE : xEok E) (n : Nat) (h : xgo G E d Z Q n pc lv st μ) : WS G E (d + 1) Z Q pc lv st μ := by
  unfold xgo at h
  split at h
  · rename_i e r he
    obtain ⟨hs, hp⟩ := xfrom_suf _ _ _ _ he
    obtain ⟨pc', i, len, tg, cst⟩ := e
    have hp : pc' = pc := hp
    subst hp
    refine xstep_sound hE (hs.subset List.mem_cons_self) (fun lv st μ hk => ?_) (fun t e' r' hd lv st μ hk => ?_) h
    · cases r with
      | nil => exact (wpC_nil hk).elim
      | cons e' r' =>
        have h1 := xcont_next hE.2.2.1 hs
        have h2 := wpC_sound hE n e' r' lv st μ ((List.suffix_cons _ _).trans hs) hk
        rw [h1] at h2
        exact h2
    · rw [hd] at hk
      exact wpC_sound hE n e' r' lv st μ (by rw [← hd]; exact List.drop_suffix t _) hk
  · exact h.elim
-- the entry
def xent : List xV → List xV
  | [] => []
  | .inr (.inl x) :: l => vL x :: vN :: xent l
  | v :: l => v :: xent l
def xpad : Nat → List xV → List xV
  | 0, _ => []
  | n + 1, v :: l => v :: xpad n l
  | n + 1, [] => vN :: xpad n []
theorem xnth_pad : ∀ (n : Nat) (l : List xV) (i : Nat), xnth (xpad n l) i ≠ vN → xnth (xpad n l) i = xnth l i
  | 0, l, i, h => absurd (by cases i <;> rfl) h
  | n + 1, v :: l, 0, h => rfl
  | n + 1, v :: l, i + 1, h => xnth_pad n l i h
  | n + 1, [], 0, h => rfl
  | n + 1, [], i + 1, h => by
    have := xnth_pad n [] i h
    show xnth (xpad n []) i = vN
    rw [this]
    cases i <;> rfl
theorem xent_args (ad : xI → Nat) : ∀ (args : List xV) (b i : Nat), xnth (xent args) i ≠ vN → (b + i, xrv ad (xnth (xent args) i)) ∈ lv_args b (args.map (xrv ad))
  | [], b, i, h => absurd (by cases i <;> rfl) h
  | .inr (.inl x) :: l, b, 0, h => List.mem_cons_self
  | .inr (.inl x) :: l, b, 1, h => absurd rfl h
  | .inr (.inl x) :: l, b, i + 2, h => by
    have h1 := xent_args ad l (b + 2) i h
    rw [show b + (i + 2) = b + 2 + i by omega]
    exact List.mem_cons_of_mem _ h1
  | .inl x :: l, b, 0, h => List.mem_cons_self
  | .inl x :: l, b, i + 1, h => by
    have h1 := xent_args ad l (b + 1) i h
    rw [show b + (i + 1) = b + 1 + i by omega]
    exact List.mem_cons_of_mem _ h1
  | .inr (.inr none) :: l, b, 0, h => absurd rfl h
  | .inr (.inr none) :: l, b, i + 1, h => by
    have h1 := xent_args ad l (b + 1) i h
    rw [show b + (i + 1) = b + 1 + i by omega]
    exact List.mem_cons_of_mem _ h1
  | .inr (.inr (some q)) :: l, b, 0, h => List.mem_cons_self
  | .inr (.inr (some q)) :: l, b, i + 1, h => by
    have h1 := xent_args ad l (b + 1) i h
    rw [show b + (i + 1) = b + 1 + i by omega]
    exact List.mem_cons_of_mem _ h1
theorem xent_ok {b : Bool} : ∀ (args : List xV), (∀ v ∈ args, xvok b v) → ∀ i, xvok b (xnth (xent args) i)
  | [], h, i => by cases i <;> exact trivial
  | .inr (.inl x) :: l, h, 0 => trivial
  | .inr (.inl x) :: l, h, 1 => trivial
  | .inr (.inl x) :: l, h, i + 2 => xent_ok l (fun v hv => h v (List.mem_cons_of_mem _ hv)) i
  | .inl x :: l, h, 0 => trivial
  | .inl x :: l, h, i + 1 => xent_ok l (fun v hv => h v (List.mem_cons_of_mem _ hv)) i
  | .inr (.inr none) :: l, h, 0 => trivial
  | .inr (.inr none) :: l, h, i + 1 => xent_ok l (fun v hv => h v (List.mem_cons_of_mem _ hv)) i
  | .inr (.inr (some q)) :: l, h, 0 => h _ List.mem_cons_self
  | .inr (.inr (some q)) :: l, h, i + 1 => xent_ok l (fun v hv => h v (List.mem_cons_of_mem _ hv)) i
theorem xent_len (ad : xI → Nat) : ∀ (args : List xV), (lg_sl (args.map (xrv ad))).length = (xent args).length
  | [] => rfl
  | .inr (.inl x) :: l => by
    have := xent_len ad l
    simp only [lg_sl, List.map_cons, List.flatMap_cons, List.length_append] at this ⊢
    rw [this]
    simp [xent, xrv, Value.category]
    omega
  | .inl x :: l => by
    have := xent_len ad l
    simp only [lg_sl, List.map_cons, List.flatMap_cons, List.length_append] at this ⊢
    rw [this]
    simp [xent, xrv, Value.category]
    omega
  | .inr (.inr none) :: l => by
    have := xent_len ad l
    simp only [lg_sl, List.map_cons, List.flatMap_cons, List.length_append] at this ⊢
    rw [this]
    simp [xent, xrv, Value.category]
    omega
  | .inr (.inr (some q)) :: l => by
    have := xent_len ad l
    simp only [lg_sl, List.map_cons, List.flatMap_cons, List.length_append] at this ⊢
    rw [this]
    simp [xent, xrv, Value.category]
    omega
/-- a method's contract, from its first place -/
theorem MW.of {G : xG} {E : xE} {d : Nat} {args : List xV} {μ : xM} {Q : xP} (hE : xEok E) (hn : (xent args).length ≤ E.2.1.2.2.1) (h : ∀ Z, WS G E d Z Q 0 (xpad E.2.1.2.2.1 (xent args)) [] μ) : MW G d E.2.1 args μ Q := by
  intro hG hok
  refine Met.ofW (cc := E.2.1.2.1) (maxL := E.2.1.2.2.1) (ret := E.2.1.2.2.2.1) (ws' := xgw) hE.2.2.2.2.2 rfl ?_
  intro p e s m args' below meth c s₁ B hml hv
  obtain ⟨rfl, hP, hK⟩ := hv
  have hown : s.vm.findClass (xcn E.1) = some m.cls := by
    rw [← hE.2.2.2.2.1]
    exact findClass_of_methodNamed B.named
  rw [lg_entry_eq]
  have hl := lv_entry (args.map (xrv G.2.1)) (n := E.2.1.2.2.1) (by rw [xent_len]; exact hn)
  refine h (p, e, s, m, _, below, meth, c, xrm d, 0, 0, MQ below (xQc G Q) _ s 0 0 (xA G), xA G) hG ⟨B.exec, B.bytes, B.returns, hml, hown, atoms_spec (ws := xws E.2.1) B.pre, hK, B.notSynchronized⟩ ⟨⟨Nat.le_refl _, Nat.le_refl _, Nat.le_refl _, Nat.le_refl _⟩, fun q h => h, Or.inr ⟨rfl, rfl, rfl, rfl, rfl⟩⟩ s.heap [] _ hP va_S.rf ⟨hl.1, hl.2.1, fun i hi => ?_⟩ (fun i => ?_) trivial
  · have h1 := xnth_pad _ _ i hi
    rw [h1] at hi ⊢
    have h2 := xent_args G.2.1 args 0 i hi
    rw [Nat.zero_add] at h2
    exact hl.2.2 _ h2
  · by_cases hi : xnth (xpad E.2.1.2.2.1 (xent args)) i = vN
    · rw [hi]; exact trivial
    · rw [xnth_pad _ _ i hi]
      exact xent_ok args hok i
end
section
/-! THE METHODS: descriptors, the classes' tables, instructions; each is held against the bytecode-/
theorem xw {w : Cond} (i : Nat) (h : lw_tbl[i]? = some w) (g : goodWord w = true) : xin w := ⟨List.mem_of_getElem? h, g⟩
theorem xfn {α : Type} {P : α → Prop} : ∀ x ∈ ([] : List α), P x := fun x h => absurd h List.not_mem_nil
theorem xfc {α : Type} {P : α → Prop} {a : α} {l : List α} (h : P a) (k : ∀ x ∈ l, P x) : ∀ x ∈ a :: l, P x := List.forall_mem_cons.mpr ⟨h, k⟩
def xdF (D : xD) : Prop := xin (Cond.code D.1 D.2.1 D.2.2.1 D.2.2.2.1) ∧ xin (Cond.initialized D.1.cls) ∧ D.1.cls ≠ "java/lang/invoke/MethodHandle" ∧ D.1.cls ≠ "java/lang/invoke/VarHandle" ∧ (parseMethodDescriptor D.1.desc).map (fun d => d.parameters.length) = some D.2.2.2.2 ∧ D.2.2.1 ≤ 26
def mX2_copyFrom : xD := (yX2_copyFrom, cX2_copyFrom, 2, none, 1)
def mX2_has : xD := (yX2_has, cX2_has, 2, some .boolean, 1)
def mX2_isOfKind : xD := (yX2_isOfKind, cX2_isOfKind, 3, some .boolean, 2)
def mX2_isPartOfDisjunction : xD := (yX2_isPartOfDisjunction, cX2_isPartOfDisjunction, 3, some .boolean, 2)
def mX2_takenOut : xD := (yX2_takenOut, cX2_takenOut, 4, some .int, 2)
def mX2_find : xD := (yX2_find, cX2_find, 5, some .int, 3)
def mX2_hasRoomFor : xD := (yX2_hasRoomFor, cX2_hasRoomFor, 4, some .boolean, 3)
def mX2_make : xD := (yX2_make, cX2_make, 5, some .int, 3)
def mX2_evaluate : xD := (yX2_evaluate, cX2_evaluate, 4, none, 2)
def mX2_truthOf : xD := (yX2_truthOf, cX2_truthOf, 6, some .int, 3)
def mX2_truthOfAtom : xD := (yX2_truthOfAtom, cX2_truthOfAtom, 2, some .int, 2)
def mX3_at : xD := (yX3_at, cX3_at, 2, some (.object "BoxedProofs$State"), 1)
def mX3_record : xD := (yX3_record, cX3_record, 3, none, 1)
def mX4_copyFrom : xD := (yX4_copyFrom, cX4_copyFrom, 2, none, 1)
def mX4_hasLine : xD := (yX4_hasLine, cX4_hasLine, 2, some .boolean, 1)
def mX4_hasBox : xD := (yX4_hasBox, cX4_hasBox, 2, some .boolean, 1)
def mX4_isFull : xD := (yX4_isFull, cX4_isFull, 1, some .boolean, 0)
def mX4_addLine : xD := (yX4_addLine, cX4_addLine, 7, some .int, 5)
def mX4_openBox : xD := (yX4_openBox, cX4_openBox, 3, some .int, 1)
def mX4_canCloseBox : xD := (yX4_canCloseBox, cX4_canCloseBox, 1, some .boolean, 0)
def mX4_closeBox : xD := (yX4_closeBox, cX4_closeBox, 2, some .int, 0)
def mX4_isNoneOrOpen : xD := (yX4_isNoneOrOpen, cX4_isNoneOrOpen, 2, some .boolean, 1)
def mX4_isLineAvailable : xD := (yX4_isLineAvailable, cX4_isLineAvailable, 2, some .boolean, 1)
def mX4_isBoxAvailable : xD := (yX4_isBoxAvailable, cX4_isBoxAvailable, 2, some .boolean, 1)
def mX4_assumptionOf : xD := (yX4_assumptionOf, cX4_assumptionOf, 2, some .int, 1)
def mX4_conclusionOf : xD := (yX4_conclusionOf, cX4_conclusionOf, 2, some .int, 1)
def mX4_nesting : xD := (yX4_nesting, cX4_nesting, 4, some .int, 1)
def mX4_referenceAt : xD := (yX4_referenceAt, cX4_referenceAt, 3, some .int, 2)
def mX4_countLineReferences : xD := (yX4_countLineReferences, cX4_countLineReferences, 2, some .int, 1)
def mX4_bit : xD := (yX4_bit, cX4_bit, 1, some .long, 1)
def mX4_contains : xD := (yX4_contains, cX4_contains, 3, some .boolean, 2)
def mX4_directNeeds : xD := (yX4_directNeeds, cX4_directNeeds, 7, some .long, 1)
def mX4_countUsers : xD := (yX4_countUsers, cX4_countUsers, 4, some .int, 1)
def mX4_assumptionsFrom : xD := (yX4_assumptionsFrom, cX4_assumptionsFrom, 6, some .long, 1)
def mX4_allNeeds : xD := (yX4_allNeeds, cX4_allNeeds, 5, some .long, 1)
def mX4_bypassOf : xD := (yX4_bypassOf, cX4_bypassOf, 4, some .int, 1)
def mX4_countDetours : xD := (yX4_countDetours, cX4_countDetours, 3, some .int, 0)
def mX4_bypassDetours : xD := (yX4_bypassDetours, cX4_bypassDetours, 4, some .int, 0)
def mX4_bypassIn : xD := (yX4_bypassIn, cX4_bypassIn, 6, some .int, 2)
def mX4_allowedValuations : xD := (yX4_allowedValuations, cX4_allowedValuations, 7, some .int, 2)
def mX4_keepOnly : xD := (yX4_keepOnly, cX4_keepOnly, 8, some .int, 1)
def mX4_renumbered : xD := (yX4_renumbered, cX4_renumbered, 3, some .int, 2)
def mX4_moveLine : xD := (yX4_moveLine, cX4_moveLine, 8, none, 4)
def mX4_keepBoxes : xD := (yX4_keepBoxes, cX4_keepBoxes, 7, some .long, 1)
def mX4_findEnds : xD := (yX4_findEnds, cX4_findEnds, 4, none, 0)
def mX5_get : xD := (yX5_get, cX5_get, 2, some .int, 1)
def mX5_set : xD := (yX5_set, cX5_set, 3, none, 2)
def mX5_copyFrom : xD := (yX5_copyFrom, cX5_copyFrom, 3, none, 1)
def mX7_copyFrom : xD := (yX7_copyFrom, cX7_copyFrom, 2, none, 1)
def mX8_atom : xD := (yX8_atom, cX8_atom, 2, some .int, 1)
def mX8_falsum : xD := (yX8_falsum, cX8_falsum, 1, some .int, 0)
def mX8_not : xD := (yX8_not, cX8_not, 2, some .int, 1)
def mX8_pair : xD := (yX8_pair, cX8_pair, 4, some .int, 3)
def mX8_makeFormula : xD := (yX8_makeFormula, cX8_makeFormula, 4, some .int, 3)
def mX8_formulas : xD := (yX8_formulas, cX8_formulas, 1, some .int, 0)
def mX8_part : xD := (yX8_part, cX8_part, 3, some .int, 2)
def mX8_isTrue : xD := (yX8_isTrue, cX8_isTrue, 3, some .int, 2)
def mX8_premise : xD := (yX8_premise, cX8_premise, 2, some .int, 1)
def mX8_open : xD := (yX8_open, cX8_open, 2, some .int, 1)
def mX8_close : xD := (yX8_close, cX8_close, 1, some .int, 0)
def mX8_repeat : xD := (yX8_repeat, cX8_repeat, 2, some .int, 1)
def mX8_fromTwo : xD := (yX8_fromTwo, cX8_fromTwo, 7, some .int, 3)
def mX8_fromOne : xD := (yX8_fromOne, cX8_fromOne, 4, some .int, 2)
def mX8_toFormula : xD := (yX8_toFormula, cX8_toFormula, 6, some .int, 3)
def mX8_fromBox : xD := (yX8_fromBox, cX8_fromBox, 5, some .int, 2)
def mX8_cases : xD := (yX8_cases, cX8_cases, 7, some .int, 3)
def mX8_write : xD := (yX8_write, cX8_write, 6, some .int, 5)
def mX8_writeMade : xD := (yX8_writeMade, cX8_writeMade, 8, some .int, 6)
def mX8_lines : xD := (yX8_lines, cX8_lines, 1, some .int, 0)
def mX8_line : xD := (yX8_line, cX8_line, 3, some .int, 2)
def mX8_reference : xD := (yX8_reference, cX8_reference, 4, some .int, 2)
def mX8_boxes : xD := (yX8_boxes, cX8_boxes, 1, some .int, 0)
def mX8_box : xD := (yX8_box, cX8_box, 3, some .int, 2)
def mX8_depth : xD := (yX8_depth, cX8_depth, 1, some .int, 0)
def mX8_needs : xD := (yX8_needs, cX8_needs, 2, some .long, 1)
def mX8_bypass : xD := (yX8_bypass, cX8_bypass, 2, some .int, 1)
def mX8_detours : xD := (yX8_detours, cX8_detours, 1, some .int, 0)
def mX8_failure : xD := (yX8_failure, cX8_failure, 2, some .int, 1)
def mX8_counterexample : xD := (yX8_counterexample, cX8_counterexample, 2, some .int, 1)
def mX8_lowestFailure : xD := (yX8_lowestFailure, cX8_lowestFailure, 5, some .int, 2)
def mX8_lowestBit : xD := (yX8_lowestBit, cX8_lowestBit, 1, some .int, 1)
def mX8_shorten : xD := (yX8_shorten, cX8_shorten, 1, some .int, 0)
def mX8_trim : xD := (yX8_trim, cX8_trim, 2, some .int, 1)
def mJ6_bitCount_0f7a4 : xD := (yJ6_bitCount_0f7a4, cJ6_bitCount_0f7a4, 1, some .int, 1)
def mJ13_bitCount_95d88 : xD := (yJ13_bitCount_95d88, cJ13_bitCount_95d88, 2, some .int, 1)
def mL_low : xD := (yL_low, cL_low, 2, some .int, 2)
def mL_find : xD := (yL_find, cL_find, 9, some .int, 7)
def mL_make : xD := (yL_make, cL_make, 8, some .int, 7)
def mL_truth : xD := (yL_truth, cL_truth, 14, some .long, 5)
def mL_shut : xD := (yL_shut, cL_shut, 5, some .boolean, 3)
def mL_latest : xD := (yL_latest, cL_latest, 4, some .int, 2)
def mL_write : xD := (yL_write, cL_write, 12, some .int, 11)
def mL_direct : xD := (yL_direct, cL_direct, 7, some .long, 7)
def mL_assumed : xD := (yL_assumed, cL_assumed, 7, some .long, 4)
def mL_needs : xD := (yL_needs, cL_needs, 16, some .long, 10)
def mL_bypass : xD := (yL_bypass, cL_bypass, 5, some .int, 4)
def mL_bits : xD := (yL_bits, cL_bits, 4, some .int, 1)
def mL_formulas : xD := (yL_formulas, cL_formulas, 10, some .boolean, 6)
def mL_lines : xD := (yL_lines, cL_lines, 17, some .boolean, 11)
def mL_follows : xD := (yL_follows, cL_follows, 22, some .boolean, 13)
def mL_shorten : xD := (yL_shorten, cL_shorten, 9, some .int, 4)
def mL_trim : xD := (yL_trim, cL_trim, 19, none, 11)
def mL_rule : xD := (yL_rule, cL_rule, 15, some .long, 12)
def mL_law : xD := (yL_law, cL_law, 33, some .boolean, 1)
theorem xdX2_copyFrom : xdF mX2_copyFrom := ⟨xw 270 (by decide +kernel) (by decide +kernel), xw 18 (by decide +kernel) (by decide +kernel), by decide, by decide, (by decide +kernel), by decide⟩
theorem xdX2_has : xdF mX2_has := ⟨xw 306 (by decide +kernel) (by decide +kernel), xw 18 (by decide +kernel) (by decide +kernel), by decide, by decide, (by decide +kernel), by decide⟩
theorem xdX2_isOfKind : xdF mX2_isOfKind := ⟨xw 390 (by decide +kernel) (by decide +kernel), xw 18 (by decide +kernel) (by decide +kernel), by decide, by decide, (by decide +kernel), by decide⟩
theorem xdX2_isPartOfDisjunction : xdF mX2_isPartOfDisjunction := ⟨xw 407 (by decide +kernel) (by decide +kernel), xw 18 (by decide +kernel) (by decide +kernel), by decide, by decide, (by decide +kernel), by decide⟩
theorem xdX2_takenOut : xdF mX2_takenOut := ⟨xw 398 (by decide +kernel) (by decide +kernel), xw 18 (by decide +kernel) (by decide +kernel), by decide, by decide, (by decide +kernel), by decide⟩
theorem xdX2_find : xdF mX2_find := ⟨xw 250 (by decide +kernel) (by decide +kernel), xw 18 (by decide +kernel) (by decide +kernel), by decide, by decide, (by decide +kernel), by decide⟩
theorem xdX2_hasRoomFor : xdF mX2_hasRoomFor := ⟨xw 246 (by decide +kernel) (by decide +kernel), xw 18 (by decide +kernel) (by decide +kernel), by decide, by decide, (by decide +kernel), by decide⟩
theorem xdX2_make : xdF mX2_make := ⟨xw 290 (by decide +kernel) (by decide +kernel), xw 18 (by decide +kernel) (by decide +kernel), by decide, by decide, (by decide +kernel), by decide⟩
theorem xdX2_evaluate : xdF mX2_evaluate := ⟨xw 550 (by decide +kernel) (by decide +kernel), xw 18 (by decide +kernel) (by decide +kernel), by decide, by decide, (by decide +kernel), by decide⟩
theorem xdX2_truthOf : xdF mX2_truthOf := ⟨xw 554 (by decide +kernel) (by decide +kernel), xw 18 (by decide +kernel) (by decide +kernel), by decide, by decide, (by decide +kernel), by decide⟩
theorem xdX2_truthOfAtom : xdF mX2_truthOfAtom := ⟨xw 557 (by decide +kernel) (by decide +kernel), xw 18 (by decide +kernel) (by decide +kernel), by decide, by decide, (by decide +kernel), by decide⟩
theorem xdX3_at : xdF mX3_at := ⟨xw 262 (by decide +kernel) (by decide +kernel), xw 22 (by decide +kernel) (by decide +kernel), by decide, by decide, (by decide +kernel), by decide⟩
theorem xdX3_record : xdF mX3_record := ⟨xw 258 (by decide +kernel) (by decide +kernel), xw 22 (by decide +kernel) (by decide +kernel), by decide, by decide, (by decide +kernel), by decide⟩
theorem xdX4_copyFrom : xdF mX4_copyFrom := ⟨xw 284 (by decide +kernel) (by decide +kernel), xw 21 (by decide +kernel) (by decide +kernel), by decide, by decide, (by decide +kernel), by decide⟩
theorem xdX4_hasLine : xdF mX4_hasLine := ⟨xw 369 (by decide +kernel) (by decide +kernel), xw 21 (by decide +kernel) (by decide +kernel), by decide, by decide, (by decide +kernel), by decide⟩
theorem xdX4_hasBox : xdF mX4_hasBox := ⟨xw 343 (by decide +kernel) (by decide +kernel), xw 21 (by decide +kernel) (by decide +kernel), by decide, by decide, (by decide +kernel), by decide⟩
theorem xdX4_isFull : xdF mX4_isFull := ⟨xw 322 (by decide +kernel) (by decide +kernel), xw 21 (by decide +kernel) (by decide +kernel), by decide, by decide, (by decide +kernel), by decide⟩
theorem xdX4_addLine : xdF mX4_addLine := ⟨xw 326 (by decide +kernel) (by decide +kernel), xw 21 (by decide +kernel) (by decide +kernel), by decide, by decide, (by decide +kernel), by decide⟩
theorem xdX4_openBox : xdF mX4_openBox := ⟨xw 348 (by decide +kernel) (by decide +kernel), xw 21 (by decide +kernel) (by decide +kernel), by decide, by decide, (by decide +kernel), by decide⟩
theorem xdX4_canCloseBox : xdF mX4_canCloseBox := ⟨xw 357 (by decide +kernel) (by decide +kernel), xw 21 (by decide +kernel) (by decide +kernel), by decide, by decide, (by decide +kernel), by decide⟩
theorem xdX4_closeBox : xdF mX4_closeBox := ⟨xw 361 (by decide +kernel) (by decide +kernel), xw 21 (by decide +kernel) (by decide +kernel), by decide, by decide, (by decide +kernel), by decide⟩
theorem xdX4_isNoneOrOpen : xdF mX4_isNoneOrOpen := ⟨xw 377 (by decide +kernel) (by decide +kernel), xw 21 (by decide +kernel) (by decide +kernel), by decide, by decide, (by decide +kernel), by decide⟩
theorem xdX4_isLineAvailable : xdF mX4_isLineAvailable := ⟨xw 373 (by decide +kernel) (by decide +kernel), xw 21 (by decide +kernel) (by decide +kernel), by decide, by decide, (by decide +kernel), by decide⟩
theorem xdX4_isBoxAvailable : xdF mX4_isBoxAvailable := ⟨xw 416 (by decide +kernel) (by decide +kernel), xw 21 (by decide +kernel) (by decide +kernel), by decide, by decide, (by decide +kernel), by decide⟩
theorem xdX4_assumptionOf : xdF mX4_assumptionOf := ⟨xw 420 (by decide +kernel) (by decide +kernel), xw 21 (by decide +kernel) (by decide +kernel), by decide, by decide, (by decide +kernel), by decide⟩
theorem xdX4_conclusionOf : xdF mX4_conclusionOf := ⟨xw 424 (by decide +kernel) (by decide +kernel), xw 21 (by decide +kernel) (by decide +kernel), by decide, by decide, (by decide +kernel), by decide⟩
theorem xdX4_nesting : xdF mX4_nesting := ⟨xw 339 (by decide +kernel) (by decide +kernel), xw 21 (by decide +kernel) (by decide +kernel), by decide, by decide, (by decide +kernel), by decide⟩
theorem xdX4_referenceAt : xdF mX4_referenceAt := ⟨xw 470 (by decide +kernel) (by decide +kernel), xw 21 (by decide +kernel) (by decide +kernel), by decide, by decide, (by decide +kernel), by decide⟩
theorem xdX4_countLineReferences : xdF mX4_countLineReferences := ⟨xw 440 (by decide +kernel) (by decide +kernel), xw 21 (by decide +kernel) (by decide +kernel), by decide, by decide, (by decide +kernel), by decide⟩
theorem xdX4_bit : xdF mX4_bit := ⟨xw 459 (by decide +kernel) (by decide +kernel), xw 21 (by decide +kernel) (by decide +kernel), by decide, by decide, (by decide +kernel), by decide⟩
theorem xdX4_contains : xdF mX4_contains := ⟨xw 462 (by decide +kernel) (by decide +kernel), xw 21 (by decide +kernel) (by decide +kernel), by decide, by decide, (by decide +kernel), by decide⟩
theorem xdX4_directNeeds : xdF mX4_directNeeds := ⟨xw 466 (by decide +kernel) (by decide +kernel), xw 21 (by decide +kernel) (by decide +kernel), by decide, by decide, (by decide +kernel), by decide⟩
theorem xdX4_countUsers : xdF mX4_countUsers := ⟨xw 580 (by decide +kernel) (by decide +kernel), xw 21 (by decide +kernel) (by decide +kernel), by decide, by decide, (by decide +kernel), by decide⟩
theorem xdX4_assumptionsFrom : xdF mX4_assumptionsFrom := ⟨xw 474 (by decide +kernel) (by decide +kernel), xw 21 (by decide +kernel) (by decide +kernel), by decide, by decide, (by decide +kernel), by decide⟩
theorem xdX4_allNeeds : xdF mX4_allNeeds := ⟨xw 456 (by decide +kernel) (by decide +kernel), xw 21 (by decide +kernel) (by decide +kernel), by decide, by decide, (by decide +kernel), by decide⟩
theorem xdX4_bypassOf : xdF mX4_bypassOf := ⟨xw 448 (by decide +kernel) (by decide +kernel), xw 21 (by decide +kernel) (by decide +kernel), by decide, by decide, (by decide +kernel), by decide⟩
theorem xdX4_countDetours : xdF mX4_countDetours := ⟨xw 619 (by decide +kernel) (by decide +kernel), xw 21 (by decide +kernel) (by decide +kernel), by decide, by decide, (by decide +kernel), by decide⟩
theorem xdX4_bypassDetours : xdF mX4_bypassDetours := ⟨xw 436 (by decide +kernel) (by decide +kernel), xw 21 (by decide +kernel) (by decide +kernel), by decide, by decide, (by decide +kernel), by decide⟩
theorem xdX4_bypassIn : xdF mX4_bypassIn := ⟨xw 444 (by decide +kernel) (by decide +kernel), xw 21 (by decide +kernel) (by decide +kernel), by decide, by decide, (by decide +kernel), by decide⟩
theorem xdX4_allowedValuations : xdF mX4_allowedValuations := ⟨xw 634 (by decide +kernel) (by decide +kernel), xw 21 (by decide +kernel) (by decide +kernel), by decide, by decide, (by decide +kernel), by decide⟩
theorem xdX4_keepOnly : xdF mX4_keepOnly := ⟨xw 478 (by decide +kernel) (by decide +kernel), xw 21 (by decide +kernel) (by decide +kernel), by decide, by decide, (by decide +kernel), by decide⟩
theorem xdX4_renumbered : xdF mX4_renumbered := ⟨xw 485 (by decide +kernel) (by decide +kernel), xw 21 (by decide +kernel) (by decide +kernel), by decide, by decide, (by decide +kernel), by decide⟩
theorem xdX4_moveLine : xdF mX4_moveLine := ⟨xw 495 (by decide +kernel) (by decide +kernel), xw 21 (by decide +kernel) (by decide +kernel), by decide, by decide, (by decide +kernel), by decide⟩
theorem xdX4_keepBoxes : xdF mX4_keepBoxes := ⟨xw 482 (by decide +kernel) (by decide +kernel), xw 21 (by decide +kernel) (by decide +kernel), by decide, by decide, (by decide +kernel), by decide⟩
theorem xdX4_findEnds : xdF mX4_findEnds := ⟨xw 499 (by decide +kernel) (by decide +kernel), xw 21 (by decide +kernel) (by decide +kernel), by decide, by decide, (by decide +kernel), by decide⟩
theorem xdX5_get : xdF mX5_get := ⟨xw 254 (by decide +kernel) (by decide +kernel), xw 19 (by decide +kernel) (by decide +kernel), by decide, by decide, (by decide +kernel), by decide⟩
theorem xdX5_set : xdF mX5_set := ⟨xw 294 (by decide +kernel) (by decide +kernel), xw 19 (by decide +kernel) (by decide +kernel), by decide, by decide, (by decide +kernel), by decide⟩
theorem xdX5_copyFrom : xdF mX5_copyFrom := ⟨xw 274 (by decide +kernel) (by decide +kernel), xw 19 (by decide +kernel) (by decide +kernel), by decide, by decide, (by decide +kernel), by decide⟩
theorem xdX7_copyFrom : xdF mX7_copyFrom := ⟨xw 266 (by decide +kernel) (by decide +kernel), xw 17 (by decide +kernel) (by decide +kernel), by decide, by decide, (by decide +kernel), by decide⟩
theorem xdX8_atom : xdF mX8_atom := ⟨xw 238 (by decide +kernel) (by decide +kernel), xw 16 (by decide +kernel) (by decide +kernel), by decide, by decide, (by decide +kernel), by decide⟩
theorem xdX8_falsum : xdF mX8_falsum := ⟨xw 298 (by decide +kernel) (by decide +kernel), xw 16 (by decide +kernel) (by decide +kernel), by decide, by decide, (by decide +kernel), by decide⟩
theorem xdX8_not : xdF mX8_not := ⟨xw 302 (by decide +kernel) (by decide +kernel), xw 16 (by decide +kernel) (by decide +kernel), by decide, by decide, (by decide +kernel), by decide⟩
theorem xdX8_pair : xdF mX8_pair := ⟨xw 310 (by decide +kernel) (by decide +kernel), xw 16 (by decide +kernel) (by decide +kernel), by decide, by decide, (by decide +kernel), by decide⟩
theorem xdX8_makeFormula : xdF mX8_makeFormula := ⟨xw 242 (by decide +kernel) (by decide +kernel), xw 16 (by decide +kernel) (by decide +kernel), by decide, by decide, (by decide +kernel), by decide⟩
theorem xdX8_formulas : xdF mX8_formulas := ⟨xw 566 (by decide +kernel) (by decide +kernel), xw 16 (by decide +kernel) (by decide +kernel), by decide, by decide, (by decide +kernel), by decide⟩
theorem xdX8_part : xdF mX8_part := ⟨xw 539 (by decide +kernel) (by decide +kernel), xw 16 (by decide +kernel) (by decide +kernel), by decide, by decide, (by decide +kernel), by decide⟩
theorem xdX8_isTrue : xdF mX8_isTrue := ⟨xw 546 (by decide +kernel) (by decide +kernel), xw 16 (by decide +kernel) (by decide +kernel), by decide, by decide, (by decide +kernel), by decide⟩
theorem xdX8_premise : xdF mX8_premise := ⟨xw 314 (by decide +kernel) (by decide +kernel), xw 16 (by decide +kernel) (by decide +kernel), by decide, by decide, (by decide +kernel), by decide⟩
theorem xdX8_open : xdF mX8_open := ⟨xw 331 (by decide +kernel) (by decide +kernel), xw 16 (by decide +kernel) (by decide +kernel), by decide, by decide, (by decide +kernel), by decide⟩
theorem xdX8_close : xdF mX8_close := ⟨xw 353 (by decide +kernel) (by decide +kernel), xw 16 (by decide +kernel) (by decide +kernel), by decide, by decide, (by decide +kernel), by decide⟩
theorem xdX8_repeat : xdF mX8_repeat := ⟨xw 365 (by decide +kernel) (by decide +kernel), xw 16 (by decide +kernel) (by decide +kernel), by decide, by decide, (by decide +kernel), by decide⟩
theorem xdX8_fromTwo : xdF mX8_fromTwo := ⟨xw 382 (by decide +kernel) (by decide +kernel), xw 16 (by decide +kernel) (by decide +kernel), by decide, by decide, (by decide +kernel), by decide⟩
theorem xdX8_fromOne : xdF mX8_fromOne := ⟨xw 394 (by decide +kernel) (by decide +kernel), xw 16 (by decide +kernel) (by decide +kernel), by decide, by decide, (by decide +kernel), by decide⟩
theorem xdX8_toFormula : xdF mX8_toFormula := ⟨xw 403 (by decide +kernel) (by decide +kernel), xw 16 (by decide +kernel) (by decide +kernel), by decide, by decide, (by decide +kernel), by decide⟩
theorem xdX8_fromBox : xdF mX8_fromBox := ⟨xw 411 (by decide +kernel) (by decide +kernel), xw 16 (by decide +kernel) (by decide +kernel), by decide, by decide, (by decide +kernel), by decide⟩
theorem xdX8_cases : xdF mX8_cases := ⟨xw 428 (by decide +kernel) (by decide +kernel), xw 16 (by decide +kernel) (by decide +kernel), by decide, by decide, (by decide +kernel), by decide⟩
theorem xdX8_write : xdF mX8_write := ⟨xw 318 (by decide +kernel) (by decide +kernel), xw 16 (by decide +kernel) (by decide +kernel), by decide, by decide, (by decide +kernel), by decide⟩
theorem xdX8_writeMade : xdF mX8_writeMade := ⟨xw 386 (by decide +kernel) (by decide +kernel), xw 16 (by decide +kernel) (by decide +kernel), by decide, by decide, (by decide +kernel), by decide⟩
theorem xdX8_lines : xdF mX8_lines := ⟨xw 606 (by decide +kernel) (by decide +kernel), xw 16 (by decide +kernel) (by decide +kernel), by decide, by decide, (by decide +kernel), by decide⟩
theorem xdX8_line : xdF mX8_line := ⟨xw 576 (by decide +kernel) (by decide +kernel), xw 16 (by decide +kernel) (by decide +kernel), by decide, by decide, (by decide +kernel), by decide⟩
theorem xdX8_reference : xdF mX8_reference := ⟨xw 597 (by decide +kernel) (by decide +kernel), xw 16 (by decide +kernel) (by decide +kernel), by decide, by decide, (by decide +kernel), by decide⟩
theorem xdX8_boxes : xdF mX8_boxes := ⟨xw 610 (by decide +kernel) (by decide +kernel), xw 16 (by decide +kernel) (by decide +kernel), by decide, by decide, (by decide +kernel), by decide⟩
theorem xdX8_box : xdF mX8_box := ⟨xw 602 (by decide +kernel) (by decide +kernel), xw 16 (by decide +kernel) (by decide +kernel), by decide, by decide, (by decide +kernel), by decide⟩
theorem xdX8_depth : xdF mX8_depth := ⟨xw 335 (by decide +kernel) (by decide +kernel), xw 16 (by decide +kernel) (by decide +kernel), by decide, by decide, (by decide +kernel), by decide⟩
theorem xdX8_needs : xdF mX8_needs := ⟨xw 592 (by decide +kernel) (by decide +kernel), xw 16 (by decide +kernel) (by decide +kernel), by decide, by decide, (by decide +kernel), by decide⟩
theorem xdX8_bypass : xdF mX8_bypass := ⟨xw 587 (by decide +kernel) (by decide +kernel), xw 16 (by decide +kernel) (by decide +kernel), by decide, by decide, (by decide +kernel), by decide⟩
theorem xdX8_detours : xdF mX8_detours := ⟨xw 615 (by decide +kernel) (by decide +kernel), xw 16 (by decide +kernel) (by decide +kernel), by decide, by decide, (by decide +kernel), by decide⟩
theorem xdX8_failure : xdF mX8_failure := ⟨xw 626 (by decide +kernel) (by decide +kernel), xw 16 (by decide +kernel) (by decide +kernel), by decide, by decide, (by decide +kernel), by decide⟩
theorem xdX8_counterexample : xdF mX8_counterexample := ⟨xw 647 (by decide +kernel) (by decide +kernel), xw 16 (by decide +kernel) (by decide +kernel), by decide, by decide, (by decide +kernel), by decide⟩
theorem xdX8_lowestFailure : xdF mX8_lowestFailure := ⟨xw 630 (by decide +kernel) (by decide +kernel), xw 16 (by decide +kernel) (by decide +kernel), by decide, by decide, (by decide +kernel), by decide⟩
theorem xdX8_lowestBit : xdF mX8_lowestBit := ⟨xw 637 (by decide +kernel) (by decide +kernel), xw 16 (by decide +kernel) (by decide +kernel), by decide, by decide, (by decide +kernel), by decide⟩
theorem xdX8_shorten : xdF mX8_shorten := ⟨xw 432 (by decide +kernel) (by decide +kernel), xw 16 (by decide +kernel) (by decide +kernel), by decide, by decide, (by decide +kernel), by decide⟩
theorem xdX8_trim : xdF mX8_trim := ⟨xw 452 (by decide +kernel) (by decide +kernel), xw 16 (by decide +kernel) (by decide +kernel), by decide, by decide, (by decide +kernel), by decide⟩
theorem xdJ6_bitCount_0f7a4 : xdF mJ6_bitCount_0f7a4 := ⟨xw 640 (by decide +kernel) (by decide +kernel), xw 27 (by decide +kernel) (by decide +kernel), by decide, by decide, (by decide +kernel), by decide⟩
theorem xdJ13_bitCount_95d88 : xdF mJ13_bitCount_95d88 := ⟨xw 488 (by decide +kernel) (by decide +kernel), xw 26 (by decide +kernel) (by decide +kernel), by decide, by decide, (by decide +kernel), by decide⟩
theorem xdL_low : xdF mL_low := ⟨xw 507 (by decide +kernel) (by decide +kernel), xw 15 (by decide +kernel) (by decide +kernel), by decide, by decide, (by decide +kernel), by decide⟩
theorem xdL_find : xdF mL_find := ⟨xw 514 (by decide +kernel) (by decide +kernel), xw 15 (by decide +kernel) (by decide +kernel), by decide, by decide, (by decide +kernel), by decide⟩
theorem xdL_make : xdF mL_make := ⟨xw 511 (by decide +kernel) (by decide +kernel), xw 15 (by decide +kernel) (by decide +kernel), by decide, by decide, (by decide +kernel), by decide⟩
theorem xdL_truth : xdF mL_truth := ⟨xw 542 (by decide +kernel) (by decide +kernel), xw 15 (by decide +kernel) (by decide +kernel), by decide, by decide, (by decide +kernel), by decide⟩
theorem xdL_shut : xdF mL_shut := ⟨xw 583 (by decide +kernel) (by decide +kernel), xw 15 (by decide +kernel) (by decide +kernel), by decide, by decide, (by decide +kernel), by decide⟩
theorem xdL_latest : xdF mL_latest := ⟨xw 517 (by decide +kernel) (by decide +kernel), xw 15 (by decide +kernel) (by decide +kernel), by decide, by decide, (by decide +kernel), by decide⟩
theorem xdL_write : xdF mL_write := ⟨xw 520 (by decide +kernel) (by decide +kernel), xw 15 (by decide +kernel) (by decide +kernel), by decide, by decide, (by decide +kernel), by decide⟩
theorem xdL_direct : xdF mL_direct := ⟨xw 526 (by decide +kernel) (by decide +kernel), xw 15 (by decide +kernel) (by decide +kernel), by decide, by decide, (by decide +kernel), by decide⟩
theorem xdL_assumed : xdF mL_assumed := ⟨xw 529 (by decide +kernel) (by decide +kernel), xw 15 (by decide +kernel) (by decide +kernel), by decide, by decide, (by decide +kernel), by decide⟩
theorem xdL_needs : xdF mL_needs := ⟨xw 523 (by decide +kernel) (by decide +kernel), xw 15 (by decide +kernel) (by decide +kernel), by decide, by decide, (by decide +kernel), by decide⟩
theorem xdL_bypass : xdF mL_bypass := ⟨xw 572 (by decide +kernel) (by decide +kernel), xw 15 (by decide +kernel) (by decide +kernel), by decide, by decide, (by decide +kernel), by decide⟩
theorem xdL_bits : xdF mL_bits := ⟨xw 532 (by decide +kernel) (by decide +kernel), xw 15 (by decide +kernel) (by decide +kernel), by decide, by decide, (by decide +kernel), by decide⟩
theorem xdL_formulas : xdF mL_formulas := ⟨xw 535 (by decide +kernel) (by decide +kernel), xw 15 (by decide +kernel) (by decide +kernel), by decide, by decide, (by decide +kernel), by decide⟩
theorem xdL_lines : xdF mL_lines := ⟨xw 569 (by decide +kernel) (by decide +kernel), xw 15 (by decide +kernel) (by decide +kernel), by decide, by decide, (by decide +kernel), by decide⟩
theorem xdL_follows : xdF mL_follows := ⟨xw 622 (by decide +kernel) (by decide +kernel), xw 15 (by decide +kernel) (by decide +kernel), by decide, by decide, (by decide +kernel), by decide⟩
theorem xdL_shorten : xdF mL_shorten := ⟨xw 650 (by decide +kernel) (by decide +kernel), xw 15 (by decide +kernel) (by decide +kernel), by decide, by decide, (by decide +kernel), by decide⟩
theorem xdL_rule : xdF mL_rule := ⟨xw 656 (by decide +kernel) (by decide +kernel), xw 15 (by decide +kernel) (by decide +kernel), by decide, by decide, (by decide +kernel), by decide⟩
def ceX0 : xCE := ([], [], [], [], [])
theorem ceX0_ok : xCEok 0 ceX0 := ⟨xfn, xfn, xfn, xfn, xfn⟩
def ceX1 : xCE := ([], [], [], [], [])
theorem ceX1_ok : xCEok 1 ceX1 := ⟨xfn, xfn, xfn, xfn, xfn⟩
theorem xfX2_9 : xfF 2 (9, 2, 0, 1) := ⟨RX2, TX2, 4, rfl, by decide, xw 62 (by decide +kernel) (by decide +kernel), fun _ => ⟨rfl, rfl⟩, fun h => absurd h (by decide)⟩
theorem xfX2_20 : xfF 2 (20, 2, 1, 0) := ⟨RX2, TX2, 4, rfl, by decide, xw 64 (by decide +kernel) (by decide +kernel), fun h => absurd h (by decide), fun h => absurd h (by decide)⟩
theorem xfX2_24 : xfF 2 (24, 2, 2, 0) := ⟨RX2, TX2, 4, rfl, by decide, xw 66 (by decide +kernel) (by decide +kernel), fun h => absurd h (by decide), fun h => absurd h (by decide)⟩
theorem xfX2_27 : xfF 2 (27, 2, 3, 0) := ⟨RX2, TX2, 4, rfl, by decide, xw 68 (by decide +kernel) (by decide +kernel), fun h => absurd h (by decide), fun h => absurd h (by decide)⟩
theorem xvX2_30 : xvF 2 (30, 5, mX5_copyFrom) := ⟨⟨TX5, 1, rfl⟩, ⟨xw 271 (by decide +kernel) (by decide +kernel), xdX5_copyFrom⟩, xw 272 (by decide +kernel) (by decide +kernel), xw 273 (by decide +kernel) (by decide +kernel)⟩
theorem xvX2_34 : xvF 2 (34, 5, mX5_get) := ⟨⟨TX5, 1, rfl⟩, ⟨xw 251 (by decide +kernel) (by decide +kernel), xdX5_get⟩, xw 252 (by decide +kernel) (by decide +kernel), xw 253 (by decide +kernel) (by decide +kernel)⟩
theorem xvX2_38 : xvF 2 (38, 2, mX2_isOfKind) := ⟨⟨TX2, 4, rfl⟩, ⟨xw 399 (by decide +kernel) (by decide +kernel), xdX2_isOfKind⟩, xw 388 (by decide +kernel) (by decide +kernel), xw 389 (by decide +kernel) (by decide +kernel)⟩
theorem xvX2_42 : xvF 2 (42, 2, mX2_find) := ⟨⟨TX2, 4, rfl⟩, ⟨xw 247 (by decide +kernel) (by decide +kernel), xdX2_find⟩, xw 249 (by decide +kernel) (by decide +kernel), xw 1 (by decide +kernel) (by decide +kernel)⟩
theorem xvX2_46 : xvF 2 (46, 5, mX5_set) := ⟨⟨TX5, 1, rfl⟩, ⟨xw 291 (by decide +kernel) (by decide +kernel), xdX5_set⟩, xw 292 (by decide +kernel) (by decide +kernel), xw 293 (by decide +kernel) (by decide +kernel)⟩
theorem xvX2_65 : xvF 2 (65, 2, mX2_truthOf) := ⟨⟨TX2, 4, rfl⟩, ⟨xw 551 (by decide +kernel) (by decide +kernel), xdX2_truthOf⟩, xw 553 (by decide +kernel) (by decide +kernel), xw 13 (by decide +kernel) (by decide +kernel)⟩
theorem xsX2_69 : xsF 2 (69, 0, mX2_truthOfAtom) := ⟨⟨xw 555 (by decide +kernel) (by decide +kernel), xdX2_truthOfAtom⟩, xw 556 (by decide +kernel) (by decide +kernel)⟩
theorem xkX2_72 : xkF 2 (72, vI (-1431655766)) := xw 558 (by decide +kernel) (by decide +kernel)
theorem xkX2_73 : xkF 2 (73, vI (-858993460)) := xw 559 (by decide +kernel) (by decide +kernel)
theorem xkX2_74 : xkF 2 (74, vI (-252645136)) := xw 560 (by decide +kernel) (by decide +kernel)
theorem xkX2_75 : xkF 2 (75, vI (-16711936)) := xw 561 (by decide +kernel) (by decide +kernel)
theorem xkX2_76 : xkF 2 (76, vI (-65536)) := xw 562 (by decide +kernel) (by decide +kernel)
def ceX2 : xCE := ([(9, 2, 0, 1), (20, 2, 1, 0), (24, 2, 2, 0), (27, 2, 3, 0)], [(30, 5, mX5_copyFrom), (34, 5, mX5_get), (38, 2, mX2_isOfKind), (42, 2, mX2_find), (46, 5, mX5_set), (65, 2, mX2_truthOf)], [(69, 0, mX2_truthOfAtom)], [(72, vI (-1431655766)), (73, vI (-858993460)), (74, vI (-252645136)), (75, vI (-16711936)), (76, vI (-65536))], [])
theorem ceX2_ok : xCEok 2 ceX2 := ⟨(xfc xfX2_9 (xfc xfX2_20 (xfc xfX2_24 (xfc xfX2_27 xfn)))), (xfc xvX2_30 (xfc xvX2_34 (xfc xvX2_38 (xfc xvX2_42 (xfc xvX2_46 (xfc xvX2_65 xfn)))))), (xfc xsX2_69 xfn), (xfc xkX2_72 (xfc xkX2_73 (xfc xkX2_74 (xfc xkX2_75 (xfc xkX2_76 xfn))))), xfn⟩
theorem xfX3_9 : xfF 3 (9, 3, 0, 1) := ⟨RX3, TX3, 3, rfl, by decide, xw 151 (by decide +kernel) (by decide +kernel), fun _ => ⟨rfl, rfl⟩, fun h => absurd h (by decide)⟩
theorem xfX3_15 : xfF 3 (15, 3, 1, 1) := ⟨RX3, TX3, 3, rfl, by decide, xw 152 (by decide +kernel) (by decide +kernel), fun _ => ⟨rfl, rfl⟩, fun h => absurd h (by decide)⟩
theorem xfX3_20 : xfF 3 (20, 3, 2, 0) := ⟨RX3, TX3, 3, rfl, by decide, xw 153 (by decide +kernel) (by decide +kernel), fun h => absurd h (by decide), fun h => absurd h (by decide)⟩
theorem xvX3_25 : xvF 3 (25, 3, mX3_at) := ⟨⟨TX3, 3, rfl⟩, ⟨xw 259 (by decide +kernel) (by decide +kernel), xdX3_at⟩, xw 261 (by decide +kernel) (by decide +kernel), xw 2 (by decide +kernel) (by decide +kernel)⟩
theorem xvX3_29 : xvF 3 (29, 6, mX7_copyFrom) := ⟨⟨TX7, 2, rfl⟩, ⟨xw 263 (by decide +kernel) (by decide +kernel), xdX7_copyFrom⟩, xw 264 (by decide +kernel) (by decide +kernel), xw 265 (by decide +kernel) (by decide +kernel)⟩
theorem xnX3_33 : xnF 3 (33, 1) := ⟨fun _ => ⟨xw 286 (by decide +kernel) (by decide +kernel), xw 276 (by decide +kernel) (by decide +kernel), xw 20 (by decide +kernel) (by decide +kernel), xw 277 (by decide +kernel) (by decide +kernel)⟩, fun h => absurd h (by decide)⟩
def ceX3 : xCE := ([(9, 3, 0, 1), (15, 3, 1, 1), (20, 3, 2, 0)], [(25, 3, mX3_at), (29, 6, mX7_copyFrom)], [], [], [(33, 1)])
theorem ceX3_ok : xCEok 3 ceX3 := ⟨(xfc xfX3_9 (xfc xfX3_15 (xfc xfX3_20 xfn))), (xfc xvX3_25 (xfc xvX3_29 xfn)), xfn, xfn, (xfc xnX3_33 xfn)⟩
theorem xfX4_9 : xfF 4 (9, 4, 0, 1) := ⟨RX4, TX4, 12, rfl, by decide, xw 87 (by decide +kernel) (by decide +kernel), fun _ => ⟨rfl, rfl⟩, fun h => absurd h (by decide)⟩
theorem xfX4_15 : xfF 4 (15, 4, 1, 1) := ⟨RX4, TX4, 12, rfl, by decide, xw 89 (by decide +kernel) (by decide +kernel), fun _ => ⟨rfl, rfl⟩, fun h => absurd h (by decide)⟩
theorem xfX4_18 : xfF 4 (18, 4, 2, 1) := ⟨RX4, TX4, 12, rfl, by decide, xw 91 (by decide +kernel) (by decide +kernel), fun _ => ⟨rfl, rfl⟩, fun h => absurd h (by decide)⟩
theorem xfX4_26 : xfF 4 (26, 4, 3, 0) := ⟨RX4, TX4, 12, rfl, by decide, xw 93 (by decide +kernel) (by decide +kernel), fun h => absurd h (by decide), fun h => absurd h (by decide)⟩
theorem xfX4_30 : xfF 4 (30, 4, 4, 0) := ⟨RX4, TX4, 12, rfl, by decide, xw 95 (by decide +kernel) (by decide +kernel), fun h => absurd h (by decide), fun h => absurd h (by decide)⟩
theorem xfX4_33 : xfF 4 (33, 4, 5, 0) := ⟨RX4, TX4, 12, rfl, by decide, xw 97 (by decide +kernel) (by decide +kernel), fun h => absurd h (by decide), fun h => absurd h (by decide)⟩
theorem xfX4_36 : xfF 4 (36, 4, 6, 0) := ⟨RX4, TX4, 12, rfl, by decide, xw 99 (by decide +kernel) (by decide +kernel), fun h => absurd h (by decide), fun h => absurd h (by decide)⟩
theorem xfX4_39 : xfF 4 (39, 4, 7, 0) := ⟨RX4, TX4, 12, rfl, by decide, xw 100 (by decide +kernel) (by decide +kernel), fun h => absurd h (by decide), fun h => absurd h (by decide)⟩
theorem xfX4_42 : xfF 4 (42, 4, 8, 0) := ⟨RX4, TX4, 12, rfl, by decide, xw 101 (by decide +kernel) (by decide +kernel), fun h => absurd h (by decide), fun h => absurd h (by decide)⟩
theorem xfX4_45 : xfF 4 (45, 4, 9, 0) := ⟨RX4, TX4, 12, rfl, by decide, xw 102 (by decide +kernel) (by decide +kernel), fun h => absurd h (by decide), fun h => absurd h (by decide)⟩
theorem xfX4_48 : xfF 4 (48, 4, 10, 0) := ⟨RX4, TX4, 12, rfl, by decide, xw 104 (by decide +kernel) (by decide +kernel), fun h => absurd h (by decide), fun h => absurd h (by decide)⟩
theorem xfX4_51 : xfF 4 (51, 4, 11, 0) := ⟨RX4, TX4, 12, rfl, by decide, xw 106 (by decide +kernel) (by decide +kernel), fun h => absurd h (by decide), fun h => absurd h (by decide)⟩
theorem xvX4_54 : xvF 4 (54, 5, mX5_copyFrom) := ⟨⟨TX5, 1, rfl⟩, ⟨xw 285 (by decide +kernel) (by decide +kernel), xdX5_copyFrom⟩, xw 272 (by decide +kernel) (by decide +kernel), xw 273 (by decide +kernel) (by decide +kernel)⟩
theorem xvX4_58 : xvF 4 (58, 5, mX5_set) := ⟨⟨TX5, 1, rfl⟩, ⟨xw 327 (by decide +kernel) (by decide +kernel), xdX5_set⟩, xw 292 (by decide +kernel) (by decide +kernel), xw 293 (by decide +kernel) (by decide +kernel)⟩
theorem xvX4_62 : xvF 4 (62, 4, mX4_addLine) := ⟨⟨TX4, 12, rfl⟩, ⟨xw 349 (by decide +kernel) (by decide +kernel), xdX4_addLine⟩, xw 324 (by decide +kernel) (by decide +kernel), xw 325 (by decide +kernel) (by decide +kernel)⟩
theorem xvX4_66 : xvF 4 (66, 5, mX5_get) := ⟨⟨TX5, 1, rfl⟩, ⟨xw 344 (by decide +kernel) (by decide +kernel), xdX5_get⟩, xw 252 (by decide +kernel) (by decide +kernel), xw 253 (by decide +kernel) (by decide +kernel)⟩
theorem xvX4_70 : xvF 4 (70, 4, mX4_hasBox) := ⟨⟨TX4, 12, rfl⟩, ⟨xw 340 (by decide +kernel) (by decide +kernel), xdX4_hasBox⟩, xw 341 (by decide +kernel) (by decide +kernel), xw 342 (by decide +kernel) (by decide +kernel)⟩
theorem xvX4_74 : xvF 4 (74, 4, mX4_isNoneOrOpen) := ⟨⟨TX4, 12, rfl⟩, ⟨xw 374 (by decide +kernel) (by decide +kernel), xdX4_isNoneOrOpen⟩, xw 376 (by decide +kernel) (by decide +kernel), xw 4 (by decide +kernel) (by decide +kernel)⟩
theorem xvX4_81 : xvF 4 (81, 4, mX4_countLineReferences) := ⟨⟨TX4, 12, rfl⟩, ⟨xw 437 (by decide +kernel) (by decide +kernel), xdX4_countLineReferences⟩, xw 439 (by decide +kernel) (by decide +kernel), xw 6 (by decide +kernel) (by decide +kernel)⟩
theorem xvX4_84 : xvF 4 (84, 4, mX4_referenceAt) := ⟨⟨TX4, 12, rfl⟩, ⟨xw 467 (by decide +kernel) (by decide +kernel), xdX4_referenceAt⟩, xw 468 (by decide +kernel) (by decide +kernel), xw 469 (by decide +kernel) (by decide +kernel)⟩
theorem xvX4_88 : xvF 4 (88, 4, mX4_directNeeds) := ⟨⟨TX4, 12, rfl⟩, ⟨xw 463 (by decide +kernel) (by decide +kernel), xdX4_directNeeds⟩, xw 465 (by decide +kernel) (by decide +kernel), xw 8 (by decide +kernel) (by decide +kernel)⟩
theorem xvX4_95 : xvF 4 (95, 4, mX4_assumptionsFrom) := ⟨⟨TX4, 12, rfl⟩, ⟨xw 471 (by decide +kernel) (by decide +kernel), xdX4_assumptionsFrom⟩, xw 473 (by decide +kernel) (by decide +kernel), xw 9 (by decide +kernel) (by decide +kernel)⟩
theorem xvX4_98 : xvF 4 (98, 4, mX4_bypassOf) := ⟨⟨TX4, 12, rfl⟩, ⟨xw 445 (by decide +kernel) (by decide +kernel), xdX4_bypassOf⟩, xw 446 (by decide +kernel) (by decide +kernel), xw 447 (by decide +kernel) (by decide +kernel)⟩
theorem xvX4_101 : xvF 4 (101, 4, mX4_bypassIn) := ⟨⟨TX4, 12, rfl⟩, ⟨xw 441 (by decide +kernel) (by decide +kernel), xdX4_bypassIn⟩, xw 443 (by decide +kernel) (by decide +kernel), xw 7 (by decide +kernel) (by decide +kernel)⟩
theorem xvX4_105 : xvF 4 (105, 4, mX4_keepBoxes) := ⟨⟨TX4, 12, rfl⟩, ⟨xw 479 (by decide +kernel) (by decide +kernel), xdX4_keepBoxes⟩, xw 481 (by decide +kernel) (by decide +kernel), xw 10 (by decide +kernel) (by decide +kernel)⟩
theorem xvX4_109 : xvF 4 (109, 4, mX4_moveLine) := ⟨⟨TX4, 12, rfl⟩, ⟨xw 492 (by decide +kernel) (by decide +kernel), xdX4_moveLine⟩, xw 494 (by decide +kernel) (by decide +kernel), xw 11 (by decide +kernel) (by decide +kernel)⟩
theorem xvX4_113 : xvF 4 (113, 4, mX4_findEnds) := ⟨⟨TX4, 12, rfl⟩, ⟨xw 496 (by decide +kernel) (by decide +kernel), xdX4_findEnds⟩, xw 498 (by decide +kernel) (by decide +kernel), xw 12 (by decide +kernel) (by decide +kernel)⟩
theorem xsX4_77 : xsF 4 (77, 0, mX4_bit) := ⟨⟨xw 457 (by decide +kernel) (by decide +kernel), xdX4_bit⟩, xw 458 (by decide +kernel) (by decide +kernel)⟩
theorem xsX4_91 : xsF 4 (91, 0, mX4_contains) := ⟨⟨xw 460 (by decide +kernel) (by decide +kernel), xdX4_contains⟩, xw 461 (by decide +kernel) (by decide +kernel)⟩
theorem xsX4_116 : xsF 4 (116, 0, mJ13_bitCount_95d88) := ⟨⟨xw 486 (by decide +kernel) (by decide +kernel), xdJ13_bitCount_95d88⟩, xw 487 (by decide +kernel) (by decide +kernel)⟩
theorem xsX4_122 : xsF 4 (122, 0, mX4_renumbered) := ⟨⟨xw 483 (by decide +kernel) (by decide +kernel), xdX4_renumbered⟩, xw 484 (by decide +kernel) (by decide +kernel)⟩
def ceX4 : xCE := ([(9, 4, 0, 1), (15, 4, 1, 1), (18, 4, 2, 1), (26, 4, 3, 0), (30, 4, 4, 0), (33, 4, 5, 0), (36, 4, 6, 0), (39, 4, 7, 0), (42, 4, 8, 0), (45, 4, 9, 0), (48, 4, 10, 0), (51, 4, 11, 0)], [(54, 5, mX5_copyFrom), (58, 5, mX5_set), (62, 4, mX4_addLine), (66, 5, mX5_get), (70, 4, mX4_hasBox), (74, 4, mX4_isNoneOrOpen), (81, 4, mX4_countLineReferences), (84, 4, mX4_referenceAt), (88, 4, mX4_directNeeds), (95, 4, mX4_assumptionsFrom), (98, 4, mX4_bypassOf), (101, 4, mX4_bypassIn), (105, 4, mX4_keepBoxes), (109, 4, mX4_moveLine), (113, 4, mX4_findEnds)], [(77, 0, mX4_bit), (91, 0, mX4_contains), (116, 0, mJ13_bitCount_95d88), (122, 0, mX4_renumbered)], [], [])
theorem ceX4_ok : xCEok 4 ceX4 := ⟨(xfc xfX4_9 (xfc xfX4_15 (xfc xfX4_18 (xfc xfX4_26 (xfc xfX4_30 (xfc xfX4_33 (xfc xfX4_36 (xfc xfX4_39 (xfc xfX4_42 (xfc xfX4_45 (xfc xfX4_48 (xfc xfX4_51 xfn)))))))))))), (xfc xvX4_54 (xfc xvX4_58 (xfc xvX4_62 (xfc xvX4_66 (xfc xvX4_70 (xfc xvX4_74 (xfc xvX4_81 (xfc xvX4_84 (xfc xvX4_88 (xfc xvX4_95 (xfc xvX4_98 (xfc xvX4_101 (xfc xvX4_105 (xfc xvX4_109 (xfc xvX4_113 xfn))))))))))))))), (xfc xsX4_77 (xfc xsX4_91 (xfc xsX4_116 (xfc xsX4_122 xfn)))), xfn, xfn⟩
theorem xfX5_15 : xfF 5 (15, 5, 0, 0) := ⟨RX5, TX5, 1, rfl, by decide, xw 57 (by decide +kernel) (by decide +kernel), fun h => absurd h (by decide), fun h => absurd h (by decide)⟩
theorem xnX5_21 : xnF 5 (21, 1) := ⟨fun _ => ⟨xw 275 (by decide +kernel) (by decide +kernel), xw 276 (by decide +kernel) (by decide +kernel), xw 20 (by decide +kernel) (by decide +kernel), xw 277 (by decide +kernel) (by decide +kernel)⟩, fun h => absurd h (by decide)⟩
theorem xnX5_24 : xnF 5 (24, 2) := ⟨fun h => absurd h (by decide), fun _ => ⟨xw 278 (by decide +kernel) (by decide +kernel), xw 280 (by decide +kernel) (by decide +kernel), xw 279 (by decide +kernel) (by decide +kernel), xw 25 (by decide +kernel) (by decide +kernel)⟩⟩
def ceX5 : xCE := ([(15, 5, 0, 0)], [], [], [], [(21, 1), (24, 2)])
theorem ceX5_ok : xCEok 5 ceX5 := ⟨(xfc xfX5_15 xfn), xfn, xfn, xfn, (xfc xnX5_21 (xfc xnX5_24 xfn))⟩
def ceX6 : xCE := ([], [], [], [], [])
theorem ceX6_ok : xCEok 6 ceX6 := ⟨xfn, xfn, xfn, xfn, xfn⟩
theorem xfX7_10 : xfF 7 (10, 6, 0, 0) := ⟨RX7, TX7, 2, rfl, by decide, xw 133 (by decide +kernel) (by decide +kernel), fun h => absurd h (by decide), fun h => absurd h (by decide)⟩
theorem xfX7_19 : xfF 7 (19, 6, 1, 0) := ⟨RX7, TX7, 2, rfl, by decide, xw 135 (by decide +kernel) (by decide +kernel), fun h => absurd h (by decide), fun h => absurd h (by decide)⟩
theorem xvX7_23 : xvF 7 (23, 2, mX2_copyFrom) := ⟨⟨TX2, 4, rfl⟩, ⟨xw 267 (by decide +kernel) (by decide +kernel), xdX2_copyFrom⟩, xw 268 (by decide +kernel) (by decide +kernel), xw 269 (by decide +kernel) (by decide +kernel)⟩
theorem xvX7_27 : xvF 7 (27, 4, mX4_copyFrom) := ⟨⟨TX4, 12, rfl⟩, ⟨xw 281 (by decide +kernel) (by decide +kernel), xdX4_copyFrom⟩, xw 282 (by decide +kernel) (by decide +kernel), xw 283 (by decide +kernel) (by decide +kernel)⟩
def ceX7 : xCE := ([(10, 6, 0, 0), (19, 6, 1, 0)], [(23, 2, mX2_copyFrom), (27, 4, mX4_copyFrom)], [], [], [])
theorem ceX7_ok : xCEok 7 ceX7 := ⟨(xfc xfX7_10 (xfc xfX7_19 xfn)), (xfc xvX7_23 (xfc xvX7_27 xfn)), xfn, xfn, xfn⟩
theorem xfX8_10 : xfF 8 (10, 7, 0, 0) := ⟨RX8, TX8, 9, rfl, by decide, xw 207 (by decide +kernel) (by decide +kernel), fun h => absurd h (by decide), fun h => absurd h (by decide)⟩
theorem xfX8_22 : xfF 8 (22, 7, 2, 0) := ⟨RX8, TX8, 9, rfl, by decide, xw 209 (by decide +kernel) (by decide +kernel), fun h => absurd h (by decide), fun h => absurd h (by decide)⟩
theorem xfX8_56 : xfF 8 (56, 7, 7, 0) := ⟨RX8, TX8, 9, rfl, by decide, xw 214 (by decide +kernel) (by decide +kernel), fun h => absurd h (by decide), fun h => absurd h (by decide)⟩
theorem xfX8_67 : xfF 8 (67, 6, 0, 0) := ⟨RX7, TX7, 2, rfl, by decide, xw 134 (by decide +kernel) (by decide +kernel), fun h => absurd h (by decide), fun h => absurd h (by decide)⟩
theorem xfX8_85 : xfF 8 (85, 2, 0, 1) := ⟨RX2, TX2, 4, rfl, by decide, xw 63 (by decide +kernel) (by decide +kernel), fun _ => ⟨rfl, rfl⟩, fun h => absurd h (by decide)⟩
theorem xfX8_89 : xfF 8 (89, 2, 1, 0) := ⟨RX2, TX2, 4, rfl, by decide, xw 65 (by decide +kernel) (by decide +kernel), fun h => absurd h (by decide), fun h => absurd h (by decide)⟩
theorem xfX8_96 : xfF 8 (96, 2, 2, 0) := ⟨RX2, TX2, 4, rfl, by decide, xw 67 (by decide +kernel) (by decide +kernel), fun h => absurd h (by decide), fun h => absurd h (by decide)⟩
theorem xfX8_99 : xfF 8 (99, 2, 3, 0) := ⟨RX2, TX2, 4, rfl, by decide, xw 69 (by decide +kernel) (by decide +kernel), fun h => absurd h (by decide), fun h => absurd h (by decide)⟩
theorem xfX8_114 : xfF 8 (114, 6, 1, 0) := ⟨RX7, TX7, 2, rfl, by decide, xw 136 (by decide +kernel) (by decide +kernel), fun h => absurd h (by decide), fun h => absurd h (by decide)⟩
theorem xfX8_118 : xfF 8 (118, 4, 2, 1) := ⟨RX4, TX4, 12, rfl, by decide, xw 92 (by decide +kernel) (by decide +kernel), fun _ => ⟨rfl, rfl⟩, fun h => absurd h (by decide)⟩
theorem xfX8_150 : xfF 8 (150, 4, 3, 0) := ⟨RX4, TX4, 12, rfl, by decide, xw 94 (by decide +kernel) (by decide +kernel), fun h => absurd h (by decide), fun h => absurd h (by decide)⟩
theorem xfX8_183 : xfF 8 (183, 4, 0, 1) := ⟨RX4, TX4, 12, rfl, by decide, xw 88 (by decide +kernel) (by decide +kernel), fun _ => ⟨rfl, rfl⟩, fun h => absurd h (by decide)⟩
theorem xfX8_186 : xfF 8 (186, 4, 4, 0) := ⟨RX4, TX4, 12, rfl, by decide, xw 96 (by decide +kernel) (by decide +kernel), fun h => absurd h (by decide), fun h => absurd h (by decide)⟩
theorem xfX8_189 : xfF 8 (189, 4, 5, 0) := ⟨RX4, TX4, 12, rfl, by decide, xw 98 (by decide +kernel) (by decide +kernel), fun h => absurd h (by decide), fun h => absurd h (by decide)⟩
theorem xfX8_201 : xfF 8 (201, 4, 1, 1) := ⟨RX4, TX4, 12, rfl, by decide, xw 90 (by decide +kernel) (by decide +kernel), fun _ => ⟨rfl, rfl⟩, fun h => absurd h (by decide)⟩
theorem xfX8_204 : xfF 8 (204, 4, 9, 0) := ⟨RX4, TX4, 12, rfl, by decide, xw 103 (by decide +kernel) (by decide +kernel), fun h => absurd h (by decide), fun h => absurd h (by decide)⟩
theorem xfX8_207 : xfF 8 (207, 4, 10, 0) := ⟨RX4, TX4, 12, rfl, by decide, xw 105 (by decide +kernel) (by decide +kernel), fun h => absurd h (by decide), fun h => absurd h (by decide)⟩
theorem xfX8_210 : xfF 8 (210, 4, 11, 0) := ⟨RX4, TX4, 12, rfl, by decide, xw 107 (by decide +kernel) (by decide +kernel), fun h => absurd h (by decide), fun h => absurd h (by decide)⟩
theorem xvX8_63 : xvF 8 (63, 7, mX8_makeFormula) := ⟨⟨TX8, 9, rfl⟩, ⟨xw 239 (by decide +kernel) (by decide +kernel), xdX8_makeFormula⟩, xw 241 (by decide +kernel) (by decide +kernel), xw 0 (by decide +kernel) (by decide +kernel)⟩
theorem xvX8_70 : xvF 8 (70, 2, mX2_has) := ⟨⟨TX2, 4, rfl⟩, ⟨xw 303 (by decide +kernel) (by decide +kernel), xdX2_has⟩, xw 304 (by decide +kernel) (by decide +kernel), xw 305 (by decide +kernel) (by decide +kernel)⟩
theorem xvX8_74 : xvF 8 (74, 2, mX2_hasRoomFor) := ⟨⟨TX2, 4, rfl⟩, ⟨xw 243 (by decide +kernel) (by decide +kernel), xdX2_hasRoomFor⟩, xw 244 (by decide +kernel) (by decide +kernel), xw 245 (by decide +kernel) (by decide +kernel)⟩
theorem xvX8_78 : xvF 8 (78, 3, mX3_record) := ⟨⟨TX3, 3, rfl⟩, ⟨xw 255 (by decide +kernel) (by decide +kernel), xdX3_record⟩, xw 256 (by decide +kernel) (by decide +kernel), xw 257 (by decide +kernel) (by decide +kernel)⟩
theorem xvX8_82 : xvF 8 (82, 2, mX2_make) := ⟨⟨TX2, 4, rfl⟩, ⟨xw 287 (by decide +kernel) (by decide +kernel), xdX2_make⟩, xw 288 (by decide +kernel) (by decide +kernel), xw 289 (by decide +kernel) (by decide +kernel)⟩
theorem xvX8_92 : xvF 8 (92, 5, mX5_get) := ⟨⟨TX5, 1, rfl⟩, ⟨xw 378 (by decide +kernel) (by decide +kernel), xdX5_get⟩, xw 252 (by decide +kernel) (by decide +kernel), xw 253 (by decide +kernel) (by decide +kernel)⟩
theorem xvX8_110 : xvF 8 (110, 2, mX2_evaluate) := ⟨⟨TX2, 4, rfl⟩, ⟨xw 547 (by decide +kernel) (by decide +kernel), xdX2_evaluate⟩, xw 548 (by decide +kernel) (by decide +kernel), xw 549 (by decide +kernel) (by decide +kernel)⟩
theorem xvX8_123 : xvF 8 (123, 7, mX8_write) := ⟨⟨TX8, 9, rfl⟩, ⟨xw 315 (by decide +kernel) (by decide +kernel), xdX8_write⟩, xw 317 (by decide +kernel) (by decide +kernel), xw 3 (by decide +kernel) (by decide +kernel)⟩
theorem xvX8_127 : xvF 8 (127, 4, mX4_isFull) := ⟨⟨TX4, 12, rfl⟩, ⟨xw 319 (by decide +kernel) (by decide +kernel), xdX4_isFull⟩, xw 320 (by decide +kernel) (by decide +kernel), xw 321 (by decide +kernel) (by decide +kernel)⟩
theorem xvX8_131 : xvF 8 (131, 7, mX8_depth) := ⟨⟨TX8, 9, rfl⟩, ⟨xw 332 (by decide +kernel) (by decide +kernel), xdX8_depth⟩, xw 333 (by decide +kernel) (by decide +kernel), xw 334 (by decide +kernel) (by decide +kernel)⟩
theorem xvX8_135 : xvF 8 (135, 4, mX4_openBox) := ⟨⟨TX4, 12, rfl⟩, ⟨xw 345 (by decide +kernel) (by decide +kernel), xdX4_openBox⟩, xw 346 (by decide +kernel) (by decide +kernel), xw 347 (by decide +kernel) (by decide +kernel)⟩
theorem xvX8_138 : xvF 8 (138, 4, mX4_canCloseBox) := ⟨⟨TX4, 12, rfl⟩, ⟨xw 354 (by decide +kernel) (by decide +kernel), xdX4_canCloseBox⟩, xw 355 (by decide +kernel) (by decide +kernel), xw 356 (by decide +kernel) (by decide +kernel)⟩
theorem xvX8_141 : xvF 8 (141, 4, mX4_closeBox) := ⟨⟨TX4, 12, rfl⟩, ⟨xw 358 (by decide +kernel) (by decide +kernel), xdX4_closeBox⟩, xw 359 (by decide +kernel) (by decide +kernel), xw 360 (by decide +kernel) (by decide +kernel)⟩
theorem xvX8_144 : xvF 8 (144, 4, mX4_hasLine) := ⟨⟨TX4, 12, rfl⟩, ⟨xw 366 (by decide +kernel) (by decide +kernel), xdX4_hasLine⟩, xw 367 (by decide +kernel) (by decide +kernel), xw 368 (by decide +kernel) (by decide +kernel)⟩
theorem xvX8_147 : xvF 8 (147, 4, mX4_isLineAvailable) := ⟨⟨TX4, 12, rfl⟩, ⟨xw 370 (by decide +kernel) (by decide +kernel), xdX4_isLineAvailable⟩, xw 371 (by decide +kernel) (by decide +kernel), xw 372 (by decide +kernel) (by decide +kernel)⟩
theorem xvX8_153 : xvF 8 (153, 7, mX8_writeMade) := ⟨⟨TX8, 9, rfl⟩, ⟨xw 383 (by decide +kernel) (by decide +kernel), xdX8_writeMade⟩, xw 385 (by decide +kernel) (by decide +kernel), xw 5 (by decide +kernel) (by decide +kernel)⟩
theorem xvX8_157 : xvF 8 (157, 2, mX2_isOfKind) := ⟨⟨TX2, 4, rfl⟩, ⟨xw 387 (by decide +kernel) (by decide +kernel), xdX2_isOfKind⟩, xw 388 (by decide +kernel) (by decide +kernel), xw 389 (by decide +kernel) (by decide +kernel)⟩
theorem xvX8_161 : xvF 8 (161, 2, mX2_takenOut) := ⟨⟨TX2, 4, rfl⟩, ⟨xw 395 (by decide +kernel) (by decide +kernel), xdX2_takenOut⟩, xw 396 (by decide +kernel) (by decide +kernel), xw 397 (by decide +kernel) (by decide +kernel)⟩
theorem xvX8_165 : xvF 8 (165, 2, mX2_isPartOfDisjunction) := ⟨⟨TX2, 4, rfl⟩, ⟨xw 404 (by decide +kernel) (by decide +kernel), xdX2_isPartOfDisjunction⟩, xw 405 (by decide +kernel) (by decide +kernel), xw 406 (by decide +kernel) (by decide +kernel)⟩
theorem xvX8_168 : xvF 8 (168, 4, mX4_hasBox) := ⟨⟨TX4, 12, rfl⟩, ⟨xw 412 (by decide +kernel) (by decide +kernel), xdX4_hasBox⟩, xw 341 (by decide +kernel) (by decide +kernel), xw 342 (by decide +kernel) (by decide +kernel)⟩
theorem xvX8_171 : xvF 8 (171, 4, mX4_isBoxAvailable) := ⟨⟨TX4, 12, rfl⟩, ⟨xw 413 (by decide +kernel) (by decide +kernel), xdX4_isBoxAvailable⟩, xw 414 (by decide +kernel) (by decide +kernel), xw 415 (by decide +kernel) (by decide +kernel)⟩
theorem xvX8_174 : xvF 8 (174, 4, mX4_assumptionOf) := ⟨⟨TX4, 12, rfl⟩, ⟨xw 417 (by decide +kernel) (by decide +kernel), xdX4_assumptionOf⟩, xw 418 (by decide +kernel) (by decide +kernel), xw 419 (by decide +kernel) (by decide +kernel)⟩
theorem xvX8_177 : xvF 8 (177, 4, mX4_conclusionOf) := ⟨⟨TX4, 12, rfl⟩, ⟨xw 421 (by decide +kernel) (by decide +kernel), xdX4_conclusionOf⟩, xw 422 (by decide +kernel) (by decide +kernel), xw 423 (by decide +kernel) (by decide +kernel)⟩
theorem xvX8_180 : xvF 8 (180, 4, mX4_addLine) := ⟨⟨TX4, 12, rfl⟩, ⟨xw 323 (by decide +kernel) (by decide +kernel), xdX4_addLine⟩, xw 324 (by decide +kernel) (by decide +kernel), xw 325 (by decide +kernel) (by decide +kernel)⟩
theorem xvX8_192 : xvF 8 (192, 4, mX4_nesting) := ⟨⟨TX4, 12, rfl⟩, ⟨xw 336 (by decide +kernel) (by decide +kernel), xdX4_nesting⟩, xw 337 (by decide +kernel) (by decide +kernel), xw 338 (by decide +kernel) (by decide +kernel)⟩
theorem xvX8_195 : xvF 8 (195, 4, mX4_countUsers) := ⟨⟨TX4, 12, rfl⟩, ⟨xw 577 (by decide +kernel) (by decide +kernel), xdX4_countUsers⟩, xw 578 (by decide +kernel) (by decide +kernel), xw 579 (by decide +kernel) (by decide +kernel)⟩
theorem xvX8_198 : xvF 8 (198, 4, mX4_referenceAt) := ⟨⟨TX4, 12, rfl⟩, ⟨xw 598 (by decide +kernel) (by decide +kernel), xdX4_referenceAt⟩, xw 468 (by decide +kernel) (by decide +kernel), xw 469 (by decide +kernel) (by decide +kernel)⟩
theorem xvX8_215 : xvF 8 (215, 4, mX4_allNeeds) := ⟨⟨TX4, 12, rfl⟩, ⟨xw 453 (by decide +kernel) (by decide +kernel), xdX4_allNeeds⟩, xw 454 (by decide +kernel) (by decide +kernel), xw 455 (by decide +kernel) (by decide +kernel)⟩
theorem xvX8_219 : xvF 8 (219, 4, mX4_bypassOf) := ⟨⟨TX4, 12, rfl⟩, ⟨xw 588 (by decide +kernel) (by decide +kernel), xdX4_bypassOf⟩, xw 446 (by decide +kernel) (by decide +kernel), xw 447 (by decide +kernel) (by decide +kernel)⟩
theorem xvX8_222 : xvF 8 (222, 4, mX4_countDetours) := ⟨⟨TX4, 12, rfl⟩, ⟨xw 616 (by decide +kernel) (by decide +kernel), xdX4_countDetours⟩, xw 617 (by decide +kernel) (by decide +kernel), xw 618 (by decide +kernel) (by decide +kernel)⟩
theorem xvX8_225 : xvF 8 (225, 7, mX8_lowestFailure) := ⟨⟨TX8, 9, rfl⟩, ⟨xw 627 (by decide +kernel) (by decide +kernel), xdX8_lowestFailure⟩, xw 629 (by decide +kernel) (by decide +kernel), xw 14 (by decide +kernel) (by decide +kernel)⟩
theorem xvX8_228 : xvF 8 (228, 4, mX4_allowedValuations) := ⟨⟨TX4, 12, rfl⟩, ⟨xw 631 (by decide +kernel) (by decide +kernel), xdX4_allowedValuations⟩, xw 632 (by decide +kernel) (by decide +kernel), xw 633 (by decide +kernel) (by decide +kernel)⟩
theorem xvX8_240 : xvF 8 (240, 4, mX4_bypassDetours) := ⟨⟨TX4, 12, rfl⟩, ⟨xw 433 (by decide +kernel) (by decide +kernel), xdX4_bypassDetours⟩, xw 434 (by decide +kernel) (by decide +kernel), xw 435 (by decide +kernel) (by decide +kernel)⟩
theorem xvX8_243 : xvF 8 (243, 4, mX4_keepOnly) := ⟨⟨TX4, 12, rfl⟩, ⟨xw 475 (by decide +kernel) (by decide +kernel), xdX4_keepOnly⟩, xw 476 (by decide +kernel) (by decide +kernel), xw 477 (by decide +kernel) (by decide +kernel)⟩
theorem xsX8_232 : xsF 8 (232, 0, mX8_lowestBit) := ⟨⟨xw 635 (by decide +kernel) (by decide +kernel), xdX8_lowestBit⟩, xw 636 (by decide +kernel) (by decide +kernel)⟩
theorem xsX8_235 : xsF 8 (235, 0, mJ6_bitCount_0f7a4) := ⟨⟨xw 638 (by decide +kernel) (by decide +kernel), xdJ6_bitCount_0f7a4⟩, xw 639 (by decide +kernel) (by decide +kernel)⟩
theorem xkX8_213 : xkF 8 (213, vL (-1)) := xw 593 (by decide +kernel) (by decide +kernel)
def ceX8 : xCE := ([(10, 7, 0, 0), (22, 7, 2, 0), (56, 7, 7, 0), (67, 6, 0, 0), (85, 2, 0, 1), (89, 2, 1, 0), (96, 2, 2, 0), (99, 2, 3, 0), (114, 6, 1, 0), (118, 4, 2, 1), (150, 4, 3, 0), (183, 4, 0, 1), (186, 4, 4, 0), (189, 4, 5, 0), (201, 4, 1, 1), (204, 4, 9, 0), (207, 4, 10, 0), (210, 4, 11, 0)], [(63, 7, mX8_makeFormula), (70, 2, mX2_has), (74, 2, mX2_hasRoomFor), (78, 3, mX3_record), (82, 2, mX2_make), (92, 5, mX5_get), (110, 2, mX2_evaluate), (123, 7, mX8_write), (127, 4, mX4_isFull), (131, 7, mX8_depth), (135, 4, mX4_openBox), (138, 4, mX4_canCloseBox), (141, 4, mX4_closeBox), (144, 4, mX4_hasLine), (147, 4, mX4_isLineAvailable), (153, 7, mX8_writeMade), (157, 2, mX2_isOfKind), (161, 2, mX2_takenOut), (165, 2, mX2_isPartOfDisjunction), (168, 4, mX4_hasBox), (171, 4, mX4_isBoxAvailable), (174, 4, mX4_assumptionOf), (177, 4, mX4_conclusionOf), (180, 4, mX4_addLine), (192, 4, mX4_nesting), (195, 4, mX4_countUsers), (198, 4, mX4_referenceAt), (215, 4, mX4_allNeeds), (219, 4, mX4_bypassOf), (222, 4, mX4_countDetours), (225, 7, mX8_lowestFailure), (228, 4, mX4_allowedValuations), (240, 4, mX4_bypassDetours), (243, 4, mX4_keepOnly)], [(232, 0, mX8_lowestBit), (235, 0, mJ6_bitCount_0f7a4)], [(213, vL (-1))], [])
theorem ceX8_ok : xCEok 8 ceX8 := ⟨(xfc xfX8_10 (xfc xfX8_22 (xfc xfX8_56 (xfc xfX8_67 (xfc xfX8_85 (xfc xfX8_89 (xfc xfX8_96 (xfc xfX8_99 (xfc xfX8_114 (xfc xfX8_118 (xfc xfX8_150 (xfc xfX8_183 (xfc xfX8_186 (xfc xfX8_189 (xfc xfX8_201 (xfc xfX8_204 (xfc xfX8_207 (xfc xfX8_210 xfn)))))))))))))))))), (xfc xvX8_63 (xfc xvX8_70 (xfc xvX8_74 (xfc xvX8_78 (xfc xvX8_82 (xfc xvX8_92 (xfc xvX8_110 (xfc xvX8_123 (xfc xvX8_127 (xfc xvX8_131 (xfc xvX8_135 (xfc xvX8_138 (xfc xvX8_141 (xfc xvX8_144 (xfc xvX8_147 (xfc xvX8_153 (xfc xvX8_157 (xfc xvX8_161 (xfc xvX8_165 (xfc xvX8_168 (xfc xvX8_171 (xfc xvX8_174 (xfc xvX8_177 (xfc xvX8_180 (xfc xvX8_192 (xfc xvX8_195 (xfc xvX8_198 (xfc xvX8_215 (xfc xvX8_219 (xfc xvX8_222 (xfc xvX8_225 (xfc xvX8_228 (xfc xvX8_240 (xfc xvX8_243 xfn)))))))))))))))))))))))))))))))))), (xfc xsX8_232 (xfc xsX8_235 xfn)), (xfc xkX8_213 xfn), xfn⟩
theorem xkJ6_265 : xkF 10 (265, vI 1431655765) := xw 641 (by decide +kernel) (by decide +kernel)
theorem xkJ6_266 : xkF 10 (266, vI 858993459) := xw 642 (by decide +kernel) (by decide +kernel)
theorem xkJ6_267 : xkF 10 (267, vI 252645135) := xw 643 (by decide +kernel) (by decide +kernel)
def ceJ6 : xCE := ([], [], [], [(265, vI 1431655765), (266, vI 858993459), (267, vI 252645135)], [])
theorem ceJ6_ok : xCEok 10 ceJ6 := ⟨xfn, xfn, xfn, (xfc xkJ6_265 (xfc xkJ6_266 (xfc xkJ6_267 xfn))), xfn⟩
theorem xkJ13_314 : xkF 11 (314, vL 6148914691236517205) := xw 489 (by decide +kernel) (by decide +kernel)
theorem xkJ13_316 : xkF 11 (316, vL 3689348814741910323) := xw 490 (by decide +kernel) (by decide +kernel)
theorem xkJ13_318 : xkF 11 (318, vL 1085102592571150095) := xw 491 (by decide +kernel) (by decide +kernel)
def ceJ13 : xCE := ([], [], [], [(314, vL 6148914691236517205), (316, vL 3689348814741910323), (318, vL 1085102592571150095)], [])
theorem ceJ13_ok : xCEok 11 ceJ13 := ⟨xfn, xfn, xfn, (xfc xkJ13_314 (xfc xkJ13_316 (xfc xkJ13_318 xfn))), xfn⟩
theorem xvL_30 : xvF 12 (30, 7, mX8_part) := ⟨⟨TX8, 9, rfl⟩, ⟨xw 536 (by decide +kernel) (by decide +kernel), xdX8_part⟩, xw 537 (by decide +kernel) (by decide +kernel), xw 538 (by decide +kernel) (by decide +kernel)⟩
theorem xvL_41 : xvF 12 (41, 7, mX8_isTrue) := ⟨⟨TX8, 9, rfl⟩, ⟨xw 543 (by decide +kernel) (by decide +kernel), xdX8_isTrue⟩, xw 544 (by decide +kernel) (by decide +kernel), xw 545 (by decide +kernel) (by decide +kernel)⟩
theorem xvL_44 : xvF 12 (44, 7, mX8_formulas) := ⟨⟨TX8, 9, rfl⟩, ⟨xw 563 (by decide +kernel) (by decide +kernel), xdX8_formulas⟩, xw 564 (by decide +kernel) (by decide +kernel), xw 565 (by decide +kernel) (by decide +kernel)⟩
theorem xvL_52 : xvF 12 (52, 7, mX8_line) := ⟨⟨TX8, 9, rfl⟩, ⟨xw 573 (by decide +kernel) (by decide +kernel), xdX8_line⟩, xw 574 (by decide +kernel) (by decide +kernel), xw 575 (by decide +kernel) (by decide +kernel)⟩
theorem xvL_59 : xvF 12 (59, 7, mX8_bypass) := ⟨⟨TX8, 9, rfl⟩, ⟨xw 584 (by decide +kernel) (by decide +kernel), xdX8_bypass⟩, xw 585 (by decide +kernel) (by decide +kernel), xw 586 (by decide +kernel) (by decide +kernel)⟩
theorem xvL_62 : xvF 12 (62, 7, mX8_needs) := ⟨⟨TX8, 9, rfl⟩, ⟨xw 589 (by decide +kernel) (by decide +kernel), xdX8_needs⟩, xw 590 (by decide +kernel) (by decide +kernel), xw 591 (by decide +kernel) (by decide +kernel)⟩
theorem xvL_69 : xvF 12 (69, 7, mX8_reference) := ⟨⟨TX8, 9, rfl⟩, ⟨xw 594 (by decide +kernel) (by decide +kernel), xdX8_reference⟩, xw 595 (by decide +kernel) (by decide +kernel), xw 596 (by decide +kernel) (by decide +kernel)⟩
theorem xvL_72 : xvF 12 (72, 7, mX8_box) := ⟨⟨TX8, 9, rfl⟩, ⟨xw 599 (by decide +kernel) (by decide +kernel), xdX8_box⟩, xw 600 (by decide +kernel) (by decide +kernel), xw 601 (by decide +kernel) (by decide +kernel)⟩
theorem xvL_75 : xvF 12 (75, 7, mX8_lines) := ⟨⟨TX8, 9, rfl⟩, ⟨xw 603 (by decide +kernel) (by decide +kernel), xdX8_lines⟩, xw 604 (by decide +kernel) (by decide +kernel), xw 605 (by decide +kernel) (by decide +kernel)⟩
theorem xvL_78 : xvF 12 (78, 7, mX8_boxes) := ⟨⟨TX8, 9, rfl⟩, ⟨xw 607 (by decide +kernel) (by decide +kernel), xdX8_boxes⟩, xw 608 (by decide +kernel) (by decide +kernel), xw 609 (by decide +kernel) (by decide +kernel)⟩
theorem xvL_81 : xvF 12 (81, 7, mX8_depth) := ⟨⟨TX8, 9, rfl⟩, ⟨xw 611 (by decide +kernel) (by decide +kernel), xdX8_depth⟩, xw 333 (by decide +kernel) (by decide +kernel), xw 334 (by decide +kernel) (by decide +kernel)⟩
theorem xvL_84 : xvF 12 (84, 7, mX8_detours) := ⟨⟨TX8, 9, rfl⟩, ⟨xw 612 (by decide +kernel) (by decide +kernel), xdX8_detours⟩, xw 613 (by decide +kernel) (by decide +kernel), xw 614 (by decide +kernel) (by decide +kernel)⟩
theorem xvL_87 : xvF 12 (87, 7, mX8_failure) := ⟨⟨TX8, 9, rfl⟩, ⟨xw 623 (by decide +kernel) (by decide +kernel), xdX8_failure⟩, xw 624 (by decide +kernel) (by decide +kernel), xw 625 (by decide +kernel) (by decide +kernel)⟩
theorem xvL_90 : xvF 12 (90, 7, mX8_counterexample) := ⟨⟨TX8, 9, rfl⟩, ⟨xw 644 (by decide +kernel) (by decide +kernel), xdX8_counterexample⟩, xw 645 (by decide +kernel) (by decide +kernel), xw 646 (by decide +kernel) (by decide +kernel)⟩
theorem xvL_113 : xvF 12 (113, 7, mX8_atom) := ⟨⟨TX8, 9, rfl⟩, ⟨xw 235 (by decide +kernel) (by decide +kernel), xdX8_atom⟩, xw 236 (by decide +kernel) (by decide +kernel), xw 237 (by decide +kernel) (by decide +kernel)⟩
theorem xvL_116 : xvF 12 (116, 7, mX8_falsum) := ⟨⟨TX8, 9, rfl⟩, ⟨xw 295 (by decide +kernel) (by decide +kernel), xdX8_falsum⟩, xw 296 (by decide +kernel) (by decide +kernel), xw 297 (by decide +kernel) (by decide +kernel)⟩
theorem xvL_119 : xvF 12 (119, 7, mX8_not) := ⟨⟨TX8, 9, rfl⟩, ⟨xw 299 (by decide +kernel) (by decide +kernel), xdX8_not⟩, xw 300 (by decide +kernel) (by decide +kernel), xw 301 (by decide +kernel) (by decide +kernel)⟩
theorem xvL_122 : xvF 12 (122, 7, mX8_pair) := ⟨⟨TX8, 9, rfl⟩, ⟨xw 307 (by decide +kernel) (by decide +kernel), xdX8_pair⟩, xw 308 (by decide +kernel) (by decide +kernel), xw 309 (by decide +kernel) (by decide +kernel)⟩
theorem xvL_130 : xvF 12 (130, 7, mX8_premise) := ⟨⟨TX8, 9, rfl⟩, ⟨xw 311 (by decide +kernel) (by decide +kernel), xdX8_premise⟩, xw 312 (by decide +kernel) (by decide +kernel), xw 313 (by decide +kernel) (by decide +kernel)⟩
theorem xvL_133 : xvF 12 (133, 7, mX8_open) := ⟨⟨TX8, 9, rfl⟩, ⟨xw 328 (by decide +kernel) (by decide +kernel), xdX8_open⟩, xw 329 (by decide +kernel) (by decide +kernel), xw 330 (by decide +kernel) (by decide +kernel)⟩
theorem xvL_136 : xvF 12 (136, 7, mX8_close) := ⟨⟨TX8, 9, rfl⟩, ⟨xw 350 (by decide +kernel) (by decide +kernel), xdX8_close⟩, xw 351 (by decide +kernel) (by decide +kernel), xw 352 (by decide +kernel) (by decide +kernel)⟩
theorem xvL_143 : xvF 12 (143, 7, mX8_shorten) := ⟨⟨TX8, 9, rfl⟩, ⟨xw 429 (by decide +kernel) (by decide +kernel), xdX8_shorten⟩, xw 430 (by decide +kernel) (by decide +kernel), xw 431 (by decide +kernel) (by decide +kernel)⟩
theorem xvL_149 : xvF 12 (149, 7, mX8_trim) := ⟨⟨TX8, 9, rfl⟩, ⟨xw 449 (by decide +kernel) (by decide +kernel), xdX8_trim⟩, xw 450 (by decide +kernel) (by decide +kernel), xw 451 (by decide +kernel) (by decide +kernel)⟩
theorem xvL_161 : xvF 12 (161, 7, mX8_repeat) := ⟨⟨TX8, 9, rfl⟩, ⟨xw 362 (by decide +kernel) (by decide +kernel), xdX8_repeat⟩, xw 363 (by decide +kernel) (by decide +kernel), xw 364 (by decide +kernel) (by decide +kernel)⟩
theorem xvL_164 : xvF 12 (164, 7, mX8_cases) := ⟨⟨TX8, 9, rfl⟩, ⟨xw 425 (by decide +kernel) (by decide +kernel), xdX8_cases⟩, xw 426 (by decide +kernel) (by decide +kernel), xw 427 (by decide +kernel) (by decide +kernel)⟩
theorem xvL_167 : xvF 12 (167, 7, mX8_fromBox) := ⟨⟨TX8, 9, rfl⟩, ⟨xw 408 (by decide +kernel) (by decide +kernel), xdX8_fromBox⟩, xw 409 (by decide +kernel) (by decide +kernel), xw 410 (by decide +kernel) (by decide +kernel)⟩
theorem xvL_170 : xvF 12 (170, 7, mX8_fromTwo) := ⟨⟨TX8, 9, rfl⟩, ⟨xw 379 (by decide +kernel) (by decide +kernel), xdX8_fromTwo⟩, xw 380 (by decide +kernel) (by decide +kernel), xw 381 (by decide +kernel) (by decide +kernel)⟩
theorem xvL_173 : xvF 12 (173, 7, mX8_toFormula) := ⟨⟨TX8, 9, rfl⟩, ⟨xw 400 (by decide +kernel) (by decide +kernel), xdX8_toFormula⟩, xw 401 (by decide +kernel) (by decide +kernel), xw 402 (by decide +kernel) (by decide +kernel)⟩
theorem xvL_176 : xvF 12 (176, 7, mX8_fromOne) := ⟨⟨TX8, 9, rfl⟩, ⟨xw 391 (by decide +kernel) (by decide +kernel), xdX8_fromOne⟩, xw 392 (by decide +kernel) (by decide +kernel), xw 393 (by decide +kernel) (by decide +kernel)⟩
theorem xsL_10 : xsF 12 (10, 0, mL_find) := ⟨⟨xw 512 (by decide +kernel) (by decide +kernel), xdL_find⟩, xw 513 (by decide +kernel) (by decide +kernel)⟩
theorem xsL_16 : xsF 12 (16, 0, mL_latest) := ⟨⟨xw 515 (by decide +kernel) (by decide +kernel), xdL_latest⟩, xw 516 (by decide +kernel) (by decide +kernel)⟩
theorem xsL_20 : xsF 12 (20, 0, mL_direct) := ⟨⟨xw 524 (by decide +kernel) (by decide +kernel), xdL_direct⟩, xw 525 (by decide +kernel) (by decide +kernel)⟩
theorem xsL_24 : xsF 12 (24, 0, mL_assumed) := ⟨⟨xw 527 (by decide +kernel) (by decide +kernel), xdL_assumed⟩, xw 528 (by decide +kernel) (by decide +kernel)⟩
theorem xsL_34 : xsF 12 (34, 0, mL_low) := ⟨⟨xw 505 (by decide +kernel) (by decide +kernel), xdL_low⟩, xw 506 (by decide +kernel) (by decide +kernel)⟩
theorem xsL_37 : xsF 12 (37, 0, mL_truth) := ⟨⟨xw 540 (by decide +kernel) (by decide +kernel), xdL_truth⟩, xw 541 (by decide +kernel) (by decide +kernel)⟩
theorem xsL_48 : xsF 12 (48, 0, mL_bypass) := ⟨⟨xw 570 (by decide +kernel) (by decide +kernel), xdL_bypass⟩, xw 571 (by decide +kernel) (by decide +kernel)⟩
theorem xsL_55 : xsF 12 (55, 0, mL_shut) := ⟨⟨xw 581 (by decide +kernel) (by decide +kernel), xdL_shut⟩, xw 582 (by decide +kernel) (by decide +kernel)⟩
theorem xsL_66 : xsF 12 (66, 0, mL_needs) := ⟨⟨xw 521 (by decide +kernel) (by decide +kernel), xdL_needs⟩, xw 522 (by decide +kernel) (by decide +kernel)⟩
theorem xsL_110 : xsF 12 (110, 0, mL_make) := ⟨⟨xw 509 (by decide +kernel) (by decide +kernel), xdL_make⟩, xw 510 (by decide +kernel) (by decide +kernel)⟩
theorem xsL_126 : xsF 12 (126, 0, mL_write) := ⟨⟨xw 518 (by decide +kernel) (by decide +kernel), xdL_write⟩, xw 519 (by decide +kernel) (by decide +kernel)⟩
theorem xsL_139 : xsF 12 (139, 0, mL_shorten) := ⟨⟨xw 648 (by decide +kernel) (by decide +kernel), xdL_shorten⟩, xw 649 (by decide +kernel) (by decide +kernel)⟩
theorem xsL_151 : xsF 12 (151, 0, mL_bits) := ⟨⟨xw 530 (by decide +kernel) (by decide +kernel), xdL_bits⟩, xw 531 (by decide +kernel) (by decide +kernel)⟩
theorem xsL_155 : xsF 12 (155, 0, mL_rule) := ⟨⟨xw 654 (by decide +kernel) (by decide +kernel), xdL_rule⟩, xw 655 (by decide +kernel) (by decide +kernel)⟩
theorem xsL_179 : xsF 12 (179, 0, mL_formulas) := ⟨⟨xw 533 (by decide +kernel) (by decide +kernel), xdL_formulas⟩, xw 534 (by decide +kernel) (by decide +kernel)⟩
theorem xsL_182 : xsF 12 (182, 0, mL_lines) := ⟨⟨xw 567 (by decide +kernel) (by decide +kernel), xdL_lines⟩, xw 568 (by decide +kernel) (by decide +kernel)⟩
theorem xsL_185 : xsF 12 (185, 0, mL_follows) := ⟨⟨xw 620 (by decide +kernel) (by decide +kernel), xdL_follows⟩, xw 621 (by decide +kernel) (by decide +kernel)⟩
theorem xkL_9 : xkF 12 (9, vI 2147483647) := xw 508 (by decide +kernel) (by decide +kernel)
theorem xkL_93 : xkF 12 (93, vL 500000000) := xw 657 (by decide +kernel) (by decide +kernel)
theorem xkL_95 : xkF 12 (95, vL 1000) := xw 658 (by decide +kernel) (by decide +kernel)
theorem xkL_97 : xkF 12 (97, vL 200000000) := xw 659 (by decide +kernel) (by decide +kernel)
theorem xkL_99 : xkF 12 (99, vL 999) := xw 660 (by decide +kernel) (by decide +kernel)
theorem xkL_101 : xkF 12 (101, vL 300000000) := xw 661 (by decide +kernel) (by decide +kernel)
theorem xkL_103 : xkF 12 (103, vL 100999999) := xw 662 (by decide +kernel) (by decide +kernel)
theorem xkL_159 : xkF 12 (159, vL 100000000) := xw 663 (by decide +kernel) (by decide +kernel)
def ceL : xCE := ([], [(30, 7, mX8_part), (41, 7, mX8_isTrue), (44, 7, mX8_formulas), (52, 7, mX8_line), (59, 7, mX8_bypass), (62, 7, mX8_needs), (69, 7, mX8_reference), (72, 7, mX8_box), (75, 7, mX8_lines), (78, 7, mX8_boxes), (81, 7, mX8_depth), (84, 7, mX8_detours), (87, 7, mX8_failure), (90, 7, mX8_counterexample), (113, 7, mX8_atom), (116, 7, mX8_falsum), (119, 7, mX8_not), (122, 7, mX8_pair), (130, 7, mX8_premise), (133, 7, mX8_open), (136, 7, mX8_close), (143, 7, mX8_shorten), (149, 7, mX8_trim), (161, 7, mX8_repeat), (164, 7, mX8_cases), (167, 7, mX8_fromBox), (170, 7, mX8_fromTwo), (173, 7, mX8_toFormula), (176, 7, mX8_fromOne)], [(10, 0, mL_find), (16, 0, mL_latest), (20, 0, mL_direct), (24, 0, mL_assumed), (34, 0, mL_low), (37, 0, mL_truth), (48, 0, mL_bypass), (55, 0, mL_shut), (66, 0, mL_needs), (110, 0, mL_make), (126, 0, mL_write), (139, 0, mL_shorten), (151, 0, mL_bits), (155, 0, mL_rule), (179, 0, mL_formulas), (182, 0, mL_lines), (185, 0, mL_follows)], [(9, vI 2147483647), (93, vL 500000000), (95, vL 1000), (97, vL 200000000), (99, vL 999), (101, vL 300000000), (103, vL 100999999), (159, vL 100000000)], [])
theorem ceL_ok : xCEok 12 ceL := ⟨xfn, (xfc xvL_30 (xfc xvL_41 (xfc xvL_44 (xfc xvL_52 (xfc xvL_59 (xfc xvL_62 (xfc xvL_69 (xfc xvL_72 (xfc xvL_75 (xfc xvL_78 (xfc xvL_81 (xfc xvL_84 (xfc xvL_87 (xfc xvL_90 (xfc xvL_113 (xfc xvL_116 (xfc xvL_119 (xfc xvL_122 (xfc xvL_130 (xfc xvL_133 (xfc xvL_136 (xfc xvL_143 (xfc xvL_149 (xfc xvL_161 (xfc xvL_164 (xfc xvL_167 (xfc xvL_170 (xfc xvL_173 (xfc xvL_176 xfn))))))))))))))))))))))))))))), (xfc xsL_10 (xfc xsL_16 (xfc xsL_20 (xfc xsL_24 (xfc xsL_34 (xfc xsL_37 (xfc xsL_48 (xfc xsL_55 (xfc xsL_66 (xfc xsL_110 (xfc xsL_126 (xfc xsL_139 (xfc xsL_151 (xfc xsL_155 (xfc xsL_179 (xfc xsL_182 (xfc xsL_185 xfn))))))))))))))))), (xfc xkL_9 (xfc xkL_93 (xfc xkL_95 (xfc xkL_97 (xfc xkL_99 (xfc xkL_101 (xfc xkL_103 (xfc xkL_159 xfn)))))))), xfn⟩
end
section
/-! THE INSTRUCTIONS, by program -/
def tX2_copyFrom : List xT := [(0, .aload_n 0, 1, [0], vN), (1, .aload_n 1, 1, [1], vN), (2, .getfield 9, 3, [2, 0], vN), (5, .putfield 9, 3, [2, 0], vN), (8, .aload_n 0, 1, [0], vN), (9, .getfield 20, 3, [2, 1], vN), (12, .aload_n 1, 1, [1], vN), (13, .getfield 20, 3, [2, 1], vN), (16, .invokevirtual 30, 3, [0, 5], vN), (19, .aload_n 0, 1, [0], vN), (20, .getfield 24, 3, [2, 2], vN), (23, .aload_n 1, 1, [1], vN), (24, .getfield 24, 3, [2, 2], vN), (27, .invokevirtual 30, 3, [0, 5], vN), (30, .aload_n 0, 1, [0], vN), (31, .getfield 27, 3, [2, 3], vN), (34, .aload_n 1, 1, [1], vN), (35, .getfield 27, 3, [2, 3], vN), (38, .invokevirtual 30, 3, [0, 5], vN), (41, .return_, 1, [], vN)]
def hX2_copyFrom : List (Nat × List Bool) := []
def eX2_copyFrom : xE := (2, mX2_copyFrom, tX2_copyFrom, hX2_copyFrom, ceX2)
theorem okX2_copyFrom : xEok eX2_copyFrom := ⟨by decide +kernel, by decide +kernel, by decide +kernel, ceX2_ok, rfl, by decide +kernel⟩
def tX2_has : List xT := [(0, .iload_n 1, 1, [1], vN), (1, .ifCond .lt 15, 3, [8], vN), (4, .iload_n 1, 1, [1], vN), (5, .aload_n 0, 1, [0], vN), (6, .getfield 9, 3, [2, 0], vN), (9, .if_icmp .ge 7, 3, [8], vN), (12, .iconst 1, 1, [], vI 1), (13, .goto 4, 3, [9], vN), (16, .iconst 0, 1, [], vI 0), (17, .ireturn, 1, [], vN)]
def hX2_has : List (Nat × List Bool) := []
def eX2_has : xE := (2, mX2_has, tX2_has, hX2_has, ceX2)
theorem okX2_has : xEok eX2_has := ⟨by decide +kernel, by decide +kernel, by decide +kernel, ceX2_ok, rfl, by decide +kernel⟩
def tX2_isOfKind : List xT := [(0, .aload_n 0, 1, [0], vN), (1, .getfield 20, 3, [2, 1], vN), (4, .iload_n 1, 1, [1], vN), (5, .invokevirtual 34, 3, [1, 5], vN), (8, .iload_n 2, 1, [2], vN), (9, .if_icmp .ne 7, 3, [8], vN), (12, .iconst 1, 1, [], vI 1), (13, .goto 4, 3, [9], vN), (16, .iconst 0, 1, [], vI 0), (17, .ireturn, 1, [], vN)]
def hX2_isOfKind : List (Nat × List Bool) := []
def eX2_isOfKind : xE := (2, mX2_isOfKind, tX2_isOfKind, hX2_isOfKind, ceX2)
theorem okX2_isOfKind : xEok eX2_isOfKind := ⟨by decide +kernel, by decide +kernel, by decide +kernel, ceX2_ok, rfl, by decide +kernel⟩
def tX2_isPartOfDisjunction : List xT := [(0, .aload_n 0, 1, [0], vN), (1, .iload_n 2, 1, [2], vN), (2, .iconst 4, 1, [], vI 4), (3, .invokevirtual 38, 3, [2, 2], vN), (6, .ifCond .eq 31, 3, [19], vN), (9, .aload_n 0, 1, [0], vN), (10, .getfield 24, 3, [2, 2], vN), (13, .iload_n 2, 1, [2], vN), (14, .invokevirtual 34, 3, [1, 5], vN), (17, .iload_n 1, 1, [1], vN), (18, .if_icmp .eq 15, 3, [17], vN), (21, .aload_n 0, 1, [0], vN), (22, .getfield 27, 3, [2, 3], vN), (25, .iload_n 2, 1, [2], vN), (26, .invokevirtual 34, 3, [1, 5], vN), (29, .iload_n 1, 1, [1], vN), (30, .if_icmp .ne 7, 3, [19], vN), (33, .iconst 1, 1, [], vI 1), (34, .goto 4, 3, [20], vN), (37, .iconst 0, 1, [], vI 0), (38, .ireturn, 1, [], vN)]
def hX2_isPartOfDisjunction : List (Nat × List Bool) := []
def eX2_isPartOfDisjunction : xE := (2, mX2_isPartOfDisjunction, tX2_isPartOfDisjunction, hX2_isPartOfDisjunction, ceX2)
theorem okX2_isPartOfDisjunction : xEok eX2_isPartOfDisjunction := ⟨by decide +kernel, by decide +kernel, by decide +kernel, ceX2_ok, rfl, by decide +kernel⟩
def tX2_takenOut : List xT := [(0, .iload_n 1, 1, [1], vN), (1, .bipush 13, 2, [], vI 13), (3, .if_icmp .ne 49, 3, [27], vN), (6, .aload_n 0, 1, [0], vN), (7, .iload_n 2, 1, [2], vN), (8, .iconst 2, 1, [], vI 2), (9, .invokevirtual 38, 3, [2, 2], vN), (12, .ifCond .eq 14, 3, [13], vN), (15, .aload_n 0, 1, [0], vN), (16, .getfield 24, 3, [2, 2], vN), (19, .iload_n 2, 1, [2], vN), (20, .invokevirtual 34, 3, [1, 5], vN), (23, .goto 5, 3, [14], vN), (26, .bipush (-6), 2, [], vI (-6)), (28, .istore_n 3, 1, [3], vN), (29, .aload_n 0, 1, [0], vN), (30, .iload_n 3, 1, [3], vN), (31, .iconst 2, 1, [], vI 2), (32, .invokevirtual 38, 3, [2, 2], vN), (35, .ifCond .eq 14, 3, [25], vN), (38, .aload_n 0, 1, [0], vN), (39, .getfield 24, 3, [2, 2], vN), (42, .iload_n 3, 1, [3], vN), (43, .invokevirtual 34, 3, [1, 5], vN), (46, .goto 5, 3, [26], vN), (49, .bipush (-6), 2, [], vI (-6)), (51, .ireturn, 1, [], vN), (52, .aload_n 0, 1, [0], vN), (53, .iload_n 2, 1, [2], vN), (54, .iconst 3, 1, [], vI 3), (55, .invokevirtual 38, 3, [2, 2], vN), (58, .ifCond .ne 6, 3, [34], vN), (61, .bipush (-6), 2, [], vI (-6)), (63, .ireturn, 1, [], vN), (64, .iload_n 1, 1, [1], vN), (65, .iconst 4, 1, [], vI 4), (66, .if_icmp .ne 14, 3, [42], vN), (69, .aload_n 0, 1, [0], vN), (70, .getfield 24, 3, [2, 2], vN), (73, .iload_n 2, 1, [2], vN), (74, .invokevirtual 34, 3, [1, 5], vN), (77, .goto 11, 3, [46], vN), (80, .aload_n 0, 1, [0], vN), (81, .getfield 27, 3, [2, 3], vN), (84, .iload_n 2, 1, [2], vN), (85, .invokevirtual 34, 3, [1, 5], vN), (88, .ireturn, 1, [], vN)]
def hX2_takenOut : List (Nat × List Bool) := []
def eX2_takenOut : xE := (2, mX2_takenOut, tX2_takenOut, hX2_takenOut, ceX2)
theorem okX2_takenOut : xEok eX2_takenOut := ⟨by decide +kernel, by decide +kernel, by decide +kernel, ceX2_ok, rfl, by decide +kernel⟩
def tX2_find : List xT := [(0, .iconst 0, 1, [], vI 0), (1, .istore 4, 2, [4], vN), (3, .iload 4, 2, [4], vN), (5, .aload_n 0, 1, [0], vN), (6, .getfield 9, 3, [2, 0], vN), (9, .if_icmp .ge 51, 3, [28], vN), (12, .aload_n 0, 1, [0], vN), (13, .getfield 20, 3, [2, 1], vN), (16, .iload 4, 2, [4], vN), (18, .invokevirtual 34, 3, [1, 5], vN), (21, .iload_n 1, 1, [1], vN), (22, .if_icmp .ne 32, 3, [26], vN), (25, .aload_n 0, 1, [0], vN), (26, .getfield 24, 3, [2, 2], vN), (29, .iload 4, 2, [4], vN), (31, .invokevirtual 34, 3, [1, 5], vN), (34, .iload_n 2, 1, [2], vN), (35, .if_icmp .ne 19, 3, [26], vN), (38, .aload_n 0, 1, [0], vN), (39, .getfield 27, 3, [2, 3], vN), (42, .iload 4, 2, [4], vN), (44, .invokevirtual 34, 3, [1, 5], vN), (47, .iload_n 3, 1, [3], vN), (48, .if_icmp .ne 6, 3, [26], vN), (51, .iload 4, 2, [4], vN), (53, .ireturn, 1, [], vN), (54, .iinc 4 1, 3, [4], vI 1), (57, .goto (-54), 3, [2], vN), (60, .bipush (-6), 2, [], vI (-6)), (62, .ireturn, 1, [], vN)]
def hX2_find : List (Nat × List Bool) := [(3, [true, true, true, true, true])]
def eX2_find : xE := (2, mX2_find, tX2_find, hX2_find, ceX2)
theorem okX2_find : xEok eX2_find := ⟨by decide +kernel, by decide +kernel, by decide +kernel, ceX2_ok, rfl, by decide +kernel⟩
def tX2_hasRoomFor : List xT := [(0, .aload_n 0, 1, [0], vN), (1, .getfield 9, 3, [2, 0], vN), (4, .bipush 60, 2, [], vI 60), (6, .if_icmp .lt 15, 3, [11], vN), (9, .aload_n 0, 1, [0], vN), (10, .iload_n 1, 1, [1], vN), (11, .iload_n 2, 1, [2], vN), (12, .iload_n 3, 1, [3], vN), (13, .invokevirtual 42, 3, [3, 2], vN), (16, .bipush (-6), 2, [], vI (-6)), (18, .if_icmp .eq 7, 3, [13], vN), (21, .iconst 1, 1, [], vI 1), (22, .goto 4, 3, [14], vN), (25, .iconst 0, 1, [], vI 0), (26, .ireturn, 1, [], vN)]
def hX2_hasRoomFor : List (Nat × List Bool) := []
def eX2_hasRoomFor : xE := (2, mX2_hasRoomFor, tX2_hasRoomFor, hX2_hasRoomFor, ceX2)
theorem okX2_hasRoomFor : xEok eX2_hasRoomFor := ⟨by decide +kernel, by decide +kernel, by decide +kernel, ceX2_ok, rfl, by decide +kernel⟩
def tX2_make : List xT := [(0, .aload_n 0, 1, [0], vN), (1, .iload_n 1, 1, [1], vN), (2, .iload_n 2, 1, [2], vN), (3, .iload_n 3, 1, [3], vN), (4, .invokevirtual 42, 3, [3, 2], vN), (7, .istore 4, 2, [4], vN), (9, .iload 4, 2, [4], vN), (11, .bipush (-6), 2, [], vI (-6)), (13, .if_icmp .eq 6, 3, [11], vN), (16, .iload 4, 2, [4], vN), (18, .ireturn, 1, [], vN), (19, .aload_n 0, 1, [0], vN), (20, .getfield 9, 3, [2, 0], vN), (23, .bipush 60, 2, [], vI 60), (25, .if_icmp .lt 6, 3, [17], vN), (28, .bipush (-4), 2, [], vI (-4)), (30, .ireturn, 1, [], vN), (31, .aload_n 0, 1, [0], vN), (32, .getfield 9, 3, [2, 0], vN), (35, .istore 4, 2, [4], vN), (37, .aload_n 0, 1, [0], vN), (38, .getfield 20, 3, [2, 1], vN), (41, .iload 4, 2, [4], vN), (43, .iload_n 1, 1, [1], vN), (44, .invokevirtual 46, 3, [4, 5], vN), (47, .aload_n 0, 1, [0], vN), (48, .getfield 24, 3, [2, 2], vN), (51, .iload 4, 2, [4], vN), (53, .iload_n 2, 1, [2], vN), (54, .invokevirtual 46, 3, [4, 5], vN), (57, .aload_n 0, 1, [0], vN), (58, .getfield 27, 3, [2, 3], vN), (61, .iload 4, 2, [4], vN), (63, .iload_n 3, 1, [3], vN), (64, .invokevirtual 46, 3, [4, 5], vN), (67, .aload_n 0, 1, [0], vN), (68, .dup, 1, [], vN), (69, .getfield 9, 3, [2, 0], vN), (72, .iconst 1, 1, [], vI 1), (73, .iadd, 1, [], vN), (74, .putfield 9, 3, [2, 0], vN), (77, .iload 4, 2, [4], vN), (79, .ireturn, 1, [], vN)]
def hX2_make : List (Nat × List Bool) := []
def eX2_make : xE := (2, mX2_make, tX2_make, hX2_make, ceX2)
theorem okX2_make : xEok eX2_make := ⟨by decide +kernel, by decide +kernel, by decide +kernel, ceX2_ok, rfl, by decide +kernel⟩
def tX2_evaluate : List xT := [(0, .iconst 0, 1, [], vI 0), (1, .istore_n 3, 1, [3], vN), (2, .iload_n 3, 1, [3], vN), (3, .aload_n 0, 1, [0], vN), (4, .getfield 9, 3, [2, 0], vN), (7, .if_icmp .ge 21, 3, [16], vN), (10, .aload_n 2, 1, [2], vN), (11, .iload_n 3, 1, [3], vN), (12, .aload_n 0, 1, [0], vN), (13, .iload_n 3, 1, [3], vN), (14, .iload_n 1, 1, [1], vN), (15, .aload_n 2, 1, [2], vN), (16, .invokevirtual 65, 3, [5, 2], vN), (19, .invokevirtual 46, 3, [4, 5], vN), (22, .iinc 3 1, 3, [3], vI 1), (25, .goto (-23), 3, [2], vN), (28, .return_, 1, [], vN)]
def hX2_evaluate : List (Nat × List Bool) := [(2, [true, true, true, true])]
def eX2_evaluate : xE := (2, mX2_evaluate, tX2_evaluate, hX2_evaluate, ceX2)
theorem okX2_evaluate : xEok eX2_evaluate := ⟨by decide +kernel, by decide +kernel, by decide +kernel, ceX2_ok, rfl, by decide +kernel⟩
def tX2_truthOf : List xT := [(0, .aload_n 0, 1, [0], vN), (1, .getfield 24, 3, [2, 2], vN), (4, .iload_n 1, 1, [1], vN), (5, .invokevirtual 34, 3, [1, 5], vN), (8, .istore 4, 2, [4], vN), (10, .aload_n 0, 1, [0], vN), (11, .getfield 27, 3, [2, 3], vN), (14, .iload_n 1, 1, [1], vN), (15, .invokevirtual 34, 3, [1, 5], vN), (18, .istore 5, 2, [5], vN), (20, .aload_n 0, 1, [0], vN), (21, .getfield 20, 3, [2, 1], vN), (24, .iload_n 1, 1, [1], vN), (25, .invokevirtual 34, 3, [1, 5], vN), (28, .tableswitch 100 0 5 #[40, 100, 47, 56, 70, 84], 40, [51, 15, 51, 19, 25, 33, 41], vN), (68, .iload 4, 2, [4], vN), (70, .iload_n 2, 1, [2], vN), (71, .invokestatic 69, 3, [0, 0], vN), (74, .ireturn, 1, [], vN), (75, .aload_n 3, 1, [3], vN), (76, .iload 4, 2, [4], vN), (78, .invokevirtual 34, 3, [1, 5], vN), (81, .iconst (-1), 1, [], vI (-1)), (82, .ixor, 1, [], vN), (83, .ireturn, 1, [], vN), (84, .aload_n 3, 1, [3], vN), (85, .iload 4, 2, [4], vN), (87, .invokevirtual 34, 3, [1, 5], vN), (90, .aload_n 3, 1, [3], vN), (91, .iload 5, 2, [5], vN), (93, .invokevirtual 34, 3, [1, 5], vN), (96, .iand, 1, [], vN), (97, .ireturn, 1, [], vN), (98, .aload_n 3, 1, [3], vN), (99, .iload 4, 2, [4], vN), (101, .invokevirtual 34, 3, [1, 5], vN), (104, .aload_n 3, 1, [3], vN), (105, .iload 5, 2, [5], vN), (107, .invokevirtual 34, 3, [1, 5], vN), (110, .ior, 1, [], vN), (111, .ireturn, 1, [], vN), (112, .aload_n 3, 1, [3], vN), (113, .iload 4, 2, [4], vN), (115, .invokevirtual 34, 3, [1, 5], vN), (118, .iconst (-1), 1, [], vI (-1)), (119, .ixor, 1, [], vN), (120, .aload_n 3, 1, [3], vN), (121, .iload 5, 2, [5], vN), (123, .invokevirtual 34, 3, [1, 5], vN), (126, .ior, 1, [], vN), (127, .ireturn, 1, [], vN), (128, .iconst 0, 1, [], vI 0), (129, .ireturn, 1, [], vN)]
def hX2_truthOf : List (Nat × List Bool) := []
def eX2_truthOf : xE := (2, mX2_truthOf, tX2_truthOf, hX2_truthOf, ceX2)
theorem okX2_truthOf : xEok eX2_truthOf := ⟨by decide +kernel, by decide +kernel, by decide +kernel, ceX2_ok, rfl, by decide +kernel⟩
def tX2_truthOfAtom : List xT := [(0, .iload_n 0, 1, [0], vN), (1, .tableswitch 50 0 4 #[35, 38, 41, 44, 47], 35, [12, 2, 4, 6, 8, 10], vN), (36, .ldc 72, 2, [], vI (-1431655766)), (38, .ireturn, 1, [], vN), (39, .ldc 73, 2, [], vI (-858993460)), (41, .ireturn, 1, [], vN), (42, .ldc 74, 2, [], vI (-252645136)), (44, .ireturn, 1, [], vN), (45, .ldc 75, 2, [], vI (-16711936)), (47, .ireturn, 1, [], vN), (48, .ldc 76, 2, [], vI (-65536)), (50, .ireturn, 1, [], vN), (51, .iload_n 1, 1, [1], vN), (52, .iload_n 0, 1, [0], vN), (53, .iconst 5, 1, [], vI 5), (54, .isub, 1, [], vN), (55, .ishr, 1, [], vN), (56, .iconst 1, 1, [], vI 1), (57, .iand, 1, [], vN), (58, .ifCond .ne 7, 3, [22], vN), (61, .iconst 0, 1, [], vI 0), (62, .goto 4, 3, [23], vN), (65, .iconst (-1), 1, [], vI (-1)), (66, .ireturn, 1, [], vN)]
def hX2_truthOfAtom : List (Nat × List Bool) := []
def eX2_truthOfAtom : xE := (2, mX2_truthOfAtom, tX2_truthOfAtom, hX2_truthOfAtom, ceX2)
theorem okX2_truthOfAtom : xEok eX2_truthOfAtom := ⟨by decide +kernel, by decide +kernel, by decide +kernel, ceX2_ok, rfl, by decide +kernel⟩
def tX3_at : List xT := [(0, .iload_n 1, 1, [1], vN), (1, .ifCond .lt 21, 3, [12], vN), (4, .iload_n 1, 1, [1], vN), (5, .aload_n 0, 1, [0], vN), (6, .getfield 20, 3, [3, 2], vN), (9, .arraylength, 1, [], vN), (10, .if_icmp .ge 12, 3, [12], vN), (13, .aload_n 0, 1, [0], vN), (14, .getfield 20, 3, [3, 2], vN), (17, .iload_n 1, 1, [1], vN), (18, .aaload, 1, [], vN), (19, .goto 4, 3, [13], vN), (22, .aconst_null, 1, [], vN), (23, .areturn, 1, [], vN)]
def hX3_at : List (Nat × List Bool) := []
def eX3_at : xE := (3, mX3_at, tX3_at, hX3_at, ceX3)
theorem okX3_at : xEok eX3_at := ⟨by decide +kernel, by decide +kernel, by decide +kernel, ceX3_ok, rfl, by decide +kernel⟩
def tX3_record : List xT := [(0, .aload_n 0, 1, [0], vN), (1, .aload_n 0, 1, [0], vN), (2, .getfield 15, 3, [3, 1], vN), (5, .invokevirtual 25, 3, [0, 3], vN), (8, .astore_n 2, 1, [2], vN), (9, .aload_n 2, 1, [2], vN), (10, .ifnull 46, 3, [], vN), (13, .aload_n 2, 1, [2], vN), (14, .aload_n 1, 1, [1], vN), (15, .invokevirtual 29, 3, [1, 6], vN), (18, .aload_n 0, 1, [0], vN), (19, .aload_n 0, 1, [0], vN), (20, .getfield 15, 3, [3, 1], vN), (23, .iconst 1, 1, [], vI 1), (24, .iadd, 1, [], vN), (25, .iconst 5, 1, [], vI 5), (26, .if_icmp .ge 12, 3, [22], vN), (29, .aload_n 0, 1, [0], vN), (30, .getfield 15, 3, [3, 1], vN), (33, .iconst 1, 1, [], vI 1), (34, .iadd, 1, [], vN), (35, .goto 4, 3, [23], vN), (38, .iconst 0, 1, [], vI 0), (39, .putfield 15, 3, [3, 1], vN), (42, .aload_n 0, 1, [0], vN), (43, .aload_n 0, 1, [0], vN), (44, .getfield 9, 3, [3, 0], vN), (47, .iconst 1, 1, [], vI 1), (48, .iadd, 1, [], vN), (49, .iconst 5, 1, [], vI 5), (50, .invokestatic 33, 3, [0, 1], vN), (53, .putfield 9, 3, [3, 0], vN), (56, .return_, 1, [], vN)]
def hX3_record : List (Nat × List Bool) := []
def eX3_record : xE := (3, mX3_record, tX3_record, hX3_record, ceX3)
theorem okX3_record : xEok eX3_record := ⟨by decide +kernel, by decide +kernel, by decide +kernel, ceX3_ok, rfl, by decide +kernel⟩
def tX4_copyFrom : List xT := [(0, .aload_n 0, 1, [0], vN), (1, .aload_n 1, 1, [1], vN), (2, .getfield 9, 3, [4, 0], vN), (5, .putfield 9, 3, [4, 0], vN), (8, .aload_n 0, 1, [0], vN), (9, .aload_n 1, 1, [1], vN), (10, .getfield 15, 3, [4, 1], vN), (13, .putfield 15, 3, [4, 1], vN), (16, .aload_n 0, 1, [0], vN), (17, .aload_n 1, 1, [1], vN), (18, .getfield 18, 3, [4, 2], vN), (21, .putfield 18, 3, [4, 2], vN), (24, .aload_n 0, 1, [0], vN), (25, .getfield 26, 3, [4, 3], vN), (28, .aload_n 1, 1, [1], vN), (29, .getfield 26, 3, [4, 3], vN), (32, .invokevirtual 54, 3, [0, 5], vN), (35, .aload_n 0, 1, [0], vN), (36, .getfield 30, 3, [4, 4], vN), (39, .aload_n 1, 1, [1], vN), (40, .getfield 30, 3, [4, 4], vN), (43, .invokevirtual 54, 3, [0, 5], vN), (46, .aload_n 0, 1, [0], vN), (47, .getfield 33, 3, [4, 5], vN), (50, .aload_n 1, 1, [1], vN), (51, .getfield 33, 3, [4, 5], vN), (54, .invokevirtual 54, 3, [0, 5], vN), (57, .aload_n 0, 1, [0], vN), (58, .getfield 36, 3, [4, 6], vN), (61, .aload_n 1, 1, [1], vN), (62, .getfield 36, 3, [4, 6], vN), (65, .invokevirtual 54, 3, [0, 5], vN), (68, .aload_n 0, 1, [0], vN), (69, .getfield 39, 3, [4, 7], vN), (72, .aload_n 1, 1, [1], vN), (73, .getfield 39, 3, [4, 7], vN), (76, .invokevirtual 54, 3, [0, 5], vN), (79, .aload_n 0, 1, [0], vN), (80, .getfield 42, 3, [4, 8], vN), (83, .aload_n 1, 1, [1], vN), (84, .getfield 42, 3, [4, 8], vN), (87, .invokevirtual 54, 3, [0, 5], vN), (90, .aload_n 0, 1, [0], vN), (91, .getfield 45, 3, [4, 9], vN), (94, .aload_n 1, 1, [1], vN), (95, .getfield 45, 3, [4, 9], vN), (98, .invokevirtual 54, 3, [0, 5], vN), (101, .aload_n 0, 1, [0], vN), (102, .getfield 48, 3, [4, 10], vN), (105, .aload_n 1, 1, [1], vN), (106, .getfield 48, 3, [4, 10], vN), (109, .invokevirtual 54, 3, [0, 5], vN), (112, .aload_n 0, 1, [0], vN), (113, .getfield 51, 3, [4, 11], vN), (116, .aload_n 1, 1, [1], vN), (117, .getfield 51, 3, [4, 11], vN), (120, .invokevirtual 54, 3, [0, 5], vN), (123, .return_, 1, [], vN)]
def hX4_copyFrom : List (Nat × List Bool) := []
def eX4_copyFrom : xE := (4, mX4_copyFrom, tX4_copyFrom, hX4_copyFrom, ceX4)
theorem okX4_copyFrom : xEok eX4_copyFrom := ⟨by decide +kernel, by decide +kernel, by decide +kernel, ceX4_ok, rfl, by decide +kernel⟩
def tX4_hasLine : List xT := [(0, .iload_n 1, 1, [1], vN), (1, .ifCond .lt 15, 3, [8], vN), (4, .iload_n 1, 1, [1], vN), (5, .aload_n 0, 1, [0], vN), (6, .getfield 9, 3, [4, 0], vN), (9, .if_icmp .ge 7, 3, [8], vN), (12, .iconst 1, 1, [], vI 1), (13, .goto 4, 3, [9], vN), (16, .iconst 0, 1, [], vI 0), (17, .ireturn, 1, [], vN)]
def hX4_hasLine : List (Nat × List Bool) := []
def eX4_hasLine : xE := (4, mX4_hasLine, tX4_hasLine, hX4_hasLine, ceX4)
theorem okX4_hasLine : xEok eX4_hasLine := ⟨by decide +kernel, by decide +kernel, by decide +kernel, ceX4_ok, rfl, by decide +kernel⟩
def tX4_hasBox : List xT := [(0, .iload_n 1, 1, [1], vN), (1, .ifCond .lt 15, 3, [8], vN), (4, .iload_n 1, 1, [1], vN), (5, .aload_n 0, 1, [0], vN), (6, .getfield 15, 3, [4, 1], vN), (9, .if_icmp .ge 7, 3, [8], vN), (12, .iconst 1, 1, [], vI 1), (13, .goto 4, 3, [9], vN), (16, .iconst 0, 1, [], vI 0), (17, .ireturn, 1, [], vN)]
def hX4_hasBox : List (Nat × List Bool) := []
def eX4_hasBox : xE := (4, mX4_hasBox, tX4_hasBox, hX4_hasBox, ceX4)
theorem okX4_hasBox : xEok eX4_hasBox := ⟨by decide +kernel, by decide +kernel, by decide +kernel, ceX4_ok, rfl, by decide +kernel⟩
def tX4_isFull : List xT := [(0, .aload_n 0, 1, [0], vN), (1, .getfield 9, 3, [4, 0], vN), (4, .bipush 48, 2, [], vI 48), (6, .if_icmp .lt 7, 3, [6], vN), (9, .iconst 1, 1, [], vI 1), (10, .goto 4, 3, [7], vN), (13, .iconst 0, 1, [], vI 0), (14, .ireturn, 1, [], vN)]
def hX4_isFull : List (Nat × List Bool) := []
def eX4_isFull : xE := (4, mX4_isFull, tX4_isFull, hX4_isFull, ceX4)
theorem okX4_isFull : xEok eX4_isFull := ⟨by decide +kernel, by decide +kernel, by decide +kernel, ceX4_ok, rfl, by decide +kernel⟩
def tX4_addLine : List xT := [(0, .aload_n 0, 1, [0], vN), (1, .getfield 9, 3, [4, 0], vN), (4, .istore 6, 2, [6], vN), (6, .aload_n 0, 1, [0], vN), (7, .getfield 26, 3, [4, 3], vN), (10, .iload 6, 2, [6], vN), (12, .iload_n 2, 1, [2], vN), (13, .invokevirtual 58, 3, [1, 5], vN), (16, .aload_n 0, 1, [0], vN), (17, .getfield 30, 3, [4, 4], vN), (20, .iload 6, 2, [6], vN), (22, .iload_n 1, 1, [1], vN), (23, .invokevirtual 58, 3, [1, 5], vN), (26, .aload_n 0, 1, [0], vN), (27, .getfield 33, 3, [4, 5], vN), (30, .iload 6, 2, [6], vN), (32, .aload_n 0, 1, [0], vN), (33, .getfield 18, 3, [4, 2], vN), (36, .invokevirtual 58, 3, [1, 5], vN), (39, .aload_n 0, 1, [0], vN), (40, .getfield 36, 3, [4, 6], vN), (43, .iload 6, 2, [6], vN), (45, .iload_n 3, 1, [3], vN), (46, .invokevirtual 58, 3, [1, 5], vN), (49, .aload_n 0, 1, [0], vN), (50, .getfield 39, 3, [4, 7], vN), (53, .iload 6, 2, [6], vN), (55, .iload 4, 2, [4], vN), (57, .invokevirtual 58, 3, [1, 5], vN), (60, .aload_n 0, 1, [0], vN), (61, .getfield 42, 3, [4, 8], vN), (64, .iload 6, 2, [6], vN), (66, .iload 5, 2, [5], vN), (68, .invokevirtual 58, 3, [1, 5], vN), (71, .aload_n 0, 1, [0], vN), (72, .dup, 1, [], vN), (73, .getfield 9, 3, [4, 0], vN), (76, .iconst 1, 1, [], vI 1), (77, .iadd, 1, [], vN), (78, .putfield 9, 3, [4, 0], vN), (81, .iload 6, 2, [6], vN), (83, .ireturn, 1, [], vN)]
def hX4_addLine : List (Nat × List Bool) := []
def eX4_addLine : xE := (4, mX4_addLine, tX4_addLine, hX4_addLine, ceX4)
theorem okX4_addLine : xEok eX4_addLine := ⟨by decide +kernel, by decide +kernel, by decide +kernel, ceX4_ok, rfl, by decide +kernel⟩
def tX4_openBox : List xT := [(0, .aload_n 0, 1, [0], vN), (1, .getfield 15, 3, [4, 1], vN), (4, .istore_n 2, 1, [2], vN), (5, .aload_n 0, 1, [0], vN), (6, .getfield 45, 3, [4, 9], vN), (9, .iload_n 2, 1, [2], vN), (10, .aload_n 0, 1, [0], vN), (11, .getfield 9, 3, [4, 0], vN), (14, .invokevirtual 58, 3, [1, 5], vN), (17, .aload_n 0, 1, [0], vN), (18, .getfield 48, 3, [4, 10], vN), (21, .iload_n 2, 1, [2], vN), (22, .bipush (-6), 2, [], vI (-6)), (24, .invokevirtual 58, 3, [1, 5], vN), (27, .aload_n 0, 1, [0], vN), (28, .getfield 51, 3, [4, 11], vN), (31, .iload_n 2, 1, [2], vN), (32, .aload_n 0, 1, [0], vN), (33, .getfield 18, 3, [4, 2], vN), (36, .invokevirtual 58, 3, [1, 5], vN), (39, .aload_n 0, 1, [0], vN), (40, .dup, 1, [], vN), (41, .getfield 15, 3, [4, 1], vN), (44, .iconst 1, 1, [], vI 1), (45, .iadd, 1, [], vN), (46, .putfield 15, 3, [4, 1], vN), (49, .aload_n 0, 1, [0], vN), (50, .iload_n 2, 1, [2], vN), (51, .putfield 18, 3, [4, 2], vN), (54, .aload_n 0, 1, [0], vN), (55, .iconst 1, 1, [], vI 1), (56, .iload_n 1, 1, [1], vN), (57, .bipush (-6), 2, [], vI (-6)), (59, .bipush (-6), 2, [], vI (-6)), (61, .bipush (-6), 2, [], vI (-6)), (63, .invokevirtual 62, 3, [2, 4], vN), (66, .ireturn, 1, [], vN)]
def hX4_openBox : List (Nat × List Bool) := []
def eX4_openBox : xE := (4, mX4_openBox, tX4_openBox, hX4_openBox, ceX4)
theorem okX4_openBox : xEok eX4_openBox := ⟨by decide +kernel, by decide +kernel, by decide +kernel, ceX4_ok, rfl, by decide +kernel⟩
def tX4_canCloseBox : List xT := [(0, .aload_n 0, 1, [0], vN), (1, .getfield 18, 3, [4, 2], vN), (4, .bipush (-6), 2, [], vI (-6)), (6, .if_icmp .eq 27, 3, [16], vN), (9, .aload_n 0, 1, [0], vN), (10, .getfield 33, 3, [4, 5], vN), (13, .aload_n 0, 1, [0], vN), (14, .getfield 9, 3, [4, 0], vN), (17, .iconst 1, 1, [], vI 1), (18, .isub, 1, [], vN), (19, .invokevirtual 66, 3, [3, 5], vN), (22, .aload_n 0, 1, [0], vN), (23, .getfield 18, 3, [4, 2], vN), (26, .if_icmp .ne 7, 3, [16], vN), (29, .iconst 1, 1, [], vI 1), (30, .goto 4, 3, [17], vN), (33, .iconst 0, 1, [], vI 0), (34, .ireturn, 1, [], vN)]
def hX4_canCloseBox : List (Nat × List Bool) := []
def eX4_canCloseBox : xE := (4, mX4_canCloseBox, tX4_canCloseBox, hX4_canCloseBox, ceX4)
theorem okX4_canCloseBox : xEok eX4_canCloseBox := ⟨by decide +kernel, by decide +kernel, by decide +kernel, ceX4_ok, rfl, by decide +kernel⟩
def tX4_closeBox : List xT := [(0, .aload_n 0, 1, [0], vN), (1, .getfield 18, 3, [4, 2], vN), (4, .istore_n 1, 1, [1], vN), (5, .aload_n 0, 1, [0], vN), (6, .getfield 48, 3, [4, 10], vN), (9, .iload_n 1, 1, [1], vN), (10, .aload_n 0, 1, [0], vN), (11, .getfield 9, 3, [4, 0], vN), (14, .iconst 1, 1, [], vI 1), (15, .isub, 1, [], vN), (16, .invokevirtual 58, 3, [1, 5], vN), (19, .aload_n 0, 1, [0], vN), (20, .aload_n 0, 1, [0], vN), (21, .getfield 51, 3, [4, 11], vN), (24, .iload_n 1, 1, [1], vN), (25, .invokevirtual 66, 3, [3, 5], vN), (28, .putfield 18, 3, [4, 2], vN), (31, .iload_n 1, 1, [1], vN), (32, .ireturn, 1, [], vN)]
def hX4_closeBox : List (Nat × List Bool) := []
def eX4_closeBox : xE := (4, mX4_closeBox, tX4_closeBox, hX4_closeBox, ceX4)
theorem okX4_closeBox : xEok eX4_closeBox := ⟨by decide +kernel, by decide +kernel, by decide +kernel, ceX4_ok, rfl, by decide +kernel⟩
def tX4_isNoneOrOpen : List xT := [(0, .aload_n 0, 1, [0], vN), (1, .iload_n 1, 1, [1], vN), (2, .invokevirtual 70, 3, [4, 4], vN), (5, .ifCond .eq 16, 3, [10], vN), (8, .aload_n 0, 1, [0], vN), (9, .getfield 48, 3, [4, 10], vN), (12, .iload_n 1, 1, [1], vN), (13, .invokevirtual 66, 3, [3, 5], vN), (16, .bipush (-6), 2, [], vI (-6)), (18, .if_icmp .ne 7, 3, [12], vN), (21, .iconst 1, 1, [], vI 1), (22, .goto 4, 3, [13], vN), (25, .iconst 0, 1, [], vI 0), (26, .ireturn, 1, [], vN)]
def hX4_isNoneOrOpen : List (Nat × List Bool) := []
def eX4_isNoneOrOpen : xE := (4, mX4_isNoneOrOpen, tX4_isNoneOrOpen, hX4_isNoneOrOpen, ceX4)
theorem okX4_isNoneOrOpen : xEok eX4_isNoneOrOpen := ⟨by decide +kernel, by decide +kernel, by decide +kernel, ceX4_ok, rfl, by decide +kernel⟩
def tX4_isLineAvailable : List xT := [(0, .aload_n 0, 1, [0], vN), (1, .aload_n 0, 1, [0], vN), (2, .getfield 33, 3, [4, 5], vN), (5, .iload_n 1, 1, [1], vN), (6, .invokevirtual 66, 3, [3, 5], vN), (9, .invokevirtual 74, 3, [5, 4], vN), (12, .ireturn, 1, [], vN)]
def hX4_isLineAvailable : List (Nat × List Bool) := []
def eX4_isLineAvailable : xE := (4, mX4_isLineAvailable, tX4_isLineAvailable, hX4_isLineAvailable, ceX4)
theorem okX4_isLineAvailable : xEok eX4_isLineAvailable := ⟨by decide +kernel, by decide +kernel, by decide +kernel, ceX4_ok, rfl, by decide +kernel⟩
def tX4_isBoxAvailable : List xT := [(0, .aload_n 0, 1, [0], vN), (1, .getfield 48, 3, [4, 10], vN), (4, .iload_n 1, 1, [1], vN), (5, .invokevirtual 66, 3, [3, 5], vN), (8, .bipush (-6), 2, [], vI (-6)), (10, .if_icmp .eq 22, 3, [15], vN), (13, .aload_n 0, 1, [0], vN), (14, .aload_n 0, 1, [0], vN), (15, .getfield 51, 3, [4, 11], vN), (18, .iload_n 1, 1, [1], vN), (19, .invokevirtual 66, 3, [3, 5], vN), (22, .invokevirtual 74, 3, [5, 4], vN), (25, .ifCond .eq 7, 3, [15], vN), (28, .iconst 1, 1, [], vI 1), (29, .goto 4, 3, [16], vN), (32, .iconst 0, 1, [], vI 0), (33, .ireturn, 1, [], vN)]
def hX4_isBoxAvailable : List (Nat × List Bool) := []
def eX4_isBoxAvailable : xE := (4, mX4_isBoxAvailable, tX4_isBoxAvailable, hX4_isBoxAvailable, ceX4)
theorem okX4_isBoxAvailable : xEok eX4_isBoxAvailable := ⟨by decide +kernel, by decide +kernel, by decide +kernel, ceX4_ok, rfl, by decide +kernel⟩
def tX4_assumptionOf : List xT := [(0, .aload_n 0, 1, [0], vN), (1, .getfield 26, 3, [4, 3], vN), (4, .aload_n 0, 1, [0], vN), (5, .getfield 45, 3, [4, 9], vN), (8, .iload_n 1, 1, [1], vN), (9, .invokevirtual 66, 3, [3, 5], vN), (12, .invokevirtual 66, 3, [3, 5], vN), (15, .ireturn, 1, [], vN)]
def hX4_assumptionOf : List (Nat × List Bool) := []
def eX4_assumptionOf : xE := (4, mX4_assumptionOf, tX4_assumptionOf, hX4_assumptionOf, ceX4)
theorem okX4_assumptionOf : xEok eX4_assumptionOf := ⟨by decide +kernel, by decide +kernel, by decide +kernel, ceX4_ok, rfl, by decide +kernel⟩
def tX4_conclusionOf : List xT := [(0, .aload_n 0, 1, [0], vN), (1, .getfield 26, 3, [4, 3], vN), (4, .aload_n 0, 1, [0], vN), (5, .getfield 48, 3, [4, 10], vN), (8, .iload_n 1, 1, [1], vN), (9, .invokevirtual 66, 3, [3, 5], vN), (12, .invokevirtual 66, 3, [3, 5], vN), (15, .ireturn, 1, [], vN)]
def hX4_conclusionOf : List (Nat × List Bool) := []
def eX4_conclusionOf : xE := (4, mX4_conclusionOf, tX4_conclusionOf, hX4_conclusionOf, ceX4)
theorem okX4_conclusionOf : xEok eX4_conclusionOf := ⟨by decide +kernel, by decide +kernel, by decide +kernel, ceX4_ok, rfl, by decide +kernel⟩
def tX4_nesting : List xT := [(0, .iload_n 1, 1, [1], vN), (1, .istore_n 2, 1, [2], vN), (2, .iconst 0, 1, [], vI 0), (3, .istore_n 3, 1, [3], vN), (4, .aload_n 0, 1, [0], vN), (5, .iload_n 2, 1, [2], vN), (6, .invokevirtual 70, 3, [4, 4], vN), (9, .ifCond .eq 23, 3, [18], vN), (12, .iload_n 3, 1, [3], vN), (13, .iconst 5, 1, [], vI 5), (14, .if_icmp .ge 18, 3, [18], vN), (17, .aload_n 0, 1, [0], vN), (18, .getfield 51, 3, [4, 11], vN), (21, .iload_n 2, 1, [2], vN), (22, .invokevirtual 66, 3, [3, 5], vN), (25, .istore_n 2, 1, [2], vN), (26, .iinc 3 1, 3, [3], vI 1), (29, .goto (-25), 3, [4], vN), (32, .iload_n 3, 1, [3], vN), (33, .ireturn, 1, [], vN)]
def hX4_nesting : List (Nat × List Bool) := [(4, [true, false, true, true])]
def eX4_nesting : xE := (4, mX4_nesting, tX4_nesting, hX4_nesting, ceX4)
theorem okX4_nesting : xEok eX4_nesting := ⟨by decide +kernel, by decide +kernel, by decide +kernel, ceX4_ok, rfl, by decide +kernel⟩
def tX4_referenceAt : List xT := [(0, .iload_n 2, 1, [2], vN), (1, .tableswitch 54 0 2 #[27, 36, 45], 27, [17, 2, 7, 12], vN), (28, .aload_n 0, 1, [0], vN), (29, .getfield 36, 3, [4, 6], vN), (32, .iload_n 1, 1, [1], vN), (33, .invokevirtual 66, 3, [3, 5], vN), (36, .ireturn, 1, [], vN), (37, .aload_n 0, 1, [0], vN), (38, .getfield 39, 3, [4, 7], vN), (41, .iload_n 1, 1, [1], vN), (42, .invokevirtual 66, 3, [3, 5], vN), (45, .ireturn, 1, [], vN), (46, .aload_n 0, 1, [0], vN), (47, .getfield 42, 3, [4, 8], vN), (50, .iload_n 1, 1, [1], vN), (51, .invokevirtual 66, 3, [3, 5], vN), (54, .ireturn, 1, [], vN), (55, .bipush (-6), 2, [], vI (-6)), (57, .ireturn, 1, [], vN)]
def hX4_referenceAt : List (Nat × List Bool) := []
def eX4_referenceAt : xE := (4, mX4_referenceAt, tX4_referenceAt, hX4_referenceAt, ceX4)
theorem okX4_referenceAt : xEok eX4_referenceAt := ⟨by decide +kernel, by decide +kernel, by decide +kernel, ceX4_ok, rfl, by decide +kernel⟩
def tX4_countLineReferences : List xT := [(0, .aload_n 0, 1, [0], vN), (1, .getfield 30, 3, [4, 4], vN), (4, .iload_n 1, 1, [1], vN), (5, .invokevirtual 66, 3, [3, 5], vN), (8, .tableswitch 68 2 13 #[66, 64, 66, 66, 66, 66, 68, 64, 68, 64, 66, 66], 64, [9, 7, 5, 7, 7, 7, 7, 9, 5, 9, 5, 7, 7], vN), (72, .iconst 2, 1, [], vI 2), (73, .ireturn, 1, [], vN), (74, .iconst 1, 1, [], vI 1), (75, .ireturn, 1, [], vN), (76, .iconst 0, 1, [], vI 0), (77, .ireturn, 1, [], vN)]
def hX4_countLineReferences : List (Nat × List Bool) := []
def eX4_countLineReferences : xE := (4, mX4_countLineReferences, tX4_countLineReferences, hX4_countLineReferences, ceX4)
theorem okX4_countLineReferences : xEok eX4_countLineReferences := ⟨by decide +kernel, by decide +kernel, by decide +kernel, ceX4_ok, rfl, by decide +kernel⟩
def tX4_bit : List xT := [(0, .iload_n 0, 1, [0], vN), (1, .ifCond .ge 7, 3, [4], vN), (4, .lconst 0, 1, [], vL 0), (5, .goto 6, 3, [7], vN), (8, .lconst 1, 1, [], vL 1), (9, .iload_n 0, 1, [0], vN), (10, .lshl, 1, [], vN), (11, .lreturn, 1, [], vN)]
def hX4_bit : List (Nat × List Bool) := []
def eX4_bit : xE := (4, mX4_bit, tX4_bit, hX4_bit, ceX4)
theorem okX4_bit : xEok eX4_bit := ⟨by decide +kernel, by decide +kernel, by decide +kernel, ceX4_ok, rfl, by decide +kernel⟩
def tX4_contains : List xT := [(0, .lload_n 0, 1, [0], vN), (1, .iload_n 2, 1, [2], vN), (2, .invokestatic 77, 3, [0, 0], vN), (5, .land, 1, [], vN), (6, .lconst 0, 1, [], vL 0), (7, .lcmp, 1, [], vN), (8, .ifCond .eq 7, 3, [9], vN), (11, .iconst 1, 1, [], vI 1), (12, .goto 4, 3, [10], vN), (15, .iconst 0, 1, [], vI 0), (16, .ireturn, 1, [], vN)]
def hX4_contains : List (Nat × List Bool) := []
def eX4_contains : xE := (4, mX4_contains, tX4_contains, hX4_contains, ceX4)
theorem okX4_contains : xEok eX4_contains := ⟨by decide +kernel, by decide +kernel, by decide +kernel, ceX4_ok, rfl, by decide +kernel⟩
def tX4_directNeeds : List xT := [(0, .aload_n 0, 1, [0], vN), (1, .iload_n 1, 1, [1], vN), (2, .invokevirtual 81, 3, [6, 4], vN), (5, .istore_n 2, 1, [2], vN), (6, .lconst 0, 1, [], vL 0), (7, .lstore_n 3, 1, [3], vN), (8, .iconst 0, 1, [], vI 0), (9, .istore 5, 2, [5], vN), (11, .iload 5, 2, [5], vN), (13, .iconst 3, 1, [], vI 3), (14, .if_icmp .ge 63, 3, [41], vN), (17, .aload_n 0, 1, [0], vN), (18, .iload_n 1, 1, [1], vN), (19, .iload 5, 2, [5], vN), (21, .invokevirtual 84, 3, [7, 4], vN), (24, .istore 6, 2, [6], vN), (26, .iload 5, 2, [5], vN), (28, .iload_n 2, 1, [2], vN), (29, .if_icmp .ge 14, 3, [25], vN), (32, .lload_n 3, 1, [3], vN), (33, .iload 6, 2, [6], vN), (35, .invokestatic 77, 3, [0, 0], vN), (38, .lor, 1, [], vN), (39, .lstore_n 3, 1, [3], vN), (40, .goto 31, 3, [39], vN), (43, .lload_n 3, 1, [3], vN), (44, .aload_n 0, 1, [0], vN), (45, .getfield 45, 3, [4, 9], vN), (48, .iload 6, 2, [6], vN), (50, .invokevirtual 66, 3, [3, 5], vN), (53, .invokestatic 77, 3, [0, 0], vN), (56, .aload_n 0, 1, [0], vN), (57, .getfield 48, 3, [4, 10], vN), (60, .iload 6, 2, [6], vN), (62, .invokevirtual 66, 3, [3, 5], vN), (65, .invokestatic 77, 3, [0, 0], vN), (68, .lor, 1, [], vN), (69, .lor, 1, [], vN), (70, .lstore_n 3, 1, [3], vN), (71, .iinc 5 1, 3, [5], vI 1), (74, .goto (-63), 3, [8], vN), (77, .lload_n 3, 1, [3], vN), (78, .lreturn, 1, [], vN)]
def hX4_directNeeds : List (Nat × List Bool) := [(11, [true, true, true, true, false, true, false])]
def eX4_directNeeds : xE := (4, mX4_directNeeds, tX4_directNeeds, hX4_directNeeds, ceX4)
theorem okX4_directNeeds : xEok eX4_directNeeds := ⟨by decide +kernel, by decide +kernel, by decide +kernel, ceX4_ok, rfl, by decide +kernel⟩
def tX4_countUsers : List xT := [(0, .iconst 0, 1, [], vI 0), (1, .istore_n 2, 1, [2], vN), (2, .iconst 0, 1, [], vI 0), (3, .istore_n 3, 1, [3], vN), (4, .iload_n 3, 1, [3], vN), (5, .aload_n 0, 1, [0], vN), (6, .getfield 9, 3, [4, 0], vN), (9, .if_icmp .ge 24, 3, [17], vN), (12, .aload_n 0, 1, [0], vN), (13, .iload_n 3, 1, [3], vN), (14, .invokevirtual 88, 3, [8, 4], vN), (17, .iload_n 1, 1, [1], vN), (18, .invokestatic 91, 3, [1, 0], vN), (21, .ifCond .eq 6, 3, [15], vN), (24, .iinc 2 1, 3, [2], vI 1), (27, .iinc 3 1, 3, [3], vI 1), (30, .goto (-26), 3, [4], vN), (33, .iload_n 2, 1, [2], vN), (34, .ireturn, 1, [], vN)]
def hX4_countUsers : List (Nat × List Bool) := [(4, [true, true, true, true])]
def eX4_countUsers : xE := (4, mX4_countUsers, tX4_countUsers, hX4_countUsers, ceX4)
theorem okX4_countUsers : xEok eX4_countUsers := ⟨by decide +kernel, by decide +kernel, by decide +kernel, ceX4_ok, rfl, by decide +kernel⟩
def tX4_assumptionsFrom : List xT := [(0, .lconst 0, 1, [], vL 0), (1, .lstore_n 2, 1, [2], vN), (2, .iload_n 1, 1, [1], vN), (3, .istore 4, 2, [4], vN), (5, .iconst 0, 1, [], vI 0), (6, .istore 5, 2, [5], vN), (8, .iload 5, 2, [5], vN), (10, .iconst 5, 1, [], vI 5), (11, .if_icmp .ge 35, 3, [24], vN), (14, .lload_n 2, 1, [2], vN), (15, .aload_n 0, 1, [0], vN), (16, .getfield 45, 3, [4, 9], vN), (19, .iload 4, 2, [4], vN), (21, .invokevirtual 66, 3, [3, 5], vN), (24, .invokestatic 77, 3, [0, 0], vN), (27, .lor, 1, [], vN), (28, .lstore_n 2, 1, [2], vN), (29, .aload_n 0, 1, [0], vN), (30, .getfield 51, 3, [4, 11], vN), (33, .iload 4, 2, [4], vN), (35, .invokevirtual 66, 3, [3, 5], vN), (38, .istore 4, 2, [4], vN), (40, .iinc 5 1, 3, [5], vI 1), (43, .goto (-35), 3, [6], vN), (46, .lload_n 2, 1, [2], vN), (47, .lreturn, 1, [], vN)]
def hX4_assumptionsFrom : List (Nat × List Bool) := [(8, [true, false, true, false, true, true])]
def eX4_assumptionsFrom : xE := (4, mX4_assumptionsFrom, tX4_assumptionsFrom, hX4_assumptionsFrom, ceX4)
theorem okX4_assumptionsFrom : xEok eX4_assumptionsFrom := ⟨by decide +kernel, by decide +kernel, by decide +kernel, ceX4_ok, rfl, by decide +kernel⟩
def tX4_allNeeds : List xT := [(0, .iload_n 1, 1, [1], vN), (1, .invokestatic 77, 3, [0, 0], vN), (4, .lstore_n 2, 1, [2], vN), (5, .iload_n 1, 1, [1], vN), (6, .istore 4, 2, [4], vN), (8, .iload 4, 2, [4], vN), (10, .ifCond .lt 41, 3, [26], vN), (13, .lload_n 2, 1, [2], vN), (14, .iload 4, 2, [4], vN), (16, .invokestatic 91, 3, [1, 0], vN), (19, .ifCond .eq 26, 3, [24], vN), (22, .lload_n 2, 1, [2], vN), (23, .aload_n 0, 1, [0], vN), (24, .iload 4, 2, [4], vN), (26, .invokevirtual 88, 3, [8, 4], vN), (29, .aload_n 0, 1, [0], vN), (30, .aload_n 0, 1, [0], vN), (31, .getfield 33, 3, [4, 5], vN), (34, .iload 4, 2, [4], vN), (36, .invokevirtual 66, 3, [3, 5], vN), (39, .invokevirtual 95, 3, [9, 4], vN), (42, .lor, 1, [], vN), (43, .lor, 1, [], vN), (44, .lstore_n 2, 1, [2], vN), (45, .iinc 4 (-1), 3, [4], vI (-1)), (48, .goto (-40), 3, [5], vN), (51, .lload_n 2, 1, [2], vN), (52, .lreturn, 1, [], vN)]
def hX4_allNeeds : List (Nat × List Bool) := [(8, [true, false, true, false, true])]
def eX4_allNeeds : xE := (4, mX4_allNeeds, tX4_allNeeds, hX4_allNeeds, ceX4)
theorem okX4_allNeeds : xEok eX4_allNeeds := ⟨by decide +kernel, by decide +kernel, by decide +kernel, ceX4_ok, rfl, by decide +kernel⟩
def tX4_bypassOf : List xT := [(0, .aload_n 0, 1, [0], vN), (1, .getfield 30, 3, [4, 4], vN), (4, .iload_n 1, 1, [1], vN), (5, .invokevirtual 66, 3, [3, 5], vN), (8, .istore_n 2, 1, [2], vN), (9, .aload_n 0, 1, [0], vN), (10, .getfield 36, 3, [4, 6], vN), (13, .iload_n 1, 1, [1], vN), (14, .invokevirtual 66, 3, [3, 5], vN), (17, .istore_n 3, 1, [3], vN), (18, .iload_n 2, 1, [2], vN), (19, .iconst 2, 1, [], vI 2), (20, .if_icmp .ne 5, 3, [15], vN), (23, .iload_n 3, 1, [3], vN), (24, .ireturn, 1, [], vN), (25, .iload_n 2, 1, [2], vN), (26, .iconst 4, 1, [], vI 4), (27, .if_icmp .ne 24, 3, [29], vN), (30, .aload_n 0, 1, [0], vN), (31, .getfield 30, 3, [4, 4], vN), (34, .iload_n 3, 1, [3], vN), (35, .invokevirtual 66, 3, [3, 5], vN), (38, .iconst 3, 1, [], vI 3), (39, .if_icmp .ne 12, 3, [29], vN), (42, .aload_n 0, 1, [0], vN), (43, .getfield 36, 3, [4, 6], vN), (46, .iload_n 3, 1, [3], vN), (47, .invokevirtual 66, 3, [3, 5], vN), (50, .ireturn, 1, [], vN), (51, .iload_n 2, 1, [2], vN), (52, .iconst 5, 1, [], vI 5), (53, .if_icmp .ne 24, 3, [43], vN), (56, .aload_n 0, 1, [0], vN), (57, .getfield 30, 3, [4, 4], vN), (60, .iload_n 3, 1, [3], vN), (61, .invokevirtual 66, 3, [3, 5], vN), (64, .iconst 3, 1, [], vI 3), (65, .if_icmp .ne 12, 3, [43], vN), (68, .aload_n 0, 1, [0], vN), (69, .getfield 39, 3, [4, 7], vN), (72, .iload_n 3, 1, [3], vN), (73, .invokevirtual 66, 3, [3, 5], vN), (76, .ireturn, 1, [], vN), (77, .bipush (-6), 2, [], vI (-6)), (79, .ireturn, 1, [], vN)]
def hX4_bypassOf : List (Nat × List Bool) := []
def eX4_bypassOf : xE := (4, mX4_bypassOf, tX4_bypassOf, hX4_bypassOf, ceX4)
theorem okX4_bypassOf : xEok eX4_bypassOf := ⟨by decide +kernel, by decide +kernel, by decide +kernel, ceX4_ok, rfl, by decide +kernel⟩
def tX4_countDetours : List xT := [(0, .iconst 0, 1, [], vI 0), (1, .istore_n 1, 1, [1], vN), (2, .iconst 0, 1, [], vI 0), (3, .istore_n 2, 1, [2], vN), (4, .iload_n 2, 1, [2], vN), (5, .aload_n 0, 1, [0], vN), (6, .getfield 9, 3, [4, 0], vN), (9, .if_icmp .ge 22, 3, [16], vN), (12, .aload_n 0, 1, [0], vN), (13, .iload_n 2, 1, [2], vN), (14, .invokevirtual 98, 3, [10, 4], vN), (17, .bipush (-6), 2, [], vI (-6)), (19, .if_icmp .eq 6, 3, [14], vN), (22, .iinc 1 1, 3, [1], vI 1), (25, .iinc 2 1, 3, [2], vI 1), (28, .goto (-24), 3, [4], vN), (31, .iload_n 1, 1, [1], vN), (32, .ireturn, 1, [], vN)]
def hX4_countDetours : List (Nat × List Bool) := [(4, [true, true, true])]
def eX4_countDetours : xE := (4, mX4_countDetours, tX4_countDetours, hX4_countDetours, ceX4)
theorem okX4_countDetours : xEok eX4_countDetours := ⟨by decide +kernel, by decide +kernel, by decide +kernel, ceX4_ok, rfl, by decide +kernel⟩
def tX4_bypassDetours : List xT := [(0, .iconst 0, 1, [], vI 0), (1, .istore_n 1, 1, [1], vN), (2, .iconst 0, 1, [], vI 0), (3, .istore_n 2, 1, [2], vN), (4, .iload_n 2, 1, [2], vN), (5, .aload_n 0, 1, [0], vN), (6, .getfield 9, 3, [4, 0], vN), (9, .if_icmp .ge 48, 3, [35], vN), (12, .aload_n 0, 1, [0], vN), (13, .iload_n 2, 1, [2], vN), (14, .invokevirtual 81, 3, [6, 4], vN), (17, .istore_n 3, 1, [3], vN), (18, .iload_n 3, 1, [3], vN), (19, .ifCond .le 15, 3, [22], vN), (22, .iload_n 1, 1, [1], vN), (23, .aload_n 0, 1, [0], vN), (24, .aload_n 0, 1, [0], vN), (25, .getfield 36, 3, [4, 6], vN), (28, .iload_n 2, 1, [2], vN), (29, .invokevirtual 101, 3, [11, 4], vN), (32, .iadd, 1, [], vN), (33, .istore_n 1, 1, [1], vN), (34, .iload_n 3, 1, [3], vN), (35, .iconst 1, 1, [], vI 1), (36, .if_icmp .le 15, 3, [33], vN), (39, .iload_n 1, 1, [1], vN), (40, .aload_n 0, 1, [0], vN), (41, .aload_n 0, 1, [0], vN), (42, .getfield 39, 3, [4, 7], vN), (45, .iload_n 2, 1, [2], vN), (46, .invokevirtual 101, 3, [11, 4], vN), (49, .iadd, 1, [], vN), (50, .istore_n 1, 1, [1], vN), (51, .iinc 2 1, 3, [2], vI 1), (54, .goto (-50), 3, [4], vN), (57, .iload_n 1, 1, [1], vN), (58, .ireturn, 1, [], vN)]
def hX4_bypassDetours : List (Nat × List Bool) := [(4, [true, true, true, false])]
def eX4_bypassDetours : xE := (4, mX4_bypassDetours, tX4_bypassDetours, hX4_bypassDetours, ceX4)
theorem okX4_bypassDetours : xEok eX4_bypassDetours := ⟨by decide +kernel, by decide +kernel, by decide +kernel, ceX4_ok, rfl, by decide +kernel⟩
def tX4_bypassIn : List xT := [(0, .aload_n 1, 1, [1], vN), (1, .iload_n 2, 1, [2], vN), (2, .invokevirtual 66, 3, [3, 5], vN), (5, .istore_n 3, 1, [3], vN), (6, .iload_n 3, 1, [3], vN), (7, .istore 4, 2, [4], vN), (9, .iconst 0, 1, [], vI 0), (10, .istore 5, 2, [5], vN), (12, .iload 5, 2, [5], vN), (14, .bipush 48, 2, [], vI 48), (16, .if_icmp .ge 28, 3, [22], vN), (19, .aload_n 0, 1, [0], vN), (20, .iload 4, 2, [4], vN), (22, .invokevirtual 98, 3, [10, 4], vN), (25, .bipush (-6), 2, [], vI (-6)), (27, .if_icmp .eq 17, 3, [22], vN), (30, .aload_n 0, 1, [0], vN), (31, .iload 4, 2, [4], vN), (33, .invokevirtual 98, 3, [10, 4], vN), (36, .istore 4, 2, [4], vN), (38, .iinc 5 1, 3, [5], vI 1), (41, .goto (-29), 3, [8], vN), (44, .aload_n 1, 1, [1], vN), (45, .iload_n 2, 1, [2], vN), (46, .iload 4, 2, [4], vN), (48, .invokevirtual 58, 3, [1, 5], vN), (51, .iload 4, 2, [4], vN), (53, .iload_n 3, 1, [3], vN), (54, .if_icmp .ne 7, 3, [31], vN), (57, .iconst 0, 1, [], vI 0), (58, .goto 4, 3, [32], vN), (61, .iconst 1, 1, [], vI 1), (62, .ireturn, 1, [], vN)]
def hX4_bypassIn : List (Nat × List Bool) := [(12, [true, true, true, true, true, true])]
def eX4_bypassIn : xE := (4, mX4_bypassIn, tX4_bypassIn, hX4_bypassIn, ceX4)
theorem okX4_bypassIn : xEok eX4_bypassIn := ⟨by decide +kernel, by decide +kernel, by decide +kernel, ceX4_ok, rfl, by decide +kernel⟩
def tX4_allowedValuations : List xT := [(0, .aload_n 0, 1, [0], vN), (1, .iload_n 1, 1, [1], vN), (2, .invokevirtual 95, 3, [9, 4], vN), (5, .lstore_n 3, 1, [3], vN), (6, .iconst (-1), 1, [], vI (-1)), (7, .istore 5, 2, [5], vN), (9, .iconst 0, 1, [], vI 0), (10, .istore 6, 2, [6], vN), (12, .iload 6, 2, [6], vN), (14, .aload_n 0, 1, [0], vN), (15, .getfield 9, 3, [4, 0], vN), (18, .if_icmp .ge 48, 3, [32], vN), (21, .aload_n 0, 1, [0], vN), (22, .getfield 30, 3, [4, 4], vN), (25, .iload 6, 2, [6], vN), (27, .invokevirtual 66, 3, [3, 5], vN), (30, .ifCond .eq 12, 3, [21], vN), (33, .lload_n 3, 1, [3], vN), (34, .iload 6, 2, [6], vN), (36, .invokestatic 91, 3, [1, 0], vN), (39, .ifCond .eq 21, 3, [30], vN), (42, .iload 5, 2, [5], vN), (44, .aload_n 2, 1, [2], vN), (45, .aload_n 0, 1, [0], vN), (46, .getfield 26, 3, [4, 3], vN), (49, .iload 6, 2, [6], vN), (51, .invokevirtual 66, 3, [3, 5], vN), (54, .invokevirtual 66, 3, [3, 5], vN), (57, .iand, 1, [], vN), (58, .istore 5, 2, [5], vN), (60, .iinc 6 1, 3, [6], vI 1), (63, .goto (-51), 3, [8], vN), (66, .iload 5, 2, [5], vN), (68, .ireturn, 1, [], vN)]
def hX4_allowedValuations : List (Nat × List Bool) := [(12, [true, false, true, true, false, true, true])]
def eX4_allowedValuations : xE := (4, mX4_allowedValuations, tX4_allowedValuations, hX4_allowedValuations, ceX4)
theorem okX4_allowedValuations : xEok eX4_allowedValuations := ⟨by decide +kernel, by decide +kernel, by decide +kernel, ceX4_ok, rfl, by decide +kernel⟩
def tX4_keepOnly : List xT := [(0, .aload_n 0, 1, [0], vN), (1, .getfield 9, 3, [4, 0], vN), (4, .istore_n 3, 1, [3], vN), (5, .aload_n 0, 1, [0], vN), (6, .lload_n 1, 1, [1], vN), (7, .invokevirtual 105, 3, [12, 4], vN), (10, .lstore 4, 2, [4], vN), (12, .iconst 0, 1, [], vI 0), (13, .istore 6, 2, [6], vN), (15, .iconst 0, 1, [], vI 0), (16, .istore 7, 2, [7], vN), (18, .iload 7, 2, [7], vN), (20, .iload_n 3, 1, [3], vN), (21, .if_icmp .ge 32, 3, [27], vN), (24, .lload_n 1, 1, [1], vN), (25, .iload 7, 2, [7], vN), (27, .invokestatic 91, 3, [1, 0], vN), (30, .ifCond .eq 17, 3, [25], vN), (33, .aload_n 0, 1, [0], vN), (34, .iload 7, 2, [7], vN), (36, .iload 6, 2, [6], vN), (38, .lload_n 1, 1, [1], vN), (39, .lload 4, 2, [4], vN), (41, .invokevirtual 109, 3, [13, 4], vN), (44, .iinc 6 1, 3, [6], vI 1), (47, .iinc 7 1, 3, [7], vI 1), (50, .goto (-32), 3, [11], vN), (53, .aload_n 0, 1, [0], vN), (54, .iload 6, 2, [6], vN), (56, .putfield 9, 3, [4, 0], vN), (59, .aload_n 0, 1, [0], vN), (60, .invokevirtual 113, 3, [14, 4], vN), (63, .iload_n 3, 1, [3], vN), (64, .aload_n 0, 1, [0], vN), (65, .getfield 9, 3, [4, 0], vN), (68, .isub, 1, [], vN), (69, .ireturn, 1, [], vN)]
def hX4_keepOnly : List (Nat × List Bool) := [(18, [true, true, false, true, true, false, true, true])]
def eX4_keepOnly : xE := (4, mX4_keepOnly, tX4_keepOnly, hX4_keepOnly, ceX4)
theorem okX4_keepOnly : xEok eX4_keepOnly := ⟨by decide +kernel, by decide +kernel, by decide +kernel, ceX4_ok, rfl, by decide +kernel⟩
def tX4_renumbered : List xT := [(0, .iload_n 0, 1, [0], vN), (1, .ifCond .ge 8, 3, [4], vN), (4, .bipush (-6), 2, [], vI (-6)), (6, .goto 14, 3, [11], vN), (9, .lload_n 1, 1, [1], vN), (10, .iload_n 0, 1, [0], vN), (11, .invokestatic 77, 3, [0, 0], vN), (14, .lconst 1, 1, [], vL 1), (15, .lsub, 1, [], vN), (16, .land, 1, [], vN), (17, .invokestatic 116, 3, [2, 0], vN), (20, .ireturn, 1, [], vN)]
def hX4_renumbered : List (Nat × List Bool) := []
def eX4_renumbered : xE := (4, mX4_renumbered, tX4_renumbered, hX4_renumbered, ceX4)
theorem okX4_renumbered : xEok eX4_renumbered := ⟨by decide +kernel, by decide +kernel, by decide +kernel, ceX4_ok, rfl, by decide +kernel⟩
def tX4_moveLine : List xT := [(0, .aload_n 0, 1, [0], vN), (1, .iload_n 1, 1, [1], vN), (2, .invokevirtual 81, 3, [6, 4], vN), (5, .istore 7, 2, [7], vN), (7, .aload_n 0, 1, [0], vN), (8, .getfield 26, 3, [4, 3], vN), (11, .iload_n 2, 1, [2], vN), (12, .aload_n 0, 1, [0], vN), (13, .getfield 26, 3, [4, 3], vN), (16, .iload_n 1, 1, [1], vN), (17, .invokevirtual 66, 3, [3, 5], vN), (20, .invokevirtual 58, 3, [1, 5], vN), (23, .aload_n 0, 1, [0], vN), (24, .getfield 36, 3, [4, 6], vN), (27, .iload_n 2, 1, [2], vN), (28, .aload_n 0, 1, [0], vN), (29, .getfield 36, 3, [4, 6], vN), (32, .iload_n 1, 1, [1], vN), (33, .invokevirtual 66, 3, [3, 5], vN), (36, .iload 7, 2, [7], vN), (38, .ifCond .le 7, 3, [23], vN), (41, .lload_n 3, 1, [3], vN), (42, .goto 5, 3, [24], vN), (45, .lload 5, 2, [5], vN), (47, .invokestatic 122, 3, [3, 0], vN), (50, .invokevirtual 58, 3, [1, 5], vN), (53, .aload_n 0, 1, [0], vN), (54, .getfield 39, 3, [4, 7], vN), (57, .iload_n 2, 1, [2], vN), (58, .aload_n 0, 1, [0], vN), (59, .getfield 39, 3, [4, 7], vN), (62, .iload_n 1, 1, [1], vN), (63, .invokevirtual 66, 3, [3, 5], vN), (66, .iload 7, 2, [7], vN), (68, .iconst 1, 1, [], vI 1), (69, .if_icmp .le 7, 3, [38], vN), (72, .lload_n 3, 1, [3], vN), (73, .goto 5, 3, [39], vN), (76, .lload 5, 2, [5], vN), (78, .invokestatic 122, 3, [3, 0], vN), (81, .invokevirtual 58, 3, [1, 5], vN), (84, .aload_n 0, 1, [0], vN), (85, .getfield 42, 3, [4, 8], vN), (88, .iload_n 2, 1, [2], vN), (89, .aload_n 0, 1, [0], vN), (90, .getfield 42, 3, [4, 8], vN), (93, .iload_n 1, 1, [1], vN), (94, .invokevirtual 66, 3, [3, 5], vN), (97, .lload 5, 2, [5], vN), (99, .invokestatic 122, 3, [3, 0], vN), (102, .invokevirtual 58, 3, [1, 5], vN), (105, .aload_n 0, 1, [0], vN), (106, .getfield 33, 3, [4, 5], vN), (109, .iload_n 2, 1, [2], vN), (110, .aload_n 0, 1, [0], vN), (111, .getfield 33, 3, [4, 5], vN), (114, .iload_n 1, 1, [1], vN), (115, .invokevirtual 66, 3, [3, 5], vN), (118, .lload 5, 2, [5], vN), (120, .invokestatic 122, 3, [3, 0], vN), (123, .invokevirtual 58, 3, [1, 5], vN), (126, .aload_n 0, 1, [0], vN), (127, .getfield 30, 3, [4, 4], vN), (130, .iload_n 2, 1, [2], vN), (131, .aload_n 0, 1, [0], vN), (132, .getfield 30, 3, [4, 4], vN), (135, .iload_n 1, 1, [1], vN), (136, .invokevirtual 66, 3, [3, 5], vN), (139, .invokevirtual 58, 3, [1, 5], vN), (142, .return_, 1, [], vN)]
def hX4_moveLine : List (Nat × List Bool) := []
def eX4_moveLine : xE := (4, mX4_moveLine, tX4_moveLine, hX4_moveLine, ceX4)
theorem okX4_moveLine : xEok eX4_moveLine := ⟨by decide +kernel, by decide +kernel, by decide +kernel, ceX4_ok, rfl, by decide +kernel⟩
def tX4_keepBoxes : List xT := [(0, .lconst 0, 1, [], vL 0), (1, .lstore_n 3, 1, [3], vN), (2, .iconst 0, 1, [], vI 0), (3, .istore 5, 2, [5], vN), (5, .iconst 0, 1, [], vI 0), (6, .istore 6, 2, [6], vN), (8, .iload 6, 2, [6], vN), (10, .aload_n 0, 1, [0], vN), (11, .getfield 15, 3, [4, 1], vN), (14, .if_icmp .ge 80, 3, [45], vN), (17, .lload_n 1, 1, [1], vN), (18, .aload_n 0, 1, [0], vN), (19, .getfield 45, 3, [4, 9], vN), (22, .iload 6, 2, [6], vN), (24, .invokevirtual 66, 3, [3, 5], vN), (27, .invokestatic 91, 3, [1, 0], vN), (30, .ifCond .eq 58, 3, [43], vN), (33, .lload_n 3, 1, [3], vN), (34, .iload 6, 2, [6], vN), (36, .invokestatic 77, 3, [0, 0], vN), (39, .lor, 1, [], vN), (40, .lstore_n 3, 1, [3], vN), (41, .aload_n 0, 1, [0], vN), (42, .getfield 45, 3, [4, 9], vN), (45, .iload 5, 2, [5], vN), (47, .aload_n 0, 1, [0], vN), (48, .getfield 45, 3, [4, 9], vN), (51, .iload 6, 2, [6], vN), (53, .invokevirtual 66, 3, [3, 5], vN), (56, .lload_n 1, 1, [1], vN), (57, .invokestatic 122, 3, [3, 0], vN), (60, .invokevirtual 58, 3, [1, 5], vN), (63, .aload_n 0, 1, [0], vN), (64, .getfield 51, 3, [4, 11], vN), (67, .iload 5, 2, [5], vN), (69, .aload_n 0, 1, [0], vN), (70, .getfield 51, 3, [4, 11], vN), (73, .iload 6, 2, [6], vN), (75, .invokevirtual 66, 3, [3, 5], vN), (78, .lload_n 3, 1, [3], vN), (79, .invokestatic 122, 3, [3, 0], vN), (82, .invokevirtual 58, 3, [1, 5], vN), (85, .iinc 5 1, 3, [5], vI 1), (88, .iinc 6 1, 3, [6], vI 1), (91, .goto (-83), 3, [6], vN), (94, .aload_n 0, 1, [0], vN), (95, .iload 5, 2, [5], vN), (97, .putfield 15, 3, [4, 1], vN), (100, .lload_n 3, 1, [3], vN), (101, .lreturn, 1, [], vN)]
def hX4_keepBoxes : List (Nat × List Bool) := [(8, [true, true, false, true, false, true, true])]
def eX4_keepBoxes : xE := (4, mX4_keepBoxes, tX4_keepBoxes, hX4_keepBoxes, ceX4)
theorem okX4_keepBoxes : xEok eX4_keepBoxes := ⟨by decide +kernel, by decide +kernel, by decide +kernel, ceX4_ok, rfl, by decide +kernel⟩
def tX4_findEnds : List xT := [(0, .iconst 0, 1, [], vI 0), (1, .istore_n 1, 1, [1], vN), (2, .iload_n 1, 1, [1], vN), (3, .aload_n 0, 1, [0], vN), (4, .getfield 9, 3, [4, 0], vN), (7, .if_icmp .ge 57, 3, [34], vN), (10, .aload_n 0, 1, [0], vN), (11, .getfield 33, 3, [4, 5], vN), (14, .iload_n 1, 1, [1], vN), (15, .invokevirtual 66, 3, [3, 5], vN), (18, .istore_n 2, 1, [2], vN), (19, .iconst 0, 1, [], vI 0), (20, .istore_n 3, 1, [3], vN), (21, .iload_n 3, 1, [3], vN), (22, .iconst 5, 1, [], vI 5), (23, .if_icmp .ge 35, 3, [32], vN), (26, .aload_n 0, 1, [0], vN), (27, .iload_n 2, 1, [2], vN), (28, .invokevirtual 70, 3, [4, 4], vN), (31, .ifCond .eq 27, 3, [32], vN), (34, .aload_n 0, 1, [0], vN), (35, .getfield 48, 3, [4, 10], vN), (38, .iload_n 2, 1, [2], vN), (39, .iload_n 1, 1, [1], vN), (40, .invokevirtual 58, 3, [1, 5], vN), (43, .aload_n 0, 1, [0], vN), (44, .getfield 51, 3, [4, 11], vN), (47, .iload_n 2, 1, [2], vN), (48, .invokevirtual 66, 3, [3, 5], vN), (51, .istore_n 2, 1, [2], vN), (52, .iinc 3 1, 3, [3], vI 1), (55, .goto (-34), 3, [13], vN), (58, .iinc 1 1, 3, [1], vI 1), (61, .goto (-59), 3, [2], vN), (64, .return_, 1, [], vN)]
def hX4_findEnds : List (Nat × List Bool) := [(2, [true, true, false, false]), (21, [true, true, true, true])]
def eX4_findEnds : xE := (4, mX4_findEnds, tX4_findEnds, hX4_findEnds, ceX4)
theorem okX4_findEnds : xEok eX4_findEnds := ⟨by decide +kernel, by decide +kernel, by decide +kernel, ceX4_ok, rfl, by decide +kernel⟩
def tX5_get : List xT := [(0, .iload_n 1, 1, [1], vN), (1, .ifCond .lt 21, 3, [12], vN), (4, .iload_n 1, 1, [1], vN), (5, .aload_n 0, 1, [0], vN), (6, .getfield 15, 3, [5, 0], vN), (9, .arraylength, 1, [], vN), (10, .if_icmp .ge 12, 3, [12], vN), (13, .aload_n 0, 1, [0], vN), (14, .getfield 15, 3, [5, 0], vN), (17, .iload_n 1, 1, [1], vN), (18, .iaload, 1, [], vN), (19, .goto 5, 3, [13], vN), (22, .bipush (-6), 2, [], vI (-6)), (24, .ireturn, 1, [], vN)]
def hX5_get : List (Nat × List Bool) := []
def eX5_get : xE := (5, mX5_get, tX5_get, hX5_get, ceX5)
theorem okX5_get : xEok eX5_get := ⟨by decide +kernel, by decide +kernel, by decide +kernel, ceX5_ok, rfl, by decide +kernel⟩
def tX5_set : List xT := [(0, .iload_n 1, 1, [1], vN), (1, .ifCond .lt 19, 3, [12], vN), (4, .iload_n 1, 1, [1], vN), (5, .aload_n 0, 1, [0], vN), (6, .getfield 15, 3, [5, 0], vN), (9, .arraylength, 1, [], vN), (10, .if_icmp .ge 10, 3, [12], vN), (13, .aload_n 0, 1, [0], vN), (14, .getfield 15, 3, [5, 0], vN), (17, .iload_n 1, 1, [1], vN), (18, .iload_n 2, 1, [2], vN), (19, .iastore, 1, [], vN), (20, .return_, 1, [], vN)]
def hX5_set : List (Nat × List Bool) := []
def eX5_set : xE := (5, mX5_set, tX5_set, hX5_set, ceX5)
theorem okX5_set : xEok eX5_set := ⟨by decide +kernel, by decide +kernel, by decide +kernel, ceX5_ok, rfl, by decide +kernel⟩
def tX5_copyFrom : List xT := [(0, .aload_n 0, 1, [0], vN), (1, .getfield 15, 3, [5, 0], vN), (4, .arraylength, 1, [], vN), (5, .aload_n 1, 1, [1], vN), (6, .getfield 15, 3, [5, 0], vN), (9, .arraylength, 1, [], vN), (10, .invokestatic 21, 3, [0, 1], vN), (13, .istore_n 2, 1, [2], vN), (14, .aload_n 1, 1, [1], vN), (15, .getfield 15, 3, [5, 0], vN), (18, .iconst 0, 1, [], vI 0), (19, .aload_n 0, 1, [0], vN), (20, .getfield 15, 3, [5, 0], vN), (23, .iconst 0, 1, [], vI 0), (24, .iload_n 2, 1, [2], vN), (25, .invokestatic 24, 3, [0, 2], vN), (28, .return_, 1, [], vN)]
def hX5_copyFrom : List (Nat × List Bool) := []
def eX5_copyFrom : xE := (5, mX5_copyFrom, tX5_copyFrom, hX5_copyFrom, ceX5)
theorem okX5_copyFrom : xEok eX5_copyFrom := ⟨by decide +kernel, by decide +kernel, by decide +kernel, ceX5_ok, rfl, by decide +kernel⟩
def tX7_copyFrom : List xT := [(0, .aload_n 0, 1, [0], vN), (1, .getfield 10, 3, [6, 0], vN), (4, .aload_n 1, 1, [1], vN), (5, .getfield 10, 3, [6, 0], vN), (8, .invokevirtual 23, 3, [0, 2], vN), (11, .aload_n 0, 1, [0], vN), (12, .getfield 19, 3, [6, 1], vN), (15, .aload_n 1, 1, [1], vN), (16, .getfield 19, 3, [6, 1], vN), (19, .invokevirtual 27, 3, [1, 4], vN), (22, .return_, 1, [], vN)]
def hX7_copyFrom : List (Nat × List Bool) := []
def eX7_copyFrom : xE := (7, mX7_copyFrom, tX7_copyFrom, hX7_copyFrom, ceX7)
theorem okX7_copyFrom : xEok eX7_copyFrom := ⟨by decide +kernel, by decide +kernel, by decide +kernel, ceX7_ok, rfl, by decide +kernel⟩
def tX8_atom : List xT := [(0, .iload_n 1, 1, [1], vN), (1, .ifCond .lt 9, 3, [5], vN), (4, .iload_n 1, 1, [1], vN), (5, .bipush 8, 2, [], vI 8), (7, .if_icmp .lt 5, 3, [7], vN), (10, .iconst (-1), 1, [], vI (-1)), (11, .ireturn, 1, [], vN), (12, .aload_n 0, 1, [0], vN), (13, .iconst 0, 1, [], vI 0), (14, .iload_n 1, 1, [1], vN), (15, .bipush (-6), 2, [], vI (-6)), (17, .invokevirtual 63, 3, [0, 7], vN), (20, .ireturn, 1, [], vN)]
def hX8_atom : List (Nat × List Bool) := []
def eX8_atom : xE := (8, mX8_atom, tX8_atom, hX8_atom, ceX8)
theorem okX8_atom : xEok eX8_atom := ⟨by decide +kernel, by decide +kernel, by decide +kernel, ceX8_ok, rfl, by decide +kernel⟩
def tX8_falsum : List xT := [(0, .aload_n 0, 1, [0], vN), (1, .iconst 1, 1, [], vI 1), (2, .bipush (-6), 2, [], vI (-6)), (4, .bipush (-6), 2, [], vI (-6)), (6, .invokevirtual 63, 3, [0, 7], vN), (9, .ireturn, 1, [], vN)]
def hX8_falsum : List (Nat × List Bool) := []
def eX8_falsum : xE := (8, mX8_falsum, tX8_falsum, hX8_falsum, ceX8)
theorem okX8_falsum : xEok eX8_falsum := ⟨by decide +kernel, by decide +kernel, by decide +kernel, ceX8_ok, rfl, by decide +kernel⟩
def tX8_not : List xT := [(0, .aload_n 0, 1, [0], vN), (1, .getfield 10, 3, [7, 0], vN), (4, .getfield 67, 3, [6, 0], vN), (7, .iload_n 1, 1, [1], vN), (8, .invokevirtual 70, 3, [1, 2], vN), (11, .ifCond .ne 5, 3, [8], vN), (14, .iconst (-1), 1, [], vI (-1)), (15, .ireturn, 1, [], vN), (16, .aload_n 0, 1, [0], vN), (17, .iconst 2, 1, [], vI 2), (18, .iload_n 1, 1, [1], vN), (19, .bipush (-6), 2, [], vI (-6)), (21, .invokevirtual 63, 3, [0, 7], vN), (24, .ireturn, 1, [], vN)]
def hX8_not : List (Nat × List Bool) := []
def eX8_not : xE := (8, mX8_not, tX8_not, hX8_not, ceX8)
theorem okX8_not : xEok eX8_not := ⟨by decide +kernel, by decide +kernel, by decide +kernel, ceX8_ok, rfl, by decide +kernel⟩
def tX8_pair : List xT := [(0, .aload_n 0, 1, [0], vN), (1, .getfield 10, 3, [7, 0], vN), (4, .getfield 67, 3, [6, 0], vN), (7, .iload_n 2, 1, [2], vN), (8, .invokevirtual 70, 3, [1, 2], vN), (11, .ifCond .eq 17, 3, [12], vN), (14, .aload_n 0, 1, [0], vN), (15, .getfield 10, 3, [7, 0], vN), (18, .getfield 67, 3, [6, 0], vN), (21, .iload_n 3, 1, [3], vN), (22, .invokevirtual 70, 3, [1, 2], vN), (25, .ifCond .ne 5, 3, [14], vN), (28, .iconst (-1), 1, [], vI (-1)), (29, .ireturn, 1, [], vN), (30, .iload_n 1, 1, [1], vN), (31, .iconst 3, 1, [], vI 3), (32, .if_icmp .lt 8, 3, [20], vN), (35, .iload_n 1, 1, [1], vN), (36, .iconst 5, 1, [], vI 5), (37, .if_icmp .le 6, 3, [22], vN), (40, .bipush (-2), 2, [], vI (-2)), (42, .ireturn, 1, [], vN), (43, .aload_n 0, 1, [0], vN), (44, .iload_n 1, 1, [1], vN), (45, .iload_n 2, 1, [2], vN), (46, .iload_n 3, 1, [3], vN), (47, .invokevirtual 63, 3, [0, 7], vN), (50, .ireturn, 1, [], vN)]
def hX8_pair : List (Nat × List Bool) := []
def eX8_pair : xE := (8, mX8_pair, tX8_pair, hX8_pair, ceX8)
theorem okX8_pair : xEok eX8_pair := ⟨by decide +kernel, by decide +kernel, by decide +kernel, ceX8_ok, rfl, by decide +kernel⟩
def tX8_makeFormula : List xT := [(0, .aload_n 0, 1, [0], vN), (1, .getfield 10, 3, [7, 0], vN), (4, .getfield 67, 3, [6, 0], vN), (7, .iload_n 1, 1, [1], vN), (8, .iload_n 2, 1, [2], vN), (9, .iload_n 3, 1, [3], vN), (10, .invokevirtual 74, 3, [2, 2], vN), (13, .ifCond .ne 6, 3, [10], vN), (16, .bipush (-4), 2, [], vI (-4)), (18, .ireturn, 1, [], vN), (19, .aload_n 0, 1, [0], vN), (20, .getfield 22, 3, [7, 2], vN), (23, .aload_n 0, 1, [0], vN), (24, .getfield 10, 3, [7, 0], vN), (27, .invokevirtual 78, 3, [3, 3], vN), (30, .aload_n 0, 1, [0], vN), (31, .getfield 10, 3, [7, 0], vN), (34, .getfield 67, 3, [6, 0], vN), (37, .iload_n 1, 1, [1], vN), (38, .iload_n 2, 1, [2], vN), (39, .iload_n 3, 1, [3], vN), (40, .invokevirtual 82, 3, [4, 2], vN), (43, .ireturn, 1, [], vN)]
def hX8_makeFormula : List (Nat × List Bool) := []
def eX8_makeFormula : xE := (8, mX8_makeFormula, tX8_makeFormula, hX8_makeFormula, ceX8)
theorem okX8_makeFormula : xEok eX8_makeFormula := ⟨by decide +kernel, by decide +kernel, by decide +kernel, ceX8_ok, rfl, by decide +kernel⟩
def tX8_formulas : List xT := [(0, .aload_n 0, 1, [0], vN), (1, .getfield 10, 3, [7, 0], vN), (4, .getfield 67, 3, [6, 0], vN), (7, .getfield 85, 3, [2, 0], vN), (10, .ireturn, 1, [], vN)]
def hX8_formulas : List (Nat × List Bool) := []
def eX8_formulas : xE := (8, mX8_formulas, tX8_formulas, hX8_formulas, ceX8)
theorem okX8_formulas : xEok eX8_formulas := ⟨by decide +kernel, by decide +kernel, by decide +kernel, ceX8_ok, rfl, by decide +kernel⟩
def tX8_part : List xT := [(0, .aload_n 0, 1, [0], vN), (1, .getfield 10, 3, [7, 0], vN), (4, .getfield 67, 3, [6, 0], vN), (7, .iload_n 1, 1, [1], vN), (8, .invokevirtual 70, 3, [1, 2], vN), (11, .ifCond .ne 5, 3, [8], vN), (14, .iconst (-1), 1, [], vI (-1)), (15, .ireturn, 1, [], vN), (16, .iload_n 2, 1, [2], vN), (17, .tableswitch 72 0 2 #[27, 42, 57], 27, [31, 10, 17, 24], vN), (44, .aload_n 0, 1, [0], vN), (45, .getfield 10, 3, [7, 0], vN), (48, .getfield 67, 3, [6, 0], vN), (51, .getfield 89, 3, [2, 1], vN), (54, .iload_n 1, 1, [1], vN), (55, .invokevirtual 92, 3, [5, 5], vN), (58, .ireturn, 1, [], vN), (59, .aload_n 0, 1, [0], vN), (60, .getfield 10, 3, [7, 0], vN), (63, .getfield 67, 3, [6, 0], vN), (66, .getfield 96, 3, [2, 2], vN), (69, .iload_n 1, 1, [1], vN), (70, .invokevirtual 92, 3, [5, 5], vN), (73, .ireturn, 1, [], vN), (74, .aload_n 0, 1, [0], vN), (75, .getfield 10, 3, [7, 0], vN), (78, .getfield 67, 3, [6, 0], vN), (81, .getfield 99, 3, [2, 3], vN), (84, .iload_n 1, 1, [1], vN), (85, .invokevirtual 92, 3, [5, 5], vN), (88, .ireturn, 1, [], vN), (89, .bipush (-2), 2, [], vI (-2)), (91, .ireturn, 1, [], vN)]
def hX8_part : List (Nat × List Bool) := []
def eX8_part : xE := (8, mX8_part, tX8_part, hX8_part, ceX8)
theorem okX8_part : xEok eX8_part := ⟨by decide +kernel, by decide +kernel, by decide +kernel, ceX8_ok, rfl, by decide +kernel⟩
def tX8_isTrue : List xT := [(0, .aload_n 0, 1, [0], vN), (1, .getfield 10, 3, [7, 0], vN), (4, .getfield 67, 3, [6, 0], vN), (7, .iload_n 1, 1, [1], vN), (8, .invokevirtual 70, 3, [1, 2], vN), (11, .ifCond .ne 5, 3, [8], vN), (14, .iconst (-1), 1, [], vI (-1)), (15, .ireturn, 1, [], vN), (16, .iload_n 2, 1, [2], vN), (17, .ifCond .lt 10, 3, [13], vN), (20, .iload_n 2, 1, [2], vN), (21, .sipush 256, 3, [], vI 256), (24, .if_icmp .lt 6, 3, [15], vN), (27, .bipush (-2), 2, [], vI (-2)), (29, .ireturn, 1, [], vN), (30, .aload_n 0, 1, [0], vN), (31, .getfield 10, 3, [7, 0], vN), (34, .getfield 67, 3, [6, 0], vN), (37, .iload_n 2, 1, [2], vN), (38, .bipush 32, 2, [], vI 32), (40, .idiv, 1, [], vN), (41, .aload_n 0, 1, [0], vN), (42, .getfield 56, 3, [7, 7], vN), (45, .invokevirtual 110, 3, [6, 2], vN), (48, .aload_n 0, 1, [0], vN), (49, .getfield 56, 3, [7, 7], vN), (52, .iload_n 1, 1, [1], vN), (53, .invokevirtual 92, 3, [5, 5], vN), (56, .iload_n 2, 1, [2], vN), (57, .bipush 32, 2, [], vI 32), (59, .irem, 1, [], vN), (60, .iushr, 1, [], vN), (61, .iconst 1, 1, [], vI 1), (62, .iand, 1, [], vN), (63, .ireturn, 1, [], vN)]
def hX8_isTrue : List (Nat × List Bool) := []
def eX8_isTrue : xE := (8, mX8_isTrue, tX8_isTrue, hX8_isTrue, ceX8)
theorem okX8_isTrue : xEok eX8_isTrue := ⟨by decide +kernel, by decide +kernel, by decide +kernel, ceX8_ok, rfl, by decide +kernel⟩
def tX8_premise : List xT := [(0, .aload_n 0, 1, [0], vN), (1, .getfield 10, 3, [7, 0], vN), (4, .getfield 67, 3, [6, 0], vN), (7, .iload_n 1, 1, [1], vN), (8, .invokevirtual 70, 3, [1, 2], vN), (11, .ifCond .ne 5, 3, [8], vN), (14, .iconst (-1), 1, [], vI (-1)), (15, .ireturn, 1, [], vN), (16, .aload_n 0, 1, [0], vN), (17, .getfield 10, 3, [7, 0], vN), (20, .getfield 114, 3, [6, 1], vN), (23, .getfield 118, 3, [4, 2], vN), (26, .bipush (-6), 2, [], vI (-6)), (28, .if_icmp .eq 6, 3, [16], vN), (31, .bipush (-3), 2, [], vI (-3)), (33, .ireturn, 1, [], vN), (34, .aload_n 0, 1, [0], vN), (35, .iconst 0, 1, [], vI 0), (36, .iload_n 1, 1, [1], vN), (37, .bipush (-6), 2, [], vI (-6)), (39, .bipush (-6), 2, [], vI (-6)), (41, .bipush (-6), 2, [], vI (-6)), (43, .invokevirtual 123, 3, [7, 7], vN), (46, .ireturn, 1, [], vN)]
def hX8_premise : List (Nat × List Bool) := []
def eX8_premise : xE := (8, mX8_premise, tX8_premise, hX8_premise, ceX8)
theorem okX8_premise : xEok eX8_premise := ⟨by decide +kernel, by decide +kernel, by decide +kernel, ceX8_ok, rfl, by decide +kernel⟩
def tX8_open : List xT := [(0, .aload_n 0, 1, [0], vN), (1, .getfield 10, 3, [7, 0], vN), (4, .getfield 67, 3, [6, 0], vN), (7, .iload_n 1, 1, [1], vN), (8, .invokevirtual 70, 3, [1, 2], vN), (11, .ifCond .ne 5, 3, [8], vN), (14, .iconst (-1), 1, [], vI (-1)), (15, .ireturn, 1, [], vN), (16, .aload_n 0, 1, [0], vN), (17, .getfield 10, 3, [7, 0], vN), (20, .getfield 114, 3, [6, 1], vN), (23, .invokevirtual 127, 3, [8, 4], vN), (26, .ifCond .ne 11, 3, [17], vN), (29, .aload_n 0, 1, [0], vN), (30, .invokevirtual 131, 3, [9, 7], vN), (33, .iconst 5, 1, [], vI 5), (34, .if_icmp .lt 6, 3, [19], vN), (37, .bipush (-4), 2, [], vI (-4)), (39, .ireturn, 1, [], vN), (40, .aload_n 0, 1, [0], vN), (41, .getfield 22, 3, [7, 2], vN), (44, .aload_n 0, 1, [0], vN), (45, .getfield 10, 3, [7, 0], vN), (48, .invokevirtual 78, 3, [3, 3], vN), (51, .aload_n 0, 1, [0], vN), (52, .getfield 10, 3, [7, 0], vN), (55, .getfield 114, 3, [6, 1], vN), (58, .iload_n 1, 1, [1], vN), (59, .invokevirtual 135, 3, [10, 4], vN), (62, .ireturn, 1, [], vN)]
def hX8_open : List (Nat × List Bool) := []
def eX8_open : xE := (8, mX8_open, tX8_open, hX8_open, ceX8)
theorem okX8_open : xEok eX8_open := ⟨by decide +kernel, by decide +kernel, by decide +kernel, ceX8_ok, rfl, by decide +kernel⟩
def tX8_close : List xT := [(0, .aload_n 0, 1, [0], vN), (1, .getfield 10, 3, [7, 0], vN), (4, .getfield 114, 3, [6, 1], vN), (7, .invokevirtual 138, 3, [11, 4], vN), (10, .ifCond .ne 6, 3, [7], vN), (13, .bipush (-3), 2, [], vI (-3)), (15, .ireturn, 1, [], vN), (16, .aload_n 0, 1, [0], vN), (17, .getfield 22, 3, [7, 2], vN), (20, .aload_n 0, 1, [0], vN), (21, .getfield 10, 3, [7, 0], vN), (24, .invokevirtual 78, 3, [3, 3], vN), (27, .aload_n 0, 1, [0], vN), (28, .getfield 10, 3, [7, 0], vN), (31, .getfield 114, 3, [6, 1], vN), (34, .invokevirtual 141, 3, [12, 4], vN), (37, .ireturn, 1, [], vN)]
def hX8_close : List (Nat × List Bool) := []
def eX8_close : xE := (8, mX8_close, tX8_close, hX8_close, ceX8)
theorem okX8_close : xEok eX8_close := ⟨by decide +kernel, by decide +kernel, by decide +kernel, ceX8_ok, rfl, by decide +kernel⟩
def tX8_repeat : List xT := [(0, .aload_n 0, 1, [0], vN), (1, .getfield 10, 3, [7, 0], vN), (4, .getfield 114, 3, [6, 1], vN), (7, .iload_n 1, 1, [1], vN), (8, .invokevirtual 144, 3, [13, 4], vN), (11, .ifCond .ne 5, 3, [8], vN), (14, .iconst (-1), 1, [], vI (-1)), (15, .ireturn, 1, [], vN), (16, .aload_n 0, 1, [0], vN), (17, .getfield 10, 3, [7, 0], vN), (20, .getfield 114, 3, [6, 1], vN), (23, .iload_n 1, 1, [1], vN), (24, .invokevirtual 147, 3, [14, 4], vN), (27, .ifCond .ne 6, 3, [16], vN), (30, .bipush (-3), 2, [], vI (-3)), (32, .ireturn, 1, [], vN), (33, .aload_n 0, 1, [0], vN), (34, .iconst 2, 1, [], vI 2), (35, .aload_n 0, 1, [0], vN), (36, .getfield 10, 3, [7, 0], vN), (39, .getfield 114, 3, [6, 1], vN), (42, .getfield 150, 3, [4, 3], vN), (45, .iload_n 1, 1, [1], vN), (46, .invokevirtual 92, 3, [5, 5], vN), (49, .iload_n 1, 1, [1], vN), (50, .bipush (-6), 2, [], vI (-6)), (52, .bipush (-6), 2, [], vI (-6)), (54, .invokevirtual 123, 3, [7, 7], vN), (57, .ireturn, 1, [], vN)]
def hX8_repeat : List (Nat × List Bool) := []
def eX8_repeat : xE := (8, mX8_repeat, tX8_repeat, hX8_repeat, ceX8)
theorem okX8_repeat : xEok eX8_repeat := ⟨by decide +kernel, by decide +kernel, by decide +kernel, ceX8_ok, rfl, by decide +kernel⟩
def tX8_fromTwo : List xT := [(0, .aload_n 0, 1, [0], vN), (1, .getfield 10, 3, [7, 0], vN), (4, .getfield 114, 3, [6, 1], vN), (7, .iload_n 2, 1, [2], vN), (8, .invokevirtual 144, 3, [13, 4], vN), (11, .ifCond .eq 17, 3, [12], vN), (14, .aload_n 0, 1, [0], vN), (15, .getfield 10, 3, [7, 0], vN), (18, .getfield 114, 3, [6, 1], vN), (21, .iload_n 3, 1, [3], vN), (22, .invokevirtual 144, 3, [13, 4], vN), (25, .ifCond .ne 5, 3, [14], vN), (28, .iconst (-1), 1, [], vI (-1)), (29, .ireturn, 1, [], vN), (30, .iload_n 1, 1, [1], vN), (31, .iconst 3, 1, [], vI 3), (32, .if_icmp .eq 18, 3, [25], vN), (35, .iload_n 1, 1, [1], vN), (36, .bipush 9, 2, [], vI 9), (38, .if_icmp .eq 12, 3, [25], vN), (41, .iload_n 1, 1, [1], vN), (42, .bipush 11, 2, [], vI 11), (44, .if_icmp .eq 6, 3, [25], vN), (47, .bipush (-2), 2, [], vI (-2)), (49, .ireturn, 1, [], vN), (50, .aload_n 0, 1, [0], vN), (51, .getfield 10, 3, [7, 0], vN), (54, .getfield 114, 3, [6, 1], vN), (57, .iload_n 2, 1, [2], vN), (58, .invokevirtual 147, 3, [14, 4], vN), (61, .ifCond .eq 17, 3, [37], vN), (64, .aload_n 0, 1, [0], vN), (65, .getfield 10, 3, [7, 0], vN), (68, .getfield 114, 3, [6, 1], vN), (71, .iload_n 3, 1, [3], vN), (72, .invokevirtual 147, 3, [14, 4], vN), (75, .ifCond .ne 6, 3, [39], vN), (78, .bipush (-3), 2, [], vI (-3)), (80, .ireturn, 1, [], vN), (81, .aload_n 0, 1, [0], vN), (82, .getfield 10, 3, [7, 0], vN), (85, .getfield 114, 3, [6, 1], vN), (88, .getfield 150, 3, [4, 3], vN), (91, .iload_n 2, 1, [2], vN), (92, .invokevirtual 92, 3, [5, 5], vN), (95, .istore 4, 2, [4], vN), (97, .aload_n 0, 1, [0], vN), (98, .getfield 10, 3, [7, 0], vN), (101, .getfield 114, 3, [6, 1], vN), (104, .getfield 150, 3, [4, 3], vN), (107, .iload_n 3, 1, [3], vN), (108, .invokevirtual 92, 3, [5, 5], vN), (111, .istore 5, 2, [5], vN), (113, .iload_n 1, 1, [1], vN), (114, .iconst 3, 1, [], vI 3), (115, .if_icmp .ne 16, 3, [65], vN), (118, .aload_n 0, 1, [0], vN), (119, .iconst 3, 1, [], vI 3), (120, .iconst 3, 1, [], vI 3), (121, .iload 4, 2, [4], vN), (123, .iload 5, 2, [5], vN), (125, .iload_n 2, 1, [2], vN), (126, .iload_n 3, 1, [3], vN), (127, .invokevirtual 153, 3, [15, 7], vN), (130, .ireturn, 1, [], vN), (131, .iload_n 1, 1, [1], vN), (132, .bipush 9, 2, [], vI 9), (134, .if_icmp .ne 7, 3, [70], vN), (137, .iconst 5, 1, [], vI 5), (138, .goto 4, 3, [71], vN), (141, .iconst 2, 1, [], vI 2), (142, .istore 6, 2, [6], vN), (144, .aload_n 0, 1, [0], vN), (145, .getfield 10, 3, [7, 0], vN), (148, .getfield 67, 3, [6, 0], vN), (151, .iload 4, 2, [4], vN), (153, .iload 6, 2, [6], vN), (155, .invokevirtual 157, 3, [16, 2], vN), (158, .ifCond .eq 23, 3, [87], vN), (161, .aload_n 0, 1, [0], vN), (162, .getfield 10, 3, [7, 0], vN), (165, .getfield 67, 3, [6, 0], vN), (168, .getfield 96, 3, [2, 2], vN), (171, .iload 4, 2, [4], vN), (173, .invokevirtual 92, 3, [5, 5], vN), (176, .iload 5, 2, [5], vN), (178, .if_icmp .eq 6, 3, [89], vN), (181, .bipush (-3), 2, [], vI (-3)), (183, .ireturn, 1, [], vN), (184, .iload_n 1, 1, [1], vN), (185, .bipush 9, 2, [], vI 9), (187, .if_icmp .ne 29, 3, [105], vN), (190, .aload_n 0, 1, [0], vN), (191, .bipush 9, 2, [], vI 9), (193, .aload_n 0, 1, [0], vN), (194, .getfield 10, 3, [7, 0], vN), (197, .getfield 67, 3, [6, 0], vN), (200, .getfield 99, 3, [2, 3], vN), (203, .iload 4, 2, [4], vN), (205, .invokevirtual 92, 3, [5, 5], vN), (208, .iload_n 2, 1, [2], vN), (209, .iload_n 3, 1, [3], vN), (210, .bipush (-6), 2, [], vI (-6)), (212, .invokevirtual 123, 3, [7, 7], vN), (215, .ireturn, 1, [], vN), (216, .aload_n 0, 1, [0], vN), (217, .bipush 11, 2, [], vI 11), (219, .iconst 1, 1, [], vI 1), (220, .bipush (-6), 2, [], vI (-6)), (222, .bipush (-6), 2, [], vI (-6)), (224, .iload_n 2, 1, [2], vN), (225, .iload_n 3, 1, [3], vN), (226, .invokevirtual 153, 3, [15, 7], vN), (229, .ireturn, 1, [], vN)]
def hX8_fromTwo : List (Nat × List Bool) := [(50, [true, true, true, true, false, false, false]), (142, [true, true, true, true, true, true, false])]
def eX8_fromTwo : xE := (8, mX8_fromTwo, tX8_fromTwo, hX8_fromTwo, ceX8)
theorem okX8_fromTwo : xEok eX8_fromTwo := ⟨by decide +kernel, by decide +kernel, by decide +kernel, ceX8_ok, rfl, by decide +kernel⟩
def tX8_fromOne : List xT := [(0, .aload_n 0, 1, [0], vN), (1, .getfield 10, 3, [7, 0], vN), (4, .getfield 114, 3, [6, 1], vN), (7, .iload_n 2, 1, [2], vN), (8, .invokevirtual 144, 3, [13, 4], vN), (11, .ifCond .ne 5, 3, [8], vN), (14, .iconst (-1), 1, [], vI (-1)), (15, .ireturn, 1, [], vN), (16, .iload_n 1, 1, [1], vN), (17, .iconst 4, 1, [], vI 4), (18, .if_icmp .eq 17, 3, [19], vN), (21, .iload_n 1, 1, [1], vN), (22, .iconst 5, 1, [], vI 5), (23, .if_icmp .eq 12, 3, [19], vN), (26, .iload_n 1, 1, [1], vN), (27, .bipush 13, 2, [], vI 13), (29, .if_icmp .eq 6, 3, [19], vN), (32, .bipush (-2), 2, [], vI (-2)), (34, .ireturn, 1, [], vN), (35, .aload_n 0, 1, [0], vN), (36, .getfield 10, 3, [7, 0], vN), (39, .getfield 114, 3, [6, 1], vN), (42, .iload_n 2, 1, [2], vN), (43, .invokevirtual 147, 3, [14, 4], vN), (46, .ifCond .ne 6, 3, [27], vN), (49, .bipush (-3), 2, [], vI (-3)), (51, .ireturn, 1, [], vN), (52, .aload_n 0, 1, [0], vN), (53, .getfield 10, 3, [7, 0], vN), (56, .getfield 67, 3, [6, 0], vN), (59, .iload_n 1, 1, [1], vN), (60, .aload_n 0, 1, [0], vN), (61, .getfield 10, 3, [7, 0], vN), (64, .getfield 114, 3, [6, 1], vN), (67, .getfield 150, 3, [4, 3], vN), (70, .iload_n 2, 1, [2], vN), (71, .invokevirtual 92, 3, [5, 5], vN), (74, .invokevirtual 161, 3, [17, 2], vN), (77, .istore_n 3, 1, [3], vN), (78, .iload_n 3, 1, [3], vN), (79, .bipush (-6), 2, [], vI (-6)), (81, .if_icmp .ne 6, 3, [44], vN), (84, .bipush (-3), 2, [], vI (-3)), (86, .ireturn, 1, [], vN), (87, .aload_n 0, 1, [0], vN), (88, .iload_n 1, 1, [1], vN), (89, .iload_n 3, 1, [3], vN), (90, .iload_n 2, 1, [2], vN), (91, .bipush (-6), 2, [], vI (-6)), (93, .bipush (-6), 2, [], vI (-6)), (95, .invokevirtual 123, 3, [7, 7], vN), (98, .ireturn, 1, [], vN)]
def hX8_fromOne : List (Nat × List Bool) := [(35, [true, true, true, false])]
def eX8_fromOne : xE := (8, mX8_fromOne, tX8_fromOne, hX8_fromOne, ceX8)
theorem okX8_fromOne : xEok eX8_fromOne := ⟨by decide +kernel, by decide +kernel, by decide +kernel, ceX8_ok, rfl, by decide +kernel⟩
def tX8_toFormula : List xT := [(0, .aload_n 0, 1, [0], vN), (1, .getfield 10, 3, [7, 0], vN), (4, .getfield 114, 3, [6, 1], vN), (7, .iload_n 2, 1, [2], vN), (8, .invokevirtual 144, 3, [13, 4], vN), (11, .ifCond .eq 17, 3, [12], vN), (14, .aload_n 0, 1, [0], vN), (15, .getfield 10, 3, [7, 0], vN), (18, .getfield 67, 3, [6, 0], vN), (21, .iload_n 3, 1, [3], vN), (22, .invokevirtual 70, 3, [1, 2], vN), (25, .ifCond .ne 5, 3, [14], vN), (28, .iconst (-1), 1, [], vI (-1)), (29, .ireturn, 1, [], vN), (30, .iload_n 1, 1, [1], vN), (31, .bipush 6, 2, [], vI 6), (33, .if_icmp .eq 12, 3, [22], vN), (36, .iload_n 1, 1, [1], vN), (37, .bipush 12, 2, [], vI 12), (39, .if_icmp .eq 6, 3, [22], vN), (42, .bipush (-2), 2, [], vI (-2)), (44, .ireturn, 1, [], vN), (45, .aload_n 0, 1, [0], vN), (46, .getfield 10, 3, [7, 0], vN), (49, .getfield 114, 3, [6, 1], vN), (52, .iload_n 2, 1, [2], vN), (53, .invokevirtual 147, 3, [14, 4], vN), (56, .ifCond .ne 6, 3, [30], vN), (59, .bipush (-3), 2, [], vI (-3)), (61, .ireturn, 1, [], vN), (62, .aload_n 0, 1, [0], vN), (63, .getfield 10, 3, [7, 0], vN), (66, .getfield 114, 3, [6, 1], vN), (69, .getfield 150, 3, [4, 3], vN), (72, .iload_n 2, 1, [2], vN), (73, .invokevirtual 92, 3, [5, 5], vN), (76, .istore 4, 2, [4], vN), (78, .iload_n 1, 1, [1], vN), (79, .bipush 6, 2, [], vI 6), (81, .if_icmp .ne 19, 3, [47], vN), (84, .aload_n 0, 1, [0], vN), (85, .getfield 10, 3, [7, 0], vN), (88, .getfield 67, 3, [6, 0], vN), (91, .iload 4, 2, [4], vN), (93, .iload_n 3, 1, [3], vN), (94, .invokevirtual 165, 3, [18, 2], vN), (97, .goto 16, 3, [53], vN), (100, .aload_n 0, 1, [0], vN), (101, .getfield 10, 3, [7, 0], vN), (104, .getfield 67, 3, [6, 0], vN), (107, .iload 4, 2, [4], vN), (109, .iconst 1, 1, [], vI 1), (110, .invokevirtual 157, 3, [16, 2], vN), (113, .istore 5, 2, [5], vN), (115, .iload 5, 2, [5], vN), (117, .ifCond .ne 6, 3, [58], vN), (120, .bipush (-3), 2, [], vI (-3)), (122, .ireturn, 1, [], vN), (123, .aload_n 0, 1, [0], vN), (124, .iload_n 1, 1, [1], vN), (125, .iload_n 3, 1, [3], vN), (126, .iload_n 2, 1, [2], vN), (127, .bipush (-6), 2, [], vI (-6)), (129, .bipush (-6), 2, [], vI (-6)), (131, .invokevirtual 123, 3, [7, 7], vN), (134, .ireturn, 1, [], vN)]
def hX8_toFormula : List (Nat × List Bool) := [(45, [true, true, true, true, false, false]), (113, [true, true, true, true, false, false])]
def eX8_toFormula : xE := (8, mX8_toFormula, tX8_toFormula, hX8_toFormula, ceX8)
theorem okX8_toFormula : xEok eX8_toFormula := ⟨by decide +kernel, by decide +kernel, by decide +kernel, ceX8_ok, rfl, by decide +kernel⟩
def tX8_fromBox : List xT := [(0, .aload_n 0, 1, [0], vN), (1, .getfield 10, 3, [7, 0], vN), (4, .getfield 114, 3, [6, 1], vN), (7, .iload_n 2, 1, [2], vN), (8, .invokevirtual 168, 3, [19, 4], vN), (11, .ifCond .ne 5, 3, [8], vN), (14, .iconst (-1), 1, [], vI (-1)), (15, .ireturn, 1, [], vN), (16, .iload_n 1, 1, [1], vN), (17, .bipush 8, 2, [], vI 8), (19, .if_icmp .eq 12, 3, [16], vN), (22, .iload_n 1, 1, [1], vN), (23, .bipush 10, 2, [], vI 10), (25, .if_icmp .eq 6, 3, [16], vN), (28, .bipush (-2), 2, [], vI (-2)), (30, .ireturn, 1, [], vN), (31, .aload_n 0, 1, [0], vN), (32, .getfield 10, 3, [7, 0], vN), (35, .getfield 114, 3, [6, 1], vN), (38, .iload_n 2, 1, [2], vN), (39, .invokevirtual 171, 3, [20, 4], vN), (42, .ifCond .ne 6, 3, [24], vN), (45, .bipush (-3), 2, [], vI (-3)), (47, .ireturn, 1, [], vN), (48, .aload_n 0, 1, [0], vN), (49, .getfield 10, 3, [7, 0], vN), (52, .getfield 114, 3, [6, 1], vN), (55, .iload_n 2, 1, [2], vN), (56, .invokevirtual 174, 3, [21, 4], vN), (59, .istore_n 3, 1, [3], vN), (60, .aload_n 0, 1, [0], vN), (61, .getfield 10, 3, [7, 0], vN), (64, .getfield 114, 3, [6, 1], vN), (67, .iload_n 2, 1, [2], vN), (68, .invokevirtual 177, 3, [22, 4], vN), (71, .istore 4, 2, [4], vN), (73, .iload_n 1, 1, [1], vN), (74, .bipush 8, 2, [], vI 8), (76, .if_icmp .ne 17, 3, [48], vN), (79, .aload_n 0, 1, [0], vN), (80, .bipush 8, 2, [], vI 8), (82, .iconst 5, 1, [], vI 5), (83, .iload_n 3, 1, [3], vN), (84, .iload 4, 2, [4], vN), (86, .iload_n 2, 1, [2], vN), (87, .bipush (-6), 2, [], vI (-6)), (89, .invokevirtual 153, 3, [15, 7], vN), (92, .ireturn, 1, [], vN), (93, .aload_n 0, 1, [0], vN), (94, .getfield 10, 3, [7, 0], vN), (97, .getfield 67, 3, [6, 0], vN), (100, .iload 4, 2, [4], vN), (102, .iconst 1, 1, [], vI 1), (103, .invokevirtual 157, 3, [16, 2], vN), (106, .ifCond .ne 6, 3, [57], vN), (109, .bipush (-3), 2, [], vI (-3)), (111, .ireturn, 1, [], vN), (112, .aload_n 0, 1, [0], vN), (113, .bipush 10, 2, [], vI 10), (115, .iconst 2, 1, [], vI 2), (116, .iload_n 3, 1, [3], vN), (117, .bipush (-6), 2, [], vI (-6)), (119, .iload_n 2, 1, [2], vN), (120, .bipush (-6), 2, [], vI (-6)), (122, .invokevirtual 153, 3, [15, 7], vN), (125, .ireturn, 1, [], vN)]
def hX8_fromBox : List (Nat × List Bool) := [(31, [true, true, true, false, false])]
def eX8_fromBox : xE := (8, mX8_fromBox, tX8_fromBox, hX8_fromBox, ceX8)
theorem okX8_fromBox : xEok eX8_fromBox := ⟨by decide +kernel, by decide +kernel, by decide +kernel, ceX8_ok, rfl, by decide +kernel⟩
def tX8_cases : List xT := [(0, .aload_n 0, 1, [0], vN), (1, .getfield 10, 3, [7, 0], vN), (4, .getfield 114, 3, [6, 1], vN), (7, .iload_n 1, 1, [1], vN), (8, .invokevirtual 144, 3, [13, 4], vN), (11, .ifCond .eq 31, 3, [18], vN), (14, .aload_n 0, 1, [0], vN), (15, .getfield 10, 3, [7, 0], vN), (18, .getfield 114, 3, [6, 1], vN), (21, .iload_n 2, 1, [2], vN), (22, .invokevirtual 168, 3, [19, 4], vN), (25, .ifCond .eq 17, 3, [18], vN), (28, .aload_n 0, 1, [0], vN), (29, .getfield 10, 3, [7, 0], vN), (32, .getfield 114, 3, [6, 1], vN), (35, .iload_n 3, 1, [3], vN), (36, .invokevirtual 168, 3, [19, 4], vN), (39, .ifCond .ne 5, 3, [20], vN), (42, .iconst (-1), 1, [], vI (-1)), (43, .ireturn, 1, [], vN), (44, .aload_n 0, 1, [0], vN), (45, .getfield 10, 3, [7, 0], vN), (48, .getfield 114, 3, [6, 1], vN), (51, .iload_n 1, 1, [1], vN), (52, .invokevirtual 147, 3, [14, 4], vN), (55, .ifCond .eq 31, 3, [38], vN), (58, .aload_n 0, 1, [0], vN), (59, .getfield 10, 3, [7, 0], vN), (62, .getfield 114, 3, [6, 1], vN), (65, .iload_n 2, 1, [2], vN), (66, .invokevirtual 171, 3, [20, 4], vN), (69, .ifCond .eq 17, 3, [38], vN), (72, .aload_n 0, 1, [0], vN), (73, .getfield 10, 3, [7, 0], vN), (76, .getfield 114, 3, [6, 1], vN), (79, .iload_n 3, 1, [3], vN), (80, .invokevirtual 171, 3, [20, 4], vN), (83, .ifCond .ne 6, 3, [40], vN), (86, .bipush (-3), 2, [], vI (-3)), (88, .ireturn, 1, [], vN), (89, .aload_n 0, 1, [0], vN), (90, .getfield 10, 3, [7, 0], vN), (93, .getfield 114, 3, [6, 1], vN), (96, .getfield 150, 3, [4, 3], vN), (99, .iload_n 1, 1, [1], vN), (100, .invokevirtual 92, 3, [5, 5], vN), (103, .istore 4, 2, [4], vN), (105, .aload_n 0, 1, [0], vN), (106, .getfield 10, 3, [7, 0], vN), (109, .getfield 114, 3, [6, 1], vN), (112, .iload_n 2, 1, [2], vN), (113, .invokevirtual 177, 3, [22, 4], vN), (116, .istore 5, 2, [5], vN), (118, .aload_n 0, 1, [0], vN), (119, .getfield 10, 3, [7, 0], vN), (122, .getfield 67, 3, [6, 0], vN), (125, .iload 4, 2, [4], vN), (127, .iconst 4, 1, [], vI 4), (128, .invokevirtual 157, 3, [16, 2], vN), (131, .ifCond .eq 81, 3, [93], vN), (134, .aload_n 0, 1, [0], vN), (135, .getfield 10, 3, [7, 0], vN), (138, .getfield 67, 3, [6, 0], vN), (141, .getfield 96, 3, [2, 2], vN), (144, .iload 4, 2, [4], vN), (146, .invokevirtual 92, 3, [5, 5], vN), (149, .aload_n 0, 1, [0], vN), (150, .getfield 10, 3, [7, 0], vN), (153, .getfield 114, 3, [6, 1], vN), (156, .iload_n 2, 1, [2], vN), (157, .invokevirtual 174, 3, [21, 4], vN), (160, .if_icmp .ne 52, 3, [93], vN), (163, .aload_n 0, 1, [0], vN), (164, .getfield 10, 3, [7, 0], vN), (167, .getfield 67, 3, [6, 0], vN), (170, .getfield 99, 3, [2, 3], vN), (173, .iload 4, 2, [4], vN), (175, .invokevirtual 92, 3, [5, 5], vN), (178, .aload_n 0, 1, [0], vN), (179, .getfield 10, 3, [7, 0], vN), (182, .getfield 114, 3, [6, 1], vN), (185, .iload_n 3, 1, [3], vN), (186, .invokevirtual 174, 3, [21, 4], vN), (189, .if_icmp .ne 23, 3, [93], vN), (192, .iload 5, 2, [5], vN), (194, .aload_n 0, 1, [0], vN), (195, .getfield 10, 3, [7, 0], vN), (198, .getfield 114, 3, [6, 1], vN), (201, .iload_n 3, 1, [3], vN), (202, .invokevirtual 177, 3, [22, 4], vN), (205, .if_icmp .ne 7, 3, [93], vN), (208, .iconst 1, 1, [], vI 1), (209, .goto 4, 3, [94], vN), (212, .iconst 0, 1, [], vI 0), (213, .istore 6, 2, [6], vN), (215, .iload 6, 2, [6], vN), (217, .ifCond .ne 6, 3, [99], vN), (220, .bipush (-3), 2, [], vI (-3)), (222, .ireturn, 1, [], vN), (223, .aload_n 0, 1, [0], vN), (224, .bipush 7, 2, [], vI 7), (226, .iload 5, 2, [5], vN), (228, .iload_n 1, 1, [1], vN), (229, .iload_n 2, 1, [2], vN), (230, .iload_n 3, 1, [3], vN), (231, .invokevirtual 123, 3, [7, 7], vN), (234, .ireturn, 1, [], vN)]
def hX8_cases : List (Nat × List Bool) := [(212, [true, true, true, true, false, true, false]), (213, [true, true, true, true, false, true, false])]
def eX8_cases : xE := (8, mX8_cases, tX8_cases, hX8_cases, ceX8)
theorem okX8_cases : xEok eX8_cases := ⟨by decide +kernel, by decide +kernel, by decide +kernel, ceX8_ok, rfl, by decide +kernel⟩
def tX8_write : List xT := [(0, .aload_n 0, 1, [0], vN), (1, .getfield 10, 3, [7, 0], vN), (4, .getfield 114, 3, [6, 1], vN), (7, .invokevirtual 127, 3, [8, 4], vN), (10, .ifCond .eq 6, 3, [7], vN), (13, .bipush (-4), 2, [], vI (-4)), (15, .ireturn, 1, [], vN), (16, .aload_n 0, 1, [0], vN), (17, .getfield 22, 3, [7, 2], vN), (20, .aload_n 0, 1, [0], vN), (21, .getfield 10, 3, [7, 0], vN), (24, .invokevirtual 78, 3, [3, 3], vN), (27, .aload_n 0, 1, [0], vN), (28, .getfield 10, 3, [7, 0], vN), (31, .getfield 114, 3, [6, 1], vN), (34, .iload_n 1, 1, [1], vN), (35, .iload_n 2, 1, [2], vN), (36, .iload_n 3, 1, [3], vN), (37, .iload 4, 2, [4], vN), (39, .iload 5, 2, [5], vN), (41, .invokevirtual 180, 3, [23, 4], vN), (44, .ireturn, 1, [], vN)]
def hX8_write : List (Nat × List Bool) := []
def eX8_write : xE := (8, mX8_write, tX8_write, hX8_write, ceX8)
theorem okX8_write : xEok eX8_write := ⟨by decide +kernel, by decide +kernel, by decide +kernel, ceX8_ok, rfl, by decide +kernel⟩
def tX8_writeMade : List xT := [(0, .aload_n 0, 1, [0], vN), (1, .getfield 10, 3, [7, 0], vN), (4, .getfield 114, 3, [6, 1], vN), (7, .invokevirtual 127, 3, [8, 4], vN), (10, .ifCond .ne 20, 3, [13], vN), (13, .aload_n 0, 1, [0], vN), (14, .getfield 10, 3, [7, 0], vN), (17, .getfield 67, 3, [6, 0], vN), (20, .iload_n 2, 1, [2], vN), (21, .iload_n 3, 1, [3], vN), (22, .iload 4, 2, [4], vN), (24, .invokevirtual 74, 3, [2, 2], vN), (27, .ifCond .ne 6, 3, [15], vN), (30, .bipush (-4), 2, [], vI (-4)), (32, .ireturn, 1, [], vN), (33, .aload_n 0, 1, [0], vN), (34, .getfield 22, 3, [7, 2], vN), (37, .aload_n 0, 1, [0], vN), (38, .getfield 10, 3, [7, 0], vN), (41, .invokevirtual 78, 3, [3, 3], vN), (44, .aload_n 0, 1, [0], vN), (45, .getfield 10, 3, [7, 0], vN), (48, .getfield 67, 3, [6, 0], vN), (51, .iload_n 2, 1, [2], vN), (52, .iload_n 3, 1, [3], vN), (53, .iload 4, 2, [4], vN), (55, .invokevirtual 82, 3, [4, 2], vN), (58, .istore 7, 2, [7], vN), (60, .aload_n 0, 1, [0], vN), (61, .getfield 10, 3, [7, 0], vN), (64, .getfield 114, 3, [6, 1], vN), (67, .iload_n 1, 1, [1], vN), (68, .iload 7, 2, [7], vN), (70, .iload 5, 2, [5], vN), (72, .iload 6, 2, [6], vN), (74, .bipush (-6), 2, [], vI (-6)), (76, .invokevirtual 180, 3, [23, 4], vN), (79, .ireturn, 1, [], vN)]
def hX8_writeMade : List (Nat × List Bool) := []
def eX8_writeMade : xE := (8, mX8_writeMade, tX8_writeMade, hX8_writeMade, ceX8)
theorem okX8_writeMade : xEok eX8_writeMade := ⟨by decide +kernel, by decide +kernel, by decide +kernel, ceX8_ok, rfl, by decide +kernel⟩
def tX8_lines : List xT := [(0, .aload_n 0, 1, [0], vN), (1, .getfield 10, 3, [7, 0], vN), (4, .getfield 114, 3, [6, 1], vN), (7, .getfield 183, 3, [4, 0], vN), (10, .ireturn, 1, [], vN)]
def hX8_lines : List (Nat × List Bool) := []
def eX8_lines : xE := (8, mX8_lines, tX8_lines, hX8_lines, ceX8)
theorem okX8_lines : xEok eX8_lines := ⟨by decide +kernel, by decide +kernel, by decide +kernel, ceX8_ok, rfl, by decide +kernel⟩
def tX8_line : List xT := [(0, .aload_n 0, 1, [0], vN), (1, .getfield 10, 3, [7, 0], vN), (4, .getfield 114, 3, [6, 1], vN), (7, .iload_n 1, 1, [1], vN), (8, .invokevirtual 144, 3, [13, 4], vN), (11, .ifCond .ne 5, 3, [8], vN), (14, .iconst (-1), 1, [], vI (-1)), (15, .ireturn, 1, [], vN), (16, .iload_n 2, 1, [2], vN), (17, .tableswitch 141 0 5 #[39, 54, 69, 84, 109, 129], 39, [58, 10, 17, 24, 31, 42, 52], vN), (56, .aload_n 0, 1, [0], vN), (57, .getfield 10, 3, [7, 0], vN), (60, .getfield 114, 3, [6, 1], vN), (63, .getfield 150, 3, [4, 3], vN), (66, .iload_n 1, 1, [1], vN), (67, .invokevirtual 92, 3, [5, 5], vN), (70, .ireturn, 1, [], vN), (71, .aload_n 0, 1, [0], vN), (72, .getfield 10, 3, [7, 0], vN), (75, .getfield 114, 3, [6, 1], vN), (78, .getfield 186, 3, [4, 4], vN), (81, .iload_n 1, 1, [1], vN), (82, .invokevirtual 92, 3, [5, 5], vN), (85, .ireturn, 1, [], vN), (86, .aload_n 0, 1, [0], vN), (87, .getfield 10, 3, [7, 0], vN), (90, .getfield 114, 3, [6, 1], vN), (93, .getfield 189, 3, [4, 5], vN), (96, .iload_n 1, 1, [1], vN), (97, .invokevirtual 92, 3, [5, 5], vN), (100, .ireturn, 1, [], vN), (101, .aload_n 0, 1, [0], vN), (102, .getfield 10, 3, [7, 0], vN), (105, .getfield 114, 3, [6, 1], vN), (108, .aload_n 0, 1, [0], vN), (109, .getfield 10, 3, [7, 0], vN), (112, .getfield 114, 3, [6, 1], vN), (115, .getfield 189, 3, [4, 5], vN), (118, .iload_n 1, 1, [1], vN), (119, .invokevirtual 92, 3, [5, 5], vN), (122, .invokevirtual 192, 3, [24, 4], vN), (125, .ireturn, 1, [], vN), (126, .aload_n 0, 1, [0], vN), (127, .getfield 10, 3, [7, 0], vN), (130, .getfield 114, 3, [6, 1], vN), (133, .iload_n 1, 1, [1], vN), (134, .invokevirtual 147, 3, [14, 4], vN), (137, .ifCond .eq 7, 3, [50], vN), (140, .iconst 1, 1, [], vI 1), (141, .goto 4, 3, [51], vN), (144, .iconst 0, 1, [], vI 0), (145, .ireturn, 1, [], vN), (146, .aload_n 0, 1, [0], vN), (147, .getfield 10, 3, [7, 0], vN), (150, .getfield 114, 3, [6, 1], vN), (153, .iload_n 1, 1, [1], vN), (154, .invokevirtual 195, 3, [25, 4], vN), (157, .ireturn, 1, [], vN), (158, .bipush (-2), 2, [], vI (-2)), (160, .ireturn, 1, [], vN)]
def hX8_line : List (Nat × List Bool) := []
def eX8_line : xE := (8, mX8_line, tX8_line, hX8_line, ceX8)
theorem okX8_line : xEok eX8_line := ⟨by decide +kernel, by decide +kernel, by decide +kernel, ceX8_ok, rfl, by decide +kernel⟩
def tX8_reference : List xT := [(0, .aload_n 0, 1, [0], vN), (1, .getfield 10, 3, [7, 0], vN), (4, .getfield 114, 3, [6, 1], vN), (7, .iload_n 1, 1, [1], vN), (8, .invokevirtual 144, 3, [13, 4], vN), (11, .ifCond .ne 5, 3, [8], vN), (14, .iconst (-1), 1, [], vI (-1)), (15, .ireturn, 1, [], vN), (16, .aload_n 0, 1, [0], vN), (17, .getfield 10, 3, [7, 0], vN), (20, .getfield 114, 3, [6, 1], vN), (23, .iload_n 1, 1, [1], vN), (24, .iload_n 2, 1, [2], vN), (25, .invokevirtual 198, 3, [26, 4], vN), (28, .istore_n 3, 1, [3], vN), (29, .iload_n 3, 1, [3], vN), (30, .bipush (-6), 2, [], vI (-6)), (32, .if_icmp .ne 7, 3, [20], vN), (35, .iconst (-1), 1, [], vI (-1)), (36, .goto 4, 3, [21], vN), (39, .iload_n 3, 1, [3], vN), (40, .ireturn, 1, [], vN)]
def hX8_reference : List (Nat × List Bool) := []
def eX8_reference : xE := (8, mX8_reference, tX8_reference, hX8_reference, ceX8)
theorem okX8_reference : xEok eX8_reference := ⟨by decide +kernel, by decide +kernel, by decide +kernel, ceX8_ok, rfl, by decide +kernel⟩
def tX8_boxes : List xT := [(0, .aload_n 0, 1, [0], vN), (1, .getfield 10, 3, [7, 0], vN), (4, .getfield 114, 3, [6, 1], vN), (7, .getfield 201, 3, [4, 1], vN), (10, .ireturn, 1, [], vN)]
def hX8_boxes : List (Nat × List Bool) := []
def eX8_boxes : xE := (8, mX8_boxes, tX8_boxes, hX8_boxes, ceX8)
theorem okX8_boxes : xEok eX8_boxes := ⟨by decide +kernel, by decide +kernel, by decide +kernel, ceX8_ok, rfl, by decide +kernel⟩
def tX8_box : List xT := [(0, .aload_n 0, 1, [0], vN), (1, .getfield 10, 3, [7, 0], vN), (4, .getfield 114, 3, [6, 1], vN), (7, .iload_n 1, 1, [1], vN), (8, .invokevirtual 168, 3, [19, 4], vN), (11, .ifCond .ne 5, 3, [8], vN), (14, .iconst (-1), 1, [], vI (-1)), (15, .ireturn, 1, [], vN), (16, .iload_n 2, 1, [2], vN), (17, .tableswitch 96 0 3 #[31, 46, 61, 76], 31, [41, 10, 17, 24, 31], vN), (48, .aload_n 0, 1, [0], vN), (49, .getfield 10, 3, [7, 0], vN), (52, .getfield 114, 3, [6, 1], vN), (55, .getfield 204, 3, [4, 9], vN), (58, .iload_n 1, 1, [1], vN), (59, .invokevirtual 92, 3, [5, 5], vN), (62, .ireturn, 1, [], vN), (63, .aload_n 0, 1, [0], vN), (64, .getfield 10, 3, [7, 0], vN), (67, .getfield 114, 3, [6, 1], vN), (70, .getfield 207, 3, [4, 10], vN), (73, .iload_n 1, 1, [1], vN), (74, .invokevirtual 92, 3, [5, 5], vN), (77, .ireturn, 1, [], vN), (78, .aload_n 0, 1, [0], vN), (79, .getfield 10, 3, [7, 0], vN), (82, .getfield 114, 3, [6, 1], vN), (85, .getfield 210, 3, [4, 11], vN), (88, .iload_n 1, 1, [1], vN), (89, .invokevirtual 92, 3, [5, 5], vN), (92, .ireturn, 1, [], vN), (93, .aload_n 0, 1, [0], vN), (94, .getfield 10, 3, [7, 0], vN), (97, .getfield 114, 3, [6, 1], vN), (100, .iload_n 1, 1, [1], vN), (101, .invokevirtual 171, 3, [20, 4], vN), (104, .ifCond .eq 7, 3, [39], vN), (107, .iconst 1, 1, [], vI 1), (108, .goto 4, 3, [40], vN), (111, .iconst 0, 1, [], vI 0), (112, .ireturn, 1, [], vN), (113, .bipush (-2), 2, [], vI (-2)), (115, .ireturn, 1, [], vN)]
def hX8_box : List (Nat × List Bool) := []
def eX8_box : xE := (8, mX8_box, tX8_box, hX8_box, ceX8)
theorem okX8_box : xEok eX8_box := ⟨by decide +kernel, by decide +kernel, by decide +kernel, ceX8_ok, rfl, by decide +kernel⟩
def tX8_depth : List xT := [(0, .aload_n 0, 1, [0], vN), (1, .getfield 10, 3, [7, 0], vN), (4, .getfield 114, 3, [6, 1], vN), (7, .aload_n 0, 1, [0], vN), (8, .getfield 10, 3, [7, 0], vN), (11, .getfield 114, 3, [6, 1], vN), (14, .getfield 118, 3, [4, 2], vN), (17, .invokevirtual 192, 3, [24, 4], vN), (20, .ireturn, 1, [], vN)]
def hX8_depth : List (Nat × List Bool) := []
def eX8_depth : xE := (8, mX8_depth, tX8_depth, hX8_depth, ceX8)
theorem okX8_depth : xEok eX8_depth := ⟨by decide +kernel, by decide +kernel, by decide +kernel, ceX8_ok, rfl, by decide +kernel⟩
def tX8_needs : List xT := [(0, .aload_n 0, 1, [0], vN), (1, .getfield 10, 3, [7, 0], vN), (4, .getfield 114, 3, [6, 1], vN), (7, .iload_n 1, 1, [1], vN), (8, .invokevirtual 144, 3, [13, 4], vN), (11, .ifCond .ne 7, 3, [8], vN), (14, .ldc2_w 213, 3, [], vL (-1)), (17, .lreturn, 1, [], vN), (18, .aload_n 0, 1, [0], vN), (19, .getfield 10, 3, [7, 0], vN), (22, .getfield 114, 3, [6, 1], vN), (25, .iload_n 1, 1, [1], vN), (26, .invokevirtual 215, 3, [27, 4], vN), (29, .lreturn, 1, [], vN)]
def hX8_needs : List (Nat × List Bool) := []
def eX8_needs : xE := (8, mX8_needs, tX8_needs, hX8_needs, ceX8)
theorem okX8_needs : xEok eX8_needs := ⟨by decide +kernel, by decide +kernel, by decide +kernel, ceX8_ok, rfl, by decide +kernel⟩
def tX8_bypass : List xT := [(0, .aload_n 0, 1, [0], vN), (1, .getfield 10, 3, [7, 0], vN), (4, .getfield 114, 3, [6, 1], vN), (7, .iload_n 1, 1, [1], vN), (8, .invokevirtual 144, 3, [13, 4], vN), (11, .ifCond .ne 5, 3, [8], vN), (14, .iconst (-1), 1, [], vI (-1)), (15, .ireturn, 1, [], vN), (16, .aload_n 0, 1, [0], vN), (17, .getfield 10, 3, [7, 0], vN), (20, .getfield 114, 3, [6, 1], vN), (23, .iload_n 1, 1, [1], vN), (24, .invokevirtual 219, 3, [28, 4], vN), (27, .ireturn, 1, [], vN)]
def hX8_bypass : List (Nat × List Bool) := []
def eX8_bypass : xE := (8, mX8_bypass, tX8_bypass, hX8_bypass, ceX8)
theorem okX8_bypass : xEok eX8_bypass := ⟨by decide +kernel, by decide +kernel, by decide +kernel, ceX8_ok, rfl, by decide +kernel⟩
def tX8_detours : List xT := [(0, .aload_n 0, 1, [0], vN), (1, .getfield 10, 3, [7, 0], vN), (4, .getfield 114, 3, [6, 1], vN), (7, .invokevirtual 222, 3, [29, 4], vN), (10, .ireturn, 1, [], vN)]
def hX8_detours : List (Nat × List Bool) := []
def eX8_detours : xE := (8, mX8_detours, tX8_detours, hX8_detours, ceX8)
theorem okX8_detours : xEok eX8_detours := ⟨by decide +kernel, by decide +kernel, by decide +kernel, ceX8_ok, rfl, by decide +kernel⟩
def tX8_failure : List xT := [(0, .aload_n 0, 1, [0], vN), (1, .getfield 10, 3, [7, 0], vN), (4, .getfield 114, 3, [6, 1], vN), (7, .iload_n 1, 1, [1], vN), (8, .invokevirtual 144, 3, [13, 4], vN), (11, .ifCond .ne 5, 3, [8], vN), (14, .iconst (-1), 1, [], vI (-1)), (15, .ireturn, 1, [], vN), (16, .aload_n 0, 1, [0], vN), (17, .aload_n 0, 1, [0], vN), (18, .getfield 10, 3, [7, 0], vN), (21, .getfield 114, 3, [6, 1], vN), (24, .getfield 189, 3, [4, 5], vN), (27, .iload_n 1, 1, [1], vN), (28, .invokevirtual 92, 3, [5, 5], vN), (31, .aload_n 0, 1, [0], vN), (32, .getfield 10, 3, [7, 0], vN), (35, .getfield 114, 3, [6, 1], vN), (38, .getfield 150, 3, [4, 3], vN), (41, .iload_n 1, 1, [1], vN), (42, .invokevirtual 92, 3, [5, 5], vN), (45, .invokevirtual 225, 3, [30, 7], vN), (48, .ireturn, 1, [], vN)]
def hX8_failure : List (Nat × List Bool) := []
def eX8_failure : xE := (8, mX8_failure, tX8_failure, hX8_failure, ceX8)
theorem okX8_failure : xEok eX8_failure := ⟨by decide +kernel, by decide +kernel, by decide +kernel, ceX8_ok, rfl, by decide +kernel⟩
def tX8_counterexample : List xT := [(0, .aload_n 0, 1, [0], vN), (1, .getfield 10, 3, [7, 0], vN), (4, .getfield 67, 3, [6, 0], vN), (7, .iload_n 1, 1, [1], vN), (8, .invokevirtual 70, 3, [1, 2], vN), (11, .ifCond .ne 5, 3, [8], vN), (14, .iconst (-1), 1, [], vI (-1)), (15, .ireturn, 1, [], vN), (16, .aload_n 0, 1, [0], vN), (17, .aload_n 0, 1, [0], vN), (18, .getfield 10, 3, [7, 0], vN), (21, .getfield 114, 3, [6, 1], vN), (24, .getfield 118, 3, [4, 2], vN), (27, .iload_n 1, 1, [1], vN), (28, .invokevirtual 225, 3, [30, 7], vN), (31, .ireturn, 1, [], vN)]
def hX8_counterexample : List (Nat × List Bool) := []
def eX8_counterexample : xE := (8, mX8_counterexample, tX8_counterexample, hX8_counterexample, ceX8)
theorem okX8_counterexample : xEok eX8_counterexample := ⟨by decide +kernel, by decide +kernel, by decide +kernel, ceX8_ok, rfl, by decide +kernel⟩
def tX8_lowestFailure : List xT := [(0, .iconst 0, 1, [], vI 0), (1, .istore_n 3, 1, [3], vN), (2, .iload_n 3, 1, [3], vN), (3, .bipush 8, 2, [], vI 8), (5, .if_icmp .ge 68, 3, [38], vN), (8, .aload_n 0, 1, [0], vN), (9, .getfield 10, 3, [7, 0], vN), (12, .getfield 67, 3, [6, 0], vN), (15, .iload_n 3, 1, [3], vN), (16, .aload_n 0, 1, [0], vN), (17, .getfield 56, 3, [7, 7], vN), (20, .invokevirtual 110, 3, [6, 2], vN), (23, .aload_n 0, 1, [0], vN), (24, .getfield 10, 3, [7, 0], vN), (27, .getfield 114, 3, [6, 1], vN), (30, .iload_n 1, 1, [1], vN), (31, .aload_n 0, 1, [0], vN), (32, .getfield 56, 3, [7, 7], vN), (35, .invokevirtual 228, 3, [31, 4], vN), (38, .aload_n 0, 1, [0], vN), (39, .getfield 56, 3, [7, 7], vN), (42, .iload_n 2, 1, [2], vN), (43, .invokevirtual 92, 3, [5, 5], vN), (46, .iconst (-1), 1, [], vI (-1)), (47, .ixor, 1, [], vN), (48, .iand, 1, [], vN), (49, .istore 4, 2, [4], vN), (51, .iload 4, 2, [4], vN), (53, .ifCond .eq 14, 3, [36], vN), (56, .iload_n 3, 1, [3], vN), (57, .bipush 32, 2, [], vI 32), (59, .imul, 1, [], vN), (60, .iload 4, 2, [4], vN), (62, .invokestatic 232, 3, [0, 0], vN), (65, .iadd, 1, [], vN), (66, .ireturn, 1, [], vN), (67, .iinc 3 1, 3, [3], vI 1), (70, .goto (-68), 3, [2], vN), (73, .bipush (-6), 2, [], vI (-6)), (75, .ireturn, 1, [], vN)]
def hX8_lowestFailure : List (Nat × List Bool) := [(2, [true, true, true, true, false])]
def eX8_lowestFailure : xE := (8, mX8_lowestFailure, tX8_lowestFailure, hX8_lowestFailure, ceX8)
theorem okX8_lowestFailure : xEok eX8_lowestFailure := ⟨by decide +kernel, by decide +kernel, by decide +kernel, ceX8_ok, rfl, by decide +kernel⟩
def tX8_lowestBit : List xT := [(0, .iload_n 0, 1, [0], vN), (1, .iload_n 0, 1, [0], vN), (2, .ineg, 1, [], vN), (3, .iand, 1, [], vN), (4, .iconst 1, 1, [], vI 1), (5, .isub, 1, [], vN), (6, .invokestatic 235, 3, [1, 0], vN), (9, .ireturn, 1, [], vN)]
def hX8_lowestBit : List (Nat × List Bool) := []
def eX8_lowestBit : xE := (8, mX8_lowestBit, tX8_lowestBit, hX8_lowestBit, ceX8)
theorem okX8_lowestBit : xEok eX8_lowestBit := ⟨by decide +kernel, by decide +kernel, by decide +kernel, ceX8_ok, rfl, by decide +kernel⟩
def tX8_shorten : List xT := [(0, .aload_n 0, 1, [0], vN), (1, .getfield 22, 3, [7, 2], vN), (4, .aload_n 0, 1, [0], vN), (5, .getfield 10, 3, [7, 0], vN), (8, .invokevirtual 78, 3, [3, 3], vN), (11, .aload_n 0, 1, [0], vN), (12, .getfield 10, 3, [7, 0], vN), (15, .getfield 114, 3, [6, 1], vN), (18, .invokevirtual 240, 3, [32, 4], vN), (21, .ireturn, 1, [], vN)]
def hX8_shorten : List (Nat × List Bool) := []
def eX8_shorten : xE := (8, mX8_shorten, tX8_shorten, hX8_shorten, ceX8)
theorem okX8_shorten : xEok eX8_shorten := ⟨by decide +kernel, by decide +kernel, by decide +kernel, ceX8_ok, rfl, by decide +kernel⟩
def tX8_trim : List xT := [(0, .aload_n 0, 1, [0], vN), (1, .getfield 10, 3, [7, 0], vN), (4, .getfield 114, 3, [6, 1], vN), (7, .iload_n 1, 1, [1], vN), (8, .invokevirtual 144, 3, [13, 4], vN), (11, .ifCond .ne 5, 3, [8], vN), (14, .iconst (-1), 1, [], vI (-1)), (15, .ireturn, 1, [], vN), (16, .aload_n 0, 1, [0], vN), (17, .getfield 10, 3, [7, 0], vN), (20, .getfield 114, 3, [6, 1], vN), (23, .getfield 118, 3, [4, 2], vN), (26, .bipush (-6), 2, [], vI (-6)), (28, .if_icmp .ne 22, 3, [22], vN), (31, .aload_n 0, 1, [0], vN), (32, .getfield 10, 3, [7, 0], vN), (35, .getfield 114, 3, [6, 1], vN), (38, .getfield 189, 3, [4, 5], vN), (41, .iload_n 1, 1, [1], vN), (42, .invokevirtual 92, 3, [5, 5], vN), (45, .bipush (-6), 2, [], vI (-6)), (47, .if_icmp .eq 6, 3, [24], vN), (50, .bipush (-3), 2, [], vI (-3)), (52, .ireturn, 1, [], vN), (53, .aload_n 0, 1, [0], vN), (54, .getfield 22, 3, [7, 2], vN), (57, .aload_n 0, 1, [0], vN), (58, .getfield 10, 3, [7, 0], vN), (61, .invokevirtual 78, 3, [3, 3], vN), (64, .aload_n 0, 1, [0], vN), (65, .getfield 10, 3, [7, 0], vN), (68, .getfield 114, 3, [6, 1], vN), (71, .aload_n 0, 1, [0], vN), (72, .getfield 10, 3, [7, 0], vN), (75, .getfield 114, 3, [6, 1], vN), (78, .iload_n 1, 1, [1], vN), (79, .invokevirtual 215, 3, [27, 4], vN), (82, .invokevirtual 243, 3, [33, 4], vN), (85, .ireturn, 1, [], vN)]
def hX8_trim : List (Nat × List Bool) := []
def eX8_trim : xE := (8, mX8_trim, tX8_trim, hX8_trim, ceX8)
theorem okX8_trim : xEok eX8_trim := ⟨by decide +kernel, by decide +kernel, by decide +kernel, ceX8_ok, rfl, by decide +kernel⟩
def tJ6_bitCount_0f7a4 : List xT := [(0, .iload_n 0, 1, [0], vN), (1, .iload_n 0, 1, [0], vN), (2, .iconst 1, 1, [], vI 1), (3, .iushr, 1, [], vN), (4, .ldc_w 265, 3, [], vI 1431655765), (7, .iand, 1, [], vN), (8, .isub, 1, [], vN), (9, .istore_n 0, 1, [0], vN), (10, .iload_n 0, 1, [0], vN), (11, .ldc_w 266, 3, [], vI 858993459), (14, .iand, 1, [], vN), (15, .iload_n 0, 1, [0], vN), (16, .iconst 2, 1, [], vI 2), (17, .iushr, 1, [], vN), (18, .ldc_w 266, 3, [], vI 858993459), (21, .iand, 1, [], vN), (22, .iadd, 1, [], vN), (23, .istore_n 0, 1, [0], vN), (24, .iload_n 0, 1, [0], vN), (25, .iload_n 0, 1, [0], vN), (26, .iconst 4, 1, [], vI 4), (27, .iushr, 1, [], vN), (28, .iadd, 1, [], vN), (29, .ldc_w 267, 3, [], vI 252645135), (32, .iand, 1, [], vN), (33, .istore_n 0, 1, [0], vN), (34, .iload_n 0, 1, [0], vN), (35, .iload_n 0, 1, [0], vN), (36, .bipush 8, 2, [], vI 8), (38, .iushr, 1, [], vN), (39, .iadd, 1, [], vN), (40, .istore_n 0, 1, [0], vN), (41, .iload_n 0, 1, [0], vN), (42, .iload_n 0, 1, [0], vN), (43, .bipush 16, 2, [], vI 16), (45, .iushr, 1, [], vN), (46, .iadd, 1, [], vN), (47, .istore_n 0, 1, [0], vN), (48, .iload_n 0, 1, [0], vN), (49, .bipush 63, 2, [], vI 63), (51, .iand, 1, [], vN), (52, .ireturn, 1, [], vN)]
def hJ6_bitCount_0f7a4 : List (Nat × List Bool) := []
def eJ6_bitCount_0f7a4 : xE := (10, mJ6_bitCount_0f7a4, tJ6_bitCount_0f7a4, hJ6_bitCount_0f7a4, ceJ6)
theorem okJ6_bitCount_0f7a4 : xEok eJ6_bitCount_0f7a4 := ⟨by decide +kernel, by decide +kernel, by decide +kernel, ceJ6_ok, rfl, by decide +kernel⟩
def tJ13_bitCount_95d88 : List xT := [(0, .lload_n 0, 1, [0], vN), (1, .lload_n 0, 1, [0], vN), (2, .iconst 1, 1, [], vI 1), (3, .lushr, 1, [], vN), (4, .ldc2_w 314, 3, [], vL 6148914691236517205), (7, .land, 1, [], vN), (8, .lsub, 1, [], vN), (9, .lstore_n 0, 1, [0], vN), (10, .lload_n 0, 1, [0], vN), (11, .ldc2_w 316, 3, [], vL 3689348814741910323), (14, .land, 1, [], vN), (15, .lload_n 0, 1, [0], vN), (16, .iconst 2, 1, [], vI 2), (17, .lushr, 1, [], vN), (18, .ldc2_w 316, 3, [], vL 3689348814741910323), (21, .land, 1, [], vN), (22, .ladd, 1, [], vN), (23, .lstore_n 0, 1, [0], vN), (24, .lload_n 0, 1, [0], vN), (25, .lload_n 0, 1, [0], vN), (26, .iconst 4, 1, [], vI 4), (27, .lushr, 1, [], vN), (28, .ladd, 1, [], vN), (29, .ldc2_w 318, 3, [], vL 1085102592571150095), (32, .land, 1, [], vN), (33, .lstore_n 0, 1, [0], vN), (34, .lload_n 0, 1, [0], vN), (35, .lload_n 0, 1, [0], vN), (36, .bipush 8, 2, [], vI 8), (38, .lushr, 1, [], vN), (39, .ladd, 1, [], vN), (40, .lstore_n 0, 1, [0], vN), (41, .lload_n 0, 1, [0], vN), (42, .lload_n 0, 1, [0], vN), (43, .bipush 16, 2, [], vI 16), (45, .lushr, 1, [], vN), (46, .ladd, 1, [], vN), (47, .lstore_n 0, 1, [0], vN), (48, .lload_n 0, 1, [0], vN), (49, .lload_n 0, 1, [0], vN), (50, .bipush 32, 2, [], vI 32), (52, .lushr, 1, [], vN), (53, .ladd, 1, [], vN), (54, .lstore_n 0, 1, [0], vN), (55, .lload_n 0, 1, [0], vN), (56, .l2i, 1, [], vN), (57, .bipush 127, 2, [], vI 127), (59, .iand, 1, [], vN), (60, .ireturn, 1, [], vN)]
def hJ13_bitCount_95d88 : List (Nat × List Bool) := []
def eJ13_bitCount_95d88 : xE := (11, mJ13_bitCount_95d88, tJ13_bitCount_95d88, hJ13_bitCount_95d88, ceJ13)
theorem okJ13_bitCount_95d88 : xEok eJ13_bitCount_95d88 := ⟨by decide +kernel, by decide +kernel, by decide +kernel, ceJ13_ok, rfl, by decide +kernel⟩
end
section
/-! THE LAW'S INSTRUCTIONS, by program -/
def tL_low : List xT := [(0, .iload_n 0, 1, [0], vN), (1, .ldc 9, 2, [], vI 2147483647), (3, .iand, 1, [], vN), (4, .iload_n 1, 1, [1], vN), (5, .irem, 1, [], vN), (6, .ireturn, 1, [], vN)]
def hL_low : List (Nat × List Bool) := []
def eL_low : xE := (12, mL_low, tL_low, hL_low, ceL)
theorem okL_low : xEok eL_low := ⟨by decide +kernel, by decide +kernel, by decide +kernel, ceL_ok, rfl, by decide +kernel⟩
def tL_find : List xT := [(0, .iconst (-1), 1, [], vI (-1)), (1, .istore 7, 2, [7], vN), (3, .aload_n 3, 1, [3], vN), (4, .iconst 0, 1, [], vI 0), (5, .iaload, 1, [], vN), (6, .iconst 1, 1, [], vI 1), (7, .isub, 1, [], vN), (8, .istore 8, 2, [8], vN), (10, .iload 8, 2, [8], vN), (12, .ifCond .lt 45, 3, [31], vN), (15, .aload_n 0, 1, [0], vN), (16, .iload 8, 2, [8], vN), (18, .iaload, 1, [], vN), (19, .iload 4, 2, [4], vN), (21, .if_icmp .ne 26, 3, [27], vN), (24, .aload_n 1, 1, [1], vN), (25, .iload 8, 2, [8], vN), (27, .iaload, 1, [], vN), (28, .iload 5, 2, [5], vN), (30, .if_icmp .ne 17, 3, [27], vN), (33, .aload_n 2, 1, [2], vN), (34, .iload 8, 2, [8], vN), (36, .iaload, 1, [], vN), (37, .iload 6, 2, [6], vN), (39, .if_icmp .ne 8, 3, [27], vN), (42, .iload 8, 2, [8], vN), (44, .goto 5, 3, [28], vN), (47, .iload 7, 2, [7], vN), (49, .istore 7, 2, [7], vN), (51, .iinc 8 (-1), 3, [8], vI (-1)), (54, .goto (-44), 3, [8], vN), (57, .iload 7, 2, [7], vN), (59, .ireturn, 1, [], vN)]
def hL_find : List (Nat × List Bool) := [(10, [true, true, true, false, true, true, true, true, true])]
def eL_find : xE := (12, mL_find, tL_find, hL_find, ceL)
theorem okL_find : xEok eL_find := ⟨by decide +kernel, by decide +kernel, by decide +kernel, ceL_ok, rfl, by decide +kernel⟩
def tL_make : List xT := [(0, .aload_n 0, 1, [0], vN), (1, .aload_n 1, 1, [1], vN), (2, .aload_n 2, 1, [2], vN), (3, .aload_n 3, 1, [3], vN), (4, .iload 4, 2, [4], vN), (6, .iload 5, 2, [5], vN), (8, .iload 6, 2, [6], vN), (10, .invokestatic 10, 3, [0, 0], vN), (13, .istore 7, 2, [7], vN), (15, .iload 7, 2, [7], vN), (17, .ifCond .ge 11, 3, [16], vN), (20, .aload_n 3, 1, [3], vN), (21, .iconst 0, 1, [], vI 0), (22, .iaload, 1, [], vN), (23, .bipush 60, 2, [], vI 60), (25, .if_icmp .ne 6, 3, [18], vN), (28, .iload 7, 2, [7], vN), (30, .ireturn, 1, [], vN), (31, .aload_n 0, 1, [0], vN), (32, .aload_n 3, 1, [3], vN), (33, .iconst 0, 1, [], vI 0), (34, .iaload, 1, [], vN), (35, .iload 4, 2, [4], vN), (37, .iastore, 1, [], vN), (38, .aload_n 1, 1, [1], vN), (39, .aload_n 3, 1, [3], vN), (40, .iconst 0, 1, [], vI 0), (41, .iaload, 1, [], vN), (42, .iload 5, 2, [5], vN), (44, .iastore, 1, [], vN), (45, .aload_n 2, 1, [2], vN), (46, .aload_n 3, 1, [3], vN), (47, .iconst 0, 1, [], vI 0), (48, .iaload, 1, [], vN), (49, .iload 6, 2, [6], vN), (51, .iastore, 1, [], vN), (52, .aload_n 3, 1, [3], vN), (53, .iconst 0, 1, [], vI 0), (54, .dup2, 1, [], vN), (55, .iaload, 1, [], vN), (56, .iconst 1, 1, [], vI 1), (57, .iadd, 1, [], vN), (58, .iastore, 1, [], vN), (59, .aload_n 3, 1, [3], vN), (60, .iconst 0, 1, [], vI 0), (61, .iaload, 1, [], vN), (62, .iconst 1, 1, [], vI 1), (63, .isub, 1, [], vN), (64, .ireturn, 1, [], vN)]
def hL_make : List (Nat × List Bool) := []
def eL_make : xE := (12, mL_make, tL_make, hL_make, ceL)
theorem okL_make : xEok eL_make := ⟨by decide +kernel, by decide +kernel, by decide +kernel, ceL_ok, rfl, by decide +kernel⟩
def tL_truth : List xT := [(0, .lconst 0, 1, [], vL 0), (1, .lstore 5, 2, [5], vN), (3, .iconst 0, 1, [], vI 0), (4, .istore 7, 2, [7], vN), (6, .iload 7, 2, [7], vN), (8, .aload_n 3, 1, [3], vN), (9, .iconst 0, 1, [], vI 0), (10, .iaload, 1, [], vN), (11, .if_icmp .ge 153, 3, [100], vN), (14, .aload_n 0, 1, [0], vN), (15, .iload 7, 2, [7], vN), (17, .iaload, 1, [], vN), (18, .iconst 2, 1, [], vI 2), (19, .if_icmp .ge 7, 3, [16], vN), (22, .lconst 0, 1, [], vL 0), (23, .goto 12, 3, [23], vN), (26, .lload 5, 2, [5], vN), (28, .aload_n 1, 1, [1], vN), (29, .iload 7, 2, [7], vN), (31, .iaload, 1, [], vN), (32, .lshr, 1, [], vN), (33, .lconst 1, 1, [], vL 1), (34, .land, 1, [], vN), (35, .lstore 8, 2, [8], vN), (37, .aload_n 0, 1, [0], vN), (38, .iload 7, 2, [7], vN), (40, .iaload, 1, [], vN), (41, .iconst 3, 1, [], vI 3), (42, .if_icmp .ge 7, 3, [31], vN), (45, .lconst 0, 1, [], vL 0), (46, .goto 12, 3, [38], vN), (49, .lload 5, 2, [5], vN), (51, .aload_n 2, 1, [2], vN), (52, .iload 7, 2, [7], vN), (54, .iaload, 1, [], vN), (55, .lshr, 1, [], vN), (56, .lconst 1, 1, [], vL 1), (57, .land, 1, [], vN), (58, .lstore 10, 2, [10], vN), (60, .aload_n 0, 1, [0], vN), (61, .iload 7, 2, [7], vN), (63, .iaload, 1, [], vN), (64, .ifCond .ne 16, 3, [52], vN), (67, .iload 4, 2, [4], vN), (69, .aload_n 1, 1, [1], vN), (70, .iload 7, 2, [7], vN), (72, .iaload, 1, [], vN), (73, .ishr, 1, [], vN), (74, .iconst 1, 1, [], vI 1), (75, .iand, 1, [], vN), (76, .i2l, 1, [], vN), (77, .goto 69, 3, [91], vN), (80, .aload_n 0, 1, [0], vN), (81, .iload 7, 2, [7], vN), (83, .iaload, 1, [], vN), (84, .iconst 1, 1, [], vI 1), (85, .if_icmp .ne 7, 3, [59], vN), (88, .lconst 0, 1, [], vL 0), (89, .goto 57, 3, [91], vN), (92, .aload_n 0, 1, [0], vN), (93, .iload 7, 2, [7], vN), (95, .iaload, 1, [], vN), (96, .iconst 2, 1, [], vI 2), (97, .if_icmp .ne 10, 3, [68], vN), (100, .lconst 1, 1, [], vL 1), (101, .lload 8, 2, [8], vN), (103, .lsub, 1, [], vN), (104, .goto 42, 3, [91], vN), (107, .aload_n 0, 1, [0], vN), (108, .iload 7, 2, [7], vN), (110, .iaload, 1, [], vN), (111, .iconst 3, 1, [], vI 3), (112, .if_icmp .ne 11, 3, [77], vN), (115, .lload 8, 2, [8], vN), (117, .lload 10, 2, [10], vN), (119, .land, 1, [], vN), (120, .goto 26, 3, [91], vN), (123, .aload_n 0, 1, [0], vN), (124, .iload 7, 2, [7], vN), (126, .iaload, 1, [], vN), (127, .iconst 4, 1, [], vI 4), (128, .if_icmp .ne 11, 3, [86], vN), (131, .lload 8, 2, [8], vN), (133, .lload 10, 2, [10], vN), (135, .lor, 1, [], vN), (136, .goto 10, 3, [91], vN), (139, .lconst 1, 1, [], vL 1), (140, .lload 8, 2, [8], vN), (142, .lsub, 1, [], vN), (143, .lload 10, 2, [10], vN), (145, .lor, 1, [], vN), (146, .lstore 12, 2, [12], vN), (148, .lload 5, 2, [5], vN), (150, .lload 12, 2, [12], vN), (152, .iload 7, 2, [7], vN), (154, .lshl, 1, [], vN), (155, .lor, 1, [], vN), (156, .lstore 5, 2, [5], vN), (158, .iinc 7 1, 3, [7], vI 1), (161, .goto (-155), 3, [4], vN), (164, .lload 5, 2, [5], vN), (166, .lreturn, 1, [], vN)]
def hL_truth : List (Nat × List Bool) := [(6, [true, true, true, true, true, true, false, true, false, false, false, false, false, false]), (35, [true, true, true, true, true, true, false, true, false, false, false, false, false, false]), (58, [true, true, true, true, true, true, false, true, true, false, false, false, false, false]), (146, [true, true, true, true, true, true, false, true, false, false, false, false, false, false])]
def eL_truth : xE := (12, mL_truth, tL_truth, hL_truth, ceL)
theorem okL_truth : xEok eL_truth := ⟨by decide +kernel, by decide +kernel, by decide +kernel, ceL_ok, rfl, by decide +kernel⟩
def tL_shut : List xT := [(0, .iconst 0, 1, [], vI 0), (1, .istore_n 3, 1, [3], vN), (2, .iload_n 2, 1, [2], vN), (3, .istore 4, 2, [4], vN), (5, .iload 4, 2, [4], vN), (7, .ifCond .lt 29, 3, [21], vN), (10, .iload_n 3, 1, [3], vN), (11, .ifCond .ne 10, 3, [12], vN), (14, .aload_n 0, 1, [0], vN), (15, .iload 4, 2, [4], vN), (17, .iaload, 1, [], vN), (18, .ifCond .lt 7, 3, [14], vN), (21, .iconst 1, 1, [], vI 1), (22, .goto 4, 3, [15], vN), (25, .iconst 0, 1, [], vI 0), (26, .istore_n 3, 1, [3], vN), (27, .aload_n 1, 1, [1], vN), (28, .iload 4, 2, [4], vN), (30, .iaload, 1, [], vN), (31, .istore 4, 2, [4], vN), (33, .goto (-28), 3, [4], vN), (36, .iload_n 3, 1, [3], vN), (37, .ireturn, 1, [], vN)]
def hL_shut : List (Nat × List Bool) := [(5, [true, true, false, true, true])]
def eL_shut : xE := (12, mL_shut, tL_shut, hL_shut, ceL)
theorem okL_shut : xEok eL_shut := ⟨by decide +kernel, by decide +kernel, by decide +kernel, ceL_ok, rfl, by decide +kernel⟩
def tL_latest : List xT := [(0, .iconst (-1), 1, [], vI (-1)), (1, .istore_n 2, 1, [2], vN), (2, .aload_n 1, 1, [1], vN), (3, .iconst 2, 1, [], vI 2), (4, .iaload, 1, [], vN), (5, .iconst 1, 1, [], vI 1), (6, .isub, 1, [], vN), (7, .istore_n 3, 1, [3], vN), (8, .iload_n 3, 1, [3], vN), (9, .ifCond .lt 25, 3, [22], vN), (12, .iload_n 2, 1, [2], vN), (13, .ifCond .ge 21, 3, [22], vN), (16, .aload_n 0, 1, [0], vN), (17, .iload_n 3, 1, [3], vN), (18, .iaload, 1, [], vN), (19, .ifCond .ge 7, 3, [18], vN), (22, .iload_n 3, 1, [3], vN), (23, .goto 4, 3, [19], vN), (26, .iload_n 2, 1, [2], vN), (27, .istore_n 2, 1, [2], vN), (28, .iinc 3 (-1), 3, [3], vI (-1)), (31, .goto (-23), 3, [8], vN), (34, .iload_n 2, 1, [2], vN), (35, .ireturn, 1, [], vN)]
def hL_latest : List (Nat × List Bool) := [(8, [true, false, true, true])]
def eL_latest : xE := (12, mL_latest, tL_latest, hL_latest, ceL)
theorem okL_latest : xEok eL_latest := ⟨by decide +kernel, by decide +kernel, by decide +kernel, ceL_ok, rfl, by decide +kernel⟩
def tL_write : List xT := [(0, .aload 7, 2, [7], vN), (2, .iconst 1, 1, [], vI 1), (3, .iaload, 1, [], vN), (4, .istore 11, 2, [11], vN), (6, .aload_n 0, 1, [0], vN), (7, .iload 11, 2, [11], vN), (9, .iload 8, 2, [8], vN), (11, .iastore, 1, [], vN), (12, .aload_n 1, 1, [1], vN), (13, .iload 11, 2, [11], vN), (15, .iload 9, 2, [9], vN), (17, .iastore, 1, [], vN), (18, .aload_n 2, 1, [2], vN), (19, .iload 11, 2, [11], vN), (21, .iload 10, 2, [10], vN), (23, .bipush 100, 2, [], vI 100), (25, .irem, 1, [], vN), (26, .iconst 1, 1, [], vI 1), (27, .isub, 1, [], vN), (28, .iastore, 1, [], vN), (29, .aload_n 3, 1, [3], vN), (30, .iload 11, 2, [11], vN), (32, .iload 10, 2, [10], vN), (34, .bipush 100, 2, [], vI 100), (36, .idiv, 1, [], vN), (37, .bipush 100, 2, [], vI 100), (39, .irem, 1, [], vN), (40, .iconst 1, 1, [], vI 1), (41, .isub, 1, [], vN), (42, .iastore, 1, [], vN), (43, .aload 4, 2, [4], vN), (45, .iload 11, 2, [11], vN), (47, .iload 10, 2, [10], vN), (49, .sipush 10000, 3, [], vI 10000), (52, .idiv, 1, [], vN), (53, .iconst 1, 1, [], vI 1), (54, .isub, 1, [], vN), (55, .iastore, 1, [], vN), (56, .aload 5, 2, [5], vN), (58, .iload 11, 2, [11], vN), (60, .aload 6, 2, [6], vN), (62, .aload 7, 2, [7], vN), (64, .invokestatic 16, 3, [1, 0], vN), (67, .iastore, 1, [], vN), (68, .aload 7, 2, [7], vN), (70, .iconst 1, 1, [], vI 1), (71, .dup2, 1, [], vN), (72, .iaload, 1, [], vN), (73, .iconst 1, 1, [], vI 1), (74, .iadd, 1, [], vN), (75, .iastore, 1, [], vN), (76, .iload 11, 2, [11], vN), (78, .ireturn, 1, [], vN)]
def hL_write : List (Nat × List Bool) := []
def eL_write : xE := (12, mL_write, tL_write, hL_write, ceL)
theorem okL_write : xEok eL_write := ⟨by decide +kernel, by decide +kernel, by decide +kernel, ceL_ok, rfl, by decide +kernel⟩
def tL_direct : List xT := [(0, .aload_n 0, 1, [0], vN), (1, .iload 6, 2, [6], vN), (3, .iaload, 1, [], vN), (4, .bipush 7, 2, [], vI 7), (6, .if_icmp .ne 50, 3, [43], vN), (9, .lconst 1, 1, [], vL 1), (10, .aload_n 1, 1, [1], vN), (11, .iload 6, 2, [6], vN), (13, .iaload, 1, [], vN), (14, .lshl, 1, [], vN), (15, .lconst 1, 1, [], vL 1), (16, .aload 4, 2, [4], vN), (18, .aload_n 2, 1, [2], vN), (19, .iload 6, 2, [6], vN), (21, .iaload, 1, [], vN), (22, .iaload, 1, [], vN), (23, .lshl, 1, [], vN), (24, .lor, 1, [], vN), (25, .lconst 1, 1, [], vL 1), (26, .aload 5, 2, [5], vN), (28, .aload_n 2, 1, [2], vN), (29, .iload 6, 2, [6], vN), (31, .iaload, 1, [], vN), (32, .iaload, 1, [], vN), (33, .lshl, 1, [], vN), (34, .lor, 1, [], vN), (35, .lconst 1, 1, [], vL 1), (36, .aload 4, 2, [4], vN), (38, .aload_n 3, 1, [3], vN), (39, .iload 6, 2, [6], vN), (41, .iaload, 1, [], vN), (42, .iaload, 1, [], vN), (43, .lshl, 1, [], vN), (44, .lor, 1, [], vN), (45, .lconst 1, 1, [], vL 1), (46, .aload 5, 2, [5], vN), (48, .aload_n 3, 1, [3], vN), (49, .iload 6, 2, [6], vN), (51, .iaload, 1, [], vN), (52, .iaload, 1, [], vN), (53, .lshl, 1, [], vN), (54, .lor, 1, [], vN), (55, .lreturn, 1, [], vN), (56, .aload_n 0, 1, [0], vN), (57, .iload 6, 2, [6], vN), (59, .iaload, 1, [], vN), (60, .bipush 8, 2, [], vI 8), (62, .if_icmp .eq 12, 3, [53], vN), (65, .aload_n 0, 1, [0], vN), (66, .iload 6, 2, [6], vN), (68, .iaload, 1, [], vN), (69, .bipush 10, 2, [], vI 10), (71, .if_icmp .ne 23, 3, [69], vN), (74, .lconst 1, 1, [], vL 1), (75, .aload 4, 2, [4], vN), (77, .aload_n 1, 1, [1], vN), (78, .iload 6, 2, [6], vN), (80, .iaload, 1, [], vN), (81, .iaload, 1, [], vN), (82, .lshl, 1, [], vN), (83, .lconst 1, 1, [], vL 1), (84, .aload 5, 2, [5], vN), (86, .aload_n 1, 1, [1], vN), (87, .iload 6, 2, [6], vN), (89, .iaload, 1, [], vN), (90, .iaload, 1, [], vN), (91, .lshl, 1, [], vN), (92, .lor, 1, [], vN), (93, .lreturn, 1, [], vN), (94, .aload_n 1, 1, [1], vN), (95, .iload 6, 2, [6], vN), (97, .iaload, 1, [], vN), (98, .ifCond .ge 7, 3, [75], vN), (101, .lconst 0, 1, [], vL 0), (102, .goto 9, 3, [80], vN), (105, .lconst 1, 1, [], vL 1), (106, .aload_n 1, 1, [1], vN), (107, .iload 6, 2, [6], vN), (109, .iaload, 1, [], vN), (110, .lshl, 1, [], vN), (111, .aload_n 2, 1, [2], vN), (112, .iload 6, 2, [6], vN), (114, .iaload, 1, [], vN), (115, .ifCond .ge 7, 3, [86], vN), (118, .lconst 0, 1, [], vL 0), (119, .goto 9, 3, [91], vN), (122, .lconst 1, 1, [], vL 1), (123, .aload_n 2, 1, [2], vN), (124, .iload 6, 2, [6], vN), (126, .iaload, 1, [], vN), (127, .lshl, 1, [], vN), (128, .lor, 1, [], vN), (129, .lreturn, 1, [], vN)]
def hL_direct : List (Nat × List Bool) := []
def eL_direct : xE := (12, mL_direct, tL_direct, hL_direct, ceL)
theorem okL_direct : xEok eL_direct := ⟨by decide +kernel, by decide +kernel, by decide +kernel, ceL_ok, rfl, by decide +kernel⟩
def tL_assumed : List xT := [(0, .lconst 0, 1, [], vL 0), (1, .lstore 4, 2, [4], vN), (3, .aload_n 0, 1, [0], vN), (4, .iload_n 3, 1, [3], vN), (5, .iaload, 1, [], vN), (6, .istore 6, 2, [6], vN), (8, .iload 6, 2, [6], vN), (10, .ifCond .lt 23, 3, [21], vN), (13, .lload 4, 2, [4], vN), (15, .lconst 1, 1, [], vL 1), (16, .aload_n 1, 1, [1], vN), (17, .iload 6, 2, [6], vN), (19, .iaload, 1, [], vN), (20, .lshl, 1, [], vN), (21, .lor, 1, [], vN), (22, .lstore 4, 2, [4], vN), (24, .aload_n 2, 1, [2], vN), (25, .iload 6, 2, [6], vN), (27, .iaload, 1, [], vN), (28, .istore 6, 2, [6], vN), (30, .goto (-22), 3, [6], vN), (33, .lload 4, 2, [4], vN), (35, .lreturn, 1, [], vN)]
def hL_assumed : List (Nat × List Bool) := [(8, [false, true, true, false, true, false, true])]
def eL_assumed : xE := (12, mL_assumed, tL_assumed, hL_assumed, ceL)
theorem okL_assumed : xEok eL_assumed := ⟨by decide +kernel, by decide +kernel, by decide +kernel, ceL_ok, rfl, by decide +kernel⟩
def tL_needs : List xT := [(0, .lconst 1, 1, [], vL 1), (1, .iload 9, 2, [9], vN), (3, .lshl, 1, [], vN), (4, .lstore 10, 2, [10], vN), (6, .iconst 1, 1, [], vI 1), (7, .istore 12, 2, [12], vN), (9, .iload 12, 2, [12], vN), (11, .ifCond .eq 89, 3, [55], vN), (14, .lload 10, 2, [10], vN), (16, .lstore 13, 2, [13], vN), (18, .iconst 0, 1, [], vI 0), (19, .istore 15, 2, [15], vN), (21, .iload 15, 2, [15], vN), (23, .aload 8, 2, [8], vN), (25, .iconst 1, 1, [], vI 1), (26, .iaload, 1, [], vN), (27, .if_icmp .ge 55, 3, [46], vN), (30, .lload 10, 2, [10], vN), (32, .lload 13, 2, [13], vN), (34, .iload 15, 2, [15], vN), (36, .lshr, 1, [], vN), (37, .lconst 1, 1, [], vL 1), (38, .land, 1, [], vN), (39, .lconst 1, 1, [], vL 1), (40, .lcmp, 1, [], vN), (41, .ifCond .ne 31, 3, [41], vN), (44, .aload_n 0, 1, [0], vN), (45, .aload_n 1, 1, [1], vN), (46, .aload_n 2, 1, [2], vN), (47, .aload_n 3, 1, [3], vN), (48, .aload 5, 2, [5], vN), (50, .aload 6, 2, [6], vN), (52, .iload 15, 2, [15], vN), (54, .invokestatic 20, 3, [2, 0], vN), (57, .aload 4, 2, [4], vN), (59, .aload 5, 2, [5], vN), (61, .aload 7, 2, [7], vN), (63, .iload 15, 2, [15], vN), (65, .invokestatic 24, 3, [3, 0], vN), (68, .lor, 1, [], vN), (69, .goto 4, 3, [42], vN), (72, .lconst 0, 1, [], vL 0), (73, .lor, 1, [], vN), (74, .lstore 10, 2, [10], vN), (76, .iinc 15 1, 3, [15], vI 1), (79, .goto (-58), 3, [12], vN), (82, .lload 10, 2, [10], vN), (84, .lload 13, 2, [13], vN), (86, .lcmp, 1, [], vN), (87, .ifCond .eq 7, 3, [52], vN), (90, .iconst 1, 1, [], vI 1), (91, .goto 4, 3, [53], vN), (94, .iconst 0, 1, [], vI 0), (95, .istore 12, 2, [12], vN), (97, .goto (-88), 3, [6], vN), (100, .lload 10, 2, [10], vN), (102, .lreturn, 1, [], vN)]
def hL_needs : List (Nat × List Bool) := [(9, [true, true, true, true, true, true, true, true, true, false, true, false, true, false, false, false]), (21, [true, true, true, true, true, true, true, true, true, false, true, false, false, true, false, true])]
def eL_needs : xE := (12, mL_needs, tL_needs, hL_needs, ceL)
theorem okL_needs : xEok eL_needs := ⟨by decide +kernel, by decide +kernel, by decide +kernel, ceL_ok, rfl, by decide +kernel⟩
def tL_bypass : List xT := [(0, .aload_n 0, 1, [0], vN), (1, .iload_n 3, 1, [3], vN), (2, .iaload, 1, [], vN), (3, .iconst 4, 1, [], vI 4), (4, .if_icmp .eq 10, 3, [10], vN), (7, .aload_n 0, 1, [0], vN), (8, .iload_n 3, 1, [3], vN), (9, .iaload, 1, [], vN), (10, .iconst 5, 1, [], vI 5), (11, .if_icmp .ne 16, 3, [19], vN), (14, .aload_n 0, 1, [0], vN), (15, .aload_n 1, 1, [1], vN), (16, .iload_n 3, 1, [3], vN), (17, .iaload, 1, [], vN), (18, .iaload, 1, [], vN), (19, .iconst 3, 1, [], vI 3), (20, .if_icmp .ne 7, 3, [19], vN), (23, .iconst 1, 1, [], vI 1), (24, .goto 4, 3, [20], vN), (27, .iconst 0, 1, [], vI 0), (28, .istore 4, 2, [4], vN), (30, .aload_n 0, 1, [0], vN), (31, .iload_n 3, 1, [3], vN), (32, .iaload, 1, [], vN), (33, .iconst 2, 1, [], vI 2), (34, .if_icmp .ne 9, 3, [30], vN), (37, .aload_n 1, 1, [1], vN), (38, .iload_n 3, 1, [3], vN), (39, .iaload, 1, [], vN), (40, .goto 33, 3, [50], vN), (43, .iload 4, 2, [4], vN), (45, .ifCond .eq 26, 3, [49], vN), (48, .aload_n 0, 1, [0], vN), (49, .iload_n 3, 1, [3], vN), (50, .iaload, 1, [], vN), (51, .iconst 4, 1, [], vI 4), (52, .if_icmp .ne 11, 3, [43], vN), (55, .aload_n 1, 1, [1], vN), (56, .aload_n 1, 1, [1], vN), (57, .iload_n 3, 1, [3], vN), (58, .iaload, 1, [], vN), (59, .iaload, 1, [], vN), (60, .goto 13, 3, [50], vN), (63, .aload_n 2, 1, [2], vN), (64, .aload_n 1, 1, [1], vN), (65, .iload_n 3, 1, [3], vN), (66, .iaload, 1, [], vN), (67, .iaload, 1, [], vN), (68, .goto 5, 3, [50], vN), (71, .bipush (-6), 2, [], vI (-6)), (73, .ireturn, 1, [], vN)]
def hL_bypass : List (Nat × List Bool) := []
def eL_bypass : xE := (12, mL_bypass, tL_bypass, hL_bypass, ceL)
theorem okL_bypass : xEok eL_bypass := ⟨by decide +kernel, by decide +kernel, by decide +kernel, ceL_ok, rfl, by decide +kernel⟩
def tL_bits : List xT := [(0, .iconst 0, 1, [], vI 0), (1, .istore_n 2, 1, [2], vN), (2, .iconst 0, 1, [], vI 0), (3, .istore_n 3, 1, [3], vN), (4, .iload_n 3, 1, [3], vN), (5, .bipush 48, 2, [], vI 48), (7, .if_icmp .ge 19, 3, [19], vN), (10, .iload_n 2, 1, [2], vN), (11, .i2l, 1, [], vN), (12, .lload_n 0, 1, [0], vN), (13, .iload_n 3, 1, [3], vN), (14, .lshr, 1, [], vN), (15, .lconst 1, 1, [], vL 1), (16, .land, 1, [], vN), (17, .ladd, 1, [], vN), (18, .l2i, 1, [], vN), (19, .istore_n 2, 1, [2], vN), (20, .iinc 3 1, 3, [3], vI 1), (23, .goto (-19), 3, [4], vN), (26, .iload_n 2, 1, [2], vN), (27, .ireturn, 1, [], vN)]
def hL_bits : List (Nat × List Bool) := [(4, [true, false, true, true])]
def eL_bits : xE := (12, mL_bits, tL_bits, hL_bits, ceL)
theorem okL_bits : xEok eL_bits := ⟨by decide +kernel, by decide +kernel, by decide +kernel, ceL_ok, rfl, by decide +kernel⟩
def tL_formulas : List xT := [(0, .iconst 0, 1, [], vI 0), (1, .istore 6, 2, [6], vN), (3, .iload 6, 2, [6], vN), (5, .aload 4, 2, [4], vN), (7, .iconst 0, 1, [], vI 0), (8, .iaload, 1, [], vN), (9, .if_icmp .ge 79, 3, [49], vN), (12, .aload_n 0, 1, [0], vN), (13, .iload 6, 2, [6], vN), (15, .iconst 0, 1, [], vI 0), (16, .invokevirtual 30, 3, [0, 7], vN), (19, .aload_n 1, 1, [1], vN), (20, .iload 6, 2, [6], vN), (22, .iaload, 1, [], vN), (23, .if_icmp .ne 57, 3, [45], vN), (26, .aload_n 0, 1, [0], vN), (27, .iload 6, 2, [6], vN), (29, .iconst 1, 1, [], vI 1), (30, .invokevirtual 30, 3, [0, 7], vN), (33, .aload_n 1, 1, [1], vN), (34, .iload 6, 2, [6], vN), (36, .iaload, 1, [], vN), (37, .iconst 1, 1, [], vI 1), (38, .if_icmp .ne 8, 3, [26], vN), (41, .bipush (-6), 2, [], vI (-6)), (43, .goto 7, 3, [29], vN), (46, .aload_n 2, 1, [2], vN), (47, .iload 6, 2, [6], vN), (49, .iaload, 1, [], vN), (50, .if_icmp .ne 30, 3, [45], vN), (53, .aload_n 0, 1, [0], vN), (54, .iload 6, 2, [6], vN), (56, .iconst 2, 1, [], vI 2), (57, .invokevirtual 30, 3, [0, 7], vN), (60, .aload_n 1, 1, [1], vN), (61, .iload 6, 2, [6], vN), (63, .iaload, 1, [], vN), (64, .iconst 3, 1, [], vI 3), (65, .if_icmp .ge 8, 3, [41], vN), (68, .bipush (-6), 2, [], vI (-6)), (70, .goto 7, 3, [44], vN), (73, .aload_n 3, 1, [3], vN), (74, .iload 6, 2, [6], vN), (76, .iaload, 1, [], vN), (77, .if_icmp .eq 5, 3, [47], vN), (80, .iconst 0, 1, [], vI 0), (81, .ireturn, 1, [], vN), (82, .iinc 6 1, 3, [6], vI 1), (85, .goto (-82), 3, [2], vN), (88, .iload 5, 2, [5], vN), (90, .sipush 256, 3, [], vI 256), (93, .invokestatic 34, 3, [4, 0], vN), (96, .istore 6, 2, [6], vN), (98, .aload_n 1, 1, [1], vN), (99, .aload_n 2, 1, [2], vN), (100, .aload_n 3, 1, [3], vN), (101, .aload 4, 2, [4], vN), (103, .iload 6, 2, [6], vN), (105, .invokestatic 37, 3, [5, 0], vN), (108, .lstore 7, 2, [7], vN), (110, .iconst 0, 1, [], vI 0), (111, .istore 9, 2, [9], vN), (113, .iload 9, 2, [9], vN), (115, .aload 4, 2, [4], vN), (117, .iconst 0, 1, [], vI 0), (118, .iaload, 1, [], vN), (119, .if_icmp .ge 30, 3, [82], vN), (122, .aload_n 0, 1, [0], vN), (123, .iload 9, 2, [9], vN), (125, .iload 6, 2, [6], vN), (127, .invokevirtual 41, 3, [1, 7], vN), (130, .lload 7, 2, [7], vN), (132, .iload 9, 2, [9], vN), (134, .lshr, 1, [], vN), (135, .lconst 1, 1, [], vL 1), (136, .land, 1, [], vN), (137, .l2i, 1, [], vN), (138, .if_icmp .eq 5, 3, [80], vN), (141, .iconst 0, 1, [], vI 0), (142, .ireturn, 1, [], vN), (143, .iinc 9 1, 3, [9], vI 1), (146, .goto (-33), 3, [62], vN), (149, .aload_n 0, 1, [0], vN), (150, .invokevirtual 44, 3, [2, 7], vN), (153, .aload 4, 2, [4], vN), (155, .iconst 0, 1, [], vI 0), (156, .iaload, 1, [], vN), (157, .if_icmp .ne 20, 3, [98], vN), (160, .aload_n 0, 1, [0], vN), (161, .aload 4, 2, [4], vN), (163, .iconst 0, 1, [], vI 0), (164, .iaload, 1, [], vN), (165, .iconst 0, 1, [], vI 0), (166, .invokevirtual 30, 3, [0, 7], vN), (169, .iconst (-1), 1, [], vI (-1)), (170, .if_icmp .ne 7, 3, [98], vN), (173, .iconst 1, 1, [], vI 1), (174, .goto 4, 3, [99], vN), (177, .iconst 0, 1, [], vI 0), (178, .ireturn, 1, [], vN)]
def hL_formulas : List (Nat × List Bool) := [(3, [true, true, true, true, true, true, true, false, false, false]), (113, [true, false, false, false, true, false, true, true, false, true])]
def eL_formulas : xE := (12, mL_formulas, tL_formulas, hL_formulas, ceL)
theorem okL_formulas : xEok eL_formulas := ⟨by decide +kernel, by decide +kernel, by decide +kernel, ceL_ok, rfl, by decide +kernel⟩
def tL_lines : List xT := [(0, .iconst 0, 1, [], vI 0), (1, .istore 11, 2, [11], vN), (3, .iconst 0, 1, [], vI 0), (4, .istore 12, 2, [12], vN), (6, .iload 12, 2, [12], vN), (8, .aload 10, 2, [10], vN), (10, .iconst 1, 1, [], vI 1), (11, .iaload, 1, [], vN), (12, .if_icmp .ge 368, 3, [201], vN), (15, .iconst 0, 1, [], vI 0), (16, .istore 13, 2, [13], vN), (18, .iconst 0, 1, [], vI 0), (19, .istore 14, 2, [14], vN), (21, .aload 6, 2, [6], vN), (23, .iload 12, 2, [12], vN), (25, .iaload, 1, [], vN), (26, .istore 15, 2, [15], vN), (28, .iload 15, 2, [15], vN), (30, .ifCond .lt 16, 3, [25], vN), (33, .iinc 13 1, 3, [13], vI 1), (36, .aload 9, 2, [9], vN), (38, .iload 15, 2, [15], vN), (40, .iaload, 1, [], vN), (41, .istore 15, 2, [15], vN), (43, .goto (-15), 3, [17], vN), (46, .iconst 0, 1, [], vI 0), (47, .istore 15, 2, [15], vN), (49, .iload 15, 2, [15], vN), (51, .aload 10, 2, [10], vN), (53, .iconst 1, 1, [], vI 1), (54, .iaload, 1, [], vN), (55, .if_icmp .ge 36, 3, [51], vN), (58, .iload 14, 2, [14], vN), (60, .i2l, 1, [], vN), (61, .aload_n 2, 1, [2], vN), (62, .aload_n 3, 1, [3], vN), (63, .aload 4, 2, [4], vN), (65, .aload 5, 2, [5], vN), (67, .aload 7, 2, [7], vN), (69, .aload 8, 2, [8], vN), (71, .iload 15, 2, [15], vN), (73, .invokestatic 20, 3, [2, 0], vN), (76, .iload 12, 2, [12], vN), (78, .lshr, 1, [], vN), (79, .lconst 1, 1, [], vL 1), (80, .land, 1, [], vN), (81, .ladd, 1, [], vN), (82, .l2i, 1, [], vN), (83, .istore 14, 2, [14], vN), (85, .iinc 15 1, 3, [15], vI 1), (88, .goto (-39), 3, [27], vN), (91, .aload_n 2, 1, [2], vN), (92, .aload_n 3, 1, [3], vN), (93, .aload 4, 2, [4], vN), (95, .iload 12, 2, [12], vN), (97, .invokestatic 48, 3, [6, 0], vN), (100, .istore 15, 2, [15], vN), (102, .iload 11, 2, [11], vN), (104, .iload 15, 2, [15], vN), (106, .ifCond .ge 7, 3, [62], vN), (109, .iconst 0, 1, [], vI 0), (110, .goto 4, 3, [63], vN), (113, .iconst 1, 1, [], vI 1), (114, .iadd, 1, [], vN), (115, .istore 11, 2, [11], vN), (117, .aload_n 0, 1, [0], vN), (118, .iload 12, 2, [12], vN), (120, .iconst 0, 1, [], vI 0), (121, .invokevirtual 52, 3, [3, 7], vN), (124, .aload_n 1, 1, [1], vN), (125, .iload 12, 2, [12], vN), (127, .iaload, 1, [], vN), (128, .if_icmp .ne 145, 3, [145], vN), (131, .aload_n 0, 1, [0], vN), (132, .iload 12, 2, [12], vN), (134, .iconst 1, 1, [], vI 1), (135, .invokevirtual 52, 3, [3, 7], vN), (138, .aload_n 2, 1, [2], vN), (139, .iload 12, 2, [12], vN), (141, .iaload, 1, [], vN), (142, .if_icmp .ne 131, 3, [145], vN), (145, .aload_n 0, 1, [0], vN), (146, .iload 12, 2, [12], vN), (148, .iconst 2, 1, [], vI 2), (149, .invokevirtual 52, 3, [3, 7], vN), (152, .aload 6, 2, [6], vN), (154, .iload 12, 2, [12], vN), (156, .iaload, 1, [], vN), (157, .ifCond .ge 8, 3, [91], vN), (160, .bipush (-6), 2, [], vI (-6)), (162, .goto 8, 3, [94], vN), (165, .aload 6, 2, [6], vN), (167, .iload 12, 2, [12], vN), (169, .iaload, 1, [], vN), (170, .if_icmp .ne 103, 3, [145], vN), (173, .aload_n 0, 1, [0], vN), (174, .iload 12, 2, [12], vN), (176, .iconst 3, 1, [], vI 3), (177, .invokevirtual 52, 3, [3, 7], vN), (180, .iload 13, 2, [13], vN), (182, .if_icmp .ne 91, 3, [145], vN), (185, .aload_n 0, 1, [0], vN), (186, .iload 12, 2, [12], vN), (188, .iconst 4, 1, [], vI 4), (189, .invokevirtual 52, 3, [3, 7], vN), (192, .aload 8, 2, [8], vN), (194, .aload 9, 2, [9], vN), (196, .aload 6, 2, [6], vN), (198, .iload 12, 2, [12], vN), (200, .iaload, 1, [], vN), (201, .invokestatic 55, 3, [7, 0], vN), (204, .ifCond .eq 7, 3, [114], vN), (207, .iconst 0, 1, [], vI 0), (208, .goto 4, 3, [115], vN), (211, .iconst 1, 1, [], vI 1), (212, .if_icmp .ne 61, 3, [145], vN), (215, .aload_n 0, 1, [0], vN), (216, .iload 12, 2, [12], vN), (218, .iconst 5, 1, [], vI 5), (219, .invokevirtual 52, 3, [3, 7], vN), (222, .iload 14, 2, [14], vN), (224, .if_icmp .ne 49, 3, [145], vN), (227, .aload_n 0, 1, [0], vN), (228, .iload 12, 2, [12], vN), (230, .invokevirtual 59, 3, [4, 7], vN), (233, .iload 15, 2, [15], vN), (235, .if_icmp .ne 38, 3, [145], vN), (238, .aload_n 0, 1, [0], vN), (239, .iload 12, 2, [12], vN), (241, .invokevirtual 62, 3, [5, 7], vN), (244, .aload_n 2, 1, [2], vN), (245, .aload_n 3, 1, [3], vN), (246, .aload 4, 2, [4], vN), (248, .aload 5, 2, [5], vN), (250, .aload 6, 2, [6], vN), (252, .aload 7, 2, [7], vN), (254, .aload 8, 2, [8], vN), (256, .aload 9, 2, [9], vN), (258, .aload 10, 2, [10], vN), (260, .iload 12, 2, [12], vN), (262, .invokestatic 66, 3, [8, 0], vN), (265, .lcmp, 1, [], vN), (266, .ifCond .ne 7, 3, [145], vN), (269, .iconst 1, 1, [], vI 1), (270, .goto 4, 3, [146], vN), (273, .iconst 0, 1, [], vI 0), (274, .istore 16, 2, [16], vN), (276, .iload 16, 2, [16], vN), (278, .ifCond .eq 86, 3, [193], vN), (281, .aload_n 0, 1, [0], vN), (282, .iload 12, 2, [12], vN), (284, .iconst 0, 1, [], vI 0), (285, .invokevirtual 69, 3, [6, 7], vN), (288, .aload_n 3, 1, [3], vN), (289, .iload 12, 2, [12], vN), (291, .iaload, 1, [], vN), (292, .ifCond .ge 7, 3, [159], vN), (295, .iconst (-1), 1, [], vI (-1)), (296, .goto 7, 3, [162], vN), (299, .aload_n 3, 1, [3], vN), (300, .iload 12, 2, [12], vN), (302, .iaload, 1, [], vN), (303, .if_icmp .ne 61, 3, [193], vN), (306, .aload_n 0, 1, [0], vN), (307, .iload 12, 2, [12], vN), (309, .iconst 1, 1, [], vI 1), (310, .invokevirtual 69, 3, [6, 7], vN), (313, .aload 4, 2, [4], vN), (315, .iload 12, 2, [12], vN), (317, .iaload, 1, [], vN), (318, .ifCond .ge 7, 3, [173], vN), (321, .iconst (-1), 1, [], vI (-1)), (322, .goto 8, 3, [176], vN), (325, .aload 4, 2, [4], vN), (327, .iload 12, 2, [12], vN), (329, .iaload, 1, [], vN), (330, .if_icmp .ne 34, 3, [193], vN), (333, .aload_n 0, 1, [0], vN), (334, .iload 12, 2, [12], vN), (336, .iconst 2, 1, [], vI 2), (337, .invokevirtual 69, 3, [6, 7], vN), (340, .aload 5, 2, [5], vN), (342, .iload 12, 2, [12], vN), (344, .iaload, 1, [], vN), (345, .ifCond .ge 7, 3, [187], vN), (348, .iconst (-1), 1, [], vI (-1)), (349, .goto 8, 3, [190], vN), (352, .aload 5, 2, [5], vN), (354, .iload 12, 2, [12], vN), (356, .iaload, 1, [], vN), (357, .if_icmp .ne 7, 3, [193], vN), (360, .iconst 1, 1, [], vI 1), (361, .goto 4, 3, [194], vN), (364, .iconst 0, 1, [], vI 0), (365, .istore 16, 2, [16], vN), (367, .iload 16, 2, [16], vN), (369, .ifCond .ne 5, 3, [199], vN), (372, .iconst 0, 1, [], vI 0), (373, .ireturn, 1, [], vN), (374, .iinc 12 1, 3, [12], vI 1), (377, .goto (-371), 3, [4], vN), (380, .iconst 0, 1, [], vI 0), (381, .istore 12, 2, [12], vN), (383, .iconst 0, 1, [], vI 0), (384, .istore 13, 2, [13], vN), (386, .iload 13, 2, [13], vN), (388, .aload 10, 2, [10], vN), (390, .iconst 2, 1, [], vI 2), (391, .iaload, 1, [], vN), (392, .if_icmp .ge 138, 3, [279], vN), (395, .iload 12, 2, [12], vN), (397, .aload 8, 2, [8], vN), (399, .iload 13, 2, [13], vN), (401, .iaload, 1, [], vN), (402, .ifCond .ge 7, 3, [217], vN), (405, .iconst 1, 1, [], vI 1), (406, .goto 4, 3, [218], vN), (409, .iconst 0, 1, [], vI 0), (410, .iadd, 1, [], vN), (411, .istore 12, 2, [12], vN), (413, .aload_n 0, 1, [0], vN), (414, .iload 13, 2, [13], vN), (416, .iconst 0, 1, [], vI 0), (417, .invokevirtual 72, 3, [7, 7], vN), (420, .aload 7, 2, [7], vN), (422, .iload 13, 2, [13], vN), (424, .iaload, 1, [], vN), (425, .if_icmp .ne 97, 3, [275], vN), (428, .aload_n 0, 1, [0], vN), (429, .iload 13, 2, [13], vN), (431, .iconst 1, 1, [], vI 1), (432, .invokevirtual 72, 3, [7, 7], vN), (435, .aload 8, 2, [8], vN), (437, .iload 13, 2, [13], vN), (439, .iaload, 1, [], vN), (440, .ifCond .ge 8, 3, [238], vN), (443, .bipush (-6), 2, [], vI (-6)), (445, .goto 8, 3, [241], vN), (448, .aload 8, 2, [8], vN), (450, .iload 13, 2, [13], vN), (452, .iaload, 1, [], vN), (453, .if_icmp .ne 69, 3, [275], vN), (456, .aload_n 0, 1, [0], vN), (457, .iload 13, 2, [13], vN), (459, .iconst 2, 1, [], vI 2), (460, .invokevirtual 72, 3, [7, 7], vN), (463, .aload 9, 2, [9], vN), (465, .iload 13, 2, [13], vN), (467, .iaload, 1, [], vN), (468, .ifCond .ge 8, 3, [252], vN), (471, .bipush (-6), 2, [], vI (-6)), (473, .goto 8, 3, [255], vN), (476, .aload 9, 2, [9], vN), (478, .iload 13, 2, [13], vN), (480, .iaload, 1, [], vN), (481, .if_icmp .ne 41, 3, [275], vN), (484, .aload_n 0, 1, [0], vN), (485, .iload 13, 2, [13], vN), (487, .iconst 3, 1, [], vI 3), (488, .invokevirtual 72, 3, [7, 7], vN), (491, .aload 8, 2, [8], vN), (493, .iload 13, 2, [13], vN), (495, .iaload, 1, [], vN), (496, .ifCond .lt 22, 3, [273], vN), (499, .aload 8, 2, [8], vN), (501, .aload 9, 2, [9], vN), (503, .aload 9, 2, [9], vN), (505, .iload 13, 2, [13], vN), (507, .iaload, 1, [], vN), (508, .invokestatic 55, 3, [7, 0], vN), (511, .ifCond .ne 7, 3, [273], vN), (514, .iconst 1, 1, [], vI 1), (515, .goto 4, 3, [274], vN), (518, .iconst 0, 1, [], vI 0), (519, .if_icmp .eq 5, 3, [277], vN), (522, .iconst 0, 1, [], vI 0), (523, .ireturn, 1, [], vN), (524, .iinc 13 1, 3, [13], vI 1), (527, .goto (-141), 3, [205], vN), (530, .aload_n 0, 1, [0], vN), (531, .invokevirtual 75, 3, [8, 7], vN), (534, .aload 10, 2, [10], vN), (536, .iconst 1, 1, [], vI 1), (537, .iaload, 1, [], vN), (538, .if_icmp .ne 36, 3, [301], vN), (541, .aload_n 0, 1, [0], vN), (542, .invokevirtual 78, 3, [9, 7], vN), (545, .aload 10, 2, [10], vN), (547, .iconst 2, 1, [], vI 2), (548, .iaload, 1, [], vN), (549, .if_icmp .ne 25, 3, [301], vN), (552, .aload_n 0, 1, [0], vN), (553, .invokevirtual 81, 3, [10, 7], vN), (556, .iload 12, 2, [12], vN), (558, .if_icmp .ne 16, 3, [301], vN), (561, .aload_n 0, 1, [0], vN), (562, .invokevirtual 84, 3, [11, 7], vN), (565, .iload 11, 2, [11], vN), (567, .if_icmp .ne 7, 3, [301], vN), (570, .iconst 1, 1, [], vI 1), (571, .goto 4, 3, [302], vN), (574, .iconst 0, 1, [], vI 0), (575, .ireturn, 1, [], vN)]
def hL_lines : List (Nat × List Bool) := [(6, [true, true, true, true, true, true, true, true, true, true, true, true, true, false, false, false, false]), (28, [true, true, true, true, true, true, true, true, true, true, true, true, true, true, true, true, false]), (49, [true, true, true, true, true, true, true, true, true, true, true, true, true, true, true, true, false]), (114, [true, true, true, true, true, true, true, true, true, true, true, false, true, true, true, true, false]), (170, [true, true, true, true, true, true, true, true, true, true, true, true, true, true, true, true, false]), (212, [true, true, true, true, true, true, true, true, true, true, true, true, true, false, true, true, false]), (273, [true, true, true, true, true, true, true, true, true, true, true, true, true, false, false, false, false]), (274, [true, true, true, true, true, true, true, true, true, true, true, true, true, false, false, false, false]), (303, [true, true, true, true, true, true, true, true, true, true, true, true, true, false, false, false, false]), (330, [true, true, true, true, true, true, true, true, true, true, true, true, true, false, false, false, false]), (357, [true, true, true, true, true, true, true, true, true, true, true, true, true, false, false, false, false]), (364, [true, true, true, true, true, true, true, true, true, true, true, true, true, false, false, false, false]), (365, [true, true, true, true, true, true, true, true, true, true, true, true, true, false, false, false, false]), (386, [true, false, false, false, false, false, false, true, true, true, true, true, true, true, false, false, false]), (410, [true, false, false, false, false, false, false, true, true, true, true, true, false, true, false, false, false]), (453, [true, false, false, false, false, false, false, true, true, true, true, true, true, true, false, false, false]), (481, [true, false, false, false, false, false, false, true, true, true, true, true, true, true, false, false, false]), (518, [true, false, false, false, false, false, false, true, true, true, true, true, true, true, false, false, false])]
def eL_lines : xE := (12, mL_lines, tL_lines, hL_lines, ceL)
def tL_follows : List xT := [(0, .bipush (-6), 2, [], vI (-6)), (2, .istore 13, 2, [13], vN), (4, .bipush (-6), 2, [], vI (-6)), (6, .istore 14, 2, [14], vN), (8, .sipush 255, 3, [], vI 255), (11, .istore 15, 2, [15], vN), (13, .iload 15, 2, [15], vN), (15, .ifCond .lt 249, 3, [140], vN), (18, .aload_n 1, 1, [1], vN), (19, .aload_n 2, 1, [2], vN), (20, .aload_n 3, 1, [3], vN), (21, .aload 10, 2, [10], vN), (23, .iload 15, 2, [15], vN), (25, .invokestatic 37, 3, [5, 0], vN), (28, .lstore 16, 2, [16], vN), (30, .iconst 1, 1, [], vI 1), (31, .istore 18, 2, [18], vN), (33, .iconst 1, 1, [], vI 1), (34, .istore 19, 2, [19], vN), (36, .iconst 0, 1, [], vI 0), (37, .istore 20, 2, [20], vN), (39, .iload 20, 2, [20], vN), (41, .aload 10, 2, [10], vN), (43, .iconst 1, 1, [], vI 1), (44, .iaload, 1, [], vN), (45, .if_icmp .ge 93, 3, [73], vN), (48, .lload 16, 2, [16], vN), (50, .aload 4, 2, [4], vN), (52, .iload 20, 2, [20], vN), (54, .iaload, 1, [], vN), (55, .lshr, 1, [], vN), (56, .lconst 1, 1, [], vL 1), (57, .land, 1, [], vN), (58, .lconst 1, 1, [], vL 1), (59, .lcmp, 1, [], vN), (60, .ifCond .ne 7, 3, [38], vN), (63, .iconst 1, 1, [], vI 1), (64, .goto 4, 3, [39], vN), (67, .iconst 0, 1, [], vI 0), (68, .istore 21, 2, [21], vN), (70, .iload 18, 2, [18], vN), (72, .ifCond .eq 20, 3, [50], vN), (75, .aload 5, 2, [5], vN), (77, .iload 20, 2, [20], vN), (79, .iaload, 1, [], vN), (80, .ifCond .ne 8, 3, [48], vN), (83, .iload 21, 2, [21], vN), (85, .ifCond .eq 7, 3, [50], vN), (88, .iconst 1, 1, [], vI 1), (89, .goto 4, 3, [51], vN), (92, .iconst 0, 1, [], vI 0), (93, .istore 18, 2, [18], vN), (95, .iload 19, 2, [19], vN), (97, .ifCond .eq 32, 3, [69], vN), (100, .aload 5, 2, [5], vN), (102, .iload 20, 2, [20], vN), (104, .iaload, 1, [], vN), (105, .iconst 1, 1, [], vI 1), (106, .if_icmp .ne 19, 3, [67], vN), (109, .aload 8, 2, [8], vN), (111, .aload 6, 2, [6], vN), (113, .iload 20, 2, [20], vN), (115, .iaload, 1, [], vN), (116, .iaload, 1, [], vN), (117, .ifCond .ge 8, 3, [67], vN), (120, .iload 21, 2, [21], vN), (122, .ifCond .eq 7, 3, [69], vN), (125, .iconst 1, 1, [], vI 1), (126, .goto 4, 3, [70], vN), (129, .iconst 0, 1, [], vI 0), (130, .istore 19, 2, [19], vN), (132, .iinc 20 1, 3, [20], vI 1), (135, .goto (-96), 3, [21], vN), (138, .iconst 1, 1, [], vI 1), (139, .istore 20, 2, [20], vN), (141, .aload 6, 2, [6], vN), (143, .iload 12, 2, [12], vN), (145, .iaload, 1, [], vN), (146, .istore 21, 2, [21], vN), (148, .iload 21, 2, [21], vN), (150, .ifCond .lt 43, 3, [104], vN), (153, .iload 20, 2, [20], vN), (155, .ifCond .eq 25, 3, [97], vN), (158, .lload 16, 2, [16], vN), (160, .aload 4, 2, [4], vN), (162, .aload 7, 2, [7], vN), (164, .iload 21, 2, [21], vN), (166, .iaload, 1, [], vN), (167, .iaload, 1, [], vN), (168, .lshr, 1, [], vN), (169, .lconst 1, 1, [], vL 1), (170, .land, 1, [], vN), (171, .lconst 1, 1, [], vL 1), (172, .lcmp, 1, [], vN), (173, .ifCond .ne 7, 3, [97], vN), (176, .iconst 1, 1, [], vI 1), (177, .goto 4, 3, [98], vN), (180, .iconst 0, 1, [], vI 0), (181, .istore 20, 2, [20], vN), (183, .aload 9, 2, [9], vN), (185, .iload 21, 2, [21], vN), (187, .iaload, 1, [], vN), (188, .istore 21, 2, [21], vN), (190, .goto (-42), 3, [79], vN), (193, .iload 18, 2, [18], vN), (195, .ifCond .eq 28, 3, [120], vN), (198, .iload 20, 2, [20], vN), (200, .ifCond .eq 23, 3, [120], vN), (203, .lload 16, 2, [16], vN), (205, .aload 4, 2, [4], vN), (207, .iload 12, 2, [12], vN), (209, .iaload, 1, [], vN), (210, .lshr, 1, [], vN), (211, .lconst 1, 1, [], vL 1), (212, .land, 1, [], vN), (213, .lconst 0, 1, [], vL 0), (214, .lcmp, 1, [], vN), (215, .ifCond .ne 8, 3, [120], vN), (218, .iload 15, 2, [15], vN), (220, .goto 5, 3, [121], vN), (223, .iload 13, 2, [13], vN), (225, .istore 13, 2, [13], vN), (227, .iload 18, 2, [18], vN), (229, .ifCond .eq 25, 3, [136], vN), (232, .iload 19, 2, [19], vN), (234, .ifCond .eq 20, 3, [136], vN), (237, .lload 16, 2, [16], vN), (239, .iload 11, 2, [11], vN), (241, .lshr, 1, [], vN), (242, .lconst 1, 1, [], vL 1), (243, .land, 1, [], vN), (244, .lconst 0, 1, [], vL 0), (245, .lcmp, 1, [], vN), (246, .ifCond .ne 8, 3, [136], vN), (249, .iload 15, 2, [15], vN), (251, .goto 5, 3, [137], vN), (254, .iload 14, 2, [14], vN), (256, .istore 14, 2, [14], vN), (258, .iinc 15 (-1), 3, [15], vI (-1)), (261, .goto (-248), 3, [6], vN), (264, .iload 13, 2, [13], vN), (266, .bipush (-6), 2, [], vI (-6)), (268, .if_icmp .ne 29, 3, [155], vN), (271, .aload_n 0, 1, [0], vN), (272, .iload 12, 2, [12], vN), (274, .invokevirtual 87, 3, [12, 7], vN), (277, .iload 13, 2, [13], vN), (279, .if_icmp .ne 18, 3, [155], vN), (282, .aload_n 0, 1, [0], vN), (283, .iload 11, 2, [11], vN), (285, .invokevirtual 90, 3, [13, 7], vN), (288, .iload 14, 2, [14], vN), (290, .if_icmp .ne 7, 3, [155], vN), (293, .iconst 1, 1, [], vI 1), (294, .goto 4, 3, [156], vN), (297, .iconst 0, 1, [], vI 0), (298, .ireturn, 1, [], vN)]
def hL_follows : List (Nat × List Bool) := [(13, [true, true, true, true, true, true, true, true, true, true, true, true, true, true, true, true, false, false, false, false, false, false]), (39, [true, true, true, true, true, true, true, true, true, true, true, true, true, true, true, true, true, false, true, true, true, false]), (68, [true, true, true, true, true, true, true, true, true, true, true, true, true, true, true, true, true, false, true, true, true, false]), (88, [true, true, true, true, true, true, true, true, true, true, true, true, true, true, true, true, true, false, false, true, true, true]), (92, [true, true, true, true, true, true, true, true, true, true, true, true, true, true, true, true, true, false, false, true, true, true]), (93, [true, true, true, true, true, true, true, true, true, true, true, true, true, true, true, true, true, false, false, true, true, true]), (125, [true, true, true, true, true, true, true, true, true, true, true, true, true, true, true, true, true, false, true, false, true, false]), (129, [true, true, true, true, true, true, true, true, true, true, true, true, true, true, true, true, true, false, true, false, true, false]), (130, [true, true, true, true, true, true, true, true, true, true, true, true, true, true, true, true, true, false, true, false, true, false]), (148, [true, true, true, true, true, true, true, true, true, true, true, true, true, true, true, true, true, false, true, true, true, true]), (180, [true, true, true, true, true, true, true, true, true, true, true, true, true, true, true, true, true, false, true, true, false, true]), (181, [true, true, true, true, true, true, true, true, true, true, true, true, true, true, true, true, true, false, true, true, false, true]), (223, [true, true, true, true, true, true, true, true, true, true, true, true, true, true, true, true, true, false, true, true, false, false]), (225, [true, true, true, true, true, true, true, true, true, true, true, true, true, false, true, true, true, false, true, true, false, false]), (254, [true, true, true, true, true, true, true, true, true, true, true, true, true, true, true, true, false, false, false, false, false, false]), (256, [true, true, true, true, true, true, true, true, true, true, true, true, true, true, false, true, false, false, false, false, false, false])]
def eL_follows : xE := (12, mL_follows, tL_follows, hL_follows, ceL)
def tL_shorten : List xT := [(0, .iconst 0, 1, [], vI 0), (1, .istore 4, 2, [4], vN), (3, .iconst 0, 1, [], vI 0), (4, .istore 5, 2, [5], vN), (6, .iload 5, 2, [5], vN), (8, .aload_n 3, 1, [3], vN), (9, .iconst 1, 1, [], vI 1), (10, .iaload, 1, [], vN), (11, .if_icmp .ge 164, 3, [98], vN), (14, .aload_n 0, 1, [0], vN), (15, .iload 5, 2, [5], vN), (17, .iaload, 1, [], vN), (18, .bipush 8, 2, [], vI 8), (20, .if_icmp .eq 16, 3, [21], vN), (23, .aload_n 0, 1, [0], vN), (24, .iload 5, 2, [5], vN), (26, .iaload, 1, [], vN), (27, .bipush 10, 2, [], vI 10), (29, .if_icmp .eq 7, 3, [21], vN), (32, .iconst 1, 1, [], vI 1), (33, .goto 4, 3, [22], vN), (36, .iconst 0, 1, [], vI 0), (37, .istore 6, 2, [6], vN), (39, .aload_n 1, 1, [1], vN), (40, .iload 5, 2, [5], vN), (42, .iaload, 1, [], vN), (43, .istore 7, 2, [7], vN), (45, .iload 6, 2, [6], vN), (47, .ifCond .eq 32, 3, [44], vN), (50, .iload 7, 2, [7], vN), (52, .ifCond .lt 27, 3, [44], vN), (55, .aload_n 0, 1, [0], vN), (56, .aload_n 1, 1, [1], vN), (57, .aload_n 2, 1, [2], vN), (58, .iload 7, 2, [7], vN), (60, .invokestatic 48, 3, [6, 0], vN), (63, .ifCond .lt 16, 3, [44], vN), (66, .aload_n 0, 1, [0], vN), (67, .aload_n 1, 1, [1], vN), (68, .aload_n 2, 1, [2], vN), (69, .iload 7, 2, [7], vN), (71, .invokestatic 48, 3, [6, 0], vN), (74, .istore 7, 2, [7], vN), (76, .goto (-31), 3, [27], vN), (79, .aload_n 2, 1, [2], vN), (80, .iload 5, 2, [5], vN), (82, .iaload, 1, [], vN), (83, .istore 8, 2, [8], vN), (85, .aload_n 0, 1, [0], vN), (86, .iload 5, 2, [5], vN), (88, .iaload, 1, [], vN), (89, .bipush 7, 2, [], vI 7), (91, .if_icmp .eq 32, 3, [68], vN), (94, .iload 8, 2, [8], vN), (96, .ifCond .lt 27, 3, [68], vN), (99, .aload_n 0, 1, [0], vN), (100, .aload_n 1, 1, [1], vN), (101, .aload_n 2, 1, [2], vN), (102, .iload 8, 2, [8], vN), (104, .invokestatic 48, 3, [6, 0], vN), (107, .ifCond .lt 16, 3, [68], vN), (110, .aload_n 0, 1, [0], vN), (111, .aload_n 1, 1, [1], vN), (112, .aload_n 2, 1, [2], vN), (113, .iload 8, 2, [8], vN), (115, .invokestatic 48, 3, [6, 0], vN), (118, .istore 8, 2, [8], vN), (120, .goto (-35), 3, [48], vN), (123, .iload 4, 2, [4], vN), (125, .iload 7, 2, [7], vN), (127, .aload_n 1, 1, [1], vN), (128, .iload 5, 2, [5], vN), (130, .iaload, 1, [], vN), (131, .if_icmp .ne 7, 3, [76], vN), (134, .iconst 0, 1, [], vI 0), (135, .goto 4, 3, [77], vN), (138, .iconst 1, 1, [], vI 1), (139, .iload 8, 2, [8], vN), (141, .aload_n 2, 1, [2], vN), (142, .iload 5, 2, [5], vN), (144, .iaload, 1, [], vN), (145, .if_icmp .ne 7, 3, [84], vN), (148, .iconst 0, 1, [], vI 0), (149, .goto 4, 3, [85], vN), (152, .iconst 1, 1, [], vI 1), (153, .iadd, 1, [], vN), (154, .iadd, 1, [], vN), (155, .istore 4, 2, [4], vN), (157, .aload_n 1, 1, [1], vN), (158, .iload 5, 2, [5], vN), (160, .iload 7, 2, [7], vN), (162, .iastore, 1, [], vN), (163, .aload_n 2, 1, [2], vN), (164, .iload 5, 2, [5], vN), (166, .iload 8, 2, [8], vN), (168, .iastore, 1, [], vN), (169, .iinc 5 1, 3, [5], vI 1), (172, .goto (-166), 3, [4], vN), (175, .iload 4, 2, [4], vN), (177, .ireturn, 1, [], vN)]
def hL_shorten : List (Nat × List Bool) := [(6, [true, true, true, true, true, true, false, false, false]), (36, [true, true, true, true, true, true, false, false, false]), (37, [true, true, true, true, true, true, false, false, false]), (45, [true, true, true, true, true, true, true, true, false]), (79, [true, true, true, true, true, true, false, true, false]), (85, [true, true, true, true, true, true, false, true, true]), (123, [true, true, true, true, true, true, false, true, true]), (139, [true, true, true, true, false, true, false, true, true]), (153, [true, true, true, true, false, true, false, true, true])]
def eL_shorten : xE := (12, mL_shorten, tL_shorten, hL_shorten, ceL)
theorem okL_shorten : xEok eL_shorten := ⟨by decide +kernel, by decide +kernel, by decide +kernel, ceL_ok, rfl, by decide +kernel⟩
def tL_trim : List xT := [(12, .iconst 0, 1, [], vI 0), (13, .istore 14, 2, [14], vN), (15, .iconst 0, 1, [], vI 0), (16, .istore 15, 2, [15], vN), (18, .iconst 0, 1, [], vI 0), (19, .istore 16, 2, [16], vN), (21, .iload 16, 2, [16], vN), (23, .aload 9, 2, [9], vN), (25, .iconst 1, 1, [], vI 1), (26, .iaload, 1, [], vN), (27, .if_icmp .ge 30, 3, [27], vN), (30, .aload 12, 2, [12], vN), (32, .iload 16, 2, [16], vN), (34, .iload 14, 2, [14], vN), (36, .iastore, 1, [], vN), (37, .iload 14, 2, [14], vN), (39, .i2l, 1, [], vN), (40, .lload 10, 2, [10], vN), (42, .iload 16, 2, [16], vN), (44, .lshr, 1, [], vN), (45, .lconst 1, 1, [], vL 1), (46, .land, 1, [], vN), (47, .ladd, 1, [], vN), (48, .l2i, 1, [], vN), (49, .istore 14, 2, [14], vN), (51, .iinc 16 1, 3, [16], vI 1), (54, .goto (-33), 3, [6], vN), (57, .iconst 0, 1, [], vI 0), (58, .istore 16, 2, [16], vN), (60, .iload 16, 2, [16], vN), (62, .aload 9, 2, [9], vN), (64, .iconst 2, 1, [], vI 2), (65, .iaload, 1, [], vN), (66, .if_icmp .ge 101, 3, [89], vN), (69, .lload 10, 2, [10], vN), (71, .aload 6, 2, [6], vN), (73, .iload 16, 2, [16], vN), (75, .iaload, 1, [], vN), (76, .lshr, 1, [], vN), (77, .lconst 1, 1, [], vL 1), (78, .land, 1, [], vN), (79, .lconst 1, 1, [], vL 1), (80, .lcmp, 1, [], vN), (81, .ifCond .ne 7, 3, [46], vN), (84, .iconst 1, 1, [], vI 1), (85, .goto 4, 3, [47], vN), (88, .iconst 0, 1, [], vI 0), (89, .istore 17, 2, [17], vN), (91, .aload 13, 2, [13], vN), (93, .iload 16, 2, [16], vN), (95, .iload 15, 2, [15], vN), (97, .iastore, 1, [], vN), (98, .iload 17, 2, [17], vN), (100, .ifCond .eq 61, 3, [87], vN), (103, .aload 8, 2, [8], vN), (105, .iload 16, 2, [16], vN), (107, .iaload, 1, [], vN), (108, .ifCond .ge 7, 3, [60], vN), (111, .iconst (-1), 1, [], vI (-1)), (112, .goto 11, 3, [65], vN), (115, .aload 13, 2, [13], vN), (117, .aload 8, 2, [8], vN), (119, .iload 16, 2, [16], vN), (121, .iaload, 1, [], vN), (122, .iaload, 1, [], vN), (123, .istore 18, 2, [18], vN), (125, .aload 6, 2, [6], vN), (127, .iload 15, 2, [15], vN), (129, .aload 12, 2, [12], vN), (131, .aload 6, 2, [6], vN), (133, .iload 16, 2, [16], vN), (135, .iaload, 1, [], vN), (136, .iaload, 1, [], vN), (137, .iastore, 1, [], vN), (138, .aload 7, 2, [7], vN), (140, .iload 15, 2, [15], vN), (142, .aload 12, 2, [12], vN), (144, .aload 7, 2, [7], vN), (146, .iload 16, 2, [16], vN), (148, .iaload, 1, [], vN), (149, .iaload, 1, [], vN), (150, .iastore, 1, [], vN), (151, .aload 8, 2, [8], vN), (153, .iload 15, 2, [15], vN), (155, .iload 18, 2, [18], vN), (157, .iastore, 1, [], vN), (158, .iinc 15 1, 3, [15], vI 1), (161, .iinc 16 1, 3, [16], vI 1), (164, .goto (-104), 3, [29], vN), (167, .iconst 0, 1, [], vI 0), (168, .istore 16, 2, [16], vN), (170, .iload 16, 2, [16], vN), (172, .aload 9, 2, [9], vN), (174, .iconst 1, 1, [], vI 1), (175, .iaload, 1, [], vN), (176, .if_icmp .ge 208, 3, [219], vN), (179, .lload 10, 2, [10], vN), (181, .iload 16, 2, [16], vN), (183, .lshr, 1, [], vN), (184, .lconst 1, 1, [], vL 1), (185, .land, 1, [], vN), (186, .lconst 1, 1, [], vL 1), (187, .lcmp, 1, [], vN), (188, .ifCond .ne 190, 3, [217], vN), (191, .aload_n 1, 1, [1], vN), (192, .iload 16, 2, [16], vN), (194, .iaload, 1, [], vN), (195, .bipush 8, 2, [], vI 8), (197, .if_icmp .eq 12, 3, [114], vN), (200, .aload_n 1, 1, [1], vN), (201, .iload 16, 2, [16], vN), (203, .iaload, 1, [], vN), (204, .bipush 10, 2, [], vI 10), (206, .if_icmp .ne 7, 3, [116], vN), (209, .iconst 1, 1, [], vI 1), (210, .goto 4, 3, [117], vN), (213, .iconst 0, 1, [], vI 0), (214, .istore 17, 2, [17], vN), (216, .aload_n 0, 1, [0], vN), (217, .aload 12, 2, [12], vN), (219, .iload 16, 2, [16], vN), (221, .iaload, 1, [], vN), (222, .aload_n 0, 1, [0], vN), (223, .iload 16, 2, [16], vN), (225, .iaload, 1, [], vN), (226, .iastore, 1, [], vN), (227, .aload_n 2, 1, [2], vN), (228, .aload 12, 2, [12], vN), (230, .iload 16, 2, [16], vN), (232, .iaload, 1, [], vN), (233, .aload_n 2, 1, [2], vN), (234, .iload 16, 2, [16], vN), (236, .iaload, 1, [], vN), (237, .ifCond .ge 7, 3, [136], vN), (240, .iconst (-1), 1, [], vI (-1)), (241, .goto 25, 3, [149], vN), (244, .iload 17, 2, [17], vN), (246, .ifCond .eq 13, 3, [144], vN), (249, .aload 13, 2, [13], vN), (251, .aload_n 2, 1, [2], vN), (252, .iload 16, 2, [16], vN), (254, .iaload, 1, [], vN), (255, .iaload, 1, [], vN), (256, .goto 10, 3, [149], vN), (259, .aload 12, 2, [12], vN), (261, .aload_n 2, 1, [2], vN), (262, .iload 16, 2, [16], vN), (264, .iaload, 1, [], vN), (265, .iaload, 1, [], vN), (266, .iastore, 1, [], vN), (267, .aload_n 3, 1, [3], vN), (268, .aload 12, 2, [12], vN), (270, .iload 16, 2, [16], vN), (272, .iaload, 1, [], vN), (273, .aload_n 3, 1, [3], vN), (274, .iload 16, 2, [16], vN), (276, .iaload, 1, [], vN), (277, .ifCond .ge 7, 3, [160], vN), (280, .iconst (-1), 1, [], vI (-1)), (281, .goto 29, 3, [176], vN), (284, .aload_n 1, 1, [1], vN), (285, .iload 16, 2, [16], vN), (287, .iaload, 1, [], vN), (288, .bipush 7, 2, [], vI 7), (290, .if_icmp .ne 13, 3, [171], vN), (293, .aload 13, 2, [13], vN), (295, .aload_n 3, 1, [3], vN), (296, .iload 16, 2, [16], vN), (298, .iaload, 1, [], vN), (299, .iaload, 1, [], vN), (300, .goto 10, 3, [176], vN), (303, .aload 12, 2, [12], vN), (305, .aload_n 3, 1, [3], vN), (306, .iload 16, 2, [16], vN), (308, .iaload, 1, [], vN), (309, .iaload, 1, [], vN), (310, .iastore, 1, [], vN), (311, .aload 4, 2, [4], vN), (313, .aload 12, 2, [12], vN), (315, .iload 16, 2, [16], vN), (317, .iaload, 1, [], vN), (318, .aload 4, 2, [4], vN), (320, .iload 16, 2, [16], vN), (322, .iaload, 1, [], vN), (323, .ifCond .ge 7, 3, [187], vN), (326, .iconst (-1), 1, [], vI (-1)), (327, .goto 11, 3, [192], vN), (330, .aload 13, 2, [13], vN), (332, .aload 4, 2, [4], vN), (334, .iload 16, 2, [16], vN), (336, .iaload, 1, [], vN), (337, .iaload, 1, [], vN), (338, .iastore, 1, [], vN), (339, .aload 5, 2, [5], vN), (341, .aload 12, 2, [12], vN), (343, .iload 16, 2, [16], vN), (345, .iaload, 1, [], vN), (346, .aload 5, 2, [5], vN), (348, .iload 16, 2, [16], vN), (350, .iaload, 1, [], vN), (351, .ifCond .ge 7, 3, [203], vN), (354, .iconst (-1), 1, [], vI (-1)), (355, .goto 11, 3, [208], vN), (358, .aload 13, 2, [13], vN), (360, .aload 5, 2, [5], vN), (362, .iload 16, 2, [16], vN), (364, .iaload, 1, [], vN), (365, .iaload, 1, [], vN), (366, .iastore, 1, [], vN), (367, .aload_n 1, 1, [1], vN), (368, .aload 12, 2, [12], vN), (370, .iload 16, 2, [16], vN), (372, .iaload, 1, [], vN), (373, .aload_n 1, 1, [1], vN), (374, .iload 16, 2, [16], vN), (376, .iaload, 1, [], vN), (377, .iastore, 1, [], vN), (378, .iinc 16 1, 3, [16], vI 1), (381, .goto (-211), 3, [91], vN), (384, .aload 9, 2, [9], vN), (386, .iconst 1, 1, [], vI 1), (387, .iload 14, 2, [14], vN), (389, .iastore, 1, [], vN), (390, .aload 9, 2, [9], vN), (392, .iconst 2, 1, [], vI 2), (393, .iload 15, 2, [15], vN), (395, .iastore, 1, [], vN), (396, .return_, 1, [], vN)]
def hL_trim : List (Nat × List Bool) := [(21, [true, true, true, true, true, true, true, true, true, true, true, false, true, true, true, true, true, false, false]), (60, [true, true, true, true, true, true, true, true, true, true, true, false, true, true, true, true, true, false, false]), (89, [true, true, true, true, true, true, true, true, true, true, true, false, true, true, true, true, true, false, false]), (123, [true, true, true, true, true, true, true, true, true, true, true, false, true, true, true, true, true, false, false]), (161, [true, true, true, true, true, true, true, true, true, true, true, false, true, true, true, true, true, false, false]), (170, [true, true, true, true, true, true, false, false, false, true, true, false, true, true, true, true, true, false, false]), (209, [true, true, true, true, true, true, false, false, false, true, true, false, true, true, true, true, true, false, false]), (214, [true, true, true, true, true, true, false, false, false, true, true, false, true, true, true, true, true, false, false]), (266, [true, true, true, true, true, true, false, false, false, true, true, false, true, true, true, true, true, false, false]), (310, [true, true, true, true, true, true, false, false, false, true, true, false, true, true, true, true, true, false, false]), (338, [true, true, true, true, true, true, false, false, false, true, true, false, true, true, true, true, true, false, false]), (366, [true, true, true, true, true, true, false, false, false, true, true, false, true, true, true, true, true, false, false]), (378, [true, true, true, true, true, true, false, false, false, true, true, false, true, true, true, true, true, false, false]), (396, [false, false, false, false, false, false, false, false, false, false, false, false, false, false, false, false, false, false, false])]
def eL_trim : xE := (12, mL_trim, tL_trim, hL_trim, ceL)
def tL_rule : List xT := [(0, .iload 8, 2, [8], vN), (2, .bipush 8, 2, [], vI 8), (4, .if_icmp .eq 10, 3, [6], vN), (7, .iload 8, 2, [8], vN), (9, .bipush 10, 2, [], vI 10), (11, .if_icmp .ne 7, 3, [8], vN), (14, .iconst 1, 1, [], vI 1), (15, .goto 4, 3, [9], vN), (18, .iconst 0, 1, [], vI 0), (19, .istore 12, 2, [12], vN), (21, .iload 12, 2, [12], vN), (23, .ifCond .eq 29, 3, [24], vN), (26, .aload 6, 2, [6], vN), (28, .iload 9, 2, [9], vN), (30, .iaload, 1, [], vN), (31, .ifCond .lt 36, 3, [31], vN), (34, .aload 6, 2, [6], vN), (36, .aload 7, 2, [7], vN), (38, .aload 7, 2, [7], vN), (40, .iload 9, 2, [9], vN), (42, .iaload, 1, [], vN), (43, .invokestatic 55, 3, [7, 0], vN), (46, .ifCond .eq 23, 3, [33], vN), (49, .goto 18, 3, [31], vN), (52, .aload 6, 2, [6], vN), (54, .aload 7, 2, [7], vN), (56, .aload 4, 2, [4], vN), (58, .iload 9, 2, [9], vN), (60, .iaload, 1, [], vN), (61, .invokestatic 55, 3, [7, 0], vN), (64, .ifCond .eq 5, 3, [33], vN), (67, .lconst 0, 1, [], vL 0), (68, .lreturn, 1, [], vN), (69, .iload 12, 2, [12], vN), (71, .ifCond .eq 13, 3, [41], vN), (74, .aload_n 3, 1, [3], vN), (75, .aload 5, 2, [5], vN), (77, .iload 9, 2, [9], vN), (79, .iaload, 1, [], vN), (80, .iaload, 1, [], vN), (81, .goto 7, 3, [44], vN), (84, .aload_n 3, 1, [3], vN), (85, .iload 9, 2, [9], vN), (87, .iaload, 1, [], vN), (88, .istore 13, 2, [13], vN), (90, .iload 12, 2, [12], vN), (92, .ifCond .eq 65, 3, [82], vN), (95, .aload_n 3, 1, [3], vN), (96, .aload 6, 2, [6], vN), (98, .iload 9, 2, [9], vN), (100, .iaload, 1, [], vN), (101, .iaload, 1, [], vN), (102, .istore 14, 2, [14], vN), (104, .iload 8, 2, [8], vN), (106, .bipush 8, 2, [], vI 8), (108, .if_icmp .ne 21, 3, [66], vN), (111, .ldc2_w 93, 3, [], vL 500000000), (114, .ldc2_w 95, 3, [], vL 1000), (117, .iload 13, 2, [13], vN), (119, .i2l, 1, [], vN), (120, .lmul, 1, [], vN), (121, .ladd, 1, [], vN), (122, .iload 14, 2, [14], vN), (124, .i2l, 1, [], vN), (125, .ladd, 1, [], vN), (126, .goto 30, 3, [81], vN), (129, .aload_n 0, 1, [0], vN), (130, .iload 14, 2, [14], vN), (132, .iaload, 1, [], vN), (133, .iconst 1, 1, [], vI 1), (134, .if_icmp .ne 21, 3, [80], vN), (137, .ldc2_w 97, 3, [], vL 200000000), (140, .ldc2_w 95, 3, [], vL 1000), (143, .iload 13, 2, [13], vN), (145, .i2l, 1, [], vN), (146, .lmul, 1, [], vN), (147, .ladd, 1, [], vN), (148, .ldc2_w 99, 3, [], vL 999), (151, .ladd, 1, [], vN), (152, .goto 4, 3, [81], vN), (155, .lconst 0, 1, [], vL 0), (156, .lreturn, 1, [], vN), (157, .iload 8, 2, [8], vN), (159, .bipush 7, 2, [], vI 7), (161, .if_icmp .ne 129, 3, [158], vN), (164, .aload 6, 2, [6], vN), (166, .iload 10, 2, [10], vN), (168, .iaload, 1, [], vN), (169, .ifCond .lt 53, 3, [114], vN), (172, .aload 6, 2, [6], vN), (174, .iload 11, 2, [11], vN), (176, .iaload, 1, [], vN), (177, .ifCond .lt 45, 3, [114], vN), (180, .aload 6, 2, [6], vN), (182, .aload 7, 2, [7], vN), (184, .aload 7, 2, [7], vN), (186, .iload 10, 2, [10], vN), (188, .iaload, 1, [], vN), (189, .invokestatic 55, 3, [7, 0], vN), (192, .ifCond .ne 30, 3, [114], vN), (195, .aload 6, 2, [6], vN), (197, .aload 7, 2, [7], vN), (199, .aload 7, 2, [7], vN), (201, .iload 11, 2, [11], vN), (203, .iaload, 1, [], vN), (204, .invokestatic 55, 3, [7, 0], vN), (207, .ifCond .ne 15, 3, [114], vN), (210, .aload_n 0, 1, [0], vN), (211, .iload 13, 2, [13], vN), (213, .iaload, 1, [], vN), (214, .iconst 4, 1, [], vI 4), (215, .if_icmp .ne 7, 3, [114], vN), (218, .iconst 1, 1, [], vI 1), (219, .goto 4, 3, [115], vN), (222, .iconst 0, 1, [], vI 0), (223, .istore 14, 2, [14], vN), (225, .iload 14, 2, [14], vN), (227, .ifCond .eq 61, 3, [156], vN), (230, .aload_n 3, 1, [3], vN), (231, .aload 5, 2, [5], vN), (233, .iload 10, 2, [10], vN), (235, .iaload, 1, [], vN), (236, .iaload, 1, [], vN), (237, .aload_n 1, 1, [1], vN), (238, .iload 13, 2, [13], vN), (240, .iaload, 1, [], vN), (241, .if_icmp .ne 47, 3, [156], vN), (244, .aload_n 3, 1, [3], vN), (245, .aload 5, 2, [5], vN), (247, .iload 11, 2, [11], vN), (249, .iaload, 1, [], vN), (250, .iaload, 1, [], vN), (251, .aload_n 2, 1, [2], vN), (252, .iload 13, 2, [13], vN), (254, .iaload, 1, [], vN), (255, .if_icmp .ne 33, 3, [156], vN), (258, .aload_n 3, 1, [3], vN), (259, .aload 6, 2, [6], vN), (261, .iload 10, 2, [10], vN), (263, .iaload, 1, [], vN), (264, .iaload, 1, [], vN), (265, .aload_n 3, 1, [3], vN), (266, .aload 6, 2, [6], vN), (268, .iload 11, 2, [11], vN), (270, .iaload, 1, [], vN), (271, .iaload, 1, [], vN), (272, .if_icmp .ne 16, 3, [156], vN), (275, .aload_n 3, 1, [3], vN), (276, .aload 6, 2, [6], vN), (278, .iload 10, 2, [10], vN), (280, .iaload, 1, [], vN), (281, .iaload, 1, [], vN), (282, .i2l, 1, [], vN), (283, .lconst 1, 1, [], vL 1), (284, .ladd, 1, [], vN), (285, .goto 4, 3, [157], vN), (288, .lconst 0, 1, [], vL 0), (289, .lreturn, 1, [], vN), (290, .iload 8, 2, [8], vN), (292, .iconst 4, 1, [], vI 4), (293, .if_icmp .eq 9, 3, [164], vN), (296, .iload 8, 2, [8], vN), (298, .iconst 5, 1, [], vI 5), (299, .if_icmp .ne 36, 3, [185], vN), (302, .aload_n 0, 1, [0], vN), (303, .iload 13, 2, [13], vN), (305, .iaload, 1, [], vN), (306, .iconst 3, 1, [], vI 3), (307, .if_icmp .ne 26, 3, [183], vN), (310, .iload 8, 2, [8], vN), (312, .iconst 4, 1, [], vI 4), (313, .if_icmp .ne 10, 3, [176], vN), (316, .aload_n 1, 1, [1], vN), (317, .iload 13, 2, [13], vN), (319, .iaload, 1, [], vN), (320, .goto 7, 3, [179], vN), (323, .aload_n 2, 1, [2], vN), (324, .iload 13, 2, [13], vN), (326, .iaload, 1, [], vN), (327, .i2l, 1, [], vN), (328, .lconst 1, 1, [], vL 1), (329, .ladd, 1, [], vN), (330, .goto 4, 3, [184], vN), (333, .lconst 0, 1, [], vL 0), (334, .lreturn, 1, [], vN), (335, .iload 8, 2, [8], vN), (337, .bipush 13, 2, [], vI 13), (339, .if_icmp .ne 35, 3, [211], vN), (342, .aload_n 0, 1, [0], vN), (343, .iload 13, 2, [13], vN), (345, .iaload, 1, [], vN), (346, .iconst 2, 1, [], vI 2), (347, .if_icmp .ne 25, 3, [209], vN), (350, .aload_n 0, 1, [0], vN), (351, .aload_n 1, 1, [1], vN), (352, .iload 13, 2, [13], vN), (354, .iaload, 1, [], vN), (355, .iaload, 1, [], vN), (356, .iconst 2, 1, [], vI 2), (357, .if_icmp .ne 15, 3, [209], vN), (360, .aload_n 1, 1, [1], vN), (361, .aload_n 1, 1, [1], vN), (362, .iload 13, 2, [13], vN), (364, .iaload, 1, [], vN), (365, .iaload, 1, [], vN), (366, .i2l, 1, [], vN), (367, .lconst 1, 1, [], vL 1), (368, .ladd, 1, [], vN), (369, .goto 4, 3, [210], vN), (372, .lconst 0, 1, [], vL 0), (373, .lreturn, 1, [], vN), (374, .iload 8, 2, [8], vN), (376, .iconst 2, 1, [], vI 2), (377, .if_icmp .ne 9, 3, [219], vN), (380, .iload 13, 2, [13], vN), (382, .i2l, 1, [], vN), (383, .lconst 1, 1, [], vL 1), (384, .ladd, 1, [], vN), (385, .lreturn, 1, [], vN), (386, .iload 8, 2, [8], vN), (388, .bipush 6, 2, [], vI 6), (390, .if_icmp .eq 10, 3, [225], vN), (393, .iload 8, 2, [8], vN), (395, .bipush 12, 2, [], vI 12), (397, .if_icmp .ne 74, 3, [265], vN), (400, .iload 8, 2, [8], vN), (402, .bipush 12, 2, [], vI 12), (404, .if_icmp .ne 19, 3, [237], vN), (407, .aload_n 0, 1, [0], vN), (408, .iload 13, 2, [13], vN), (410, .iaload, 1, [], vN), (411, .iconst 1, 1, [], vI 1), (412, .if_icmp .ne 7, 3, [235], vN), (415, .iconst 1, 1, [], vI 1), (416, .goto 38, 3, [255], vN), (419, .iconst 0, 1, [], vI 0), (420, .goto 34, 3, [255], vN), (423, .aload_n 0, 1, [0], vN), (424, .iload 10, 2, [10], vN), (426, .iaload, 1, [], vN), (427, .iconst 4, 1, [], vI 4), (428, .if_icmp .ne 25, 3, [254], vN), (431, .aload_n 1, 1, [1], vN), (432, .iload 10, 2, [10], vN), (434, .iaload, 1, [], vN), (435, .iload 13, 2, [13], vN), (437, .if_icmp .eq 12, 3, [252], vN), (440, .aload_n 2, 1, [2], vN), (441, .iload 10, 2, [10], vN), (443, .iaload, 1, [], vN), (444, .iload 13, 2, [13], vN), (446, .if_icmp .ne 7, 3, [254], vN), (449, .iconst 1, 1, [], vI 1), (450, .goto 4, 3, [255], vN), (453, .iconst 0, 1, [], vI 0), (454, .istore 14, 2, [14], vN), (456, .iload 14, 2, [14], vN), (458, .ifCond .eq 11, 3, [263], vN), (461, .iload 10, 2, [10], vN), (463, .i2l, 1, [], vN), (464, .lconst 1, 1, [], vL 1), (465, .ladd, 1, [], vN), (466, .goto 4, 3, [264], vN), (469, .lconst 0, 1, [], vL 0), (470, .lreturn, 1, [], vN), (471, .aload 6, 2, [6], vN), (473, .aload 7, 2, [7], vN), (475, .aload 4, 2, [4], vN), (477, .iload 10, 2, [10], vN), (479, .iaload, 1, [], vN), (480, .invokestatic 55, 3, [7, 0], vN), (483, .ifCond .eq 5, 3, [274], vN), (486, .lconst 0, 1, [], vL 0), (487, .lreturn, 1, [], vN), (488, .aload_n 3, 1, [3], vN), (489, .iload 10, 2, [10], vN), (491, .iaload, 1, [], vN), (492, .istore 14, 2, [14], vN), (494, .iload 8, 2, [8], vN), (496, .iconst 3, 1, [], vI 3), (497, .if_icmp .ne 21, 3, [291], vN), (500, .ldc2_w 101, 3, [], vL 300000000), (503, .ldc2_w 95, 3, [], vL 1000), (506, .iload 13, 2, [13], vN), (508, .i2l, 1, [], vN), (509, .lmul, 1, [], vN), (510, .ladd, 1, [], vN), (511, .iload 14, 2, [14], vN), (513, .i2l, 1, [], vN), (514, .ladd, 1, [], vN), (515, .goto 65, 3, [326], vN), (518, .iload 8, 2, [8], vN), (520, .bipush 9, 2, [], vI 9), (522, .if_icmp .ne 34, 3, [313], vN), (525, .aload_n 0, 1, [0], vN), (526, .iload 13, 2, [13], vN), (528, .iaload, 1, [], vN), (529, .iconst 5, 1, [], vI 5), (530, .if_icmp .ne 22, 3, [311], vN), (533, .aload_n 1, 1, [1], vN), (534, .iload 13, 2, [13], vN), (536, .iaload, 1, [], vN), (537, .iload 14, 2, [14], vN), (539, .if_icmp .ne 13, 3, [311], vN), (542, .aload_n 2, 1, [2], vN), (543, .iload 13, 2, [13], vN), (545, .iaload, 1, [], vN), (546, .i2l, 1, [], vN), (547, .lconst 1, 1, [], vL 1), (548, .ladd, 1, [], vN), (549, .goto 31, 3, [326], vN), (552, .lconst 0, 1, [], vL 0), (553, .goto 27, 3, [326], vN), (556, .aload_n 0, 1, [0], vN), (557, .iload 13, 2, [13], vN), (559, .iaload, 1, [], vN), (560, .iconst 2, 1, [], vI 2), (561, .if_icmp .ne 18, 3, [325], vN), (564, .aload_n 1, 1, [1], vN), (565, .iload 13, 2, [13], vN), (567, .iaload, 1, [], vN), (568, .iload 14, 2, [14], vN), (570, .if_icmp .ne 9, 3, [325], vN), (573, .ldc2_w 103, 3, [], vL 100999999), (576, .goto 4, 3, [326], vN), (579, .lconst 0, 1, [], vL 0), (580, .lreturn, 1, [], vN)]
def hL_rule : List (Nat × List Bool) := [(14, [true, true, true, true, true, true, true, true, true, true, true, true, false, false, false]), (19, [true, true, true, true, true, true, true, true, true, true, true, true, false, false, false]), (69, [true, true, true, true, true, true, true, true, true, true, true, true, true, false, false]), (88, [true, true, true, true, true, true, true, true, true, true, true, true, true, false, false]), (222, [false, true, true, true, false, true, true, false, false, false, true, true, false, true, false]), (223, [false, true, true, true, false, true, true, false, false, false, true, true, false, true, false]), (302, [true, true, true, false, false, false, false, false, true, false, false, false, false, true, false]), (327, [false, false, false, false, false, false, false, false, false, false, false, false, false, false, false]), (400, [true, true, true, false, false, false, false, false, true, false, true, false, false, true, false]), (449, [false, false, false, false, false, false, false, false, false, false, true, false, false, false, false]), (453, [false, false, false, false, false, false, false, false, false, false, true, false, false, false, false]), (454, [false, false, false, false, false, false, false, false, false, false, true, false, false, false, false]), (552, [false, false, false, false, false, false, false, false, false, false, false, false, false, false, false])]
def eL_rule : xE := (12, mL_rule, tL_rule, hL_rule, ceL)
def tL_law : List xT := [(86, .iload 15, 2, [15], vN), (88, .bipush 70, 2, [], vI 70), (90, .if_icmp .ge 1711, 3, [873], vN), (93, .aload_n 0, 1, [0], vN), (94, .iload 15, 2, [15], vN), (96, .invokestatic 106, 3, [0, 3], vN), (99, .istore 16, 2, [16], vN), (101, .aload_n 0, 1, [0], vN), (102, .bipush 70, 2, [], vI 70), (104, .iload 15, 2, [15], vN), (106, .iadd, 1, [], vN), (107, .invokestatic 106, 3, [0, 3], vN), (110, .istore 17, 2, [17], vN), (112, .iload 16, 2, [16], vN), (114, .bipush 24, 2, [], vI 24), (116, .invokestatic 34, 3, [4, 0], vN), (119, .istore 18, 2, [18], vN), (121, .aload 14, 2, [14], vN), (123, .iconst 1, 1, [], vI 1), (124, .iaload, 1, [], vN), (125, .bipush 48, 2, [], vI 48), (127, .if_icmp .ne 7, 3, [24], vN), (130, .iconst 1, 1, [], vI 1), (131, .goto 4, 3, [25], vN), (134, .iconst 0, 1, [], vI 0), (135, .istore 19, 2, [19], vN), (137, .iconst 1, 1, [], vI 1), (138, .istore 20, 2, [20], vN), (140, .iload 18, 2, [18], vN), (142, .iconst 4, 1, [], vI 4), (143, .if_icmp .lt 11, 3, [36], vN), (146, .aload 14, 2, [14], vN), (148, .iconst 0, 1, [], vI 0), (149, .iaload, 1, [], vN), (150, .iconst 3, 1, [], vI 3), (151, .if_icmp .ge 202, 3, [136], vN), (154, .aload 14, 2, [14], vN), (156, .iconst 0, 1, [], vI 0), (157, .iaload, 1, [], vN), (158, .iconst 3, 1, [], vI 3), (159, .if_icmp .ge 7, 3, [43], vN), (162, .iconst 0, 1, [], vI 0), (163, .goto 12, 3, [48], vN), (166, .iload 16, 2, [16], vN), (168, .iconst 5, 1, [], vI 5), (169, .ishr, 1, [], vN), (170, .bipush 6, 2, [], vI 6), (172, .invokestatic 34, 3, [4, 0], vN), (175, .istore 21, 2, [21], vN), (177, .iload 21, 2, [21], vN), (179, .iconst 2, 1, [], vI 2), (180, .if_icmp .ge 37, 3, [69], vN), (183, .iload 21, 2, [21], vN), (185, .ifCond .ne 28, 3, [67], vN), (188, .iload 16, 2, [16], vN), (190, .bipush 8, 2, [], vI 8), (192, .ishr, 1, [], vN), (193, .aload 14, 2, [14], vN), (195, .iconst 0, 1, [], vI 0), (196, .iaload, 1, [], vN), (197, .iconst 3, 1, [], vI 3), (198, .if_icmp .ge 8, 3, [64], vN), (201, .bipush 8, 2, [], vI 8), (203, .goto 4, 3, [65], vN), (206, .iconst 4, 1, [], vI 4), (207, .invokestatic 34, 3, [4, 0], vN), (210, .goto 19, 3, [76], vN), (213, .iconst (-1), 1, [], vI (-1)), (214, .goto 15, 3, [76], vN), (217, .iload 16, 2, [16], vN), (219, .bipush 8, 2, [], vI 8), (221, .ishr, 1, [], vN), (222, .aload 14, 2, [14], vN), (224, .iconst 0, 1, [], vI 0), (225, .iaload, 1, [], vN), (226, .invokestatic 34, 3, [4, 0], vN), (229, .istore 22, 2, [22], vN), (231, .iload 21, 2, [21], vN), (233, .iconst 3, 1, [], vI 3), (234, .if_icmp .ge 7, 3, [82], vN), (237, .iconst (-1), 1, [], vI (-1)), (238, .goto 15, 3, [89], vN), (241, .iload 16, 2, [16], vN), (243, .bipush 14, 2, [], vI 14), (245, .ishr, 1, [], vN), (246, .aload 14, 2, [14], vN), (248, .iconst 0, 1, [], vI 0), (249, .iaload, 1, [], vN), (250, .invokestatic 34, 3, [4, 0], vN), (253, .istore 23, 2, [23], vN), (255, .aload_n 2, 1, [2], vN), (256, .aload_n 3, 1, [3], vN), (257, .aload 4, 2, [4], vN), (259, .aload 14, 2, [14], vN), (261, .iload 21, 2, [21], vN), (263, .iload 22, 2, [22], vN), (265, .iload 23, 2, [23], vN), (267, .invokestatic 110, 3, [9, 0], vN), (270, .istore 24, 2, [24], vN), (272, .iload 21, 2, [21], vN), (274, .ifCond .ne 12, 3, [105], vN), (277, .aload_n 1, 1, [1], vN), (278, .iload 22, 2, [22], vN), (280, .invokevirtual 113, 3, [14, 7], vN), (283, .goto 41, 3, [123], vN), (286, .iload 21, 2, [21], vN), (288, .iconst 1, 1, [], vI 1), (289, .if_icmp .ne 10, 3, [111], vN), (292, .aload_n 1, 1, [1], vN), (293, .invokevirtual 116, 3, [15, 7], vN), (296, .goto 28, 3, [123], vN), (299, .iload 21, 2, [21], vN), (301, .iconst 2, 1, [], vI 2), (302, .if_icmp .ne 12, 3, [118], vN), (305, .aload_n 1, 1, [1], vN), (306, .iload 22, 2, [22], vN), (308, .invokevirtual 119, 3, [16, 7], vN), (311, .goto 13, 3, [123], vN), (314, .aload_n 1, 1, [1], vN), (315, .iload 21, 2, [21], vN), (317, .iload 22, 2, [22], vN), (319, .iload 23, 2, [23], vN), (321, .invokevirtual 122, 3, [17, 7], vN), (324, .istore 25, 2, [25], vN), (326, .iload 25, 2, [25], vN), (328, .iload 24, 2, [24], vN), (330, .ifCond .ge 8, 3, [129], vN), (333, .bipush (-4), 2, [], vI (-4)), (335, .goto 5, 3, [130], vN), (338, .iload 24, 2, [24], vN), (340, .if_icmp .ne 7, 3, [133], vN), (343, .iconst 1, 1, [], vI 1), (344, .goto 4, 3, [134], vN), (347, .iconst 0, 1, [], vI 0), (348, .istore 20, 2, [20], vN), (350, .goto 1336, 3, [810], vN), (353, .iload 18, 2, [18], vN), (355, .bipush 6, 2, [], vI 6), (357, .if_icmp .ge 99, 3, [186], vN), (360, .iload 16, 2, [16], vN), (362, .iconst 5, 1, [], vI 5), (363, .ishr, 1, [], vN), (364, .aload 14, 2, [14], vN), (366, .iconst 0, 1, [], vI 0), (367, .iaload, 1, [], vN), (368, .invokestatic 34, 3, [4, 0], vN), (371, .istore 21, 2, [21], vN), (373, .aload 12, 2, [12], vN), (375, .aload 14, 2, [14], vN), (377, .invokestatic 16, 3, [1, 0], vN), (380, .ifCond .lt 7, 3, [153], vN), (383, .iconst 1, 1, [], vI 1), (384, .goto 4, 3, [154], vN), (387, .iconst 0, 1, [], vI 0), (388, .istore 22, 2, [22], vN), (390, .iload 22, 2, [22], vN), (392, .ifCond .eq 8, 3, [159], vN), (395, .bipush (-3), 2, [], vI (-3)), (397, .goto 36, 3, [175], vN), (400, .iload 19, 2, [19], vN), (402, .ifCond .eq 8, 3, [163], vN), (405, .bipush (-4), 2, [], vI (-4)), (407, .goto 26, 3, [175], vN), (410, .aload 5, 2, [5], vN), (412, .aload 6, 2, [6], vN), (414, .aload 7, 2, [7], vN), (416, .aload 8, 2, [8], vN), (418, .aload 9, 2, [9], vN), (420, .aload 10, 2, [10], vN), (422, .aload 12, 2, [12], vN), (424, .aload 14, 2, [14], vN), (426, .iload 21, 2, [21], vN), (428, .iconst 0, 1, [], vI 0), (429, .iconst 0, 1, [], vI 0), (430, .invokestatic 126, 3, [10, 0], vN), (433, .istore 23, 2, [23], vN), (435, .aload_n 1, 1, [1], vN), (436, .iload 21, 2, [21], vN), (438, .invokevirtual 130, 3, [18, 7], vN), (441, .iload 23, 2, [23], vN), (443, .if_icmp .ne 7, 3, [183], vN), (446, .iconst 1, 1, [], vI 1), (447, .goto 4, 3, [184], vN), (450, .iconst 0, 1, [], vI 0), (451, .istore 20, 2, [20], vN), (453, .goto 1233, 3, [810], vN), (456, .iload 18, 2, [18], vN), (458, .bipush 9, 2, [], vI 9), (460, .if_icmp .ge 173, 3, [285], vN), (463, .iload 16, 2, [16], vN), (465, .iconst 5, 1, [], vI 5), (466, .ishr, 1, [], vN), (467, .aload 14, 2, [14], vN), (469, .iconst 0, 1, [], vI 0), (470, .iaload, 1, [], vN), (471, .invokestatic 34, 3, [4, 0], vN), (474, .istore 21, 2, [21], vN), (476, .iconst 0, 1, [], vI 0), (477, .istore 22, 2, [22], vN), (479, .iconst 0, 1, [], vI 0), (480, .istore 23, 2, [23], vN), (482, .iload 23, 2, [23], vN), (484, .aload 14, 2, [14], vN), (486, .iconst 2, 1, [], vI 2), (487, .iaload, 1, [], vN), (488, .if_icmp .ge 27, 3, [218], vN), (491, .iload 22, 2, [22], vN), (493, .aload 12, 2, [12], vN), (495, .iload 23, 2, [23], vN), (497, .iaload, 1, [], vN), (498, .ifCond .ge 7, 3, [213], vN), (501, .iconst 1, 1, [], vI 1), (502, .goto 4, 3, [214], vN), (505, .iconst 0, 1, [], vI 0), (506, .iadd, 1, [], vN), (507, .istore 22, 2, [22], vN), (509, .iinc 23 1, 3, [23], vI 1), (512, .goto (-30), 3, [201], vN), (515, .iload 19, 2, [19], vN), (517, .ifCond .ne 9, 3, [223], vN), (520, .iload 22, 2, [22], vN), (522, .iconst 5, 1, [], vI 5), (523, .if_icmp .ne 7, 3, [225], vN), (526, .iconst 1, 1, [], vI 1), (527, .goto 4, 3, [226], vN), (530, .iconst 0, 1, [], vI 0), (531, .istore 23, 2, [23], vN), (533, .bipush (-4), 2, [], vI (-4)), (535, .istore 24, 2, [24], vN), (537, .iload 23, 2, [23], vN), (539, .ifCond .ne 73, 3, [275], vN), (542, .aload 12, 2, [12], vN), (544, .aload 14, 2, [14], vN), (546, .invokestatic 16, 3, [1, 0], vN), (549, .istore 25, 2, [25], vN), (551, .aload 11, 2, [11], vN), (553, .aload 14, 2, [14], vN), (555, .iconst 2, 1, [], vI 2), (556, .iaload, 1, [], vN), (557, .aload 14, 2, [14], vN), (559, .iconst 1, 1, [], vI 1), (560, .iaload, 1, [], vN), (561, .iastore, 1, [], vN), (562, .aload 12, 2, [12], vN), (564, .aload 14, 2, [14], vN), (566, .iconst 2, 1, [], vI 2), (567, .iaload, 1, [], vN), (568, .iconst (-1), 1, [], vI (-1)), (569, .iastore, 1, [], vN), (570, .aload 13, 2, [13], vN), (572, .aload 14, 2, [14], vN), (574, .iconst 2, 1, [], vI 2), (575, .iaload, 1, [], vN), (576, .iload 25, 2, [25], vN), (578, .iastore, 1, [], vN), (579, .aload 14, 2, [14], vN), (581, .iconst 2, 1, [], vI 2), (582, .dup2, 1, [], vN), (583, .iaload, 1, [], vN), (584, .iconst 1, 1, [], vI 1), (585, .iadd, 1, [], vN), (586, .iastore, 1, [], vN), (587, .aload 5, 2, [5], vN), (589, .aload 6, 2, [6], vN), (591, .aload 7, 2, [7], vN), (593, .aload 8, 2, [8], vN), (595, .aload 9, 2, [9], vN), (597, .aload 10, 2, [10], vN), (599, .aload 12, 2, [12], vN), (601, .aload 14, 2, [14], vN), (603, .iload 21, 2, [21], vN), (605, .iconst 1, 1, [], vI 1), (606, .iconst 0, 1, [], vI 0), (607, .invokestatic 126, 3, [10, 0], vN), (610, .istore 24, 2, [24], vN), (612, .aload_n 1, 1, [1], vN), (613, .iload 21, 2, [21], vN), (615, .invokevirtual 133, 3, [19, 7], vN), (618, .iload 24, 2, [24], vN), (620, .if_icmp .ne 7, 3, [282], vN), (623, .iconst 1, 1, [], vI 1), (624, .goto 4, 3, [283], vN), (627, .iconst 0, 1, [], vI 0), (628, .istore 20, 2, [20], vN), (630, .goto 1056, 3, [810], vN), (633, .iload 18, 2, [18], vN), (635, .bipush 11, 2, [], vI 11), (637, .if_icmp .ge 83, 3, [330], vN), (640, .aload 12, 2, [12], vN), (642, .aload 14, 2, [14], vN), (644, .invokestatic 16, 3, [1, 0], vN), (647, .istore 21, 2, [21], vN), (649, .iload 21, 2, [21], vN), (651, .ifCond .lt 21, 3, [305], vN), (654, .aload 10, 2, [10], vN), (656, .aload 14, 2, [14], vN), (658, .iconst 1, 1, [], vI 1), (659, .iaload, 1, [], vN), (660, .iconst 1, 1, [], vI 1), (661, .isub, 1, [], vN), (662, .iaload, 1, [], vN), (663, .iload 21, 2, [21], vN), (665, .if_icmp .ne 7, 3, [305], vN), (668, .iconst 1, 1, [], vI 1), (669, .goto 4, 3, [306], vN), (672, .iconst 0, 1, [], vI 0), (673, .istore 22, 2, [22], vN), (675, .iload 22, 2, [22], vN), (677, .ifCond .eq 14, 3, [317], vN), (680, .aload 12, 2, [12], vN), (682, .iload 21, 2, [21], vN), (684, .aload 14, 2, [14], vN), (686, .iconst 1, 1, [], vI 1), (687, .iaload, 1, [], vN), (688, .iconst 1, 1, [], vI 1), (689, .isub, 1, [], vN), (690, .iastore, 1, [], vN), (691, .aload_n 1, 1, [1], vN), (692, .invokevirtual 136, 3, [20, 7], vN), (695, .iload 22, 2, [22], vN), (697, .ifCond .eq 8, 3, [323], vN), (700, .iload 21, 2, [21], vN), (702, .goto 5, 3, [324], vN), (705, .bipush (-3), 2, [], vI (-3)), (707, .if_icmp .ne 7, 3, [327], vN), (710, .iconst 1, 1, [], vI 1), (711, .goto 4, 3, [328], vN), (714, .iconst 0, 1, [], vI 0), (715, .istore 20, 2, [20], vN), (717, .goto 969, 3, [810], vN), (720, .iload 18, 2, [18], vN), (722, .bipush 11, 2, [], vI 11), (724, .if_icmp .ne 46, 3, [354], vN), (727, .iload 16, 2, [16], vN), (729, .iconst 5, 1, [], vI 5), (730, .ishr, 1, [], vN), (731, .iconst 3, 1, [], vI 3), (732, .invokestatic 34, 3, [4, 0], vN), (735, .ifCond .ne 35, 3, [354], vN), (738, .aload 6, 2, [6], vN), (740, .aload 7, 2, [7], vN), (742, .aload 8, 2, [8], vN), (744, .aload 14, 2, [14], vN), (746, .invokestatic 139, 3, [11, 0], vN), (749, .istore 21, 2, [21], vN), (751, .aload_n 1, 1, [1], vN), (752, .invokevirtual 143, 3, [21, 7], vN), (755, .iload 21, 2, [21], vN), (757, .if_icmp .ne 7, 3, [351], vN), (760, .iconst 1, 1, [], vI 1), (761, .goto 4, 3, [352], vN), (764, .iconst 0, 1, [], vI 0), (765, .istore 20, 2, [20], vN), (767, .goto 919, 3, [810], vN), (770, .iload 18, 2, [18], vN), (772, .bipush 12, 2, [], vI 12), (774, .if_icmp .ne 158, 3, [434], vN), (777, .iload 16, 2, [16], vN), (779, .iconst 5, 1, [], vI 5), (780, .ishr, 1, [], vN), (781, .iconst 3, 1, [], vI 3), (782, .invokestatic 34, 3, [4, 0], vN), (785, .ifCond .ne 147, 3, [434], vN), (788, .aload 14, 2, [14], vN), (790, .iconst 1, 1, [], vI 1), (791, .iaload, 1, [], vN), (792, .ifCond .le 140, 3, [434], vN), (795, .iload 16, 2, [16], vN), (797, .bipush 8, 2, [], vI 8), (799, .ishr, 1, [], vN), (800, .aload 14, 2, [14], vN), (802, .iconst 1, 1, [], vI 1), (803, .iaload, 1, [], vN), (804, .invokestatic 34, 3, [4, 0], vN), (807, .istore 21, 2, [21], vN), (809, .aload 12, 2, [12], vN), (811, .aload 14, 2, [14], vN), (813, .invokestatic 16, 3, [1, 0], vN), (816, .ifCond .ge 15, 3, [385], vN), (819, .aload 10, 2, [10], vN), (821, .iload 21, 2, [21], vN), (823, .iaload, 1, [], vN), (824, .ifCond .ge 7, 3, [385], vN), (827, .iconst 1, 1, [], vI 1), (828, .goto 4, 3, [386], vN), (831, .iconst 0, 1, [], vI 0), (832, .istore 22, 2, [22], vN), (834, .aload 6, 2, [6], vN), (836, .aload 7, 2, [7], vN), (838, .aload 8, 2, [8], vN), (840, .aload 9, 2, [9], vN), (842, .aload 10, 2, [10], vN), (844, .aload 11, 2, [11], vN), (846, .aload 12, 2, [12], vN), (848, .aload 13, 2, [13], vN), (850, .aload 14, 2, [14], vN), (852, .iload 21, 2, [21], vN), (854, .invokestatic 66, 3, [8, 0], vN), (857, .lstore 23, 2, [23], vN), (859, .aload 14, 2, [14], vN), (861, .iconst 1, 1, [], vI 1), (862, .iaload, 1, [], vN), (863, .istore 25, 2, [25], vN), (865, .iload 22, 2, [22], vN), (867, .ifCond .eq 28, 3, [417], vN), (870, .aload 5, 2, [5], vN), (872, .aload 6, 2, [6], vN), (874, .aload 7, 2, [7], vN), (876, .aload 8, 2, [8], vN), (878, .aload 9, 2, [9], vN), (880, .aload 10, 2, [10], vN), (882, .aload 11, 2, [11], vN), (884, .aload 12, 2, [12], vN), (886, .aload 13, 2, [13], vN), (888, .aload 14, 2, [14], vN), (890, .lload 23, 2, [23], vN), (892, .invokestatic 145, 3, [0, 3], vN), (895, .aload_n 1, 1, [1], vN), (896, .iload 21, 2, [21], vN), (898, .invokevirtual 149, 3, [22, 7], vN), (901, .iload 22, 2, [22], vN), (903, .ifCond .eq 14, 3, [427], vN), (906, .iload 25, 2, [25], vN), (908, .lload 23, 2, [23], vN), (910, .invokestatic 151, 3, [12, 0], vN), (913, .isub, 1, [], vN), (914, .goto 5, 3, [428], vN), (917, .bipush (-3), 2, [], vI (-3)), (919, .if_icmp .ne 7, 3, [431], vN), (922, .iconst 1, 1, [], vI 1), (923, .goto 4, 3, [432], vN), (926, .iconst 0, 1, [], vI 0), (927, .istore 20, 2, [20], vN), (929, .goto 757, 3, [810], vN), (932, .aload 14, 2, [14], vN), (934, .iconst 1, 1, [], vI 1), (935, .iaload, 1, [], vN), (936, .ifCond .le 750, 3, [810], vN), (939, .iconst 2, 1, [], vI 2), (940, .iload 16, 2, [16], vN), (942, .iconst 5, 1, [], vI 5), (943, .ishr, 1, [], vN), (944, .bipush 12, 2, [], vI 12), (946, .invokestatic 34, 3, [4, 0], vN), (949, .iadd, 1, [], vN), (950, .istore 21, 2, [21], vN), (952, .iload 21, 2, [21], vN), (954, .bipush 8, 2, [], vI 8), (956, .if_icmp .eq 17, 3, [455], vN), (959, .iload 21, 2, [21], vN), (961, .bipush 10, 2, [], vI 10), (963, .if_icmp .eq 10, 3, [455], vN), (966, .iload 21, 2, [21], vN), (968, .bipush 7, 2, [], vI 7), (970, .if_icmp .ne 7, 3, [457], vN), (973, .iconst 1, 1, [], vI 1), (974, .goto 4, 3, [458], vN), (977, .iconst 0, 1, [], vI 0), (978, .istore 22, 2, [22], vN), (980, .iload 22, 2, [22], vN), (982, .ifCond .eq 10, 3, [465], vN), (985, .aload 14, 2, [14], vN), (987, .iconst 2, 1, [], vI 2), (988, .iaload, 1, [], vN), (989, .ifCond .le 697, 3, [810], vN), (992, .iload 16, 2, [16], vN), (994, .bipush 9, 2, [], vI 9), (996, .ishr, 1, [], vN), (997, .iload 21, 2, [21], vN), (999, .bipush 8, 2, [], vI 8), (1001, .if_icmp .eq 10, 3, [474], vN), (1004, .iload 21, 2, [21], vN), (1006, .bipush 10, 2, [], vI 10), (1008, .if_icmp .ne 10, 3, [478], vN), (1011, .aload 14, 2, [14], vN), (1013, .iconst 2, 1, [], vI 2), (1014, .iaload, 1, [], vN), (1015, .goto 7, 3, [481], vN), (1018, .aload 14, 2, [14], vN), (1020, .iconst 1, 1, [], vI 1), (1021, .iaload, 1, [], vN), (1022, .invokestatic 34, 3, [4, 0], vN), (1025, .istore 23, 2, [23], vN), (1027, .iload 21, 2, [21], vN), (1029, .bipush 7, 2, [], vI 7), (1031, .if_icmp .ne 15, 3, [492], vN), (1034, .iload 17, 2, [17], vN), (1036, .aload 14, 2, [14], vN), (1038, .iconst 2, 1, [], vI 2), (1039, .iaload, 1, [], vN), (1040, .invokestatic 34, 3, [4, 0], vN), (1043, .goto 38, 3, [509], vN), (1046, .iload 21, 2, [21], vN), (1048, .bipush 6, 2, [], vI 6), (1050, .if_icmp .eq 10, 3, [498], vN), (1053, .iload 21, 2, [21], vN), (1055, .bipush 12, 2, [], vI 12), (1057, .if_icmp .ne 15, 3, [504], vN), (1060, .iload 17, 2, [17], vN), (1062, .aload 14, 2, [14], vN), (1064, .iconst 0, 1, [], vI 0), (1065, .iaload, 1, [], vN), (1066, .invokestatic 34, 3, [4, 0], vN), (1069, .goto 12, 3, [509], vN), (1072, .iload 17, 2, [17], vN), (1074, .aload 14, 2, [14], vN), (1076, .iconst 1, 1, [], vI 1), (1077, .iaload, 1, [], vN), (1078, .invokestatic 34, 3, [4, 0], vN), (1081, .istore 24, 2, [24], vN), (1083, .iload 21, 2, [21], vN), (1085, .bipush 7, 2, [], vI 7), (1087, .if_icmp .ne 18, 3, [521], vN), (1090, .iload 17, 2, [17], vN), (1092, .bipush 6, 2, [], vI 6), (1094, .ishr, 1, [], vN), (1095, .aload 14, 2, [14], vN), (1097, .iconst 2, 1, [], vI 2), (1098, .iaload, 1, [], vN), (1099, .invokestatic 34, 3, [4, 0], vN), (1102, .goto 4, 3, [522], vN), (1105, .iconst 0, 1, [], vI 0), (1106, .istore 25, 2, [25], vN), (1108, .iconst 0, 1, [], vI 0), (1109, .istore 26, 2, [26], vN), (1111, .iload 26, 2, [26], vN), (1113, .bipush 48, 2, [], vI 48), (1115, .if_icmp .ge 177, 3, [617], vN), (1118, .iload 17, 2, [17], vN), (1120, .bipush 12, 2, [], vI 12), (1122, .ishr, 1, [], vN), (1123, .iconst 4, 1, [], vI 4), (1124, .invokestatic 34, 3, [4, 0], vN), (1127, .ifCond .le 165, 3, [617], vN), (1130, .aload_n 2, 1, [2], vN), (1131, .aload_n 3, 1, [3], vN), (1132, .aload 4, 2, [4], vN), (1134, .aload 5, 2, [5], vN), (1136, .aload 10, 2, [10], vN), (1138, .aload 11, 2, [11], vN), (1140, .aload 12, 2, [12], vN), (1142, .aload 13, 2, [13], vN), (1144, .iload 21, 2, [21], vN), (1146, .iload 23, 2, [23], vN), (1148, .iload 24, 2, [24], vN), (1150, .iload 25, 2, [25], vN), (1152, .invokestatic 155, 3, [13, 0], vN), (1155, .lconst 0, 1, [], vL 0), (1156, .lcmp, 1, [], vN), (1157, .ifCond .ne 135, 3, [617], vN), (1160, .iload 26, 2, [26], vN), (1162, .iconst 2, 1, [], vI 2), (1163, .irem, 1, [], vN), (1164, .ifCond .eq 17, 3, [560], vN), (1167, .iload 21, 2, [21], vN), (1169, .bipush 8, 2, [], vI 8), (1171, .if_icmp .eq 10, 3, [560], vN), (1174, .iload 21, 2, [21], vN), (1176, .bipush 10, 2, [], vI 10), (1178, .if_icmp .ne 7, 3, [562], vN), (1181, .iconst 1, 1, [], vI 1), (1182, .goto 4, 3, [563], vN), (1185, .iconst 0, 1, [], vI 0), (1186, .istore 27, 2, [27], vN), (1188, .iload 27, 2, [27], vN), (1190, .ifCond .eq 36, 3, [584], vN), (1193, .iload 23, 2, [23], vN), (1195, .iconst 1, 1, [], vI 1), (1196, .iadd, 1, [], vN), (1197, .iload 21, 2, [21], vN), (1199, .bipush 8, 2, [], vI 8), (1201, .if_icmp .eq 10, 3, [575], vN), (1204, .iload 21, 2, [21], vN), (1206, .bipush 10, 2, [], vI 10), (1208, .if_icmp .ne 10, 3, [579], vN), (1211, .aload 14, 2, [14], vN), (1213, .iconst 2, 1, [], vI 2), (1214, .iaload, 1, [], vN), (1215, .goto 7, 3, [582], vN), (1218, .aload 14, 2, [14], vN), (1220, .iconst 1, 1, [], vI 1), (1221, .iaload, 1, [], vN), (1222, .irem, 1, [], vN), (1223, .goto 5, 3, [585], vN), (1226, .iload 23, 2, [23], vN), (1228, .istore 23, 2, [23], vN), (1230, .iload 27, 2, [27], vN), (1232, .ifCond .eq 8, 3, [590], vN), (1235, .iload 24, 2, [24], vN), (1237, .goto 47, 3, [614], vN), (1240, .iload 24, 2, [24], vN), (1242, .iconst 1, 1, [], vI 1), (1243, .iadd, 1, [], vN), (1244, .iload 21, 2, [21], vN), (1246, .bipush 7, 2, [], vI 7), (1248, .if_icmp .ne 10, 3, [600], vN), (1251, .aload 14, 2, [14], vN), (1253, .iconst 2, 1, [], vI 2), (1254, .iaload, 1, [], vN), (1255, .goto 28, 3, [613], vN), (1258, .iload 21, 2, [21], vN), (1260, .bipush 6, 2, [], vI 6), (1262, .if_icmp .eq 10, 3, [606], vN), (1265, .iload 21, 2, [21], vN), (1267, .bipush 12, 2, [], vI 12), (1269, .if_icmp .ne 10, 3, [610], vN), (1272, .aload 14, 2, [14], vN), (1274, .iconst 0, 1, [], vI 0), (1275, .iaload, 1, [], vN), (1276, .goto 7, 3, [613], vN), (1279, .aload 14, 2, [14], vN), (1281, .iconst 1, 1, [], vI 1), (1282, .iaload, 1, [], vN), (1283, .irem, 1, [], vN), (1284, .istore 24, 2, [24], vN), (1286, .iinc 26 1, 3, [26], vI 1), (1289, .goto (-178), 3, [525], vN), (1292, .aload_n 2, 1, [2], vN), (1293, .aload_n 3, 1, [3], vN), (1294, .aload 4, 2, [4], vN), (1296, .aload 5, 2, [5], vN), (1298, .aload 10, 2, [10], vN), (1300, .aload 11, 2, [11], vN), (1302, .aload 12, 2, [12], vN), (1304, .aload 13, 2, [13], vN), (1306, .iload 21, 2, [21], vN), (1308, .iload 23, 2, [23], vN), (1310, .iload 24, 2, [24], vN), (1312, .iload 25, 2, [25], vN), (1314, .invokestatic 155, 3, [13, 0], vN), (1317, .lstore 26, 2, [26], vN), (1319, .lload 26, 2, [26], vN), (1321, .l2i, 1, [], vN), (1322, .iconst 1, 1, [], vI 1), (1323, .isub, 1, [], vN), (1324, .istore 28, 2, [28], vN), (1326, .bipush (-3), 2, [], vI (-3)), (1328, .istore 29, 2, [29], vN), (1330, .lload 26, 2, [26], vN), (1332, .lconst 0, 1, [], vL 0), (1333, .lcmp, 1, [], vN), (1334, .ifCond .le 208, 3, [744], vN), (1337, .lload 26, 2, [26], vN), (1339, .ldc2_w 95, 3, [], vL 1000), (1342, .lcmp, 1, [], vN), (1343, .ifCond .le 80, 3, [684], vN), (1346, .iload 19, 2, [19], vN), (1348, .ifCond .ne 75, 3, [684], vN), (1351, .lload 26, 2, [26], vN), (1353, .ldc2_w 159, 3, [], vL 100000000), (1356, .ldiv, 1, [], vN), (1357, .l2i, 1, [], vN), (1358, .istore 30, 2, [30], vN), (1360, .lload 26, 2, [26], vN), (1362, .ldc2_w 95, 3, [], vL 1000), (1365, .ldiv, 1, [], vN), (1366, .ldc2_w 95, 3, [], vL 1000), (1369, .lrem, 1, [], vN), (1370, .l2i, 1, [], vN), (1371, .istore 31, 2, [31], vN), (1373, .lload 26, 2, [26], vN), (1375, .ldc2_w 95, 3, [], vL 1000), (1378, .lrem, 1, [], vN), (1379, .l2i, 1, [], vN), (1380, .istore 32, 2, [32], vN), (1382, .aload_n 2, 1, [2], vN), (1383, .aload_n 3, 1, [3], vN), (1384, .aload 4, 2, [4], vN), (1386, .aload 14, 2, [14], vN), (1388, .iload 30, 2, [30], vN), (1390, .iload 31, 2, [31], vN), (1392, .sipush 999, 3, [], vI 999), (1395, .if_icmp .ne 7, 3, [675], vN), (1398, .iconst (-1), 1, [], vI (-1)), (1399, .goto 5, 3, [676], vN), (1402, .iload 31, 2, [31], vN), (1404, .iload 32, 2, [32], vN), (1406, .sipush 999, 3, [], vI 999), (1409, .if_icmp .ne 7, 3, [681], vN), (1412, .iconst (-1), 1, [], vI (-1)), (1413, .goto 5, 3, [682], vN), (1416, .iload 32, 2, [32], vN), (1418, .invokestatic 110, 3, [9, 0], vN), (1421, .istore 28, 2, [28], vN), (1423, .iload 21, 2, [21], vN), (1425, .iconst 3, 1, [], vI 3), (1426, .if_icmp .eq 24, 3, [696], vN), (1429, .iload 21, 2, [21], vN), (1431, .bipush 9, 2, [], vI 9), (1433, .if_icmp .eq 17, 3, [696], vN), (1436, .iload 21, 2, [21], vN), (1438, .bipush 11, 2, [], vI 11), (1440, .if_icmp .eq 10, 3, [696], vN), (1443, .iload 21, 2, [21], vN), (1445, .bipush 7, 2, [], vI 7), (1447, .if_icmp .ne 7, 3, [698], vN), (1450, .iconst 1, 1, [], vI 1), (1451, .goto 4, 3, [699], vN), (1454, .iconst 0, 1, [], vI 0), (1455, .istore 30, 2, [30], vN), (1457, .iconst 1, 1, [], vI 1), (1458, .iload 23, 2, [23], vN), (1460, .iadd, 1, [], vN), (1461, .iload 30, 2, [30], vN), (1463, .ifCond .eq 13, 3, [711], vN), (1466, .bipush 100, 2, [], vI 100), (1468, .iconst 1, 1, [], vI 1), (1469, .iload 24, 2, [24], vN), (1471, .iadd, 1, [], vN), (1472, .imul, 1, [], vN), (1473, .goto 4, 3, [712], vN), (1476, .iconst 0, 1, [], vI 0), (1477, .iadd, 1, [], vN), (1478, .iload 21, 2, [21], vN), (1480, .bipush 7, 2, [], vI 7), (1482, .if_icmp .ne 14, 3, [722], vN), (1485, .sipush 10000, 3, [], vI 10000), (1488, .iconst 1, 1, [], vI 1), (1489, .iload 25, 2, [25], vN), (1491, .iadd, 1, [], vN), (1492, .imul, 1, [], vN), (1493, .goto 4, 3, [723], vN), (1496, .iconst 0, 1, [], vI 0), (1497, .iadd, 1, [], vN), (1498, .istore 31, 2, [31], vN), (1500, .iload 19, 2, [19], vN), (1502, .ifCond .ne 8, 3, [729], vN), (1505, .iload 28, 2, [28], vN), (1507, .ifCond .ge 8, 3, [731], vN), (1510, .bipush (-4), 2, [], vI (-4)), (1512, .goto 28, 3, [743], vN), (1515, .aload 5, 2, [5], vN), (1517, .aload 6, 2, [6], vN), (1519, .aload 7, 2, [7], vN), (1521, .aload 8, 2, [8], vN), (1523, .aload 9, 2, [9], vN), (1525, .aload 10, 2, [10], vN), (1527, .aload 12, 2, [12], vN), (1529, .aload 14, 2, [14], vN), (1531, .iload 28, 2, [28], vN), (1533, .iload 21, 2, [21], vN), (1535, .iload 31, 2, [31], vN), (1537, .invokestatic 126, 3, [10, 0], vN), (1540, .istore 29, 2, [29], vN), (1542, .iload 21, 2, [21], vN), (1544, .iconst 2, 1, [], vI 2), (1545, .if_icmp .ne 12, 3, [751], vN), (1548, .aload_n 1, 1, [1], vN), (1549, .iload 23, 2, [23], vN), (1551, .invokevirtual 161, 3, [23, 7], vN), (1554, .goto 116, 3, [802], vN), (1557, .iload 21, 2, [21], vN), (1559, .bipush 7, 2, [], vI 7), (1561, .if_icmp .ne 16, 3, [760], vN), (1564, .aload_n 1, 1, [1], vN), (1565, .iload 23, 2, [23], vN), (1567, .iload 24, 2, [24], vN), (1569, .iload 25, 2, [25], vN), (1571, .invokevirtual 164, 3, [24, 7], vN), (1574, .goto 96, 3, [802], vN), (1577, .iload 21, 2, [21], vN), (1579, .bipush 8, 2, [], vI 8), (1581, .if_icmp .eq 10, 3, [766], vN), (1584, .iload 21, 2, [21], vN), (1586, .bipush 10, 2, [], vI 10), (1588, .if_icmp .ne 14, 3, [771], vN), (1591, .aload_n 1, 1, [1], vN), (1592, .iload 21, 2, [21], vN), (1594, .iload 23, 2, [23], vN), (1596, .invokevirtual 167, 3, [25, 7], vN), (1599, .goto 71, 3, [802], vN), (1602, .iload 21, 2, [21], vN), (1604, .iconst 3, 1, [], vI 3), (1605, .if_icmp .eq 17, 3, [780], vN), (1608, .iload 21, 2, [21], vN), (1610, .bipush 9, 2, [], vI 9), (1612, .if_icmp .eq 10, 3, [780], vN), (1615, .iload 21, 2, [21], vN), (1617, .bipush 11, 2, [], vI 11), (1619, .if_icmp .ne 16, 3, [786], vN), (1622, .aload_n 1, 1, [1], vN), (1623, .iload 21, 2, [21], vN), (1625, .iload 23, 2, [23], vN), (1627, .iload 24, 2, [24], vN), (1629, .invokevirtual 170, 3, [26, 7], vN), (1632, .goto 38, 3, [802], vN), (1635, .iload 21, 2, [21], vN), (1637, .bipush 6, 2, [], vI 6), (1639, .if_icmp .eq 10, 3, [792], vN), (1642, .iload 21, 2, [21], vN), (1644, .bipush 12, 2, [], vI 12), (1646, .if_icmp .ne 16, 3, [798], vN), (1649, .aload_n 1, 1, [1], vN), (1650, .iload 21, 2, [21], vN), (1652, .iload 23, 2, [23], vN), (1654, .iload 24, 2, [24], vN), (1656, .invokevirtual 173, 3, [27, 7], vN), (1659, .goto 11, 3, [802], vN), (1662, .aload_n 1, 1, [1], vN), (1663, .iload 21, 2, [21], vN), (1665, .iload 23, 2, [23], vN), (1667, .invokevirtual 176, 3, [28, 7], vN), (1670, .istore 30, 2, [30], vN), (1672, .iload 30, 2, [30], vN), (1674, .iload 29, 2, [29], vN), (1676, .if_icmp .ne 7, 3, [808], vN), (1679, .iconst 1, 1, [], vI 1), (1680, .goto 4, 3, [809], vN), (1683, .iconst 0, 1, [], vI 0), (1684, .istore 20, 2, [20], vN), (1686, .iload 20, 2, [20], vN), (1688, .ifCond .eq 105, 3, [869], vN), (1691, .aload_n 1, 1, [1], vN), (1692, .aload_n 2, 1, [2], vN), (1693, .aload_n 3, 1, [3], vN), (1694, .aload 4, 2, [4], vN), (1696, .aload 14, 2, [14], vN), (1698, .iload 17, 2, [17], vN), (1700, .iconst 3, 1, [], vI 3), (1701, .ishr, 1, [], vN), (1702, .invokestatic 179, 3, [14, 0], vN), (1705, .ifCond .eq 88, 3, [869], vN), (1708, .aload_n 1, 1, [1], vN), (1709, .aload 5, 2, [5], vN), (1711, .aload 6, 2, [6], vN), (1713, .aload 7, 2, [7], vN), (1715, .aload 8, 2, [8], vN), (1717, .aload 9, 2, [9], vN), (1719, .aload 10, 2, [10], vN), (1721, .aload 11, 2, [11], vN), (1723, .aload 12, 2, [12], vN), (1725, .aload 13, 2, [13], vN), (1727, .aload 14, 2, [14], vN), (1729, .invokestatic 182, 3, [15, 0], vN), (1732, .ifCond .eq 61, 3, [869], vN), (1735, .iload 15, 2, [15], vN), (1737, .iconst 3, 1, [], vI 3), (1738, .irem, 1, [], vN), (1739, .iconst 2, 1, [], vI 2), (1740, .if_icmp .ne 55, 3, [871], vN), (1743, .aload 14, 2, [14], vN), (1745, .iconst 1, 1, [], vI 1), (1746, .iaload, 1, [], vN), (1747, .ifCond .le 48, 3, [871], vN), (1750, .aload_n 1, 1, [1], vN), (1751, .aload_n 2, 1, [2], vN), (1752, .aload_n 3, 1, [3], vN), (1753, .aload 4, 2, [4], vN), (1755, .aload 5, 2, [5], vN), (1757, .aload 6, 2, [6], vN), (1759, .aload 10, 2, [10], vN), (1761, .aload 11, 2, [11], vN), (1763, .aload 12, 2, [12], vN), (1765, .aload 13, 2, [13], vN), (1767, .aload 14, 2, [14], vN), (1769, .iload 17, 2, [17], vN), (1771, .bipush 10, 2, [], vI 10), (1773, .ishr, 1, [], vN), (1774, .aload 14, 2, [14], vN), (1776, .iconst 0, 1, [], vI 0), (1777, .iaload, 1, [], vN), (1778, .invokestatic 34, 3, [4, 0], vN), (1781, .aload 14, 2, [14], vN), (1783, .iconst 1, 1, [], vI 1), (1784, .iaload, 1, [], vN), (1785, .iconst 1, 1, [], vI 1), (1786, .isub, 1, [], vN), (1787, .invokestatic 185, 3, [16, 0], vN), (1790, .ifCond .ne 5, 3, [871], vN), (1793, .iconst 0, 1, [], vI 0), (1794, .ireturn, 1, [], vN), (1795, .iinc 15 1, 3, [15], vI 1), (1798, .goto (-1712), 3, [0], vN), (1801, .iconst 1, 1, [], vI 1), (1802, .ireturn, 1, [], vN)]
def hL_law : List (Nat × List Bool) := [(86, [true, true, true, true, true, true, true, true, true, true, true, true, true, true, true, true, false, false, false, false, false, false, false, false, false, false, false, false, false, false, false, false, false]), (96, [true, true, true, true, true, true, true, true, true, true, true, true, true, true, true, true, false, false, false, false, false, false, false, false, false, false, false, false, false, false, false, false, false]), (107, [true, true, true, true, true, true, true, true, true, true, true, true, true, true, true, true, true, false, false, false, false, false, false, false, false, false, false, false, false, false, false, false, false]), (135, [true, true, true, true, true, true, true, true, true, true, true, true, true, true, true, true, true, true, true, false, false, false, false, false, false, false, false, false, false, false, false, false, false]), (154, [true, true, true, true, true, true, true, true, true, true, true, true, true, true, true, true, true, true, false, false, false, false, false, false, false, false, false, false, false, false, false, false, false]), (175, [true, true, true, true, true, true, true, true, true, true, true, true, true, true, true, true, true, true, false, false, false, false, false, false, false, false, false, false, false, false, false, false, false]), (207, [true, true, true, true, true, true, true, true, true, true, true, true, true, true, true, true, true, true, false, false, false, true, false, false, false, false, false, false, false, false, false, false, false]), (229, [true, true, true, true, true, true, true, true, true, true, true, true, true, true, true, true, true, true, false, false, false, true, false, false, false, false, false, false, false, false, false, false, false]), (253, [true, true, true, true, true, true, true, true, true, true, true, true, true, true, true, true, false, true, false, false, false, true, true, false, false, false, false, false, false, false, false, false, false]), (324, [true, true, true, true, true, true, true, true, true, true, true, true, true, true, true, true, false, true, false, false, false, false, false, false, true, false, false, false, false, false, false, false, false]), (340, [true, true, true, true, true, true, true, true, true, true, true, true, true, true, true, true, false, true, false, false, false, false, false, false, false, false, false, false, false, false, false, false, false]), (348, [true, true, true, true, true, true, true, true, true, true, true, true, true, true, true, true, false, true, false, false, false, false, false, false, false, false, false, false, false, false, false, false, false]), (388, [true, true, true, true, true, true, true, true, true, true, true, true, true, true, true, true, false, true, false, true, false, true, false, false, false, false, false, false, false, false, false, false, false]), (433, [true, true, true, true, true, true, true, true, true, true, true, true, true, true, true, true, false, true, false, false, false, true, false, false, false, false, false, false, false, false, false, false, false]), (451, [true, true, true, true, true, true, true, true, true, true, true, true, true, true, true, true, false, true, false, false, false, false, false, false, false, false, false, false, false, false, false, false, false]), (482, [true, true, true, true, true, true, true, true, true, true, true, true, true, true, true, true, false, true, false, true, false, true, true, true, false, false, false, false, false, false, false, false, false]), (506, [true, true, true, true, true, true, true, true, true, true, true, true, true, true, true, true, false, true, false, true, false, true, false, true, false, false, false, false, false, false, false, false, false]), (526, [true, true, true, true, true, true, true, true, true, true, true, true, true, true, true, true, false, true, false, false, false, true, false, false, false, false, false, false, false, false, false, false, false]), (531, [true, true, true, true, true, true, true, true, true, true, true, true, true, true, true, true, false, true, false, false, false, true, false, false, false, false, false, false, false, false, false, false, false]), (612, [true, true, true, true, true, true, true, true, true, true, true, true, true, true, true, true, false, true, false, false, false, true, false, false, true, false, false, false, false, false, false, false, false]), (628, [true, true, true, true, true, true, true, true, true, true, true, true, true, true, true, true, false, true, false, false, false, false, false, false, false, false, false, false, false, false, false, false, false]), (672, [true, true, true, true, true, true, true, true, true, true, true, true, true, true, true, true, false, true, false, false, false, true, false, false, false, false, false, false, false, false, false, false, false]), (673, [true, true, true, true, true, true, true, true, true, true, true, true, true, true, true, true, false, true, false, false, false, true, false, false, false, false, false, false, false, false, false, false, false]), (691, [true, true, true, true, true, true, true, true, true, true, true, true, true, true, true, true, false, true, false, false, false, true, true, false, false, false, false, false, false, false, false, false, false]), (707, [true, true, true, true, true, true, true, true, true, true, true, true, true, true, true, true, false, true, false, false, false, false, false, false, false, false, false, false, false, false, false, false, false]), (715, [true, true, true, true, true, true, true, true, true, true, true, true, true, true, true, true, false, true, false, false, false, false, false, false, false, false, false, false, false, false, false, false, false]), (765, [true, true, true, true, true, true, true, true, true, true, true, true, true, true, true, true, false, true, false, false, false, false, false, false, false, false, false, false, false, false, false, false, false]), (770, [true, true, true, true, true, true, true, true, true, true, true, true, true, true, true, true, true, true, true, true, true, false, false, false, false, false, false, false, false, false, false, false, false]), (831, [true, true, true, true, true, true, true, true, true, true, true, true, true, true, true, true, false, true, false, false, false, true, false, false, false, false, false, false, false, false, false, false, false]), (832, [true, true, true, true, true, true, true, true, true, true, true, true, true, true, true, true, false, true, false, false, false, true, false, false, false, false, false, false, false, false, false, false, false]), (892, [true, true, true, true, true, true, true, true, true, true, true, true, true, true, true, true, false, true, false, false, false, true, true, true, false, true, false, false, false, false, false, false, false]), (895, [true, true, true, true, true, true, true, true, true, true, true, true, true, true, true, true, false, true, false, false, false, true, true, true, false, true, false, false, false, false, false, false, false]), (919, [true, true, true, true, true, true, true, true, true, true, true, true, true, true, true, true, false, true, false, false, false, false, false, false, false, false, false, false, false, false, false, false, false]), (927, [true, true, true, true, true, true, true, true, true, true, true, true, true, true, true, true, false, true, false, false, false, false, false, false, false, false, false, false, false, false, false, false, false]), (932, [true, true, true, true, true, true, true, true, true, true, true, true, true, true, true, true, true, true, false, true, true, false, false, false, false, false, false, false, false, false, false, false, false]), (973, [true, true, true, true, true, true, true, true, true, true, true, true, true, true, true, true, true, true, false, true, true, true, false, false, false, false, false, false, false, false, false, false, false]), (978, [true, true, true, true, true, true, true, true, true, true, true, true, true, true, true, true, true, true, false, true, true, true, false, false, false, false, false, false, false, false, false, false, false]), (992, [true, true, true, true, true, true, true, true, true, true, true, true, true, true, true, true, true, true, false, true, false, true, false, false, false, false, false, false, false, false, false, false, false]), (1011, [true, true, true, true, true, true, true, true, true, true, true, true, true, true, true, true, false, true, false, true, false, true, false, false, false, false, false, false, false, false, false, false, false]), (1022, [true, true, true, true, true, true, true, true, true, true, true, true, true, true, true, true, false, true, false, true, false, true, false, false, false, false, false, false, false, false, false, false, false]), (1060, [true, true, true, true, true, true, true, true, true, true, true, true, true, true, true, true, false, true, false, true, false, true, false, true, false, false, false, false, false, false, false, false, false]), (1081, [true, true, true, true, true, true, true, true, true, true, true, true, true, true, true, true, false, true, false, true, false, true, false, true, false, false, false, false, false, false, false, false, false]), (1106, [true, true, true, true, true, true, true, true, true, true, true, true, true, true, true, true, false, true, false, true, false, true, false, true, true, false, false, false, false, false, false, false, false]), (1111, [true, true, true, true, true, true, true, true, true, true, true, true, true, true, true, true, false, true, false, true, false, true, false, true, true, true, true, false, false, false, false, false, false]), (1181, [true, true, true, true, true, true, true, true, true, true, true, true, true, true, true, true, false, true, false, true, false, true, false, true, true, true, true, false, false, false, false, false, false]), (1186, [true, true, true, true, true, true, true, true, true, true, true, true, true, true, true, true, false, true, false, true, false, true, false, true, true, true, true, false, false, false, false, false, false]), (1211, [true, true, true, true, true, true, true, true, true, true, true, true, true, true, true, true, false, true, false, true, false, true, false, false, true, true, true, true, false, false, false, false, false]), (1222, [true, true, true, true, true, true, true, true, true, true, true, true, true, true, true, true, false, true, false, true, false, true, false, false, true, true, true, true, false, false, false, false, false]), (1228, [true, true, true, true, true, true, true, true, true, true, true, true, true, true, true, true, false, true, false, true, false, true, false, false, true, true, true, true, false, false, false, false, false]), (1272, [true, true, true, true, true, true, true, true, true, true, true, true, true, true, true, true, false, true, false, true, false, true, false, true, false, true, true, false, false, false, false, false, false]), (1283, [true, true, true, true, true, true, true, true, true, true, true, true, true, true, true, true, false, true, false, true, false, true, false, true, false, true, true, false, false, false, false, false, false]), (1284, [true, true, true, true, true, true, true, true, true, true, true, true, true, true, true, true, false, true, false, true, false, true, false, true, false, true, true, false, false, false, false, false, false]), (1292, [true, true, true, true, true, true, true, true, true, true, true, true, true, true, true, true, false, true, false, true, false, true, false, true, true, true, false, false, false, false, false, false, false]), (1319, [true, true, true, true, true, true, true, true, true, true, true, true, true, true, true, true, false, true, false, true, false, true, false, true, true, true, true, false, false, false, false, false, false]), (1337, [true, true, true, true, true, true, true, true, true, true, true, true, true, true, true, true, false, true, false, true, false, true, false, true, true, true, true, false, true, false, false, false, false]), (1351, [true, true, true, true, true, true, true, true, true, true, true, true, true, true, true, true, false, true, false, true, false, true, false, true, true, true, true, false, false, false, false, false, false]), (1382, [true, true, true, true, true, true, true, true, true, true, true, true, true, true, true, true, false, true, false, true, false, true, false, true, true, true, false, false, false, false, true, true, true]), (1404, [true, true, true, true, true, true, true, true, true, true, true, true, true, true, true, true, false, true, false, true, false, true, false, true, true, true, false, false, false, false, false, false, true]), (1418, [true, true, true, true, true, true, true, true, true, true, true, true, true, true, true, true, false, true, false, true, false, true, false, true, true, true, false, false, false, false, false, false, false]), (1423, [true, true, true, true, true, true, true, true, true, true, true, true, true, true, true, true, false, true, false, true, false, true, false, true, true, true, false, false, true, false, false, false, false]), (1450, [true, true, true, true, true, true, true, true, true, true, true, true, true, true, true, true, false, true, false, true, false, true, false, true, true, true, false, false, true, false, false, false, false]), (1455, [true, true, true, true, true, true, true, true, true, true, true, true, true, true, true, true, false, true, false, true, false, true, false, true, true, true, false, false, true, false, false, false, false]), (1477, [true, true, true, true, true, true, true, true, true, true, true, true, true, true, true, true, false, true, false, true, false, true, false, true, true, true, false, false, true, false, false, false, false]), (1497, [true, true, true, true, true, true, true, true, true, true, true, true, true, true, true, true, false, true, false, true, false, true, false, true, true, true, false, false, true, false, false, false, false]), (1510, [true, true, true, true, true, true, true, true, true, true, true, true, true, true, true, true, false, true, false, false, false, true, false, true, true, true, false, false, false, false, false, false, false]), (1540, [true, true, true, true, true, true, true, true, true, true, true, true, true, true, true, true, false, true, false, false, false, true, false, true, true, true, false, false, false, false, false, false, false]), (1542, [true, true, true, true, true, true, true, true, true, true, true, true, true, true, true, true, false, true, false, false, false, true, false, true, true, true, false, false, false, true, false, false, false]), (1591, [true, true, true, true, true, true, true, true, true, true, true, true, true, true, true, true, false, true, false, false, false, true, false, true, false, false, false, false, false, true, false, false, false]), (1622, [true, true, true, true, true, true, true, true, true, true, true, true, true, true, true, true, false, true, false, false, false, true, false, true, true, false, false, false, false, true, false, false, false]), (1649, [true, true, true, true, true, true, true, true, true, true, true, true, true, true, true, true, false, true, false, false, false, true, false, true, true, false, false, false, false, true, false, false, false]), (1670, [true, true, true, true, true, true, true, true, true, true, true, true, true, true, true, true, false, true, false, false, false, false, false, false, false, false, false, false, false, true, false, false, false]), (1684, [true, true, true, true, true, true, true, true, true, true, true, true, true, true, true, true, false, true, false, false, false, false, false, false, false, false, false, false, false, false, false, false, false]), (1686, [true, true, true, true, true, true, true, true, true, true, true, true, true, true, true, true, false, true, false, false, true, false, false, false, false, false, false, false, false, false, false, false, false]), (1708, [true, true, true, true, true, true, true, true, true, true, true, true, true, true, true, true, false, true, false, false, false, false, false, false, false, false, false, false, false, false, false, false, false]), (1735, [true, true, true, true, true, true, true, true, true, true, true, true, true, true, true, true, false, true, false, false, false, false, false, false, false, false, false, false, false, false, false, false, false]), (1750, [true, true, true, true, true, true, true, true, true, true, true, true, true, true, true, true, false, true, false, false, false, false, false, false, false, false, false, false, false, false, false, false, false]), (1794, [false, false, false, false, false, false, false, false, false, false, false, false, false, false, false, false, false, false, false, false, false, false, false, false, false, false, false, false, false, false, false, false, false]), (1795, [true, true, true, true, true, true, true, true, true, true, true, true, true, true, true, true, false, false, false, false, false, false, false, false, false, false, false, false, false, false, false, false, false]), (1802, [false, false, false, false, false, false, false, false, false, false, false, false, false, false, false, false, false, false, false, false, false, false, false, false, false, false, false, false, false, false, false, false, false])]
def eL_law : xE := (12, mL_law, tL_law, hL_law, ceL)
end
section
def qL_lines_0 : List xT := [(0, .iconst 0, 1, [], vI 0), (1, .istore 11, 2, [11], vN), (3, .iconst 0, 1, [], vI 0), (4, .istore 12, 2, [12], vN), (6, .iload 12, 2, [12], vN), (8, .aload 10, 2, [10], vN), (10, .iconst 1, 1, [], vI 1), (11, .iaload, 1, [], vN), (12, .if_icmp .ge 368, 3, [201], vN), (15, .iconst 0, 1, [], vI 0), (16, .istore 13, 2, [13], vN), (18, .iconst 0, 1, [], vI 0), (19, .istore 14, 2, [14], vN), (21, .aload 6, 2, [6], vN), (23, .iload 12, 2, [12], vN), (25, .iaload, 1, [], vN), (26, .istore 15, 2, [15], vN), (28, .iload 15, 2, [15], vN), (30, .ifCond .lt 16, 3, [25], vN), (33, .iinc 13 1, 3, [13], vI 1), (36, .aload 9, 2, [9], vN), (38, .iload 15, 2, [15], vN), (40, .iaload, 1, [], vN), (41, .istore 15, 2, [15], vN), (43, .goto (-15), 3, [17], vN), (46, .iconst 0, 1, [], vI 0), (47, .istore 15, 2, [15], vN), (49, .iload 15, 2, [15], vN), (51, .aload 10, 2, [10], vN), (53, .iconst 1, 1, [], vI 1), (54, .iaload, 1, [], vN), (55, .if_icmp .ge 36, 3, [51], vN), (58, .iload 14, 2, [14], vN), (60, .i2l, 1, [], vN), (61, .aload_n 2, 1, [2], vN), (62, .aload_n 3, 1, [3], vN), (63, .aload 4, 2, [4], vN), (65, .aload 5, 2, [5], vN), (67, .aload 7, 2, [7], vN), (69, .aload 8, 2, [8], vN), (71, .iload 15, 2, [15], vN), (73, .invokestatic 20, 3, [2, 0], vN), (76, .iload 12, 2, [12], vN), (78, .lshr, 1, [], vN), (79, .lconst 1, 1, [], vL 1)]
theorem qL_lines_0_ok : ∀ e ∈ qL_lines_0, decode cL_lines e.1 = .ok (e.2.1, e.2.2.1) := by decide +kernel
def qL_lines_1 : List xT := [(80, .land, 1, [], vN), (81, .ladd, 1, [], vN), (82, .l2i, 1, [], vN), (83, .istore 14, 2, [14], vN), (85, .iinc 15 1, 3, [15], vI 1), (88, .goto (-39), 3, [27], vN), (91, .aload_n 2, 1, [2], vN), (92, .aload_n 3, 1, [3], vN), (93, .aload 4, 2, [4], vN), (95, .iload 12, 2, [12], vN), (97, .invokestatic 48, 3, [6, 0], vN), (100, .istore 15, 2, [15], vN), (102, .iload 11, 2, [11], vN), (104, .iload 15, 2, [15], vN), (106, .ifCond .ge 7, 3, [62], vN), (109, .iconst 0, 1, [], vI 0), (110, .goto 4, 3, [63], vN), (113, .iconst 1, 1, [], vI 1), (114, .iadd, 1, [], vN), (115, .istore 11, 2, [11], vN), (117, .aload_n 0, 1, [0], vN), (118, .iload 12, 2, [12], vN), (120, .iconst 0, 1, [], vI 0), (121, .invokevirtual 52, 3, [3, 7], vN), (124, .aload_n 1, 1, [1], vN), (125, .iload 12, 2, [12], vN), (127, .iaload, 1, [], vN), (128, .if_icmp .ne 145, 3, [145], vN), (131, .aload_n 0, 1, [0], vN), (132, .iload 12, 2, [12], vN), (134, .iconst 1, 1, [], vI 1), (135, .invokevirtual 52, 3, [3, 7], vN), (138, .aload_n 2, 1, [2], vN), (139, .iload 12, 2, [12], vN), (141, .iaload, 1, [], vN), (142, .if_icmp .ne 131, 3, [145], vN), (145, .aload_n 0, 1, [0], vN), (146, .iload 12, 2, [12], vN), (148, .iconst 2, 1, [], vI 2), (149, .invokevirtual 52, 3, [3, 7], vN), (152, .aload 6, 2, [6], vN), (154, .iload 12, 2, [12], vN), (156, .iaload, 1, [], vN), (157, .ifCond .ge 8, 3, [91], vN), (160, .bipush (-6), 2, [], vI (-6))]
theorem qL_lines_1_ok : ∀ e ∈ qL_lines_1, decode cL_lines e.1 = .ok (e.2.1, e.2.2.1) := by decide +kernel
def qL_lines_2 : List xT := [(162, .goto 8, 3, [94], vN), (165, .aload 6, 2, [6], vN), (167, .iload 12, 2, [12], vN), (169, .iaload, 1, [], vN), (170, .if_icmp .ne 103, 3, [145], vN), (173, .aload_n 0, 1, [0], vN), (174, .iload 12, 2, [12], vN), (176, .iconst 3, 1, [], vI 3), (177, .invokevirtual 52, 3, [3, 7], vN), (180, .iload 13, 2, [13], vN), (182, .if_icmp .ne 91, 3, [145], vN), (185, .aload_n 0, 1, [0], vN), (186, .iload 12, 2, [12], vN), (188, .iconst 4, 1, [], vI 4), (189, .invokevirtual 52, 3, [3, 7], vN), (192, .aload 8, 2, [8], vN), (194, .aload 9, 2, [9], vN), (196, .aload 6, 2, [6], vN), (198, .iload 12, 2, [12], vN), (200, .iaload, 1, [], vN), (201, .invokestatic 55, 3, [7, 0], vN), (204, .ifCond .eq 7, 3, [114], vN), (207, .iconst 0, 1, [], vI 0), (208, .goto 4, 3, [115], vN), (211, .iconst 1, 1, [], vI 1), (212, .if_icmp .ne 61, 3, [145], vN), (215, .aload_n 0, 1, [0], vN), (216, .iload 12, 2, [12], vN), (218, .iconst 5, 1, [], vI 5), (219, .invokevirtual 52, 3, [3, 7], vN), (222, .iload 14, 2, [14], vN), (224, .if_icmp .ne 49, 3, [145], vN), (227, .aload_n 0, 1, [0], vN), (228, .iload 12, 2, [12], vN), (230, .invokevirtual 59, 3, [4, 7], vN), (233, .iload 15, 2, [15], vN), (235, .if_icmp .ne 38, 3, [145], vN), (238, .aload_n 0, 1, [0], vN), (239, .iload 12, 2, [12], vN), (241, .invokevirtual 62, 3, [5, 7], vN), (244, .aload_n 2, 1, [2], vN), (245, .aload_n 3, 1, [3], vN), (246, .aload 4, 2, [4], vN), (248, .aload 5, 2, [5], vN), (250, .aload 6, 2, [6], vN)]
theorem qL_lines_2_ok : ∀ e ∈ qL_lines_2, decode cL_lines e.1 = .ok (e.2.1, e.2.2.1) := by decide +kernel
def qL_lines_3 : List xT := [(252, .aload 7, 2, [7], vN), (254, .aload 8, 2, [8], vN), (256, .aload 9, 2, [9], vN), (258, .aload 10, 2, [10], vN), (260, .iload 12, 2, [12], vN), (262, .invokestatic 66, 3, [8, 0], vN), (265, .lcmp, 1, [], vN), (266, .ifCond .ne 7, 3, [145], vN), (269, .iconst 1, 1, [], vI 1), (270, .goto 4, 3, [146], vN), (273, .iconst 0, 1, [], vI 0), (274, .istore 16, 2, [16], vN), (276, .iload 16, 2, [16], vN), (278, .ifCond .eq 86, 3, [193], vN), (281, .aload_n 0, 1, [0], vN), (282, .iload 12, 2, [12], vN), (284, .iconst 0, 1, [], vI 0), (285, .invokevirtual 69, 3, [6, 7], vN), (288, .aload_n 3, 1, [3], vN), (289, .iload 12, 2, [12], vN), (291, .iaload, 1, [], vN), (292, .ifCond .ge 7, 3, [159], vN), (295, .iconst (-1), 1, [], vI (-1)), (296, .goto 7, 3, [162], vN), (299, .aload_n 3, 1, [3], vN), (300, .iload 12, 2, [12], vN), (302, .iaload, 1, [], vN), (303, .if_icmp .ne 61, 3, [193], vN), (306, .aload_n 0, 1, [0], vN), (307, .iload 12, 2, [12], vN), (309, .iconst 1, 1, [], vI 1), (310, .invokevirtual 69, 3, [6, 7], vN), (313, .aload 4, 2, [4], vN), (315, .iload 12, 2, [12], vN), (317, .iaload, 1, [], vN), (318, .ifCond .ge 7, 3, [173], vN), (321, .iconst (-1), 1, [], vI (-1)), (322, .goto 8, 3, [176], vN), (325, .aload 4, 2, [4], vN), (327, .iload 12, 2, [12], vN), (329, .iaload, 1, [], vN), (330, .if_icmp .ne 34, 3, [193], vN), (333, .aload_n 0, 1, [0], vN), (334, .iload 12, 2, [12], vN), (336, .iconst 2, 1, [], vI 2)]
theorem qL_lines_3_ok : ∀ e ∈ qL_lines_3, decode cL_lines e.1 = .ok (e.2.1, e.2.2.1) := by decide +kernel
def qL_lines_4 : List xT := [(337, .invokevirtual 69, 3, [6, 7], vN), (340, .aload 5, 2, [5], vN), (342, .iload 12, 2, [12], vN), (344, .iaload, 1, [], vN), (345, .ifCond .ge 7, 3, [187], vN), (348, .iconst (-1), 1, [], vI (-1)), (349, .goto 8, 3, [190], vN), (352, .aload 5, 2, [5], vN), (354, .iload 12, 2, [12], vN), (356, .iaload, 1, [], vN), (357, .if_icmp .ne 7, 3, [193], vN), (360, .iconst 1, 1, [], vI 1), (361, .goto 4, 3, [194], vN), (364, .iconst 0, 1, [], vI 0), (365, .istore 16, 2, [16], vN), (367, .iload 16, 2, [16], vN), (369, .ifCond .ne 5, 3, [199], vN), (372, .iconst 0, 1, [], vI 0), (373, .ireturn, 1, [], vN), (374, .iinc 12 1, 3, [12], vI 1), (377, .goto (-371), 3, [4], vN), (380, .iconst 0, 1, [], vI 0), (381, .istore 12, 2, [12], vN), (383, .iconst 0, 1, [], vI 0), (384, .istore 13, 2, [13], vN), (386, .iload 13, 2, [13], vN), (388, .aload 10, 2, [10], vN), (390, .iconst 2, 1, [], vI 2), (391, .iaload, 1, [], vN), (392, .if_icmp .ge 138, 3, [279], vN), (395, .iload 12, 2, [12], vN), (397, .aload 8, 2, [8], vN), (399, .iload 13, 2, [13], vN), (401, .iaload, 1, [], vN), (402, .ifCond .ge 7, 3, [217], vN), (405, .iconst 1, 1, [], vI 1), (406, .goto 4, 3, [218], vN), (409, .iconst 0, 1, [], vI 0), (410, .iadd, 1, [], vN), (411, .istore 12, 2, [12], vN), (413, .aload_n 0, 1, [0], vN), (414, .iload 13, 2, [13], vN), (416, .iconst 0, 1, [], vI 0), (417, .invokevirtual 72, 3, [7, 7], vN), (420, .aload 7, 2, [7], vN)]
theorem qL_lines_4_ok : ∀ e ∈ qL_lines_4, decode cL_lines e.1 = .ok (e.2.1, e.2.2.1) := by decide +kernel
def qL_lines_5 : List xT := [(422, .iload 13, 2, [13], vN), (424, .iaload, 1, [], vN), (425, .if_icmp .ne 97, 3, [275], vN), (428, .aload_n 0, 1, [0], vN), (429, .iload 13, 2, [13], vN), (431, .iconst 1, 1, [], vI 1), (432, .invokevirtual 72, 3, [7, 7], vN), (435, .aload 8, 2, [8], vN), (437, .iload 13, 2, [13], vN), (439, .iaload, 1, [], vN), (440, .ifCond .ge 8, 3, [238], vN), (443, .bipush (-6), 2, [], vI (-6)), (445, .goto 8, 3, [241], vN), (448, .aload 8, 2, [8], vN), (450, .iload 13, 2, [13], vN), (452, .iaload, 1, [], vN), (453, .if_icmp .ne 69, 3, [275], vN), (456, .aload_n 0, 1, [0], vN), (457, .iload 13, 2, [13], vN), (459, .iconst 2, 1, [], vI 2), (460, .invokevirtual 72, 3, [7, 7], vN), (463, .aload 9, 2, [9], vN), (465, .iload 13, 2, [13], vN), (467, .iaload, 1, [], vN), (468, .ifCond .ge 8, 3, [252], vN), (471, .bipush (-6), 2, [], vI (-6)), (473, .goto 8, 3, [255], vN), (476, .aload 9, 2, [9], vN), (478, .iload 13, 2, [13], vN), (480, .iaload, 1, [], vN), (481, .if_icmp .ne 41, 3, [275], vN), (484, .aload_n 0, 1, [0], vN), (485, .iload 13, 2, [13], vN), (487, .iconst 3, 1, [], vI 3), (488, .invokevirtual 72, 3, [7, 7], vN), (491, .aload 8, 2, [8], vN), (493, .iload 13, 2, [13], vN), (495, .iaload, 1, [], vN), (496, .ifCond .lt 22, 3, [273], vN), (499, .aload 8, 2, [8], vN), (501, .aload 9, 2, [9], vN), (503, .aload 9, 2, [9], vN), (505, .iload 13, 2, [13], vN), (507, .iaload, 1, [], vN), (508, .invokestatic 55, 3, [7, 0], vN)]
theorem qL_lines_5_ok : ∀ e ∈ qL_lines_5, decode cL_lines e.1 = .ok (e.2.1, e.2.2.1) := by decide +kernel
def qL_lines_6 : List xT := [(511, .ifCond .ne 7, 3, [273], vN), (514, .iconst 1, 1, [], vI 1), (515, .goto 4, 3, [274], vN), (518, .iconst 0, 1, [], vI 0), (519, .if_icmp .eq 5, 3, [277], vN), (522, .iconst 0, 1, [], vI 0), (523, .ireturn, 1, [], vN), (524, .iinc 13 1, 3, [13], vI 1), (527, .goto (-141), 3, [205], vN), (530, .aload_n 0, 1, [0], vN), (531, .invokevirtual 75, 3, [8, 7], vN), (534, .aload 10, 2, [10], vN), (536, .iconst 1, 1, [], vI 1), (537, .iaload, 1, [], vN), (538, .if_icmp .ne 36, 3, [301], vN), (541, .aload_n 0, 1, [0], vN), (542, .invokevirtual 78, 3, [9, 7], vN), (545, .aload 10, 2, [10], vN), (547, .iconst 2, 1, [], vI 2), (548, .iaload, 1, [], vN), (549, .if_icmp .ne 25, 3, [301], vN), (552, .aload_n 0, 1, [0], vN), (553, .invokevirtual 81, 3, [10, 7], vN), (556, .iload 12, 2, [12], vN), (558, .if_icmp .ne 16, 3, [301], vN), (561, .aload_n 0, 1, [0], vN), (562, .invokevirtual 84, 3, [11, 7], vN), (565, .iload 11, 2, [11], vN), (567, .if_icmp .ne 7, 3, [301], vN), (570, .iconst 1, 1, [], vI 1), (571, .goto 4, 3, [302], vN), (574, .iconst 0, 1, [], vI 0), (575, .ireturn, 1, [], vN)]
theorem qL_lines_6_ok : ∀ e ∈ qL_lines_6, decode cL_lines e.1 = .ok (e.2.1, e.2.2.1) := by decide +kernel
def qL_follows_0 : List xT := [(0, .bipush (-6), 2, [], vI (-6)), (2, .istore 13, 2, [13], vN), (4, .bipush (-6), 2, [], vI (-6)), (6, .istore 14, 2, [14], vN), (8, .sipush 255, 3, [], vI 255), (11, .istore 15, 2, [15], vN), (13, .iload 15, 2, [15], vN), (15, .ifCond .lt 249, 3, [140], vN), (18, .aload_n 1, 1, [1], vN), (19, .aload_n 2, 1, [2], vN), (20, .aload_n 3, 1, [3], vN), (21, .aload 10, 2, [10], vN), (23, .iload 15, 2, [15], vN), (25, .invokestatic 37, 3, [5, 0], vN), (28, .lstore 16, 2, [16], vN), (30, .iconst 1, 1, [], vI 1), (31, .istore 18, 2, [18], vN), (33, .iconst 1, 1, [], vI 1), (34, .istore 19, 2, [19], vN), (36, .iconst 0, 1, [], vI 0), (37, .istore 20, 2, [20], vN), (39, .iload 20, 2, [20], vN), (41, .aload 10, 2, [10], vN), (43, .iconst 1, 1, [], vI 1), (44, .iaload, 1, [], vN), (45, .if_icmp .ge 93, 3, [73], vN), (48, .lload 16, 2, [16], vN), (50, .aload 4, 2, [4], vN), (52, .iload 20, 2, [20], vN), (54, .iaload, 1, [], vN), (55, .lshr, 1, [], vN), (56, .lconst 1, 1, [], vL 1), (57, .land, 1, [], vN), (58, .lconst 1, 1, [], vL 1), (59, .lcmp, 1, [], vN), (60, .ifCond .ne 7, 3, [38], vN), (63, .iconst 1, 1, [], vI 1), (64, .goto 4, 3, [39], vN), (67, .iconst 0, 1, [], vI 0), (68, .istore 21, 2, [21], vN), (70, .iload 18, 2, [18], vN), (72, .ifCond .eq 20, 3, [50], vN), (75, .aload 5, 2, [5], vN), (77, .iload 20, 2, [20], vN), (79, .iaload, 1, [], vN)]
theorem qL_follows_0_ok : ∀ e ∈ qL_follows_0, decode cL_follows e.1 = .ok (e.2.1, e.2.2.1) := by decide +kernel
def qL_follows_1 : List xT := [(80, .ifCond .ne 8, 3, [48], vN), (83, .iload 21, 2, [21], vN), (85, .ifCond .eq 7, 3, [50], vN), (88, .iconst 1, 1, [], vI 1), (89, .goto 4, 3, [51], vN), (92, .iconst 0, 1, [], vI 0), (93, .istore 18, 2, [18], vN), (95, .iload 19, 2, [19], vN), (97, .ifCond .eq 32, 3, [69], vN), (100, .aload 5, 2, [5], vN), (102, .iload 20, 2, [20], vN), (104, .iaload, 1, [], vN), (105, .iconst 1, 1, [], vI 1), (106, .if_icmp .ne 19, 3, [67], vN), (109, .aload 8, 2, [8], vN), (111, .aload 6, 2, [6], vN), (113, .iload 20, 2, [20], vN), (115, .iaload, 1, [], vN), (116, .iaload, 1, [], vN), (117, .ifCond .ge 8, 3, [67], vN), (120, .iload 21, 2, [21], vN), (122, .ifCond .eq 7, 3, [69], vN), (125, .iconst 1, 1, [], vI 1), (126, .goto 4, 3, [70], vN), (129, .iconst 0, 1, [], vI 0), (130, .istore 19, 2, [19], vN), (132, .iinc 20 1, 3, [20], vI 1), (135, .goto (-96), 3, [21], vN), (138, .iconst 1, 1, [], vI 1), (139, .istore 20, 2, [20], vN), (141, .aload 6, 2, [6], vN), (143, .iload 12, 2, [12], vN), (145, .iaload, 1, [], vN), (146, .istore 21, 2, [21], vN), (148, .iload 21, 2, [21], vN), (150, .ifCond .lt 43, 3, [104], vN), (153, .iload 20, 2, [20], vN), (155, .ifCond .eq 25, 3, [97], vN), (158, .lload 16, 2, [16], vN), (160, .aload 4, 2, [4], vN), (162, .aload 7, 2, [7], vN), (164, .iload 21, 2, [21], vN), (166, .iaload, 1, [], vN), (167, .iaload, 1, [], vN), (168, .lshr, 1, [], vN)]
theorem qL_follows_1_ok : ∀ e ∈ qL_follows_1, decode cL_follows e.1 = .ok (e.2.1, e.2.2.1) := by decide +kernel
def qL_follows_2 : List xT := [(169, .lconst 1, 1, [], vL 1), (170, .land, 1, [], vN), (171, .lconst 1, 1, [], vL 1), (172, .lcmp, 1, [], vN), (173, .ifCond .ne 7, 3, [97], vN), (176, .iconst 1, 1, [], vI 1), (177, .goto 4, 3, [98], vN), (180, .iconst 0, 1, [], vI 0), (181, .istore 20, 2, [20], vN), (183, .aload 9, 2, [9], vN), (185, .iload 21, 2, [21], vN), (187, .iaload, 1, [], vN), (188, .istore 21, 2, [21], vN), (190, .goto (-42), 3, [79], vN), (193, .iload 18, 2, [18], vN), (195, .ifCond .eq 28, 3, [120], vN), (198, .iload 20, 2, [20], vN), (200, .ifCond .eq 23, 3, [120], vN), (203, .lload 16, 2, [16], vN), (205, .aload 4, 2, [4], vN), (207, .iload 12, 2, [12], vN), (209, .iaload, 1, [], vN), (210, .lshr, 1, [], vN), (211, .lconst 1, 1, [], vL 1), (212, .land, 1, [], vN), (213, .lconst 0, 1, [], vL 0), (214, .lcmp, 1, [], vN), (215, .ifCond .ne 8, 3, [120], vN), (218, .iload 15, 2, [15], vN), (220, .goto 5, 3, [121], vN), (223, .iload 13, 2, [13], vN), (225, .istore 13, 2, [13], vN), (227, .iload 18, 2, [18], vN), (229, .ifCond .eq 25, 3, [136], vN), (232, .iload 19, 2, [19], vN), (234, .ifCond .eq 20, 3, [136], vN), (237, .lload 16, 2, [16], vN), (239, .iload 11, 2, [11], vN), (241, .lshr, 1, [], vN), (242, .lconst 1, 1, [], vL 1), (243, .land, 1, [], vN), (244, .lconst 0, 1, [], vL 0), (245, .lcmp, 1, [], vN), (246, .ifCond .ne 8, 3, [136], vN), (249, .iload 15, 2, [15], vN)]
theorem qL_follows_2_ok : ∀ e ∈ qL_follows_2, decode cL_follows e.1 = .ok (e.2.1, e.2.2.1) := by decide +kernel
def qL_follows_3 : List xT := [(251, .goto 5, 3, [137], vN), (254, .iload 14, 2, [14], vN), (256, .istore 14, 2, [14], vN), (258, .iinc 15 (-1), 3, [15], vI (-1)), (261, .goto (-248), 3, [6], vN), (264, .iload 13, 2, [13], vN), (266, .bipush (-6), 2, [], vI (-6)), (268, .if_icmp .ne 29, 3, [155], vN), (271, .aload_n 0, 1, [0], vN), (272, .iload 12, 2, [12], vN), (274, .invokevirtual 87, 3, [12, 7], vN), (277, .iload 13, 2, [13], vN), (279, .if_icmp .ne 18, 3, [155], vN), (282, .aload_n 0, 1, [0], vN), (283, .iload 11, 2, [11], vN), (285, .invokevirtual 90, 3, [13, 7], vN), (288, .iload 14, 2, [14], vN), (290, .if_icmp .ne 7, 3, [155], vN), (293, .iconst 1, 1, [], vI 1), (294, .goto 4, 3, [156], vN), (297, .iconst 0, 1, [], vI 0), (298, .ireturn, 1, [], vN)]
theorem qL_follows_3_ok : ∀ e ∈ qL_follows_3, decode cL_follows e.1 = .ok (e.2.1, e.2.2.1) := by decide +kernel
def qL_trim_0 : List xT := [(12, .iconst 0, 1, [], vI 0), (13, .istore 14, 2, [14], vN), (15, .iconst 0, 1, [], vI 0), (16, .istore 15, 2, [15], vN), (18, .iconst 0, 1, [], vI 0), (19, .istore 16, 2, [16], vN), (21, .iload 16, 2, [16], vN), (23, .aload 9, 2, [9], vN), (25, .iconst 1, 1, [], vI 1), (26, .iaload, 1, [], vN), (27, .if_icmp .ge 30, 3, [27], vN), (30, .aload 12, 2, [12], vN), (32, .iload 16, 2, [16], vN), (34, .iload 14, 2, [14], vN), (36, .iastore, 1, [], vN), (37, .iload 14, 2, [14], vN), (39, .i2l, 1, [], vN), (40, .lload 10, 2, [10], vN), (42, .iload 16, 2, [16], vN), (44, .lshr, 1, [], vN), (45, .lconst 1, 1, [], vL 1), (46, .land, 1, [], vN), (47, .ladd, 1, [], vN), (48, .l2i, 1, [], vN), (49, .istore 14, 2, [14], vN), (51, .iinc 16 1, 3, [16], vI 1), (54, .goto (-33), 3, [6], vN), (57, .iconst 0, 1, [], vI 0), (58, .istore 16, 2, [16], vN), (60, .iload 16, 2, [16], vN), (62, .aload 9, 2, [9], vN), (64, .iconst 2, 1, [], vI 2), (65, .iaload, 1, [], vN), (66, .if_icmp .ge 101, 3, [89], vN), (69, .lload 10, 2, [10], vN), (71, .aload 6, 2, [6], vN), (73, .iload 16, 2, [16], vN), (75, .iaload, 1, [], vN), (76, .lshr, 1, [], vN), (77, .lconst 1, 1, [], vL 1), (78, .land, 1, [], vN), (79, .lconst 1, 1, [], vL 1), (80, .lcmp, 1, [], vN), (81, .ifCond .ne 7, 3, [46], vN), (84, .iconst 1, 1, [], vI 1)]
theorem qL_trim_0_ok : ∀ e ∈ qL_trim_0, decode cL_trim e.1 = .ok (e.2.1, e.2.2.1) := by decide +kernel
def qL_trim_1 : List xT := [(85, .goto 4, 3, [47], vN), (88, .iconst 0, 1, [], vI 0), (89, .istore 17, 2, [17], vN), (91, .aload 13, 2, [13], vN), (93, .iload 16, 2, [16], vN), (95, .iload 15, 2, [15], vN), (97, .iastore, 1, [], vN), (98, .iload 17, 2, [17], vN), (100, .ifCond .eq 61, 3, [87], vN), (103, .aload 8, 2, [8], vN), (105, .iload 16, 2, [16], vN), (107, .iaload, 1, [], vN), (108, .ifCond .ge 7, 3, [60], vN), (111, .iconst (-1), 1, [], vI (-1)), (112, .goto 11, 3, [65], vN), (115, .aload 13, 2, [13], vN), (117, .aload 8, 2, [8], vN), (119, .iload 16, 2, [16], vN), (121, .iaload, 1, [], vN), (122, .iaload, 1, [], vN), (123, .istore 18, 2, [18], vN), (125, .aload 6, 2, [6], vN), (127, .iload 15, 2, [15], vN), (129, .aload 12, 2, [12], vN), (131, .aload 6, 2, [6], vN), (133, .iload 16, 2, [16], vN), (135, .iaload, 1, [], vN), (136, .iaload, 1, [], vN), (137, .iastore, 1, [], vN), (138, .aload 7, 2, [7], vN), (140, .iload 15, 2, [15], vN), (142, .aload 12, 2, [12], vN), (144, .aload 7, 2, [7], vN), (146, .iload 16, 2, [16], vN), (148, .iaload, 1, [], vN), (149, .iaload, 1, [], vN), (150, .iastore, 1, [], vN), (151, .aload 8, 2, [8], vN), (153, .iload 15, 2, [15], vN), (155, .iload 18, 2, [18], vN), (157, .iastore, 1, [], vN), (158, .iinc 15 1, 3, [15], vI 1), (161, .iinc 16 1, 3, [16], vI 1), (164, .goto (-104), 3, [29], vN), (167, .iconst 0, 1, [], vI 0)]
theorem qL_trim_1_ok : ∀ e ∈ qL_trim_1, decode cL_trim e.1 = .ok (e.2.1, e.2.2.1) := by decide +kernel
def qL_trim_2 : List xT := [(168, .istore 16, 2, [16], vN), (170, .iload 16, 2, [16], vN), (172, .aload 9, 2, [9], vN), (174, .iconst 1, 1, [], vI 1), (175, .iaload, 1, [], vN), (176, .if_icmp .ge 208, 3, [219], vN), (179, .lload 10, 2, [10], vN), (181, .iload 16, 2, [16], vN), (183, .lshr, 1, [], vN), (184, .lconst 1, 1, [], vL 1), (185, .land, 1, [], vN), (186, .lconst 1, 1, [], vL 1), (187, .lcmp, 1, [], vN), (188, .ifCond .ne 190, 3, [217], vN), (191, .aload_n 1, 1, [1], vN), (192, .iload 16, 2, [16], vN), (194, .iaload, 1, [], vN), (195, .bipush 8, 2, [], vI 8), (197, .if_icmp .eq 12, 3, [114], vN), (200, .aload_n 1, 1, [1], vN), (201, .iload 16, 2, [16], vN), (203, .iaload, 1, [], vN), (204, .bipush 10, 2, [], vI 10), (206, .if_icmp .ne 7, 3, [116], vN), (209, .iconst 1, 1, [], vI 1), (210, .goto 4, 3, [117], vN), (213, .iconst 0, 1, [], vI 0), (214, .istore 17, 2, [17], vN), (216, .aload_n 0, 1, [0], vN), (217, .aload 12, 2, [12], vN), (219, .iload 16, 2, [16], vN), (221, .iaload, 1, [], vN), (222, .aload_n 0, 1, [0], vN), (223, .iload 16, 2, [16], vN), (225, .iaload, 1, [], vN), (226, .iastore, 1, [], vN), (227, .aload_n 2, 1, [2], vN), (228, .aload 12, 2, [12], vN), (230, .iload 16, 2, [16], vN), (232, .iaload, 1, [], vN), (233, .aload_n 2, 1, [2], vN), (234, .iload 16, 2, [16], vN), (236, .iaload, 1, [], vN), (237, .ifCond .ge 7, 3, [136], vN), (240, .iconst (-1), 1, [], vI (-1))]
theorem qL_trim_2_ok : ∀ e ∈ qL_trim_2, decode cL_trim e.1 = .ok (e.2.1, e.2.2.1) := by decide +kernel
def qL_trim_3 : List xT := [(241, .goto 25, 3, [149], vN), (244, .iload 17, 2, [17], vN), (246, .ifCond .eq 13, 3, [144], vN), (249, .aload 13, 2, [13], vN), (251, .aload_n 2, 1, [2], vN), (252, .iload 16, 2, [16], vN), (254, .iaload, 1, [], vN), (255, .iaload, 1, [], vN), (256, .goto 10, 3, [149], vN), (259, .aload 12, 2, [12], vN), (261, .aload_n 2, 1, [2], vN), (262, .iload 16, 2, [16], vN), (264, .iaload, 1, [], vN), (265, .iaload, 1, [], vN), (266, .iastore, 1, [], vN), (267, .aload_n 3, 1, [3], vN), (268, .aload 12, 2, [12], vN), (270, .iload 16, 2, [16], vN), (272, .iaload, 1, [], vN), (273, .aload_n 3, 1, [3], vN), (274, .iload 16, 2, [16], vN), (276, .iaload, 1, [], vN), (277, .ifCond .ge 7, 3, [160], vN), (280, .iconst (-1), 1, [], vI (-1)), (281, .goto 29, 3, [176], vN), (284, .aload_n 1, 1, [1], vN), (285, .iload 16, 2, [16], vN), (287, .iaload, 1, [], vN), (288, .bipush 7, 2, [], vI 7), (290, .if_icmp .ne 13, 3, [171], vN), (293, .aload 13, 2, [13], vN), (295, .aload_n 3, 1, [3], vN), (296, .iload 16, 2, [16], vN), (298, .iaload, 1, [], vN), (299, .iaload, 1, [], vN), (300, .goto 10, 3, [176], vN), (303, .aload 12, 2, [12], vN), (305, .aload_n 3, 1, [3], vN), (306, .iload 16, 2, [16], vN), (308, .iaload, 1, [], vN), (309, .iaload, 1, [], vN), (310, .iastore, 1, [], vN), (311, .aload 4, 2, [4], vN), (313, .aload 12, 2, [12], vN), (315, .iload 16, 2, [16], vN)]
theorem qL_trim_3_ok : ∀ e ∈ qL_trim_3, decode cL_trim e.1 = .ok (e.2.1, e.2.2.1) := by decide +kernel
def qL_trim_4 : List xT := [(317, .iaload, 1, [], vN), (318, .aload 4, 2, [4], vN), (320, .iload 16, 2, [16], vN), (322, .iaload, 1, [], vN), (323, .ifCond .ge 7, 3, [187], vN), (326, .iconst (-1), 1, [], vI (-1)), (327, .goto 11, 3, [192], vN), (330, .aload 13, 2, [13], vN), (332, .aload 4, 2, [4], vN), (334, .iload 16, 2, [16], vN), (336, .iaload, 1, [], vN), (337, .iaload, 1, [], vN), (338, .iastore, 1, [], vN), (339, .aload 5, 2, [5], vN), (341, .aload 12, 2, [12], vN), (343, .iload 16, 2, [16], vN), (345, .iaload, 1, [], vN), (346, .aload 5, 2, [5], vN), (348, .iload 16, 2, [16], vN), (350, .iaload, 1, [], vN), (351, .ifCond .ge 7, 3, [203], vN), (354, .iconst (-1), 1, [], vI (-1)), (355, .goto 11, 3, [208], vN), (358, .aload 13, 2, [13], vN), (360, .aload 5, 2, [5], vN), (362, .iload 16, 2, [16], vN), (364, .iaload, 1, [], vN), (365, .iaload, 1, [], vN), (366, .iastore, 1, [], vN), (367, .aload_n 1, 1, [1], vN), (368, .aload 12, 2, [12], vN), (370, .iload 16, 2, [16], vN), (372, .iaload, 1, [], vN), (373, .aload_n 1, 1, [1], vN), (374, .iload 16, 2, [16], vN), (376, .iaload, 1, [], vN), (377, .iastore, 1, [], vN), (378, .iinc 16 1, 3, [16], vI 1), (381, .goto (-211), 3, [91], vN), (384, .aload 9, 2, [9], vN), (386, .iconst 1, 1, [], vI 1), (387, .iload 14, 2, [14], vN), (389, .iastore, 1, [], vN), (390, .aload 9, 2, [9], vN), (392, .iconst 2, 1, [], vI 2)]
theorem qL_trim_4_ok : ∀ e ∈ qL_trim_4, decode cL_trim e.1 = .ok (e.2.1, e.2.2.1) := by decide +kernel
def qL_trim_5 : List xT := [(393, .iload 15, 2, [15], vN), (395, .iastore, 1, [], vN), (396, .return_, 1, [], vN)]
theorem qL_trim_5_ok : ∀ e ∈ qL_trim_5, decode cL_trim e.1 = .ok (e.2.1, e.2.2.1) := by decide +kernel
def qL_rule_0 : List xT := [(0, .iload 8, 2, [8], vN), (2, .bipush 8, 2, [], vI 8), (4, .if_icmp .eq 10, 3, [6], vN), (7, .iload 8, 2, [8], vN), (9, .bipush 10, 2, [], vI 10), (11, .if_icmp .ne 7, 3, [8], vN), (14, .iconst 1, 1, [], vI 1), (15, .goto 4, 3, [9], vN), (18, .iconst 0, 1, [], vI 0), (19, .istore 12, 2, [12], vN), (21, .iload 12, 2, [12], vN), (23, .ifCond .eq 29, 3, [24], vN), (26, .aload 6, 2, [6], vN), (28, .iload 9, 2, [9], vN), (30, .iaload, 1, [], vN), (31, .ifCond .lt 36, 3, [31], vN), (34, .aload 6, 2, [6], vN), (36, .aload 7, 2, [7], vN), (38, .aload 7, 2, [7], vN), (40, .iload 9, 2, [9], vN), (42, .iaload, 1, [], vN), (43, .invokestatic 55, 3, [7, 0], vN), (46, .ifCond .eq 23, 3, [33], vN), (49, .goto 18, 3, [31], vN), (52, .aload 6, 2, [6], vN), (54, .aload 7, 2, [7], vN), (56, .aload 4, 2, [4], vN), (58, .iload 9, 2, [9], vN), (60, .iaload, 1, [], vN), (61, .invokestatic 55, 3, [7, 0], vN), (64, .ifCond .eq 5, 3, [33], vN), (67, .lconst 0, 1, [], vL 0), (68, .lreturn, 1, [], vN), (69, .iload 12, 2, [12], vN), (71, .ifCond .eq 13, 3, [41], vN), (74, .aload_n 3, 1, [3], vN), (75, .aload 5, 2, [5], vN), (77, .iload 9, 2, [9], vN), (79, .iaload, 1, [], vN), (80, .iaload, 1, [], vN), (81, .goto 7, 3, [44], vN), (84, .aload_n 3, 1, [3], vN), (85, .iload 9, 2, [9], vN), (87, .iaload, 1, [], vN), (88, .istore 13, 2, [13], vN)]
theorem qL_rule_0_ok : ∀ e ∈ qL_rule_0, decode cL_rule e.1 = .ok (e.2.1, e.2.2.1) := by decide +kernel
def qL_rule_1 : List xT := [(90, .iload 12, 2, [12], vN), (92, .ifCond .eq 65, 3, [82], vN), (95, .aload_n 3, 1, [3], vN), (96, .aload 6, 2, [6], vN), (98, .iload 9, 2, [9], vN), (100, .iaload, 1, [], vN), (101, .iaload, 1, [], vN), (102, .istore 14, 2, [14], vN), (104, .iload 8, 2, [8], vN), (106, .bipush 8, 2, [], vI 8), (108, .if_icmp .ne 21, 3, [66], vN), (111, .ldc2_w 93, 3, [], vL 500000000), (114, .ldc2_w 95, 3, [], vL 1000), (117, .iload 13, 2, [13], vN), (119, .i2l, 1, [], vN), (120, .lmul, 1, [], vN), (121, .ladd, 1, [], vN), (122, .iload 14, 2, [14], vN), (124, .i2l, 1, [], vN), (125, .ladd, 1, [], vN), (126, .goto 30, 3, [81], vN), (129, .aload_n 0, 1, [0], vN), (130, .iload 14, 2, [14], vN), (132, .iaload, 1, [], vN), (133, .iconst 1, 1, [], vI 1), (134, .if_icmp .ne 21, 3, [80], vN), (137, .ldc2_w 97, 3, [], vL 200000000), (140, .ldc2_w 95, 3, [], vL 1000), (143, .iload 13, 2, [13], vN), (145, .i2l, 1, [], vN), (146, .lmul, 1, [], vN), (147, .ladd, 1, [], vN), (148, .ldc2_w 99, 3, [], vL 999), (151, .ladd, 1, [], vN), (152, .goto 4, 3, [81], vN), (155, .lconst 0, 1, [], vL 0), (156, .lreturn, 1, [], vN), (157, .iload 8, 2, [8], vN), (159, .bipush 7, 2, [], vI 7), (161, .if_icmp .ne 129, 3, [158], vN), (164, .aload 6, 2, [6], vN), (166, .iload 10, 2, [10], vN), (168, .iaload, 1, [], vN), (169, .ifCond .lt 53, 3, [114], vN), (172, .aload 6, 2, [6], vN)]
theorem qL_rule_1_ok : ∀ e ∈ qL_rule_1, decode cL_rule e.1 = .ok (e.2.1, e.2.2.1) := by decide +kernel
def qL_rule_2 : List xT := [(174, .iload 11, 2, [11], vN), (176, .iaload, 1, [], vN), (177, .ifCond .lt 45, 3, [114], vN), (180, .aload 6, 2, [6], vN), (182, .aload 7, 2, [7], vN), (184, .aload 7, 2, [7], vN), (186, .iload 10, 2, [10], vN), (188, .iaload, 1, [], vN), (189, .invokestatic 55, 3, [7, 0], vN), (192, .ifCond .ne 30, 3, [114], vN), (195, .aload 6, 2, [6], vN), (197, .aload 7, 2, [7], vN), (199, .aload 7, 2, [7], vN), (201, .iload 11, 2, [11], vN), (203, .iaload, 1, [], vN), (204, .invokestatic 55, 3, [7, 0], vN), (207, .ifCond .ne 15, 3, [114], vN), (210, .aload_n 0, 1, [0], vN), (211, .iload 13, 2, [13], vN), (213, .iaload, 1, [], vN), (214, .iconst 4, 1, [], vI 4), (215, .if_icmp .ne 7, 3, [114], vN), (218, .iconst 1, 1, [], vI 1), (219, .goto 4, 3, [115], vN), (222, .iconst 0, 1, [], vI 0), (223, .istore 14, 2, [14], vN), (225, .iload 14, 2, [14], vN), (227, .ifCond .eq 61, 3, [156], vN), (230, .aload_n 3, 1, [3], vN), (231, .aload 5, 2, [5], vN), (233, .iload 10, 2, [10], vN), (235, .iaload, 1, [], vN), (236, .iaload, 1, [], vN), (237, .aload_n 1, 1, [1], vN), (238, .iload 13, 2, [13], vN), (240, .iaload, 1, [], vN), (241, .if_icmp .ne 47, 3, [156], vN), (244, .aload_n 3, 1, [3], vN), (245, .aload 5, 2, [5], vN), (247, .iload 11, 2, [11], vN), (249, .iaload, 1, [], vN), (250, .iaload, 1, [], vN), (251, .aload_n 2, 1, [2], vN), (252, .iload 13, 2, [13], vN), (254, .iaload, 1, [], vN)]
theorem qL_rule_2_ok : ∀ e ∈ qL_rule_2, decode cL_rule e.1 = .ok (e.2.1, e.2.2.1) := by decide +kernel
def qL_rule_3 : List xT := [(255, .if_icmp .ne 33, 3, [156], vN), (258, .aload_n 3, 1, [3], vN), (259, .aload 6, 2, [6], vN), (261, .iload 10, 2, [10], vN), (263, .iaload, 1, [], vN), (264, .iaload, 1, [], vN), (265, .aload_n 3, 1, [3], vN), (266, .aload 6, 2, [6], vN), (268, .iload 11, 2, [11], vN), (270, .iaload, 1, [], vN), (271, .iaload, 1, [], vN), (272, .if_icmp .ne 16, 3, [156], vN), (275, .aload_n 3, 1, [3], vN), (276, .aload 6, 2, [6], vN), (278, .iload 10, 2, [10], vN), (280, .iaload, 1, [], vN), (281, .iaload, 1, [], vN), (282, .i2l, 1, [], vN), (283, .lconst 1, 1, [], vL 1), (284, .ladd, 1, [], vN), (285, .goto 4, 3, [157], vN), (288, .lconst 0, 1, [], vL 0), (289, .lreturn, 1, [], vN), (290, .iload 8, 2, [8], vN), (292, .iconst 4, 1, [], vI 4), (293, .if_icmp .eq 9, 3, [164], vN), (296, .iload 8, 2, [8], vN), (298, .iconst 5, 1, [], vI 5), (299, .if_icmp .ne 36, 3, [185], vN), (302, .aload_n 0, 1, [0], vN), (303, .iload 13, 2, [13], vN), (305, .iaload, 1, [], vN), (306, .iconst 3, 1, [], vI 3), (307, .if_icmp .ne 26, 3, [183], vN), (310, .iload 8, 2, [8], vN), (312, .iconst 4, 1, [], vI 4), (313, .if_icmp .ne 10, 3, [176], vN), (316, .aload_n 1, 1, [1], vN), (317, .iload 13, 2, [13], vN), (319, .iaload, 1, [], vN), (320, .goto 7, 3, [179], vN), (323, .aload_n 2, 1, [2], vN), (324, .iload 13, 2, [13], vN), (326, .iaload, 1, [], vN), (327, .i2l, 1, [], vN)]
theorem qL_rule_3_ok : ∀ e ∈ qL_rule_3, decode cL_rule e.1 = .ok (e.2.1, e.2.2.1) := by decide +kernel
def qL_rule_4 : List xT := [(328, .lconst 1, 1, [], vL 1), (329, .ladd, 1, [], vN), (330, .goto 4, 3, [184], vN), (333, .lconst 0, 1, [], vL 0), (334, .lreturn, 1, [], vN), (335, .iload 8, 2, [8], vN), (337, .bipush 13, 2, [], vI 13), (339, .if_icmp .ne 35, 3, [211], vN), (342, .aload_n 0, 1, [0], vN), (343, .iload 13, 2, [13], vN), (345, .iaload, 1, [], vN), (346, .iconst 2, 1, [], vI 2), (347, .if_icmp .ne 25, 3, [209], vN), (350, .aload_n 0, 1, [0], vN), (351, .aload_n 1, 1, [1], vN), (352, .iload 13, 2, [13], vN), (354, .iaload, 1, [], vN), (355, .iaload, 1, [], vN), (356, .iconst 2, 1, [], vI 2), (357, .if_icmp .ne 15, 3, [209], vN), (360, .aload_n 1, 1, [1], vN), (361, .aload_n 1, 1, [1], vN), (362, .iload 13, 2, [13], vN), (364, .iaload, 1, [], vN), (365, .iaload, 1, [], vN), (366, .i2l, 1, [], vN), (367, .lconst 1, 1, [], vL 1), (368, .ladd, 1, [], vN), (369, .goto 4, 3, [210], vN), (372, .lconst 0, 1, [], vL 0), (373, .lreturn, 1, [], vN), (374, .iload 8, 2, [8], vN), (376, .iconst 2, 1, [], vI 2), (377, .if_icmp .ne 9, 3, [219], vN), (380, .iload 13, 2, [13], vN), (382, .i2l, 1, [], vN), (383, .lconst 1, 1, [], vL 1), (384, .ladd, 1, [], vN), (385, .lreturn, 1, [], vN), (386, .iload 8, 2, [8], vN), (388, .bipush 6, 2, [], vI 6), (390, .if_icmp .eq 10, 3, [225], vN), (393, .iload 8, 2, [8], vN), (395, .bipush 12, 2, [], vI 12), (397, .if_icmp .ne 74, 3, [265], vN)]
theorem qL_rule_4_ok : ∀ e ∈ qL_rule_4, decode cL_rule e.1 = .ok (e.2.1, e.2.2.1) := by decide +kernel
def qL_rule_5 : List xT := [(400, .iload 8, 2, [8], vN), (402, .bipush 12, 2, [], vI 12), (404, .if_icmp .ne 19, 3, [237], vN), (407, .aload_n 0, 1, [0], vN), (408, .iload 13, 2, [13], vN), (410, .iaload, 1, [], vN), (411, .iconst 1, 1, [], vI 1), (412, .if_icmp .ne 7, 3, [235], vN), (415, .iconst 1, 1, [], vI 1), (416, .goto 38, 3, [255], vN), (419, .iconst 0, 1, [], vI 0), (420, .goto 34, 3, [255], vN), (423, .aload_n 0, 1, [0], vN), (424, .iload 10, 2, [10], vN), (426, .iaload, 1, [], vN), (427, .iconst 4, 1, [], vI 4), (428, .if_icmp .ne 25, 3, [254], vN), (431, .aload_n 1, 1, [1], vN), (432, .iload 10, 2, [10], vN), (434, .iaload, 1, [], vN), (435, .iload 13, 2, [13], vN), (437, .if_icmp .eq 12, 3, [252], vN), (440, .aload_n 2, 1, [2], vN), (441, .iload 10, 2, [10], vN), (443, .iaload, 1, [], vN), (444, .iload 13, 2, [13], vN), (446, .if_icmp .ne 7, 3, [254], vN), (449, .iconst 1, 1, [], vI 1), (450, .goto 4, 3, [255], vN), (453, .iconst 0, 1, [], vI 0), (454, .istore 14, 2, [14], vN), (456, .iload 14, 2, [14], vN), (458, .ifCond .eq 11, 3, [263], vN), (461, .iload 10, 2, [10], vN), (463, .i2l, 1, [], vN), (464, .lconst 1, 1, [], vL 1), (465, .ladd, 1, [], vN), (466, .goto 4, 3, [264], vN), (469, .lconst 0, 1, [], vL 0), (470, .lreturn, 1, [], vN), (471, .aload 6, 2, [6], vN), (473, .aload 7, 2, [7], vN), (475, .aload 4, 2, [4], vN), (477, .iload 10, 2, [10], vN), (479, .iaload, 1, [], vN)]
theorem qL_rule_5_ok : ∀ e ∈ qL_rule_5, decode cL_rule e.1 = .ok (e.2.1, e.2.2.1) := by decide +kernel
def qL_rule_6 : List xT := [(480, .invokestatic 55, 3, [7, 0], vN), (483, .ifCond .eq 5, 3, [274], vN), (486, .lconst 0, 1, [], vL 0), (487, .lreturn, 1, [], vN), (488, .aload_n 3, 1, [3], vN), (489, .iload 10, 2, [10], vN), (491, .iaload, 1, [], vN), (492, .istore 14, 2, [14], vN), (494, .iload 8, 2, [8], vN), (496, .iconst 3, 1, [], vI 3), (497, .if_icmp .ne 21, 3, [291], vN), (500, .ldc2_w 101, 3, [], vL 300000000), (503, .ldc2_w 95, 3, [], vL 1000), (506, .iload 13, 2, [13], vN), (508, .i2l, 1, [], vN), (509, .lmul, 1, [], vN), (510, .ladd, 1, [], vN), (511, .iload 14, 2, [14], vN), (513, .i2l, 1, [], vN), (514, .ladd, 1, [], vN), (515, .goto 65, 3, [326], vN), (518, .iload 8, 2, [8], vN), (520, .bipush 9, 2, [], vI 9), (522, .if_icmp .ne 34, 3, [313], vN), (525, .aload_n 0, 1, [0], vN), (526, .iload 13, 2, [13], vN), (528, .iaload, 1, [], vN), (529, .iconst 5, 1, [], vI 5), (530, .if_icmp .ne 22, 3, [311], vN), (533, .aload_n 1, 1, [1], vN), (534, .iload 13, 2, [13], vN), (536, .iaload, 1, [], vN), (537, .iload 14, 2, [14], vN), (539, .if_icmp .ne 13, 3, [311], vN), (542, .aload_n 2, 1, [2], vN), (543, .iload 13, 2, [13], vN), (545, .iaload, 1, [], vN), (546, .i2l, 1, [], vN), (547, .lconst 1, 1, [], vL 1), (548, .ladd, 1, [], vN), (549, .goto 31, 3, [326], vN), (552, .lconst 0, 1, [], vL 0), (553, .goto 27, 3, [326], vN), (556, .aload_n 0, 1, [0], vN), (557, .iload 13, 2, [13], vN)]
theorem qL_rule_6_ok : ∀ e ∈ qL_rule_6, decode cL_rule e.1 = .ok (e.2.1, e.2.2.1) := by decide +kernel
def qL_rule_7 : List xT := [(559, .iaload, 1, [], vN), (560, .iconst 2, 1, [], vI 2), (561, .if_icmp .ne 18, 3, [325], vN), (564, .aload_n 1, 1, [1], vN), (565, .iload 13, 2, [13], vN), (567, .iaload, 1, [], vN), (568, .iload 14, 2, [14], vN), (570, .if_icmp .ne 9, 3, [325], vN), (573, .ldc2_w 103, 3, [], vL 100999999), (576, .goto 4, 3, [326], vN), (579, .lconst 0, 1, [], vL 0), (580, .lreturn, 1, [], vN)]
theorem qL_rule_7_ok : ∀ e ∈ qL_rule_7, decode cL_rule e.1 = .ok (e.2.1, e.2.2.1) := by decide +kernel
end
section
def qL_law_0 : List xT := [(86, .iload 15, 2, [15], vN), (88, .bipush 70, 2, [], vI 70), (90, .if_icmp .ge 1711, 3, [873], vN), (93, .aload_n 0, 1, [0], vN), (94, .iload 15, 2, [15], vN), (96, .invokestatic 106, 3, [0, 3], vN), (99, .istore 16, 2, [16], vN), (101, .aload_n 0, 1, [0], vN), (102, .bipush 70, 2, [], vI 70), (104, .iload 15, 2, [15], vN), (106, .iadd, 1, [], vN), (107, .invokestatic 106, 3, [0, 3], vN), (110, .istore 17, 2, [17], vN), (112, .iload 16, 2, [16], vN), (114, .bipush 24, 2, [], vI 24), (116, .invokestatic 34, 3, [4, 0], vN), (119, .istore 18, 2, [18], vN), (121, .aload 14, 2, [14], vN), (123, .iconst 1, 1, [], vI 1), (124, .iaload, 1, [], vN), (125, .bipush 48, 2, [], vI 48), (127, .if_icmp .ne 7, 3, [24], vN), (130, .iconst 1, 1, [], vI 1), (131, .goto 4, 3, [25], vN), (134, .iconst 0, 1, [], vI 0), (135, .istore 19, 2, [19], vN), (137, .iconst 1, 1, [], vI 1), (138, .istore 20, 2, [20], vN), (140, .iload 18, 2, [18], vN), (142, .iconst 4, 1, [], vI 4), (143, .if_icmp .lt 11, 3, [36], vN), (146, .aload 14, 2, [14], vN), (148, .iconst 0, 1, [], vI 0), (149, .iaload, 1, [], vN), (150, .iconst 3, 1, [], vI 3), (151, .if_icmp .ge 202, 3, [136], vN), (154, .aload 14, 2, [14], vN), (156, .iconst 0, 1, [], vI 0), (157, .iaload, 1, [], vN), (158, .iconst 3, 1, [], vI 3), (159, .if_icmp .ge 7, 3, [43], vN), (162, .iconst 0, 1, [], vI 0), (163, .goto 12, 3, [48], vN), (166, .iload 16, 2, [16], vN), (168, .iconst 5, 1, [], vI 5)]
theorem qL_law_0_ok : ∀ e ∈ qL_law_0, decode cL_law e.1 = .ok (e.2.1, e.2.2.1) := by decide +kernel
def qL_law_1 : List xT := [(169, .ishr, 1, [], vN), (170, .bipush 6, 2, [], vI 6), (172, .invokestatic 34, 3, [4, 0], vN), (175, .istore 21, 2, [21], vN), (177, .iload 21, 2, [21], vN), (179, .iconst 2, 1, [], vI 2), (180, .if_icmp .ge 37, 3, [69], vN), (183, .iload 21, 2, [21], vN), (185, .ifCond .ne 28, 3, [67], vN), (188, .iload 16, 2, [16], vN), (190, .bipush 8, 2, [], vI 8), (192, .ishr, 1, [], vN), (193, .aload 14, 2, [14], vN), (195, .iconst 0, 1, [], vI 0), (196, .iaload, 1, [], vN), (197, .iconst 3, 1, [], vI 3), (198, .if_icmp .ge 8, 3, [64], vN), (201, .bipush 8, 2, [], vI 8), (203, .goto 4, 3, [65], vN), (206, .iconst 4, 1, [], vI 4), (207, .invokestatic 34, 3, [4, 0], vN), (210, .goto 19, 3, [76], vN), (213, .iconst (-1), 1, [], vI (-1)), (214, .goto 15, 3, [76], vN), (217, .iload 16, 2, [16], vN), (219, .bipush 8, 2, [], vI 8), (221, .ishr, 1, [], vN), (222, .aload 14, 2, [14], vN), (224, .iconst 0, 1, [], vI 0), (225, .iaload, 1, [], vN), (226, .invokestatic 34, 3, [4, 0], vN), (229, .istore 22, 2, [22], vN), (231, .iload 21, 2, [21], vN), (233, .iconst 3, 1, [], vI 3), (234, .if_icmp .ge 7, 3, [82], vN), (237, .iconst (-1), 1, [], vI (-1)), (238, .goto 15, 3, [89], vN), (241, .iload 16, 2, [16], vN), (243, .bipush 14, 2, [], vI 14), (245, .ishr, 1, [], vN), (246, .aload 14, 2, [14], vN), (248, .iconst 0, 1, [], vI 0), (249, .iaload, 1, [], vN), (250, .invokestatic 34, 3, [4, 0], vN), (253, .istore 23, 2, [23], vN)]
theorem qL_law_1_ok : ∀ e ∈ qL_law_1, decode cL_law e.1 = .ok (e.2.1, e.2.2.1) := by decide +kernel
def qL_law_2 : List xT := [(255, .aload_n 2, 1, [2], vN), (256, .aload_n 3, 1, [3], vN), (257, .aload 4, 2, [4], vN), (259, .aload 14, 2, [14], vN), (261, .iload 21, 2, [21], vN), (263, .iload 22, 2, [22], vN), (265, .iload 23, 2, [23], vN), (267, .invokestatic 110, 3, [9, 0], vN), (270, .istore 24, 2, [24], vN), (272, .iload 21, 2, [21], vN), (274, .ifCond .ne 12, 3, [105], vN), (277, .aload_n 1, 1, [1], vN), (278, .iload 22, 2, [22], vN), (280, .invokevirtual 113, 3, [14, 7], vN), (283, .goto 41, 3, [123], vN), (286, .iload 21, 2, [21], vN), (288, .iconst 1, 1, [], vI 1), (289, .if_icmp .ne 10, 3, [111], vN), (292, .aload_n 1, 1, [1], vN), (293, .invokevirtual 116, 3, [15, 7], vN), (296, .goto 28, 3, [123], vN), (299, .iload 21, 2, [21], vN), (301, .iconst 2, 1, [], vI 2), (302, .if_icmp .ne 12, 3, [118], vN), (305, .aload_n 1, 1, [1], vN), (306, .iload 22, 2, [22], vN), (308, .invokevirtual 119, 3, [16, 7], vN), (311, .goto 13, 3, [123], vN), (314, .aload_n 1, 1, [1], vN), (315, .iload 21, 2, [21], vN), (317, .iload 22, 2, [22], vN), (319, .iload 23, 2, [23], vN), (321, .invokevirtual 122, 3, [17, 7], vN), (324, .istore 25, 2, [25], vN), (326, .iload 25, 2, [25], vN), (328, .iload 24, 2, [24], vN), (330, .ifCond .ge 8, 3, [129], vN), (333, .bipush (-4), 2, [], vI (-4)), (335, .goto 5, 3, [130], vN), (338, .iload 24, 2, [24], vN), (340, .if_icmp .ne 7, 3, [133], vN), (343, .iconst 1, 1, [], vI 1), (344, .goto 4, 3, [134], vN), (347, .iconst 0, 1, [], vI 0), (348, .istore 20, 2, [20], vN)]
theorem qL_law_2_ok : ∀ e ∈ qL_law_2, decode cL_law e.1 = .ok (e.2.1, e.2.2.1) := by decide +kernel
def qL_law_3 : List xT := [(350, .goto 1336, 3, [810], vN), (353, .iload 18, 2, [18], vN), (355, .bipush 6, 2, [], vI 6), (357, .if_icmp .ge 99, 3, [186], vN), (360, .iload 16, 2, [16], vN), (362, .iconst 5, 1, [], vI 5), (363, .ishr, 1, [], vN), (364, .aload 14, 2, [14], vN), (366, .iconst 0, 1, [], vI 0), (367, .iaload, 1, [], vN), (368, .invokestatic 34, 3, [4, 0], vN), (371, .istore 21, 2, [21], vN), (373, .aload 12, 2, [12], vN), (375, .aload 14, 2, [14], vN), (377, .invokestatic 16, 3, [1, 0], vN), (380, .ifCond .lt 7, 3, [153], vN), (383, .iconst 1, 1, [], vI 1), (384, .goto 4, 3, [154], vN), (387, .iconst 0, 1, [], vI 0), (388, .istore 22, 2, [22], vN), (390, .iload 22, 2, [22], vN), (392, .ifCond .eq 8, 3, [159], vN), (395, .bipush (-3), 2, [], vI (-3)), (397, .goto 36, 3, [175], vN), (400, .iload 19, 2, [19], vN), (402, .ifCond .eq 8, 3, [163], vN), (405, .bipush (-4), 2, [], vI (-4)), (407, .goto 26, 3, [175], vN), (410, .aload 5, 2, [5], vN), (412, .aload 6, 2, [6], vN), (414, .aload 7, 2, [7], vN), (416, .aload 8, 2, [8], vN), (418, .aload 9, 2, [9], vN), (420, .aload 10, 2, [10], vN), (422, .aload 12, 2, [12], vN), (424, .aload 14, 2, [14], vN), (426, .iload 21, 2, [21], vN), (428, .iconst 0, 1, [], vI 0), (429, .iconst 0, 1, [], vI 0), (430, .invokestatic 126, 3, [10, 0], vN), (433, .istore 23, 2, [23], vN), (435, .aload_n 1, 1, [1], vN), (436, .iload 21, 2, [21], vN), (438, .invokevirtual 130, 3, [18, 7], vN), (441, .iload 23, 2, [23], vN)]
theorem qL_law_3_ok : ∀ e ∈ qL_law_3, decode cL_law e.1 = .ok (e.2.1, e.2.2.1) := by decide +kernel
def qL_law_4 : List xT := [(443, .if_icmp .ne 7, 3, [183], vN), (446, .iconst 1, 1, [], vI 1), (447, .goto 4, 3, [184], vN), (450, .iconst 0, 1, [], vI 0), (451, .istore 20, 2, [20], vN), (453, .goto 1233, 3, [810], vN), (456, .iload 18, 2, [18], vN), (458, .bipush 9, 2, [], vI 9), (460, .if_icmp .ge 173, 3, [285], vN), (463, .iload 16, 2, [16], vN), (465, .iconst 5, 1, [], vI 5), (466, .ishr, 1, [], vN), (467, .aload 14, 2, [14], vN), (469, .iconst 0, 1, [], vI 0), (470, .iaload, 1, [], vN), (471, .invokestatic 34, 3, [4, 0], vN), (474, .istore 21, 2, [21], vN), (476, .iconst 0, 1, [], vI 0), (477, .istore 22, 2, [22], vN), (479, .iconst 0, 1, [], vI 0), (480, .istore 23, 2, [23], vN), (482, .iload 23, 2, [23], vN), (484, .aload 14, 2, [14], vN), (486, .iconst 2, 1, [], vI 2), (487, .iaload, 1, [], vN), (488, .if_icmp .ge 27, 3, [218], vN), (491, .iload 22, 2, [22], vN), (493, .aload 12, 2, [12], vN), (495, .iload 23, 2, [23], vN), (497, .iaload, 1, [], vN), (498, .ifCond .ge 7, 3, [213], vN), (501, .iconst 1, 1, [], vI 1), (502, .goto 4, 3, [214], vN), (505, .iconst 0, 1, [], vI 0), (506, .iadd, 1, [], vN), (507, .istore 22, 2, [22], vN), (509, .iinc 23 1, 3, [23], vI 1), (512, .goto (-30), 3, [201], vN), (515, .iload 19, 2, [19], vN), (517, .ifCond .ne 9, 3, [223], vN), (520, .iload 22, 2, [22], vN), (522, .iconst 5, 1, [], vI 5), (523, .if_icmp .ne 7, 3, [225], vN), (526, .iconst 1, 1, [], vI 1), (527, .goto 4, 3, [226], vN)]
theorem qL_law_4_ok : ∀ e ∈ qL_law_4, decode cL_law e.1 = .ok (e.2.1, e.2.2.1) := by decide +kernel
def qL_law_5 : List xT := [(530, .iconst 0, 1, [], vI 0), (531, .istore 23, 2, [23], vN), (533, .bipush (-4), 2, [], vI (-4)), (535, .istore 24, 2, [24], vN), (537, .iload 23, 2, [23], vN), (539, .ifCond .ne 73, 3, [275], vN), (542, .aload 12, 2, [12], vN), (544, .aload 14, 2, [14], vN), (546, .invokestatic 16, 3, [1, 0], vN), (549, .istore 25, 2, [25], vN), (551, .aload 11, 2, [11], vN), (553, .aload 14, 2, [14], vN), (555, .iconst 2, 1, [], vI 2), (556, .iaload, 1, [], vN), (557, .aload 14, 2, [14], vN), (559, .iconst 1, 1, [], vI 1), (560, .iaload, 1, [], vN), (561, .iastore, 1, [], vN), (562, .aload 12, 2, [12], vN), (564, .aload 14, 2, [14], vN), (566, .iconst 2, 1, [], vI 2), (567, .iaload, 1, [], vN), (568, .iconst (-1), 1, [], vI (-1)), (569, .iastore, 1, [], vN), (570, .aload 13, 2, [13], vN), (572, .aload 14, 2, [14], vN), (574, .iconst 2, 1, [], vI 2), (575, .iaload, 1, [], vN), (576, .iload 25, 2, [25], vN), (578, .iastore, 1, [], vN), (579, .aload 14, 2, [14], vN), (581, .iconst 2, 1, [], vI 2), (582, .dup2, 1, [], vN), (583, .iaload, 1, [], vN), (584, .iconst 1, 1, [], vI 1), (585, .iadd, 1, [], vN), (586, .iastore, 1, [], vN), (587, .aload 5, 2, [5], vN), (589, .aload 6, 2, [6], vN), (591, .aload 7, 2, [7], vN), (593, .aload 8, 2, [8], vN), (595, .aload 9, 2, [9], vN), (597, .aload 10, 2, [10], vN), (599, .aload 12, 2, [12], vN), (601, .aload 14, 2, [14], vN)]
theorem qL_law_5_ok : ∀ e ∈ qL_law_5, decode cL_law e.1 = .ok (e.2.1, e.2.2.1) := by decide +kernel
def qL_law_6 : List xT := [(603, .iload 21, 2, [21], vN), (605, .iconst 1, 1, [], vI 1), (606, .iconst 0, 1, [], vI 0), (607, .invokestatic 126, 3, [10, 0], vN), (610, .istore 24, 2, [24], vN), (612, .aload_n 1, 1, [1], vN), (613, .iload 21, 2, [21], vN), (615, .invokevirtual 133, 3, [19, 7], vN), (618, .iload 24, 2, [24], vN), (620, .if_icmp .ne 7, 3, [282], vN), (623, .iconst 1, 1, [], vI 1), (624, .goto 4, 3, [283], vN), (627, .iconst 0, 1, [], vI 0), (628, .istore 20, 2, [20], vN), (630, .goto 1056, 3, [810], vN), (633, .iload 18, 2, [18], vN), (635, .bipush 11, 2, [], vI 11), (637, .if_icmp .ge 83, 3, [330], vN), (640, .aload 12, 2, [12], vN), (642, .aload 14, 2, [14], vN), (644, .invokestatic 16, 3, [1, 0], vN), (647, .istore 21, 2, [21], vN), (649, .iload 21, 2, [21], vN), (651, .ifCond .lt 21, 3, [305], vN), (654, .aload 10, 2, [10], vN), (656, .aload 14, 2, [14], vN), (658, .iconst 1, 1, [], vI 1), (659, .iaload, 1, [], vN), (660, .iconst 1, 1, [], vI 1), (661, .isub, 1, [], vN), (662, .iaload, 1, [], vN), (663, .iload 21, 2, [21], vN), (665, .if_icmp .ne 7, 3, [305], vN), (668, .iconst 1, 1, [], vI 1), (669, .goto 4, 3, [306], vN), (672, .iconst 0, 1, [], vI 0), (673, .istore 22, 2, [22], vN), (675, .iload 22, 2, [22], vN), (677, .ifCond .eq 14, 3, [317], vN), (680, .aload 12, 2, [12], vN), (682, .iload 21, 2, [21], vN), (684, .aload 14, 2, [14], vN), (686, .iconst 1, 1, [], vI 1), (687, .iaload, 1, [], vN), (688, .iconst 1, 1, [], vI 1)]
theorem qL_law_6_ok : ∀ e ∈ qL_law_6, decode cL_law e.1 = .ok (e.2.1, e.2.2.1) := by decide +kernel
end
section
def qL_law_7 : List xT := [(689, .isub, 1, [], vN), (690, .iastore, 1, [], vN), (691, .aload_n 1, 1, [1], vN), (692, .invokevirtual 136, 3, [20, 7], vN), (695, .iload 22, 2, [22], vN), (697, .ifCond .eq 8, 3, [323], vN), (700, .iload 21, 2, [21], vN), (702, .goto 5, 3, [324], vN), (705, .bipush (-3), 2, [], vI (-3)), (707, .if_icmp .ne 7, 3, [327], vN), (710, .iconst 1, 1, [], vI 1), (711, .goto 4, 3, [328], vN), (714, .iconst 0, 1, [], vI 0), (715, .istore 20, 2, [20], vN), (717, .goto 969, 3, [810], vN), (720, .iload 18, 2, [18], vN), (722, .bipush 11, 2, [], vI 11), (724, .if_icmp .ne 46, 3, [354], vN), (727, .iload 16, 2, [16], vN), (729, .iconst 5, 1, [], vI 5), (730, .ishr, 1, [], vN), (731, .iconst 3, 1, [], vI 3), (732, .invokestatic 34, 3, [4, 0], vN), (735, .ifCond .ne 35, 3, [354], vN), (738, .aload 6, 2, [6], vN), (740, .aload 7, 2, [7], vN), (742, .aload 8, 2, [8], vN), (744, .aload 14, 2, [14], vN), (746, .invokestatic 139, 3, [11, 0], vN), (749, .istore 21, 2, [21], vN), (751, .aload_n 1, 1, [1], vN), (752, .invokevirtual 143, 3, [21, 7], vN), (755, .iload 21, 2, [21], vN), (757, .if_icmp .ne 7, 3, [351], vN), (760, .iconst 1, 1, [], vI 1), (761, .goto 4, 3, [352], vN), (764, .iconst 0, 1, [], vI 0), (765, .istore 20, 2, [20], vN), (767, .goto 919, 3, [810], vN), (770, .iload 18, 2, [18], vN), (772, .bipush 12, 2, [], vI 12), (774, .if_icmp .ne 158, 3, [434], vN), (777, .iload 16, 2, [16], vN), (779, .iconst 5, 1, [], vI 5), (780, .ishr, 1, [], vN)]
theorem qL_law_7_ok : ∀ e ∈ qL_law_7, decode cL_law e.1 = .ok (e.2.1, e.2.2.1) := by decide +kernel
def qL_law_8 : List xT := [(781, .iconst 3, 1, [], vI 3), (782, .invokestatic 34, 3, [4, 0], vN), (785, .ifCond .ne 147, 3, [434], vN), (788, .aload 14, 2, [14], vN), (790, .iconst 1, 1, [], vI 1), (791, .iaload, 1, [], vN), (792, .ifCond .le 140, 3, [434], vN), (795, .iload 16, 2, [16], vN), (797, .bipush 8, 2, [], vI 8), (799, .ishr, 1, [], vN), (800, .aload 14, 2, [14], vN), (802, .iconst 1, 1, [], vI 1), (803, .iaload, 1, [], vN), (804, .invokestatic 34, 3, [4, 0], vN), (807, .istore 21, 2, [21], vN), (809, .aload 12, 2, [12], vN), (811, .aload 14, 2, [14], vN), (813, .invokestatic 16, 3, [1, 0], vN), (816, .ifCond .ge 15, 3, [385], vN), (819, .aload 10, 2, [10], vN), (821, .iload 21, 2, [21], vN), (823, .iaload, 1, [], vN), (824, .ifCond .ge 7, 3, [385], vN), (827, .iconst 1, 1, [], vI 1), (828, .goto 4, 3, [386], vN), (831, .iconst 0, 1, [], vI 0), (832, .istore 22, 2, [22], vN), (834, .aload 6, 2, [6], vN), (836, .aload 7, 2, [7], vN), (838, .aload 8, 2, [8], vN), (840, .aload 9, 2, [9], vN), (842, .aload 10, 2, [10], vN), (844, .aload 11, 2, [11], vN), (846, .aload 12, 2, [12], vN), (848, .aload 13, 2, [13], vN), (850, .aload 14, 2, [14], vN), (852, .iload 21, 2, [21], vN), (854, .invokestatic 66, 3, [8, 0], vN), (857, .lstore 23, 2, [23], vN), (859, .aload 14, 2, [14], vN), (861, .iconst 1, 1, [], vI 1), (862, .iaload, 1, [], vN), (863, .istore 25, 2, [25], vN), (865, .iload 22, 2, [22], vN), (867, .ifCond .eq 28, 3, [417], vN)]
theorem qL_law_8_ok : ∀ e ∈ qL_law_8, decode cL_law e.1 = .ok (e.2.1, e.2.2.1) := by decide +kernel
def qL_law_9 : List xT := [(870, .aload 5, 2, [5], vN), (872, .aload 6, 2, [6], vN), (874, .aload 7, 2, [7], vN), (876, .aload 8, 2, [8], vN), (878, .aload 9, 2, [9], vN), (880, .aload 10, 2, [10], vN), (882, .aload 11, 2, [11], vN), (884, .aload 12, 2, [12], vN), (886, .aload 13, 2, [13], vN), (888, .aload 14, 2, [14], vN), (890, .lload 23, 2, [23], vN), (892, .invokestatic 145, 3, [0, 3], vN), (895, .aload_n 1, 1, [1], vN), (896, .iload 21, 2, [21], vN), (898, .invokevirtual 149, 3, [22, 7], vN), (901, .iload 22, 2, [22], vN), (903, .ifCond .eq 14, 3, [427], vN), (906, .iload 25, 2, [25], vN), (908, .lload 23, 2, [23], vN), (910, .invokestatic 151, 3, [12, 0], vN), (913, .isub, 1, [], vN), (914, .goto 5, 3, [428], vN), (917, .bipush (-3), 2, [], vI (-3)), (919, .if_icmp .ne 7, 3, [431], vN), (922, .iconst 1, 1, [], vI 1), (923, .goto 4, 3, [432], vN), (926, .iconst 0, 1, [], vI 0), (927, .istore 20, 2, [20], vN), (929, .goto 757, 3, [810], vN), (932, .aload 14, 2, [14], vN), (934, .iconst 1, 1, [], vI 1), (935, .iaload, 1, [], vN), (936, .ifCond .le 750, 3, [810], vN), (939, .iconst 2, 1, [], vI 2), (940, .iload 16, 2, [16], vN), (942, .iconst 5, 1, [], vI 5), (943, .ishr, 1, [], vN), (944, .bipush 12, 2, [], vI 12), (946, .invokestatic 34, 3, [4, 0], vN), (949, .iadd, 1, [], vN), (950, .istore 21, 2, [21], vN), (952, .iload 21, 2, [21], vN), (954, .bipush 8, 2, [], vI 8), (956, .if_icmp .eq 17, 3, [455], vN), (959, .iload 21, 2, [21], vN)]
theorem qL_law_9_ok : ∀ e ∈ qL_law_9, decode cL_law e.1 = .ok (e.2.1, e.2.2.1) := by decide +kernel
def qL_law_10 : List xT := [(961, .bipush 10, 2, [], vI 10), (963, .if_icmp .eq 10, 3, [455], vN), (966, .iload 21, 2, [21], vN), (968, .bipush 7, 2, [], vI 7), (970, .if_icmp .ne 7, 3, [457], vN), (973, .iconst 1, 1, [], vI 1), (974, .goto 4, 3, [458], vN), (977, .iconst 0, 1, [], vI 0), (978, .istore 22, 2, [22], vN), (980, .iload 22, 2, [22], vN), (982, .ifCond .eq 10, 3, [465], vN), (985, .aload 14, 2, [14], vN), (987, .iconst 2, 1, [], vI 2), (988, .iaload, 1, [], vN), (989, .ifCond .le 697, 3, [810], vN), (992, .iload 16, 2, [16], vN), (994, .bipush 9, 2, [], vI 9), (996, .ishr, 1, [], vN), (997, .iload 21, 2, [21], vN), (999, .bipush 8, 2, [], vI 8), (1001, .if_icmp .eq 10, 3, [474], vN), (1004, .iload 21, 2, [21], vN), (1006, .bipush 10, 2, [], vI 10), (1008, .if_icmp .ne 10, 3, [478], vN), (1011, .aload 14, 2, [14], vN), (1013, .iconst 2, 1, [], vI 2), (1014, .iaload, 1, [], vN), (1015, .goto 7, 3, [481], vN), (1018, .aload 14, 2, [14], vN), (1020, .iconst 1, 1, [], vI 1), (1021, .iaload, 1, [], vN), (1022, .invokestatic 34, 3, [4, 0], vN), (1025, .istore 23, 2, [23], vN), (1027, .iload 21, 2, [21], vN), (1029, .bipush 7, 2, [], vI 7), (1031, .if_icmp .ne 15, 3, [492], vN), (1034, .iload 17, 2, [17], vN), (1036, .aload 14, 2, [14], vN), (1038, .iconst 2, 1, [], vI 2), (1039, .iaload, 1, [], vN), (1040, .invokestatic 34, 3, [4, 0], vN), (1043, .goto 38, 3, [509], vN), (1046, .iload 21, 2, [21], vN), (1048, .bipush 6, 2, [], vI 6), (1050, .if_icmp .eq 10, 3, [498], vN)]
theorem qL_law_10_ok : ∀ e ∈ qL_law_10, decode cL_law e.1 = .ok (e.2.1, e.2.2.1) := by decide +kernel
def qL_law_11 : List xT := [(1053, .iload 21, 2, [21], vN), (1055, .bipush 12, 2, [], vI 12), (1057, .if_icmp .ne 15, 3, [504], vN), (1060, .iload 17, 2, [17], vN), (1062, .aload 14, 2, [14], vN), (1064, .iconst 0, 1, [], vI 0), (1065, .iaload, 1, [], vN), (1066, .invokestatic 34, 3, [4, 0], vN), (1069, .goto 12, 3, [509], vN), (1072, .iload 17, 2, [17], vN), (1074, .aload 14, 2, [14], vN), (1076, .iconst 1, 1, [], vI 1), (1077, .iaload, 1, [], vN), (1078, .invokestatic 34, 3, [4, 0], vN), (1081, .istore 24, 2, [24], vN), (1083, .iload 21, 2, [21], vN), (1085, .bipush 7, 2, [], vI 7), (1087, .if_icmp .ne 18, 3, [521], vN), (1090, .iload 17, 2, [17], vN), (1092, .bipush 6, 2, [], vI 6), (1094, .ishr, 1, [], vN), (1095, .aload 14, 2, [14], vN), (1097, .iconst 2, 1, [], vI 2), (1098, .iaload, 1, [], vN), (1099, .invokestatic 34, 3, [4, 0], vN), (1102, .goto 4, 3, [522], vN), (1105, .iconst 0, 1, [], vI 0), (1106, .istore 25, 2, [25], vN), (1108, .iconst 0, 1, [], vI 0), (1109, .istore 26, 2, [26], vN), (1111, .iload 26, 2, [26], vN), (1113, .bipush 48, 2, [], vI 48), (1115, .if_icmp .ge 177, 3, [617], vN), (1118, .iload 17, 2, [17], vN), (1120, .bipush 12, 2, [], vI 12), (1122, .ishr, 1, [], vN), (1123, .iconst 4, 1, [], vI 4), (1124, .invokestatic 34, 3, [4, 0], vN), (1127, .ifCond .le 165, 3, [617], vN), (1130, .aload_n 2, 1, [2], vN), (1131, .aload_n 3, 1, [3], vN), (1132, .aload 4, 2, [4], vN), (1134, .aload 5, 2, [5], vN), (1136, .aload 10, 2, [10], vN), (1138, .aload 11, 2, [11], vN)]
theorem qL_law_11_ok : ∀ e ∈ qL_law_11, decode cL_law e.1 = .ok (e.2.1, e.2.2.1) := by decide +kernel
def qL_law_12 : List xT := [(1140, .aload 12, 2, [12], vN), (1142, .aload 13, 2, [13], vN), (1144, .iload 21, 2, [21], vN), (1146, .iload 23, 2, [23], vN), (1148, .iload 24, 2, [24], vN), (1150, .iload 25, 2, [25], vN), (1152, .invokestatic 155, 3, [13, 0], vN), (1155, .lconst 0, 1, [], vL 0), (1156, .lcmp, 1, [], vN), (1157, .ifCond .ne 135, 3, [617], vN), (1160, .iload 26, 2, [26], vN), (1162, .iconst 2, 1, [], vI 2), (1163, .irem, 1, [], vN), (1164, .ifCond .eq 17, 3, [560], vN), (1167, .iload 21, 2, [21], vN), (1169, .bipush 8, 2, [], vI 8), (1171, .if_icmp .eq 10, 3, [560], vN), (1174, .iload 21, 2, [21], vN), (1176, .bipush 10, 2, [], vI 10), (1178, .if_icmp .ne 7, 3, [562], vN), (1181, .iconst 1, 1, [], vI 1), (1182, .goto 4, 3, [563], vN), (1185, .iconst 0, 1, [], vI 0), (1186, .istore 27, 2, [27], vN), (1188, .iload 27, 2, [27], vN), (1190, .ifCond .eq 36, 3, [584], vN), (1193, .iload 23, 2, [23], vN), (1195, .iconst 1, 1, [], vI 1), (1196, .iadd, 1, [], vN), (1197, .iload 21, 2, [21], vN), (1199, .bipush 8, 2, [], vI 8), (1201, .if_icmp .eq 10, 3, [575], vN), (1204, .iload 21, 2, [21], vN), (1206, .bipush 10, 2, [], vI 10), (1208, .if_icmp .ne 10, 3, [579], vN), (1211, .aload 14, 2, [14], vN), (1213, .iconst 2, 1, [], vI 2), (1214, .iaload, 1, [], vN), (1215, .goto 7, 3, [582], vN), (1218, .aload 14, 2, [14], vN), (1220, .iconst 1, 1, [], vI 1), (1221, .iaload, 1, [], vN), (1222, .irem, 1, [], vN), (1223, .goto 5, 3, [585], vN), (1226, .iload 23, 2, [23], vN)]
theorem qL_law_12_ok : ∀ e ∈ qL_law_12, decode cL_law e.1 = .ok (e.2.1, e.2.2.1) := by decide +kernel
def qL_law_13 : List xT := [(1228, .istore 23, 2, [23], vN), (1230, .iload 27, 2, [27], vN), (1232, .ifCond .eq 8, 3, [590], vN), (1235, .iload 24, 2, [24], vN), (1237, .goto 47, 3, [614], vN), (1240, .iload 24, 2, [24], vN), (1242, .iconst 1, 1, [], vI 1), (1243, .iadd, 1, [], vN), (1244, .iload 21, 2, [21], vN), (1246, .bipush 7, 2, [], vI 7), (1248, .if_icmp .ne 10, 3, [600], vN), (1251, .aload 14, 2, [14], vN), (1253, .iconst 2, 1, [], vI 2), (1254, .iaload, 1, [], vN), (1255, .goto 28, 3, [613], vN), (1258, .iload 21, 2, [21], vN), (1260, .bipush 6, 2, [], vI 6), (1262, .if_icmp .eq 10, 3, [606], vN), (1265, .iload 21, 2, [21], vN), (1267, .bipush 12, 2, [], vI 12), (1269, .if_icmp .ne 10, 3, [610], vN), (1272, .aload 14, 2, [14], vN), (1274, .iconst 0, 1, [], vI 0), (1275, .iaload, 1, [], vN), (1276, .goto 7, 3, [613], vN), (1279, .aload 14, 2, [14], vN), (1281, .iconst 1, 1, [], vI 1), (1282, .iaload, 1, [], vN), (1283, .irem, 1, [], vN), (1284, .istore 24, 2, [24], vN), (1286, .iinc 26 1, 3, [26], vI 1), (1289, .goto (-178), 3, [525], vN), (1292, .aload_n 2, 1, [2], vN), (1293, .aload_n 3, 1, [3], vN), (1294, .aload 4, 2, [4], vN), (1296, .aload 5, 2, [5], vN), (1298, .aload 10, 2, [10], vN), (1300, .aload 11, 2, [11], vN), (1302, .aload 12, 2, [12], vN), (1304, .aload 13, 2, [13], vN), (1306, .iload 21, 2, [21], vN), (1308, .iload 23, 2, [23], vN), (1310, .iload 24, 2, [24], vN), (1312, .iload 25, 2, [25], vN), (1314, .invokestatic 155, 3, [13, 0], vN)]
theorem qL_law_13_ok : ∀ e ∈ qL_law_13, decode cL_law e.1 = .ok (e.2.1, e.2.2.1) := by decide +kernel
end
section
def qL_law_14 : List xT := [(1317, .lstore 26, 2, [26], vN), (1319, .lload 26, 2, [26], vN), (1321, .l2i, 1, [], vN), (1322, .iconst 1, 1, [], vI 1), (1323, .isub, 1, [], vN), (1324, .istore 28, 2, [28], vN), (1326, .bipush (-3), 2, [], vI (-3)), (1328, .istore 29, 2, [29], vN), (1330, .lload 26, 2, [26], vN), (1332, .lconst 0, 1, [], vL 0), (1333, .lcmp, 1, [], vN), (1334, .ifCond .le 208, 3, [744], vN), (1337, .lload 26, 2, [26], vN), (1339, .ldc2_w 95, 3, [], vL 1000), (1342, .lcmp, 1, [], vN), (1343, .ifCond .le 80, 3, [684], vN), (1346, .iload 19, 2, [19], vN), (1348, .ifCond .ne 75, 3, [684], vN), (1351, .lload 26, 2, [26], vN), (1353, .ldc2_w 159, 3, [], vL 100000000), (1356, .ldiv, 1, [], vN), (1357, .l2i, 1, [], vN), (1358, .istore 30, 2, [30], vN), (1360, .lload 26, 2, [26], vN), (1362, .ldc2_w 95, 3, [], vL 1000), (1365, .ldiv, 1, [], vN), (1366, .ldc2_w 95, 3, [], vL 1000), (1369, .lrem, 1, [], vN), (1370, .l2i, 1, [], vN), (1371, .istore 31, 2, [31], vN), (1373, .lload 26, 2, [26], vN), (1375, .ldc2_w 95, 3, [], vL 1000), (1378, .lrem, 1, [], vN), (1379, .l2i, 1, [], vN), (1380, .istore 32, 2, [32], vN), (1382, .aload_n 2, 1, [2], vN), (1383, .aload_n 3, 1, [3], vN), (1384, .aload 4, 2, [4], vN), (1386, .aload 14, 2, [14], vN), (1388, .iload 30, 2, [30], vN), (1390, .iload 31, 2, [31], vN), (1392, .sipush 999, 3, [], vI 999), (1395, .if_icmp .ne 7, 3, [675], vN), (1398, .iconst (-1), 1, [], vI (-1)), (1399, .goto 5, 3, [676], vN)]
theorem qL_law_14_ok : ∀ e ∈ qL_law_14, decode cL_law e.1 = .ok (e.2.1, e.2.2.1) := by decide +kernel
def qL_law_15 : List xT := [(1402, .iload 31, 2, [31], vN), (1404, .iload 32, 2, [32], vN), (1406, .sipush 999, 3, [], vI 999), (1409, .if_icmp .ne 7, 3, [681], vN), (1412, .iconst (-1), 1, [], vI (-1)), (1413, .goto 5, 3, [682], vN), (1416, .iload 32, 2, [32], vN), (1418, .invokestatic 110, 3, [9, 0], vN), (1421, .istore 28, 2, [28], vN), (1423, .iload 21, 2, [21], vN), (1425, .iconst 3, 1, [], vI 3), (1426, .if_icmp .eq 24, 3, [696], vN), (1429, .iload 21, 2, [21], vN), (1431, .bipush 9, 2, [], vI 9), (1433, .if_icmp .eq 17, 3, [696], vN), (1436, .iload 21, 2, [21], vN), (1438, .bipush 11, 2, [], vI 11), (1440, .if_icmp .eq 10, 3, [696], vN), (1443, .iload 21, 2, [21], vN), (1445, .bipush 7, 2, [], vI 7), (1447, .if_icmp .ne 7, 3, [698], vN), (1450, .iconst 1, 1, [], vI 1), (1451, .goto 4, 3, [699], vN), (1454, .iconst 0, 1, [], vI 0), (1455, .istore 30, 2, [30], vN), (1457, .iconst 1, 1, [], vI 1), (1458, .iload 23, 2, [23], vN), (1460, .iadd, 1, [], vN), (1461, .iload 30, 2, [30], vN), (1463, .ifCond .eq 13, 3, [711], vN), (1466, .bipush 100, 2, [], vI 100), (1468, .iconst 1, 1, [], vI 1), (1469, .iload 24, 2, [24], vN), (1471, .iadd, 1, [], vN), (1472, .imul, 1, [], vN), (1473, .goto 4, 3, [712], vN), (1476, .iconst 0, 1, [], vI 0), (1477, .iadd, 1, [], vN), (1478, .iload 21, 2, [21], vN), (1480, .bipush 7, 2, [], vI 7), (1482, .if_icmp .ne 14, 3, [722], vN), (1485, .sipush 10000, 3, [], vI 10000), (1488, .iconst 1, 1, [], vI 1), (1489, .iload 25, 2, [25], vN), (1491, .iadd, 1, [], vN)]
theorem qL_law_15_ok : ∀ e ∈ qL_law_15, decode cL_law e.1 = .ok (e.2.1, e.2.2.1) := by decide +kernel
def qL_law_16 : List xT := [(1492, .imul, 1, [], vN), (1493, .goto 4, 3, [723], vN), (1496, .iconst 0, 1, [], vI 0), (1497, .iadd, 1, [], vN), (1498, .istore 31, 2, [31], vN), (1500, .iload 19, 2, [19], vN), (1502, .ifCond .ne 8, 3, [729], vN), (1505, .iload 28, 2, [28], vN), (1507, .ifCond .ge 8, 3, [731], vN), (1510, .bipush (-4), 2, [], vI (-4)), (1512, .goto 28, 3, [743], vN), (1515, .aload 5, 2, [5], vN), (1517, .aload 6, 2, [6], vN), (1519, .aload 7, 2, [7], vN), (1521, .aload 8, 2, [8], vN), (1523, .aload 9, 2, [9], vN), (1525, .aload 10, 2, [10], vN), (1527, .aload 12, 2, [12], vN), (1529, .aload 14, 2, [14], vN), (1531, .iload 28, 2, [28], vN), (1533, .iload 21, 2, [21], vN), (1535, .iload 31, 2, [31], vN), (1537, .invokestatic 126, 3, [10, 0], vN), (1540, .istore 29, 2, [29], vN), (1542, .iload 21, 2, [21], vN), (1544, .iconst 2, 1, [], vI 2), (1545, .if_icmp .ne 12, 3, [751], vN), (1548, .aload_n 1, 1, [1], vN), (1549, .iload 23, 2, [23], vN), (1551, .invokevirtual 161, 3, [23, 7], vN), (1554, .goto 116, 3, [802], vN), (1557, .iload 21, 2, [21], vN), (1559, .bipush 7, 2, [], vI 7), (1561, .if_icmp .ne 16, 3, [760], vN), (1564, .aload_n 1, 1, [1], vN), (1565, .iload 23, 2, [23], vN), (1567, .iload 24, 2, [24], vN), (1569, .iload 25, 2, [25], vN), (1571, .invokevirtual 164, 3, [24, 7], vN), (1574, .goto 96, 3, [802], vN), (1577, .iload 21, 2, [21], vN), (1579, .bipush 8, 2, [], vI 8), (1581, .if_icmp .eq 10, 3, [766], vN), (1584, .iload 21, 2, [21], vN), (1586, .bipush 10, 2, [], vI 10)]
theorem qL_law_16_ok : ∀ e ∈ qL_law_16, decode cL_law e.1 = .ok (e.2.1, e.2.2.1) := by decide +kernel
def qL_law_17 : List xT := [(1588, .if_icmp .ne 14, 3, [771], vN), (1591, .aload_n 1, 1, [1], vN), (1592, .iload 21, 2, [21], vN), (1594, .iload 23, 2, [23], vN), (1596, .invokevirtual 167, 3, [25, 7], vN), (1599, .goto 71, 3, [802], vN), (1602, .iload 21, 2, [21], vN), (1604, .iconst 3, 1, [], vI 3), (1605, .if_icmp .eq 17, 3, [780], vN), (1608, .iload 21, 2, [21], vN), (1610, .bipush 9, 2, [], vI 9), (1612, .if_icmp .eq 10, 3, [780], vN), (1615, .iload 21, 2, [21], vN), (1617, .bipush 11, 2, [], vI 11), (1619, .if_icmp .ne 16, 3, [786], vN), (1622, .aload_n 1, 1, [1], vN), (1623, .iload 21, 2, [21], vN), (1625, .iload 23, 2, [23], vN), (1627, .iload 24, 2, [24], vN), (1629, .invokevirtual 170, 3, [26, 7], vN), (1632, .goto 38, 3, [802], vN), (1635, .iload 21, 2, [21], vN), (1637, .bipush 6, 2, [], vI 6), (1639, .if_icmp .eq 10, 3, [792], vN), (1642, .iload 21, 2, [21], vN), (1644, .bipush 12, 2, [], vI 12), (1646, .if_icmp .ne 16, 3, [798], vN), (1649, .aload_n 1, 1, [1], vN), (1650, .iload 21, 2, [21], vN), (1652, .iload 23, 2, [23], vN), (1654, .iload 24, 2, [24], vN), (1656, .invokevirtual 173, 3, [27, 7], vN), (1659, .goto 11, 3, [802], vN), (1662, .aload_n 1, 1, [1], vN), (1663, .iload 21, 2, [21], vN), (1665, .iload 23, 2, [23], vN), (1667, .invokevirtual 176, 3, [28, 7], vN), (1670, .istore 30, 2, [30], vN), (1672, .iload 30, 2, [30], vN), (1674, .iload 29, 2, [29], vN), (1676, .if_icmp .ne 7, 3, [808], vN), (1679, .iconst 1, 1, [], vI 1), (1680, .goto 4, 3, [809], vN), (1683, .iconst 0, 1, [], vI 0), (1684, .istore 20, 2, [20], vN)]
theorem qL_law_17_ok : ∀ e ∈ qL_law_17, decode cL_law e.1 = .ok (e.2.1, e.2.2.1) := by decide +kernel
def qL_law_18 : List xT := [(1686, .iload 20, 2, [20], vN), (1688, .ifCond .eq 105, 3, [869], vN), (1691, .aload_n 1, 1, [1], vN), (1692, .aload_n 2, 1, [2], vN), (1693, .aload_n 3, 1, [3], vN), (1694, .aload 4, 2, [4], vN), (1696, .aload 14, 2, [14], vN), (1698, .iload 17, 2, [17], vN), (1700, .iconst 3, 1, [], vI 3), (1701, .ishr, 1, [], vN), (1702, .invokestatic 179, 3, [14, 0], vN), (1705, .ifCond .eq 88, 3, [869], vN), (1708, .aload_n 1, 1, [1], vN), (1709, .aload 5, 2, [5], vN), (1711, .aload 6, 2, [6], vN), (1713, .aload 7, 2, [7], vN), (1715, .aload 8, 2, [8], vN), (1717, .aload 9, 2, [9], vN), (1719, .aload 10, 2, [10], vN), (1721, .aload 11, 2, [11], vN), (1723, .aload 12, 2, [12], vN), (1725, .aload 13, 2, [13], vN), (1727, .aload 14, 2, [14], vN), (1729, .invokestatic 182, 3, [15, 0], vN), (1732, .ifCond .eq 61, 3, [869], vN), (1735, .iload 15, 2, [15], vN), (1737, .iconst 3, 1, [], vI 3), (1738, .irem, 1, [], vN), (1739, .iconst 2, 1, [], vI 2), (1740, .if_icmp .ne 55, 3, [871], vN), (1743, .aload 14, 2, [14], vN), (1745, .iconst 1, 1, [], vI 1), (1746, .iaload, 1, [], vN), (1747, .ifCond .le 48, 3, [871], vN), (1750, .aload_n 1, 1, [1], vN), (1751, .aload_n 2, 1, [2], vN), (1752, .aload_n 3, 1, [3], vN), (1753, .aload 4, 2, [4], vN), (1755, .aload 5, 2, [5], vN), (1757, .aload 6, 2, [6], vN), (1759, .aload 10, 2, [10], vN), (1761, .aload 11, 2, [11], vN), (1763, .aload 12, 2, [12], vN), (1765, .aload 13, 2, [13], vN), (1767, .aload 14, 2, [14], vN)]
theorem qL_law_18_ok : ∀ e ∈ qL_law_18, decode cL_law e.1 = .ok (e.2.1, e.2.2.1) := by decide +kernel
def qL_law_19 : List xT := [(1769, .iload 17, 2, [17], vN), (1771, .bipush 10, 2, [], vI 10), (1773, .ishr, 1, [], vN), (1774, .aload 14, 2, [14], vN), (1776, .iconst 0, 1, [], vI 0), (1777, .iaload, 1, [], vN), (1778, .invokestatic 34, 3, [4, 0], vN), (1781, .aload 14, 2, [14], vN), (1783, .iconst 1, 1, [], vI 1), (1784, .iaload, 1, [], vN), (1785, .iconst 1, 1, [], vI 1), (1786, .isub, 1, [], vN), (1787, .invokestatic 185, 3, [16, 0], vN), (1790, .ifCond .ne 5, 3, [871], vN), (1793, .iconst 0, 1, [], vI 0), (1794, .ireturn, 1, [], vN), (1795, .iinc 15 1, 3, [15], vI 1), (1798, .goto (-1712), 3, [0], vN), (1801, .iconst 1, 1, [], vI 1), (1802, .ireturn, 1, [], vN)]
theorem qL_law_19_ok : ∀ e ∈ qL_law_19, decode cL_law e.1 = .ok (e.2.1, e.2.2.1) := by decide +kernel
end
section
theorem xapp {α : Type} {P : α → Prop} {a b : List α} (h : ∀ x ∈ a, P x) (k : ∀ x ∈ b, P x) : ∀ x ∈ a ++ b, P x := fun x hx => (List.mem_append.mp hx).elim (h x) (k x)
set_option maxRecDepth 100000 in
theorem qL_lines_eq : tL_lines = qL_lines_0 ++ (qL_lines_1 ++ (qL_lines_2 ++ (qL_lines_3 ++ (qL_lines_4 ++ (qL_lines_5 ++ (qL_lines_6)))))) := rfl
theorem okL_lines_1 : ∀ e ∈ tL_lines, decode cL_lines e.1 = .ok (e.2.1, e.2.2.1) := by rw [qL_lines_eq]; exact xapp qL_lines_0_ok (xapp qL_lines_1_ok (xapp qL_lines_2_ok (xapp qL_lines_3_ok (xapp qL_lines_4_ok (xapp qL_lines_5_ok (qL_lines_6_ok))))))
theorem okL_lines : xEok eL_lines := ⟨okL_lines_1, by decide +kernel, by decide +kernel, ceL_ok, rfl, by decide +kernel⟩
set_option maxRecDepth 100000 in
theorem qL_follows_eq : tL_follows = qL_follows_0 ++ (qL_follows_1 ++ (qL_follows_2 ++ (qL_follows_3))) := rfl
theorem okL_follows_1 : ∀ e ∈ tL_follows, decode cL_follows e.1 = .ok (e.2.1, e.2.2.1) := by rw [qL_follows_eq]; exact xapp qL_follows_0_ok (xapp qL_follows_1_ok (xapp qL_follows_2_ok (qL_follows_3_ok)))
theorem okL_follows : xEok eL_follows := ⟨okL_follows_1, by decide +kernel, by decide +kernel, ceL_ok, rfl, by decide +kernel⟩
set_option maxRecDepth 100000 in
theorem qL_trim_eq : tL_trim = qL_trim_0 ++ (qL_trim_1 ++ (qL_trim_2 ++ (qL_trim_3 ++ (qL_trim_4 ++ (qL_trim_5))))) := rfl
theorem okL_trim_1 : ∀ e ∈ tL_trim, decode cL_trim e.1 = .ok (e.2.1, e.2.2.1) := by rw [qL_trim_eq]; exact xapp qL_trim_0_ok (xapp qL_trim_1_ok (xapp qL_trim_2_ok (xapp qL_trim_3_ok (xapp qL_trim_4_ok (qL_trim_5_ok)))))
theorem okL_trim : xEok eL_trim := ⟨okL_trim_1, by decide +kernel, by decide +kernel, ceL_ok, rfl, by decide +kernel⟩
set_option maxRecDepth 100000 in
theorem qL_rule_eq : tL_rule = qL_rule_0 ++ (qL_rule_1 ++ (qL_rule_2 ++ (qL_rule_3 ++ (qL_rule_4 ++ (qL_rule_5 ++ (qL_rule_6 ++ (qL_rule_7))))))) := rfl
theorem okL_rule_1 : ∀ e ∈ tL_rule, decode cL_rule e.1 = .ok (e.2.1, e.2.2.1) := by rw [qL_rule_eq]; exact xapp qL_rule_0_ok (xapp qL_rule_1_ok (xapp qL_rule_2_ok (xapp qL_rule_3_ok (xapp qL_rule_4_ok (xapp qL_rule_5_ok (xapp qL_rule_6_ok (qL_rule_7_ok)))))))
theorem okL_rule : xEok eL_rule := ⟨okL_rule_1, by decide +kernel, by decide +kernel, ceL_ok, rfl, by decide +kernel⟩
set_option maxRecDepth 100000 in
theorem qL_law_eq : tL_law = qL_law_0 ++ (qL_law_1 ++ (qL_law_2 ++ (qL_law_3 ++ (qL_law_4 ++ (qL_law_5 ++ (qL_law_6 ++ (qL_law_7 ++ (qL_law_8 ++ (qL_law_9 ++ (qL_law_10 ++ (qL_law_11 ++ (qL_law_12 ++ (qL_law_13 ++ (qL_law_14 ++ (qL_law_15 ++ (qL_law_16 ++ (qL_law_17 ++ (qL_law_18 ++ (qL_law_19))))))))))))))))))) := rfl
theorem okL_law_1 : ∀ e ∈ tL_law, decode cL_law e.1 = .ok (e.2.1, e.2.2.1) := by rw [qL_law_eq]; exact xapp qL_law_0_ok (xapp qL_law_1_ok (xapp qL_law_2_ok (xapp qL_law_3_ok (xapp qL_law_4_ok (xapp qL_law_5_ok (xapp qL_law_6_ok (xapp qL_law_7_ok (xapp qL_law_8_ok (xapp qL_law_9_ok (xapp qL_law_10_ok (xapp qL_law_11_ok (xapp qL_law_12_ok (xapp qL_law_13_ok (xapp qL_law_14_ok (xapp qL_law_15_ok (xapp qL_law_16_ok (xapp qL_law_17_ok (xapp qL_law_18_ok (qL_law_19_ok)))))))))))))))))))
theorem okL_law : xEok eL_law := ⟨okL_law_1, by decide +kernel, by decide +kernel, ceL_ok, rfl, by decide +kernel⟩
end
section
/-! THE METHODS AS CONDITIONS, by program: each held against the small machine -/
abbrev xiu (x y : Int32) : Int32 := (x.toUInt32 >>> (y.toUInt32 &&& Int32.toUInt32 31)).toInt32
abbrev xi2c (x : Int32) : Int32 := (x.toUInt32 % 65536).toInt32
abbrev xls (x : Int64) (y : Int32) : Int64 := x <<< (y.toInt64 &&& 63)
abbrev xlr (x : Int64) (y : Int32) : Int64 := x >>> (y.toInt64 &&& 63)
abbrev xlu (x : Int64) (y : Int32) : Int64 := (x.toUInt64 >>> (y.toInt64.toUInt64 &&& Int64.toUInt64 63)).toInt64
set_option maxRecDepth 100000 in
set_option maxHeartbeats 4000000 in
theorem wX2_copyFrom {G : xG} {d : Nat} {j : Nat} {j0 : Nat} {μ : xM} {Q : xP} (h : MW G d mX5_copyFrom [vR (0, j, 0), vR (0, j0, 0)] (xst μ (2, j, 0) 0 ((μ (2, j0, 0) 0))) (xrV fun μ1 => MW G d mX5_copyFrom [vR (0, j, 1), vR (0, j0, 1)] μ1 (xrV fun μ2 => MW G d mX5_copyFrom [vR (0, j, 2), vR (0, j0, 2)] μ2 (xrV fun μ3 => Q none μ3)))) : MW G (d + 1) mX2_copyFrom [vR (2, j, 0), vR (2, j0, 0)] μ Q := MW.of (E := eX2_copyFrom) okX2_copyFrom (Nat.le_of_ble_eq_true rfl) fun Z => WS.go okX2_copyFrom 25 h
set_option maxRecDepth 100000 in
set_option maxHeartbeats 4000000 in
theorem wX2_has {G : xG} {d : Nat} {j : Nat} {a0 : Int32} {μ : xM} {Q : xP} (h : xif (a0 < 0) (((0 : Int32) = 0 ∨ (0 : Int32) = 1) ∧ Q (some (vI (0 : Int32))) μ) (xif ((μ (2, j, 0) 0) ≤ a0) (((0 : Int32) = 0 ∨ (0 : Int32) = 1) ∧ Q (some (vI (0 : Int32))) μ) (((1 : Int32) = 0 ∨ (1 : Int32) = 1) ∧ Q (some (vI (1 : Int32))) μ))) : MW G (d + 1) mX2_has [vR (2, j, 0), vI a0] μ Q := MW.of (E := eX2_has) okX2_has (Nat.le_of_ble_eq_true rfl) fun Z => WS.go okX2_has 15 h
set_option maxRecDepth 100000 in
set_option maxHeartbeats 4000000 in
theorem wX2_isOfKind {G : xG} {d : Nat} {j : Nat} {a0 : Int32} {a1 : Int32} {μ : xM} {Q : xP} (h : MW G d mX5_get [vR (0, j, 0), vI a0] μ (xrI fun x2 μ1 => xif (x2 = a1) (((1 : Int32) = 0 ∨ (1 : Int32) = 1) ∧ Q (some (vI (1 : Int32))) μ1) (((0 : Int32) = 0 ∨ (0 : Int32) = 1) ∧ Q (some (vI (0 : Int32))) μ1))) : MW G (d + 1) mX2_isOfKind [vR (2, j, 0), vI a0, vI a1] μ Q := MW.of (E := eX2_isOfKind) okX2_isOfKind (Nat.le_of_ble_eq_true rfl) fun Z => WS.go okX2_isOfKind 15 h
set_option maxRecDepth 100000 in
set_option maxHeartbeats 4000000 in
theorem wX2_isPartOfDisjunction {G : xG} {d : Nat} {j : Nat} {a0 : Int32} {a1 : Int32} {μ : xM} {Q : xP} (h : MW G d mX2_isOfKind [vR (2, j, 0), vI a1, vI (4 : Int32)] μ (xrI fun x2 μ1 => xif (x2 = 0) (((0 : Int32) = 0 ∨ (0 : Int32) = 1) ∧ Q (some (vI (0 : Int32))) μ1) (MW G d mX5_get [vR (0, j, 1), vI a1] μ1 (xrI fun x4 μ3 => xif (x4 = a0) (((1 : Int32) = 0 ∨ (1 : Int32) = 1) ∧ Q (some (vI (1 : Int32))) μ3) (MW G d mX5_get [vR (0, j, 2), vI a1] μ3 (xrI fun x6 μ5 => xif (x6 = a0) (((1 : Int32) = 0 ∨ (1 : Int32) = 1) ∧ Q (some (vI (1 : Int32))) μ5) (((0 : Int32) = 0 ∨ (0 : Int32) = 1) ∧ Q (some (vI (0 : Int32))) μ5))))))) : MW G (d + 1) mX2_isPartOfDisjunction [vR (2, j, 0), vI a0, vI a1] μ Q := MW.of (E := eX2_isPartOfDisjunction) okX2_isPartOfDisjunction (Nat.le_of_ble_eq_true rfl) fun Z => WS.go okX2_isPartOfDisjunction 26 h
set_option maxRecDepth 100000 in
set_option maxHeartbeats 4000000 in
theorem wX2_takenOut {G : xG} {d : Nat} {j : Nat} {a0 : Int32} {a1 : Int32} {μ : xM} {Q : xP} (h : xif (a0 = (13 : Int32)) (MW G d mX2_isOfKind [vR (2, j, 0), vI a1, vI (2 : Int32)] μ (xrI fun x2 μ1 => xif (x2 = 0) (MW G d mX2_isOfKind [vR (2, j, 0), vI (-6 : Int32), vI (2 : Int32)] μ1 (xrI fun x4 μ3 => xif (x4 = 0) (Q (some (vI (-6 : Int32))) μ3) (MW G d mX5_get [vR (0, j, 1), vI (-6 : Int32)] μ3 (xrI fun x6 μ5 => Q (some (vI x6)) μ5)))) (MW G d mX5_get [vR (0, j, 1), vI a1] μ1 (xrI fun x8 μ7 => MW G d mX2_isOfKind [vR (2, j, 0), vI x8, vI (2 : Int32)] μ7 (xrI fun x10 μ9 => xif (x10 = 0) (Q (some (vI (-6 : Int32))) μ9) (MW G d mX5_get [vR (0, j, 1), vI x8] μ9 (xrI fun x12 μ11 => Q (some (vI x12)) μ11))))))) (MW G d mX2_isOfKind [vR (2, j, 0), vI a1, vI (3 : Int32)] μ (xrI fun x14 μ13 => xif (x14 = 0) (Q (some (vI (-6 : Int32))) μ13) (xif (a0 = (4 : Int32)) (MW G d mX5_get [vR (0, j, 1), vI a1] μ13 (xrI fun x16 μ15 => Q (some (vI x16)) μ15)) (MW G d mX5_get [vR (0, j, 2), vI a1] μ13 (xrI fun x18 μ17 => Q (some (vI x18)) μ17)))))) : MW G (d + 1) mX2_takenOut [vR (2, j, 0), vI a0, vI a1] μ Q := MW.of (E := eX2_takenOut) okX2_takenOut (Nat.le_of_ble_eq_true rfl) fun Z => WS.go okX2_takenOut 52 h
set_option maxRecDepth 100000 in
set_option maxHeartbeats 4000000 in
theorem wX2_find {G : xG} {d : Nat} {j : Nat} {a0 : Int32} {a1 : Int32} {a2 : Int32} {μ : xM} {Q : xP} (h : ∀ Z : xZ, WS G eX2_find (d + 1) Z Q 3 [vR (2, j, 0), vI a0, vI a1, vI a2, vI (0 : Int32)] [] μ) : MW G (d + 1) mX2_find [vR (2, j, 0), vI a0, vI a1, vI a2] μ Q := MW.of (E := eX2_find) okX2_find (Nat.le_of_ble_eq_true rfl) fun Z => WS.go okX2_find 35 (h Z)
set_option maxRecDepth 100000 in
set_option maxHeartbeats 4000000 in
theorem wX2_find_3 {G : xG} {d : Nat} {Z : xZ} {j : Nat} {v1 : Int32} {v2 : Int32} {v3 : Int32} {v4 : Int32} {μ : xM} {Q : xP} (h : xif ((μ (2, j, 0) 0) ≤ v4) (Q (some (vI (-6 : Int32))) μ) (MW G d mX5_get [vR (0, j, 0), vI v4] μ (xrI fun x2 μ1 => xif (x2 = v1) (MW G d mX5_get [vR (0, j, 1), vI v4] μ1 (xrI fun x4 μ3 => xif (x4 = v2) (MW G d mX5_get [vR (0, j, 2), vI v4] μ3 (xrI fun x6 μ5 => xif (x6 = v3) (Q (some (vI v4)) μ5) (WS G eX2_find (d + 1) Z Q 3 [vR (2, j, 0), vI v1, vI v2, vI v3, vI (v4 + (1 : Int32))] [] μ5))) (WS G eX2_find (d + 1) Z Q 3 [vR (2, j, 0), vI v1, vI v2, vI v3, vI (v4 + (1 : Int32))] [] μ3))) (WS G eX2_find (d + 1) Z Q 3 [vR (2, j, 0), vI v1, vI v2, vI v3, vI (v4 + (1 : Int32))] [] μ1)))) : WS G eX2_find (d + 1) Z Q 3 [vR (2, j, 0), vI v1, vI v2, vI v3, vI v4] [] μ := WS.go okX2_find 35 h
set_option maxRecDepth 100000 in
set_option maxHeartbeats 4000000 in
theorem wX2_hasRoomFor {G : xG} {d : Nat} {j : Nat} {a0 : Int32} {a1 : Int32} {a2 : Int32} {μ : xM} {Q : xP} (h : xif ((μ (2, j, 0) 0) < (60 : Int32)) (((1 : Int32) = 0 ∨ (1 : Int32) = 1) ∧ Q (some (vI (1 : Int32))) μ) (MW G d mX2_find [vR (2, j, 0), vI a0, vI a1, vI a2] μ (xrI fun x2 μ1 => xif (x2 = (-6 : Int32)) (((0 : Int32) = 0 ∨ (0 : Int32) = 1) ∧ Q (some (vI (0 : Int32))) μ1) (((1 : Int32) = 0 ∨ (1 : Int32) = 1) ∧ Q (some (vI (1 : Int32))) μ1)))) : MW G (d + 1) mX2_hasRoomFor [vR (2, j, 0), vI a0, vI a1, vI a2] μ Q := MW.of (E := eX2_hasRoomFor) okX2_hasRoomFor (Nat.le_of_ble_eq_true rfl) fun Z => WS.go okX2_hasRoomFor 20 h
set_option maxRecDepth 100000 in
set_option maxHeartbeats 4000000 in
theorem wX2_make {G : xG} {d : Nat} {j : Nat} {a0 : Int32} {a1 : Int32} {a2 : Int32} {μ : xM} {Q : xP} (h : MW G d mX2_find [vR (2, j, 0), vI a0, vI a1, vI a2] μ (xrI fun x2 μ1 => xif (x2 = (-6 : Int32)) (xif ((μ1 (2, j, 0) 0) < (60 : Int32)) (MW G d mX5_set [vR (0, j, 0), vI (μ1 (2, j, 0) 0), vI a0] μ1 (xrV fun μ3 => MW G d mX5_set [vR (0, j, 1), vI (μ1 (2, j, 0) 0), vI a1] μ3 (xrV fun μ4 => MW G d mX5_set [vR (0, j, 2), vI (μ1 (2, j, 0) 0), vI a2] μ4 (xrV fun μ5 => Q (some (vI ((μ1 (2, j, 0) 0)))) (xst μ5 (2, j, 0) 0 (((μ5 (2, j, 0) 0) + (1 : Int32)))))))) (Q (some (vI (-4 : Int32))) μ1)) (Q (some (vI x2)) μ1))) : MW G (d + 1) mX2_make [vR (2, j, 0), vI a0, vI a1, vI a2] μ Q := MW.of (E := eX2_make) okX2_make (Nat.le_of_ble_eq_true rfl) fun Z => WS.go okX2_make 48 h
set_option maxRecDepth 100000 in
set_option maxHeartbeats 4000000 in
theorem wX2_evaluate {G : xG} {d : Nat} {j : Nat} {j1 : Nat} {c1 : Nat} {a0 : Int32} {μ : xM} {Q : xP} (h : ∀ Z : xZ, WS G eX2_evaluate (d + 1) Z Q 2 [vR (2, j, 0), vI a0, vR (0, j1, c1), vI (0 : Int32)] [] μ) : MW G (d + 1) mX2_evaluate [vR (2, j, 0), vI a0, vR (0, j1, c1)] μ Q := MW.of (E := eX2_evaluate) okX2_evaluate (Nat.le_of_ble_eq_true rfl) fun Z => WS.go okX2_evaluate 22 (h Z)
set_option maxRecDepth 100000 in
set_option maxHeartbeats 4000000 in
theorem wX2_evaluate_2 {G : xG} {d : Nat} {Z : xZ} {j : Nat} {j1 : Nat} {c1 : Nat} {v1 : Int32} {v3 : Int32} {μ : xM} {Q : xP} (h : xif ((μ (2, j, 0) 0) ≤ v3) (Q none μ) (MW G d mX2_truthOf [vR (2, j, 0), vI v3, vI v1, vR (0, j1, c1)] μ (xrI fun x2 μ1 => MW G d mX5_set [vR (0, j1, c1), vI v3, vI x2] μ1 (xrV fun μ3 => WS G eX2_evaluate (d + 1) Z Q 2 [vR (2, j, 0), vI v1, vR (0, j1, c1), vI (v3 + (1 : Int32))] [] μ3)))) : WS G eX2_evaluate (d + 1) Z Q 2 [vR (2, j, 0), vI v1, vR (0, j1, c1), vI v3] [] μ := WS.go okX2_evaluate 22 h
set_option maxRecDepth 100000 in
set_option maxHeartbeats 4000000 in
theorem wX2_truthOf {G : xG} {d : Nat} {j : Nat} {j2 : Nat} {c2 : Nat} {a0 : Int32} {a1 : Int32} {μ : xM} {Q : xP} (h : MW G d mX5_get [vR (0, j, 1), vI a0] μ (xrI fun x2 μ1 => MW G d mX5_get [vR (0, j, 2), vI a0] μ1 (xrI fun x4 μ3 => MW G d mX5_get [vR (0, j, 0), vI a0] μ3 (xrI fun x6 μ5 => (x6 = 0 → MW G d mX2_truthOfAtom [vI x2, vI a1] μ5 (xrI fun x8 μ7 => Q (some (vI x8)) μ7)) ∧ (¬ x6 = 0 → (x6 = 1 → Q (some (vI (0 : Int32))) μ5) ∧ (¬ x6 = 1 → (x6 = 2 → MW G d mX5_get [vR (0, j2, c2), vI x2] μ5 (xrI fun x10 μ9 => Q (some (vI ((x10 ^^^ (-1 : Int32))))) μ9)) ∧ (¬ x6 = 2 → (x6 = 3 → MW G d mX5_get [vR (0, j2, c2), vI x2] μ5 (xrI fun x12 μ11 => MW G d mX5_get [vR (0, j2, c2), vI x4] μ11 (xrI fun x14 μ13 => Q (some (vI ((x12 &&& x14)))) μ13))) ∧ (¬ x6 = 3 → (x6 = 4 → MW G d mX5_get [vR (0, j2, c2), vI x2] μ5 (xrI fun x16 μ15 => MW G d mX5_get [vR (0, j2, c2), vI x4] μ15 (xrI fun x18 μ17 => Q (some (vI ((x16 ||| x18)))) μ17))) ∧ (¬ x6 = 4 → (x6 = 5 → MW G d mX5_get [vR (0, j2, c2), vI x2] μ5 (xrI fun x20 μ19 => MW G d mX5_get [vR (0, j2, c2), vI x4] μ19 (xrI fun x22 μ21 => Q (some (vI (((x20 ^^^ (-1 : Int32)) ||| x22)))) μ21))) ∧ (¬ x6 = 5 → Q (some (vI (0 : Int32))) μ5)))))))))) : MW G (d + 1) mX2_truthOf [vR (2, j, 0), vI a0, vI a1, vR (0, j2, c2)] μ Q := MW.of (E := eX2_truthOf) okX2_truthOf (Nat.le_of_ble_eq_true rfl) fun Z => WS.go okX2_truthOf 58 h
set_option maxRecDepth 100000 in
set_option maxHeartbeats 4000000 in
theorem wX2_truthOfAtom {G : xG} {d : Nat} {a0 : Int32} {a1 : Int32} {μ : xM} {Q : xP} (h : (a0 = 0 → Q (some (vI (-1431655766 : Int32))) μ) ∧ (¬ a0 = 0 → (a0 = 1 → Q (some (vI (-858993460 : Int32))) μ) ∧ (¬ a0 = 1 → (a0 = 2 → Q (some (vI (-252645136 : Int32))) μ) ∧ (¬ a0 = 2 → (a0 = 3 → Q (some (vI (-16711936 : Int32))) μ) ∧ (¬ a0 = 3 → (a0 = 4 → Q (some (vI (-65536 : Int32))) μ) ∧ (¬ a0 = 4 → xif (((a1 >>> ((a0 - (5 : Int32)) &&& 31)) &&& (1 : Int32)) = 0) (Q (some (vI (0 : Int32))) μ) (Q (some (vI (-1 : Int32))) μ))))))) : MW G (d + 1) mX2_truthOfAtom [vI a0, vI a1] μ Q := MW.of (E := eX2_truthOfAtom) okX2_truthOfAtom (Nat.le_of_ble_eq_true rfl) fun Z => WS.go okX2_truthOfAtom 29 h
set_option maxRecDepth 100000 in
set_option maxHeartbeats 4000000 in
theorem wX3_at {G : xG} {d : Nat} {a0 : Int32} {μ : xM} {Q : xP} (h : xif (a0 < 0) (Q (some vN) μ) (xif ((Int32.ofNat 5) ≤ a0) (Q (some vN) μ) (vp_in a0 5 ∧ Q (some (vR (4, 2 + a0.toNatClampNeg, 0))) μ))) : MW G (d + 1) mX3_at [vR (5, 0, 0), vI a0] μ Q := MW.of (E := eX3_at) okX3_at (Nat.le_of_ble_eq_true rfl) fun Z => WS.go okX3_at 19 h
set_option maxRecDepth 100000 in
set_option maxHeartbeats 4000000 in
theorem wX3_record {G : xG} {d : Nat} {j0 : Nat} {μ : xM} {Q : xP} (h : MW G d mX3_at [vR (5, 0, 0), vI (μ (5, 0, 0) 1)] μ (xrR fun q2 μ1 => xro q2 6 <| MW G d mX7_copyFrom [vR q2, vR (4, j0, 0)] μ1 (xrV fun μ3 => xif ((5 : Int32) ≤ ((μ3 (5, 0, 0) 1) + (1 : Int32))) (Q none (xst (xst μ3 (5, 0, 0) 1 (0 : Int32)) (5, 0, 0) 0 ((if (5 : Int32) < (((xst μ3 (5, 0, 0) 1 (0 : Int32)) (5, 0, 0) 0) + (1 : Int32)) then (5 : Int32) else (((xst μ3 (5, 0, 0) 1 (0 : Int32)) (5, 0, 0) 0) + (1 : Int32)))))) (Q none (xst (xst μ3 (5, 0, 0) 1 (((μ3 (5, 0, 0) 1) + (1 : Int32)))) (5, 0, 0) 0 ((if (5 : Int32) < (((xst μ3 (5, 0, 0) 1 (((μ3 (5, 0, 0) 1) + (1 : Int32)))) (5, 0, 0) 0) + (1 : Int32)) then (5 : Int32) else (((xst μ3 (5, 0, 0) 1 (((μ3 (5, 0, 0) 1) + (1 : Int32)))) (5, 0, 0) 0) + (1 : Int32))))))))) : MW G (d + 1) mX3_record [vR (5, 0, 0), vR (4, j0, 0)] μ Q := MW.of (E := eX3_record) okX3_record (Nat.le_of_ble_eq_true rfl) fun Z => WS.go okX3_record 38 h
set_option maxRecDepth 100000 in
set_option maxHeartbeats 4000000 in
theorem wX4_copyFrom {G : xG} {d : Nat} {j : Nat} {j0 : Nat} {μ : xM} {Q : xP} (h : MW G d mX5_copyFrom [vR (0, j, 3), vR (0, j0, 3)] (xst (xst (xst μ (3, j, 0) 0 ((μ (3, j0, 0) 0))) (3, j, 0) 1 (((xst μ (3, j, 0) 0 ((μ (3, j0, 0) 0))) (3, j0, 0) 1))) (3, j, 0) 2 (((xst (xst μ (3, j, 0) 0 ((μ (3, j0, 0) 0))) (3, j, 0) 1 (((xst μ (3, j, 0) 0 ((μ (3, j0, 0) 0))) (3, j0, 0) 1))) (3, j0, 0) 2))) (xrV fun μ1 => MW G d mX5_copyFrom [vR (0, j, 4), vR (0, j0, 4)] μ1 (xrV fun μ2 => MW G d mX5_copyFrom [vR (0, j, 5), vR (0, j0, 5)] μ2 (xrV fun μ3 => MW G d mX5_copyFrom [vR (0, j, 6), vR (0, j0, 6)] μ3 (xrV fun μ4 => MW G d mX5_copyFrom [vR (0, j, 7), vR (0, j0, 7)] μ4 (xrV fun μ5 => MW G d mX5_copyFrom [vR (0, j, 8), vR (0, j0, 8)] μ5 (xrV fun μ6 => MW G d mX5_copyFrom [vR (0, j, 9), vR (0, j0, 9)] μ6 (xrV fun μ7 => MW G d mX5_copyFrom [vR (0, j, 10), vR (0, j0, 10)] μ7 (xrV fun μ8 => MW G d mX5_copyFrom [vR (0, j, 11), vR (0, j0, 11)] μ8 (xrV fun μ9 => Q none μ9)))))))))) : MW G (d + 1) mX4_copyFrom [vR (3, j, 0), vR (3, j0, 0)] μ Q := MW.of (E := eX4_copyFrom) okX4_copyFrom (Nat.le_of_ble_eq_true rfl) fun Z => WS.go okX4_copyFrom 63 h
set_option maxRecDepth 100000 in
set_option maxHeartbeats 4000000 in
theorem wX4_hasLine {G : xG} {d : Nat} {j : Nat} {a0 : Int32} {μ : xM} {Q : xP} (h : xif (a0 < 0) (((0 : Int32) = 0 ∨ (0 : Int32) = 1) ∧ Q (some (vI (0 : Int32))) μ) (xif ((μ (3, j, 0) 0) ≤ a0) (((0 : Int32) = 0 ∨ (0 : Int32) = 1) ∧ Q (some (vI (0 : Int32))) μ) (((1 : Int32) = 0 ∨ (1 : Int32) = 1) ∧ Q (some (vI (1 : Int32))) μ))) : MW G (d + 1) mX4_hasLine [vR (3, j, 0), vI a0] μ Q := MW.of (E := eX4_hasLine) okX4_hasLine (Nat.le_of_ble_eq_true rfl) fun Z => WS.go okX4_hasLine 15 h
set_option maxRecDepth 100000 in
set_option maxHeartbeats 4000000 in
theorem wX4_hasBox {G : xG} {d : Nat} {j : Nat} {a0 : Int32} {μ : xM} {Q : xP} (h : xif (a0 < 0) (((0 : Int32) = 0 ∨ (0 : Int32) = 1) ∧ Q (some (vI (0 : Int32))) μ) (xif ((μ (3, j, 0) 1) ≤ a0) (((0 : Int32) = 0 ∨ (0 : Int32) = 1) ∧ Q (some (vI (0 : Int32))) μ) (((1 : Int32) = 0 ∨ (1 : Int32) = 1) ∧ Q (some (vI (1 : Int32))) μ))) : MW G (d + 1) mX4_hasBox [vR (3, j, 0), vI a0] μ Q := MW.of (E := eX4_hasBox) okX4_hasBox (Nat.le_of_ble_eq_true rfl) fun Z => WS.go okX4_hasBox 15 h
set_option maxRecDepth 100000 in
set_option maxHeartbeats 4000000 in
theorem wX4_isFull {G : xG} {d : Nat} {j : Nat} {μ : xM} {Q : xP} (h : xif ((μ (3, j, 0) 0) < (48 : Int32)) (((0 : Int32) = 0 ∨ (0 : Int32) = 1) ∧ Q (some (vI (0 : Int32))) μ) (((1 : Int32) = 0 ∨ (1 : Int32) = 1) ∧ Q (some (vI (1 : Int32))) μ)) : MW G (d + 1) mX4_isFull [vR (3, j, 0)] μ Q := MW.of (E := eX4_isFull) okX4_isFull (Nat.le_of_ble_eq_true rfl) fun Z => WS.go okX4_isFull 13 h
set_option maxRecDepth 100000 in
set_option maxHeartbeats 4000000 in
theorem wX4_addLine {G : xG} {d : Nat} {j : Nat} {a0 : Int32} {a1 : Int32} {a2 : Int32} {a3 : Int32} {a4 : Int32} {μ : xM} {Q : xP} (h : MW G d mX5_set [vR (0, j, 3), vI (μ (3, j, 0) 0), vI a1] μ (xrV fun μ1 => MW G d mX5_set [vR (0, j, 4), vI (μ (3, j, 0) 0), vI a0] μ1 (xrV fun μ2 => MW G d mX5_set [vR (0, j, 5), vI (μ (3, j, 0) 0), vI (μ2 (3, j, 0) 2)] μ2 (xrV fun μ3 => MW G d mX5_set [vR (0, j, 6), vI (μ (3, j, 0) 0), vI a2] μ3 (xrV fun μ4 => MW G d mX5_set [vR (0, j, 7), vI (μ (3, j, 0) 0), vI a3] μ4 (xrV fun μ5 => MW G d mX5_set [vR (0, j, 8), vI (μ (3, j, 0) 0), vI a4] μ5 (xrV fun μ6 => Q (some (vI ((μ (3, j, 0) 0)))) (xst μ6 (3, j, 0) 0 (((μ6 (3, j, 0) 0) + (1 : Int32))))))))))) : MW G (d + 1) mX4_addLine [vR (3, j, 0), vI a0, vI a1, vI a2, vI a3, vI a4] μ Q := MW.of (E := eX4_addLine) okX4_addLine (Nat.le_of_ble_eq_true rfl) fun Z => WS.go okX4_addLine 47 h
set_option maxRecDepth 100000 in
set_option maxHeartbeats 4000000 in
theorem wX4_openBox {G : xG} {d : Nat} {j : Nat} {a0 : Int32} {μ : xM} {Q : xP} (h : MW G d mX5_set [vR (0, j, 9), vI (μ (3, j, 0) 1), vI (μ (3, j, 0) 0)] μ (xrV fun μ1 => MW G d mX5_set [vR (0, j, 10), vI (μ (3, j, 0) 1), vI (-6 : Int32)] μ1 (xrV fun μ2 => MW G d mX5_set [vR (0, j, 11), vI (μ (3, j, 0) 1), vI (μ2 (3, j, 0) 2)] μ2 (xrV fun μ3 => MW G d mX4_addLine [vR (3, j, 0), vI (1 : Int32), vI a0, vI (-6 : Int32), vI (-6 : Int32), vI (-6 : Int32)] (xst (xst μ3 (3, j, 0) 1 (((μ3 (3, j, 0) 1) + (1 : Int32)))) (3, j, 0) 2 ((μ (3, j, 0) 1))) (xrI fun x5 μ4 => Q (some (vI x5)) μ4))))) : MW G (d + 1) mX4_openBox [vR (3, j, 0), vI a0] μ Q := MW.of (E := eX4_openBox) okX4_openBox (Nat.le_of_ble_eq_true rfl) fun Z => WS.go okX4_openBox 42 h
set_option maxRecDepth 100000 in
set_option maxHeartbeats 4000000 in
theorem wX4_canCloseBox {G : xG} {d : Nat} {j : Nat} {μ : xM} {Q : xP} (h : xif ((μ (3, j, 0) 2) = (-6 : Int32)) (((0 : Int32) = 0 ∨ (0 : Int32) = 1) ∧ Q (some (vI (0 : Int32))) μ) (MW G d mX5_get [vR (0, j, 5), vI ((μ (3, j, 0) 0) - (1 : Int32))] μ (xrI fun x2 μ1 => xif (x2 = (μ1 (3, j, 0) 2)) (((1 : Int32) = 0 ∨ (1 : Int32) = 1) ∧ Q (some (vI (1 : Int32))) μ1) (((0 : Int32) = 0 ∨ (0 : Int32) = 1) ∧ Q (some (vI (0 : Int32))) μ1)))) : MW G (d + 1) mX4_canCloseBox [vR (3, j, 0)] μ Q := MW.of (E := eX4_canCloseBox) okX4_canCloseBox (Nat.le_of_ble_eq_true rfl) fun Z => WS.go okX4_canCloseBox 23 h
set_option maxRecDepth 100000 in
set_option maxHeartbeats 4000000 in
theorem wX4_closeBox {G : xG} {d : Nat} {j : Nat} {μ : xM} {Q : xP} (h : MW G d mX5_set [vR (0, j, 10), vI (μ (3, j, 0) 2), vI ((μ (3, j, 0) 0) - (1 : Int32))] μ (xrV fun μ1 => MW G d mX5_get [vR (0, j, 11), vI (μ (3, j, 0) 2)] μ1 (xrI fun x3 μ2 => Q (some (vI ((μ (3, j, 0) 2)))) (xst μ2 (3, j, 0) 2 x3)))) : MW G (d + 1) mX4_closeBox [vR (3, j, 0)] μ Q := MW.of (E := eX4_closeBox) okX4_closeBox (Nat.le_of_ble_eq_true rfl) fun Z => WS.go okX4_closeBox 24 h
set_option maxRecDepth 100000 in
set_option maxHeartbeats 4000000 in
theorem wX4_isNoneOrOpen {G : xG} {d : Nat} {j : Nat} {a0 : Int32} {μ : xM} {Q : xP} (h : MW G d mX4_hasBox [vR (3, j, 0), vI a0] μ (xrI fun x2 μ1 => xif (x2 = 0) (((1 : Int32) = 0 ∨ (1 : Int32) = 1) ∧ Q (some (vI (1 : Int32))) μ1) (MW G d mX5_get [vR (0, j, 10), vI a0] μ1 (xrI fun x4 μ3 => xif (x4 = (-6 : Int32)) (((1 : Int32) = 0 ∨ (1 : Int32) = 1) ∧ Q (some (vI (1 : Int32))) μ3) (((0 : Int32) = 0 ∨ (0 : Int32) = 1) ∧ Q (some (vI (0 : Int32))) μ3))))) : MW G (d + 1) mX4_isNoneOrOpen [vR (3, j, 0), vI a0] μ Q := MW.of (E := eX4_isNoneOrOpen) okX4_isNoneOrOpen (Nat.le_of_ble_eq_true rfl) fun Z => WS.go okX4_isNoneOrOpen 19 h
set_option maxRecDepth 100000 in
set_option maxHeartbeats 4000000 in
theorem wX4_isLineAvailable {G : xG} {d : Nat} {j : Nat} {a0 : Int32} {μ : xM} {Q : xP} (h : MW G d mX5_get [vR (0, j, 5), vI a0] μ (xrI fun x2 μ1 => MW G d mX4_isNoneOrOpen [vR (3, j, 0), vI x2] μ1 (xrI fun x4 μ3 => (x4 = 0 ∨ x4 = 1) ∧ Q (some (vI x4)) μ3))) : MW G (d + 1) mX4_isLineAvailable [vR (3, j, 0), vI a0] μ Q := MW.of (E := eX4_isLineAvailable) okX4_isLineAvailable (Nat.le_of_ble_eq_true rfl) fun Z => WS.go okX4_isLineAvailable 12 h
set_option maxRecDepth 100000 in
set_option maxHeartbeats 4000000 in
theorem wX4_isBoxAvailable {G : xG} {d : Nat} {j : Nat} {a0 : Int32} {μ : xM} {Q : xP} (h : MW G d mX5_get [vR (0, j, 10), vI a0] μ (xrI fun x2 μ1 => xif (x2 = (-6 : Int32)) (((0 : Int32) = 0 ∨ (0 : Int32) = 1) ∧ Q (some (vI (0 : Int32))) μ1) (MW G d mX5_get [vR (0, j, 11), vI a0] μ1 (xrI fun x4 μ3 => MW G d mX4_isNoneOrOpen [vR (3, j, 0), vI x4] μ3 (xrI fun x6 μ5 => xif (x6 = 0) (((0 : Int32) = 0 ∨ (0 : Int32) = 1) ∧ Q (some (vI (0 : Int32))) μ5) (((1 : Int32) = 0 ∨ (1 : Int32) = 1) ∧ Q (some (vI (1 : Int32))) μ5)))))) : MW G (d + 1) mX4_isBoxAvailable [vR (3, j, 0), vI a0] μ Q := MW.of (E := eX4_isBoxAvailable) okX4_isBoxAvailable (Nat.le_of_ble_eq_true rfl) fun Z => WS.go okX4_isBoxAvailable 22 h
set_option maxRecDepth 100000 in
set_option maxHeartbeats 4000000 in
theorem wX4_assumptionOf {G : xG} {d : Nat} {j : Nat} {a0 : Int32} {μ : xM} {Q : xP} (h : MW G d mX5_get [vR (0, j, 9), vI a0] μ (xrI fun x2 μ1 => MW G d mX5_get [vR (0, j, 3), vI x2] μ1 (xrI fun x4 μ3 => Q (some (vI x4)) μ3))) : MW G (d + 1) mX4_assumptionOf [vR (3, j, 0), vI a0] μ Q := MW.of (E := eX4_assumptionOf) okX4_assumptionOf (Nat.le_of_ble_eq_true rfl) fun Z => WS.go okX4_assumptionOf 13 h
set_option maxRecDepth 100000 in
set_option maxHeartbeats 4000000 in
theorem wX4_conclusionOf {G : xG} {d : Nat} {j : Nat} {a0 : Int32} {μ : xM} {Q : xP} (h : MW G d mX5_get [vR (0, j, 10), vI a0] μ (xrI fun x2 μ1 => MW G d mX5_get [vR (0, j, 3), vI x2] μ1 (xrI fun x4 μ3 => Q (some (vI x4)) μ3))) : MW G (d + 1) mX4_conclusionOf [vR (3, j, 0), vI a0] μ Q := MW.of (E := eX4_conclusionOf) okX4_conclusionOf (Nat.le_of_ble_eq_true rfl) fun Z => WS.go okX4_conclusionOf 13 h
set_option maxRecDepth 100000 in
set_option maxHeartbeats 4000000 in
theorem wX4_nesting {G : xG} {d : Nat} {j : Nat} {a0 : Int32} {μ : xM} {Q : xP} (h : ∀ Z : xZ, WS G eX4_nesting (d + 1) Z Q 4 [vR (3, j, 0), vN, vI a0, vI (0 : Int32)] [] μ) : MW G (d + 1) mX4_nesting [vR (3, j, 0), vI a0] μ Q := MW.of (E := eX4_nesting) okX4_nesting (Nat.le_of_ble_eq_true rfl) fun Z => WS.go okX4_nesting 25 (h Z)
set_option maxRecDepth 100000 in
set_option maxHeartbeats 4000000 in
theorem wX4_nesting_4 {G : xG} {d : Nat} {Z : xZ} {j : Nat} {v2 : Int32} {v3 : Int32} {μ : xM} {Q : xP} (h : MW G d mX4_hasBox [vR (3, j, 0), vI v2] μ (xrI fun x2 μ1 => xif (x2 = 0) (Q (some (vI v3)) μ1) (xif ((5 : Int32) ≤ v3) (Q (some (vI v3)) μ1) (MW G d mX5_get [vR (0, j, 11), vI v2] μ1 (xrI fun x4 μ3 => WS G eX4_nesting (d + 1) Z Q 4 [vR (3, j, 0), vN, vI x4, vI (v3 + (1 : Int32))] [] μ3))))) : WS G eX4_nesting (d + 1) Z Q 4 [vR (3, j, 0), vN, vI v2, vI v3] [] μ := WS.go okX4_nesting 25 h
set_option maxRecDepth 100000 in
set_option maxHeartbeats 4000000 in
theorem wX4_referenceAt {G : xG} {d : Nat} {j : Nat} {a0 : Int32} {a1 : Int32} {μ : xM} {Q : xP} (h : (a1 = 0 → MW G d mX5_get [vR (0, j, 6), vI a0] μ (xrI fun x2 μ1 => Q (some (vI x2)) μ1)) ∧ (¬ a1 = 0 → (a1 = 1 → MW G d mX5_get [vR (0, j, 7), vI a0] μ (xrI fun x4 μ3 => Q (some (vI x4)) μ3)) ∧ (¬ a1 = 1 → (a1 = 2 → MW G d mX5_get [vR (0, j, 8), vI a0] μ (xrI fun x6 μ5 => Q (some (vI x6)) μ5)) ∧ (¬ a1 = 2 → Q (some (vI (-6 : Int32))) μ)))) : MW G (d + 1) mX4_referenceAt [vR (3, j, 0), vI a0, vI a1] μ Q := MW.of (E := eX4_referenceAt) okX4_referenceAt (Nat.le_of_ble_eq_true rfl) fun Z => WS.go okX4_referenceAt 24 h
set_option maxRecDepth 100000 in
set_option maxHeartbeats 4000000 in
theorem wX4_countLineReferences {G : xG} {d : Nat} {j : Nat} {a0 : Int32} {μ : xM} {Q : xP} (h : MW G d mX5_get [vR (0, j, 4), vI a0] μ (xrI fun x2 μ1 => (x2 = 2 → Q (some (vI (1 : Int32))) μ1) ∧ (¬ x2 = 2 → (x2 = 3 → Q (some (vI (2 : Int32))) μ1) ∧ (¬ x2 = 3 → (x2 = 4 → Q (some (vI (1 : Int32))) μ1) ∧ (¬ x2 = 4 → (x2 = 5 → Q (some (vI (1 : Int32))) μ1) ∧ (¬ x2 = 5 → (x2 = 6 → Q (some (vI (1 : Int32))) μ1) ∧ (¬ x2 = 6 → (x2 = 7 → Q (some (vI (1 : Int32))) μ1) ∧ (¬ x2 = 7 → (x2 = 8 → Q (some (vI (0 : Int32))) μ1) ∧ (¬ x2 = 8 → (x2 = 9 → Q (some (vI (2 : Int32))) μ1) ∧ (¬ x2 = 9 → (x2 = 10 → Q (some (vI (0 : Int32))) μ1) ∧ (¬ x2 = 10 → (x2 = 11 → Q (some (vI (2 : Int32))) μ1) ∧ (¬ x2 = 11 → (x2 = 12 → Q (some (vI (1 : Int32))) μ1) ∧ (¬ x2 = 12 → (x2 = 13 → Q (some (vI (1 : Int32))) μ1) ∧ (¬ x2 = 13 → Q (some (vI (0 : Int32))) μ1)))))))))))))) : MW G (d + 1) mX4_countLineReferences [vR (3, j, 0), vI a0] μ Q := MW.of (E := eX4_countLineReferences) okX4_countLineReferences (Nat.le_of_ble_eq_true rfl) fun Z => WS.go okX4_countLineReferences 16 h
set_option maxRecDepth 100000 in
set_option maxHeartbeats 4000000 in
theorem wX4_bit {G : xG} {d : Nat} {a0 : Int32} {μ : xM} {Q : xP} (h : xif (0 ≤ a0) (Q (some (vL ((xls (1 : Int64) a0)))) μ) (Q (some (vL (0 : Int64))) μ)) : MW G (d + 1) mX4_bit [vI a0] μ Q := MW.of (E := eX4_bit) okX4_bit (Nat.le_of_ble_eq_true rfl) fun Z => WS.go okX4_bit 13 h
set_option maxRecDepth 100000 in
set_option maxHeartbeats 4000000 in
theorem wX4_contains {G : xG} {d : Nat} {a0 : Int64} {a1 : Int32} {μ : xM} {Q : xP} (h : MW G d mX4_bit [vI a1] μ (xrL fun y2 μ1 => xif ((lg_cmp ((a0 &&& y2)) (0 : Int64)) = 0) (((0 : Int32) = 0 ∨ (0 : Int32) = 1) ∧ Q (some (vI (0 : Int32))) μ1) (((1 : Int32) = 0 ∨ (1 : Int32) = 1) ∧ Q (some (vI (1 : Int32))) μ1))) : MW G (d + 1) mX4_contains [vL a0, vI a1] μ Q := MW.of (E := eX4_contains) okX4_contains (Nat.le_of_ble_eq_true rfl) fun Z => WS.go okX4_contains 16 h
set_option maxRecDepth 100000 in
set_option maxHeartbeats 4000000 in
theorem wX4_directNeeds {G : xG} {d : Nat} {j : Nat} {a0 : Int32} {μ : xM} {Q : xP} (h : ∀ Z : xZ, MW G d mX4_countLineReferences [vR (3, j, 0), vI a0] μ (xrI fun x2 μ1 => WS G eX4_directNeeds (d + 1) Z Q 11 [vR (3, j, 0), vI a0, vI x2, vL (0 : Int64), vN, vI (0 : Int32), vN] [] μ1)) : MW G (d + 1) mX4_directNeeds [vR (3, j, 0), vI a0] μ Q := MW.of (E := eX4_directNeeds) okX4_directNeeds (Nat.le_of_ble_eq_true rfl) fun Z => WS.go okX4_directNeeds 48 (h Z)
set_option maxRecDepth 100000 in
set_option maxHeartbeats 4000000 in
theorem wX4_directNeeds_11 {G : xG} {d : Nat} {Z : xZ} {j : Nat} {v1 : Int32} {v2 : Int32} {v3 : Int64} {v5 : Int32} {μ : xM} {Q : xP} (h : xif ((3 : Int32) ≤ v5) (Q (some (vL v3)) μ) (MW G d mX4_referenceAt [vR (3, j, 0), vI v1, vI v5] μ (xrI fun x2 μ1 => xif (v2 ≤ v5) (MW G d mX5_get [vR (0, j, 9), vI x2] μ1 (xrI fun x4 μ3 => MW G d mX4_bit [vI x4] μ3 (xrL fun y6 μ5 => MW G d mX5_get [vR (0, j, 10), vI x2] μ5 (xrI fun x8 μ7 => MW G d mX4_bit [vI x8] μ7 (xrL fun y10 μ9 => WS G eX4_directNeeds (d + 1) Z Q 11 [vR (3, j, 0), vI v1, vI v2, vL (v3 ||| (y6 ||| y10)), vN, vI (v5 + (1 : Int32)), vN] [] μ9))))) (MW G d mX4_bit [vI x2] μ1 (xrL fun y12 μ11 => WS G eX4_directNeeds (d + 1) Z Q 11 [vR (3, j, 0), vI v1, vI v2, vL (v3 ||| y12), vN, vI (v5 + (1 : Int32)), vN] [] μ11))))) : WS G eX4_directNeeds (d + 1) Z Q 11 [vR (3, j, 0), vI v1, vI v2, vL v3, vN, vI v5, vN] [] μ := WS.go okX4_directNeeds 48 h
set_option maxRecDepth 100000 in
set_option maxHeartbeats 4000000 in
theorem wX4_countUsers {G : xG} {d : Nat} {j : Nat} {a0 : Int32} {μ : xM} {Q : xP} (h : ∀ Z : xZ, WS G eX4_countUsers (d + 1) Z Q 4 [vR (3, j, 0), vI a0, vI (0 : Int32), vI (0 : Int32)] [] μ) : MW G (d + 1) mX4_countUsers [vR (3, j, 0), vI a0] μ Q := MW.of (E := eX4_countUsers) okX4_countUsers (Nat.le_of_ble_eq_true rfl) fun Z => WS.go okX4_countUsers 24 (h Z)
set_option maxRecDepth 100000 in
set_option maxHeartbeats 4000000 in
theorem wX4_countUsers_4 {G : xG} {d : Nat} {Z : xZ} {j : Nat} {v1 : Int32} {v2 : Int32} {v3 : Int32} {μ : xM} {Q : xP} (h : xif ((μ (3, j, 0) 0) ≤ v3) (Q (some (vI v2)) μ) (MW G d mX4_directNeeds [vR (3, j, 0), vI v3] μ (xrL fun y2 μ1 => MW G d mX4_contains [vL y2, vI v1] μ1 (xrI fun x4 μ3 => xif (x4 = 0) (WS G eX4_countUsers (d + 1) Z Q 4 [vR (3, j, 0), vI v1, vI v2, vI (v3 + (1 : Int32))] [] μ3) (WS G eX4_countUsers (d + 1) Z Q 4 [vR (3, j, 0), vI v1, vI (v2 + (1 : Int32)), vI (v3 + (1 : Int32))] [] μ3))))) : WS G eX4_countUsers (d + 1) Z Q 4 [vR (3, j, 0), vI v1, vI v2, vI v3] [] μ := WS.go okX4_countUsers 24 h
set_option maxRecDepth 100000 in
set_option maxHeartbeats 4000000 in
theorem wX4_assumptionsFrom {G : xG} {d : Nat} {j : Nat} {a0 : Int32} {μ : xM} {Q : xP} (h : ∀ Z : xZ, WS G eX4_assumptionsFrom (d + 1) Z Q 8 [vR (3, j, 0), vN, vL (0 : Int64), vN, vI a0, vI (0 : Int32)] [] μ) : MW G (d + 1) mX4_assumptionsFrom [vR (3, j, 0), vI a0] μ Q := MW.of (E := eX4_assumptionsFrom) okX4_assumptionsFrom (Nat.le_of_ble_eq_true rfl) fun Z => WS.go okX4_assumptionsFrom 31 (h Z)
set_option maxRecDepth 100000 in
set_option maxHeartbeats 4000000 in
theorem wX4_assumptionsFrom_8 {G : xG} {d : Nat} {Z : xZ} {j : Nat} {v2 : Int64} {v4 : Int32} {v5 : Int32} {μ : xM} {Q : xP} (h : xif ((5 : Int32) ≤ v5) (Q (some (vL v2)) μ) (MW G d mX5_get [vR (0, j, 9), vI v4] μ (xrI fun x2 μ1 => MW G d mX4_bit [vI x2] μ1 (xrL fun y4 μ3 => MW G d mX5_get [vR (0, j, 11), vI v4] μ3 (xrI fun x6 μ5 => WS G eX4_assumptionsFrom (d + 1) Z Q 8 [vR (3, j, 0), vN, vL (v2 ||| y4), vN, vI x6, vI (v5 + (1 : Int32))] [] μ5))))) : WS G eX4_assumptionsFrom (d + 1) Z Q 8 [vR (3, j, 0), vN, vL v2, vN, vI v4, vI v5] [] μ := WS.go okX4_assumptionsFrom 31 h
set_option maxRecDepth 100000 in
set_option maxHeartbeats 4000000 in
theorem wX4_allNeeds {G : xG} {d : Nat} {j : Nat} {a0 : Int32} {μ : xM} {Q : xP} (h : ∀ Z : xZ, MW G d mX4_bit [vI a0] μ (xrL fun y2 μ1 => WS G eX4_allNeeds (d + 1) Z Q 8 [vR (3, j, 0), vN, vL y2, vN, vI a0] [] μ1)) : MW G (d + 1) mX4_allNeeds [vR (3, j, 0), vI a0] μ Q := MW.of (E := eX4_allNeeds) okX4_allNeeds (Nat.le_of_ble_eq_true rfl) fun Z => WS.go okX4_allNeeds 33 (h Z)
set_option maxRecDepth 100000 in
set_option maxHeartbeats 4000000 in
theorem wX4_allNeeds_8 {G : xG} {d : Nat} {Z : xZ} {j : Nat} {v2 : Int64} {v4 : Int32} {μ : xM} {Q : xP} (h : xif (v4 < 0) (Q (some (vL v2)) μ) (MW G d mX4_contains [vL v2, vI v4] μ (xrI fun x2 μ1 => xif (x2 = 0) (WS G eX4_allNeeds (d + 1) Z Q 8 [vR (3, j, 0), vN, vL v2, vN, vI (v4 + (-1 : Int32))] [] μ1) (MW G d mX4_directNeeds [vR (3, j, 0), vI v4] μ1 (xrL fun y4 μ3 => MW G d mX5_get [vR (0, j, 5), vI v4] μ3 (xrI fun x6 μ5 => MW G d mX4_assumptionsFrom [vR (3, j, 0), vI x6] μ5 (xrL fun y8 μ7 => WS G eX4_allNeeds (d + 1) Z Q 8 [vR (3, j, 0), vN, vL (v2 ||| (y4 ||| y8)), vN, vI (v4 + (-1 : Int32))] [] μ7))))))) : WS G eX4_allNeeds (d + 1) Z Q 8 [vR (3, j, 0), vN, vL v2, vN, vI v4] [] μ := WS.go okX4_allNeeds 33 h
set_option maxRecDepth 100000 in
set_option maxHeartbeats 4000000 in
theorem wX4_bypassOf {G : xG} {d : Nat} {j : Nat} {a0 : Int32} {μ : xM} {Q : xP} (h : MW G d mX5_get [vR (0, j, 4), vI a0] μ (xrI fun x2 μ1 => MW G d mX5_get [vR (0, j, 6), vI a0] μ1 (xrI fun x4 μ3 => xif (x2 = (2 : Int32)) (Q (some (vI x4)) μ3) (xif (x2 = (4 : Int32)) (MW G d mX5_get [vR (0, j, 4), vI x4] μ3 (xrI fun x6 μ5 => xif (x6 = (3 : Int32)) (MW G d mX5_get [vR (0, j, 6), vI x4] μ5 (xrI fun x8 μ7 => Q (some (vI x8)) μ7)) (xif (x2 = (5 : Int32)) (MW G d mX5_get [vR (0, j, 4), vI x4] μ5 (xrI fun x10 μ9 => xif (x10 = (3 : Int32)) (MW G d mX5_get [vR (0, j, 7), vI x4] μ9 (xrI fun x12 μ11 => Q (some (vI x12)) μ11)) (Q (some (vI (-6 : Int32))) μ9))) (Q (some (vI (-6 : Int32))) μ5)))) (xif (x2 = (5 : Int32)) (MW G d mX5_get [vR (0, j, 4), vI x4] μ3 (xrI fun x14 μ13 => xif (x14 = (3 : Int32)) (MW G d mX5_get [vR (0, j, 7), vI x4] μ13 (xrI fun x16 μ15 => Q (some (vI x16)) μ15)) (Q (some (vI (-6 : Int32))) μ13))) (Q (some (vI (-6 : Int32))) μ3)))))) : MW G (d + 1) mX4_bypassOf [vR (3, j, 0), vI a0] μ Q := MW.of (E := eX4_bypassOf) okX4_bypassOf (Nat.le_of_ble_eq_true rfl) fun Z => WS.go okX4_bypassOf 50 h
set_option maxRecDepth 100000 in
set_option maxHeartbeats 4000000 in
theorem wX4_countDetours {G : xG} {d : Nat} {j : Nat} {μ : xM} {Q : xP} (h : ∀ Z : xZ, WS G eX4_countDetours (d + 1) Z Q 4 [vR (3, j, 0), vI (0 : Int32), vI (0 : Int32)] [] μ) : MW G (d + 1) mX4_countDetours [vR (3, j, 0)] μ Q := MW.of (E := eX4_countDetours) okX4_countDetours (Nat.le_of_ble_eq_true rfl) fun Z => WS.go okX4_countDetours 23 (h Z)
set_option maxRecDepth 100000 in
set_option maxHeartbeats 4000000 in
theorem wX4_countDetours_4 {G : xG} {d : Nat} {Z : xZ} {j : Nat} {v1 : Int32} {v2 : Int32} {μ : xM} {Q : xP} (h : xif ((μ (3, j, 0) 0) ≤ v2) (Q (some (vI v1)) μ) (MW G d mX4_bypassOf [vR (3, j, 0), vI v2] μ (xrI fun x2 μ1 => xif (x2 = (-6 : Int32)) (WS G eX4_countDetours (d + 1) Z Q 4 [vR (3, j, 0), vI v1, vI (v2 + (1 : Int32))] [] μ1) (WS G eX4_countDetours (d + 1) Z Q 4 [vR (3, j, 0), vI (v1 + (1 : Int32)), vI (v2 + (1 : Int32))] [] μ1)))) : WS G eX4_countDetours (d + 1) Z Q 4 [vR (3, j, 0), vI v1, vI v2] [] μ := WS.go okX4_countDetours 23 h
set_option maxRecDepth 100000 in
set_option maxHeartbeats 4000000 in
theorem wX4_bypassDetours {G : xG} {d : Nat} {j : Nat} {μ : xM} {Q : xP} (h : ∀ Z : xZ, WS G eX4_bypassDetours (d + 1) Z Q 4 [vR (3, j, 0), vI (0 : Int32), vI (0 : Int32), vN] [] μ) : MW G (d + 1) mX4_bypassDetours [vR (3, j, 0)] μ Q := MW.of (E := eX4_bypassDetours) okX4_bypassDetours (Nat.le_of_ble_eq_true rfl) fun Z => WS.go okX4_bypassDetours 42 (h Z)
set_option maxRecDepth 100000 in
set_option maxHeartbeats 4000000 in
theorem wX4_bypassDetours_4 {G : xG} {d : Nat} {Z : xZ} {j : Nat} {v1 : Int32} {v2 : Int32} {μ : xM} {Q : xP} (h : xif ((μ (3, j, 0) 0) ≤ v2) (Q (some (vI v1)) μ) (MW G d mX4_countLineReferences [vR (3, j, 0), vI v2] μ (xrI fun x2 μ1 => xif (x2 ≤ 0) (xif (x2 ≤ (1 : Int32)) (WS G eX4_bypassDetours (d + 1) Z Q 4 [vR (3, j, 0), vI v1, vI (v2 + (1 : Int32)), vN] [] μ1) (MW G d mX4_bypassIn [vR (3, j, 0), vR (0, j, 7), vI v2] μ1 (xrI fun x4 μ3 => WS G eX4_bypassDetours (d + 1) Z Q 4 [vR (3, j, 0), vI (v1 + x4), vI (v2 + (1 : Int32)), vN] [] μ3))) (MW G d mX4_bypassIn [vR (3, j, 0), vR (0, j, 6), vI v2] μ1 (xrI fun x6 μ5 => xif (x2 ≤ (1 : Int32)) (WS G eX4_bypassDetours (d + 1) Z Q 4 [vR (3, j, 0), vI (v1 + x6), vI (v2 + (1 : Int32)), vN] [] μ5) (MW G d mX4_bypassIn [vR (3, j, 0), vR (0, j, 7), vI v2] μ5 (xrI fun x8 μ7 => WS G eX4_bypassDetours (d + 1) Z Q 4 [vR (3, j, 0), vI ((v1 + x6) + x8), vI (v2 + (1 : Int32)), vN] [] μ7))))))) : WS G eX4_bypassDetours (d + 1) Z Q 4 [vR (3, j, 0), vI v1, vI v2, vN] [] μ := WS.go okX4_bypassDetours 42 h
set_option maxRecDepth 100000 in
set_option maxHeartbeats 4000000 in
theorem wX4_bypassIn {G : xG} {d : Nat} {j : Nat} {j0 : Nat} {c0 : Nat} {a1 : Int32} {μ : xM} {Q : xP} (h : ∀ Z : xZ, MW G d mX5_get [vR (0, j0, c0), vI a1] μ (xrI fun x2 μ1 => WS G eX4_bypassIn (d + 1) Z Q 12 [vR (3, j, 0), vR (0, j0, c0), vI a1, vI x2, vI x2, vI (0 : Int32)] [] μ1)) : MW G (d + 1) mX4_bypassIn [vR (3, j, 0), vR (0, j0, c0), vI a1] μ Q := MW.of (E := eX4_bypassIn) okX4_bypassIn (Nat.le_of_ble_eq_true rfl) fun Z => WS.go okX4_bypassIn 38 (h Z)
set_option maxRecDepth 100000 in
set_option maxHeartbeats 4000000 in
theorem wX4_bypassIn_12 {G : xG} {d : Nat} {Z : xZ} {j : Nat} {j0 : Nat} {c0 : Nat} {v2 : Int32} {v3 : Int32} {v4 : Int32} {v5 : Int32} {μ : xM} {Q : xP} (h : xif ((48 : Int32) ≤ v5) (MW G d mX5_set [vR (0, j0, c0), vI v2, vI v4] μ (xrV fun μ1 => xif (v4 = v3) (Q (some (vI (0 : Int32))) μ1) (Q (some (vI (1 : Int32))) μ1))) (MW G d mX4_bypassOf [vR (3, j, 0), vI v4] μ (xrI fun x3 μ2 => xif (x3 = (-6 : Int32)) (MW G d mX5_set [vR (0, j0, c0), vI v2, vI v4] μ2 (xrV fun μ4 => xif (v4 = v3) (Q (some (vI (0 : Int32))) μ4) (Q (some (vI (1 : Int32))) μ4))) (MW G d mX4_bypassOf [vR (3, j, 0), vI v4] μ2 (xrI fun x6 μ5 => WS G eX4_bypassIn (d + 1) Z Q 12 [vR (3, j, 0), vR (0, j0, c0), vI v2, vI v3, vI x6, vI (v5 + (1 : Int32))] [] μ5))))) : WS G eX4_bypassIn (d + 1) Z Q 12 [vR (3, j, 0), vR (0, j0, c0), vI v2, vI v3, vI v4, vI v5] [] μ := WS.go okX4_bypassIn 38 h
set_option maxRecDepth 100000 in
set_option maxHeartbeats 4000000 in
theorem wX4_allowedValuations {G : xG} {d : Nat} {j : Nat} {j1 : Nat} {c1 : Nat} {a0 : Int32} {μ : xM} {Q : xP} (h : ∀ Z : xZ, MW G d mX4_assumptionsFrom [vR (3, j, 0), vI a0] μ (xrL fun y2 μ1 => WS G eX4_allowedValuations (d + 1) Z Q 12 [vR (3, j, 0), vN, vR (0, j1, c1), vL y2, vN, vI (-1 : Int32), vI (0 : Int32)] [] μ1)) : MW G (d + 1) mX4_allowedValuations [vR (3, j, 0), vI a0, vR (0, j1, c1)] μ Q := MW.of (E := eX4_allowedValuations) okX4_allowedValuations (Nat.le_of_ble_eq_true rfl) fun Z => WS.go okX4_allowedValuations 39 (h Z)
set_option maxRecDepth 100000 in
set_option maxHeartbeats 4000000 in
theorem wX4_allowedValuations_12 {G : xG} {d : Nat} {Z : xZ} {j : Nat} {j1 : Nat} {c1 : Nat} {v3 : Int64} {v5 : Int32} {v6 : Int32} {μ : xM} {Q : xP} (h : xif ((μ (3, j, 0) 0) ≤ v6) (Q (some (vI v5)) μ) (MW G d mX5_get [vR (0, j, 4), vI v6] μ (xrI fun x2 μ1 => xif (x2 = 0) (MW G d mX5_get [vR (0, j, 3), vI v6] μ1 (xrI fun x4 μ3 => MW G d mX5_get [vR (0, j1, c1), vI x4] μ3 (xrI fun x6 μ5 => WS G eX4_allowedValuations (d + 1) Z Q 12 [vR (3, j, 0), vN, vR (0, j1, c1), vL v3, vN, vI (v5 &&& x6), vI (v6 + (1 : Int32))] [] μ5))) (MW G d mX4_contains [vL v3, vI v6] μ1 (xrI fun x8 μ7 => xif (x8 = 0) (WS G eX4_allowedValuations (d + 1) Z Q 12 [vR (3, j, 0), vN, vR (0, j1, c1), vL v3, vN, vI v5, vI (v6 + (1 : Int32))] [] μ7) (MW G d mX5_get [vR (0, j, 3), vI v6] μ7 (xrI fun x10 μ9 => MW G d mX5_get [vR (0, j1, c1), vI x10] μ9 (xrI fun x12 μ11 => WS G eX4_allowedValuations (d + 1) Z Q 12 [vR (3, j, 0), vN, vR (0, j1, c1), vL v3, vN, vI (v5 &&& x12), vI (v6 + (1 : Int32))] [] μ11)))))))) : WS G eX4_allowedValuations (d + 1) Z Q 12 [vR (3, j, 0), vN, vR (0, j1, c1), vL v3, vN, vI v5, vI v6] [] μ := WS.go okX4_allowedValuations 39 h
set_option maxRecDepth 100000 in
set_option maxHeartbeats 4000000 in
theorem wX4_keepOnly {G : xG} {d : Nat} {j : Nat} {a0 : Int64} {μ : xM} {Q : xP} (h : ∀ Z : xZ, MW G d mX4_keepBoxes [vR (3, j, 0), vL a0] μ (xrL fun y2 μ1 => WS G eX4_keepOnly (d + 1) Z Q 18 [vR (3, j, 0), vL a0, vN, vI (μ (3, j, 0) 0), vL y2, vN, vI (0 : Int32), vI (0 : Int32)] [] μ1)) : MW G (d + 1) mX4_keepOnly [vR (3, j, 0), vL a0] μ Q := MW.of (E := eX4_keepOnly) okX4_keepOnly (Nat.le_of_ble_eq_true rfl) fun Z => WS.go okX4_keepOnly 42 (h Z)
set_option maxRecDepth 100000 in
set_option maxHeartbeats 4000000 in
theorem wX4_keepOnly_18 {G : xG} {d : Nat} {Z : xZ} {j : Nat} {v1 : Int64} {v3 : Int32} {v4 : Int64} {v6 : Int32} {v7 : Int32} {μ : xM} {Q : xP} (h : xif (v3 ≤ v7) (MW G d mX4_findEnds [vR (3, j, 0)] (xst μ (3, j, 0) 0 v6) (xrV fun μ1 => Q (some (vI ((v3 - (μ1 (3, j, 0) 0))))) μ1)) (MW G d mX4_contains [vL v1, vI v7] μ (xrI fun x3 μ2 => xif (x3 = 0) (WS G eX4_keepOnly (d + 1) Z Q 18 [vR (3, j, 0), vL v1, vN, vI v3, vL v4, vN, vI v6, vI (v7 + (1 : Int32))] [] μ2) (MW G d mX4_moveLine [vR (3, j, 0), vI v7, vI v6, vL v1, vL v4] μ2 (xrV fun μ4 => WS G eX4_keepOnly (d + 1) Z Q 18 [vR (3, j, 0), vL v1, vN, vI v3, vL v4, vN, vI (v6 + (1 : Int32)), vI (v7 + (1 : Int32))] [] μ4))))) : WS G eX4_keepOnly (d + 1) Z Q 18 [vR (3, j, 0), vL v1, vN, vI v3, vL v4, vN, vI v6, vI v7] [] μ := WS.go okX4_keepOnly 42 h
set_option maxRecDepth 100000 in
set_option maxHeartbeats 4000000 in
theorem wX4_renumbered {G : xG} {d : Nat} {a0 : Int32} {a1 : Int64} {μ : xM} {Q : xP} (h : xif (0 ≤ a0) (MW G d mX4_bit [vI a0] μ (xrL fun y2 μ1 => MW G d mJ13_bitCount_95d88 [vL (a1 &&& (y2 - (1 : Int64)))] μ1 (xrI fun x4 μ3 => Q (some (vI x4)) μ3))) (Q (some (vI (-6 : Int32))) μ)) : MW G (d + 1) mX4_renumbered [vI a0, vL a1] μ Q := MW.of (E := eX4_renumbered) okX4_renumbered (Nat.le_of_ble_eq_true rfl) fun Z => WS.go okX4_renumbered 17 h
set_option maxRecDepth 100000 in
set_option maxHeartbeats 4000000 in
theorem wX4_moveLine {G : xG} {d : Nat} {j : Nat} {a0 : Int32} {a1 : Int32} {a2 : Int64} {a3 : Int64} {μ : xM} {Q : xP} (h : MW G d mX4_countLineReferences [vR (3, j, 0), vI a0] μ (xrI fun x2 μ1 => MW G d mX5_get [vR (0, j, 3), vI a0] μ1 (xrI fun x4 μ3 => MW G d mX5_set [vR (0, j, 3), vI a1, vI x4] μ3 (xrV fun μ5 => MW G d mX5_get [vR (0, j, 6), vI a0] μ5 (xrI fun x7 μ6 => xif (x2 ≤ 0) (MW G d mX4_renumbered [vI x7, vL a3] μ6 (xrI fun x9 μ8 => MW G d mX5_set [vR (0, j, 6), vI a1, vI x9] μ8 (xrV fun μ10 => MW G d mX5_get [vR (0, j, 7), vI a0] μ10 (xrI fun x12 μ11 => xif (x2 ≤ (1 : Int32)) (MW G d mX4_renumbered [vI x12, vL a3] μ11 (xrI fun x14 μ13 => MW G d mX5_set [vR (0, j, 7), vI a1, vI x14] μ13 (xrV fun μ15 => MW G d mX5_get [vR (0, j, 8), vI a0] μ15 (xrI fun x17 μ16 => MW G d mX4_renumbered [vI x17, vL a3] μ16 (xrI fun x19 μ18 => MW G d mX5_set [vR (0, j, 8), vI a1, vI x19] μ18 (xrV fun μ20 => MW G d mX5_get [vR (0, j, 5), vI a0] μ20 (xrI fun x22 μ21 => MW G d mX4_renumbered [vI x22, vL a3] μ21 (xrI fun x24 μ23 => MW G d mX5_set [vR (0, j, 5), vI a1, vI x24] μ23 (xrV fun μ25 => MW G d mX5_get [vR (0, j, 4), vI a0] μ25 (xrI fun x27 μ26 => MW G d mX5_set [vR (0, j, 4), vI a1, vI x27] μ26 (xrV fun μ28 => Q none μ28))))))))))) (MW G d mX4_renumbered [vI x12, vL a2] μ11 (xrI fun x30 μ29 => MW G d mX5_set [vR (0, j, 7), vI a1, vI x30] μ29 (xrV fun μ31 => MW G d mX5_get [vR (0, j, 8), vI a0] μ31 (xrI fun x33 μ32 => MW G d mX4_renumbered [vI x33, vL a3] μ32 (xrI fun x35 μ34 => MW G d mX5_set [vR (0, j, 8), vI a1, vI x35] μ34 (xrV fun μ36 => MW G d mX5_get [vR (0, j, 5), vI a0] μ36 (xrI fun x38 μ37 => MW G d mX4_renumbered [vI x38, vL a3] μ37 (xrI fun x40 μ39 => MW G d mX5_set [vR (0, j, 5), vI a1, vI x40] μ39 (xrV fun μ41 => MW G d mX5_get [vR (0, j, 4), vI a0] μ41 (xrI fun x43 μ42 => MW G d mX5_set [vR (0, j, 4), vI a1, vI x43] μ42 (xrV fun μ44 => Q none μ44))))))))))))))) (MW G d mX4_renumbered [vI x7, vL a2] μ6 (xrI fun x46 μ45 => MW G d mX5_set [vR (0, j, 6), vI a1, vI x46] μ45 (xrV fun μ47 => MW G d mX5_get [vR (0, j, 7), vI a0] μ47 (xrI fun x49 μ48 => xif (x2 ≤ (1 : Int32)) (MW G d mX4_renumbered [vI x49, vL a3] μ48 (xrI fun x51 μ50 => MW G d mX5_set [vR (0, j, 7), vI a1, vI x51] μ50 (xrV fun μ52 => MW G d mX5_get [vR (0, j, 8), vI a0] μ52 (xrI fun x54 μ53 => MW G d mX4_renumbered [vI x54, vL a3] μ53 (xrI fun x56 μ55 => MW G d mX5_set [vR (0, j, 8), vI a1, vI x56] μ55 (xrV fun μ57 => MW G d mX5_get [vR (0, j, 5), vI a0] μ57 (xrI fun x59 μ58 => MW G d mX4_renumbered [vI x59, vL a3] μ58 (xrI fun x61 μ60 => MW G d mX5_set [vR (0, j, 5), vI a1, vI x61] μ60 (xrV fun μ62 => MW G d mX5_get [vR (0, j, 4), vI a0] μ62 (xrI fun x64 μ63 => MW G d mX5_set [vR (0, j, 4), vI a1, vI x64] μ63 (xrV fun μ65 => Q none μ65))))))))))) (MW G d mX4_renumbered [vI x49, vL a2] μ48 (xrI fun x67 μ66 => MW G d mX5_set [vR (0, j, 7), vI a1, vI x67] μ66 (xrV fun μ68 => MW G d mX5_get [vR (0, j, 8), vI a0] μ68 (xrI fun x70 μ69 => MW G d mX4_renumbered [vI x70, vL a3] μ69 (xrI fun x72 μ71 => MW G d mX5_set [vR (0, j, 8), vI a1, vI x72] μ71 (xrV fun μ73 => MW G d mX5_get [vR (0, j, 5), vI a0] μ73 (xrI fun x75 μ74 => MW G d mX4_renumbered [vI x75, vL a3] μ74 (xrI fun x77 μ76 => MW G d mX5_set [vR (0, j, 5), vI a1, vI x77] μ76 (xrV fun μ78 => MW G d mX5_get [vR (0, j, 4), vI a0] μ78 (xrI fun x80 μ79 => MW G d mX5_set [vR (0, j, 4), vI a1, vI x80] μ79 (xrV fun μ81 => Q none μ81)))))))))))))))))))) : MW G (d + 1) mX4_moveLine [vR (3, j, 0), vI a0, vI a1, vL a2, vL a3] μ Q := MW.of (E := eX4_moveLine) okX4_moveLine (Nat.le_of_ble_eq_true rfl) fun Z => WS.go okX4_moveLine 75 h
set_option maxRecDepth 100000 in
set_option maxHeartbeats 4000000 in
theorem wX4_keepBoxes {G : xG} {d : Nat} {j : Nat} {a0 : Int64} {μ : xM} {Q : xP} (h : ∀ Z : xZ, WS G eX4_keepBoxes (d + 1) Z Q 8 [vR (3, j, 0), vL a0, vN, vL (0 : Int64), vN, vI (0 : Int32), vI (0 : Int32)] [] μ) : MW G (d + 1) mX4_keepBoxes [vR (3, j, 0), vL a0] μ Q := MW.of (E := eX4_keepBoxes) okX4_keepBoxes (Nat.le_of_ble_eq_true rfl) fun Z => WS.go okX4_keepBoxes 55 (h Z)
set_option maxRecDepth 100000 in
set_option maxHeartbeats 4000000 in
theorem wX4_keepBoxes_8 {G : xG} {d : Nat} {Z : xZ} {j : Nat} {v1 : Int64} {v3 : Int64} {v5 : Int32} {v6 : Int32} {μ : xM} {Q : xP} (h : xif ((μ (3, j, 0) 1) ≤ v6) (Q (some (vL v3)) (xst μ (3, j, 0) 1 v5)) (MW G d mX5_get [vR (0, j, 9), vI v6] μ (xrI fun x2 μ1 => MW G d mX4_contains [vL v1, vI x2] μ1 (xrI fun x4 μ3 => xif (x4 = 0) (WS G eX4_keepBoxes (d + 1) Z Q 8 [vR (3, j, 0), vL v1, vN, vL v3, vN, vI v5, vI (v6 + (1 : Int32))] [] μ3) (MW G d mX4_bit [vI v6] μ3 (xrL fun y6 μ5 => MW G d mX5_get [vR (0, j, 9), vI v6] μ5 (xrI fun x8 μ7 => MW G d mX4_renumbered [vI x8, vL v1] μ7 (xrI fun x10 μ9 => MW G d mX5_set [vR (0, j, 9), vI v5, vI x10] μ9 (xrV fun μ11 => MW G d mX5_get [vR (0, j, 11), vI v6] μ11 (xrI fun x13 μ12 => MW G d mX4_renumbered [vI x13, vL (v3 ||| y6)] μ12 (xrI fun x15 μ14 => MW G d mX5_set [vR (0, j, 11), vI v5, vI x15] μ14 (xrV fun μ16 => WS G eX4_keepBoxes (d + 1) Z Q 8 [vR (3, j, 0), vL v1, vN, vL (v3 ||| y6), vN, vI (v5 + (1 : Int32)), vI (v6 + (1 : Int32))] [] μ16)))))))))))) : WS G eX4_keepBoxes (d + 1) Z Q 8 [vR (3, j, 0), vL v1, vN, vL v3, vN, vI v5, vI v6] [] μ := WS.go okX4_keepBoxes 55 h
set_option maxRecDepth 100000 in
set_option maxHeartbeats 4000000 in
theorem wX4_findEnds {G : xG} {d : Nat} {j : Nat} {μ : xM} {Q : xP} (h : ∀ Z : xZ, WS G eX4_findEnds (d + 1) Z Q 2 [vR (3, j, 0), vI (0 : Int32), vN, vN] [] μ) : MW G (d + 1) mX4_findEnds [vR (3, j, 0)] μ Q := MW.of (E := eX4_findEnds) okX4_findEnds (Nat.le_of_ble_eq_true rfl) fun Z => WS.go okX4_findEnds 40 (h Z)
set_option maxRecDepth 100000 in
set_option maxHeartbeats 4000000 in
theorem wX4_findEnds_2 {G : xG} {d : Nat} {Z : xZ} {j : Nat} {v1 : Int32} {μ : xM} {Q : xP} (h : xif ((μ (3, j, 0) 0) ≤ v1) (Q none μ) (MW G d mX5_get [vR (0, j, 5), vI v1] μ (xrI fun x2 μ1 => WS G eX4_findEnds (d + 1) Z Q 21 [vR (3, j, 0), vI v1, vI x2, vI (0 : Int32)] [] μ1))) : WS G eX4_findEnds (d + 1) Z Q 2 [vR (3, j, 0), vI v1, vN, vN] [] μ := WS.go okX4_findEnds 40 h
set_option maxRecDepth 100000 in
set_option maxHeartbeats 4000000 in
theorem wX4_findEnds_21 {G : xG} {d : Nat} {Z : xZ} {j : Nat} {v1 : Int32} {v2 : Int32} {v3 : Int32} {μ : xM} {Q : xP} (h : xif ((5 : Int32) ≤ v3) (WS G eX4_findEnds (d + 1) Z Q 2 [vR (3, j, 0), vI (v1 + (1 : Int32)), vN, vN] [] μ) (MW G d mX4_hasBox [vR (3, j, 0), vI v2] μ (xrI fun x2 μ1 => xif (x2 = 0) (WS G eX4_findEnds (d + 1) Z Q 2 [vR (3, j, 0), vI (v1 + (1 : Int32)), vN, vN] [] μ1) (MW G d mX5_set [vR (0, j, 10), vI v2, vI v1] μ1 (xrV fun μ3 => MW G d mX5_get [vR (0, j, 11), vI v2] μ3 (xrI fun x5 μ4 => WS G eX4_findEnds (d + 1) Z Q 21 [vR (3, j, 0), vI v1, vI x5, vI (v3 + (1 : Int32))] [] μ4)))))) : WS G eX4_findEnds (d + 1) Z Q 21 [vR (3, j, 0), vI v1, vI v2, vI v3] [] μ := WS.go okX4_findEnds 40 h
set_option maxRecDepth 100000 in
set_option maxHeartbeats 4000000 in
theorem wX5_get {G : xG} {d : Nat} {j : Nat} {c : Nat} {a0 : Int32} {μ : xM} {Q : xP} (h : xif (a0 < 0) (Q (some (vI (-6 : Int32))) μ) (xif ((Int32.ofNat (xlenc c)) ≤ a0) (Q (some (vI (-6 : Int32))) μ) (vp_in a0 (xlenc c) ∧ Q (some (vI ((μ (1, j, c) a0.toNatClampNeg)))) μ))) : MW G (d + 1) mX5_get [vR (0, j, c), vI a0] μ Q := MW.of (E := eX5_get) okX5_get (Nat.le_of_ble_eq_true rfl) fun Z => WS.go okX5_get 19 h
set_option maxRecDepth 100000 in
set_option maxHeartbeats 4000000 in
theorem wX5_set {G : xG} {d : Nat} {j : Nat} {c : Nat} {a0 : Int32} {a1 : Int32} {μ : xM} {Q : xP} (h : xif (a0 < 0) (Q none μ) (xif ((Int32.ofNat (xlenc c)) ≤ a0) (Q none μ) (vp_in a0 (xlenc c) ∧ Q none (xst μ (1, j, c) a0.toNatClampNeg a1)))) : MW G (d + 1) mX5_set [vR (0, j, c), vI a0, vI a1] μ Q := MW.of (E := eX5_set) okX5_set (Nat.le_of_ble_eq_true rfl) fun Z => WS.go okX5_set 18 h
set_option maxRecDepth 100000 in
set_option maxHeartbeats 4000000 in
theorem wX5_copyFrom {G : xG} {d : Nat} {j : Nat} {c : Nat} {j0 : Nat} {c0 : Nat} {μ : xM} {Q : xP} (h : ¬ (0 : Int32) < 0 ∧ ¬ (0 : Int32) < 0 ∧ ¬ (if (Int32.ofNat (xlenc c0)) < (Int32.ofNat (xlenc c)) then (Int32.ofNat (xlenc c0)) else (Int32.ofNat (xlenc c))) < 0 ∧ (0 : Int32).toNatClampNeg + ((if (Int32.ofNat (xlenc c0)) < (Int32.ofNat (xlenc c)) then (Int32.ofNat (xlenc c0)) else (Int32.ofNat (xlenc c)))).toNatClampNeg ≤ (xlenc c0) ∧ (0 : Int32).toNatClampNeg + ((if (Int32.ofNat (xlenc c0)) < (Int32.ofNat (xlenc c)) then (Int32.ofNat (xlenc c0)) else (Int32.ofNat (xlenc c)))).toNatClampNeg ≤ (xlenc c) ∧ Q none (xcp μ (1, j0, c0) (1, j, c) ((0 : Int32).toNatClampNeg) ((0 : Int32).toNatClampNeg) (((if (Int32.ofNat (xlenc c0)) < (Int32.ofNat (xlenc c)) then (Int32.ofNat (xlenc c0)) else (Int32.ofNat (xlenc c)))).toNatClampNeg))) : MW G (d + 1) mX5_copyFrom [vR (0, j, c), vR (0, j0, c0)] μ Q := MW.of (E := eX5_copyFrom) okX5_copyFrom (Nat.le_of_ble_eq_true rfl) fun Z => WS.go okX5_copyFrom 22 h
set_option maxRecDepth 100000 in
set_option maxHeartbeats 4000000 in
theorem wX7_copyFrom {G : xG} {d : Nat} {j : Nat} {j0 : Nat} {μ : xM} {Q : xP} (h : MW G d mX2_copyFrom [vR (2, j, 0), vR (2, j0, 0)] μ (xrV fun μ1 => MW G d mX4_copyFrom [vR (3, j, 0), vR (3, j0, 0)] μ1 (xrV fun μ2 => Q none μ2))) : MW G (d + 1) mX7_copyFrom [vR (4, j, 0), vR (4, j0, 0)] μ Q := MW.of (E := eX7_copyFrom) okX7_copyFrom (Nat.le_of_ble_eq_true rfl) fun Z => WS.go okX7_copyFrom 16 h
set_option maxRecDepth 100000 in
set_option maxHeartbeats 4000000 in
theorem wX8_atom {G : xG} {d : Nat} {a0 : Int32} {μ : xM} {Q : xP} (h : xif (a0 < 0) (Q (some (vI (-1 : Int32))) μ) (xif (a0 < (8 : Int32)) (MW G d mX8_makeFormula [vR (8, 0, 0), vI (0 : Int32), vI a0, vI (-6 : Int32)] μ (xrI fun x2 μ1 => Q (some (vI x2)) μ1)) (Q (some (vI (-1 : Int32))) μ))) : MW G (d + 1) mX8_atom [vR (8, 0, 0), vI a0] μ Q := MW.of (E := eX8_atom) okX8_atom (Nat.le_of_ble_eq_true rfl) fun Z => WS.go okX8_atom 18 h
set_option maxRecDepth 100000 in
set_option maxHeartbeats 4000000 in
theorem wX8_falsum {G : xG} {d : Nat} {μ : xM} {Q : xP} (h : MW G d mX8_makeFormula [vR (8, 0, 0), vI (1 : Int32), vI (-6 : Int32), vI (-6 : Int32)] μ (xrI fun x2 μ1 => Q (some (vI x2)) μ1)) : MW G (d + 1) mX8_falsum [vR (8, 0, 0)] μ Q := MW.of (E := eX8_falsum) okX8_falsum (Nat.le_of_ble_eq_true rfl) fun Z => WS.go okX8_falsum 11 h
set_option maxRecDepth 100000 in
set_option maxHeartbeats 4000000 in
theorem wX8_not {G : xG} {d : Nat} {a0 : Int32} {μ : xM} {Q : xP} (h : MW G d mX2_has [vR (2, 0, 0), vI a0] μ (xrI fun x2 μ1 => xif (x2 = 0) (Q (some (vI (-1 : Int32))) μ1) (MW G d mX8_makeFormula [vR (8, 0, 0), vI (2 : Int32), vI a0, vI (-6 : Int32)] μ1 (xrI fun x4 μ3 => Q (some (vI x4)) μ3)))) : MW G (d + 1) mX8_not [vR (8, 0, 0), vI a0] μ Q := MW.of (E := eX8_not) okX8_not (Nat.le_of_ble_eq_true rfl) fun Z => WS.go okX8_not 19 h
set_option maxRecDepth 100000 in
set_option maxHeartbeats 4000000 in
theorem wX8_pair {G : xG} {d : Nat} {a0 : Int32} {a1 : Int32} {a2 : Int32} {μ : xM} {Q : xP} (h : MW G d mX2_has [vR (2, 0, 0), vI a1] μ (xrI fun x2 μ1 => xif (x2 = 0) (Q (some (vI (-1 : Int32))) μ1) (MW G d mX2_has [vR (2, 0, 0), vI a2] μ1 (xrI fun x4 μ3 => xif (x4 = 0) (Q (some (vI (-1 : Int32))) μ3) (xif (a0 < (3 : Int32)) (Q (some (vI (-2 : Int32))) μ3) (xif (a0 ≤ (5 : Int32)) (MW G d mX8_makeFormula [vR (8, 0, 0), vI a0, vI a1, vI a2] μ3 (xrI fun x6 μ5 => Q (some (vI x6)) μ5)) (Q (some (vI (-2 : Int32))) μ3))))))) : MW G (d + 1) mX8_pair [vR (8, 0, 0), vI a0, vI a1, vI a2] μ Q := MW.of (E := eX8_pair) okX8_pair (Nat.le_of_ble_eq_true rfl) fun Z => WS.go okX8_pair 33 h
set_option maxRecDepth 100000 in
set_option maxHeartbeats 4000000 in
theorem wX8_makeFormula {G : xG} {d : Nat} {a0 : Int32} {a1 : Int32} {a2 : Int32} {μ : xM} {Q : xP} (h : MW G d mX2_hasRoomFor [vR (2, 0, 0), vI a0, vI a1, vI a2] μ (xrI fun x2 μ1 => xif (x2 = 0) (Q (some (vI (-4 : Int32))) μ1) (MW G d mX3_record [vR (5, 0, 0), vR (4, 0, 0)] μ1 (xrV fun μ3 => MW G d mX2_make [vR (2, 0, 0), vI a0, vI a1, vI a2] μ3 (xrI fun x5 μ4 => Q (some (vI x5)) μ4))))) : MW G (d + 1) mX8_makeFormula [vR (8, 0, 0), vI a0, vI a1, vI a2] μ Q := MW.of (E := eX8_makeFormula) okX8_makeFormula (Nat.le_of_ble_eq_true rfl) fun Z => WS.go okX8_makeFormula 28 h
set_option maxRecDepth 100000 in
set_option maxHeartbeats 4000000 in
theorem wX8_formulas {G : xG} {d : Nat} {μ : xM} {Q : xP} (h : Q (some (vI ((μ (2, 0, 0) 0)))) μ) : MW G (d + 1) mX8_formulas [vR (8, 0, 0)] μ Q := MW.of (E := eX8_formulas) okX8_formulas (Nat.le_of_ble_eq_true rfl) fun Z => WS.go okX8_formulas 10 h
set_option maxRecDepth 100000 in
set_option maxHeartbeats 4000000 in
theorem wX8_part {G : xG} {d : Nat} {a0 : Int32} {a1 : Int32} {μ : xM} {Q : xP} (h : MW G d mX2_has [vR (2, 0, 0), vI a0] μ (xrI fun x2 μ1 => xif (x2 = 0) (Q (some (vI (-1 : Int32))) μ1) ((a1 = 0 → MW G d mX5_get [vR (0, 0, 0), vI a0] μ1 (xrI fun x4 μ3 => Q (some (vI x4)) μ3)) ∧ (¬ a1 = 0 → (a1 = 1 → MW G d mX5_get [vR (0, 0, 1), vI a0] μ1 (xrI fun x6 μ5 => Q (some (vI x6)) μ5)) ∧ (¬ a1 = 1 → (a1 = 2 → MW G d mX5_get [vR (0, 0, 2), vI a0] μ1 (xrI fun x8 μ7 => Q (some (vI x8)) μ7)) ∧ (¬ a1 = 2 → Q (some (vI (-2 : Int32))) μ1)))))) : MW G (d + 1) mX8_part [vR (8, 0, 0), vI a0, vI a1] μ Q := MW.of (E := eX8_part) okX8_part (Nat.le_of_ble_eq_true rfl) fun Z => WS.go okX8_part 38 h
set_option maxRecDepth 100000 in
set_option maxHeartbeats 4000000 in
theorem wX8_isTrue {G : xG} {d : Nat} {a0 : Int32} {a1 : Int32} {μ : xM} {Q : xP} (h : MW G d mX2_has [vR (2, 0, 0), vI a0] μ (xrI fun x2 μ1 => xif (x2 = 0) (Q (some (vI (-1 : Int32))) μ1) (xif (a1 < 0) (Q (some (vI (-2 : Int32))) μ1) (xif (a1 < (256 : Int32)) (¬ (32 : Int32) = (0 : Int32) ∧ MW G d mX2_evaluate [vR (2, 0, 0), vI (a1 / (32 : Int32)), vR (0, 0, 13)] μ1 (xrV fun μ3 => MW G d mX5_get [vR (0, 0, 13), vI a0] μ3 (xrI fun x5 μ4 => ¬ (32 : Int32) = (0 : Int32) ∧ Q (some (vI (((xiu x5 ((a1 - a1 / (32 : Int32) * (32 : Int32)))) &&& (1 : Int32))))) μ4))) (Q (some (vI (-2 : Int32))) μ1))))) : MW G (d + 1) mX8_isTrue [vR (8, 0, 0), vI a0, vI a1] μ Q := MW.of (E := eX8_isTrue) okX8_isTrue (Nat.le_of_ble_eq_true rfl) fun Z => WS.go okX8_isTrue 40 h
set_option maxRecDepth 100000 in
set_option maxHeartbeats 4000000 in
theorem wX8_premise {G : xG} {d : Nat} {a0 : Int32} {μ : xM} {Q : xP} (h : MW G d mX2_has [vR (2, 0, 0), vI a0] μ (xrI fun x2 μ1 => xif (x2 = 0) (Q (some (vI (-1 : Int32))) μ1) (xif ((μ1 (3, 0, 0) 2) = (-6 : Int32)) (MW G d mX8_write [vR (8, 0, 0), vI (0 : Int32), vI a0, vI (-6 : Int32), vI (-6 : Int32), vI (-6 : Int32)] μ1 (xrI fun x4 μ3 => Q (some (vI x4)) μ3)) (Q (some (vI (-3 : Int32))) μ1)))) : MW G (d + 1) mX8_premise [vR (8, 0, 0), vI a0] μ Q := MW.of (E := eX8_premise) okX8_premise (Nat.le_of_ble_eq_true rfl) fun Z => WS.go okX8_premise 29 h
set_option maxRecDepth 100000 in
set_option maxHeartbeats 4000000 in
theorem wX8_open {G : xG} {d : Nat} {a0 : Int32} {μ : xM} {Q : xP} (h : MW G d mX2_has [vR (2, 0, 0), vI a0] μ (xrI fun x2 μ1 => xif (x2 = 0) (Q (some (vI (-1 : Int32))) μ1) (MW G d mX4_isFull [vR (3, 0, 0)] μ1 (xrI fun x4 μ3 => xif (x4 = 0) (MW G d mX8_depth [vR (8, 0, 0)] μ3 (xrI fun x6 μ5 => xif (x6 < (5 : Int32)) (MW G d mX3_record [vR (5, 0, 0), vR (4, 0, 0)] μ5 (xrV fun μ7 => MW G d mX4_openBox [vR (3, 0, 0), vI a0] μ7 (xrI fun x9 μ8 => Q (some (vI x9)) μ8))) (Q (some (vI (-4 : Int32))) μ5))) (Q (some (vI (-4 : Int32))) μ3))))) : MW G (d + 1) mX8_open [vR (8, 0, 0), vI a0] μ Q := MW.of (E := eX8_open) okX8_open (Nat.le_of_ble_eq_true rfl) fun Z => WS.go okX8_open 35 h
set_option maxRecDepth 100000 in
set_option maxHeartbeats 4000000 in
theorem wX8_close {G : xG} {d : Nat} {μ : xM} {Q : xP} (h : MW G d mX4_canCloseBox [vR (3, 0, 0)] μ (xrI fun x2 μ1 => xif (x2 = 0) (Q (some (vI (-3 : Int32))) μ1) (MW G d mX3_record [vR (5, 0, 0), vR (4, 0, 0)] μ1 (xrV fun μ3 => MW G d mX4_closeBox [vR (3, 0, 0)] μ3 (xrI fun x5 μ4 => Q (some (vI x5)) μ4))))) : MW G (d + 1) mX8_close [vR (8, 0, 0)] μ Q := MW.of (E := eX8_close) okX8_close (Nat.le_of_ble_eq_true rfl) fun Z => WS.go okX8_close 22 h
set_option maxRecDepth 100000 in
set_option maxHeartbeats 4000000 in
theorem wX8_repeat {G : xG} {d : Nat} {a0 : Int32} {μ : xM} {Q : xP} (h : MW G d mX4_hasLine [vR (3, 0, 0), vI a0] μ (xrI fun x2 μ1 => xif (x2 = 0) (Q (some (vI (-1 : Int32))) μ1) (MW G d mX4_isLineAvailable [vR (3, 0, 0), vI a0] μ1 (xrI fun x4 μ3 => xif (x4 = 0) (Q (some (vI (-3 : Int32))) μ3) (MW G d mX5_get [vR (0, 0, 3), vI a0] μ3 (xrI fun x6 μ5 => MW G d mX8_write [vR (8, 0, 0), vI (2 : Int32), vI x6, vI a0, vI (-6 : Int32), vI (-6 : Int32)] μ5 (xrI fun x8 μ7 => Q (some (vI x8)) μ7))))))) : MW G (d + 1) mX8_repeat [vR (8, 0, 0), vI a0] μ Q := MW.of (E := eX8_repeat) okX8_repeat (Nat.le_of_ble_eq_true rfl) fun Z => WS.go okX8_repeat 34 h
set_option maxRecDepth 100000 in
set_option maxHeartbeats 4000000 in
theorem wX8_fromTwo {G : xG} {d : Nat} {a0 : Int32} {a1 : Int32} {a2 : Int32} {μ : xM} {Q : xP} (h : ∀ Z : xZ, MW G d mX4_hasLine [vR (3, 0, 0), vI a1] μ (xrI fun x2 μ1 => xif (x2 = 0) (Q (some (vI (-1 : Int32))) μ1) (MW G d mX4_hasLine [vR (3, 0, 0), vI a2] μ1 (xrI fun x4 μ3 => xif (x4 = 0) (Q (some (vI (-1 : Int32))) μ3) (xif (a0 = (3 : Int32)) (WS G eX8_fromTwo (d + 1) Z Q 50 [vR (8, 0, 0), vI a0, vI a1, vI a2, vN, vN, vN] [] μ3) (xif (a0 = (9 : Int32)) (WS G eX8_fromTwo (d + 1) Z Q 50 [vR (8, 0, 0), vI a0, vI a1, vI a2, vN, vN, vN] [] μ3) (xif (a0 = (11 : Int32)) (WS G eX8_fromTwo (d + 1) Z Q 50 [vR (8, 0, 0), vI a0, vI a1, vI a2, vN, vN, vN] [] μ3) (Q (some (vI (-2 : Int32))) μ3)))))))) : MW G (d + 1) mX8_fromTwo [vR (8, 0, 0), vI a0, vI a1, vI a2] μ Q := MW.of (E := eX8_fromTwo) okX8_fromTwo (Nat.le_of_ble_eq_true rfl) fun Z => WS.go okX8_fromTwo 119 (h Z)
set_option maxRecDepth 100000 in
set_option maxHeartbeats 4000000 in
theorem wX8_fromTwo_50 {G : xG} {d : Nat} {Z : xZ} {v1 : Int32} {v2 : Int32} {v3 : Int32} {μ : xM} {Q : xP} (h : MW G d mX4_isLineAvailable [vR (3, 0, 0), vI v2] μ (xrI fun x2 μ1 => xif (x2 = 0) (Q (some (vI (-3 : Int32))) μ1) (MW G d mX4_isLineAvailable [vR (3, 0, 0), vI v3] μ1 (xrI fun x4 μ3 => xif (x4 = 0) (Q (some (vI (-3 : Int32))) μ3) (MW G d mX5_get [vR (0, 0, 3), vI v2] μ3 (xrI fun x6 μ5 => MW G d mX5_get [vR (0, 0, 3), vI v3] μ5 (xrI fun x8 μ7 => xif (v1 = (3 : Int32)) (MW G d mX8_writeMade [vR (8, 0, 0), vI (3 : Int32), vI (3 : Int32), vI x6, vI x8, vI v2, vI v3] μ7 (xrI fun x10 μ9 => Q (some (vI x10)) μ9)) (xif (v1 = (9 : Int32)) (WS G eX8_fromTwo (d + 1) Z Q 142 [vR (8, 0, 0), vI v1, vI v2, vI v3, vI x6, vI x8, vN] [vI (5 : Int32)] μ7) (WS G eX8_fromTwo (d + 1) Z Q 142 [vR (8, 0, 0), vI v1, vI v2, vI v3, vI x6, vI x8, vN] [vI (2 : Int32)] μ7))))))))) : WS G eX8_fromTwo (d + 1) Z Q 50 [vR (8, 0, 0), vI v1, vI v2, vI v3, vN, vN, vN] [] μ := WS.go okX8_fromTwo 119 h
set_option maxRecDepth 100000 in
set_option maxHeartbeats 4000000 in
theorem wX8_fromTwo_142 {G : xG} {d : Nat} {Z : xZ} {v1 : Int32} {v2 : Int32} {v3 : Int32} {v4 : Int32} {v5 : Int32} {s0 : Int32} {μ : xM} {Q : xP} (h : MW G d mX2_isOfKind [vR (2, 0, 0), vI v4, vI s0] μ (xrI fun x2 μ1 => xif (x2 = 0) (Q (some (vI (-3 : Int32))) μ1) (MW G d mX5_get [vR (0, 0, 1), vI v4] μ1 (xrI fun x4 μ3 => xif (x4 = v5) (xif (v1 = (9 : Int32)) (MW G d mX5_get [vR (0, 0, 2), vI v4] μ3 (xrI fun x6 μ5 => MW G d mX8_write [vR (8, 0, 0), vI (9 : Int32), vI x6, vI v2, vI v3, vI (-6 : Int32)] μ5 (xrI fun x8 μ7 => Q (some (vI x8)) μ7))) (MW G d mX8_writeMade [vR (8, 0, 0), vI (11 : Int32), vI (1 : Int32), vI (-6 : Int32), vI (-6 : Int32), vI v2, vI v3] μ3 (xrI fun x10 μ9 => Q (some (vI x10)) μ9))) (Q (some (vI (-3 : Int32))) μ3))))) : WS G eX8_fromTwo (d + 1) Z Q 142 [vR (8, 0, 0), vI v1, vI v2, vI v3, vI v4, vI v5, vN] [vI s0] μ := WS.go okX8_fromTwo 119 h
set_option maxRecDepth 100000 in
set_option maxHeartbeats 4000000 in
theorem wX8_fromOne {G : xG} {d : Nat} {a0 : Int32} {a1 : Int32} {μ : xM} {Q : xP} (h : ∀ Z : xZ, MW G d mX4_hasLine [vR (3, 0, 0), vI a1] μ (xrI fun x2 μ1 => xif (x2 = 0) (Q (some (vI (-1 : Int32))) μ1) (xif (a0 = (4 : Int32)) (WS G eX8_fromOne (d + 1) Z Q 35 [vR (8, 0, 0), vI a0, vI a1, vN] [] μ1) (xif (a0 = (5 : Int32)) (WS G eX8_fromOne (d + 1) Z Q 35 [vR (8, 0, 0), vI a0, vI a1, vN] [] μ1) (xif (a0 = (13 : Int32)) (WS G eX8_fromOne (d + 1) Z Q 35 [vR (8, 0, 0), vI a0, vI a1, vN] [] μ1) (Q (some (vI (-2 : Int32))) μ1)))))) : MW G (d + 1) mX8_fromOne [vR (8, 0, 0), vI a0, vI a1] μ Q := MW.of (E := eX8_fromOne) okX8_fromOne (Nat.le_of_ble_eq_true rfl) fun Z => WS.go okX8_fromOne 57 (h Z)
set_option maxRecDepth 100000 in
set_option maxHeartbeats 4000000 in
theorem wX8_fromOne_35 {G : xG} {d : Nat} {Z : xZ} {v1 : Int32} {v2 : Int32} {μ : xM} {Q : xP} (h : MW G d mX4_isLineAvailable [vR (3, 0, 0), vI v2] μ (xrI fun x2 μ1 => xif (x2 = 0) (Q (some (vI (-3 : Int32))) μ1) (MW G d mX5_get [vR (0, 0, 3), vI v2] μ1 (xrI fun x4 μ3 => MW G d mX2_takenOut [vR (2, 0, 0), vI v1, vI x4] μ3 (xrI fun x6 μ5 => xif (x6 = (-6 : Int32)) (Q (some (vI (-3 : Int32))) μ5) (MW G d mX8_write [vR (8, 0, 0), vI v1, vI x6, vI v2, vI (-6 : Int32), vI (-6 : Int32)] μ5 (xrI fun x8 μ7 => Q (some (vI x8)) μ7))))))) : WS G eX8_fromOne (d + 1) Z Q 35 [vR (8, 0, 0), vI v1, vI v2, vN] [] μ := WS.go okX8_fromOne 57 h
set_option maxRecDepth 100000 in
set_option maxHeartbeats 4000000 in
theorem wX8_toFormula {G : xG} {d : Nat} {a0 : Int32} {a1 : Int32} {a2 : Int32} {μ : xM} {Q : xP} (h : ∀ Z : xZ, MW G d mX4_hasLine [vR (3, 0, 0), vI a1] μ (xrI fun x2 μ1 => xif (x2 = 0) (Q (some (vI (-1 : Int32))) μ1) (MW G d mX2_has [vR (2, 0, 0), vI a2] μ1 (xrI fun x4 μ3 => xif (x4 = 0) (Q (some (vI (-1 : Int32))) μ3) (xif (a0 = (6 : Int32)) (WS G eX8_toFormula (d + 1) Z Q 45 [vR (8, 0, 0), vI a0, vI a1, vI a2, vN, vN] [] μ3) (xif (a0 = (12 : Int32)) (WS G eX8_toFormula (d + 1) Z Q 45 [vR (8, 0, 0), vI a0, vI a1, vI a2, vN, vN] [] μ3) (Q (some (vI (-2 : Int32))) μ3))))))) : MW G (d + 1) mX8_toFormula [vR (8, 0, 0), vI a0, vI a1, vI a2] μ Q := MW.of (E := eX8_toFormula) okX8_toFormula (Nat.le_of_ble_eq_true rfl) fun Z => WS.go okX8_toFormula 71 (h Z)
set_option maxRecDepth 100000 in
set_option maxHeartbeats 4000000 in
theorem wX8_toFormula_45 {G : xG} {d : Nat} {Z : xZ} {v1 : Int32} {v2 : Int32} {v3 : Int32} {μ : xM} {Q : xP} (h : MW G d mX4_isLineAvailable [vR (3, 0, 0), vI v2] μ (xrI fun x2 μ1 => xif (x2 = 0) (Q (some (vI (-3 : Int32))) μ1) (MW G d mX5_get [vR (0, 0, 3), vI v2] μ1 (xrI fun x4 μ3 => xif (v1 = (6 : Int32)) (MW G d mX2_isPartOfDisjunction [vR (2, 0, 0), vI x4, vI v3] μ3 (xrI fun x6 μ5 => WS G eX8_toFormula (d + 1) Z Q 113 [vR (8, 0, 0), vI v1, vI v2, vI v3, vN, vN] [vI x6] μ5)) (MW G d mX2_isOfKind [vR (2, 0, 0), vI x4, vI (1 : Int32)] μ3 (xrI fun x8 μ7 => WS G eX8_toFormula (d + 1) Z Q 113 [vR (8, 0, 0), vI v1, vI v2, vI v3, vN, vN] [vI x8] μ7)))))) : WS G eX8_toFormula (d + 1) Z Q 45 [vR (8, 0, 0), vI v1, vI v2, vI v3, vN, vN] [] μ := WS.go okX8_toFormula 71 h
set_option maxRecDepth 100000 in
set_option maxHeartbeats 4000000 in
theorem wX8_toFormula_113 {G : xG} {d : Nat} {Z : xZ} {v1 : Int32} {v2 : Int32} {v3 : Int32} {s0 : Int32} {μ : xM} {Q : xP} (h : xif (s0 = 0) (Q (some (vI (-3 : Int32))) μ) (MW G d mX8_write [vR (8, 0, 0), vI v1, vI v3, vI v2, vI (-6 : Int32), vI (-6 : Int32)] μ (xrI fun x2 μ1 => Q (some (vI x2)) μ1))) : WS G eX8_toFormula (d + 1) Z Q 113 [vR (8, 0, 0), vI v1, vI v2, vI v3, vN, vN] [vI s0] μ := WS.go okX8_toFormula 71 h
set_option maxRecDepth 100000 in
set_option maxHeartbeats 4000000 in
theorem wX8_fromBox {G : xG} {d : Nat} {a0 : Int32} {a1 : Int32} {μ : xM} {Q : xP} (h : ∀ Z : xZ, MW G d mX4_hasBox [vR (3, 0, 0), vI a1] μ (xrI fun x2 μ1 => xif (x2 = 0) (Q (some (vI (-1 : Int32))) μ1) (xif (a0 = (8 : Int32)) (WS G eX8_fromBox (d + 1) Z Q 31 [vR (8, 0, 0), vI a0, vI a1, vN, vN] [] μ1) (xif (a0 = (10 : Int32)) (WS G eX8_fromBox (d + 1) Z Q 31 [vR (8, 0, 0), vI a0, vI a1, vN, vN] [] μ1) (Q (some (vI (-2 : Int32))) μ1))))) : MW G (d + 1) mX8_fromBox [vR (8, 0, 0), vI a0, vI a1] μ Q := MW.of (E := eX8_fromBox) okX8_fromBox (Nat.le_of_ble_eq_true rfl) fun Z => WS.go okX8_fromBox 71 (h Z)
set_option maxRecDepth 100000 in
set_option maxHeartbeats 4000000 in
theorem wX8_fromBox_31 {G : xG} {d : Nat} {Z : xZ} {v1 : Int32} {v2 : Int32} {μ : xM} {Q : xP} (h : MW G d mX4_isBoxAvailable [vR (3, 0, 0), vI v2] μ (xrI fun x2 μ1 => xif (x2 = 0) (Q (some (vI (-3 : Int32))) μ1) (MW G d mX4_assumptionOf [vR (3, 0, 0), vI v2] μ1 (xrI fun x4 μ3 => MW G d mX4_conclusionOf [vR (3, 0, 0), vI v2] μ3 (xrI fun x6 μ5 => xif (v1 = (8 : Int32)) (MW G d mX8_writeMade [vR (8, 0, 0), vI (8 : Int32), vI (5 : Int32), vI x4, vI x6, vI v2, vI (-6 : Int32)] μ5 (xrI fun x8 μ7 => Q (some (vI x8)) μ7)) (MW G d mX2_isOfKind [vR (2, 0, 0), vI x6, vI (1 : Int32)] μ5 (xrI fun x10 μ9 => xif (x10 = 0) (Q (some (vI (-3 : Int32))) μ9) (MW G d mX8_writeMade [vR (8, 0, 0), vI (10 : Int32), vI (2 : Int32), vI x4, vI (-6 : Int32), vI v2, vI (-6 : Int32)] μ9 (xrI fun x12 μ11 => Q (some (vI x12)) μ11))))))))) : WS G eX8_fromBox (d + 1) Z Q 31 [vR (8, 0, 0), vI v1, vI v2, vN, vN] [] μ := WS.go okX8_fromBox 71 h
set_option maxRecDepth 100000 in
set_option maxHeartbeats 4000000 in
theorem wX8_cases {G : xG} {d : Nat} {a0 : Int32} {a1 : Int32} {a2 : Int32} {μ : xM} {Q : xP} (h : ∀ Z : xZ, MW G d mX4_hasLine [vR (3, 0, 0), vI a0] μ (xrI fun x2 μ1 => xif (x2 = 0) (Q (some (vI (-1 : Int32))) μ1) (MW G d mX4_hasBox [vR (3, 0, 0), vI a1] μ1 (xrI fun x4 μ3 => xif (x4 = 0) (Q (some (vI (-1 : Int32))) μ3) (MW G d mX4_hasBox [vR (3, 0, 0), vI a2] μ3 (xrI fun x6 μ5 => xif (x6 = 0) (Q (some (vI (-1 : Int32))) μ5) (MW G d mX4_isLineAvailable [vR (3, 0, 0), vI a0] μ5 (xrI fun x8 μ7 => xif (x8 = 0) (Q (some (vI (-3 : Int32))) μ7) (MW G d mX4_isBoxAvailable [vR (3, 0, 0), vI a1] μ7 (xrI fun x10 μ9 => xif (x10 = 0) (Q (some (vI (-3 : Int32))) μ9) (MW G d mX4_isBoxAvailable [vR (3, 0, 0), vI a2] μ9 (xrI fun x12 μ11 => xif (x12 = 0) (Q (some (vI (-3 : Int32))) μ11) (MW G d mX5_get [vR (0, 0, 3), vI a0] μ11 (xrI fun x14 μ13 => MW G d mX4_conclusionOf [vR (3, 0, 0), vI a1] μ13 (xrI fun x16 μ15 => MW G d mX2_isOfKind [vR (2, 0, 0), vI x14, vI (4 : Int32)] μ15 (xrI fun x18 μ17 => xif (x18 = 0) (WS G eX8_cases (d + 1) Z Q 212 [vR (8, 0, 0), vI a0, vI a1, vI a2, vN, vI x16, vN] [] μ17) (MW G d mX5_get [vR (0, 0, 1), vI x14] μ17 (xrI fun x20 μ19 => MW G d mX4_assumptionOf [vR (3, 0, 0), vI a1] μ19 (xrI fun x22 μ21 => xif (x20 = x22) (MW G d mX5_get [vR (0, 0, 2), vI x14] μ21 (xrI fun x24 μ23 => MW G d mX4_assumptionOf [vR (3, 0, 0), vI a2] μ23 (xrI fun x26 μ25 => xif (x24 = x26) (MW G d mX4_conclusionOf [vR (3, 0, 0), vI a2] μ25 (xrI fun x28 μ27 => xif (x16 = x28) (WS G eX8_cases (d + 1) Z Q 213 [vR (8, 0, 0), vI a0, vI a1, vI a2, vN, vI x16, vN] [vI (1 : Int32)] μ27) (WS G eX8_cases (d + 1) Z Q 212 [vR (8, 0, 0), vI a0, vI a1, vI a2, vN, vI x16, vN] [] μ27))) (WS G eX8_cases (d + 1) Z Q 212 [vR (8, 0, 0), vI a0, vI a1, vI a2, vN, vI x16, vN] [] μ25)))) (WS G eX8_cases (d + 1) Z Q 212 [vR (8, 0, 0), vI a0, vI a1, vI a2, vN, vI x16, vN] [] μ21)))))))))))))))))))) : MW G (d + 1) mX8_cases [vR (8, 0, 0), vI a0, vI a1, vI a2] μ Q := MW.of (E := eX8_cases) okX8_cases (Nat.le_of_ble_eq_true rfl) fun Z => WS.go okX8_cases 112 (h Z)
set_option maxRecDepth 100000 in
set_option maxHeartbeats 4000000 in
theorem wX8_cases_212 {G : xG} {d : Nat} {Z : xZ} {v1 : Int32} {v2 : Int32} {v3 : Int32} {v5 : Int32} {μ : xM} {Q : xP} (h : WS G eX8_cases (d + 1) Z Q 213 [vR (8, 0, 0), vI v1, vI v2, vI v3, vN, vI v5, vN] [vI (0 : Int32)] μ) : WS G eX8_cases (d + 1) Z Q 212 [vR (8, 0, 0), vI v1, vI v2, vI v3, vN, vI v5, vN] [] μ := WS.go okX8_cases 112 h
set_option maxRecDepth 100000 in
set_option maxHeartbeats 4000000 in
theorem wX8_cases_213 {G : xG} {d : Nat} {Z : xZ} {v1 : Int32} {v2 : Int32} {v3 : Int32} {v5 : Int32} {s0 : Int32} {μ : xM} {Q : xP} (h : xif (s0 = 0) (Q (some (vI (-3 : Int32))) μ) (MW G d mX8_write [vR (8, 0, 0), vI (7 : Int32), vI v5, vI v1, vI v2, vI v3] μ (xrI fun x2 μ1 => Q (some (vI x2)) μ1))) : WS G eX8_cases (d + 1) Z Q 213 [vR (8, 0, 0), vI v1, vI v2, vI v3, vN, vI v5, vN] [vI s0] μ := WS.go okX8_cases 112 h
set_option maxRecDepth 100000 in
set_option maxHeartbeats 4000000 in
theorem wX8_write {G : xG} {d : Nat} {a0 : Int32} {a1 : Int32} {a2 : Int32} {a3 : Int32} {a4 : Int32} {μ : xM} {Q : xP} (h : MW G d mX4_isFull [vR (3, 0, 0)] μ (xrI fun x2 μ1 => xif (x2 = 0) (MW G d mX3_record [vR (5, 0, 0), vR (4, 0, 0)] μ1 (xrV fun μ3 => MW G d mX4_addLine [vR (3, 0, 0), vI a0, vI a1, vI a2, vI a3, vI a4] μ3 (xrI fun x5 μ4 => Q (some (vI x5)) μ4))) (Q (some (vI (-4 : Int32))) μ1))) : MW G (d + 1) mX8_write [vR (8, 0, 0), vI a0, vI a1, vI a2, vI a3, vI a4] μ Q := MW.of (E := eX8_write) okX8_write (Nat.le_of_ble_eq_true rfl) fun Z => WS.go okX8_write 27 h
set_option maxRecDepth 100000 in
set_option maxHeartbeats 4000000 in
theorem wX8_writeMade {G : xG} {d : Nat} {a0 : Int32} {a1 : Int32} {a2 : Int32} {a3 : Int32} {a4 : Int32} {a5 : Int32} {μ : xM} {Q : xP} (h : MW G d mX4_isFull [vR (3, 0, 0)] μ (xrI fun x2 μ1 => xif (x2 = 0) (MW G d mX2_hasRoomFor [vR (2, 0, 0), vI a1, vI a2, vI a3] μ1 (xrI fun x4 μ3 => xif (x4 = 0) (Q (some (vI (-4 : Int32))) μ3) (MW G d mX3_record [vR (5, 0, 0), vR (4, 0, 0)] μ3 (xrV fun μ5 => MW G d mX2_make [vR (2, 0, 0), vI a1, vI a2, vI a3] μ5 (xrI fun x7 μ6 => MW G d mX4_addLine [vR (3, 0, 0), vI a0, vI x7, vI a4, vI a5, vI (-6 : Int32)] μ6 (xrI fun x9 μ8 => Q (some (vI x9)) μ8)))))) (Q (some (vI (-4 : Int32))) μ1))) : MW G (d + 1) mX8_writeMade [vR (8, 0, 0), vI a0, vI a1, vI a2, vI a3, vI a4, vI a5] μ Q := MW.of (E := eX8_writeMade) okX8_writeMade (Nat.le_of_ble_eq_true rfl) fun Z => WS.go okX8_writeMade 43 h
set_option maxRecDepth 100000 in
set_option maxHeartbeats 4000000 in
theorem wX8_lines {G : xG} {d : Nat} {μ : xM} {Q : xP} (h : Q (some (vI ((μ (3, 0, 0) 0)))) μ) : MW G (d + 1) mX8_lines [vR (8, 0, 0)] μ Q := MW.of (E := eX8_lines) okX8_lines (Nat.le_of_ble_eq_true rfl) fun Z => WS.go okX8_lines 10 h
set_option maxRecDepth 100000 in
set_option maxHeartbeats 4000000 in
theorem wX8_line {G : xG} {d : Nat} {a0 : Int32} {a1 : Int32} {μ : xM} {Q : xP} (h : MW G d mX4_hasLine [vR (3, 0, 0), vI a0] μ (xrI fun x2 μ1 => xif (x2 = 0) (Q (some (vI (-1 : Int32))) μ1) ((a1 = 0 → MW G d mX5_get [vR (0, 0, 3), vI a0] μ1 (xrI fun x4 μ3 => Q (some (vI x4)) μ3)) ∧ (¬ a1 = 0 → (a1 = 1 → MW G d mX5_get [vR (0, 0, 4), vI a0] μ1 (xrI fun x6 μ5 => Q (some (vI x6)) μ5)) ∧ (¬ a1 = 1 → (a1 = 2 → MW G d mX5_get [vR (0, 0, 5), vI a0] μ1 (xrI fun x8 μ7 => Q (some (vI x8)) μ7)) ∧ (¬ a1 = 2 → (a1 = 3 → MW G d mX5_get [vR (0, 0, 5), vI a0] μ1 (xrI fun x10 μ9 => MW G d mX4_nesting [vR (3, 0, 0), vI x10] μ9 (xrI fun x12 μ11 => Q (some (vI x12)) μ11))) ∧ (¬ a1 = 3 → (a1 = 4 → MW G d mX4_isLineAvailable [vR (3, 0, 0), vI a0] μ1 (xrI fun x14 μ13 => xif (x14 = 0) (Q (some (vI (0 : Int32))) μ13) (Q (some (vI (1 : Int32))) μ13))) ∧ (¬ a1 = 4 → (a1 = 5 → MW G d mX4_countUsers [vR (3, 0, 0), vI a0] μ1 (xrI fun x16 μ15 => Q (some (vI x16)) μ15)) ∧ (¬ a1 = 5 → Q (some (vI (-2 : Int32))) μ1))))))))) : MW G (d + 1) mX8_line [vR (8, 0, 0), vI a0, vI a1] μ Q := MW.of (E := eX8_line) okX8_line (Nat.le_of_ble_eq_true rfl) fun Z => WS.go okX8_line 65 h
set_option maxRecDepth 100000 in
set_option maxHeartbeats 4000000 in
theorem wX8_reference {G : xG} {d : Nat} {a0 : Int32} {a1 : Int32} {μ : xM} {Q : xP} (h : MW G d mX4_hasLine [vR (3, 0, 0), vI a0] μ (xrI fun x2 μ1 => xif (x2 = 0) (Q (some (vI (-1 : Int32))) μ1) (MW G d mX4_referenceAt [vR (3, 0, 0), vI a0, vI a1] μ1 (xrI fun x4 μ3 => xif (x4 = (-6 : Int32)) (Q (some (vI (-1 : Int32))) μ3) (Q (some (vI x4)) μ3))))) : MW G (d + 1) mX8_reference [vR (8, 0, 0), vI a0, vI a1] μ Q := MW.of (E := eX8_reference) okX8_reference (Nat.le_of_ble_eq_true rfl) fun Z => WS.go okX8_reference 27 h
set_option maxRecDepth 100000 in
set_option maxHeartbeats 4000000 in
theorem wX8_boxes {G : xG} {d : Nat} {μ : xM} {Q : xP} (h : Q (some (vI ((μ (3, 0, 0) 1)))) μ) : MW G (d + 1) mX8_boxes [vR (8, 0, 0)] μ Q := MW.of (E := eX8_boxes) okX8_boxes (Nat.le_of_ble_eq_true rfl) fun Z => WS.go okX8_boxes 10 h
set_option maxRecDepth 100000 in
set_option maxHeartbeats 4000000 in
theorem wX8_box {G : xG} {d : Nat} {a0 : Int32} {a1 : Int32} {μ : xM} {Q : xP} (h : MW G d mX4_hasBox [vR (3, 0, 0), vI a0] μ (xrI fun x2 μ1 => xif (x2 = 0) (Q (some (vI (-1 : Int32))) μ1) ((a1 = 0 → MW G d mX5_get [vR (0, 0, 9), vI a0] μ1 (xrI fun x4 μ3 => Q (some (vI x4)) μ3)) ∧ (¬ a1 = 0 → (a1 = 1 → MW G d mX5_get [vR (0, 0, 10), vI a0] μ1 (xrI fun x6 μ5 => Q (some (vI x6)) μ5)) ∧ (¬ a1 = 1 → (a1 = 2 → MW G d mX5_get [vR (0, 0, 11), vI a0] μ1 (xrI fun x8 μ7 => Q (some (vI x8)) μ7)) ∧ (¬ a1 = 2 → (a1 = 3 → MW G d mX4_isBoxAvailable [vR (3, 0, 0), vI a0] μ1 (xrI fun x10 μ9 => xif (x10 = 0) (Q (some (vI (0 : Int32))) μ9) (Q (some (vI (1 : Int32))) μ9))) ∧ (¬ a1 = 3 → Q (some (vI (-2 : Int32))) μ1))))))) : MW G (d + 1) mX8_box [vR (8, 0, 0), vI a0, vI a1] μ Q := MW.of (E := eX8_box) okX8_box (Nat.le_of_ble_eq_true rfl) fun Z => WS.go okX8_box 48 h
set_option maxRecDepth 100000 in
set_option maxHeartbeats 4000000 in
theorem wX8_depth {G : xG} {d : Nat} {μ : xM} {Q : xP} (h : MW G d mX4_nesting [vR (3, 0, 0), vI (μ (3, 0, 0) 2)] μ (xrI fun x2 μ1 => Q (some (vI x2)) μ1)) : MW G (d + 1) mX8_depth [vR (8, 0, 0)] μ Q := MW.of (E := eX8_depth) okX8_depth (Nat.le_of_ble_eq_true rfl) fun Z => WS.go okX8_depth 14 h
set_option maxRecDepth 100000 in
set_option maxHeartbeats 4000000 in
theorem wX8_needs {G : xG} {d : Nat} {a0 : Int32} {μ : xM} {Q : xP} (h : MW G d mX4_hasLine [vR (3, 0, 0), vI a0] μ (xrI fun x2 μ1 => xif (x2 = 0) (Q (some (vL (-1 : Int64))) μ1) (MW G d mX4_allNeeds [vR (3, 0, 0), vI a0] μ1 (xrL fun y4 μ3 => Q (some (vL y4)) μ3)))) : MW G (d + 1) mX8_needs [vR (8, 0, 0), vI a0] μ Q := MW.of (E := eX8_needs) okX8_needs (Nat.le_of_ble_eq_true rfl) fun Z => WS.go okX8_needs 19 h
set_option maxRecDepth 100000 in
set_option maxHeartbeats 4000000 in
theorem wX8_bypass {G : xG} {d : Nat} {a0 : Int32} {μ : xM} {Q : xP} (h : MW G d mX4_hasLine [vR (3, 0, 0), vI a0] μ (xrI fun x2 μ1 => xif (x2 = 0) (Q (some (vI (-1 : Int32))) μ1) (MW G d mX4_bypassOf [vR (3, 0, 0), vI a0] μ1 (xrI fun x4 μ3 => Q (some (vI x4)) μ3)))) : MW G (d + 1) mX8_bypass [vR (8, 0, 0), vI a0] μ Q := MW.of (E := eX8_bypass) okX8_bypass (Nat.le_of_ble_eq_true rfl) fun Z => WS.go okX8_bypass 19 h
set_option maxRecDepth 100000 in
set_option maxHeartbeats 4000000 in
theorem wX8_detours {G : xG} {d : Nat} {μ : xM} {Q : xP} (h : MW G d mX4_countDetours [vR (3, 0, 0)] μ (xrI fun x2 μ1 => Q (some (vI x2)) μ1)) : MW G (d + 1) mX8_detours [vR (8, 0, 0)] μ Q := MW.of (E := eX8_detours) okX8_detours (Nat.le_of_ble_eq_true rfl) fun Z => WS.go okX8_detours 10 h
set_option maxRecDepth 100000 in
set_option maxHeartbeats 4000000 in
theorem wX8_failure {G : xG} {d : Nat} {a0 : Int32} {μ : xM} {Q : xP} (h : MW G d mX4_hasLine [vR (3, 0, 0), vI a0] μ (xrI fun x2 μ1 => xif (x2 = 0) (Q (some (vI (-1 : Int32))) μ1) (MW G d mX5_get [vR (0, 0, 5), vI a0] μ1 (xrI fun x4 μ3 => MW G d mX5_get [vR (0, 0, 3), vI a0] μ3 (xrI fun x6 μ5 => MW G d mX8_lowestFailure [vR (8, 0, 0), vI x4, vI x6] μ5 (xrI fun x8 μ7 => Q (some (vI x8)) μ7)))))) : MW G (d + 1) mX8_failure [vR (8, 0, 0), vI a0] μ Q := MW.of (E := eX8_failure) okX8_failure (Nat.le_of_ble_eq_true rfl) fun Z => WS.go okX8_failure 28 h
set_option maxRecDepth 100000 in
set_option maxHeartbeats 4000000 in
theorem wX8_counterexample {G : xG} {d : Nat} {a0 : Int32} {μ : xM} {Q : xP} (h : MW G d mX2_has [vR (2, 0, 0), vI a0] μ (xrI fun x2 μ1 => xif (x2 = 0) (Q (some (vI (-1 : Int32))) μ1) (MW G d mX8_lowestFailure [vR (8, 0, 0), vI (μ1 (3, 0, 0) 2), vI a0] μ1 (xrI fun x4 μ3 => Q (some (vI x4)) μ3)))) : MW G (d + 1) mX8_counterexample [vR (8, 0, 0), vI a0] μ Q := MW.of (E := eX8_counterexample) okX8_counterexample (Nat.le_of_ble_eq_true rfl) fun Z => WS.go okX8_counterexample 21 h
set_option maxRecDepth 100000 in
set_option maxHeartbeats 4000000 in
theorem wX8_lowestFailure {G : xG} {d : Nat} {a0 : Int32} {a1 : Int32} {μ : xM} {Q : xP} (h : ∀ Z : xZ, WS G eX8_lowestFailure (d + 1) Z Q 2 [vR (8, 0, 0), vI a0, vI a1, vI (0 : Int32), vN] [] μ) : MW G (d + 1) mX8_lowestFailure [vR (8, 0, 0), vI a0, vI a1] μ Q := MW.of (E := eX8_lowestFailure) okX8_lowestFailure (Nat.le_of_ble_eq_true rfl) fun Z => WS.go okX8_lowestFailure 45 (h Z)
set_option maxRecDepth 100000 in
set_option maxHeartbeats 4000000 in
theorem wX8_lowestFailure_2 {G : xG} {d : Nat} {Z : xZ} {v1 : Int32} {v2 : Int32} {v3 : Int32} {μ : xM} {Q : xP} (h : xif ((8 : Int32) ≤ v3) (Q (some (vI (-6 : Int32))) μ) (MW G d mX2_evaluate [vR (2, 0, 0), vI v3, vR (0, 0, 13)] μ (xrV fun μ1 => MW G d mX4_allowedValuations [vR (3, 0, 0), vI v1, vR (0, 0, 13)] μ1 (xrI fun x3 μ2 => MW G d mX5_get [vR (0, 0, 13), vI v2] μ2 (xrI fun x5 μ4 => xif ((x3 &&& (x5 ^^^ (-1 : Int32))) = 0) (WS G eX8_lowestFailure (d + 1) Z Q 2 [vR (8, 0, 0), vI v1, vI v2, vI (v3 + (1 : Int32)), vN] [] μ4) (MW G d mX8_lowestBit [vI (x3 &&& (x5 ^^^ (-1 : Int32)))] μ4 (xrI fun x7 μ6 => Q (some (vI (((v3 * (32 : Int32)) + x7)))) μ6))))))) : WS G eX8_lowestFailure (d + 1) Z Q 2 [vR (8, 0, 0), vI v1, vI v2, vI v3, vN] [] μ := WS.go okX8_lowestFailure 45 h
set_option maxRecDepth 100000 in
set_option maxHeartbeats 4000000 in
theorem wX8_lowestBit {G : xG} {d : Nat} {a0 : Int32} {μ : xM} {Q : xP} (h : MW G d mJ6_bitCount_0f7a4 [vI ((a0 &&& (-a0)) - (1 : Int32))] μ (xrI fun x2 μ1 => Q (some (vI x2)) μ1)) : MW G (d + 1) mX8_lowestBit [vI a0] μ Q := MW.of (E := eX8_lowestBit) okX8_lowestBit (Nat.le_of_ble_eq_true rfl) fun Z => WS.go okX8_lowestBit 13 h
set_option maxRecDepth 100000 in
set_option maxHeartbeats 4000000 in
theorem wX8_shorten {G : xG} {d : Nat} {μ : xM} {Q : xP} (h : MW G d mX3_record [vR (5, 0, 0), vR (4, 0, 0)] μ (xrV fun μ1 => MW G d mX4_bypassDetours [vR (3, 0, 0)] μ1 (xrI fun x3 μ2 => Q (some (vI x3)) μ2))) : MW G (d + 1) mX8_shorten [vR (8, 0, 0)] μ Q := MW.of (E := eX8_shorten) okX8_shorten (Nat.le_of_ble_eq_true rfl) fun Z => WS.go okX8_shorten 15 h
set_option maxRecDepth 100000 in
set_option maxHeartbeats 4000000 in
theorem wX8_trim {G : xG} {d : Nat} {a0 : Int32} {μ : xM} {Q : xP} (h : MW G d mX4_hasLine [vR (3, 0, 0), vI a0] μ (xrI fun x2 μ1 => xif (x2 = 0) (Q (some (vI (-1 : Int32))) μ1) (xif ((μ1 (3, 0, 0) 2) = (-6 : Int32)) (MW G d mX5_get [vR (0, 0, 5), vI a0] μ1 (xrI fun x4 μ3 => xif (x4 = (-6 : Int32)) (MW G d mX3_record [vR (5, 0, 0), vR (4, 0, 0)] μ3 (xrV fun μ5 => MW G d mX4_allNeeds [vR (3, 0, 0), vI a0] μ5 (xrL fun y7 μ6 => MW G d mX4_keepOnly [vR (3, 0, 0), vL y7] μ6 (xrI fun x9 μ8 => Q (some (vI x9)) μ8)))) (Q (some (vI (-3 : Int32))) μ3))) (Q (some (vI (-3 : Int32))) μ1)))) : MW G (d + 1) mX8_trim [vR (8, 0, 0), vI a0] μ Q := MW.of (E := eX8_trim) okX8_trim (Nat.le_of_ble_eq_true rfl) fun Z => WS.go okX8_trim 44 h
set_option maxRecDepth 100000 in
set_option maxHeartbeats 4000000 in
theorem wJ6_bitCount_0f7a4 {G : xG} {d : Nat} {a0 : Int32} {μ : xM} {Q : xP} (h : Q (some (vI (((((((((a0 - ((xiu a0 (1 : Int32)) &&& (1431655765 : Int32))) &&& (858993459 : Int32)) + ((xiu ((a0 - ((xiu a0 (1 : Int32)) &&& (1431655765 : Int32)))) (2 : Int32)) &&& (858993459 : Int32))) + (xiu ((((a0 - ((xiu a0 (1 : Int32)) &&& (1431655765 : Int32))) &&& (858993459 : Int32)) + ((xiu ((a0 - ((xiu a0 (1 : Int32)) &&& (1431655765 : Int32)))) (2 : Int32)) &&& (858993459 : Int32)))) (4 : Int32))) &&& (252645135 : Int32)) + (xiu ((((((a0 - ((xiu a0 (1 : Int32)) &&& (1431655765 : Int32))) &&& (858993459 : Int32)) + ((xiu ((a0 - ((xiu a0 (1 : Int32)) &&& (1431655765 : Int32)))) (2 : Int32)) &&& (858993459 : Int32))) + (xiu ((((a0 - ((xiu a0 (1 : Int32)) &&& (1431655765 : Int32))) &&& (858993459 : Int32)) + ((xiu ((a0 - ((xiu a0 (1 : Int32)) &&& (1431655765 : Int32)))) (2 : Int32)) &&& (858993459 : Int32)))) (4 : Int32))) &&& (252645135 : Int32))) (8 : Int32))) + (xiu (((((((a0 - ((xiu a0 (1 : Int32)) &&& (1431655765 : Int32))) &&& (858993459 : Int32)) + ((xiu ((a0 - ((xiu a0 (1 : Int32)) &&& (1431655765 : Int32)))) (2 : Int32)) &&& (858993459 : Int32))) + (xiu ((((a0 - ((xiu a0 (1 : Int32)) &&& (1431655765 : Int32))) &&& (858993459 : Int32)) + ((xiu ((a0 - ((xiu a0 (1 : Int32)) &&& (1431655765 : Int32)))) (2 : Int32)) &&& (858993459 : Int32)))) (4 : Int32))) &&& (252645135 : Int32)) + (xiu ((((((a0 - ((xiu a0 (1 : Int32)) &&& (1431655765 : Int32))) &&& (858993459 : Int32)) + ((xiu ((a0 - ((xiu a0 (1 : Int32)) &&& (1431655765 : Int32)))) (2 : Int32)) &&& (858993459 : Int32))) + (xiu ((((a0 - ((xiu a0 (1 : Int32)) &&& (1431655765 : Int32))) &&& (858993459 : Int32)) + ((xiu ((a0 - ((xiu a0 (1 : Int32)) &&& (1431655765 : Int32)))) (2 : Int32)) &&& (858993459 : Int32)))) (4 : Int32))) &&& (252645135 : Int32))) (8 : Int32)))) (16 : Int32))) &&& (63 : Int32))))) μ) : MW G (d + 1) mJ6_bitCount_0f7a4 [vI a0] μ Q := MW.of (E := eJ6_bitCount_0f7a4) okJ6_bitCount_0f7a4 (Nat.le_of_ble_eq_true rfl) fun Z => WS.go okJ6_bitCount_0f7a4 47 h
set_option maxRecDepth 100000 in
set_option maxHeartbeats 4000000 in
theorem wJ13_bitCount_95d88 {G : xG} {d : Nat} {a0 : Int64} {μ : xM} {Q : xP} (h : Q (some (vI (((Int64.toInt32 (((((((((a0 - ((xlu a0 (1 : Int32)) &&& (6148914691236517205 : Int64))) &&& (3689348814741910323 : Int64)) + ((xlu ((a0 - ((xlu a0 (1 : Int32)) &&& (6148914691236517205 : Int64)))) (2 : Int32)) &&& (3689348814741910323 : Int64))) + (xlu ((((a0 - ((xlu a0 (1 : Int32)) &&& (6148914691236517205 : Int64))) &&& (3689348814741910323 : Int64)) + ((xlu ((a0 - ((xlu a0 (1 : Int32)) &&& (6148914691236517205 : Int64)))) (2 : Int32)) &&& (3689348814741910323 : Int64)))) (4 : Int32))) &&& (1085102592571150095 : Int64)) + (xlu ((((((a0 - ((xlu a0 (1 : Int32)) &&& (6148914691236517205 : Int64))) &&& (3689348814741910323 : Int64)) + ((xlu ((a0 - ((xlu a0 (1 : Int32)) &&& (6148914691236517205 : Int64)))) (2 : Int32)) &&& (3689348814741910323 : Int64))) + (xlu ((((a0 - ((xlu a0 (1 : Int32)) &&& (6148914691236517205 : Int64))) &&& (3689348814741910323 : Int64)) + ((xlu ((a0 - ((xlu a0 (1 : Int32)) &&& (6148914691236517205 : Int64)))) (2 : Int32)) &&& (3689348814741910323 : Int64)))) (4 : Int32))) &&& (1085102592571150095 : Int64))) (8 : Int32))) + (xlu (((((((a0 - ((xlu a0 (1 : Int32)) &&& (6148914691236517205 : Int64))) &&& (3689348814741910323 : Int64)) + ((xlu ((a0 - ((xlu a0 (1 : Int32)) &&& (6148914691236517205 : Int64)))) (2 : Int32)) &&& (3689348814741910323 : Int64))) + (xlu ((((a0 - ((xlu a0 (1 : Int32)) &&& (6148914691236517205 : Int64))) &&& (3689348814741910323 : Int64)) + ((xlu ((a0 - ((xlu a0 (1 : Int32)) &&& (6148914691236517205 : Int64)))) (2 : Int32)) &&& (3689348814741910323 : Int64)))) (4 : Int32))) &&& (1085102592571150095 : Int64)) + (xlu ((((((a0 - ((xlu a0 (1 : Int32)) &&& (6148914691236517205 : Int64))) &&& (3689348814741910323 : Int64)) + ((xlu ((a0 - ((xlu a0 (1 : Int32)) &&& (6148914691236517205 : Int64)))) (2 : Int32)) &&& (3689348814741910323 : Int64))) + (xlu ((((a0 - ((xlu a0 (1 : Int32)) &&& (6148914691236517205 : Int64))) &&& (3689348814741910323 : Int64)) + ((xlu ((a0 - ((xlu a0 (1 : Int32)) &&& (6148914691236517205 : Int64)))) (2 : Int32)) &&& (3689348814741910323 : Int64)))) (4 : Int32))) &&& (1085102592571150095 : Int64))) (8 : Int32)))) (16 : Int32))) + (xlu ((((((((a0 - ((xlu a0 (1 : Int32)) &&& (6148914691236517205 : Int64))) &&& (3689348814741910323 : Int64)) + ((xlu ((a0 - ((xlu a0 (1 : Int32)) &&& (6148914691236517205 : Int64)))) (2 : Int32)) &&& (3689348814741910323 : Int64))) + (xlu ((((a0 - ((xlu a0 (1 : Int32)) &&& (6148914691236517205 : Int64))) &&& (3689348814741910323 : Int64)) + ((xlu ((a0 - ((xlu a0 (1 : Int32)) &&& (6148914691236517205 : Int64)))) (2 : Int32)) &&& (3689348814741910323 : Int64)))) (4 : Int32))) &&& (1085102592571150095 : Int64)) + (xlu ((((((a0 - ((xlu a0 (1 : Int32)) &&& (6148914691236517205 : Int64))) &&& (3689348814741910323 : Int64)) + ((xlu ((a0 - ((xlu a0 (1 : Int32)) &&& (6148914691236517205 : Int64)))) (2 : Int32)) &&& (3689348814741910323 : Int64))) + (xlu ((((a0 - ((xlu a0 (1 : Int32)) &&& (6148914691236517205 : Int64))) &&& (3689348814741910323 : Int64)) + ((xlu ((a0 - ((xlu a0 (1 : Int32)) &&& (6148914691236517205 : Int64)))) (2 : Int32)) &&& (3689348814741910323 : Int64)))) (4 : Int32))) &&& (1085102592571150095 : Int64))) (8 : Int32))) + (xlu (((((((a0 - ((xlu a0 (1 : Int32)) &&& (6148914691236517205 : Int64))) &&& (3689348814741910323 : Int64)) + ((xlu ((a0 - ((xlu a0 (1 : Int32)) &&& (6148914691236517205 : Int64)))) (2 : Int32)) &&& (3689348814741910323 : Int64))) + (xlu ((((a0 - ((xlu a0 (1 : Int32)) &&& (6148914691236517205 : Int64))) &&& (3689348814741910323 : Int64)) + ((xlu ((a0 - ((xlu a0 (1 : Int32)) &&& (6148914691236517205 : Int64)))) (2 : Int32)) &&& (3689348814741910323 : Int64)))) (4 : Int32))) &&& (1085102592571150095 : Int64)) + (xlu ((((((a0 - ((xlu a0 (1 : Int32)) &&& (6148914691236517205 : Int64))) &&& (3689348814741910323 : Int64)) + ((xlu ((a0 - ((xlu a0 (1 : Int32)) &&& (6148914691236517205 : Int64)))) (2 : Int32)) &&& (3689348814741910323 : Int64))) + (xlu ((((a0 - ((xlu a0 (1 : Int32)) &&& (6148914691236517205 : Int64))) &&& (3689348814741910323 : Int64)) + ((xlu ((a0 - ((xlu a0 (1 : Int32)) &&& (6148914691236517205 : Int64)))) (2 : Int32)) &&& (3689348814741910323 : Int64)))) (4 : Int32))) &&& (1085102592571150095 : Int64))) (8 : Int32)))) (16 : Int32)))) (32 : Int32))))) &&& (127 : Int32))))) μ) : MW G (d + 1) mJ13_bitCount_95d88 [vL a0] μ Q := MW.of (E := eJ13_bitCount_95d88) okJ13_bitCount_95d88 (Nat.le_of_ble_eq_true rfl) fun Z => WS.go okJ13_bitCount_95d88 54 h
end
section
/-! THE METHODS AS CONDITIONS, by program: each held against the small machine -/
set_option maxRecDepth 100000 in
set_option maxHeartbeats 4000000 in
theorem wL_low {G : xG} {d : Nat} {a0 : Int32} {a1 : Int32} {μ : xM} {Q : xP} (h : ¬ a1 = (0 : Int32) ∧ Q (some (vI (((a0 &&& (2147483647 : Int32)) - (a0 &&& (2147483647 : Int32)) / a1 * a1)))) μ) : MW G (d + 1) mL_low [vI a0, vI a1] μ Q := MW.of (E := eL_low) okL_low (Nat.le_of_ble_eq_true rfl) fun Z => WS.go okL_low 11 h
set_option maxRecDepth 100000 in
set_option maxHeartbeats 4000000 in
theorem wL_find {G : xG} {d : Nat} {a4 : Int32} {a5 : Int32} {a6 : Int32} {μ : xM} {Q : xP} (h : ∀ Z : xZ, vp_in (0 : Int32) 3 ∧ WS G eL_find (d + 1) Z Q 10 [vR (1, 0, 20), vR (1, 0, 21), vR (1, 0, 22), vN, vI a4, vI a5, vI a6, vI (-1 : Int32), vI ((μ (1, 0, 32) (0 : Int32).toNatClampNeg) - (1 : Int32))] [] μ) : MW G (d + 1) mL_find [vR (1, 0, 20), vR (1, 0, 21), vR (1, 0, 22), vR (1, 0, 32), vI a4, vI a5, vI a6] μ Q := MW.of (E := eL_find) okL_find (Nat.le_of_ble_eq_true rfl) fun Z => WS.go okL_find 38 (h Z)
set_option maxRecDepth 100000 in
set_option maxHeartbeats 4000000 in
theorem wL_find_10 {G : xG} {d : Nat} {Z : xZ} {v4 : Int32} {v5 : Int32} {v6 : Int32} {v7 : Int32} {v8 : Int32} {μ : xM} {Q : xP} (h : xif (v8 < 0) (Q (some (vI v7)) μ) (vp_in v8 60 ∧ xif ((μ (1, 0, 20) v8.toNatClampNeg) = v4) (vp_in v8 60 ∧ xif ((μ (1, 0, 21) v8.toNatClampNeg) = v5) (vp_in v8 60 ∧ xif ((μ (1, 0, 22) v8.toNatClampNeg) = v6) (WS G eL_find (d + 1) Z Q 10 [vR (1, 0, 20), vR (1, 0, 21), vR (1, 0, 22), vN, vI v4, vI v5, vI v6, vI v8, vI (v8 + (-1 : Int32))] [] μ) (WS G eL_find (d + 1) Z Q 10 [vR (1, 0, 20), vR (1, 0, 21), vR (1, 0, 22), vN, vI v4, vI v5, vI v6, vI v7, vI (v8 + (-1 : Int32))] [] μ)) (WS G eL_find (d + 1) Z Q 10 [vR (1, 0, 20), vR (1, 0, 21), vR (1, 0, 22), vN, vI v4, vI v5, vI v6, vI v7, vI (v8 + (-1 : Int32))] [] μ)) (WS G eL_find (d + 1) Z Q 10 [vR (1, 0, 20), vR (1, 0, 21), vR (1, 0, 22), vN, vI v4, vI v5, vI v6, vI v7, vI (v8 + (-1 : Int32))] [] μ))) : WS G eL_find (d + 1) Z Q 10 [vR (1, 0, 20), vR (1, 0, 21), vR (1, 0, 22), vN, vI v4, vI v5, vI v6, vI v7, vI v8] [] μ := WS.go okL_find 38 h
set_option maxRecDepth 100000 in
set_option maxHeartbeats 4000000 in
theorem wL_make {G : xG} {d : Nat} {a4 : Int32} {a5 : Int32} {a6 : Int32} {μ : xM} {Q : xP} (h : MW G d mL_find [vR (1, 0, 20), vR (1, 0, 21), vR (1, 0, 22), vR (1, 0, 32), vI a4, vI a5, vI a6] μ (xrI fun x2 μ1 => xif (0 ≤ x2) (Q (some (vI x2)) μ1) (vp_in (0 : Int32) 3 ∧ xif ((μ1 (1, 0, 32) (0 : Int32).toNatClampNeg) = (60 : Int32)) (Q (some (vI x2)) μ1) (vp_in (0 : Int32) 3 ∧ vp_in ((μ1 (1, 0, 32) (0 : Int32).toNatClampNeg)) 60 ∧ vp_in (0 : Int32) 3 ∧ vp_in (((xst μ1 (1, 0, 20) ((μ1 (1, 0, 32) (0 : Int32).toNatClampNeg)).toNatClampNeg a4) (1, 0, 32) (0 : Int32).toNatClampNeg)) 60 ∧ vp_in (0 : Int32) 3 ∧ vp_in (((xst (xst μ1 (1, 0, 20) ((μ1 (1, 0, 32) (0 : Int32).toNatClampNeg)).toNatClampNeg a4) (1, 0, 21) (((xst μ1 (1, 0, 20) ((μ1 (1, 0, 32) (0 : Int32).toNatClampNeg)).toNatClampNeg a4) (1, 0, 32) (0 : Int32).toNatClampNeg)).toNatClampNeg a5) (1, 0, 32) (0 : Int32).toNatClampNeg)) 60 ∧ vp_in (0 : Int32) 3 ∧ vp_in (0 : Int32) 3 ∧ vp_in (0 : Int32) 3 ∧ Q (some (vI ((((xst (xst (xst (xst μ1 (1, 0, 20) ((μ1 (1, 0, 32) (0 : Int32).toNatClampNeg)).toNatClampNeg a4) (1, 0, 21) (((xst μ1 (1, 0, 20) ((μ1 (1, 0, 32) (0 : Int32).toNatClampNeg)).toNatClampNeg a4) (1, 0, 32) (0 : Int32).toNatClampNeg)).toNatClampNeg a5) (1, 0, 22) (((xst (xst μ1 (1, 0, 20) ((μ1 (1, 0, 32) (0 : Int32).toNatClampNeg)).toNatClampNeg a4) (1, 0, 21) (((xst μ1 (1, 0, 20) ((μ1 (1, 0, 32) (0 : Int32).toNatClampNeg)).toNatClampNeg a4) (1, 0, 32) (0 : Int32).toNatClampNeg)).toNatClampNeg a5) (1, 0, 32) (0 : Int32).toNatClampNeg)).toNatClampNeg a6) (1, 0, 32) (0 : Int32).toNatClampNeg ((((xst (xst (xst μ1 (1, 0, 20) ((μ1 (1, 0, 32) (0 : Int32).toNatClampNeg)).toNatClampNeg a4) (1, 0, 21) (((xst μ1 (1, 0, 20) ((μ1 (1, 0, 32) (0 : Int32).toNatClampNeg)).toNatClampNeg a4) (1, 0, 32) (0 : Int32).toNatClampNeg)).toNatClampNeg a5) (1, 0, 22) (((xst (xst μ1 (1, 0, 20) ((μ1 (1, 0, 32) (0 : Int32).toNatClampNeg)).toNatClampNeg a4) (1, 0, 21) (((xst μ1 (1, 0, 20) ((μ1 (1, 0, 32) (0 : Int32).toNatClampNeg)).toNatClampNeg a4) (1, 0, 32) (0 : Int32).toNatClampNeg)).toNatClampNeg a5) (1, 0, 32) (0 : Int32).toNatClampNeg)).toNatClampNeg a6) (1, 0, 32) (0 : Int32).toNatClampNeg) + (1 : Int32)))) (1, 0, 32) (0 : Int32).toNatClampNeg) - (1 : Int32))))) (xst (xst (xst (xst μ1 (1, 0, 20) ((μ1 (1, 0, 32) (0 : Int32).toNatClampNeg)).toNatClampNeg a4) (1, 0, 21) (((xst μ1 (1, 0, 20) ((μ1 (1, 0, 32) (0 : Int32).toNatClampNeg)).toNatClampNeg a4) (1, 0, 32) (0 : Int32).toNatClampNeg)).toNatClampNeg a5) (1, 0, 22) (((xst (xst μ1 (1, 0, 20) ((μ1 (1, 0, 32) (0 : Int32).toNatClampNeg)).toNatClampNeg a4) (1, 0, 21) (((xst μ1 (1, 0, 20) ((μ1 (1, 0, 32) (0 : Int32).toNatClampNeg)).toNatClampNeg a4) (1, 0, 32) (0 : Int32).toNatClampNeg)).toNatClampNeg a5) (1, 0, 32) (0 : Int32).toNatClampNeg)).toNatClampNeg a6) (1, 0, 32) (0 : Int32).toNatClampNeg ((((xst (xst (xst μ1 (1, 0, 20) ((μ1 (1, 0, 32) (0 : Int32).toNatClampNeg)).toNatClampNeg a4) (1, 0, 21) (((xst μ1 (1, 0, 20) ((μ1 (1, 0, 32) (0 : Int32).toNatClampNeg)).toNatClampNeg a4) (1, 0, 32) (0 : Int32).toNatClampNeg)).toNatClampNeg a5) (1, 0, 22) (((xst (xst μ1 (1, 0, 20) ((μ1 (1, 0, 32) (0 : Int32).toNatClampNeg)).toNatClampNeg a4) (1, 0, 21) (((xst μ1 (1, 0, 20) ((μ1 (1, 0, 32) (0 : Int32).toNatClampNeg)).toNatClampNeg a4) (1, 0, 32) (0 : Int32).toNatClampNeg)).toNatClampNeg a5) (1, 0, 32) (0 : Int32).toNatClampNeg)).toNatClampNeg a6) (1, 0, 32) (0 : Int32).toNatClampNeg) + (1 : Int32)))))))) : MW G (d + 1) mL_make [vR (1, 0, 20), vR (1, 0, 21), vR (1, 0, 22), vR (1, 0, 32), vI a4, vI a5, vI a6] μ Q := MW.of (E := eL_make) okL_make (Nat.le_of_ble_eq_true rfl) fun Z => WS.go okL_make 54 h
set_option maxRecDepth 100000 in
set_option maxHeartbeats 4000000 in
theorem wL_truth {G : xG} {d : Nat} {a4 : Int32} {μ : xM} {Q : xP} (h : ∀ Z : xZ, WS G eL_truth (d + 1) Z Q 6 [vR (1, 0, 20), vR (1, 0, 21), vR (1, 0, 22), vR (1, 0, 32), vI a4, vL (0 : Int64), vN, vI (0 : Int32), vN, vN, vN, vN, vN, vN] [] μ) : MW G (d + 1) mL_truth [vR (1, 0, 20), vR (1, 0, 21), vR (1, 0, 22), vR (1, 0, 32), vI a4] μ Q := MW.of (E := eL_truth) okL_truth (Nat.le_of_ble_eq_true rfl) fun Z => WS.go okL_truth 107 (h Z)
set_option maxRecDepth 100000 in
set_option maxHeartbeats 4000000 in
theorem wL_truth_6 {G : xG} {d : Nat} {Z : xZ} {v4 : Int32} {v5 : Int64} {v7 : Int32} {μ : xM} {Q : xP} (h : vp_in (0 : Int32) 3 ∧ xif ((μ (1, 0, 32) (0 : Int32).toNatClampNeg) ≤ v7) (Q (some (vL v5)) μ) (vp_in v7 60 ∧ xif ((2 : Int32) ≤ (μ (1, 0, 20) v7.toNatClampNeg)) (vp_in v7 60 ∧ WS G eL_truth (d + 1) Z Q 35 [vR (1, 0, 20), vR (1, 0, 21), vR (1, 0, 22), vR (1, 0, 32), vI v4, vL v5, vN, vI v7, vN, vN, vN, vN, vN, vN] [vL ((xlr v5 ((μ (1, 0, 21) v7.toNatClampNeg))) &&& (1 : Int64))] μ) (WS G eL_truth (d + 1) Z Q 35 [vR (1, 0, 20), vR (1, 0, 21), vR (1, 0, 22), vR (1, 0, 32), vI v4, vL v5, vN, vI v7, vN, vN, vN, vN, vN, vN] [vL (0 : Int64)] μ))) : WS G eL_truth (d + 1) Z Q 6 [vR (1, 0, 20), vR (1, 0, 21), vR (1, 0, 22), vR (1, 0, 32), vI v4, vL v5, vN, vI v7, vN, vN, vN, vN, vN, vN] [] μ := WS.go okL_truth 107 h
set_option maxRecDepth 100000 in
set_option maxHeartbeats 4000000 in
theorem wL_truth_35 {G : xG} {d : Nat} {Z : xZ} {v4 : Int32} {v5 : Int64} {v7 : Int32} {s0 : Int64} {μ : xM} {Q : xP} (h : vp_in v7 60 ∧ xif ((3 : Int32) ≤ (μ (1, 0, 20) v7.toNatClampNeg)) (vp_in v7 60 ∧ WS G eL_truth (d + 1) Z Q 58 [vR (1, 0, 20), vR (1, 0, 21), vR (1, 0, 22), vR (1, 0, 32), vI v4, vL v5, vN, vI v7, vL s0, vN, vN, vN, vN, vN] [vL ((xlr v5 ((μ (1, 0, 22) v7.toNatClampNeg))) &&& (1 : Int64))] μ) (WS G eL_truth (d + 1) Z Q 58 [vR (1, 0, 20), vR (1, 0, 21), vR (1, 0, 22), vR (1, 0, 32), vI v4, vL v5, vN, vI v7, vL s0, vN, vN, vN, vN, vN] [vL (0 : Int64)] μ)) : WS G eL_truth (d + 1) Z Q 35 [vR (1, 0, 20), vR (1, 0, 21), vR (1, 0, 22), vR (1, 0, 32), vI v4, vL v5, vN, vI v7, vN, vN, vN, vN, vN, vN] [vL s0] μ := WS.go okL_truth 107 h
set_option maxRecDepth 100000 in
set_option maxHeartbeats 4000000 in
theorem wL_truth_58 {G : xG} {d : Nat} {Z : xZ} {v4 : Int32} {v5 : Int64} {v7 : Int32} {v8 : Int64} {s0 : Int64} {μ : xM} {Q : xP} (h : vp_in v7 60 ∧ xif ((μ (1, 0, 20) v7.toNatClampNeg) = 0) (vp_in v7 60 ∧ WS G eL_truth (d + 1) Z Q 146 [vR (1, 0, 20), vR (1, 0, 21), vR (1, 0, 22), vR (1, 0, 32), vI v4, vL v5, vN, vI v7, vN, vN, vN, vN, vN, vN] [vL (Int32.toInt64 (((v4 >>> ((μ (1, 0, 21) v7.toNatClampNeg) &&& 31)) &&& (1 : Int32))))] μ) (vp_in v7 60 ∧ xif ((μ (1, 0, 20) v7.toNatClampNeg) = (1 : Int32)) (WS G eL_truth (d + 1) Z Q 146 [vR (1, 0, 20), vR (1, 0, 21), vR (1, 0, 22), vR (1, 0, 32), vI v4, vL v5, vN, vI v7, vN, vN, vN, vN, vN, vN] [vL (0 : Int64)] μ) (vp_in v7 60 ∧ xif ((μ (1, 0, 20) v7.toNatClampNeg) = (2 : Int32)) (WS G eL_truth (d + 1) Z Q 146 [vR (1, 0, 20), vR (1, 0, 21), vR (1, 0, 22), vR (1, 0, 32), vI v4, vL v5, vN, vI v7, vN, vN, vN, vN, vN, vN] [vL ((1 : Int64) - v8)] μ) (vp_in v7 60 ∧ xif ((μ (1, 0, 20) v7.toNatClampNeg) = (3 : Int32)) (WS G eL_truth (d + 1) Z Q 146 [vR (1, 0, 20), vR (1, 0, 21), vR (1, 0, 22), vR (1, 0, 32), vI v4, vL v5, vN, vI v7, vN, vN, vN, vN, vN, vN] [vL (v8 &&& s0)] μ) (vp_in v7 60 ∧ xif ((μ (1, 0, 20) v7.toNatClampNeg) = (4 : Int32)) (WS G eL_truth (d + 1) Z Q 146 [vR (1, 0, 20), vR (1, 0, 21), vR (1, 0, 22), vR (1, 0, 32), vI v4, vL v5, vN, vI v7, vN, vN, vN, vN, vN, vN] [vL (v8 ||| s0)] μ) (WS G eL_truth (d + 1) Z Q 146 [vR (1, 0, 20), vR (1, 0, 21), vR (1, 0, 22), vR (1, 0, 32), vI v4, vL v5, vN, vI v7, vN, vN, vN, vN, vN, vN] [vL (((1 : Int64) - v8) ||| s0)] μ)))))) : WS G eL_truth (d + 1) Z Q 58 [vR (1, 0, 20), vR (1, 0, 21), vR (1, 0, 22), vR (1, 0, 32), vI v4, vL v5, vN, vI v7, vL v8, vN, vN, vN, vN, vN] [vL s0] μ := WS.go okL_truth 107 h
set_option maxRecDepth 100000 in
set_option maxHeartbeats 4000000 in
theorem wL_truth_146 {G : xG} {d : Nat} {Z : xZ} {v4 : Int32} {v5 : Int64} {v7 : Int32} {s0 : Int64} {μ : xM} {Q : xP} (h : WS G eL_truth (d + 1) Z Q 6 [vR (1, 0, 20), vR (1, 0, 21), vR (1, 0, 22), vR (1, 0, 32), vI v4, vL (v5 ||| (xls s0 v7)), vN, vI (v7 + (1 : Int32)), vN, vN, vN, vN, vN, vN] [] μ) : WS G eL_truth (d + 1) Z Q 146 [vR (1, 0, 20), vR (1, 0, 21), vR (1, 0, 22), vR (1, 0, 32), vI v4, vL v5, vN, vI v7, vN, vN, vN, vN, vN, vN] [vL s0] μ := WS.go okL_truth 107 h
set_option maxRecDepth 100000 in
set_option maxHeartbeats 4000000 in
theorem wL_shut {G : xG} {d : Nat} {a2 : Int32} {μ : xM} {Q : xP} (h : ∀ Z : xZ, WS G eL_shut (d + 1) Z Q 5 [vR (1, 0, 30), vR (1, 0, 31), vN, vI (0 : Int32), vI a2] [] μ) : MW G (d + 1) mL_shut [vR (1, 0, 30), vR (1, 0, 31), vI a2] μ Q := MW.of (E := eL_shut) okL_shut (Nat.le_of_ble_eq_true rfl) fun Z => WS.go okL_shut 28 (h Z)
set_option maxRecDepth 100000 in
set_option maxHeartbeats 4000000 in
theorem wL_shut_5 {G : xG} {d : Nat} {Z : xZ} {v3 : Int32} {v4 : Int32} {μ : xM} {Q : xP} (h : xif (v4 < 0) ((v3 = 0 ∨ v3 = 1) ∧ Q (some (vI v3)) μ) (xif (v3 = 0) (vp_in v4 48 ∧ xif ((μ (1, 0, 30) v4.toNatClampNeg) < 0) (vp_in v4 48 ∧ WS G eL_shut (d + 1) Z Q 5 [vR (1, 0, 30), vR (1, 0, 31), vN, vI (0 : Int32), vI (μ (1, 0, 31) v4.toNatClampNeg)] [] μ) (vp_in v4 48 ∧ WS G eL_shut (d + 1) Z Q 5 [vR (1, 0, 30), vR (1, 0, 31), vN, vI (1 : Int32), vI (μ (1, 0, 31) v4.toNatClampNeg)] [] μ)) (vp_in v4 48 ∧ WS G eL_shut (d + 1) Z Q 5 [vR (1, 0, 30), vR (1, 0, 31), vN, vI (1 : Int32), vI (μ (1, 0, 31) v4.toNatClampNeg)] [] μ))) : WS G eL_shut (d + 1) Z Q 5 [vR (1, 0, 30), vR (1, 0, 31), vN, vI v3, vI v4] [] μ := WS.go okL_shut 28 h
set_option maxRecDepth 100000 in
set_option maxHeartbeats 4000000 in
theorem wL_latest {G : xG} {d : Nat} {μ : xM} {Q : xP} (h : ∀ Z : xZ, vp_in (2 : Int32) 3 ∧ WS G eL_latest (d + 1) Z Q 8 [vR (1, 0, 30), vN, vI (-1 : Int32), vI ((μ (1, 0, 32) (2 : Int32).toNatClampNeg) - (1 : Int32))] [] μ) : MW G (d + 1) mL_latest [vR (1, 0, 30), vR (1, 0, 32)] μ Q := MW.of (E := eL_latest) okL_latest (Nat.le_of_ble_eq_true rfl) fun Z => WS.go okL_latest 29 (h Z)
set_option maxRecDepth 100000 in
set_option maxHeartbeats 4000000 in
theorem wL_latest_8 {G : xG} {d : Nat} {Z : xZ} {v2 : Int32} {v3 : Int32} {μ : xM} {Q : xP} (h : xif (v3 < 0) (Q (some (vI v2)) μ) (xif (0 ≤ v2) (Q (some (vI v2)) μ) (vp_in v3 48 ∧ xif (0 ≤ (μ (1, 0, 30) v3.toNatClampNeg)) (WS G eL_latest (d + 1) Z Q 8 [vR (1, 0, 30), vN, vI v2, vI (v3 + (-1 : Int32))] [] μ) (WS G eL_latest (d + 1) Z Q 8 [vR (1, 0, 30), vN, vI v3, vI (v3 + (-1 : Int32))] [] μ)))) : WS G eL_latest (d + 1) Z Q 8 [vR (1, 0, 30), vN, vI v2, vI v3] [] μ := WS.go okL_latest 29 h
set_option maxRecDepth 100000 in
set_option maxHeartbeats 4000000 in
theorem wL_write {G : xG} {d : Nat} {a8 : Int32} {a9 : Int32} {a10 : Int32} {μ : xM} {Q : xP} (h : vp_in (1 : Int32) 3 ∧ vp_in ((μ (1, 0, 32) (1 : Int32).toNatClampNeg)) 48 ∧ vp_in ((μ (1, 0, 32) (1 : Int32).toNatClampNeg)) 48 ∧ ¬ (100 : Int32) = (0 : Int32) ∧ vp_in ((μ (1, 0, 32) (1 : Int32).toNatClampNeg)) 48 ∧ ¬ (100 : Int32) = (0 : Int32) ∧ ¬ (100 : Int32) = (0 : Int32) ∧ vp_in ((μ (1, 0, 32) (1 : Int32).toNatClampNeg)) 48 ∧ ¬ (10000 : Int32) = (0 : Int32) ∧ vp_in ((μ (1, 0, 32) (1 : Int32).toNatClampNeg)) 48 ∧ MW G d mL_latest [vR (1, 0, 30), vR (1, 0, 32)] (xst (xst (xst (xst (xst μ (1, 0, 23) ((μ (1, 0, 32) (1 : Int32).toNatClampNeg)).toNatClampNeg a8) (1, 0, 24) ((μ (1, 0, 32) (1 : Int32).toNatClampNeg)).toNatClampNeg a9) (1, 0, 25) ((μ (1, 0, 32) (1 : Int32).toNatClampNeg)).toNatClampNeg (((a10 - a10 / (100 : Int32) * (100 : Int32)) - (1 : Int32)))) (1, 0, 26) ((μ (1, 0, 32) (1 : Int32).toNatClampNeg)).toNatClampNeg ((((a10 / (100 : Int32)) - (a10 / (100 : Int32)) / (100 : Int32) * (100 : Int32)) - (1 : Int32)))) (1, 0, 27) ((μ (1, 0, 32) (1 : Int32).toNatClampNeg)).toNatClampNeg (((a10 / (10000 : Int32)) - (1 : Int32)))) (xrI fun x2 μ1 => vp_in ((μ (1, 0, 32) (1 : Int32).toNatClampNeg)) 48 ∧ vp_in (1 : Int32) 3 ∧ vp_in (1 : Int32) 3 ∧ Q (some (vI ((μ (1, 0, 32) (1 : Int32).toNatClampNeg)))) (xst (xst μ1 (1, 0, 28) ((μ (1, 0, 32) (1 : Int32).toNatClampNeg)).toNatClampNeg x2) (1, 0, 32) (1 : Int32).toNatClampNeg ((((xst μ1 (1, 0, 28) ((μ (1, 0, 32) (1 : Int32).toNatClampNeg)).toNatClampNeg x2) (1, 0, 32) (1 : Int32).toNatClampNeg) + (1 : Int32)))))) : MW G (d + 1) mL_write [vR (1, 0, 23), vR (1, 0, 24), vR (1, 0, 25), vR (1, 0, 26), vR (1, 0, 27), vR (1, 0, 28), vR (1, 0, 30), vR (1, 0, 32), vI a8, vI a9, vI a10] μ Q := MW.of (E := eL_write) okL_write (Nat.le_of_ble_eq_true rfl) fun Z => WS.go okL_write 58 h
set_option maxRecDepth 100000 in
set_option maxHeartbeats 4000000 in
theorem wL_direct {G : xG} {d : Nat} {a6 : Int32} {μ : xM} {Q : xP} (h : vp_in a6 48 ∧ xif ((μ (1, 0, 24) a6.toNatClampNeg) = (7 : Int32)) (vp_in a6 48 ∧ vp_in a6 48 ∧ vp_in ((μ (1, 0, 26) a6.toNatClampNeg)) 48 ∧ vp_in a6 48 ∧ vp_in ((μ (1, 0, 26) a6.toNatClampNeg)) 48 ∧ vp_in a6 48 ∧ vp_in ((μ (1, 0, 27) a6.toNatClampNeg)) 48 ∧ vp_in a6 48 ∧ vp_in ((μ (1, 0, 27) a6.toNatClampNeg)) 48 ∧ Q (some (vL ((((((xls (1 : Int64) ((μ (1, 0, 25) a6.toNatClampNeg))) ||| (xls (1 : Int64) ((μ (1, 0, 29) ((μ (1, 0, 26) a6.toNatClampNeg)).toNatClampNeg)))) ||| (xls (1 : Int64) ((μ (1, 0, 30) ((μ (1, 0, 26) a6.toNatClampNeg)).toNatClampNeg)))) ||| (xls (1 : Int64) ((μ (1, 0, 29) ((μ (1, 0, 27) a6.toNatClampNeg)).toNatClampNeg)))) ||| (xls (1 : Int64) ((μ (1, 0, 30) ((μ (1, 0, 27) a6.toNatClampNeg)).toNatClampNeg))))))) μ) (vp_in a6 48 ∧ xif ((μ (1, 0, 24) a6.toNatClampNeg) = (8 : Int32)) (vp_in a6 48 ∧ vp_in ((μ (1, 0, 25) a6.toNatClampNeg)) 48 ∧ vp_in a6 48 ∧ vp_in ((μ (1, 0, 25) a6.toNatClampNeg)) 48 ∧ Q (some (vL (((xls (1 : Int64) ((μ (1, 0, 29) ((μ (1, 0, 25) a6.toNatClampNeg)).toNatClampNeg))) ||| (xls (1 : Int64) ((μ (1, 0, 30) ((μ (1, 0, 25) a6.toNatClampNeg)).toNatClampNeg))))))) μ) (vp_in a6 48 ∧ xif ((μ (1, 0, 24) a6.toNatClampNeg) = (10 : Int32)) (vp_in a6 48 ∧ vp_in ((μ (1, 0, 25) a6.toNatClampNeg)) 48 ∧ vp_in a6 48 ∧ vp_in ((μ (1, 0, 25) a6.toNatClampNeg)) 48 ∧ Q (some (vL (((xls (1 : Int64) ((μ (1, 0, 29) ((μ (1, 0, 25) a6.toNatClampNeg)).toNatClampNeg))) ||| (xls (1 : Int64) ((μ (1, 0, 30) ((μ (1, 0, 25) a6.toNatClampNeg)).toNatClampNeg))))))) μ) (vp_in a6 48 ∧ xif (0 ≤ (μ (1, 0, 25) a6.toNatClampNeg)) (vp_in a6 48 ∧ vp_in a6 48 ∧ xif (0 ≤ (μ (1, 0, 26) a6.toNatClampNeg)) (vp_in a6 48 ∧ Q (some (vL (((xls (1 : Int64) ((μ (1, 0, 25) a6.toNatClampNeg))) ||| (xls (1 : Int64) ((μ (1, 0, 26) a6.toNatClampNeg))))))) μ) (Q (some (vL (((xls (1 : Int64) ((μ (1, 0, 25) a6.toNatClampNeg))) ||| (0 : Int64))))) μ)) (vp_in a6 48 ∧ xif (0 ≤ (μ (1, 0, 26) a6.toNatClampNeg)) (vp_in a6 48 ∧ Q (some (vL (((0 : Int64) ||| (xls (1 : Int64) ((μ (1, 0, 26) a6.toNatClampNeg))))))) μ) (Q (some (vL (((0 : Int64) ||| (0 : Int64))))) μ)))))) : MW G (d + 1) mL_direct [vR (1, 0, 24), vR (1, 0, 25), vR (1, 0, 26), vR (1, 0, 27), vR (1, 0, 29), vR (1, 0, 30), vI a6] μ Q := MW.of (E := eL_direct) okL_direct (Nat.le_of_ble_eq_true rfl) fun Z => WS.go okL_direct 98 h
set_option maxRecDepth 100000 in
set_option maxHeartbeats 4000000 in
theorem wL_assumed {G : xG} {d : Nat} {a3 : Int32} {μ : xM} {Q : xP} (h : ∀ Z : xZ, vp_in a3 48 ∧ WS G eL_assumed (d + 1) Z Q 8 [vN, vR (1, 0, 29), vR (1, 0, 31), vN, vL (0 : Int64), vN, vI (μ (1, 0, 28) a3.toNatClampNeg)] [] μ) : MW G (d + 1) mL_assumed [vR (1, 0, 28), vR (1, 0, 29), vR (1, 0, 31), vI a3] μ Q := MW.of (E := eL_assumed) okL_assumed (Nat.le_of_ble_eq_true rfl) fun Z => WS.go okL_assumed 28 (h Z)
set_option maxRecDepth 100000 in
set_option maxHeartbeats 4000000 in
theorem wL_assumed_8 {G : xG} {d : Nat} {Z : xZ} {v4 : Int64} {v6 : Int32} {μ : xM} {Q : xP} (h : xif (v6 < 0) (Q (some (vL v4)) μ) (vp_in v6 48 ∧ vp_in v6 48 ∧ WS G eL_assumed (d + 1) Z Q 8 [vN, vR (1, 0, 29), vR (1, 0, 31), vN, vL (v4 ||| (xls (1 : Int64) ((μ (1, 0, 29) v6.toNatClampNeg)))), vN, vI (μ (1, 0, 31) v6.toNatClampNeg)] [] μ)) : WS G eL_assumed (d + 1) Z Q 8 [vN, vR (1, 0, 29), vR (1, 0, 31), vN, vL v4, vN, vI v6] [] μ := WS.go okL_assumed 28 h
set_option maxRecDepth 100000 in
set_option maxHeartbeats 4000000 in
theorem wL_needs {G : xG} {d : Nat} {a9 : Int32} {μ : xM} {Q : xP} (h : ∀ Z : xZ, WS G eL_needs (d + 1) Z Q 9 [vR (1, 0, 24), vR (1, 0, 25), vR (1, 0, 26), vR (1, 0, 27), vR (1, 0, 28), vR (1, 0, 29), vR (1, 0, 30), vR (1, 0, 31), vR (1, 0, 32), vN, vL (xls (1 : Int64) a9), vN, vI (1 : Int32), vN, vN, vN] [] μ) : MW G (d + 1) mL_needs [vR (1, 0, 24), vR (1, 0, 25), vR (1, 0, 26), vR (1, 0, 27), vR (1, 0, 28), vR (1, 0, 29), vR (1, 0, 30), vR (1, 0, 31), vR (1, 0, 32), vI a9] μ Q := MW.of (E := eL_needs) okL_needs (Nat.le_of_ble_eq_true rfl) fun Z => WS.go okL_needs 62 (h Z)
set_option maxRecDepth 100000 in
set_option maxHeartbeats 4000000 in
theorem wL_needs_9 {G : xG} {d : Nat} {Z : xZ} {v10 : Int64} {v12 : Int32} {μ : xM} {Q : xP} (h : xif (v12 = 0) (Q (some (vL v10)) μ) (WS G eL_needs (d + 1) Z Q 21 [vR (1, 0, 24), vR (1, 0, 25), vR (1, 0, 26), vR (1, 0, 27), vR (1, 0, 28), vR (1, 0, 29), vR (1, 0, 30), vR (1, 0, 31), vR (1, 0, 32), vN, vL v10, vN, vN, vL v10, vN, vI (0 : Int32)] [] μ)) : WS G eL_needs (d + 1) Z Q 9 [vR (1, 0, 24), vR (1, 0, 25), vR (1, 0, 26), vR (1, 0, 27), vR (1, 0, 28), vR (1, 0, 29), vR (1, 0, 30), vR (1, 0, 31), vR (1, 0, 32), vN, vL v10, vN, vI v12, vN, vN, vN] [] μ := WS.go okL_needs 62 h
set_option maxRecDepth 100000 in
set_option maxHeartbeats 4000000 in
theorem wL_needs_21 {G : xG} {d : Nat} {Z : xZ} {v10 : Int64} {v13 : Int64} {v15 : Int32} {μ : xM} {Q : xP} (h : vp_in (1 : Int32) 3 ∧ xif ((μ (1, 0, 32) (1 : Int32).toNatClampNeg) ≤ v15) (xif ((lg_cmp v10 v13) = 0) (WS G eL_needs (d + 1) Z Q 9 [vR (1, 0, 24), vR (1, 0, 25), vR (1, 0, 26), vR (1, 0, 27), vR (1, 0, 28), vR (1, 0, 29), vR (1, 0, 30), vR (1, 0, 31), vR (1, 0, 32), vN, vL v10, vN, vI (0 : Int32), vN, vN, vN] [] μ) (WS G eL_needs (d + 1) Z Q 9 [vR (1, 0, 24), vR (1, 0, 25), vR (1, 0, 26), vR (1, 0, 27), vR (1, 0, 28), vR (1, 0, 29), vR (1, 0, 30), vR (1, 0, 31), vR (1, 0, 32), vN, vL v10, vN, vI (1 : Int32), vN, vN, vN] [] μ)) (xif ((lg_cmp (((xlr v13 v15) &&& (1 : Int64))) (1 : Int64)) = 0) (MW G d mL_direct [vR (1, 0, 24), vR (1, 0, 25), vR (1, 0, 26), vR (1, 0, 27), vR (1, 0, 29), vR (1, 0, 30), vI v15] μ (xrL fun y2 μ1 => MW G d mL_assumed [vR (1, 0, 28), vR (1, 0, 29), vR (1, 0, 31), vI v15] μ1 (xrL fun y4 μ3 => WS G eL_needs (d + 1) Z Q 21 [vR (1, 0, 24), vR (1, 0, 25), vR (1, 0, 26), vR (1, 0, 27), vR (1, 0, 28), vR (1, 0, 29), vR (1, 0, 30), vR (1, 0, 31), vR (1, 0, 32), vN, vL (v10 ||| (y2 ||| y4)), vN, vN, vL v13, vN, vI (v15 + (1 : Int32))] [] μ3))) (WS G eL_needs (d + 1) Z Q 21 [vR (1, 0, 24), vR (1, 0, 25), vR (1, 0, 26), vR (1, 0, 27), vR (1, 0, 28), vR (1, 0, 29), vR (1, 0, 30), vR (1, 0, 31), vR (1, 0, 32), vN, vL (v10 ||| (0 : Int64)), vN, vN, vL v13, vN, vI (v15 + (1 : Int32))] [] μ))) : WS G eL_needs (d + 1) Z Q 21 [vR (1, 0, 24), vR (1, 0, 25), vR (1, 0, 26), vR (1, 0, 27), vR (1, 0, 28), vR (1, 0, 29), vR (1, 0, 30), vR (1, 0, 31), vR (1, 0, 32), vN, vL v10, vN, vN, vL v13, vN, vI v15] [] μ := WS.go okL_needs 62 h
set_option maxRecDepth 100000 in
set_option maxHeartbeats 4000000 in
theorem wL_bypass {G : xG} {d : Nat} {a3 : Int32} {μ : xM} {Q : xP} (h : vp_in a3 48 ∧ xif ((μ (1, 0, 24) a3.toNatClampNeg) = (4 : Int32)) (vp_in a3 48 ∧ vp_in ((μ (1, 0, 25) a3.toNatClampNeg)) 48 ∧ xif ((μ (1, 0, 24) ((μ (1, 0, 25) a3.toNatClampNeg)).toNatClampNeg) = (3 : Int32)) (vp_in a3 48 ∧ xif ((μ (1, 0, 24) a3.toNatClampNeg) = (2 : Int32)) (vp_in a3 48 ∧ Q (some (vI ((μ (1, 0, 25) a3.toNatClampNeg)))) μ) (xif ((1 : Int32) = 0) (Q (some (vI (-6 : Int32))) μ) (vp_in a3 48 ∧ xif ((μ (1, 0, 24) a3.toNatClampNeg) = (4 : Int32)) (vp_in a3 48 ∧ vp_in ((μ (1, 0, 25) a3.toNatClampNeg)) 48 ∧ Q (some (vI ((μ (1, 0, 25) ((μ (1, 0, 25) a3.toNatClampNeg)).toNatClampNeg)))) μ) (vp_in a3 48 ∧ vp_in ((μ (1, 0, 25) a3.toNatClampNeg)) 48 ∧ Q (some (vI ((μ (1, 0, 26) ((μ (1, 0, 25) a3.toNatClampNeg)).toNatClampNeg)))) μ)))) (vp_in a3 48 ∧ xif ((μ (1, 0, 24) a3.toNatClampNeg) = (2 : Int32)) (vp_in a3 48 ∧ Q (some (vI ((μ (1, 0, 25) a3.toNatClampNeg)))) μ) (xif ((0 : Int32) = 0) (Q (some (vI (-6 : Int32))) μ) (vp_in a3 48 ∧ xif ((μ (1, 0, 24) a3.toNatClampNeg) = (4 : Int32)) (vp_in a3 48 ∧ vp_in ((μ (1, 0, 25) a3.toNatClampNeg)) 48 ∧ Q (some (vI ((μ (1, 0, 25) ((μ (1, 0, 25) a3.toNatClampNeg)).toNatClampNeg)))) μ) (vp_in a3 48 ∧ vp_in ((μ (1, 0, 25) a3.toNatClampNeg)) 48 ∧ Q (some (vI ((μ (1, 0, 26) ((μ (1, 0, 25) a3.toNatClampNeg)).toNatClampNeg)))) μ))))) (vp_in a3 48 ∧ xif ((μ (1, 0, 24) a3.toNatClampNeg) = (5 : Int32)) (vp_in a3 48 ∧ vp_in ((μ (1, 0, 25) a3.toNatClampNeg)) 48 ∧ xif ((μ (1, 0, 24) ((μ (1, 0, 25) a3.toNatClampNeg)).toNatClampNeg) = (3 : Int32)) (vp_in a3 48 ∧ xif ((μ (1, 0, 24) a3.toNatClampNeg) = (2 : Int32)) (vp_in a3 48 ∧ Q (some (vI ((μ (1, 0, 25) a3.toNatClampNeg)))) μ) (xif ((1 : Int32) = 0) (Q (some (vI (-6 : Int32))) μ) (vp_in a3 48 ∧ xif ((μ (1, 0, 24) a3.toNatClampNeg) = (4 : Int32)) (vp_in a3 48 ∧ vp_in ((μ (1, 0, 25) a3.toNatClampNeg)) 48 ∧ Q (some (vI ((μ (1, 0, 25) ((μ (1, 0, 25) a3.toNatClampNeg)).toNatClampNeg)))) μ) (vp_in a3 48 ∧ vp_in ((μ (1, 0, 25) a3.toNatClampNeg)) 48 ∧ Q (some (vI ((μ (1, 0, 26) ((μ (1, 0, 25) a3.toNatClampNeg)).toNatClampNeg)))) μ)))) (vp_in a3 48 ∧ xif ((μ (1, 0, 24) a3.toNatClampNeg) = (2 : Int32)) (vp_in a3 48 ∧ Q (some (vI ((μ (1, 0, 25) a3.toNatClampNeg)))) μ) (xif ((0 : Int32) = 0) (Q (some (vI (-6 : Int32))) μ) (vp_in a3 48 ∧ xif ((μ (1, 0, 24) a3.toNatClampNeg) = (4 : Int32)) (vp_in a3 48 ∧ vp_in ((μ (1, 0, 25) a3.toNatClampNeg)) 48 ∧ Q (some (vI ((μ (1, 0, 25) ((μ (1, 0, 25) a3.toNatClampNeg)).toNatClampNeg)))) μ) (vp_in a3 48 ∧ vp_in ((μ (1, 0, 25) a3.toNatClampNeg)) 48 ∧ Q (some (vI ((μ (1, 0, 26) ((μ (1, 0, 25) a3.toNatClampNeg)).toNatClampNeg)))) μ))))) (vp_in a3 48 ∧ xif ((μ (1, 0, 24) a3.toNatClampNeg) = (2 : Int32)) (vp_in a3 48 ∧ Q (some (vI ((μ (1, 0, 25) a3.toNatClampNeg)))) μ) (xif ((0 : Int32) = 0) (Q (some (vI (-6 : Int32))) μ) (vp_in a3 48 ∧ xif ((μ (1, 0, 24) a3.toNatClampNeg) = (4 : Int32)) (vp_in a3 48 ∧ vp_in ((μ (1, 0, 25) a3.toNatClampNeg)) 48 ∧ Q (some (vI ((μ (1, 0, 25) ((μ (1, 0, 25) a3.toNatClampNeg)).toNatClampNeg)))) μ) (vp_in a3 48 ∧ vp_in ((μ (1, 0, 25) a3.toNatClampNeg)) 48 ∧ Q (some (vI ((μ (1, 0, 26) ((μ (1, 0, 25) a3.toNatClampNeg)).toNatClampNeg)))) μ)))))) : MW G (d + 1) mL_bypass [vR (1, 0, 24), vR (1, 0, 25), vR (1, 0, 26), vI a3] μ Q := MW.of (E := eL_bypass) okL_bypass (Nat.le_of_ble_eq_true rfl) fun Z => WS.go okL_bypass 56 h
set_option maxRecDepth 100000 in
set_option maxHeartbeats 4000000 in
theorem wL_bits {G : xG} {d : Nat} {a0 : Int64} {μ : xM} {Q : xP} (h : ∀ Z : xZ, WS G eL_bits (d + 1) Z Q 4 [vL a0, vN, vI (0 : Int32), vI (0 : Int32)] [] μ) : MW G (d + 1) mL_bits [vL a0] μ Q := MW.of (E := eL_bits) okL_bits (Nat.le_of_ble_eq_true rfl) fun Z => WS.go okL_bits 26 (h Z)
set_option maxRecDepth 100000 in
set_option maxHeartbeats 4000000 in
theorem wL_bits_4 {G : xG} {d : Nat} {Z : xZ} {v0 : Int64} {v2 : Int32} {v3 : Int32} {μ : xM} {Q : xP} (h : xif ((48 : Int32) ≤ v3) (Q (some (vI v2)) μ) (WS G eL_bits (d + 1) Z Q 4 [vL v0, vN, vI (Int64.toInt32 (((Int32.toInt64 v2) + ((xlr v0 v3) &&& (1 : Int64))))), vI (v3 + (1 : Int32))] [] μ)) : WS G eL_bits (d + 1) Z Q 4 [vL v0, vN, vI v2, vI v3] [] μ := WS.go okL_bits 26 h
set_option maxRecDepth 100000 in
set_option maxHeartbeats 4000000 in
theorem wL_formulas {G : xG} {d : Nat} {a5 : Int32} {μ : xM} {Q : xP} (h : ∀ Z : xZ, WS G eL_formulas (d + 1) Z Q 3 [vR (8, 0, 0), vR (1, 0, 20), vR (1, 0, 21), vR (1, 0, 22), vR (1, 0, 32), vI a5, vI (0 : Int32), vN, vN, vN] [] μ) : MW G (d + 1) mL_formulas [vR (8, 0, 0), vR (1, 0, 20), vR (1, 0, 21), vR (1, 0, 22), vR (1, 0, 32), vI a5] μ Q := MW.of (E := eL_formulas) okL_formulas (Nat.le_of_ble_eq_true rfl) fun Z => WS.go okL_formulas 105 (h Z)
set_option maxRecDepth 100000 in
set_option maxHeartbeats 4000000 in
theorem wL_formulas_3 {G : xG} {d : Nat} {Z : xZ} {v5 : Int32} {v6 : Int32} {μ : xM} {Q : xP} (h : vp_in (0 : Int32) 3 ∧ xif ((μ (1, 0, 32) (0 : Int32).toNatClampNeg) ≤ v6) (MW G d mL_low [vI v5, vI (256 : Int32)] μ (xrI fun x2 μ1 => MW G d mL_truth [vR (1, 0, 20), vR (1, 0, 21), vR (1, 0, 22), vR (1, 0, 32), vI x2] μ1 (xrL fun y4 μ3 => WS G eL_formulas (d + 1) Z Q 113 [vR (8, 0, 0), vN, vN, vN, vR (1, 0, 32), vN, vI x2, vL y4, vN, vI (0 : Int32)] [] μ3))) (MW G d mX8_part [vR (8, 0, 0), vI v6, vI (0 : Int32)] μ (xrI fun x6 μ5 => vp_in v6 60 ∧ xif (x6 = (μ5 (1, 0, 20) v6.toNatClampNeg)) (MW G d mX8_part [vR (8, 0, 0), vI v6, vI (1 : Int32)] μ5 (xrI fun x8 μ7 => vp_in v6 60 ∧ xif ((μ7 (1, 0, 20) v6.toNatClampNeg) = (1 : Int32)) (xif (x8 = (-6 : Int32)) (MW G d mX8_part [vR (8, 0, 0), vI v6, vI (2 : Int32)] μ7 (xrI fun x10 μ9 => vp_in v6 60 ∧ xif ((3 : Int32) ≤ (μ9 (1, 0, 20) v6.toNatClampNeg)) (vp_in v6 60 ∧ xif (x10 = (μ9 (1, 0, 22) v6.toNatClampNeg)) (WS G eL_formulas (d + 1) Z Q 3 [vR (8, 0, 0), vR (1, 0, 20), vR (1, 0, 21), vR (1, 0, 22), vR (1, 0, 32), vI v5, vI (v6 + (1 : Int32)), vN, vN, vN] [] μ9) (((0 : Int32) = 0 ∨ (0 : Int32) = 1) ∧ Q (some (vI (0 : Int32))) μ9)) (xif (x10 = (-6 : Int32)) (WS G eL_formulas (d + 1) Z Q 3 [vR (8, 0, 0), vR (1, 0, 20), vR (1, 0, 21), vR (1, 0, 22), vR (1, 0, 32), vI v5, vI (v6 + (1 : Int32)), vN, vN, vN] [] μ9) (((0 : Int32) = 0 ∨ (0 : Int32) = 1) ∧ Q (some (vI (0 : Int32))) μ9)))) (((0 : Int32) = 0 ∨ (0 : Int32) = 1) ∧ Q (some (vI (0 : Int32))) μ7)) (vp_in v6 60 ∧ xif (x8 = (μ7 (1, 0, 21) v6.toNatClampNeg)) (MW G d mX8_part [vR (8, 0, 0), vI v6, vI (2 : Int32)] μ7 (xrI fun x12 μ11 => vp_in v6 60 ∧ xif ((3 : Int32) ≤ (μ11 (1, 0, 20) v6.toNatClampNeg)) (vp_in v6 60 ∧ xif (x12 = (μ11 (1, 0, 22) v6.toNatClampNeg)) (WS G eL_formulas (d + 1) Z Q 3 [vR (8, 0, 0), vR (1, 0, 20), vR (1, 0, 21), vR (1, 0, 22), vR (1, 0, 32), vI v5, vI (v6 + (1 : Int32)), vN, vN, vN] [] μ11) (((0 : Int32) = 0 ∨ (0 : Int32) = 1) ∧ Q (some (vI (0 : Int32))) μ11)) (xif (x12 = (-6 : Int32)) (WS G eL_formulas (d + 1) Z Q 3 [vR (8, 0, 0), vR (1, 0, 20), vR (1, 0, 21), vR (1, 0, 22), vR (1, 0, 32), vI v5, vI (v6 + (1 : Int32)), vN, vN, vN] [] μ11) (((0 : Int32) = 0 ∨ (0 : Int32) = 1) ∧ Q (some (vI (0 : Int32))) μ11)))) (((0 : Int32) = 0 ∨ (0 : Int32) = 1) ∧ Q (some (vI (0 : Int32))) μ7)))) (((0 : Int32) = 0 ∨ (0 : Int32) = 1) ∧ Q (some (vI (0 : Int32))) μ5)))) : WS G eL_formulas (d + 1) Z Q 3 [vR (8, 0, 0), vR (1, 0, 20), vR (1, 0, 21), vR (1, 0, 22), vR (1, 0, 32), vI v5, vI v6, vN, vN, vN] [] μ := WS.go okL_formulas 105 h
set_option maxRecDepth 100000 in
set_option maxHeartbeats 4000000 in
theorem wL_formulas_113 {G : xG} {d : Nat} {Z : xZ} {v6 : Int32} {v7 : Int64} {v9 : Int32} {μ : xM} {Q : xP} (h : vp_in (0 : Int32) 3 ∧ xif ((μ (1, 0, 32) (0 : Int32).toNatClampNeg) ≤ v9) (MW G d mX8_formulas [vR (8, 0, 0)] μ (xrI fun x2 μ1 => vp_in (0 : Int32) 3 ∧ xif (x2 = (μ1 (1, 0, 32) (0 : Int32).toNatClampNeg)) (vp_in (0 : Int32) 3 ∧ MW G d mX8_part [vR (8, 0, 0), vI (μ1 (1, 0, 32) (0 : Int32).toNatClampNeg), vI (0 : Int32)] μ1 (xrI fun x4 μ3 => xif (x4 = (-1 : Int32)) (((1 : Int32) = 0 ∨ (1 : Int32) = 1) ∧ Q (some (vI (1 : Int32))) μ3) (((0 : Int32) = 0 ∨ (0 : Int32) = 1) ∧ Q (some (vI (0 : Int32))) μ3))) (((0 : Int32) = 0 ∨ (0 : Int32) = 1) ∧ Q (some (vI (0 : Int32))) μ1))) (MW G d mX8_isTrue [vR (8, 0, 0), vI v9, vI v6] μ (xrI fun x6 μ5 => xif (x6 = (Int64.toInt32 (((xlr v7 v9) &&& (1 : Int64))))) (WS G eL_formulas (d + 1) Z Q 113 [vR (8, 0, 0), vN, vN, vN, vR (1, 0, 32), vN, vI v6, vL v7, vN, vI (v9 + (1 : Int32))] [] μ5) (((0 : Int32) = 0 ∨ (0 : Int32) = 1) ∧ Q (some (vI (0 : Int32))) μ5)))) : WS G eL_formulas (d + 1) Z Q 113 [vR (8, 0, 0), vN, vN, vN, vR (1, 0, 32), vN, vI v6, vL v7, vN, vI v9] [] μ := WS.go okL_formulas 105 h
set_option maxRecDepth 100000 in
set_option maxHeartbeats 4000000 in
theorem wL_lines {G : xG} {d : Nat} {μ : xM} {Q : xP} (h : ∀ Z : xZ, WS G eL_lines (d + 1) Z Q 6 [vR (8, 0, 0), vR (1, 0, 23), vR (1, 0, 24), vR (1, 0, 25), vR (1, 0, 26), vR (1, 0, 27), vR (1, 0, 28), vR (1, 0, 29), vR (1, 0, 30), vR (1, 0, 31), vR (1, 0, 32), vI (0 : Int32), vI (0 : Int32), vN, vN, vN, vN] [] μ) : MW G (d + 1) mL_lines [vR (8, 0, 0), vR (1, 0, 23), vR (1, 0, 24), vR (1, 0, 25), vR (1, 0, 26), vR (1, 0, 27), vR (1, 0, 28), vR (1, 0, 29), vR (1, 0, 30), vR (1, 0, 31), vR (1, 0, 32)] μ Q := MW.of (E := eL_lines) okL_lines (Nat.le_of_ble_eq_true rfl) fun Z => WS.go okL_lines 308 (h Z)
set_option maxRecDepth 100000 in
set_option maxHeartbeats 4000000 in
theorem wL_lines_6 {G : xG} {d : Nat} {Z : xZ} {v11 : Int32} {v12 : Int32} {μ : xM} {Q : xP} (h : vp_in (1 : Int32) 3 ∧ xif ((μ (1, 0, 32) (1 : Int32).toNatClampNeg) ≤ v12) (WS G eL_lines (d + 1) Z Q 386 [vR (8, 0, 0), vN, vN, vN, vN, vN, vN, vR (1, 0, 29), vR (1, 0, 30), vR (1, 0, 31), vR (1, 0, 32), vI v11, vI (0 : Int32), vI (0 : Int32), vN, vN, vN] [] μ) (vp_in v12 48 ∧ WS G eL_lines (d + 1) Z Q 28 [vR (8, 0, 0), vR (1, 0, 23), vR (1, 0, 24), vR (1, 0, 25), vR (1, 0, 26), vR (1, 0, 27), vR (1, 0, 28), vR (1, 0, 29), vR (1, 0, 30), vR (1, 0, 31), vR (1, 0, 32), vI v11, vI v12, vI (0 : Int32), vI (0 : Int32), vI (μ (1, 0, 28) v12.toNatClampNeg), vN] [] μ)) : WS G eL_lines (d + 1) Z Q 6 [vR (8, 0, 0), vR (1, 0, 23), vR (1, 0, 24), vR (1, 0, 25), vR (1, 0, 26), vR (1, 0, 27), vR (1, 0, 28), vR (1, 0, 29), vR (1, 0, 30), vR (1, 0, 31), vR (1, 0, 32), vI v11, vI v12, vN, vN, vN, vN] [] μ := WS.go okL_lines 308 h
set_option maxRecDepth 100000 in
set_option maxHeartbeats 4000000 in
theorem wL_lines_28 {G : xG} {d : Nat} {Z : xZ} {v11 : Int32} {v12 : Int32} {v13 : Int32} {v14 : Int32} {v15 : Int32} {μ : xM} {Q : xP} (h : xif (v15 < 0) (WS G eL_lines (d + 1) Z Q 49 [vR (8, 0, 0), vR (1, 0, 23), vR (1, 0, 24), vR (1, 0, 25), vR (1, 0, 26), vR (1, 0, 27), vR (1, 0, 28), vR (1, 0, 29), vR (1, 0, 30), vR (1, 0, 31), vR (1, 0, 32), vI v11, vI v12, vI v13, vI v14, vI (0 : Int32), vN] [] μ) (vp_in v15 48 ∧ WS G eL_lines (d + 1) Z Q 28 [vR (8, 0, 0), vR (1, 0, 23), vR (1, 0, 24), vR (1, 0, 25), vR (1, 0, 26), vR (1, 0, 27), vR (1, 0, 28), vR (1, 0, 29), vR (1, 0, 30), vR (1, 0, 31), vR (1, 0, 32), vI v11, vI v12, vI (v13 + (1 : Int32)), vI v14, vI (μ (1, 0, 31) v15.toNatClampNeg), vN] [] μ)) : WS G eL_lines (d + 1) Z Q 28 [vR (8, 0, 0), vR (1, 0, 23), vR (1, 0, 24), vR (1, 0, 25), vR (1, 0, 26), vR (1, 0, 27), vR (1, 0, 28), vR (1, 0, 29), vR (1, 0, 30), vR (1, 0, 31), vR (1, 0, 32), vI v11, vI v12, vI v13, vI v14, vI v15, vN] [] μ := WS.go okL_lines 308 h
set_option maxRecDepth 100000 in
set_option maxHeartbeats 4000000 in
theorem wL_lines_49 {G : xG} {d : Nat} {Z : xZ} {v11 : Int32} {v12 : Int32} {v13 : Int32} {v14 : Int32} {v15 : Int32} {μ : xM} {Q : xP} (h : vp_in (1 : Int32) 3 ∧ xif ((μ (1, 0, 32) (1 : Int32).toNatClampNeg) ≤ v15) (MW G d mL_bypass [vR (1, 0, 24), vR (1, 0, 25), vR (1, 0, 26), vI v12] μ (xrI fun x2 μ1 => xif (0 ≤ x2) (WS G eL_lines (d + 1) Z Q 114 [vR (8, 0, 0), vR (1, 0, 23), vR (1, 0, 24), vR (1, 0, 25), vR (1, 0, 26), vR (1, 0, 27), vR (1, 0, 28), vR (1, 0, 29), vR (1, 0, 30), vR (1, 0, 31), vR (1, 0, 32), vN, vI v12, vI v13, vI v14, vI x2, vN] [vI (1 : Int32), vI v11] μ1) (WS G eL_lines (d + 1) Z Q 114 [vR (8, 0, 0), vR (1, 0, 23), vR (1, 0, 24), vR (1, 0, 25), vR (1, 0, 26), vR (1, 0, 27), vR (1, 0, 28), vR (1, 0, 29), vR (1, 0, 30), vR (1, 0, 31), vR (1, 0, 32), vN, vI v12, vI v13, vI v14, vI x2, vN] [vI (0 : Int32), vI v11] μ1))) (MW G d mL_direct [vR (1, 0, 24), vR (1, 0, 25), vR (1, 0, 26), vR (1, 0, 27), vR (1, 0, 29), vR (1, 0, 30), vI v15] μ (xrL fun y4 μ3 => WS G eL_lines (d + 1) Z Q 49 [vR (8, 0, 0), vR (1, 0, 23), vR (1, 0, 24), vR (1, 0, 25), vR (1, 0, 26), vR (1, 0, 27), vR (1, 0, 28), vR (1, 0, 29), vR (1, 0, 30), vR (1, 0, 31), vR (1, 0, 32), vI v11, vI v12, vI v13, vI (Int64.toInt32 (((Int32.toInt64 v14) + ((xlr y4 v12) &&& (1 : Int64))))), vI (v15 + (1 : Int32)), vN] [] μ3))) : WS G eL_lines (d + 1) Z Q 49 [vR (8, 0, 0), vR (1, 0, 23), vR (1, 0, 24), vR (1, 0, 25), vR (1, 0, 26), vR (1, 0, 27), vR (1, 0, 28), vR (1, 0, 29), vR (1, 0, 30), vR (1, 0, 31), vR (1, 0, 32), vI v11, vI v12, vI v13, vI v14, vI v15, vN] [] μ := WS.go okL_lines 308 h
set_option maxRecDepth 100000 in
set_option maxHeartbeats 4000000 in
theorem wL_lines_114 {G : xG} {d : Nat} {Z : xZ} {v12 : Int32} {v13 : Int32} {v14 : Int32} {v15 : Int32} {s0 : Int32} {s1 : Int32} {μ : xM} {Q : xP} (h : MW G d mX8_line [vR (8, 0, 0), vI v12, vI (0 : Int32)] μ (xrI fun x2 μ1 => vp_in v12 48 ∧ xif (x2 = (μ1 (1, 0, 23) v12.toNatClampNeg)) (MW G d mX8_line [vR (8, 0, 0), vI v12, vI (1 : Int32)] μ1 (xrI fun x4 μ3 => vp_in v12 48 ∧ xif (x4 = (μ3 (1, 0, 24) v12.toNatClampNeg)) (MW G d mX8_line [vR (8, 0, 0), vI v12, vI (2 : Int32)] μ3 (xrI fun x6 μ5 => vp_in v12 48 ∧ xif (0 ≤ (μ5 (1, 0, 28) v12.toNatClampNeg)) (vp_in v12 48 ∧ WS G eL_lines (d + 1) Z Q 170 [vR (8, 0, 0), vR (1, 0, 23), vR (1, 0, 24), vR (1, 0, 25), vR (1, 0, 26), vR (1, 0, 27), vR (1, 0, 28), vR (1, 0, 29), vR (1, 0, 30), vR (1, 0, 31), vR (1, 0, 32), vI (s0 + s1), vI v12, vI v13, vI v14, vI v15, vN] [vI (μ5 (1, 0, 28) v12.toNatClampNeg), vI x6] μ5) (WS G eL_lines (d + 1) Z Q 170 [vR (8, 0, 0), vR (1, 0, 23), vR (1, 0, 24), vR (1, 0, 25), vR (1, 0, 26), vR (1, 0, 27), vR (1, 0, 28), vR (1, 0, 29), vR (1, 0, 30), vR (1, 0, 31), vR (1, 0, 32), vI (s0 + s1), vI v12, vI v13, vI v14, vI v15, vN] [vI (-6 : Int32), vI x6] μ5))) (WS G eL_lines (d + 1) Z Q 273 [vR (8, 0, 0), vR (1, 0, 23), vR (1, 0, 24), vR (1, 0, 25), vR (1, 0, 26), vR (1, 0, 27), vR (1, 0, 28), vR (1, 0, 29), vR (1, 0, 30), vR (1, 0, 31), vR (1, 0, 32), vI (s0 + s1), vI v12, vN, vN, vN, vN] [] μ3))) (WS G eL_lines (d + 1) Z Q 273 [vR (8, 0, 0), vR (1, 0, 23), vR (1, 0, 24), vR (1, 0, 25), vR (1, 0, 26), vR (1, 0, 27), vR (1, 0, 28), vR (1, 0, 29), vR (1, 0, 30), vR (1, 0, 31), vR (1, 0, 32), vI (s0 + s1), vI v12, vN, vN, vN, vN] [] μ1))) : WS G eL_lines (d + 1) Z Q 114 [vR (8, 0, 0), vR (1, 0, 23), vR (1, 0, 24), vR (1, 0, 25), vR (1, 0, 26), vR (1, 0, 27), vR (1, 0, 28), vR (1, 0, 29), vR (1, 0, 30), vR (1, 0, 31), vR (1, 0, 32), vN, vI v12, vI v13, vI v14, vI v15, vN] [vI s1, vI s0] μ := WS.go okL_lines 308 h
set_option maxRecDepth 100000 in
set_option maxHeartbeats 4000000 in
theorem wL_lines_170 {G : xG} {d : Nat} {Z : xZ} {v11 : Int32} {v12 : Int32} {v13 : Int32} {v14 : Int32} {v15 : Int32} {s0 : Int32} {s1 : Int32} {μ : xM} {Q : xP} (h : xif (s0 = s1) (MW G d mX8_line [vR (8, 0, 0), vI v12, vI (3 : Int32)] μ (xrI fun x2 μ1 => xif (x2 = v13) (MW G d mX8_line [vR (8, 0, 0), vI v12, vI (4 : Int32)] μ1 (xrI fun x4 μ3 => vp_in v12 48 ∧ MW G d mL_shut [vR (1, 0, 30), vR (1, 0, 31), vI (μ3 (1, 0, 28) v12.toNatClampNeg)] μ3 (xrI fun x6 μ5 => xif (x6 = 0) (WS G eL_lines (d + 1) Z Q 212 [vR (8, 0, 0), vR (1, 0, 23), vR (1, 0, 24), vR (1, 0, 25), vR (1, 0, 26), vR (1, 0, 27), vR (1, 0, 28), vR (1, 0, 29), vR (1, 0, 30), vR (1, 0, 31), vR (1, 0, 32), vI v11, vI v12, vN, vI v14, vI v15, vN] [vI (1 : Int32), vI x4] μ5) (WS G eL_lines (d + 1) Z Q 212 [vR (8, 0, 0), vR (1, 0, 23), vR (1, 0, 24), vR (1, 0, 25), vR (1, 0, 26), vR (1, 0, 27), vR (1, 0, 28), vR (1, 0, 29), vR (1, 0, 30), vR (1, 0, 31), vR (1, 0, 32), vI v11, vI v12, vN, vI v14, vI v15, vN] [vI (0 : Int32), vI x4] μ5)))) (WS G eL_lines (d + 1) Z Q 273 [vR (8, 0, 0), vR (1, 0, 23), vR (1, 0, 24), vR (1, 0, 25), vR (1, 0, 26), vR (1, 0, 27), vR (1, 0, 28), vR (1, 0, 29), vR (1, 0, 30), vR (1, 0, 31), vR (1, 0, 32), vI v11, vI v12, vN, vN, vN, vN] [] μ1))) (WS G eL_lines (d + 1) Z Q 273 [vR (8, 0, 0), vR (1, 0, 23), vR (1, 0, 24), vR (1, 0, 25), vR (1, 0, 26), vR (1, 0, 27), vR (1, 0, 28), vR (1, 0, 29), vR (1, 0, 30), vR (1, 0, 31), vR (1, 0, 32), vI v11, vI v12, vN, vN, vN, vN] [] μ)) : WS G eL_lines (d + 1) Z Q 170 [vR (8, 0, 0), vR (1, 0, 23), vR (1, 0, 24), vR (1, 0, 25), vR (1, 0, 26), vR (1, 0, 27), vR (1, 0, 28), vR (1, 0, 29), vR (1, 0, 30), vR (1, 0, 31), vR (1, 0, 32), vI v11, vI v12, vI v13, vI v14, vI v15, vN] [vI s1, vI s0] μ := WS.go okL_lines 308 h
set_option maxRecDepth 100000 in
set_option maxHeartbeats 4000000 in
theorem wL_lines_212 {G : xG} {d : Nat} {Z : xZ} {v11 : Int32} {v12 : Int32} {v14 : Int32} {v15 : Int32} {s0 : Int32} {s1 : Int32} {μ : xM} {Q : xP} (h : xif (s0 = s1) (MW G d mX8_line [vR (8, 0, 0), vI v12, vI (5 : Int32)] μ (xrI fun x2 μ1 => xif (x2 = v14) (MW G d mX8_bypass [vR (8, 0, 0), vI v12] μ1 (xrI fun x4 μ3 => xif (x4 = v15) (MW G d mX8_needs [vR (8, 0, 0), vI v12] μ3 (xrL fun y6 μ5 => MW G d mL_needs [vR (1, 0, 24), vR (1, 0, 25), vR (1, 0, 26), vR (1, 0, 27), vR (1, 0, 28), vR (1, 0, 29), vR (1, 0, 30), vR (1, 0, 31), vR (1, 0, 32), vI v12] μ5 (xrL fun y8 μ7 => xif ((lg_cmp y6 y8) = 0) (WS G eL_lines (d + 1) Z Q 274 [vR (8, 0, 0), vR (1, 0, 23), vR (1, 0, 24), vR (1, 0, 25), vR (1, 0, 26), vR (1, 0, 27), vR (1, 0, 28), vR (1, 0, 29), vR (1, 0, 30), vR (1, 0, 31), vR (1, 0, 32), vI v11, vI v12, vN, vN, vN, vN] [vI (1 : Int32)] μ7) (WS G eL_lines (d + 1) Z Q 273 [vR (8, 0, 0), vR (1, 0, 23), vR (1, 0, 24), vR (1, 0, 25), vR (1, 0, 26), vR (1, 0, 27), vR (1, 0, 28), vR (1, 0, 29), vR (1, 0, 30), vR (1, 0, 31), vR (1, 0, 32), vI v11, vI v12, vN, vN, vN, vN] [] μ7)))) (WS G eL_lines (d + 1) Z Q 273 [vR (8, 0, 0), vR (1, 0, 23), vR (1, 0, 24), vR (1, 0, 25), vR (1, 0, 26), vR (1, 0, 27), vR (1, 0, 28), vR (1, 0, 29), vR (1, 0, 30), vR (1, 0, 31), vR (1, 0, 32), vI v11, vI v12, vN, vN, vN, vN] [] μ3))) (WS G eL_lines (d + 1) Z Q 273 [vR (8, 0, 0), vR (1, 0, 23), vR (1, 0, 24), vR (1, 0, 25), vR (1, 0, 26), vR (1, 0, 27), vR (1, 0, 28), vR (1, 0, 29), vR (1, 0, 30), vR (1, 0, 31), vR (1, 0, 32), vI v11, vI v12, vN, vN, vN, vN] [] μ1))) (WS G eL_lines (d + 1) Z Q 273 [vR (8, 0, 0), vR (1, 0, 23), vR (1, 0, 24), vR (1, 0, 25), vR (1, 0, 26), vR (1, 0, 27), vR (1, 0, 28), vR (1, 0, 29), vR (1, 0, 30), vR (1, 0, 31), vR (1, 0, 32), vI v11, vI v12, vN, vN, vN, vN] [] μ)) : WS G eL_lines (d + 1) Z Q 212 [vR (8, 0, 0), vR (1, 0, 23), vR (1, 0, 24), vR (1, 0, 25), vR (1, 0, 26), vR (1, 0, 27), vR (1, 0, 28), vR (1, 0, 29), vR (1, 0, 30), vR (1, 0, 31), vR (1, 0, 32), vI v11, vI v12, vN, vI v14, vI v15, vN] [vI s1, vI s0] μ := WS.go okL_lines 308 h
set_option maxRecDepth 100000 in
set_option maxHeartbeats 4000000 in
theorem wL_lines_273 {G : xG} {d : Nat} {Z : xZ} {v11 : Int32} {v12 : Int32} {μ : xM} {Q : xP} (h : WS G eL_lines (d + 1) Z Q 274 [vR (8, 0, 0), vR (1, 0, 23), vR (1, 0, 24), vR (1, 0, 25), vR (1, 0, 26), vR (1, 0, 27), vR (1, 0, 28), vR (1, 0, 29), vR (1, 0, 30), vR (1, 0, 31), vR (1, 0, 32), vI v11, vI v12, vN, vN, vN, vN] [vI (0 : Int32)] μ) : WS G eL_lines (d + 1) Z Q 273 [vR (8, 0, 0), vR (1, 0, 23), vR (1, 0, 24), vR (1, 0, 25), vR (1, 0, 26), vR (1, 0, 27), vR (1, 0, 28), vR (1, 0, 29), vR (1, 0, 30), vR (1, 0, 31), vR (1, 0, 32), vI v11, vI v12, vN, vN, vN, vN] [] μ := WS.go okL_lines 308 h
set_option maxRecDepth 100000 in
set_option maxHeartbeats 4000000 in
theorem wL_lines_274 {G : xG} {d : Nat} {Z : xZ} {v11 : Int32} {v12 : Int32} {s0 : Int32} {μ : xM} {Q : xP} (h : xif (s0 = 0) (WS G eL_lines (d + 1) Z Q 364 [vR (8, 0, 0), vR (1, 0, 23), vR (1, 0, 24), vR (1, 0, 25), vR (1, 0, 26), vR (1, 0, 27), vR (1, 0, 28), vR (1, 0, 29), vR (1, 0, 30), vR (1, 0, 31), vR (1, 0, 32), vI v11, vI v12, vN, vN, vN, vN] [] μ) (MW G d mX8_reference [vR (8, 0, 0), vI v12, vI (0 : Int32)] μ (xrI fun x2 μ1 => vp_in v12 48 ∧ xif (0 ≤ (μ1 (1, 0, 25) v12.toNatClampNeg)) (vp_in v12 48 ∧ WS G eL_lines (d + 1) Z Q 303 [vR (8, 0, 0), vR (1, 0, 23), vR (1, 0, 24), vR (1, 0, 25), vR (1, 0, 26), vR (1, 0, 27), vR (1, 0, 28), vR (1, 0, 29), vR (1, 0, 30), vR (1, 0, 31), vR (1, 0, 32), vI v11, vI v12, vN, vN, vN, vN] [vI (μ1 (1, 0, 25) v12.toNatClampNeg), vI x2] μ1) (WS G eL_lines (d + 1) Z Q 303 [vR (8, 0, 0), vR (1, 0, 23), vR (1, 0, 24), vR (1, 0, 25), vR (1, 0, 26), vR (1, 0, 27), vR (1, 0, 28), vR (1, 0, 29), vR (1, 0, 30), vR (1, 0, 31), vR (1, 0, 32), vI v11, vI v12, vN, vN, vN, vN] [vI (-1 : Int32), vI x2] μ1)))) : WS G eL_lines (d + 1) Z Q 274 [vR (8, 0, 0), vR (1, 0, 23), vR (1, 0, 24), vR (1, 0, 25), vR (1, 0, 26), vR (1, 0, 27), vR (1, 0, 28), vR (1, 0, 29), vR (1, 0, 30), vR (1, 0, 31), vR (1, 0, 32), vI v11, vI v12, vN, vN, vN, vN] [vI s0] μ := WS.go okL_lines 308 h
set_option maxRecDepth 100000 in
set_option maxHeartbeats 4000000 in
theorem wL_lines_303 {G : xG} {d : Nat} {Z : xZ} {v11 : Int32} {v12 : Int32} {s0 : Int32} {s1 : Int32} {μ : xM} {Q : xP} (h : xif (s0 = s1) (MW G d mX8_reference [vR (8, 0, 0), vI v12, vI (1 : Int32)] μ (xrI fun x2 μ1 => vp_in v12 48 ∧ xif (0 ≤ (μ1 (1, 0, 26) v12.toNatClampNeg)) (vp_in v12 48 ∧ WS G eL_lines (d + 1) Z Q 330 [vR (8, 0, 0), vR (1, 0, 23), vR (1, 0, 24), vR (1, 0, 25), vR (1, 0, 26), vR (1, 0, 27), vR (1, 0, 28), vR (1, 0, 29), vR (1, 0, 30), vR (1, 0, 31), vR (1, 0, 32), vI v11, vI v12, vN, vN, vN, vN] [vI (μ1 (1, 0, 26) v12.toNatClampNeg), vI x2] μ1) (WS G eL_lines (d + 1) Z Q 330 [vR (8, 0, 0), vR (1, 0, 23), vR (1, 0, 24), vR (1, 0, 25), vR (1, 0, 26), vR (1, 0, 27), vR (1, 0, 28), vR (1, 0, 29), vR (1, 0, 30), vR (1, 0, 31), vR (1, 0, 32), vI v11, vI v12, vN, vN, vN, vN] [vI (-1 : Int32), vI x2] μ1))) (WS G eL_lines (d + 1) Z Q 364 [vR (8, 0, 0), vR (1, 0, 23), vR (1, 0, 24), vR (1, 0, 25), vR (1, 0, 26), vR (1, 0, 27), vR (1, 0, 28), vR (1, 0, 29), vR (1, 0, 30), vR (1, 0, 31), vR (1, 0, 32), vI v11, vI v12, vN, vN, vN, vN] [] μ)) : WS G eL_lines (d + 1) Z Q 303 [vR (8, 0, 0), vR (1, 0, 23), vR (1, 0, 24), vR (1, 0, 25), vR (1, 0, 26), vR (1, 0, 27), vR (1, 0, 28), vR (1, 0, 29), vR (1, 0, 30), vR (1, 0, 31), vR (1, 0, 32), vI v11, vI v12, vN, vN, vN, vN] [vI s1, vI s0] μ := WS.go okL_lines 308 h
set_option maxRecDepth 100000 in
set_option maxHeartbeats 4000000 in
theorem wL_lines_330 {G : xG} {d : Nat} {Z : xZ} {v11 : Int32} {v12 : Int32} {s0 : Int32} {s1 : Int32} {μ : xM} {Q : xP} (h : xif (s0 = s1) (MW G d mX8_reference [vR (8, 0, 0), vI v12, vI (2 : Int32)] μ (xrI fun x2 μ1 => vp_in v12 48 ∧ xif (0 ≤ (μ1 (1, 0, 27) v12.toNatClampNeg)) (vp_in v12 48 ∧ WS G eL_lines (d + 1) Z Q 357 [vR (8, 0, 0), vR (1, 0, 23), vR (1, 0, 24), vR (1, 0, 25), vR (1, 0, 26), vR (1, 0, 27), vR (1, 0, 28), vR (1, 0, 29), vR (1, 0, 30), vR (1, 0, 31), vR (1, 0, 32), vI v11, vI v12, vN, vN, vN, vN] [vI (μ1 (1, 0, 27) v12.toNatClampNeg), vI x2] μ1) (WS G eL_lines (d + 1) Z Q 357 [vR (8, 0, 0), vR (1, 0, 23), vR (1, 0, 24), vR (1, 0, 25), vR (1, 0, 26), vR (1, 0, 27), vR (1, 0, 28), vR (1, 0, 29), vR (1, 0, 30), vR (1, 0, 31), vR (1, 0, 32), vI v11, vI v12, vN, vN, vN, vN] [vI (-1 : Int32), vI x2] μ1))) (WS G eL_lines (d + 1) Z Q 364 [vR (8, 0, 0), vR (1, 0, 23), vR (1, 0, 24), vR (1, 0, 25), vR (1, 0, 26), vR (1, 0, 27), vR (1, 0, 28), vR (1, 0, 29), vR (1, 0, 30), vR (1, 0, 31), vR (1, 0, 32), vI v11, vI v12, vN, vN, vN, vN] [] μ)) : WS G eL_lines (d + 1) Z Q 330 [vR (8, 0, 0), vR (1, 0, 23), vR (1, 0, 24), vR (1, 0, 25), vR (1, 0, 26), vR (1, 0, 27), vR (1, 0, 28), vR (1, 0, 29), vR (1, 0, 30), vR (1, 0, 31), vR (1, 0, 32), vI v11, vI v12, vN, vN, vN, vN] [vI s1, vI s0] μ := WS.go okL_lines 308 h
set_option maxRecDepth 100000 in
set_option maxHeartbeats 4000000 in
theorem wL_lines_357 {G : xG} {d : Nat} {Z : xZ} {v11 : Int32} {v12 : Int32} {s0 : Int32} {s1 : Int32} {μ : xM} {Q : xP} (h : xif (s0 = s1) (WS G eL_lines (d + 1) Z Q 365 [vR (8, 0, 0), vR (1, 0, 23), vR (1, 0, 24), vR (1, 0, 25), vR (1, 0, 26), vR (1, 0, 27), vR (1, 0, 28), vR (1, 0, 29), vR (1, 0, 30), vR (1, 0, 31), vR (1, 0, 32), vI v11, vI v12, vN, vN, vN, vN] [vI (1 : Int32)] μ) (WS G eL_lines (d + 1) Z Q 364 [vR (8, 0, 0), vR (1, 0, 23), vR (1, 0, 24), vR (1, 0, 25), vR (1, 0, 26), vR (1, 0, 27), vR (1, 0, 28), vR (1, 0, 29), vR (1, 0, 30), vR (1, 0, 31), vR (1, 0, 32), vI v11, vI v12, vN, vN, vN, vN] [] μ)) : WS G eL_lines (d + 1) Z Q 357 [vR (8, 0, 0), vR (1, 0, 23), vR (1, 0, 24), vR (1, 0, 25), vR (1, 0, 26), vR (1, 0, 27), vR (1, 0, 28), vR (1, 0, 29), vR (1, 0, 30), vR (1, 0, 31), vR (1, 0, 32), vI v11, vI v12, vN, vN, vN, vN] [vI s1, vI s0] μ := WS.go okL_lines 308 h
set_option maxRecDepth 100000 in
set_option maxHeartbeats 4000000 in
theorem wL_lines_364 {G : xG} {d : Nat} {Z : xZ} {v11 : Int32} {v12 : Int32} {μ : xM} {Q : xP} (h : WS G eL_lines (d + 1) Z Q 365 [vR (8, 0, 0), vR (1, 0, 23), vR (1, 0, 24), vR (1, 0, 25), vR (1, 0, 26), vR (1, 0, 27), vR (1, 0, 28), vR (1, 0, 29), vR (1, 0, 30), vR (1, 0, 31), vR (1, 0, 32), vI v11, vI v12, vN, vN, vN, vN] [vI (0 : Int32)] μ) : WS G eL_lines (d + 1) Z Q 364 [vR (8, 0, 0), vR (1, 0, 23), vR (1, 0, 24), vR (1, 0, 25), vR (1, 0, 26), vR (1, 0, 27), vR (1, 0, 28), vR (1, 0, 29), vR (1, 0, 30), vR (1, 0, 31), vR (1, 0, 32), vI v11, vI v12, vN, vN, vN, vN] [] μ := WS.go okL_lines 308 h
set_option maxRecDepth 100000 in
set_option maxHeartbeats 4000000 in
theorem wL_lines_365 {G : xG} {d : Nat} {Z : xZ} {v11 : Int32} {v12 : Int32} {s0 : Int32} {μ : xM} {Q : xP} (h : xif (s0 = 0) (((0 : Int32) = 0 ∨ (0 : Int32) = 1) ∧ Q (some (vI (0 : Int32))) μ) (WS G eL_lines (d + 1) Z Q 6 [vR (8, 0, 0), vR (1, 0, 23), vR (1, 0, 24), vR (1, 0, 25), vR (1, 0, 26), vR (1, 0, 27), vR (1, 0, 28), vR (1, 0, 29), vR (1, 0, 30), vR (1, 0, 31), vR (1, 0, 32), vI v11, vI (v12 + (1 : Int32)), vN, vN, vN, vN] [] μ)) : WS G eL_lines (d + 1) Z Q 365 [vR (8, 0, 0), vR (1, 0, 23), vR (1, 0, 24), vR (1, 0, 25), vR (1, 0, 26), vR (1, 0, 27), vR (1, 0, 28), vR (1, 0, 29), vR (1, 0, 30), vR (1, 0, 31), vR (1, 0, 32), vI v11, vI v12, vN, vN, vN, vN] [vI s0] μ := WS.go okL_lines 308 h
set_option maxRecDepth 100000 in
set_option maxHeartbeats 4000000 in
theorem wL_lines_386 {G : xG} {d : Nat} {Z : xZ} {v11 : Int32} {v12 : Int32} {v13 : Int32} {μ : xM} {Q : xP} (h : vp_in (2 : Int32) 3 ∧ xif ((μ (1, 0, 32) (2 : Int32).toNatClampNeg) ≤ v13) (MW G d mX8_lines [vR (8, 0, 0)] μ (xrI fun x2 μ1 => vp_in (1 : Int32) 3 ∧ xif (x2 = (μ1 (1, 0, 32) (1 : Int32).toNatClampNeg)) (MW G d mX8_boxes [vR (8, 0, 0)] μ1 (xrI fun x4 μ3 => vp_in (2 : Int32) 3 ∧ xif (x4 = (μ3 (1, 0, 32) (2 : Int32).toNatClampNeg)) (MW G d mX8_depth [vR (8, 0, 0)] μ3 (xrI fun x6 μ5 => xif (x6 = v12) (MW G d mX8_detours [vR (8, 0, 0)] μ5 (xrI fun x8 μ7 => xif (x8 = v11) (((1 : Int32) = 0 ∨ (1 : Int32) = 1) ∧ Q (some (vI (1 : Int32))) μ7) (((0 : Int32) = 0 ∨ (0 : Int32) = 1) ∧ Q (some (vI (0 : Int32))) μ7))) (((0 : Int32) = 0 ∨ (0 : Int32) = 1) ∧ Q (some (vI (0 : Int32))) μ5))) (((0 : Int32) = 0 ∨ (0 : Int32) = 1) ∧ Q (some (vI (0 : Int32))) μ3))) (((0 : Int32) = 0 ∨ (0 : Int32) = 1) ∧ Q (some (vI (0 : Int32))) μ1))) (vp_in v13 48 ∧ xif (0 ≤ (μ (1, 0, 30) v13.toNatClampNeg)) (WS G eL_lines (d + 1) Z Q 410 [vR (8, 0, 0), vN, vN, vN, vN, vN, vN, vR (1, 0, 29), vR (1, 0, 30), vR (1, 0, 31), vR (1, 0, 32), vI v11, vN, vI v13, vN, vN, vN] [vI (0 : Int32), vI v12] μ) (WS G eL_lines (d + 1) Z Q 410 [vR (8, 0, 0), vN, vN, vN, vN, vN, vN, vR (1, 0, 29), vR (1, 0, 30), vR (1, 0, 31), vR (1, 0, 32), vI v11, vN, vI v13, vN, vN, vN] [vI (1 : Int32), vI v12] μ))) : WS G eL_lines (d + 1) Z Q 386 [vR (8, 0, 0), vN, vN, vN, vN, vN, vN, vR (1, 0, 29), vR (1, 0, 30), vR (1, 0, 31), vR (1, 0, 32), vI v11, vI v12, vI v13, vN, vN, vN] [] μ := WS.go okL_lines 308 h
set_option maxRecDepth 100000 in
set_option maxHeartbeats 4000000 in
theorem wL_lines_410 {G : xG} {d : Nat} {Z : xZ} {v11 : Int32} {v13 : Int32} {s0 : Int32} {s1 : Int32} {μ : xM} {Q : xP} (h : MW G d mX8_box [vR (8, 0, 0), vI v13, vI (0 : Int32)] μ (xrI fun x2 μ1 => vp_in v13 48 ∧ xif (x2 = (μ1 (1, 0, 29) v13.toNatClampNeg)) (MW G d mX8_box [vR (8, 0, 0), vI v13, vI (1 : Int32)] μ1 (xrI fun x4 μ3 => vp_in v13 48 ∧ xif (0 ≤ (μ3 (1, 0, 30) v13.toNatClampNeg)) (vp_in v13 48 ∧ WS G eL_lines (d + 1) Z Q 453 [vR (8, 0, 0), vN, vN, vN, vN, vN, vN, vR (1, 0, 29), vR (1, 0, 30), vR (1, 0, 31), vR (1, 0, 32), vI v11, vI (s0 + s1), vI v13, vN, vN, vN] [vI (μ3 (1, 0, 30) v13.toNatClampNeg), vI x4] μ3) (WS G eL_lines (d + 1) Z Q 453 [vR (8, 0, 0), vN, vN, vN, vN, vN, vN, vR (1, 0, 29), vR (1, 0, 30), vR (1, 0, 31), vR (1, 0, 32), vI v11, vI (s0 + s1), vI v13, vN, vN, vN] [vI (-6 : Int32), vI x4] μ3))) (((0 : Int32) = 0 ∨ (0 : Int32) = 1) ∧ Q (some (vI (0 : Int32))) μ1))) : WS G eL_lines (d + 1) Z Q 410 [vR (8, 0, 0), vN, vN, vN, vN, vN, vN, vR (1, 0, 29), vR (1, 0, 30), vR (1, 0, 31), vR (1, 0, 32), vI v11, vN, vI v13, vN, vN, vN] [vI s1, vI s0] μ := WS.go okL_lines 308 h
set_option maxRecDepth 100000 in
set_option maxHeartbeats 4000000 in
theorem wL_lines_453 {G : xG} {d : Nat} {Z : xZ} {v11 : Int32} {v12 : Int32} {v13 : Int32} {s0 : Int32} {s1 : Int32} {μ : xM} {Q : xP} (h : xif (s0 = s1) (MW G d mX8_box [vR (8, 0, 0), vI v13, vI (2 : Int32)] μ (xrI fun x2 μ1 => vp_in v13 48 ∧ xif (0 ≤ (μ1 (1, 0, 31) v13.toNatClampNeg)) (vp_in v13 48 ∧ WS G eL_lines (d + 1) Z Q 481 [vR (8, 0, 0), vN, vN, vN, vN, vN, vN, vR (1, 0, 29), vR (1, 0, 30), vR (1, 0, 31), vR (1, 0, 32), vI v11, vI v12, vI v13, vN, vN, vN] [vI (μ1 (1, 0, 31) v13.toNatClampNeg), vI x2] μ1) (WS G eL_lines (d + 1) Z Q 481 [vR (8, 0, 0), vN, vN, vN, vN, vN, vN, vR (1, 0, 29), vR (1, 0, 30), vR (1, 0, 31), vR (1, 0, 32), vI v11, vI v12, vI v13, vN, vN, vN] [vI (-6 : Int32), vI x2] μ1))) (((0 : Int32) = 0 ∨ (0 : Int32) = 1) ∧ Q (some (vI (0 : Int32))) μ)) : WS G eL_lines (d + 1) Z Q 453 [vR (8, 0, 0), vN, vN, vN, vN, vN, vN, vR (1, 0, 29), vR (1, 0, 30), vR (1, 0, 31), vR (1, 0, 32), vI v11, vI v12, vI v13, vN, vN, vN] [vI s1, vI s0] μ := WS.go okL_lines 308 h
set_option maxRecDepth 100000 in
set_option maxHeartbeats 4000000 in
theorem wL_lines_481 {G : xG} {d : Nat} {Z : xZ} {v11 : Int32} {v12 : Int32} {v13 : Int32} {s0 : Int32} {s1 : Int32} {μ : xM} {Q : xP} (h : xif (s0 = s1) (MW G d mX8_box [vR (8, 0, 0), vI v13, vI (3 : Int32)] μ (xrI fun x2 μ1 => vp_in v13 48 ∧ xif ((μ1 (1, 0, 30) v13.toNatClampNeg) < 0) (WS G eL_lines (d + 1) Z Q 518 [vR (8, 0, 0), vN, vN, vN, vN, vN, vN, vR (1, 0, 29), vR (1, 0, 30), vR (1, 0, 31), vR (1, 0, 32), vI v11, vI v12, vI v13, vN, vN, vN] [vI x2] μ1) (vp_in v13 48 ∧ MW G d mL_shut [vR (1, 0, 30), vR (1, 0, 31), vI (μ1 (1, 0, 31) v13.toNatClampNeg)] μ1 (xrI fun x4 μ3 => xif (x4 = 0) (xif (x2 = (1 : Int32)) (WS G eL_lines (d + 1) Z Q 386 [vR (8, 0, 0), vN, vN, vN, vN, vN, vN, vR (1, 0, 29), vR (1, 0, 30), vR (1, 0, 31), vR (1, 0, 32), vI v11, vI v12, vI (v13 + (1 : Int32)), vN, vN, vN] [] μ3) (((0 : Int32) = 0 ∨ (0 : Int32) = 1) ∧ Q (some (vI (0 : Int32))) μ3)) (WS G eL_lines (d + 1) Z Q 518 [vR (8, 0, 0), vN, vN, vN, vN, vN, vN, vR (1, 0, 29), vR (1, 0, 30), vR (1, 0, 31), vR (1, 0, 32), vI v11, vI v12, vI v13, vN, vN, vN] [vI x2] μ3))))) (((0 : Int32) = 0 ∨ (0 : Int32) = 1) ∧ Q (some (vI (0 : Int32))) μ)) : WS G eL_lines (d + 1) Z Q 481 [vR (8, 0, 0), vN, vN, vN, vN, vN, vN, vR (1, 0, 29), vR (1, 0, 30), vR (1, 0, 31), vR (1, 0, 32), vI v11, vI v12, vI v13, vN, vN, vN] [vI s1, vI s0] μ := WS.go okL_lines 308 h
set_option maxRecDepth 100000 in
set_option maxHeartbeats 4000000 in
theorem wL_lines_518 {G : xG} {d : Nat} {Z : xZ} {v11 : Int32} {v12 : Int32} {v13 : Int32} {s0 : Int32} {μ : xM} {Q : xP} (h : xif (s0 = (0 : Int32)) (WS G eL_lines (d + 1) Z Q 386 [vR (8, 0, 0), vN, vN, vN, vN, vN, vN, vR (1, 0, 29), vR (1, 0, 30), vR (1, 0, 31), vR (1, 0, 32), vI v11, vI v12, vI (v13 + (1 : Int32)), vN, vN, vN] [] μ) (((0 : Int32) = 0 ∨ (0 : Int32) = 1) ∧ Q (some (vI (0 : Int32))) μ)) : WS G eL_lines (d + 1) Z Q 518 [vR (8, 0, 0), vN, vN, vN, vN, vN, vN, vR (1, 0, 29), vR (1, 0, 30), vR (1, 0, 31), vR (1, 0, 32), vI v11, vI v12, vI v13, vN, vN, vN] [vI s0] μ := WS.go okL_lines 308 h
set_option maxRecDepth 100000 in
set_option maxHeartbeats 4000000 in
theorem wL_follows {G : xG} {d : Nat} {a11 : Int32} {a12 : Int32} {μ : xM} {Q : xP} (h : ∀ Z : xZ, WS G eL_follows (d + 1) Z Q 13 [vR (8, 0, 0), vR (1, 0, 20), vR (1, 0, 21), vR (1, 0, 22), vR (1, 0, 23), vR (1, 0, 24), vR (1, 0, 28), vR (1, 0, 29), vR (1, 0, 30), vR (1, 0, 31), vR (1, 0, 32), vI a11, vI a12, vI (-6 : Int32), vI (-6 : Int32), vI (255 : Int32), vN, vN, vN, vN, vN, vN] [] μ) : MW G (d + 1) mL_follows [vR (8, 0, 0), vR (1, 0, 20), vR (1, 0, 21), vR (1, 0, 22), vR (1, 0, 23), vR (1, 0, 24), vR (1, 0, 28), vR (1, 0, 29), vR (1, 0, 30), vR (1, 0, 31), vR (1, 0, 32), vI a11, vI a12] μ Q := MW.of (E := eL_follows) okL_follows (Nat.le_of_ble_eq_true rfl) fun Z => WS.go okL_follows 162 (h Z)
set_option maxRecDepth 100000 in
set_option maxHeartbeats 4000000 in
theorem wL_follows_13 {G : xG} {d : Nat} {Z : xZ} {v11 : Int32} {v12 : Int32} {v13 : Int32} {v14 : Int32} {v15 : Int32} {μ : xM} {Q : xP} (h : xif (v15 < 0) (xif (v13 = (-6 : Int32)) (MW G d mX8_failure [vR (8, 0, 0), vI v12] μ (xrI fun x2 μ1 => xif (x2 = v13) (MW G d mX8_counterexample [vR (8, 0, 0), vI v11] μ1 (xrI fun x4 μ3 => xif (x4 = v14) (((1 : Int32) = 0 ∨ (1 : Int32) = 1) ∧ Q (some (vI (1 : Int32))) μ3) (((0 : Int32) = 0 ∨ (0 : Int32) = 1) ∧ Q (some (vI (0 : Int32))) μ3))) (((0 : Int32) = 0 ∨ (0 : Int32) = 1) ∧ Q (some (vI (0 : Int32))) μ1))) (((0 : Int32) = 0 ∨ (0 : Int32) = 1) ∧ Q (some (vI (0 : Int32))) μ)) (MW G d mL_truth [vR (1, 0, 20), vR (1, 0, 21), vR (1, 0, 22), vR (1, 0, 32), vI v15] μ (xrL fun y6 μ5 => WS G eL_follows (d + 1) Z Q 39 [vR (8, 0, 0), vR (1, 0, 20), vR (1, 0, 21), vR (1, 0, 22), vR (1, 0, 23), vR (1, 0, 24), vR (1, 0, 28), vR (1, 0, 29), vR (1, 0, 30), vR (1, 0, 31), vR (1, 0, 32), vI v11, vI v12, vI v13, vI v14, vI v15, vL y6, vN, vI (1 : Int32), vI (1 : Int32), vI (0 : Int32), vN] [] μ5))) : WS G eL_follows (d + 1) Z Q 13 [vR (8, 0, 0), vR (1, 0, 20), vR (1, 0, 21), vR (1, 0, 22), vR (1, 0, 23), vR (1, 0, 24), vR (1, 0, 28), vR (1, 0, 29), vR (1, 0, 30), vR (1, 0, 31), vR (1, 0, 32), vI v11, vI v12, vI v13, vI v14, vI v15, vN, vN, vN, vN, vN, vN] [] μ := WS.go okL_follows 162 h
set_option maxRecDepth 100000 in
set_option maxHeartbeats 4000000 in
theorem wL_follows_39 {G : xG} {d : Nat} {Z : xZ} {v11 : Int32} {v12 : Int32} {v13 : Int32} {v14 : Int32} {v15 : Int32} {v16 : Int64} {v18 : Int32} {v19 : Int32} {v20 : Int32} {μ : xM} {Q : xP} (h : vp_in (1 : Int32) 3 ∧ xif ((μ (1, 0, 32) (1 : Int32).toNatClampNeg) ≤ v20) (vp_in v12 48 ∧ WS G eL_follows (d + 1) Z Q 148 [vR (8, 0, 0), vR (1, 0, 20), vR (1, 0, 21), vR (1, 0, 22), vR (1, 0, 23), vR (1, 0, 24), vR (1, 0, 28), vR (1, 0, 29), vR (1, 0, 30), vR (1, 0, 31), vR (1, 0, 32), vI v11, vI v12, vI v13, vI v14, vI v15, vL v16, vN, vI v18, vI v19, vI (1 : Int32), vI (μ (1, 0, 28) v12.toNatClampNeg)] [] μ) (vp_in v20 48 ∧ xif ((lg_cmp (((xlr v16 ((μ (1, 0, 23) v20.toNatClampNeg))) &&& (1 : Int64))) (1 : Int64)) = 0) (WS G eL_follows (d + 1) Z Q 68 [vR (8, 0, 0), vR (1, 0, 20), vR (1, 0, 21), vR (1, 0, 22), vR (1, 0, 23), vR (1, 0, 24), vR (1, 0, 28), vR (1, 0, 29), vR (1, 0, 30), vR (1, 0, 31), vR (1, 0, 32), vI v11, vI v12, vI v13, vI v14, vI v15, vL v16, vN, vI v18, vI v19, vI v20, vN] [vI (1 : Int32)] μ) (WS G eL_follows (d + 1) Z Q 68 [vR (8, 0, 0), vR (1, 0, 20), vR (1, 0, 21), vR (1, 0, 22), vR (1, 0, 23), vR (1, 0, 24), vR (1, 0, 28), vR (1, 0, 29), vR (1, 0, 30), vR (1, 0, 31), vR (1, 0, 32), vI v11, vI v12, vI v13, vI v14, vI v15, vL v16, vN, vI v18, vI v19, vI v20, vN] [vI (0 : Int32)] μ))) : WS G eL_follows (d + 1) Z Q 39 [vR (8, 0, 0), vR (1, 0, 20), vR (1, 0, 21), vR (1, 0, 22), vR (1, 0, 23), vR (1, 0, 24), vR (1, 0, 28), vR (1, 0, 29), vR (1, 0, 30), vR (1, 0, 31), vR (1, 0, 32), vI v11, vI v12, vI v13, vI v14, vI v15, vL v16, vN, vI v18, vI v19, vI v20, vN] [] μ := WS.go okL_follows 162 h
set_option maxRecDepth 100000 in
set_option maxHeartbeats 4000000 in
theorem wL_follows_68 {G : xG} {d : Nat} {Z : xZ} {v11 : Int32} {v12 : Int32} {v13 : Int32} {v14 : Int32} {v15 : Int32} {v16 : Int64} {v18 : Int32} {v19 : Int32} {v20 : Int32} {s0 : Int32} {μ : xM} {Q : xP} (h : xif (v18 = 0) (WS G eL_follows (d + 1) Z Q 92 [vR (8, 0, 0), vR (1, 0, 20), vR (1, 0, 21), vR (1, 0, 22), vR (1, 0, 23), vR (1, 0, 24), vR (1, 0, 28), vR (1, 0, 29), vR (1, 0, 30), vR (1, 0, 31), vR (1, 0, 32), vI v11, vI v12, vI v13, vI v14, vI v15, vL v16, vN, vN, vI v19, vI v20, vI s0] [] μ) (vp_in v20 48 ∧ xif ((μ (1, 0, 24) v20.toNatClampNeg) = 0) (xif (s0 = 0) (WS G eL_follows (d + 1) Z Q 92 [vR (8, 0, 0), vR (1, 0, 20), vR (1, 0, 21), vR (1, 0, 22), vR (1, 0, 23), vR (1, 0, 24), vR (1, 0, 28), vR (1, 0, 29), vR (1, 0, 30), vR (1, 0, 31), vR (1, 0, 32), vI v11, vI v12, vI v13, vI v14, vI v15, vL v16, vN, vN, vI v19, vI v20, vI s0] [] μ) (WS G eL_follows (d + 1) Z Q 88 [vR (8, 0, 0), vR (1, 0, 20), vR (1, 0, 21), vR (1, 0, 22), vR (1, 0, 23), vR (1, 0, 24), vR (1, 0, 28), vR (1, 0, 29), vR (1, 0, 30), vR (1, 0, 31), vR (1, 0, 32), vI v11, vI v12, vI v13, vI v14, vI v15, vL v16, vN, vN, vI v19, vI v20, vI s0] [] μ)) (WS G eL_follows (d + 1) Z Q 88 [vR (8, 0, 0), vR (1, 0, 20), vR (1, 0, 21), vR (1, 0, 22), vR (1, 0, 23), vR (1, 0, 24), vR (1, 0, 28), vR (1, 0, 29), vR (1, 0, 30), vR (1, 0, 31), vR (1, 0, 32), vI v11, vI v12, vI v13, vI v14, vI v15, vL v16, vN, vN, vI v19, vI v20, vI s0] [] μ))) : WS G eL_follows (d + 1) Z Q 68 [vR (8, 0, 0), vR (1, 0, 20), vR (1, 0, 21), vR (1, 0, 22), vR (1, 0, 23), vR (1, 0, 24), vR (1, 0, 28), vR (1, 0, 29), vR (1, 0, 30), vR (1, 0, 31), vR (1, 0, 32), vI v11, vI v12, vI v13, vI v14, vI v15, vL v16, vN, vI v18, vI v19, vI v20, vN] [vI s0] μ := WS.go okL_follows 162 h
set_option maxRecDepth 100000 in
set_option maxHeartbeats 4000000 in
theorem wL_follows_88 {G : xG} {d : Nat} {Z : xZ} {v11 : Int32} {v12 : Int32} {v13 : Int32} {v14 : Int32} {v15 : Int32} {v16 : Int64} {v19 : Int32} {v20 : Int32} {v21 : Int32} {μ : xM} {Q : xP} (h : WS G eL_follows (d + 1) Z Q 93 [vR (8, 0, 0), vR (1, 0, 20), vR (1, 0, 21), vR (1, 0, 22), vR (1, 0, 23), vR (1, 0, 24), vR (1, 0, 28), vR (1, 0, 29), vR (1, 0, 30), vR (1, 0, 31), vR (1, 0, 32), vI v11, vI v12, vI v13, vI v14, vI v15, vL v16, vN, vN, vI v19, vI v20, vI v21] [vI (1 : Int32)] μ) : WS G eL_follows (d + 1) Z Q 88 [vR (8, 0, 0), vR (1, 0, 20), vR (1, 0, 21), vR (1, 0, 22), vR (1, 0, 23), vR (1, 0, 24), vR (1, 0, 28), vR (1, 0, 29), vR (1, 0, 30), vR (1, 0, 31), vR (1, 0, 32), vI v11, vI v12, vI v13, vI v14, vI v15, vL v16, vN, vN, vI v19, vI v20, vI v21] [] μ := WS.go okL_follows 162 h
set_option maxRecDepth 100000 in
set_option maxHeartbeats 4000000 in
theorem wL_follows_92 {G : xG} {d : Nat} {Z : xZ} {v11 : Int32} {v12 : Int32} {v13 : Int32} {v14 : Int32} {v15 : Int32} {v16 : Int64} {v19 : Int32} {v20 : Int32} {v21 : Int32} {μ : xM} {Q : xP} (h : WS G eL_follows (d + 1) Z Q 93 [vR (8, 0, 0), vR (1, 0, 20), vR (1, 0, 21), vR (1, 0, 22), vR (1, 0, 23), vR (1, 0, 24), vR (1, 0, 28), vR (1, 0, 29), vR (1, 0, 30), vR (1, 0, 31), vR (1, 0, 32), vI v11, vI v12, vI v13, vI v14, vI v15, vL v16, vN, vN, vI v19, vI v20, vI v21] [vI (0 : Int32)] μ) : WS G eL_follows (d + 1) Z Q 92 [vR (8, 0, 0), vR (1, 0, 20), vR (1, 0, 21), vR (1, 0, 22), vR (1, 0, 23), vR (1, 0, 24), vR (1, 0, 28), vR (1, 0, 29), vR (1, 0, 30), vR (1, 0, 31), vR (1, 0, 32), vI v11, vI v12, vI v13, vI v14, vI v15, vL v16, vN, vN, vI v19, vI v20, vI v21] [] μ := WS.go okL_follows 162 h
set_option maxRecDepth 100000 in
set_option maxHeartbeats 4000000 in
theorem wL_follows_93 {G : xG} {d : Nat} {Z : xZ} {v11 : Int32} {v12 : Int32} {v13 : Int32} {v14 : Int32} {v15 : Int32} {v16 : Int64} {v19 : Int32} {v20 : Int32} {v21 : Int32} {s0 : Int32} {μ : xM} {Q : xP} (h : xif (v19 = 0) (WS G eL_follows (d + 1) Z Q 129 [vR (8, 0, 0), vR (1, 0, 20), vR (1, 0, 21), vR (1, 0, 22), vR (1, 0, 23), vR (1, 0, 24), vR (1, 0, 28), vR (1, 0, 29), vR (1, 0, 30), vR (1, 0, 31), vR (1, 0, 32), vI v11, vI v12, vI v13, vI v14, vI v15, vL v16, vN, vI s0, vN, vI v20, vN] [] μ) (vp_in v20 48 ∧ xif ((μ (1, 0, 24) v20.toNatClampNeg) = (1 : Int32)) (vp_in v20 48 ∧ vp_in ((μ (1, 0, 28) v20.toNatClampNeg)) 48 ∧ xif (0 ≤ (μ (1, 0, 30) ((μ (1, 0, 28) v20.toNatClampNeg)).toNatClampNeg)) (WS G eL_follows (d + 1) Z Q 125 [vR (8, 0, 0), vR (1, 0, 20), vR (1, 0, 21), vR (1, 0, 22), vR (1, 0, 23), vR (1, 0, 24), vR (1, 0, 28), vR (1, 0, 29), vR (1, 0, 30), vR (1, 0, 31), vR (1, 0, 32), vI v11, vI v12, vI v13, vI v14, vI v15, vL v16, vN, vI s0, vN, vI v20, vN] [] μ) (xif (v21 = 0) (WS G eL_follows (d + 1) Z Q 129 [vR (8, 0, 0), vR (1, 0, 20), vR (1, 0, 21), vR (1, 0, 22), vR (1, 0, 23), vR (1, 0, 24), vR (1, 0, 28), vR (1, 0, 29), vR (1, 0, 30), vR (1, 0, 31), vR (1, 0, 32), vI v11, vI v12, vI v13, vI v14, vI v15, vL v16, vN, vI s0, vN, vI v20, vN] [] μ) (WS G eL_follows (d + 1) Z Q 125 [vR (8, 0, 0), vR (1, 0, 20), vR (1, 0, 21), vR (1, 0, 22), vR (1, 0, 23), vR (1, 0, 24), vR (1, 0, 28), vR (1, 0, 29), vR (1, 0, 30), vR (1, 0, 31), vR (1, 0, 32), vI v11, vI v12, vI v13, vI v14, vI v15, vL v16, vN, vI s0, vN, vI v20, vN] [] μ))) (WS G eL_follows (d + 1) Z Q 125 [vR (8, 0, 0), vR (1, 0, 20), vR (1, 0, 21), vR (1, 0, 22), vR (1, 0, 23), vR (1, 0, 24), vR (1, 0, 28), vR (1, 0, 29), vR (1, 0, 30), vR (1, 0, 31), vR (1, 0, 32), vI v11, vI v12, vI v13, vI v14, vI v15, vL v16, vN, vI s0, vN, vI v20, vN] [] μ))) : WS G eL_follows (d + 1) Z Q 93 [vR (8, 0, 0), vR (1, 0, 20), vR (1, 0, 21), vR (1, 0, 22), vR (1, 0, 23), vR (1, 0, 24), vR (1, 0, 28), vR (1, 0, 29), vR (1, 0, 30), vR (1, 0, 31), vR (1, 0, 32), vI v11, vI v12, vI v13, vI v14, vI v15, vL v16, vN, vN, vI v19, vI v20, vI v21] [vI s0] μ := WS.go okL_follows 162 h
set_option maxRecDepth 100000 in
set_option maxHeartbeats 4000000 in
theorem wL_follows_125 {G : xG} {d : Nat} {Z : xZ} {v11 : Int32} {v12 : Int32} {v13 : Int32} {v14 : Int32} {v15 : Int32} {v16 : Int64} {v18 : Int32} {v20 : Int32} {μ : xM} {Q : xP} (h : WS G eL_follows (d + 1) Z Q 130 [vR (8, 0, 0), vR (1, 0, 20), vR (1, 0, 21), vR (1, 0, 22), vR (1, 0, 23), vR (1, 0, 24), vR (1, 0, 28), vR (1, 0, 29), vR (1, 0, 30), vR (1, 0, 31), vR (1, 0, 32), vI v11, vI v12, vI v13, vI v14, vI v15, vL v16, vN, vI v18, vN, vI v20, vN] [vI (1 : Int32)] μ) : WS G eL_follows (d + 1) Z Q 125 [vR (8, 0, 0), vR (1, 0, 20), vR (1, 0, 21), vR (1, 0, 22), vR (1, 0, 23), vR (1, 0, 24), vR (1, 0, 28), vR (1, 0, 29), vR (1, 0, 30), vR (1, 0, 31), vR (1, 0, 32), vI v11, vI v12, vI v13, vI v14, vI v15, vL v16, vN, vI v18, vN, vI v20, vN] [] μ := WS.go okL_follows 162 h
set_option maxRecDepth 100000 in
set_option maxHeartbeats 4000000 in
theorem wL_follows_129 {G : xG} {d : Nat} {Z : xZ} {v11 : Int32} {v12 : Int32} {v13 : Int32} {v14 : Int32} {v15 : Int32} {v16 : Int64} {v18 : Int32} {v20 : Int32} {μ : xM} {Q : xP} (h : WS G eL_follows (d + 1) Z Q 130 [vR (8, 0, 0), vR (1, 0, 20), vR (1, 0, 21), vR (1, 0, 22), vR (1, 0, 23), vR (1, 0, 24), vR (1, 0, 28), vR (1, 0, 29), vR (1, 0, 30), vR (1, 0, 31), vR (1, 0, 32), vI v11, vI v12, vI v13, vI v14, vI v15, vL v16, vN, vI v18, vN, vI v20, vN] [vI (0 : Int32)] μ) : WS G eL_follows (d + 1) Z Q 129 [vR (8, 0, 0), vR (1, 0, 20), vR (1, 0, 21), vR (1, 0, 22), vR (1, 0, 23), vR (1, 0, 24), vR (1, 0, 28), vR (1, 0, 29), vR (1, 0, 30), vR (1, 0, 31), vR (1, 0, 32), vI v11, vI v12, vI v13, vI v14, vI v15, vL v16, vN, vI v18, vN, vI v20, vN] [] μ := WS.go okL_follows 162 h
set_option maxRecDepth 100000 in
set_option maxHeartbeats 4000000 in
theorem wL_follows_130 {G : xG} {d : Nat} {Z : xZ} {v11 : Int32} {v12 : Int32} {v13 : Int32} {v14 : Int32} {v15 : Int32} {v16 : Int64} {v18 : Int32} {v20 : Int32} {s0 : Int32} {μ : xM} {Q : xP} (h : WS G eL_follows (d + 1) Z Q 39 [vR (8, 0, 0), vR (1, 0, 20), vR (1, 0, 21), vR (1, 0, 22), vR (1, 0, 23), vR (1, 0, 24), vR (1, 0, 28), vR (1, 0, 29), vR (1, 0, 30), vR (1, 0, 31), vR (1, 0, 32), vI v11, vI v12, vI v13, vI v14, vI v15, vL v16, vN, vI v18, vI s0, vI (v20 + (1 : Int32)), vN] [] μ) : WS G eL_follows (d + 1) Z Q 130 [vR (8, 0, 0), vR (1, 0, 20), vR (1, 0, 21), vR (1, 0, 22), vR (1, 0, 23), vR (1, 0, 24), vR (1, 0, 28), vR (1, 0, 29), vR (1, 0, 30), vR (1, 0, 31), vR (1, 0, 32), vI v11, vI v12, vI v13, vI v14, vI v15, vL v16, vN, vI v18, vN, vI v20, vN] [vI s0] μ := WS.go okL_follows 162 h
set_option maxRecDepth 100000 in
set_option maxHeartbeats 4000000 in
theorem wL_follows_148 {G : xG} {d : Nat} {Z : xZ} {v11 : Int32} {v12 : Int32} {v13 : Int32} {v14 : Int32} {v15 : Int32} {v16 : Int64} {v18 : Int32} {v19 : Int32} {v20 : Int32} {v21 : Int32} {μ : xM} {Q : xP} (h : xif (v21 < 0) (xif (v18 = 0) (WS G eL_follows (d + 1) Z Q 223 [vR (8, 0, 0), vR (1, 0, 20), vR (1, 0, 21), vR (1, 0, 22), vR (1, 0, 23), vR (1, 0, 24), vR (1, 0, 28), vR (1, 0, 29), vR (1, 0, 30), vR (1, 0, 31), vR (1, 0, 32), vI v11, vI v12, vI v13, vI v14, vI v15, vL v16, vN, vI v18, vI v19, vN, vN] [] μ) (xif (v20 = 0) (WS G eL_follows (d + 1) Z Q 223 [vR (8, 0, 0), vR (1, 0, 20), vR (1, 0, 21), vR (1, 0, 22), vR (1, 0, 23), vR (1, 0, 24), vR (1, 0, 28), vR (1, 0, 29), vR (1, 0, 30), vR (1, 0, 31), vR (1, 0, 32), vI v11, vI v12, vI v13, vI v14, vI v15, vL v16, vN, vI v18, vI v19, vN, vN] [] μ) (vp_in v12 48 ∧ xif ((lg_cmp (((xlr v16 ((μ (1, 0, 23) v12.toNatClampNeg))) &&& (1 : Int64))) (0 : Int64)) = 0) (WS G eL_follows (d + 1) Z Q 225 [vR (8, 0, 0), vR (1, 0, 20), vR (1, 0, 21), vR (1, 0, 22), vR (1, 0, 23), vR (1, 0, 24), vR (1, 0, 28), vR (1, 0, 29), vR (1, 0, 30), vR (1, 0, 31), vR (1, 0, 32), vI v11, vI v12, vN, vI v14, vI v15, vL v16, vN, vI v18, vI v19, vN, vN] [vI v15] μ) (WS G eL_follows (d + 1) Z Q 223 [vR (8, 0, 0), vR (1, 0, 20), vR (1, 0, 21), vR (1, 0, 22), vR (1, 0, 23), vR (1, 0, 24), vR (1, 0, 28), vR (1, 0, 29), vR (1, 0, 30), vR (1, 0, 31), vR (1, 0, 32), vI v11, vI v12, vI v13, vI v14, vI v15, vL v16, vN, vI v18, vI v19, vN, vN] [] μ)))) (xif (v20 = 0) (WS G eL_follows (d + 1) Z Q 180 [vR (8, 0, 0), vR (1, 0, 20), vR (1, 0, 21), vR (1, 0, 22), vR (1, 0, 23), vR (1, 0, 24), vR (1, 0, 28), vR (1, 0, 29), vR (1, 0, 30), vR (1, 0, 31), vR (1, 0, 32), vI v11, vI v12, vI v13, vI v14, vI v15, vL v16, vN, vI v18, vI v19, vN, vI v21] [] μ) (vp_in v21 48 ∧ vp_in ((μ (1, 0, 29) v21.toNatClampNeg)) 48 ∧ xif ((lg_cmp (((xlr v16 ((μ (1, 0, 23) ((μ (1, 0, 29) v21.toNatClampNeg)).toNatClampNeg))) &&& (1 : Int64))) (1 : Int64)) = 0) (WS G eL_follows (d + 1) Z Q 181 [vR (8, 0, 0), vR (1, 0, 20), vR (1, 0, 21), vR (1, 0, 22), vR (1, 0, 23), vR (1, 0, 24), vR (1, 0, 28), vR (1, 0, 29), vR (1, 0, 30), vR (1, 0, 31), vR (1, 0, 32), vI v11, vI v12, vI v13, vI v14, vI v15, vL v16, vN, vI v18, vI v19, vN, vI v21] [vI (1 : Int32)] μ) (WS G eL_follows (d + 1) Z Q 180 [vR (8, 0, 0), vR (1, 0, 20), vR (1, 0, 21), vR (1, 0, 22), vR (1, 0, 23), vR (1, 0, 24), vR (1, 0, 28), vR (1, 0, 29), vR (1, 0, 30), vR (1, 0, 31), vR (1, 0, 32), vI v11, vI v12, vI v13, vI v14, vI v15, vL v16, vN, vI v18, vI v19, vN, vI v21] [] μ)))) : WS G eL_follows (d + 1) Z Q 148 [vR (8, 0, 0), vR (1, 0, 20), vR (1, 0, 21), vR (1, 0, 22), vR (1, 0, 23), vR (1, 0, 24), vR (1, 0, 28), vR (1, 0, 29), vR (1, 0, 30), vR (1, 0, 31), vR (1, 0, 32), vI v11, vI v12, vI v13, vI v14, vI v15, vL v16, vN, vI v18, vI v19, vI v20, vI v21] [] μ := WS.go okL_follows 162 h
set_option maxRecDepth 100000 in
set_option maxHeartbeats 4000000 in
theorem wL_follows_180 {G : xG} {d : Nat} {Z : xZ} {v11 : Int32} {v12 : Int32} {v13 : Int32} {v14 : Int32} {v15 : Int32} {v16 : Int64} {v18 : Int32} {v19 : Int32} {v21 : Int32} {μ : xM} {Q : xP} (h : WS G eL_follows (d + 1) Z Q 181 [vR (8, 0, 0), vR (1, 0, 20), vR (1, 0, 21), vR (1, 0, 22), vR (1, 0, 23), vR (1, 0, 24), vR (1, 0, 28), vR (1, 0, 29), vR (1, 0, 30), vR (1, 0, 31), vR (1, 0, 32), vI v11, vI v12, vI v13, vI v14, vI v15, vL v16, vN, vI v18, vI v19, vN, vI v21] [vI (0 : Int32)] μ) : WS G eL_follows (d + 1) Z Q 180 [vR (8, 0, 0), vR (1, 0, 20), vR (1, 0, 21), vR (1, 0, 22), vR (1, 0, 23), vR (1, 0, 24), vR (1, 0, 28), vR (1, 0, 29), vR (1, 0, 30), vR (1, 0, 31), vR (1, 0, 32), vI v11, vI v12, vI v13, vI v14, vI v15, vL v16, vN, vI v18, vI v19, vN, vI v21] [] μ := WS.go okL_follows 162 h
set_option maxRecDepth 100000 in
set_option maxHeartbeats 4000000 in
theorem wL_follows_181 {G : xG} {d : Nat} {Z : xZ} {v11 : Int32} {v12 : Int32} {v13 : Int32} {v14 : Int32} {v15 : Int32} {v16 : Int64} {v18 : Int32} {v19 : Int32} {v21 : Int32} {s0 : Int32} {μ : xM} {Q : xP} (h : vp_in v21 48 ∧ WS G eL_follows (d + 1) Z Q 148 [vR (8, 0, 0), vR (1, 0, 20), vR (1, 0, 21), vR (1, 0, 22), vR (1, 0, 23), vR (1, 0, 24), vR (1, 0, 28), vR (1, 0, 29), vR (1, 0, 30), vR (1, 0, 31), vR (1, 0, 32), vI v11, vI v12, vI v13, vI v14, vI v15, vL v16, vN, vI v18, vI v19, vI s0, vI (μ (1, 0, 31) v21.toNatClampNeg)] [] μ) : WS G eL_follows (d + 1) Z Q 181 [vR (8, 0, 0), vR (1, 0, 20), vR (1, 0, 21), vR (1, 0, 22), vR (1, 0, 23), vR (1, 0, 24), vR (1, 0, 28), vR (1, 0, 29), vR (1, 0, 30), vR (1, 0, 31), vR (1, 0, 32), vI v11, vI v12, vI v13, vI v14, vI v15, vL v16, vN, vI v18, vI v19, vN, vI v21] [vI s0] μ := WS.go okL_follows 162 h
set_option maxRecDepth 100000 in
set_option maxHeartbeats 4000000 in
theorem wL_follows_223 {G : xG} {d : Nat} {Z : xZ} {v11 : Int32} {v12 : Int32} {v13 : Int32} {v14 : Int32} {v15 : Int32} {v16 : Int64} {v18 : Int32} {v19 : Int32} {μ : xM} {Q : xP} (h : WS G eL_follows (d + 1) Z Q 225 [vR (8, 0, 0), vR (1, 0, 20), vR (1, 0, 21), vR (1, 0, 22), vR (1, 0, 23), vR (1, 0, 24), vR (1, 0, 28), vR (1, 0, 29), vR (1, 0, 30), vR (1, 0, 31), vR (1, 0, 32), vI v11, vI v12, vN, vI v14, vI v15, vL v16, vN, vI v18, vI v19, vN, vN] [vI v13] μ) : WS G eL_follows (d + 1) Z Q 223 [vR (8, 0, 0), vR (1, 0, 20), vR (1, 0, 21), vR (1, 0, 22), vR (1, 0, 23), vR (1, 0, 24), vR (1, 0, 28), vR (1, 0, 29), vR (1, 0, 30), vR (1, 0, 31), vR (1, 0, 32), vI v11, vI v12, vI v13, vI v14, vI v15, vL v16, vN, vI v18, vI v19, vN, vN] [] μ := WS.go okL_follows 162 h
set_option maxRecDepth 100000 in
set_option maxHeartbeats 4000000 in
theorem wL_follows_225 {G : xG} {d : Nat} {Z : xZ} {v11 : Int32} {v12 : Int32} {v14 : Int32} {v15 : Int32} {v16 : Int64} {v18 : Int32} {v19 : Int32} {s0 : Int32} {μ : xM} {Q : xP} (h : xif (v18 = 0) (WS G eL_follows (d + 1) Z Q 254 [vR (8, 0, 0), vR (1, 0, 20), vR (1, 0, 21), vR (1, 0, 22), vR (1, 0, 23), vR (1, 0, 24), vR (1, 0, 28), vR (1, 0, 29), vR (1, 0, 30), vR (1, 0, 31), vR (1, 0, 32), vI v11, vI v12, vI s0, vI v14, vI v15, vN, vN, vN, vN, vN, vN] [] μ) (xif (v19 = 0) (WS G eL_follows (d + 1) Z Q 254 [vR (8, 0, 0), vR (1, 0, 20), vR (1, 0, 21), vR (1, 0, 22), vR (1, 0, 23), vR (1, 0, 24), vR (1, 0, 28), vR (1, 0, 29), vR (1, 0, 30), vR (1, 0, 31), vR (1, 0, 32), vI v11, vI v12, vI s0, vI v14, vI v15, vN, vN, vN, vN, vN, vN] [] μ) (xif ((lg_cmp (((xlr v16 v11) &&& (1 : Int64))) (0 : Int64)) = 0) (WS G eL_follows (d + 1) Z Q 256 [vR (8, 0, 0), vR (1, 0, 20), vR (1, 0, 21), vR (1, 0, 22), vR (1, 0, 23), vR (1, 0, 24), vR (1, 0, 28), vR (1, 0, 29), vR (1, 0, 30), vR (1, 0, 31), vR (1, 0, 32), vI v11, vI v12, vI s0, vN, vI v15, vN, vN, vN, vN, vN, vN] [vI v15] μ) (WS G eL_follows (d + 1) Z Q 254 [vR (8, 0, 0), vR (1, 0, 20), vR (1, 0, 21), vR (1, 0, 22), vR (1, 0, 23), vR (1, 0, 24), vR (1, 0, 28), vR (1, 0, 29), vR (1, 0, 30), vR (1, 0, 31), vR (1, 0, 32), vI v11, vI v12, vI s0, vI v14, vI v15, vN, vN, vN, vN, vN, vN] [] μ)))) : WS G eL_follows (d + 1) Z Q 225 [vR (8, 0, 0), vR (1, 0, 20), vR (1, 0, 21), vR (1, 0, 22), vR (1, 0, 23), vR (1, 0, 24), vR (1, 0, 28), vR (1, 0, 29), vR (1, 0, 30), vR (1, 0, 31), vR (1, 0, 32), vI v11, vI v12, vN, vI v14, vI v15, vL v16, vN, vI v18, vI v19, vN, vN] [vI s0] μ := WS.go okL_follows 162 h
set_option maxRecDepth 100000 in
set_option maxHeartbeats 4000000 in
theorem wL_follows_254 {G : xG} {d : Nat} {Z : xZ} {v11 : Int32} {v12 : Int32} {v13 : Int32} {v14 : Int32} {v15 : Int32} {μ : xM} {Q : xP} (h : WS G eL_follows (d + 1) Z Q 256 [vR (8, 0, 0), vR (1, 0, 20), vR (1, 0, 21), vR (1, 0, 22), vR (1, 0, 23), vR (1, 0, 24), vR (1, 0, 28), vR (1, 0, 29), vR (1, 0, 30), vR (1, 0, 31), vR (1, 0, 32), vI v11, vI v12, vI v13, vN, vI v15, vN, vN, vN, vN, vN, vN] [vI v14] μ) : WS G eL_follows (d + 1) Z Q 254 [vR (8, 0, 0), vR (1, 0, 20), vR (1, 0, 21), vR (1, 0, 22), vR (1, 0, 23), vR (1, 0, 24), vR (1, 0, 28), vR (1, 0, 29), vR (1, 0, 30), vR (1, 0, 31), vR (1, 0, 32), vI v11, vI v12, vI v13, vI v14, vI v15, vN, vN, vN, vN, vN, vN] [] μ := WS.go okL_follows 162 h
set_option maxRecDepth 100000 in
set_option maxHeartbeats 4000000 in
theorem wL_follows_256 {G : xG} {d : Nat} {Z : xZ} {v11 : Int32} {v12 : Int32} {v13 : Int32} {v15 : Int32} {s0 : Int32} {μ : xM} {Q : xP} (h : WS G eL_follows (d + 1) Z Q 13 [vR (8, 0, 0), vR (1, 0, 20), vR (1, 0, 21), vR (1, 0, 22), vR (1, 0, 23), vR (1, 0, 24), vR (1, 0, 28), vR (1, 0, 29), vR (1, 0, 30), vR (1, 0, 31), vR (1, 0, 32), vI v11, vI v12, vI v13, vI s0, vI (v15 + (-1 : Int32)), vN, vN, vN, vN, vN, vN] [] μ) : WS G eL_follows (d + 1) Z Q 256 [vR (8, 0, 0), vR (1, 0, 20), vR (1, 0, 21), vR (1, 0, 22), vR (1, 0, 23), vR (1, 0, 24), vR (1, 0, 28), vR (1, 0, 29), vR (1, 0, 30), vR (1, 0, 31), vR (1, 0, 32), vI v11, vI v12, vI v13, vN, vI v15, vN, vN, vN, vN, vN, vN] [vI s0] μ := WS.go okL_follows 162 h
set_option maxRecDepth 100000 in
set_option maxHeartbeats 4000000 in
theorem wL_shorten {G : xG} {d : Nat} {μ : xM} {Q : xP} (h : ∀ Z : xZ, WS G eL_shorten (d + 1) Z Q 6 [vR (1, 0, 24), vR (1, 0, 25), vR (1, 0, 26), vR (1, 0, 32), vI (0 : Int32), vI (0 : Int32), vN, vN, vN] [] μ) : MW G (d + 1) mL_shorten [vR (1, 0, 24), vR (1, 0, 25), vR (1, 0, 26), vR (1, 0, 32)] μ Q := MW.of (E := eL_shorten) okL_shorten (Nat.le_of_ble_eq_true rfl) fun Z => WS.go okL_shorten 105 (h Z)
set_option maxRecDepth 100000 in
set_option maxHeartbeats 4000000 in
theorem wL_shorten_6 {G : xG} {d : Nat} {Z : xZ} {v4 : Int32} {v5 : Int32} {μ : xM} {Q : xP} (h : vp_in (1 : Int32) 3 ∧ xif ((μ (1, 0, 32) (1 : Int32).toNatClampNeg) ≤ v5) (Q (some (vI v4)) μ) (vp_in v5 48 ∧ xif ((μ (1, 0, 24) v5.toNatClampNeg) = (8 : Int32)) (WS G eL_shorten (d + 1) Z Q 36 [vR (1, 0, 24), vR (1, 0, 25), vR (1, 0, 26), vR (1, 0, 32), vI v4, vI v5, vN, vN, vN] [] μ) (vp_in v5 48 ∧ xif ((μ (1, 0, 24) v5.toNatClampNeg) = (10 : Int32)) (WS G eL_shorten (d + 1) Z Q 36 [vR (1, 0, 24), vR (1, 0, 25), vR (1, 0, 26), vR (1, 0, 32), vI v4, vI v5, vN, vN, vN] [] μ) (WS G eL_shorten (d + 1) Z Q 37 [vR (1, 0, 24), vR (1, 0, 25), vR (1, 0, 26), vR (1, 0, 32), vI v4, vI v5, vN, vN, vN] [vI (1 : Int32)] μ)))) : WS G eL_shorten (d + 1) Z Q 6 [vR (1, 0, 24), vR (1, 0, 25), vR (1, 0, 26), vR (1, 0, 32), vI v4, vI v5, vN, vN, vN] [] μ := WS.go okL_shorten 105 h
set_option maxRecDepth 100000 in
set_option maxHeartbeats 4000000 in
theorem wL_shorten_36 {G : xG} {d : Nat} {Z : xZ} {v4 : Int32} {v5 : Int32} {μ : xM} {Q : xP} (h : WS G eL_shorten (d + 1) Z Q 37 [vR (1, 0, 24), vR (1, 0, 25), vR (1, 0, 26), vR (1, 0, 32), vI v4, vI v5, vN, vN, vN] [vI (0 : Int32)] μ) : WS G eL_shorten (d + 1) Z Q 36 [vR (1, 0, 24), vR (1, 0, 25), vR (1, 0, 26), vR (1, 0, 32), vI v4, vI v5, vN, vN, vN] [] μ := WS.go okL_shorten 105 h
set_option maxRecDepth 100000 in
set_option maxHeartbeats 4000000 in
theorem wL_shorten_37 {G : xG} {d : Nat} {Z : xZ} {v4 : Int32} {v5 : Int32} {s0 : Int32} {μ : xM} {Q : xP} (h : vp_in v5 48 ∧ WS G eL_shorten (d + 1) Z Q 45 [vR (1, 0, 24), vR (1, 0, 25), vR (1, 0, 26), vR (1, 0, 32), vI v4, vI v5, vI s0, vI (μ (1, 0, 25) v5.toNatClampNeg), vN] [] μ) : WS G eL_shorten (d + 1) Z Q 37 [vR (1, 0, 24), vR (1, 0, 25), vR (1, 0, 26), vR (1, 0, 32), vI v4, vI v5, vN, vN, vN] [vI s0] μ := WS.go okL_shorten 105 h
set_option maxRecDepth 100000 in
set_option maxHeartbeats 4000000 in
theorem wL_shorten_45 {G : xG} {d : Nat} {Z : xZ} {v4 : Int32} {v5 : Int32} {v6 : Int32} {v7 : Int32} {μ : xM} {Q : xP} (h : xif (v6 = 0) (WS G eL_shorten (d + 1) Z Q 79 [vR (1, 0, 24), vR (1, 0, 25), vR (1, 0, 26), vR (1, 0, 32), vI v4, vI v5, vN, vI v7, vN] [] μ) (xif (v7 < 0) (WS G eL_shorten (d + 1) Z Q 79 [vR (1, 0, 24), vR (1, 0, 25), vR (1, 0, 26), vR (1, 0, 32), vI v4, vI v5, vN, vI v7, vN] [] μ) (MW G d mL_bypass [vR (1, 0, 24), vR (1, 0, 25), vR (1, 0, 26), vI v7] μ (xrI fun x2 μ1 => xif (x2 < 0) (WS G eL_shorten (d + 1) Z Q 79 [vR (1, 0, 24), vR (1, 0, 25), vR (1, 0, 26), vR (1, 0, 32), vI v4, vI v5, vN, vI v7, vN] [] μ1) (MW G d mL_bypass [vR (1, 0, 24), vR (1, 0, 25), vR (1, 0, 26), vI v7] μ1 (xrI fun x4 μ3 => WS G eL_shorten (d + 1) Z Q 45 [vR (1, 0, 24), vR (1, 0, 25), vR (1, 0, 26), vR (1, 0, 32), vI v4, vI v5, vI v6, vI x4, vN] [] μ3)))))) : WS G eL_shorten (d + 1) Z Q 45 [vR (1, 0, 24), vR (1, 0, 25), vR (1, 0, 26), vR (1, 0, 32), vI v4, vI v5, vI v6, vI v7, vN] [] μ := WS.go okL_shorten 105 h
set_option maxRecDepth 100000 in
set_option maxHeartbeats 4000000 in
theorem wL_shorten_79 {G : xG} {d : Nat} {Z : xZ} {v4 : Int32} {v5 : Int32} {v7 : Int32} {μ : xM} {Q : xP} (h : vp_in v5 48 ∧ WS G eL_shorten (d + 1) Z Q 85 [vR (1, 0, 24), vR (1, 0, 25), vR (1, 0, 26), vR (1, 0, 32), vI v4, vI v5, vN, vI v7, vI (μ (1, 0, 26) v5.toNatClampNeg)] [] μ) : WS G eL_shorten (d + 1) Z Q 79 [vR (1, 0, 24), vR (1, 0, 25), vR (1, 0, 26), vR (1, 0, 32), vI v4, vI v5, vN, vI v7, vN] [] μ := WS.go okL_shorten 105 h
set_option maxRecDepth 100000 in
set_option maxHeartbeats 4000000 in
theorem wL_shorten_85 {G : xG} {d : Nat} {Z : xZ} {v4 : Int32} {v5 : Int32} {v7 : Int32} {v8 : Int32} {μ : xM} {Q : xP} (h : vp_in v5 48 ∧ xif ((μ (1, 0, 24) v5.toNatClampNeg) = (7 : Int32)) (WS G eL_shorten (d + 1) Z Q 123 [vR (1, 0, 24), vR (1, 0, 25), vR (1, 0, 26), vR (1, 0, 32), vI v4, vI v5, vN, vI v7, vI v8] [] μ) (xif (v8 < 0) (WS G eL_shorten (d + 1) Z Q 123 [vR (1, 0, 24), vR (1, 0, 25), vR (1, 0, 26), vR (1, 0, 32), vI v4, vI v5, vN, vI v7, vI v8] [] μ) (MW G d mL_bypass [vR (1, 0, 24), vR (1, 0, 25), vR (1, 0, 26), vI v8] μ (xrI fun x2 μ1 => xif (x2 < 0) (WS G eL_shorten (d + 1) Z Q 123 [vR (1, 0, 24), vR (1, 0, 25), vR (1, 0, 26), vR (1, 0, 32), vI v4, vI v5, vN, vI v7, vI v8] [] μ1) (MW G d mL_bypass [vR (1, 0, 24), vR (1, 0, 25), vR (1, 0, 26), vI v8] μ1 (xrI fun x4 μ3 => WS G eL_shorten (d + 1) Z Q 85 [vR (1, 0, 24), vR (1, 0, 25), vR (1, 0, 26), vR (1, 0, 32), vI v4, vI v5, vN, vI v7, vI x4] [] μ3)))))) : WS G eL_shorten (d + 1) Z Q 85 [vR (1, 0, 24), vR (1, 0, 25), vR (1, 0, 26), vR (1, 0, 32), vI v4, vI v5, vN, vI v7, vI v8] [] μ := WS.go okL_shorten 105 h
set_option maxRecDepth 100000 in
set_option maxHeartbeats 4000000 in
theorem wL_shorten_123 {G : xG} {d : Nat} {Z : xZ} {v4 : Int32} {v5 : Int32} {v7 : Int32} {v8 : Int32} {μ : xM} {Q : xP} (h : vp_in v5 48 ∧ xif (v7 = (μ (1, 0, 25) v5.toNatClampNeg)) (WS G eL_shorten (d + 1) Z Q 139 [vR (1, 0, 24), vR (1, 0, 25), vR (1, 0, 26), vR (1, 0, 32), vN, vI v5, vN, vI v7, vI v8] [vI (0 : Int32), vI v4] μ) (WS G eL_shorten (d + 1) Z Q 139 [vR (1, 0, 24), vR (1, 0, 25), vR (1, 0, 26), vR (1, 0, 32), vN, vI v5, vN, vI v7, vI v8] [vI (1 : Int32), vI v4] μ)) : WS G eL_shorten (d + 1) Z Q 123 [vR (1, 0, 24), vR (1, 0, 25), vR (1, 0, 26), vR (1, 0, 32), vI v4, vI v5, vN, vI v7, vI v8] [] μ := WS.go okL_shorten 105 h
set_option maxRecDepth 100000 in
set_option maxHeartbeats 4000000 in
theorem wL_shorten_139 {G : xG} {d : Nat} {Z : xZ} {v5 : Int32} {v7 : Int32} {v8 : Int32} {s0 : Int32} {s1 : Int32} {μ : xM} {Q : xP} (h : vp_in v5 48 ∧ xif (v8 = (μ (1, 0, 26) v5.toNatClampNeg)) (WS G eL_shorten (d + 1) Z Q 153 [vR (1, 0, 24), vR (1, 0, 25), vR (1, 0, 26), vR (1, 0, 32), vN, vI v5, vN, vI v7, vI v8] [vI (0 : Int32), vI s1, vI s0] μ) (WS G eL_shorten (d + 1) Z Q 153 [vR (1, 0, 24), vR (1, 0, 25), vR (1, 0, 26), vR (1, 0, 32), vN, vI v5, vN, vI v7, vI v8] [vI (1 : Int32), vI s1, vI s0] μ)) : WS G eL_shorten (d + 1) Z Q 139 [vR (1, 0, 24), vR (1, 0, 25), vR (1, 0, 26), vR (1, 0, 32), vN, vI v5, vN, vI v7, vI v8] [vI s1, vI s0] μ := WS.go okL_shorten 105 h
set_option maxRecDepth 100000 in
set_option maxHeartbeats 4000000 in
theorem wL_shorten_153 {G : xG} {d : Nat} {Z : xZ} {v5 : Int32} {v7 : Int32} {v8 : Int32} {s0 : Int32} {s1 : Int32} {s2 : Int32} {μ : xM} {Q : xP} (h : vp_in v5 48 ∧ vp_in v5 48 ∧ WS G eL_shorten (d + 1) Z Q 6 [vR (1, 0, 24), vR (1, 0, 25), vR (1, 0, 26), vR (1, 0, 32), vI (s0 + (s1 + s2)), vI (v5 + (1 : Int32)), vN, vN, vN] [] (xst (xst μ (1, 0, 25) v5.toNatClampNeg v7) (1, 0, 26) v5.toNatClampNeg v8)) : WS G eL_shorten (d + 1) Z Q 153 [vR (1, 0, 24), vR (1, 0, 25), vR (1, 0, 26), vR (1, 0, 32), vN, vI v5, vN, vI v7, vI v8] [vI s2, vI s1, vI s0] μ := WS.go okL_shorten 105 h
set_option maxRecDepth 100000 in
set_option maxHeartbeats 4000000 in
theorem wL_trim_12 {G : xG} {d : Nat} {Z : xZ} {v10 : Int64} {μ : xM} {Q : xP} (h : WS G eL_trim (d + 1) Z Q 21 [vR (1, 0, 23), vR (1, 0, 24), vR (1, 0, 25), vR (1, 0, 26), vR (1, 0, 27), vR (1, 0, 28), vR (1, 0, 29), vR (1, 0, 30), vR (1, 0, 31), vR (1, 0, 32), vL v10, vN, vR (1, 0, 33), vR (1, 0, 34), vI (0 : Int32), vI (0 : Int32), vI (0 : Int32), vN, vN] [] μ) : WS G eL_trim (d + 1) Z Q 12 [vR (1, 0, 23), vR (1, 0, 24), vR (1, 0, 25), vR (1, 0, 26), vR (1, 0, 27), vR (1, 0, 28), vR (1, 0, 29), vR (1, 0, 30), vR (1, 0, 31), vR (1, 0, 32), vL v10, vN, vR (1, 0, 33), vR (1, 0, 34), vN, vN, vN, vN, vN] [] μ := WS.go okL_trim 233 h
set_option maxRecDepth 100000 in
set_option maxHeartbeats 4000000 in
theorem wL_trim_21 {G : xG} {d : Nat} {Z : xZ} {v10 : Int64} {v14 : Int32} {v15 : Int32} {v16 : Int32} {μ : xM} {Q : xP} (h : vp_in (1 : Int32) 3 ∧ xif ((μ (1, 0, 32) (1 : Int32).toNatClampNeg) ≤ v16) (WS G eL_trim (d + 1) Z Q 60 [vR (1, 0, 23), vR (1, 0, 24), vR (1, 0, 25), vR (1, 0, 26), vR (1, 0, 27), vR (1, 0, 28), vR (1, 0, 29), vR (1, 0, 30), vR (1, 0, 31), vR (1, 0, 32), vL v10, vN, vR (1, 0, 33), vR (1, 0, 34), vI v14, vI v15, vI (0 : Int32), vN, vN] [] μ) (vp_in v16 48 ∧ WS G eL_trim (d + 1) Z Q 21 [vR (1, 0, 23), vR (1, 0, 24), vR (1, 0, 25), vR (1, 0, 26), vR (1, 0, 27), vR (1, 0, 28), vR (1, 0, 29), vR (1, 0, 30), vR (1, 0, 31), vR (1, 0, 32), vL v10, vN, vR (1, 0, 33), vR (1, 0, 34), vI (Int64.toInt32 (((Int32.toInt64 v14) + ((xlr v10 v16) &&& (1 : Int64))))), vI v15, vI (v16 + (1 : Int32)), vN, vN] [] (xst μ (1, 0, 33) v16.toNatClampNeg v14))) : WS G eL_trim (d + 1) Z Q 21 [vR (1, 0, 23), vR (1, 0, 24), vR (1, 0, 25), vR (1, 0, 26), vR (1, 0, 27), vR (1, 0, 28), vR (1, 0, 29), vR (1, 0, 30), vR (1, 0, 31), vR (1, 0, 32), vL v10, vN, vR (1, 0, 33), vR (1, 0, 34), vI v14, vI v15, vI v16, vN, vN] [] μ := WS.go okL_trim 233 h
set_option maxRecDepth 100000 in
set_option maxHeartbeats 4000000 in
theorem wL_trim_60 {G : xG} {d : Nat} {Z : xZ} {v10 : Int64} {v14 : Int32} {v15 : Int32} {v16 : Int32} {μ : xM} {Q : xP} (h : vp_in (2 : Int32) 3 ∧ xif ((μ (1, 0, 32) (2 : Int32).toNatClampNeg) ≤ v16) (WS G eL_trim (d + 1) Z Q 170 [vR (1, 0, 23), vR (1, 0, 24), vR (1, 0, 25), vR (1, 0, 26), vR (1, 0, 27), vR (1, 0, 28), vN, vN, vN, vR (1, 0, 32), vL v10, vN, vR (1, 0, 33), vR (1, 0, 34), vI v14, vI v15, vI (0 : Int32), vN, vN] [] μ) (vp_in v16 48 ∧ xif ((lg_cmp (((xlr v10 ((μ (1, 0, 29) v16.toNatClampNeg))) &&& (1 : Int64))) (1 : Int64)) = 0) (WS G eL_trim (d + 1) Z Q 89 [vR (1, 0, 23), vR (1, 0, 24), vR (1, 0, 25), vR (1, 0, 26), vR (1, 0, 27), vR (1, 0, 28), vR (1, 0, 29), vR (1, 0, 30), vR (1, 0, 31), vR (1, 0, 32), vL v10, vN, vR (1, 0, 33), vR (1, 0, 34), vI v14, vI v15, vI v16, vN, vN] [vI (1 : Int32)] μ) (WS G eL_trim (d + 1) Z Q 89 [vR (1, 0, 23), vR (1, 0, 24), vR (1, 0, 25), vR (1, 0, 26), vR (1, 0, 27), vR (1, 0, 28), vR (1, 0, 29), vR (1, 0, 30), vR (1, 0, 31), vR (1, 0, 32), vL v10, vN, vR (1, 0, 33), vR (1, 0, 34), vI v14, vI v15, vI v16, vN, vN] [vI (0 : Int32)] μ))) : WS G eL_trim (d + 1) Z Q 60 [vR (1, 0, 23), vR (1, 0, 24), vR (1, 0, 25), vR (1, 0, 26), vR (1, 0, 27), vR (1, 0, 28), vR (1, 0, 29), vR (1, 0, 30), vR (1, 0, 31), vR (1, 0, 32), vL v10, vN, vR (1, 0, 33), vR (1, 0, 34), vI v14, vI v15, vI v16, vN, vN] [] μ := WS.go okL_trim 233 h
set_option maxRecDepth 100000 in
set_option maxHeartbeats 4000000 in
theorem wL_trim_89 {G : xG} {d : Nat} {Z : xZ} {v10 : Int64} {v14 : Int32} {v15 : Int32} {v16 : Int32} {s0 : Int32} {μ : xM} {Q : xP} (h : vp_in v16 48 ∧ xif (s0 = 0) (WS G eL_trim (d + 1) Z Q 161 [vR (1, 0, 23), vR (1, 0, 24), vR (1, 0, 25), vR (1, 0, 26), vR (1, 0, 27), vR (1, 0, 28), vR (1, 0, 29), vR (1, 0, 30), vR (1, 0, 31), vR (1, 0, 32), vL v10, vN, vR (1, 0, 33), vR (1, 0, 34), vI v14, vI v15, vI v16, vN, vN] [] (xst μ (1, 0, 34) v16.toNatClampNeg v15)) (vp_in v16 48 ∧ xif (0 ≤ ((xst μ (1, 0, 34) v16.toNatClampNeg v15) (1, 0, 31) v16.toNatClampNeg)) (vp_in v16 48 ∧ vp_in (((xst μ (1, 0, 34) v16.toNatClampNeg v15) (1, 0, 31) v16.toNatClampNeg)) 48 ∧ WS G eL_trim (d + 1) Z Q 123 [vR (1, 0, 23), vR (1, 0, 24), vR (1, 0, 25), vR (1, 0, 26), vR (1, 0, 27), vR (1, 0, 28), vR (1, 0, 29), vR (1, 0, 30), vR (1, 0, 31), vR (1, 0, 32), vL v10, vN, vR (1, 0, 33), vR (1, 0, 34), vI v14, vI v15, vI v16, vN, vN] [vI ((xst μ (1, 0, 34) v16.toNatClampNeg v15) (1, 0, 34) (((xst μ (1, 0, 34) v16.toNatClampNeg v15) (1, 0, 31) v16.toNatClampNeg)).toNatClampNeg)] (xst μ (1, 0, 34) v16.toNatClampNeg v15)) (WS G eL_trim (d + 1) Z Q 123 [vR (1, 0, 23), vR (1, 0, 24), vR (1, 0, 25), vR (1, 0, 26), vR (1, 0, 27), vR (1, 0, 28), vR (1, 0, 29), vR (1, 0, 30), vR (1, 0, 31), vR (1, 0, 32), vL v10, vN, vR (1, 0, 33), vR (1, 0, 34), vI v14, vI v15, vI v16, vN, vN] [vI (-1 : Int32)] (xst μ (1, 0, 34) v16.toNatClampNeg v15)))) : WS G eL_trim (d + 1) Z Q 89 [vR (1, 0, 23), vR (1, 0, 24), vR (1, 0, 25), vR (1, 0, 26), vR (1, 0, 27), vR (1, 0, 28), vR (1, 0, 29), vR (1, 0, 30), vR (1, 0, 31), vR (1, 0, 32), vL v10, vN, vR (1, 0, 33), vR (1, 0, 34), vI v14, vI v15, vI v16, vN, vN] [vI s0] μ := WS.go okL_trim 233 h
set_option maxRecDepth 100000 in
set_option maxHeartbeats 4000000 in
theorem wL_trim_123 {G : xG} {d : Nat} {Z : xZ} {v10 : Int64} {v14 : Int32} {v15 : Int32} {v16 : Int32} {s0 : Int32} {μ : xM} {Q : xP} (h : vp_in v16 48 ∧ vp_in ((μ (1, 0, 29) v16.toNatClampNeg)) 48 ∧ vp_in v15 48 ∧ vp_in v16 48 ∧ vp_in (((xst μ (1, 0, 29) v15.toNatClampNeg ((μ (1, 0, 33) ((μ (1, 0, 29) v16.toNatClampNeg)).toNatClampNeg))) (1, 0, 30) v16.toNatClampNeg)) 48 ∧ vp_in v15 48 ∧ vp_in v15 48 ∧ WS G eL_trim (d + 1) Z Q 161 [vR (1, 0, 23), vR (1, 0, 24), vR (1, 0, 25), vR (1, 0, 26), vR (1, 0, 27), vR (1, 0, 28), vR (1, 0, 29), vR (1, 0, 30), vR (1, 0, 31), vR (1, 0, 32), vL v10, vN, vR (1, 0, 33), vR (1, 0, 34), vI v14, vI (v15 + (1 : Int32)), vI v16, vN, vN] [] (xst (xst (xst μ (1, 0, 29) v15.toNatClampNeg ((μ (1, 0, 33) ((μ (1, 0, 29) v16.toNatClampNeg)).toNatClampNeg))) (1, 0, 30) v15.toNatClampNeg (((xst μ (1, 0, 29) v15.toNatClampNeg ((μ (1, 0, 33) ((μ (1, 0, 29) v16.toNatClampNeg)).toNatClampNeg))) (1, 0, 33) (((xst μ (1, 0, 29) v15.toNatClampNeg ((μ (1, 0, 33) ((μ (1, 0, 29) v16.toNatClampNeg)).toNatClampNeg))) (1, 0, 30) v16.toNatClampNeg)).toNatClampNeg))) (1, 0, 31) v15.toNatClampNeg s0)) : WS G eL_trim (d + 1) Z Q 123 [vR (1, 0, 23), vR (1, 0, 24), vR (1, 0, 25), vR (1, 0, 26), vR (1, 0, 27), vR (1, 0, 28), vR (1, 0, 29), vR (1, 0, 30), vR (1, 0, 31), vR (1, 0, 32), vL v10, vN, vR (1, 0, 33), vR (1, 0, 34), vI v14, vI v15, vI v16, vN, vN] [vI s0] μ := WS.go okL_trim 233 h
set_option maxRecDepth 100000 in
set_option maxHeartbeats 4000000 in
theorem wL_trim_161 {G : xG} {d : Nat} {Z : xZ} {v10 : Int64} {v14 : Int32} {v15 : Int32} {v16 : Int32} {μ : xM} {Q : xP} (h : WS G eL_trim (d + 1) Z Q 60 [vR (1, 0, 23), vR (1, 0, 24), vR (1, 0, 25), vR (1, 0, 26), vR (1, 0, 27), vR (1, 0, 28), vR (1, 0, 29), vR (1, 0, 30), vR (1, 0, 31), vR (1, 0, 32), vL v10, vN, vR (1, 0, 33), vR (1, 0, 34), vI v14, vI v15, vI (v16 + (1 : Int32)), vN, vN] [] μ) : WS G eL_trim (d + 1) Z Q 161 [vR (1, 0, 23), vR (1, 0, 24), vR (1, 0, 25), vR (1, 0, 26), vR (1, 0, 27), vR (1, 0, 28), vR (1, 0, 29), vR (1, 0, 30), vR (1, 0, 31), vR (1, 0, 32), vL v10, vN, vR (1, 0, 33), vR (1, 0, 34), vI v14, vI v15, vI v16, vN, vN] [] μ := WS.go okL_trim 233 h
set_option maxRecDepth 100000 in
set_option maxHeartbeats 4000000 in
theorem wL_trim_170 {G : xG} {d : Nat} {Z : xZ} {v10 : Int64} {v14 : Int32} {v15 : Int32} {v16 : Int32} {μ : xM} {Q : xP} (h : vp_in (1 : Int32) 3 ∧ xif ((μ (1, 0, 32) (1 : Int32).toNatClampNeg) ≤ v16) (vp_in (1 : Int32) 3 ∧ vp_in (2 : Int32) 3 ∧ WS G eL_trim (d + 1) Z Q 396 [vN, vN, vN, vN, vN, vN, vN, vN, vN, vN, vN, vN, vN, vN, vN, vN, vN, vN, vN] [] (xst (xst μ (1, 0, 32) (1 : Int32).toNatClampNeg v14) (1, 0, 32) (2 : Int32).toNatClampNeg v15)) (xif ((lg_cmp (((xlr v10 v16) &&& (1 : Int64))) (1 : Int64)) = 0) (vp_in v16 48 ∧ xif ((μ (1, 0, 24) v16.toNatClampNeg) = (8 : Int32)) (WS G eL_trim (d + 1) Z Q 209 [vR (1, 0, 23), vR (1, 0, 24), vR (1, 0, 25), vR (1, 0, 26), vR (1, 0, 27), vR (1, 0, 28), vN, vN, vN, vR (1, 0, 32), vL v10, vN, vR (1, 0, 33), vR (1, 0, 34), vI v14, vI v15, vI v16, vN, vN] [] μ) (vp_in v16 48 ∧ xif ((μ (1, 0, 24) v16.toNatClampNeg) = (10 : Int32)) (WS G eL_trim (d + 1) Z Q 209 [vR (1, 0, 23), vR (1, 0, 24), vR (1, 0, 25), vR (1, 0, 26), vR (1, 0, 27), vR (1, 0, 28), vN, vN, vN, vR (1, 0, 32), vL v10, vN, vR (1, 0, 33), vR (1, 0, 34), vI v14, vI v15, vI v16, vN, vN] [] μ) (WS G eL_trim (d + 1) Z Q 214 [vR (1, 0, 23), vR (1, 0, 24), vR (1, 0, 25), vR (1, 0, 26), vR (1, 0, 27), vR (1, 0, 28), vN, vN, vN, vR (1, 0, 32), vL v10, vN, vR (1, 0, 33), vR (1, 0, 34), vI v14, vI v15, vI v16, vN, vN] [vI (0 : Int32)] μ))) (WS G eL_trim (d + 1) Z Q 378 [vR (1, 0, 23), vR (1, 0, 24), vR (1, 0, 25), vR (1, 0, 26), vR (1, 0, 27), vR (1, 0, 28), vN, vN, vN, vR (1, 0, 32), vL v10, vN, vR (1, 0, 33), vR (1, 0, 34), vI v14, vI v15, vI v16, vN, vN] [] μ))) : WS G eL_trim (d + 1) Z Q 170 [vR (1, 0, 23), vR (1, 0, 24), vR (1, 0, 25), vR (1, 0, 26), vR (1, 0, 27), vR (1, 0, 28), vN, vN, vN, vR (1, 0, 32), vL v10, vN, vR (1, 0, 33), vR (1, 0, 34), vI v14, vI v15, vI v16, vN, vN] [] μ := WS.go okL_trim 233 h
set_option maxRecDepth 100000 in
set_option maxHeartbeats 4000000 in
theorem wL_trim_209 {G : xG} {d : Nat} {Z : xZ} {v10 : Int64} {v14 : Int32} {v15 : Int32} {v16 : Int32} {μ : xM} {Q : xP} (h : WS G eL_trim (d + 1) Z Q 214 [vR (1, 0, 23), vR (1, 0, 24), vR (1, 0, 25), vR (1, 0, 26), vR (1, 0, 27), vR (1, 0, 28), vN, vN, vN, vR (1, 0, 32), vL v10, vN, vR (1, 0, 33), vR (1, 0, 34), vI v14, vI v15, vI v16, vN, vN] [vI (1 : Int32)] μ) : WS G eL_trim (d + 1) Z Q 209 [vR (1, 0, 23), vR (1, 0, 24), vR (1, 0, 25), vR (1, 0, 26), vR (1, 0, 27), vR (1, 0, 28), vN, vN, vN, vR (1, 0, 32), vL v10, vN, vR (1, 0, 33), vR (1, 0, 34), vI v14, vI v15, vI v16, vN, vN] [] μ := WS.go okL_trim 233 h
set_option maxRecDepth 100000 in
set_option maxHeartbeats 4000000 in
theorem wL_trim_214 {G : xG} {d : Nat} {Z : xZ} {v10 : Int64} {v14 : Int32} {v15 : Int32} {v16 : Int32} {s0 : Int32} {μ : xM} {Q : xP} (h : vp_in v16 48 ∧ vp_in v16 48 ∧ vp_in ((μ (1, 0, 33) v16.toNatClampNeg)) 48 ∧ vp_in v16 48 ∧ vp_in v16 48 ∧ xif (0 ≤ ((xst μ (1, 0, 23) ((μ (1, 0, 33) v16.toNatClampNeg)).toNatClampNeg ((μ (1, 0, 23) v16.toNatClampNeg))) (1, 0, 25) v16.toNatClampNeg)) (xif (s0 = 0) (vp_in v16 48 ∧ vp_in (((xst μ (1, 0, 23) ((μ (1, 0, 33) v16.toNatClampNeg)).toNatClampNeg ((μ (1, 0, 23) v16.toNatClampNeg))) (1, 0, 25) v16.toNatClampNeg)) 48 ∧ WS G eL_trim (d + 1) Z Q 266 [vR (1, 0, 23), vR (1, 0, 24), vR (1, 0, 25), vR (1, 0, 26), vR (1, 0, 27), vR (1, 0, 28), vN, vN, vN, vR (1, 0, 32), vL v10, vN, vR (1, 0, 33), vR (1, 0, 34), vI v14, vI v15, vI v16, vN, vN] [vI ((xst μ (1, 0, 23) ((μ (1, 0, 33) v16.toNatClampNeg)).toNatClampNeg ((μ (1, 0, 23) v16.toNatClampNeg))) (1, 0, 33) (((xst μ (1, 0, 23) ((μ (1, 0, 33) v16.toNatClampNeg)).toNatClampNeg ((μ (1, 0, 23) v16.toNatClampNeg))) (1, 0, 25) v16.toNatClampNeg)).toNatClampNeg), vI ((xst μ (1, 0, 23) ((μ (1, 0, 33) v16.toNatClampNeg)).toNatClampNeg ((μ (1, 0, 23) v16.toNatClampNeg))) (1, 0, 33) v16.toNatClampNeg), vR (1, 0, 25)] (xst μ (1, 0, 23) ((μ (1, 0, 33) v16.toNatClampNeg)).toNatClampNeg ((μ (1, 0, 23) v16.toNatClampNeg)))) (vp_in v16 48 ∧ vp_in (((xst μ (1, 0, 23) ((μ (1, 0, 33) v16.toNatClampNeg)).toNatClampNeg ((μ (1, 0, 23) v16.toNatClampNeg))) (1, 0, 25) v16.toNatClampNeg)) 48 ∧ WS G eL_trim (d + 1) Z Q 266 [vR (1, 0, 23), vR (1, 0, 24), vR (1, 0, 25), vR (1, 0, 26), vR (1, 0, 27), vR (1, 0, 28), vN, vN, vN, vR (1, 0, 32), vL v10, vN, vR (1, 0, 33), vR (1, 0, 34), vI v14, vI v15, vI v16, vN, vN] [vI ((xst μ (1, 0, 23) ((μ (1, 0, 33) v16.toNatClampNeg)).toNatClampNeg ((μ (1, 0, 23) v16.toNatClampNeg))) (1, 0, 34) (((xst μ (1, 0, 23) ((μ (1, 0, 33) v16.toNatClampNeg)).toNatClampNeg ((μ (1, 0, 23) v16.toNatClampNeg))) (1, 0, 25) v16.toNatClampNeg)).toNatClampNeg), vI ((xst μ (1, 0, 23) ((μ (1, 0, 33) v16.toNatClampNeg)).toNatClampNeg ((μ (1, 0, 23) v16.toNatClampNeg))) (1, 0, 33) v16.toNatClampNeg), vR (1, 0, 25)] (xst μ (1, 0, 23) ((μ (1, 0, 33) v16.toNatClampNeg)).toNatClampNeg ((μ (1, 0, 23) v16.toNatClampNeg))))) (WS G eL_trim (d + 1) Z Q 266 [vR (1, 0, 23), vR (1, 0, 24), vR (1, 0, 25), vR (1, 0, 26), vR (1, 0, 27), vR (1, 0, 28), vN, vN, vN, vR (1, 0, 32), vL v10, vN, vR (1, 0, 33), vR (1, 0, 34), vI v14, vI v15, vI v16, vN, vN] [vI (-1 : Int32), vI ((xst μ (1, 0, 23) ((μ (1, 0, 33) v16.toNatClampNeg)).toNatClampNeg ((μ (1, 0, 23) v16.toNatClampNeg))) (1, 0, 33) v16.toNatClampNeg), vR (1, 0, 25)] (xst μ (1, 0, 23) ((μ (1, 0, 33) v16.toNatClampNeg)).toNatClampNeg ((μ (1, 0, 23) v16.toNatClampNeg))))) : WS G eL_trim (d + 1) Z Q 214 [vR (1, 0, 23), vR (1, 0, 24), vR (1, 0, 25), vR (1, 0, 26), vR (1, 0, 27), vR (1, 0, 28), vN, vN, vN, vR (1, 0, 32), vL v10, vN, vR (1, 0, 33), vR (1, 0, 34), vI v14, vI v15, vI v16, vN, vN] [vI s0] μ := WS.go okL_trim 233 h
set_option maxRecDepth 100000 in
set_option maxHeartbeats 4000000 in
theorem wL_trim_266 {G : xG} {d : Nat} {Z : xZ} {v10 : Int64} {v14 : Int32} {v15 : Int32} {v16 : Int32} {s1 : Int32} {s2 : Int32} {μ : xM} {Q : xP} (h : vp_in s1 48 ∧ vp_in v16 48 ∧ vp_in v16 48 ∧ xif (0 ≤ ((xst μ (1, 0, 25) s1.toNatClampNeg s2) (1, 0, 26) v16.toNatClampNeg)) (vp_in v16 48 ∧ xif (((xst μ (1, 0, 25) s1.toNatClampNeg s2) (1, 0, 24) v16.toNatClampNeg) = (7 : Int32)) (vp_in v16 48 ∧ vp_in (((xst μ (1, 0, 25) s1.toNatClampNeg s2) (1, 0, 26) v16.toNatClampNeg)) 48 ∧ WS G eL_trim (d + 1) Z Q 310 [vR (1, 0, 23), vR (1, 0, 24), vR (1, 0, 25), vR (1, 0, 26), vR (1, 0, 27), vR (1, 0, 28), vN, vN, vN, vR (1, 0, 32), vL v10, vN, vR (1, 0, 33), vR (1, 0, 34), vI v14, vI v15, vI v16, vN, vN] [vI ((xst μ (1, 0, 25) s1.toNatClampNeg s2) (1, 0, 34) (((xst μ (1, 0, 25) s1.toNatClampNeg s2) (1, 0, 26) v16.toNatClampNeg)).toNatClampNeg), vI ((xst μ (1, 0, 25) s1.toNatClampNeg s2) (1, 0, 33) v16.toNatClampNeg), vR (1, 0, 26)] (xst μ (1, 0, 25) s1.toNatClampNeg s2)) (vp_in v16 48 ∧ vp_in (((xst μ (1, 0, 25) s1.toNatClampNeg s2) (1, 0, 26) v16.toNatClampNeg)) 48 ∧ WS G eL_trim (d + 1) Z Q 310 [vR (1, 0, 23), vR (1, 0, 24), vR (1, 0, 25), vR (1, 0, 26), vR (1, 0, 27), vR (1, 0, 28), vN, vN, vN, vR (1, 0, 32), vL v10, vN, vR (1, 0, 33), vR (1, 0, 34), vI v14, vI v15, vI v16, vN, vN] [vI ((xst μ (1, 0, 25) s1.toNatClampNeg s2) (1, 0, 33) (((xst μ (1, 0, 25) s1.toNatClampNeg s2) (1, 0, 26) v16.toNatClampNeg)).toNatClampNeg), vI ((xst μ (1, 0, 25) s1.toNatClampNeg s2) (1, 0, 33) v16.toNatClampNeg), vR (1, 0, 26)] (xst μ (1, 0, 25) s1.toNatClampNeg s2))) (WS G eL_trim (d + 1) Z Q 310 [vR (1, 0, 23), vR (1, 0, 24), vR (1, 0, 25), vR (1, 0, 26), vR (1, 0, 27), vR (1, 0, 28), vN, vN, vN, vR (1, 0, 32), vL v10, vN, vR (1, 0, 33), vR (1, 0, 34), vI v14, vI v15, vI v16, vN, vN] [vI (-1 : Int32), vI ((xst μ (1, 0, 25) s1.toNatClampNeg s2) (1, 0, 33) v16.toNatClampNeg), vR (1, 0, 26)] (xst μ (1, 0, 25) s1.toNatClampNeg s2))) : WS G eL_trim (d + 1) Z Q 266 [vR (1, 0, 23), vR (1, 0, 24), vR (1, 0, 25), vR (1, 0, 26), vR (1, 0, 27), vR (1, 0, 28), vN, vN, vN, vR (1, 0, 32), vL v10, vN, vR (1, 0, 33), vR (1, 0, 34), vI v14, vI v15, vI v16, vN, vN] [vI s2, vI s1, vR (1, 0, 25)] μ := WS.go okL_trim 233 h
set_option maxRecDepth 100000 in
set_option maxHeartbeats 4000000 in
theorem wL_trim_310 {G : xG} {d : Nat} {Z : xZ} {v10 : Int64} {v14 : Int32} {v15 : Int32} {v16 : Int32} {s1 : Int32} {s2 : Int32} {μ : xM} {Q : xP} (h : vp_in s1 48 ∧ vp_in v16 48 ∧ vp_in v16 48 ∧ xif (0 ≤ ((xst μ (1, 0, 26) s1.toNatClampNeg s2) (1, 0, 27) v16.toNatClampNeg)) (vp_in v16 48 ∧ vp_in (((xst μ (1, 0, 26) s1.toNatClampNeg s2) (1, 0, 27) v16.toNatClampNeg)) 48 ∧ WS G eL_trim (d + 1) Z Q 338 [vR (1, 0, 23), vR (1, 0, 24), vR (1, 0, 25), vR (1, 0, 26), vR (1, 0, 27), vR (1, 0, 28), vN, vN, vN, vR (1, 0, 32), vL v10, vN, vR (1, 0, 33), vR (1, 0, 34), vI v14, vI v15, vI v16, vN, vN] [vI ((xst μ (1, 0, 26) s1.toNatClampNeg s2) (1, 0, 34) (((xst μ (1, 0, 26) s1.toNatClampNeg s2) (1, 0, 27) v16.toNatClampNeg)).toNatClampNeg), vI ((xst μ (1, 0, 26) s1.toNatClampNeg s2) (1, 0, 33) v16.toNatClampNeg), vR (1, 0, 27)] (xst μ (1, 0, 26) s1.toNatClampNeg s2)) (WS G eL_trim (d + 1) Z Q 338 [vR (1, 0, 23), vR (1, 0, 24), vR (1, 0, 25), vR (1, 0, 26), vR (1, 0, 27), vR (1, 0, 28), vN, vN, vN, vR (1, 0, 32), vL v10, vN, vR (1, 0, 33), vR (1, 0, 34), vI v14, vI v15, vI v16, vN, vN] [vI (-1 : Int32), vI ((xst μ (1, 0, 26) s1.toNatClampNeg s2) (1, 0, 33) v16.toNatClampNeg), vR (1, 0, 27)] (xst μ (1, 0, 26) s1.toNatClampNeg s2))) : WS G eL_trim (d + 1) Z Q 310 [vR (1, 0, 23), vR (1, 0, 24), vR (1, 0, 25), vR (1, 0, 26), vR (1, 0, 27), vR (1, 0, 28), vN, vN, vN, vR (1, 0, 32), vL v10, vN, vR (1, 0, 33), vR (1, 0, 34), vI v14, vI v15, vI v16, vN, vN] [vI s2, vI s1, vR (1, 0, 26)] μ := WS.go okL_trim 233 h
set_option maxRecDepth 100000 in
set_option maxHeartbeats 4000000 in
theorem wL_trim_338 {G : xG} {d : Nat} {Z : xZ} {v10 : Int64} {v14 : Int32} {v15 : Int32} {v16 : Int32} {s1 : Int32} {s2 : Int32} {μ : xM} {Q : xP} (h : vp_in s1 48 ∧ vp_in v16 48 ∧ vp_in v16 48 ∧ xif (0 ≤ ((xst μ (1, 0, 27) s1.toNatClampNeg s2) (1, 0, 28) v16.toNatClampNeg)) (vp_in v16 48 ∧ vp_in (((xst μ (1, 0, 27) s1.toNatClampNeg s2) (1, 0, 28) v16.toNatClampNeg)) 48 ∧ WS G eL_trim (d + 1) Z Q 366 [vR (1, 0, 23), vR (1, 0, 24), vR (1, 0, 25), vR (1, 0, 26), vR (1, 0, 27), vR (1, 0, 28), vN, vN, vN, vR (1, 0, 32), vL v10, vN, vR (1, 0, 33), vR (1, 0, 34), vI v14, vI v15, vI v16, vN, vN] [vI ((xst μ (1, 0, 27) s1.toNatClampNeg s2) (1, 0, 34) (((xst μ (1, 0, 27) s1.toNatClampNeg s2) (1, 0, 28) v16.toNatClampNeg)).toNatClampNeg), vI ((xst μ (1, 0, 27) s1.toNatClampNeg s2) (1, 0, 33) v16.toNatClampNeg), vR (1, 0, 28)] (xst μ (1, 0, 27) s1.toNatClampNeg s2)) (WS G eL_trim (d + 1) Z Q 366 [vR (1, 0, 23), vR (1, 0, 24), vR (1, 0, 25), vR (1, 0, 26), vR (1, 0, 27), vR (1, 0, 28), vN, vN, vN, vR (1, 0, 32), vL v10, vN, vR (1, 0, 33), vR (1, 0, 34), vI v14, vI v15, vI v16, vN, vN] [vI (-1 : Int32), vI ((xst μ (1, 0, 27) s1.toNatClampNeg s2) (1, 0, 33) v16.toNatClampNeg), vR (1, 0, 28)] (xst μ (1, 0, 27) s1.toNatClampNeg s2))) : WS G eL_trim (d + 1) Z Q 338 [vR (1, 0, 23), vR (1, 0, 24), vR (1, 0, 25), vR (1, 0, 26), vR (1, 0, 27), vR (1, 0, 28), vN, vN, vN, vR (1, 0, 32), vL v10, vN, vR (1, 0, 33), vR (1, 0, 34), vI v14, vI v15, vI v16, vN, vN] [vI s2, vI s1, vR (1, 0, 27)] μ := WS.go okL_trim 233 h
set_option maxRecDepth 100000 in
set_option maxHeartbeats 4000000 in
theorem wL_trim_366 {G : xG} {d : Nat} {Z : xZ} {v10 : Int64} {v14 : Int32} {v15 : Int32} {v16 : Int32} {s1 : Int32} {s2 : Int32} {μ : xM} {Q : xP} (h : vp_in s1 48 ∧ vp_in v16 48 ∧ vp_in v16 48 ∧ vp_in (((xst μ (1, 0, 28) s1.toNatClampNeg s2) (1, 0, 33) v16.toNatClampNeg)) 48 ∧ WS G eL_trim (d + 1) Z Q 378 [vR (1, 0, 23), vR (1, 0, 24), vR (1, 0, 25), vR (1, 0, 26), vR (1, 0, 27), vR (1, 0, 28), vN, vN, vN, vR (1, 0, 32), vL v10, vN, vR (1, 0, 33), vR (1, 0, 34), vI v14, vI v15, vI v16, vN, vN] [] (xst (xst μ (1, 0, 28) s1.toNatClampNeg s2) (1, 0, 24) (((xst μ (1, 0, 28) s1.toNatClampNeg s2) (1, 0, 33) v16.toNatClampNeg)).toNatClampNeg (((xst μ (1, 0, 28) s1.toNatClampNeg s2) (1, 0, 24) v16.toNatClampNeg)))) : WS G eL_trim (d + 1) Z Q 366 [vR (1, 0, 23), vR (1, 0, 24), vR (1, 0, 25), vR (1, 0, 26), vR (1, 0, 27), vR (1, 0, 28), vN, vN, vN, vR (1, 0, 32), vL v10, vN, vR (1, 0, 33), vR (1, 0, 34), vI v14, vI v15, vI v16, vN, vN] [vI s2, vI s1, vR (1, 0, 28)] μ := WS.go okL_trim 233 h
set_option maxRecDepth 100000 in
set_option maxHeartbeats 4000000 in
theorem wL_trim_378 {G : xG} {d : Nat} {Z : xZ} {v10 : Int64} {v14 : Int32} {v15 : Int32} {v16 : Int32} {μ : xM} {Q : xP} (h : WS G eL_trim (d + 1) Z Q 170 [vR (1, 0, 23), vR (1, 0, 24), vR (1, 0, 25), vR (1, 0, 26), vR (1, 0, 27), vR (1, 0, 28), vN, vN, vN, vR (1, 0, 32), vL v10, vN, vR (1, 0, 33), vR (1, 0, 34), vI v14, vI v15, vI (v16 + (1 : Int32)), vN, vN] [] μ) : WS G eL_trim (d + 1) Z Q 378 [vR (1, 0, 23), vR (1, 0, 24), vR (1, 0, 25), vR (1, 0, 26), vR (1, 0, 27), vR (1, 0, 28), vN, vN, vN, vR (1, 0, 32), vL v10, vN, vR (1, 0, 33), vR (1, 0, 34), vI v14, vI v15, vI v16, vN, vN] [] μ := WS.go okL_trim 233 h
set_option maxRecDepth 100000 in
set_option maxHeartbeats 4000000 in
theorem wL_rule {G : xG} {d : Nat} {a8 : Int32} {a9 : Int32} {a10 : Int32} {a11 : Int32} {μ : xM} {Q : xP} (h : ∀ Z : xZ, xif (a8 = (8 : Int32)) (WS G eL_rule (d + 1) Z Q 14 [vR (1, 0, 20), vR (1, 0, 21), vR (1, 0, 22), vR (1, 0, 23), vR (1, 0, 28), vR (1, 0, 29), vR (1, 0, 30), vR (1, 0, 31), vI a8, vI a9, vI a10, vI a11, vN, vN, vN] [] μ) (xif (a8 = (10 : Int32)) (WS G eL_rule (d + 1) Z Q 14 [vR (1, 0, 20), vR (1, 0, 21), vR (1, 0, 22), vR (1, 0, 23), vR (1, 0, 28), vR (1, 0, 29), vR (1, 0, 30), vR (1, 0, 31), vI a8, vI a9, vI a10, vI a11, vN, vN, vN] [] μ) (WS G eL_rule (d + 1) Z Q 19 [vR (1, 0, 20), vR (1, 0, 21), vR (1, 0, 22), vR (1, 0, 23), vR (1, 0, 28), vR (1, 0, 29), vR (1, 0, 30), vR (1, 0, 31), vI a8, vI a9, vI a10, vI a11, vN, vN, vN] [vI (0 : Int32)] μ))) : MW G (d + 1) mL_rule [vR (1, 0, 20), vR (1, 0, 21), vR (1, 0, 22), vR (1, 0, 23), vR (1, 0, 28), vR (1, 0, 29), vR (1, 0, 30), vR (1, 0, 31), vI a8, vI a9, vI a10, vI a11] μ Q := MW.of (E := eL_rule) okL_rule (Nat.le_of_ble_eq_true rfl) fun Z => WS.go okL_rule 332 (h Z)
set_option maxRecDepth 100000 in
set_option maxHeartbeats 4000000 in
theorem wL_rule_14 {G : xG} {d : Nat} {Z : xZ} {v8 : Int32} {v9 : Int32} {v10 : Int32} {v11 : Int32} {μ : xM} {Q : xP} (h : WS G eL_rule (d + 1) Z Q 19 [vR (1, 0, 20), vR (1, 0, 21), vR (1, 0, 22), vR (1, 0, 23), vR (1, 0, 28), vR (1, 0, 29), vR (1, 0, 30), vR (1, 0, 31), vI v8, vI v9, vI v10, vI v11, vN, vN, vN] [vI (1 : Int32)] μ) : WS G eL_rule (d + 1) Z Q 14 [vR (1, 0, 20), vR (1, 0, 21), vR (1, 0, 22), vR (1, 0, 23), vR (1, 0, 28), vR (1, 0, 29), vR (1, 0, 30), vR (1, 0, 31), vI v8, vI v9, vI v10, vI v11, vN, vN, vN] [] μ := WS.go okL_rule 332 h
set_option maxRecDepth 100000 in
set_option maxHeartbeats 4000000 in
theorem wL_rule_19 {G : xG} {d : Nat} {Z : xZ} {v8 : Int32} {v9 : Int32} {v10 : Int32} {v11 : Int32} {s0 : Int32} {μ : xM} {Q : xP} (h : xif (s0 = 0) (vp_in v9 48 ∧ MW G d mL_shut [vR (1, 0, 30), vR (1, 0, 31), vI (μ (1, 0, 28) v9.toNatClampNeg)] μ (xrI fun x2 μ1 => xif (x2 = 0) (WS G eL_rule (d + 1) Z Q 69 [vR (1, 0, 20), vR (1, 0, 21), vR (1, 0, 22), vR (1, 0, 23), vR (1, 0, 28), vR (1, 0, 29), vR (1, 0, 30), vR (1, 0, 31), vI v8, vI v9, vI v10, vI v11, vI s0, vN, vN] [] μ1) (Q (some (vL (0 : Int64))) μ1))) (vp_in v9 48 ∧ xif ((μ (1, 0, 30) v9.toNatClampNeg) < 0) (Q (some (vL (0 : Int64))) μ) (vp_in v9 48 ∧ MW G d mL_shut [vR (1, 0, 30), vR (1, 0, 31), vI (μ (1, 0, 31) v9.toNatClampNeg)] μ (xrI fun x4 μ3 => xif (x4 = 0) (WS G eL_rule (d + 1) Z Q 69 [vR (1, 0, 20), vR (1, 0, 21), vR (1, 0, 22), vR (1, 0, 23), vR (1, 0, 28), vR (1, 0, 29), vR (1, 0, 30), vR (1, 0, 31), vI v8, vI v9, vI v10, vI v11, vI s0, vN, vN] [] μ3) (Q (some (vL (0 : Int64))) μ3))))) : WS G eL_rule (d + 1) Z Q 19 [vR (1, 0, 20), vR (1, 0, 21), vR (1, 0, 22), vR (1, 0, 23), vR (1, 0, 28), vR (1, 0, 29), vR (1, 0, 30), vR (1, 0, 31), vI v8, vI v9, vI v10, vI v11, vN, vN, vN] [vI s0] μ := WS.go okL_rule 332 h
set_option maxRecDepth 100000 in
set_option maxHeartbeats 4000000 in
theorem wL_rule_69 {G : xG} {d : Nat} {Z : xZ} {v8 : Int32} {v9 : Int32} {v10 : Int32} {v11 : Int32} {v12 : Int32} {μ : xM} {Q : xP} (h : xif (v12 = 0) (vp_in v9 48 ∧ WS G eL_rule (d + 1) Z Q 88 [vR (1, 0, 20), vR (1, 0, 21), vR (1, 0, 22), vR (1, 0, 23), vR (1, 0, 28), vR (1, 0, 29), vR (1, 0, 30), vR (1, 0, 31), vI v8, vI v9, vI v10, vI v11, vI v12, vN, vN] [vI (μ (1, 0, 23) v9.toNatClampNeg)] μ) (vp_in v9 48 ∧ vp_in ((μ (1, 0, 29) v9.toNatClampNeg)) 48 ∧ WS G eL_rule (d + 1) Z Q 88 [vR (1, 0, 20), vR (1, 0, 21), vR (1, 0, 22), vR (1, 0, 23), vR (1, 0, 28), vR (1, 0, 29), vR (1, 0, 30), vR (1, 0, 31), vI v8, vI v9, vI v10, vI v11, vI v12, vN, vN] [vI (μ (1, 0, 23) ((μ (1, 0, 29) v9.toNatClampNeg)).toNatClampNeg)] μ)) : WS G eL_rule (d + 1) Z Q 69 [vR (1, 0, 20), vR (1, 0, 21), vR (1, 0, 22), vR (1, 0, 23), vR (1, 0, 28), vR (1, 0, 29), vR (1, 0, 30), vR (1, 0, 31), vI v8, vI v9, vI v10, vI v11, vI v12, vN, vN] [] μ := WS.go okL_rule 332 h
set_option maxRecDepth 100000 in
set_option maxHeartbeats 4000000 in
theorem wL_rule_88 {G : xG} {d : Nat} {Z : xZ} {v8 : Int32} {v9 : Int32} {v10 : Int32} {v11 : Int32} {v12 : Int32} {s0 : Int32} {μ : xM} {Q : xP} (h : xif (v12 = 0) (xif (v8 = (7 : Int32)) (vp_in v10 48 ∧ xif ((μ (1, 0, 30) v10.toNatClampNeg) < 0) (WS G eL_rule (d + 1) Z Q 222 [vN, vR (1, 0, 21), vR (1, 0, 22), vR (1, 0, 23), vN, vR (1, 0, 29), vR (1, 0, 30), vN, vN, vN, vI v10, vI v11, vN, vI s0, vN] [] μ) (vp_in v11 48 ∧ xif ((μ (1, 0, 30) v11.toNatClampNeg) < 0) (WS G eL_rule (d + 1) Z Q 222 [vN, vR (1, 0, 21), vR (1, 0, 22), vR (1, 0, 23), vN, vR (1, 0, 29), vR (1, 0, 30), vN, vN, vN, vI v10, vI v11, vN, vI s0, vN] [] μ) (vp_in v10 48 ∧ MW G d mL_shut [vR (1, 0, 30), vR (1, 0, 31), vI (μ (1, 0, 31) v10.toNatClampNeg)] μ (xrI fun x2 μ1 => xif (x2 = 0) (vp_in v11 48 ∧ MW G d mL_shut [vR (1, 0, 30), vR (1, 0, 31), vI (μ1 (1, 0, 31) v11.toNatClampNeg)] μ1 (xrI fun x4 μ3 => xif (x4 = 0) (vp_in s0 60 ∧ xif ((μ3 (1, 0, 20) s0.toNatClampNeg) = (4 : Int32)) (WS G eL_rule (d + 1) Z Q 223 [vN, vR (1, 0, 21), vR (1, 0, 22), vR (1, 0, 23), vN, vR (1, 0, 29), vR (1, 0, 30), vN, vN, vN, vI v10, vI v11, vN, vI s0, vN] [vI (1 : Int32)] μ3) (WS G eL_rule (d + 1) Z Q 222 [vN, vR (1, 0, 21), vR (1, 0, 22), vR (1, 0, 23), vN, vR (1, 0, 29), vR (1, 0, 30), vN, vN, vN, vI v10, vI v11, vN, vI s0, vN] [] μ3)) (WS G eL_rule (d + 1) Z Q 222 [vN, vR (1, 0, 21), vR (1, 0, 22), vR (1, 0, 23), vN, vR (1, 0, 29), vR (1, 0, 30), vN, vN, vN, vI v10, vI v11, vN, vI s0, vN] [] μ3))) (WS G eL_rule (d + 1) Z Q 222 [vN, vR (1, 0, 21), vR (1, 0, 22), vR (1, 0, 23), vN, vR (1, 0, 29), vR (1, 0, 30), vN, vN, vN, vI v10, vI v11, vN, vI s0, vN] [] μ1))))) (xif (v8 = (4 : Int32)) (WS G eL_rule (d + 1) Z Q 302 [vR (1, 0, 20), vR (1, 0, 21), vR (1, 0, 22), vN, vN, vN, vN, vN, vI v8, vN, vN, vN, vN, vI s0, vN] [] μ) (xif (v8 = (5 : Int32)) (WS G eL_rule (d + 1) Z Q 302 [vR (1, 0, 20), vR (1, 0, 21), vR (1, 0, 22), vN, vN, vN, vN, vN, vI v8, vN, vN, vN, vN, vI s0, vN] [] μ) (xif (v8 = (13 : Int32)) (vp_in s0 60 ∧ xif ((μ (1, 0, 20) s0.toNatClampNeg) = (2 : Int32)) (vp_in s0 60 ∧ vp_in ((μ (1, 0, 21) s0.toNatClampNeg)) 60 ∧ xif ((μ (1, 0, 20) ((μ (1, 0, 21) s0.toNatClampNeg)).toNatClampNeg) = (2 : Int32)) (vp_in s0 60 ∧ vp_in ((μ (1, 0, 21) s0.toNatClampNeg)) 60 ∧ Q (some (vL (((Int32.toInt64 ((μ (1, 0, 21) ((μ (1, 0, 21) s0.toNatClampNeg)).toNatClampNeg))) + (1 : Int64))))) μ) (Q (some (vL (0 : Int64))) μ)) (Q (some (vL (0 : Int64))) μ)) (xif (v8 = (2 : Int32)) (Q (some (vL (((Int32.toInt64 s0) + (1 : Int64))))) μ) (xif (v8 = (6 : Int32)) (WS G eL_rule (d + 1) Z Q 400 [vR (1, 0, 20), vR (1, 0, 21), vR (1, 0, 22), vN, vN, vN, vN, vN, vI v8, vN, vI v10, vN, vN, vI s0, vN] [] μ) (xif (v8 = (12 : Int32)) (WS G eL_rule (d + 1) Z Q 400 [vR (1, 0, 20), vR (1, 0, 21), vR (1, 0, 22), vN, vN, vN, vN, vN, vI v8, vN, vI v10, vN, vN, vI s0, vN] [] μ) (vp_in v10 48 ∧ MW G d mL_shut [vR (1, 0, 30), vR (1, 0, 31), vI (μ (1, 0, 28) v10.toNatClampNeg)] μ (xrI fun x6 μ5 => xif (x6 = 0) (vp_in v10 48 ∧ xif (v8 = (3 : Int32)) (Q (some (vL ((((300000000 : Int64) + ((1000 : Int64) * (Int32.toInt64 s0))) + (Int32.toInt64 ((μ5 (1, 0, 23) v10.toNatClampNeg))))))) μ5) (xif (v8 = (9 : Int32)) (vp_in s0 60 ∧ xif ((μ5 (1, 0, 20) s0.toNatClampNeg) = (5 : Int32)) (vp_in s0 60 ∧ xif ((μ5 (1, 0, 21) s0.toNatClampNeg) = (μ5 (1, 0, 23) v10.toNatClampNeg)) (vp_in s0 60 ∧ Q (some (vL (((Int32.toInt64 ((μ5 (1, 0, 22) s0.toNatClampNeg))) + (1 : Int64))))) μ5) (WS G eL_rule (d + 1) Z Q 552 [vN, vN, vN, vN, vN, vN, vN, vN, vN, vN, vN, vN, vN, vN, vN] [] μ5)) (WS G eL_rule (d + 1) Z Q 552 [vN, vN, vN, vN, vN, vN, vN, vN, vN, vN, vN, vN, vN, vN, vN] [] μ5)) (vp_in s0 60 ∧ xif ((μ5 (1, 0, 20) s0.toNatClampNeg) = (2 : Int32)) (vp_in s0 60 ∧ xif ((μ5 (1, 0, 21) s0.toNatClampNeg) = (μ5 (1, 0, 23) v10.toNatClampNeg)) (Q (some (vL (100999999 : Int64))) μ5) (Q (some (vL (0 : Int64))) μ5)) (Q (some (vL (0 : Int64))) μ5)))) (Q (some (vL (0 : Int64))) μ5)))))))))) (vp_in v9 48 ∧ vp_in ((μ (1, 0, 30) v9.toNatClampNeg)) 48 ∧ xif (v8 = (8 : Int32)) (Q (some (vL ((((500000000 : Int64) + ((1000 : Int64) * (Int32.toInt64 s0))) + (Int32.toInt64 ((μ (1, 0, 23) ((μ (1, 0, 30) v9.toNatClampNeg)).toNatClampNeg))))))) μ) (vp_in ((μ (1, 0, 23) ((μ (1, 0, 30) v9.toNatClampNeg)).toNatClampNeg)) 60 ∧ xif ((μ (1, 0, 20) ((μ (1, 0, 23) ((μ (1, 0, 30) v9.toNatClampNeg)).toNatClampNeg)).toNatClampNeg) = (1 : Int32)) (Q (some (vL ((((200000000 : Int64) + ((1000 : Int64) * (Int32.toInt64 s0))) + (999 : Int64))))) μ) (Q (some (vL (0 : Int64))) μ)))) : WS G eL_rule (d + 1) Z Q 88 [vR (1, 0, 20), vR (1, 0, 21), vR (1, 0, 22), vR (1, 0, 23), vR (1, 0, 28), vR (1, 0, 29), vR (1, 0, 30), vR (1, 0, 31), vI v8, vI v9, vI v10, vI v11, vI v12, vN, vN] [vI s0] μ := WS.go okL_rule 332 h
set_option maxRecDepth 100000 in
set_option maxHeartbeats 4000000 in
theorem wL_rule_222 {G : xG} {d : Nat} {Z : xZ} {v10 : Int32} {v11 : Int32} {v13 : Int32} {μ : xM} {Q : xP} (h : WS G eL_rule (d + 1) Z Q 223 [vN, vR (1, 0, 21), vR (1, 0, 22), vR (1, 0, 23), vN, vR (1, 0, 29), vR (1, 0, 30), vN, vN, vN, vI v10, vI v11, vN, vI v13, vN] [vI (0 : Int32)] μ) : WS G eL_rule (d + 1) Z Q 222 [vN, vR (1, 0, 21), vR (1, 0, 22), vR (1, 0, 23), vN, vR (1, 0, 29), vR (1, 0, 30), vN, vN, vN, vI v10, vI v11, vN, vI v13, vN] [] μ := WS.go okL_rule 332 h
set_option maxRecDepth 100000 in
set_option maxHeartbeats 4000000 in
theorem wL_rule_223 {G : xG} {d : Nat} {Z : xZ} {v10 : Int32} {v11 : Int32} {v13 : Int32} {s0 : Int32} {μ : xM} {Q : xP} (h : xif (s0 = 0) (Q (some (vL (0 : Int64))) μ) (vp_in v10 48 ∧ vp_in ((μ (1, 0, 29) v10.toNatClampNeg)) 48 ∧ vp_in v13 60 ∧ xif ((μ (1, 0, 23) ((μ (1, 0, 29) v10.toNatClampNeg)).toNatClampNeg) = (μ (1, 0, 21) v13.toNatClampNeg)) (vp_in v11 48 ∧ vp_in ((μ (1, 0, 29) v11.toNatClampNeg)) 48 ∧ vp_in v13 60 ∧ xif ((μ (1, 0, 23) ((μ (1, 0, 29) v11.toNatClampNeg)).toNatClampNeg) = (μ (1, 0, 22) v13.toNatClampNeg)) (vp_in v10 48 ∧ vp_in ((μ (1, 0, 30) v10.toNatClampNeg)) 48 ∧ vp_in v11 48 ∧ vp_in ((μ (1, 0, 30) v11.toNatClampNeg)) 48 ∧ xif ((μ (1, 0, 23) ((μ (1, 0, 30) v10.toNatClampNeg)).toNatClampNeg) = (μ (1, 0, 23) ((μ (1, 0, 30) v11.toNatClampNeg)).toNatClampNeg)) (vp_in v10 48 ∧ vp_in ((μ (1, 0, 30) v10.toNatClampNeg)) 48 ∧ Q (some (vL (((Int32.toInt64 ((μ (1, 0, 23) ((μ (1, 0, 30) v10.toNatClampNeg)).toNatClampNeg))) + (1 : Int64))))) μ) (Q (some (vL (0 : Int64))) μ)) (Q (some (vL (0 : Int64))) μ)) (Q (some (vL (0 : Int64))) μ))) : WS G eL_rule (d + 1) Z Q 223 [vN, vR (1, 0, 21), vR (1, 0, 22), vR (1, 0, 23), vN, vR (1, 0, 29), vR (1, 0, 30), vN, vN, vN, vI v10, vI v11, vN, vI v13, vN] [vI s0] μ := WS.go okL_rule 332 h
set_option maxRecDepth 100000 in
set_option maxHeartbeats 4000000 in
theorem wL_rule_302 {G : xG} {d : Nat} {Z : xZ} {v8 : Int32} {v13 : Int32} {μ : xM} {Q : xP} (h : vp_in v13 60 ∧ xif ((μ (1, 0, 20) v13.toNatClampNeg) = (3 : Int32)) (xif (v8 = (4 : Int32)) (vp_in v13 60 ∧ WS G eL_rule (d + 1) Z Q 327 [vN, vN, vN, vN, vN, vN, vN, vN, vN, vN, vN, vN, vN, vN, vN] [vI (μ (1, 0, 21) v13.toNatClampNeg)] μ) (vp_in v13 60 ∧ WS G eL_rule (d + 1) Z Q 327 [vN, vN, vN, vN, vN, vN, vN, vN, vN, vN, vN, vN, vN, vN, vN] [vI (μ (1, 0, 22) v13.toNatClampNeg)] μ)) (Q (some (vL (0 : Int64))) μ)) : WS G eL_rule (d + 1) Z Q 302 [vR (1, 0, 20), vR (1, 0, 21), vR (1, 0, 22), vN, vN, vN, vN, vN, vI v8, vN, vN, vN, vN, vI v13, vN] [] μ := WS.go okL_rule 332 h
set_option maxRecDepth 100000 in
set_option maxHeartbeats 4000000 in
theorem wL_rule_327 {G : xG} {d : Nat} {Z : xZ} {s0 : Int32} {μ : xM} {Q : xP} (h : Q (some (vL (((Int32.toInt64 s0) + (1 : Int64))))) μ) : WS G eL_rule (d + 1) Z Q 327 [vN, vN, vN, vN, vN, vN, vN, vN, vN, vN, vN, vN, vN, vN, vN] [vI s0] μ := WS.go okL_rule 332 h
set_option maxRecDepth 100000 in
set_option maxHeartbeats 4000000 in
theorem wL_rule_400 {G : xG} {d : Nat} {Z : xZ} {v8 : Int32} {v10 : Int32} {v13 : Int32} {μ : xM} {Q : xP} (h : xif (v8 = (12 : Int32)) (vp_in v13 60 ∧ xif ((μ (1, 0, 20) v13.toNatClampNeg) = (1 : Int32)) (WS G eL_rule (d + 1) Z Q 454 [vN, vN, vN, vN, vN, vN, vN, vN, vN, vN, vI v10, vN, vN, vN, vN] [vI (1 : Int32)] μ) (WS G eL_rule (d + 1) Z Q 454 [vN, vN, vN, vN, vN, vN, vN, vN, vN, vN, vI v10, vN, vN, vN, vN] [vI (0 : Int32)] μ)) (vp_in v10 60 ∧ xif ((μ (1, 0, 20) v10.toNatClampNeg) = (4 : Int32)) (vp_in v10 60 ∧ xif ((μ (1, 0, 21) v10.toNatClampNeg) = v13) (WS G eL_rule (d + 1) Z Q 449 [vN, vN, vN, vN, vN, vN, vN, vN, vN, vN, vI v10, vN, vN, vN, vN] [] μ) (vp_in v10 60 ∧ xif ((μ (1, 0, 22) v10.toNatClampNeg) = v13) (WS G eL_rule (d + 1) Z Q 449 [vN, vN, vN, vN, vN, vN, vN, vN, vN, vN, vI v10, vN, vN, vN, vN] [] μ) (WS G eL_rule (d + 1) Z Q 453 [vN, vN, vN, vN, vN, vN, vN, vN, vN, vN, vI v10, vN, vN, vN, vN] [] μ))) (WS G eL_rule (d + 1) Z Q 453 [vN, vN, vN, vN, vN, vN, vN, vN, vN, vN, vI v10, vN, vN, vN, vN] [] μ))) : WS G eL_rule (d + 1) Z Q 400 [vR (1, 0, 20), vR (1, 0, 21), vR (1, 0, 22), vN, vN, vN, vN, vN, vI v8, vN, vI v10, vN, vN, vI v13, vN] [] μ := WS.go okL_rule 332 h
set_option maxRecDepth 100000 in
set_option maxHeartbeats 4000000 in
theorem wL_rule_449 {G : xG} {d : Nat} {Z : xZ} {v10 : Int32} {μ : xM} {Q : xP} (h : WS G eL_rule (d + 1) Z Q 454 [vN, vN, vN, vN, vN, vN, vN, vN, vN, vN, vI v10, vN, vN, vN, vN] [vI (1 : Int32)] μ) : WS G eL_rule (d + 1) Z Q 449 [vN, vN, vN, vN, vN, vN, vN, vN, vN, vN, vI v10, vN, vN, vN, vN] [] μ := WS.go okL_rule 332 h
set_option maxRecDepth 100000 in
set_option maxHeartbeats 4000000 in
theorem wL_rule_453 {G : xG} {d : Nat} {Z : xZ} {v10 : Int32} {μ : xM} {Q : xP} (h : WS G eL_rule (d + 1) Z Q 454 [vN, vN, vN, vN, vN, vN, vN, vN, vN, vN, vI v10, vN, vN, vN, vN] [vI (0 : Int32)] μ) : WS G eL_rule (d + 1) Z Q 453 [vN, vN, vN, vN, vN, vN, vN, vN, vN, vN, vI v10, vN, vN, vN, vN] [] μ := WS.go okL_rule 332 h
set_option maxRecDepth 100000 in
set_option maxHeartbeats 4000000 in
theorem wL_rule_454 {G : xG} {d : Nat} {Z : xZ} {v10 : Int32} {s0 : Int32} {μ : xM} {Q : xP} (h : xif (s0 = 0) (Q (some (vL (0 : Int64))) μ) (Q (some (vL (((Int32.toInt64 v10) + (1 : Int64))))) μ)) : WS G eL_rule (d + 1) Z Q 454 [vN, vN, vN, vN, vN, vN, vN, vN, vN, vN, vI v10, vN, vN, vN, vN] [vI s0] μ := WS.go okL_rule 332 h
set_option maxRecDepth 100000 in
set_option maxHeartbeats 4000000 in
theorem wL_rule_552 {G : xG} {d : Nat} {Z : xZ} {μ : xM} {Q : xP} (h : Q (some (vL (0 : Int64))) μ) : WS G eL_rule (d + 1) Z Q 552 [vN, vN, vN, vN, vN, vN, vN, vN, vN, vN, vN, vN, vN, vN, vN] [] μ := WS.go okL_rule 332 h
end
section
/-! THE METHODS AS CONDITIONS, by program: each held against the small machine -/
set_option maxRecDepth 100000 in
set_option maxHeartbeats 4000000 in
theorem wL_law_86 {G : xG} {d : Nat} {Z : xZ} {v15 : Int32} {μ : xM} {Q : xP} (h : xif ((70 : Int32) ≤ v15) (WS G eL_law (d + 1) Z Q 1802 [vN, vN, vN, vN, vN, vN, vN, vN, vN, vN, vN, vN, vN, vN, vN, vN, vN, vN, vN, vN, vN, vN, vN, vN, vN, vN, vN, vN, vN, vN, vN, vN, vN] [vI (1 : Int32)] μ) (WS G eL_law (d + 1) Z Q 96 [vR (13, 0, 0), vR (8, 0, 0), vR (1, 0, 20), vR (1, 0, 21), vR (1, 0, 22), vR (1, 0, 23), vR (1, 0, 24), vR (1, 0, 25), vR (1, 0, 26), vR (1, 0, 27), vR (1, 0, 28), vR (1, 0, 29), vR (1, 0, 30), vR (1, 0, 31), vR (1, 0, 32), vI v15, vN, vN, vN, vN, vN, vN, vN, vN, vN, vN, vN, vN, vN, vN, vN, vN, vN] [vI v15, vR (13, 0, 0)] μ)) : WS G eL_law (d + 1) Z Q 86 [vR (13, 0, 0), vR (8, 0, 0), vR (1, 0, 20), vR (1, 0, 21), vR (1, 0, 22), vR (1, 0, 23), vR (1, 0, 24), vR (1, 0, 25), vR (1, 0, 26), vR (1, 0, 27), vR (1, 0, 28), vR (1, 0, 29), vR (1, 0, 30), vR (1, 0, 31), vR (1, 0, 32), vI v15, vN, vN, vN, vN, vN, vN, vN, vN, vN, vN, vN, vN, vN, vN, vN, vN, vN] [] μ := WS.go okL_law 880 h
set_option maxRecDepth 100000 in
set_option maxHeartbeats 4000000 in
theorem wL_law_99 {G : xG} {d : Nat} {Z : xZ} {v15 : Int32} {s0 : Int32} {μ : xM} {Q : xP} (h : WS G eL_law (d + 1) Z Q 107 [vR (13, 0, 0), vR (8, 0, 0), vR (1, 0, 20), vR (1, 0, 21), vR (1, 0, 22), vR (1, 0, 23), vR (1, 0, 24), vR (1, 0, 25), vR (1, 0, 26), vR (1, 0, 27), vR (1, 0, 28), vR (1, 0, 29), vR (1, 0, 30), vR (1, 0, 31), vR (1, 0, 32), vI v15, vI s0, vN, vN, vN, vN, vN, vN, vN, vN, vN, vN, vN, vN, vN, vN, vN, vN] [vI ((70 : Int32) + v15), vR (13, 0, 0)] μ) : WS G eL_law (d + 1) Z Q 99 [vR (13, 0, 0), vR (8, 0, 0), vR (1, 0, 20), vR (1, 0, 21), vR (1, 0, 22), vR (1, 0, 23), vR (1, 0, 24), vR (1, 0, 25), vR (1, 0, 26), vR (1, 0, 27), vR (1, 0, 28), vR (1, 0, 29), vR (1, 0, 30), vR (1, 0, 31), vR (1, 0, 32), vI v15, vN, vN, vN, vN, vN, vN, vN, vN, vN, vN, vN, vN, vN, vN, vN, vN, vN] [vI s0] μ := WS.go okL_law 880 h
set_option maxRecDepth 100000 in
set_option maxHeartbeats 4000000 in
theorem wL_law_110 {G : xG} {d : Nat} {Z : xZ} {v15 : Int32} {v16 : Int32} {s0 : Int32} {μ : xM} {Q : xP} (h : MW G d mL_low [vI v16, vI (24 : Int32)] μ (xrI fun x2 μ1 => vp_in (1 : Int32) 3 ∧ xif ((μ1 (1, 0, 32) (1 : Int32).toNatClampNeg) = (48 : Int32)) (WS G eL_law (d + 1) Z Q 135 [vR (13, 0, 0), vR (8, 0, 0), vR (1, 0, 20), vR (1, 0, 21), vR (1, 0, 22), vR (1, 0, 23), vR (1, 0, 24), vR (1, 0, 25), vR (1, 0, 26), vR (1, 0, 27), vR (1, 0, 28), vR (1, 0, 29), vR (1, 0, 30), vR (1, 0, 31), vR (1, 0, 32), vI v15, vI v16, vI s0, vI x2, vN, vN, vN, vN, vN, vN, vN, vN, vN, vN, vN, vN, vN, vN] [vI (1 : Int32)] μ1) (WS G eL_law (d + 1) Z Q 135 [vR (13, 0, 0), vR (8, 0, 0), vR (1, 0, 20), vR (1, 0, 21), vR (1, 0, 22), vR (1, 0, 23), vR (1, 0, 24), vR (1, 0, 25), vR (1, 0, 26), vR (1, 0, 27), vR (1, 0, 28), vR (1, 0, 29), vR (1, 0, 30), vR (1, 0, 31), vR (1, 0, 32), vI v15, vI v16, vI s0, vI x2, vN, vN, vN, vN, vN, vN, vN, vN, vN, vN, vN, vN, vN, vN] [vI (0 : Int32)] μ1))) : WS G eL_law (d + 1) Z Q 110 [vR (13, 0, 0), vR (8, 0, 0), vR (1, 0, 20), vR (1, 0, 21), vR (1, 0, 22), vR (1, 0, 23), vR (1, 0, 24), vR (1, 0, 25), vR (1, 0, 26), vR (1, 0, 27), vR (1, 0, 28), vR (1, 0, 29), vR (1, 0, 30), vR (1, 0, 31), vR (1, 0, 32), vI v15, vI v16, vN, vN, vN, vN, vN, vN, vN, vN, vN, vN, vN, vN, vN, vN, vN, vN] [vI s0] μ := WS.go okL_law 880 h
set_option maxRecDepth 100000 in
set_option maxHeartbeats 4000000 in
theorem wL_law_135 {G : xG} {d : Nat} {Z : xZ} {v15 : Int32} {v16 : Int32} {v17 : Int32} {v18 : Int32} {s0 : Int32} {μ : xM} {Q : xP} (h : xif (v18 < (4 : Int32)) (WS G eL_law (d + 1) Z Q 154 [vR (13, 0, 0), vR (8, 0, 0), vR (1, 0, 20), vR (1, 0, 21), vR (1, 0, 22), vR (1, 0, 23), vR (1, 0, 24), vR (1, 0, 25), vR (1, 0, 26), vR (1, 0, 27), vR (1, 0, 28), vR (1, 0, 29), vR (1, 0, 30), vR (1, 0, 31), vR (1, 0, 32), vI v15, vI v16, vI v17, vN, vN, vN, vN, vN, vN, vN, vN, vN, vN, vN, vN, vN, vN, vN] [] μ) (vp_in (0 : Int32) 3 ∧ xif ((3 : Int32) ≤ (μ (1, 0, 32) (0 : Int32).toNatClampNeg)) (xif ((6 : Int32) ≤ v18) (xif ((9 : Int32) ≤ v18) (xif ((11 : Int32) ≤ v18) (xif (v18 = (11 : Int32)) (MW G d mL_low [vI (v16 >>> ((5 : Int32) &&& 31)), vI (3 : Int32)] μ (xrI fun x2 μ1 => xif (x2 = 0) (MW G d mL_shorten [vR (1, 0, 24), vR (1, 0, 25), vR (1, 0, 26), vR (1, 0, 32)] μ1 (xrI fun x4 μ3 => MW G d mX8_shorten [vR (8, 0, 0)] μ3 (xrI fun x6 μ5 => xif (x6 = x4) (WS G eL_law (d + 1) Z Q 765 [vR (13, 0, 0), vR (8, 0, 0), vR (1, 0, 20), vR (1, 0, 21), vR (1, 0, 22), vR (1, 0, 23), vR (1, 0, 24), vR (1, 0, 25), vR (1, 0, 26), vR (1, 0, 27), vR (1, 0, 28), vR (1, 0, 29), vR (1, 0, 30), vR (1, 0, 31), vR (1, 0, 32), vI v15, vN, vI v17, vN, vN, vN, vN, vN, vN, vN, vN, vN, vN, vN, vN, vN, vN, vN] [vI (1 : Int32)] μ5) (WS G eL_law (d + 1) Z Q 765 [vR (13, 0, 0), vR (8, 0, 0), vR (1, 0, 20), vR (1, 0, 21), vR (1, 0, 22), vR (1, 0, 23), vR (1, 0, 24), vR (1, 0, 25), vR (1, 0, 26), vR (1, 0, 27), vR (1, 0, 28), vR (1, 0, 29), vR (1, 0, 30), vR (1, 0, 31), vR (1, 0, 32), vI v15, vN, vI v17, vN, vN, vN, vN, vN, vN, vN, vN, vN, vN, vN, vN, vN, vN, vN] [vI (0 : Int32)] μ5)))) (WS G eL_law (d + 1) Z Q 770 [vR (13, 0, 0), vR (8, 0, 0), vR (1, 0, 20), vR (1, 0, 21), vR (1, 0, 22), vR (1, 0, 23), vR (1, 0, 24), vR (1, 0, 25), vR (1, 0, 26), vR (1, 0, 27), vR (1, 0, 28), vR (1, 0, 29), vR (1, 0, 30), vR (1, 0, 31), vR (1, 0, 32), vI v15, vI v16, vI v17, vI v18, vI s0, vI (1 : Int32), vN, vN, vN, vN, vN, vN, vN, vN, vN, vN, vN, vN] [] μ1))) (WS G eL_law (d + 1) Z Q 770 [vR (13, 0, 0), vR (8, 0, 0), vR (1, 0, 20), vR (1, 0, 21), vR (1, 0, 22), vR (1, 0, 23), vR (1, 0, 24), vR (1, 0, 25), vR (1, 0, 26), vR (1, 0, 27), vR (1, 0, 28), vR (1, 0, 29), vR (1, 0, 30), vR (1, 0, 31), vR (1, 0, 32), vI v15, vI v16, vI v17, vI v18, vI s0, vI (1 : Int32), vN, vN, vN, vN, vN, vN, vN, vN, vN, vN, vN, vN] [] μ)) (MW G d mL_latest [vR (1, 0, 30), vR (1, 0, 32)] μ (xrI fun x8 μ7 => xif (x8 < 0) (WS G eL_law (d + 1) Z Q 672 [vR (13, 0, 0), vR (8, 0, 0), vR (1, 0, 20), vR (1, 0, 21), vR (1, 0, 22), vR (1, 0, 23), vR (1, 0, 24), vR (1, 0, 25), vR (1, 0, 26), vR (1, 0, 27), vR (1, 0, 28), vR (1, 0, 29), vR (1, 0, 30), vR (1, 0, 31), vR (1, 0, 32), vI v15, vN, vI v17, vN, vN, vN, vI x8, vN, vN, vN, vN, vN, vN, vN, vN, vN, vN, vN] [] μ7) (vp_in (1 : Int32) 3 ∧ vp_in (((μ7 (1, 0, 32) (1 : Int32).toNatClampNeg) - (1 : Int32))) 48 ∧ xif ((μ7 (1, 0, 28) (((μ7 (1, 0, 32) (1 : Int32).toNatClampNeg) - (1 : Int32))).toNatClampNeg) = x8) (WS G eL_law (d + 1) Z Q 673 [vR (13, 0, 0), vR (8, 0, 0), vR (1, 0, 20), vR (1, 0, 21), vR (1, 0, 22), vR (1, 0, 23), vR (1, 0, 24), vR (1, 0, 25), vR (1, 0, 26), vR (1, 0, 27), vR (1, 0, 28), vR (1, 0, 29), vR (1, 0, 30), vR (1, 0, 31), vR (1, 0, 32), vI v15, vN, vI v17, vN, vN, vN, vI x8, vN, vN, vN, vN, vN, vN, vN, vN, vN, vN, vN] [vI (1 : Int32)] μ7) (WS G eL_law (d + 1) Z Q 672 [vR (13, 0, 0), vR (8, 0, 0), vR (1, 0, 20), vR (1, 0, 21), vR (1, 0, 22), vR (1, 0, 23), vR (1, 0, 24), vR (1, 0, 25), vR (1, 0, 26), vR (1, 0, 27), vR (1, 0, 28), vR (1, 0, 29), vR (1, 0, 30), vR (1, 0, 31), vR (1, 0, 32), vI v15, vN, vI v17, vN, vN, vN, vI x8, vN, vN, vN, vN, vN, vN, vN, vN, vN, vN, vN] [] μ7))))) (vp_in (0 : Int32) 3 ∧ MW G d mL_low [vI (v16 >>> ((5 : Int32) &&& 31)), vI (μ (1, 0, 32) (0 : Int32).toNatClampNeg)] μ (xrI fun x10 μ9 => WS G eL_law (d + 1) Z Q 482 [vR (13, 0, 0), vR (8, 0, 0), vR (1, 0, 20), vR (1, 0, 21), vR (1, 0, 22), vR (1, 0, 23), vR (1, 0, 24), vR (1, 0, 25), vR (1, 0, 26), vR (1, 0, 27), vR (1, 0, 28), vR (1, 0, 29), vR (1, 0, 30), vR (1, 0, 31), vR (1, 0, 32), vI v15, vN, vI v17, vN, vI s0, vN, vI x10, vI (0 : Int32), vI (0 : Int32), vN, vN, vN, vN, vN, vN, vN, vN, vN] [] μ9))) (vp_in (0 : Int32) 3 ∧ MW G d mL_low [vI (v16 >>> ((5 : Int32) &&& 31)), vI (μ (1, 0, 32) (0 : Int32).toNatClampNeg)] μ (xrI fun x12 μ11 => MW G d mL_latest [vR (1, 0, 30), vR (1, 0, 32)] μ11 (xrI fun x14 μ13 => xif (x14 < 0) (WS G eL_law (d + 1) Z Q 388 [vR (13, 0, 0), vR (8, 0, 0), vR (1, 0, 20), vR (1, 0, 21), vR (1, 0, 22), vR (1, 0, 23), vR (1, 0, 24), vR (1, 0, 25), vR (1, 0, 26), vR (1, 0, 27), vR (1, 0, 28), vR (1, 0, 29), vR (1, 0, 30), vR (1, 0, 31), vR (1, 0, 32), vI v15, vN, vI v17, vN, vI s0, vN, vI x12, vN, vN, vN, vN, vN, vN, vN, vN, vN, vN, vN] [vI (0 : Int32)] μ13) (WS G eL_law (d + 1) Z Q 388 [vR (13, 0, 0), vR (8, 0, 0), vR (1, 0, 20), vR (1, 0, 21), vR (1, 0, 22), vR (1, 0, 23), vR (1, 0, 24), vR (1, 0, 25), vR (1, 0, 26), vR (1, 0, 27), vR (1, 0, 28), vR (1, 0, 29), vR (1, 0, 30), vR (1, 0, 31), vR (1, 0, 32), vI v15, vN, vI v17, vN, vI s0, vN, vI x12, vN, vN, vN, vN, vN, vN, vN, vN, vN, vN, vN] [vI (1 : Int32)] μ13))))) (WS G eL_law (d + 1) Z Q 154 [vR (13, 0, 0), vR (8, 0, 0), vR (1, 0, 20), vR (1, 0, 21), vR (1, 0, 22), vR (1, 0, 23), vR (1, 0, 24), vR (1, 0, 25), vR (1, 0, 26), vR (1, 0, 27), vR (1, 0, 28), vR (1, 0, 29), vR (1, 0, 30), vR (1, 0, 31), vR (1, 0, 32), vI v15, vI v16, vI v17, vN, vN, vN, vN, vN, vN, vN, vN, vN, vN, vN, vN, vN, vN, vN] [] μ))) : WS G eL_law (d + 1) Z Q 135 [vR (13, 0, 0), vR (8, 0, 0), vR (1, 0, 20), vR (1, 0, 21), vR (1, 0, 22), vR (1, 0, 23), vR (1, 0, 24), vR (1, 0, 25), vR (1, 0, 26), vR (1, 0, 27), vR (1, 0, 28), vR (1, 0, 29), vR (1, 0, 30), vR (1, 0, 31), vR (1, 0, 32), vI v15, vI v16, vI v17, vI v18, vN, vN, vN, vN, vN, vN, vN, vN, vN, vN, vN, vN, vN, vN] [vI s0] μ := WS.go okL_law 880 h
set_option maxRecDepth 100000 in
set_option maxHeartbeats 4000000 in
theorem wL_law_154 {G : xG} {d : Nat} {Z : xZ} {v15 : Int32} {v16 : Int32} {v17 : Int32} {μ : xM} {Q : xP} (h : vp_in (0 : Int32) 3 ∧ xif ((3 : Int32) ≤ (μ (1, 0, 32) (0 : Int32).toNatClampNeg)) (MW G d mL_low [vI (v16 >>> ((5 : Int32) &&& 31)), vI (6 : Int32)] μ (xrI fun x2 μ1 => WS G eL_law (d + 1) Z Q 175 [vR (13, 0, 0), vR (8, 0, 0), vR (1, 0, 20), vR (1, 0, 21), vR (1, 0, 22), vR (1, 0, 23), vR (1, 0, 24), vR (1, 0, 25), vR (1, 0, 26), vR (1, 0, 27), vR (1, 0, 28), vR (1, 0, 29), vR (1, 0, 30), vR (1, 0, 31), vR (1, 0, 32), vI v15, vI v16, vI v17, vN, vN, vN, vN, vN, vN, vN, vN, vN, vN, vN, vN, vN, vN, vN] [vI x2] μ1)) (WS G eL_law (d + 1) Z Q 175 [vR (13, 0, 0), vR (8, 0, 0), vR (1, 0, 20), vR (1, 0, 21), vR (1, 0, 22), vR (1, 0, 23), vR (1, 0, 24), vR (1, 0, 25), vR (1, 0, 26), vR (1, 0, 27), vR (1, 0, 28), vR (1, 0, 29), vR (1, 0, 30), vR (1, 0, 31), vR (1, 0, 32), vI v15, vI v16, vI v17, vN, vN, vN, vN, vN, vN, vN, vN, vN, vN, vN, vN, vN, vN, vN] [vI (0 : Int32)] μ)) : WS G eL_law (d + 1) Z Q 154 [vR (13, 0, 0), vR (8, 0, 0), vR (1, 0, 20), vR (1, 0, 21), vR (1, 0, 22), vR (1, 0, 23), vR (1, 0, 24), vR (1, 0, 25), vR (1, 0, 26), vR (1, 0, 27), vR (1, 0, 28), vR (1, 0, 29), vR (1, 0, 30), vR (1, 0, 31), vR (1, 0, 32), vI v15, vI v16, vI v17, vN, vN, vN, vN, vN, vN, vN, vN, vN, vN, vN, vN, vN, vN, vN] [] μ := WS.go okL_law 880 h
set_option maxRecDepth 100000 in
set_option maxHeartbeats 4000000 in
theorem wL_law_175 {G : xG} {d : Nat} {Z : xZ} {v15 : Int32} {v16 : Int32} {v17 : Int32} {s0 : Int32} {μ : xM} {Q : xP} (h : xif ((2 : Int32) ≤ s0) (vp_in (0 : Int32) 3 ∧ MW G d mL_low [vI (v16 >>> ((8 : Int32) &&& 31)), vI (μ (1, 0, 32) (0 : Int32).toNatClampNeg)] μ (xrI fun x2 μ1 => WS G eL_law (d + 1) Z Q 229 [vR (13, 0, 0), vR (8, 0, 0), vR (1, 0, 20), vR (1, 0, 21), vR (1, 0, 22), vR (1, 0, 23), vR (1, 0, 24), vR (1, 0, 25), vR (1, 0, 26), vR (1, 0, 27), vR (1, 0, 28), vR (1, 0, 29), vR (1, 0, 30), vR (1, 0, 31), vR (1, 0, 32), vI v15, vI v16, vI v17, vN, vN, vN, vI s0, vN, vN, vN, vN, vN, vN, vN, vN, vN, vN, vN] [vI x2] μ1)) (xif (s0 = 0) (vp_in (0 : Int32) 3 ∧ xif ((3 : Int32) ≤ (μ (1, 0, 32) (0 : Int32).toNatClampNeg)) (WS G eL_law (d + 1) Z Q 207 [vR (13, 0, 0), vR (8, 0, 0), vR (1, 0, 20), vR (1, 0, 21), vR (1, 0, 22), vR (1, 0, 23), vR (1, 0, 24), vR (1, 0, 25), vR (1, 0, 26), vR (1, 0, 27), vR (1, 0, 28), vR (1, 0, 29), vR (1, 0, 30), vR (1, 0, 31), vR (1, 0, 32), vI v15, vI v16, vI v17, vN, vN, vN, vI s0, vN, vN, vN, vN, vN, vN, vN, vN, vN, vN, vN] [vI (4 : Int32), vI (v16 >>> ((8 : Int32) &&& 31))] μ) (WS G eL_law (d + 1) Z Q 207 [vR (13, 0, 0), vR (8, 0, 0), vR (1, 0, 20), vR (1, 0, 21), vR (1, 0, 22), vR (1, 0, 23), vR (1, 0, 24), vR (1, 0, 25), vR (1, 0, 26), vR (1, 0, 27), vR (1, 0, 28), vR (1, 0, 29), vR (1, 0, 30), vR (1, 0, 31), vR (1, 0, 32), vI v15, vI v16, vI v17, vN, vN, vN, vI s0, vN, vN, vN, vN, vN, vN, vN, vN, vN, vN, vN] [vI (8 : Int32), vI (v16 >>> ((8 : Int32) &&& 31))] μ)) (WS G eL_law (d + 1) Z Q 229 [vR (13, 0, 0), vR (8, 0, 0), vR (1, 0, 20), vR (1, 0, 21), vR (1, 0, 22), vR (1, 0, 23), vR (1, 0, 24), vR (1, 0, 25), vR (1, 0, 26), vR (1, 0, 27), vR (1, 0, 28), vR (1, 0, 29), vR (1, 0, 30), vR (1, 0, 31), vR (1, 0, 32), vI v15, vI v16, vI v17, vN, vN, vN, vI s0, vN, vN, vN, vN, vN, vN, vN, vN, vN, vN, vN] [vI (-1 : Int32)] μ))) : WS G eL_law (d + 1) Z Q 175 [vR (13, 0, 0), vR (8, 0, 0), vR (1, 0, 20), vR (1, 0, 21), vR (1, 0, 22), vR (1, 0, 23), vR (1, 0, 24), vR (1, 0, 25), vR (1, 0, 26), vR (1, 0, 27), vR (1, 0, 28), vR (1, 0, 29), vR (1, 0, 30), vR (1, 0, 31), vR (1, 0, 32), vI v15, vI v16, vI v17, vN, vN, vN, vN, vN, vN, vN, vN, vN, vN, vN, vN, vN, vN, vN] [vI s0] μ := WS.go okL_law 880 h
set_option maxRecDepth 100000 in
set_option maxHeartbeats 4000000 in
theorem wL_law_207 {G : xG} {d : Nat} {Z : xZ} {v15 : Int32} {v16 : Int32} {v17 : Int32} {v21 : Int32} {s0 : Int32} {s1 : Int32} {μ : xM} {Q : xP} (h : MW G d mL_low [vI s0, vI s1] μ (xrI fun x2 μ1 => WS G eL_law (d + 1) Z Q 229 [vR (13, 0, 0), vR (8, 0, 0), vR (1, 0, 20), vR (1, 0, 21), vR (1, 0, 22), vR (1, 0, 23), vR (1, 0, 24), vR (1, 0, 25), vR (1, 0, 26), vR (1, 0, 27), vR (1, 0, 28), vR (1, 0, 29), vR (1, 0, 30), vR (1, 0, 31), vR (1, 0, 32), vI v15, vI v16, vI v17, vN, vN, vN, vI v21, vN, vN, vN, vN, vN, vN, vN, vN, vN, vN, vN] [vI x2] μ1)) : WS G eL_law (d + 1) Z Q 207 [vR (13, 0, 0), vR (8, 0, 0), vR (1, 0, 20), vR (1, 0, 21), vR (1, 0, 22), vR (1, 0, 23), vR (1, 0, 24), vR (1, 0, 25), vR (1, 0, 26), vR (1, 0, 27), vR (1, 0, 28), vR (1, 0, 29), vR (1, 0, 30), vR (1, 0, 31), vR (1, 0, 32), vI v15, vI v16, vI v17, vN, vN, vN, vI v21, vN, vN, vN, vN, vN, vN, vN, vN, vN, vN, vN] [vI s1, vI s0] μ := WS.go okL_law 880 h
set_option maxRecDepth 100000 in
set_option maxHeartbeats 4000000 in
theorem wL_law_229 {G : xG} {d : Nat} {Z : xZ} {v15 : Int32} {v16 : Int32} {v17 : Int32} {v21 : Int32} {s0 : Int32} {μ : xM} {Q : xP} (h : xif ((3 : Int32) ≤ v21) (vp_in (0 : Int32) 3 ∧ MW G d mL_low [vI (v16 >>> ((14 : Int32) &&& 31)), vI (μ (1, 0, 32) (0 : Int32).toNatClampNeg)] μ (xrI fun x2 μ1 => WS G eL_law (d + 1) Z Q 253 [vR (13, 0, 0), vR (8, 0, 0), vR (1, 0, 20), vR (1, 0, 21), vR (1, 0, 22), vR (1, 0, 23), vR (1, 0, 24), vR (1, 0, 25), vR (1, 0, 26), vR (1, 0, 27), vR (1, 0, 28), vR (1, 0, 29), vR (1, 0, 30), vR (1, 0, 31), vR (1, 0, 32), vI v15, vN, vI v17, vN, vN, vN, vI v21, vI s0, vN, vN, vN, vN, vN, vN, vN, vN, vN, vN] [vI x2] μ1)) (WS G eL_law (d + 1) Z Q 253 [vR (13, 0, 0), vR (8, 0, 0), vR (1, 0, 20), vR (1, 0, 21), vR (1, 0, 22), vR (1, 0, 23), vR (1, 0, 24), vR (1, 0, 25), vR (1, 0, 26), vR (1, 0, 27), vR (1, 0, 28), vR (1, 0, 29), vR (1, 0, 30), vR (1, 0, 31), vR (1, 0, 32), vI v15, vN, vI v17, vN, vN, vN, vI v21, vI s0, vN, vN, vN, vN, vN, vN, vN, vN, vN, vN] [vI (-1 : Int32)] μ)) : WS G eL_law (d + 1) Z Q 229 [vR (13, 0, 0), vR (8, 0, 0), vR (1, 0, 20), vR (1, 0, 21), vR (1, 0, 22), vR (1, 0, 23), vR (1, 0, 24), vR (1, 0, 25), vR (1, 0, 26), vR (1, 0, 27), vR (1, 0, 28), vR (1, 0, 29), vR (1, 0, 30), vR (1, 0, 31), vR (1, 0, 32), vI v15, vI v16, vI v17, vN, vN, vN, vI v21, vN, vN, vN, vN, vN, vN, vN, vN, vN, vN, vN] [vI s0] μ := WS.go okL_law 880 h
set_option maxRecDepth 100000 in
set_option maxHeartbeats 4000000 in
theorem wL_law_253 {G : xG} {d : Nat} {Z : xZ} {v15 : Int32} {v17 : Int32} {v21 : Int32} {v22 : Int32} {s0 : Int32} {μ : xM} {Q : xP} (h : MW G d mL_make [vR (1, 0, 20), vR (1, 0, 21), vR (1, 0, 22), vR (1, 0, 32), vI v21, vI v22, vI s0] μ (xrI fun x2 μ1 => xif (v21 = 0) (MW G d mX8_atom [vR (8, 0, 0), vI v22] μ1 (xrI fun x4 μ3 => WS G eL_law (d + 1) Z Q 324 [vR (13, 0, 0), vR (8, 0, 0), vR (1, 0, 20), vR (1, 0, 21), vR (1, 0, 22), vR (1, 0, 23), vR (1, 0, 24), vR (1, 0, 25), vR (1, 0, 26), vR (1, 0, 27), vR (1, 0, 28), vR (1, 0, 29), vR (1, 0, 30), vR (1, 0, 31), vR (1, 0, 32), vI v15, vN, vI v17, vN, vN, vN, vN, vN, vN, vI x2, vN, vN, vN, vN, vN, vN, vN, vN] [vI x4] μ3)) (xif (v21 = (1 : Int32)) (MW G d mX8_falsum [vR (8, 0, 0)] μ1 (xrI fun x6 μ5 => WS G eL_law (d + 1) Z Q 324 [vR (13, 0, 0), vR (8, 0, 0), vR (1, 0, 20), vR (1, 0, 21), vR (1, 0, 22), vR (1, 0, 23), vR (1, 0, 24), vR (1, 0, 25), vR (1, 0, 26), vR (1, 0, 27), vR (1, 0, 28), vR (1, 0, 29), vR (1, 0, 30), vR (1, 0, 31), vR (1, 0, 32), vI v15, vN, vI v17, vN, vN, vN, vN, vN, vN, vI x2, vN, vN, vN, vN, vN, vN, vN, vN] [vI x6] μ5)) (xif (v21 = (2 : Int32)) (MW G d mX8_not [vR (8, 0, 0), vI v22] μ1 (xrI fun x8 μ7 => WS G eL_law (d + 1) Z Q 324 [vR (13, 0, 0), vR (8, 0, 0), vR (1, 0, 20), vR (1, 0, 21), vR (1, 0, 22), vR (1, 0, 23), vR (1, 0, 24), vR (1, 0, 25), vR (1, 0, 26), vR (1, 0, 27), vR (1, 0, 28), vR (1, 0, 29), vR (1, 0, 30), vR (1, 0, 31), vR (1, 0, 32), vI v15, vN, vI v17, vN, vN, vN, vN, vN, vN, vI x2, vN, vN, vN, vN, vN, vN, vN, vN] [vI x8] μ7)) (MW G d mX8_pair [vR (8, 0, 0), vI v21, vI v22, vI s0] μ1 (xrI fun x10 μ9 => WS G eL_law (d + 1) Z Q 324 [vR (13, 0, 0), vR (8, 0, 0), vR (1, 0, 20), vR (1, 0, 21), vR (1, 0, 22), vR (1, 0, 23), vR (1, 0, 24), vR (1, 0, 25), vR (1, 0, 26), vR (1, 0, 27), vR (1, 0, 28), vR (1, 0, 29), vR (1, 0, 30), vR (1, 0, 31), vR (1, 0, 32), vI v15, vN, vI v17, vN, vN, vN, vN, vN, vN, vI x2, vN, vN, vN, vN, vN, vN, vN, vN] [vI x10] μ9)))))) : WS G eL_law (d + 1) Z Q 253 [vR (13, 0, 0), vR (8, 0, 0), vR (1, 0, 20), vR (1, 0, 21), vR (1, 0, 22), vR (1, 0, 23), vR (1, 0, 24), vR (1, 0, 25), vR (1, 0, 26), vR (1, 0, 27), vR (1, 0, 28), vR (1, 0, 29), vR (1, 0, 30), vR (1, 0, 31), vR (1, 0, 32), vI v15, vN, vI v17, vN, vN, vN, vI v21, vI v22, vN, vN, vN, vN, vN, vN, vN, vN, vN, vN] [vI s0] μ := WS.go okL_law 880 h
set_option maxRecDepth 100000 in
set_option maxHeartbeats 4000000 in
theorem wL_law_324 {G : xG} {d : Nat} {Z : xZ} {v15 : Int32} {v17 : Int32} {v24 : Int32} {s0 : Int32} {μ : xM} {Q : xP} (h : xif (0 ≤ v24) (WS G eL_law (d + 1) Z Q 340 [vR (13, 0, 0), vR (8, 0, 0), vR (1, 0, 20), vR (1, 0, 21), vR (1, 0, 22), vR (1, 0, 23), vR (1, 0, 24), vR (1, 0, 25), vR (1, 0, 26), vR (1, 0, 27), vR (1, 0, 28), vR (1, 0, 29), vR (1, 0, 30), vR (1, 0, 31), vR (1, 0, 32), vI v15, vN, vI v17, vN, vN, vN, vN, vN, vN, vN, vN, vN, vN, vN, vN, vN, vN, vN] [vI v24, vI s0] μ) (WS G eL_law (d + 1) Z Q 340 [vR (13, 0, 0), vR (8, 0, 0), vR (1, 0, 20), vR (1, 0, 21), vR (1, 0, 22), vR (1, 0, 23), vR (1, 0, 24), vR (1, 0, 25), vR (1, 0, 26), vR (1, 0, 27), vR (1, 0, 28), vR (1, 0, 29), vR (1, 0, 30), vR (1, 0, 31), vR (1, 0, 32), vI v15, vN, vI v17, vN, vN, vN, vN, vN, vN, vN, vN, vN, vN, vN, vN, vN, vN, vN] [vI (-4 : Int32), vI s0] μ)) : WS G eL_law (d + 1) Z Q 324 [vR (13, 0, 0), vR (8, 0, 0), vR (1, 0, 20), vR (1, 0, 21), vR (1, 0, 22), vR (1, 0, 23), vR (1, 0, 24), vR (1, 0, 25), vR (1, 0, 26), vR (1, 0, 27), vR (1, 0, 28), vR (1, 0, 29), vR (1, 0, 30), vR (1, 0, 31), vR (1, 0, 32), vI v15, vN, vI v17, vN, vN, vN, vN, vN, vN, vI v24, vN, vN, vN, vN, vN, vN, vN, vN] [vI s0] μ := WS.go okL_law 880 h
set_option maxRecDepth 100000 in
set_option maxHeartbeats 4000000 in
theorem wL_law_340 {G : xG} {d : Nat} {Z : xZ} {v15 : Int32} {v17 : Int32} {s0 : Int32} {s1 : Int32} {μ : xM} {Q : xP} (h : xif (s0 = s1) (WS G eL_law (d + 1) Z Q 348 [vR (13, 0, 0), vR (8, 0, 0), vR (1, 0, 20), vR (1, 0, 21), vR (1, 0, 22), vR (1, 0, 23), vR (1, 0, 24), vR (1, 0, 25), vR (1, 0, 26), vR (1, 0, 27), vR (1, 0, 28), vR (1, 0, 29), vR (1, 0, 30), vR (1, 0, 31), vR (1, 0, 32), vI v15, vN, vI v17, vN, vN, vN, vN, vN, vN, vN, vN, vN, vN, vN, vN, vN, vN, vN] [vI (1 : Int32)] μ) (WS G eL_law (d + 1) Z Q 348 [vR (13, 0, 0), vR (8, 0, 0), vR (1, 0, 20), vR (1, 0, 21), vR (1, 0, 22), vR (1, 0, 23), vR (1, 0, 24), vR (1, 0, 25), vR (1, 0, 26), vR (1, 0, 27), vR (1, 0, 28), vR (1, 0, 29), vR (1, 0, 30), vR (1, 0, 31), vR (1, 0, 32), vI v15, vN, vI v17, vN, vN, vN, vN, vN, vN, vN, vN, vN, vN, vN, vN, vN, vN, vN] [vI (0 : Int32)] μ)) : WS G eL_law (d + 1) Z Q 340 [vR (13, 0, 0), vR (8, 0, 0), vR (1, 0, 20), vR (1, 0, 21), vR (1, 0, 22), vR (1, 0, 23), vR (1, 0, 24), vR (1, 0, 25), vR (1, 0, 26), vR (1, 0, 27), vR (1, 0, 28), vR (1, 0, 29), vR (1, 0, 30), vR (1, 0, 31), vR (1, 0, 32), vI v15, vN, vI v17, vN, vN, vN, vN, vN, vN, vN, vN, vN, vN, vN, vN, vN, vN, vN] [vI s1, vI s0] μ := WS.go okL_law 880 h
set_option maxRecDepth 100000 in
set_option maxHeartbeats 4000000 in
theorem wL_law_348 {G : xG} {d : Nat} {Z : xZ} {v15 : Int32} {v17 : Int32} {s0 : Int32} {μ : xM} {Q : xP} (h : WS G eL_law (d + 1) Z Q 1686 [vR (13, 0, 0), vR (8, 0, 0), vR (1, 0, 20), vR (1, 0, 21), vR (1, 0, 22), vR (1, 0, 23), vR (1, 0, 24), vR (1, 0, 25), vR (1, 0, 26), vR (1, 0, 27), vR (1, 0, 28), vR (1, 0, 29), vR (1, 0, 30), vR (1, 0, 31), vR (1, 0, 32), vI v15, vN, vI v17, vN, vN, vI s0, vN, vN, vN, vN, vN, vN, vN, vN, vN, vN, vN, vN] [] μ) : WS G eL_law (d + 1) Z Q 348 [vR (13, 0, 0), vR (8, 0, 0), vR (1, 0, 20), vR (1, 0, 21), vR (1, 0, 22), vR (1, 0, 23), vR (1, 0, 24), vR (1, 0, 25), vR (1, 0, 26), vR (1, 0, 27), vR (1, 0, 28), vR (1, 0, 29), vR (1, 0, 30), vR (1, 0, 31), vR (1, 0, 32), vI v15, vN, vI v17, vN, vN, vN, vN, vN, vN, vN, vN, vN, vN, vN, vN, vN, vN, vN] [vI s0] μ := WS.go okL_law 880 h
set_option maxRecDepth 100000 in
set_option maxHeartbeats 4000000 in
theorem wL_law_388 {G : xG} {d : Nat} {Z : xZ} {v15 : Int32} {v17 : Int32} {v19 : Int32} {v21 : Int32} {s0 : Int32} {μ : xM} {Q : xP} (h : xif (s0 = 0) (xif (v19 = 0) (MW G d mL_write [vR (1, 0, 23), vR (1, 0, 24), vR (1, 0, 25), vR (1, 0, 26), vR (1, 0, 27), vR (1, 0, 28), vR (1, 0, 30), vR (1, 0, 32), vI v21, vI (0 : Int32), vI (0 : Int32)] μ (xrI fun x2 μ1 => WS G eL_law (d + 1) Z Q 433 [vR (13, 0, 0), vR (8, 0, 0), vR (1, 0, 20), vR (1, 0, 21), vR (1, 0, 22), vR (1, 0, 23), vR (1, 0, 24), vR (1, 0, 25), vR (1, 0, 26), vR (1, 0, 27), vR (1, 0, 28), vR (1, 0, 29), vR (1, 0, 30), vR (1, 0, 31), vR (1, 0, 32), vI v15, vN, vI v17, vN, vN, vN, vI v21, vN, vN, vN, vN, vN, vN, vN, vN, vN, vN, vN] [vI x2] μ1)) (WS G eL_law (d + 1) Z Q 433 [vR (13, 0, 0), vR (8, 0, 0), vR (1, 0, 20), vR (1, 0, 21), vR (1, 0, 22), vR (1, 0, 23), vR (1, 0, 24), vR (1, 0, 25), vR (1, 0, 26), vR (1, 0, 27), vR (1, 0, 28), vR (1, 0, 29), vR (1, 0, 30), vR (1, 0, 31), vR (1, 0, 32), vI v15, vN, vI v17, vN, vN, vN, vI v21, vN, vN, vN, vN, vN, vN, vN, vN, vN, vN, vN] [vI (-4 : Int32)] μ)) (WS G eL_law (d + 1) Z Q 433 [vR (13, 0, 0), vR (8, 0, 0), vR (1, 0, 20), vR (1, 0, 21), vR (1, 0, 22), vR (1, 0, 23), vR (1, 0, 24), vR (1, 0, 25), vR (1, 0, 26), vR (1, 0, 27), vR (1, 0, 28), vR (1, 0, 29), vR (1, 0, 30), vR (1, 0, 31), vR (1, 0, 32), vI v15, vN, vI v17, vN, vN, vN, vI v21, vN, vN, vN, vN, vN, vN, vN, vN, vN, vN, vN] [vI (-3 : Int32)] μ)) : WS G eL_law (d + 1) Z Q 388 [vR (13, 0, 0), vR (8, 0, 0), vR (1, 0, 20), vR (1, 0, 21), vR (1, 0, 22), vR (1, 0, 23), vR (1, 0, 24), vR (1, 0, 25), vR (1, 0, 26), vR (1, 0, 27), vR (1, 0, 28), vR (1, 0, 29), vR (1, 0, 30), vR (1, 0, 31), vR (1, 0, 32), vI v15, vN, vI v17, vN, vI v19, vN, vI v21, vN, vN, vN, vN, vN, vN, vN, vN, vN, vN, vN] [vI s0] μ := WS.go okL_law 880 h
set_option maxRecDepth 100000 in
set_option maxHeartbeats 4000000 in
theorem wL_law_433 {G : xG} {d : Nat} {Z : xZ} {v15 : Int32} {v17 : Int32} {v21 : Int32} {s0 : Int32} {μ : xM} {Q : xP} (h : MW G d mX8_premise [vR (8, 0, 0), vI v21] μ (xrI fun x2 μ1 => xif (x2 = s0) (WS G eL_law (d + 1) Z Q 451 [vR (13, 0, 0), vR (8, 0, 0), vR (1, 0, 20), vR (1, 0, 21), vR (1, 0, 22), vR (1, 0, 23), vR (1, 0, 24), vR (1, 0, 25), vR (1, 0, 26), vR (1, 0, 27), vR (1, 0, 28), vR (1, 0, 29), vR (1, 0, 30), vR (1, 0, 31), vR (1, 0, 32), vI v15, vN, vI v17, vN, vN, vN, vN, vN, vN, vN, vN, vN, vN, vN, vN, vN, vN, vN] [vI (1 : Int32)] μ1) (WS G eL_law (d + 1) Z Q 451 [vR (13, 0, 0), vR (8, 0, 0), vR (1, 0, 20), vR (1, 0, 21), vR (1, 0, 22), vR (1, 0, 23), vR (1, 0, 24), vR (1, 0, 25), vR (1, 0, 26), vR (1, 0, 27), vR (1, 0, 28), vR (1, 0, 29), vR (1, 0, 30), vR (1, 0, 31), vR (1, 0, 32), vI v15, vN, vI v17, vN, vN, vN, vN, vN, vN, vN, vN, vN, vN, vN, vN, vN, vN, vN] [vI (0 : Int32)] μ1))) : WS G eL_law (d + 1) Z Q 433 [vR (13, 0, 0), vR (8, 0, 0), vR (1, 0, 20), vR (1, 0, 21), vR (1, 0, 22), vR (1, 0, 23), vR (1, 0, 24), vR (1, 0, 25), vR (1, 0, 26), vR (1, 0, 27), vR (1, 0, 28), vR (1, 0, 29), vR (1, 0, 30), vR (1, 0, 31), vR (1, 0, 32), vI v15, vN, vI v17, vN, vN, vN, vI v21, vN, vN, vN, vN, vN, vN, vN, vN, vN, vN, vN] [vI s0] μ := WS.go okL_law 880 h
set_option maxRecDepth 100000 in
set_option maxHeartbeats 4000000 in
theorem wL_law_451 {G : xG} {d : Nat} {Z : xZ} {v15 : Int32} {v17 : Int32} {s0 : Int32} {μ : xM} {Q : xP} (h : WS G eL_law (d + 1) Z Q 1686 [vR (13, 0, 0), vR (8, 0, 0), vR (1, 0, 20), vR (1, 0, 21), vR (1, 0, 22), vR (1, 0, 23), vR (1, 0, 24), vR (1, 0, 25), vR (1, 0, 26), vR (1, 0, 27), vR (1, 0, 28), vR (1, 0, 29), vR (1, 0, 30), vR (1, 0, 31), vR (1, 0, 32), vI v15, vN, vI v17, vN, vN, vI s0, vN, vN, vN, vN, vN, vN, vN, vN, vN, vN, vN, vN] [] μ) : WS G eL_law (d + 1) Z Q 451 [vR (13, 0, 0), vR (8, 0, 0), vR (1, 0, 20), vR (1, 0, 21), vR (1, 0, 22), vR (1, 0, 23), vR (1, 0, 24), vR (1, 0, 25), vR (1, 0, 26), vR (1, 0, 27), vR (1, 0, 28), vR (1, 0, 29), vR (1, 0, 30), vR (1, 0, 31), vR (1, 0, 32), vI v15, vN, vI v17, vN, vN, vN, vN, vN, vN, vN, vN, vN, vN, vN, vN, vN, vN, vN] [vI s0] μ := WS.go okL_law 880 h
set_option maxRecDepth 100000 in
set_option maxHeartbeats 4000000 in
theorem wL_law_482 {G : xG} {d : Nat} {Z : xZ} {v15 : Int32} {v17 : Int32} {v19 : Int32} {v21 : Int32} {v22 : Int32} {v23 : Int32} {μ : xM} {Q : xP} (h : vp_in (2 : Int32) 3 ∧ xif ((μ (1, 0, 32) (2 : Int32).toNatClampNeg) ≤ v23) (xif (v19 = 0) (xif (v22 = (5 : Int32)) (WS G eL_law (d + 1) Z Q 526 [vR (13, 0, 0), vR (8, 0, 0), vR (1, 0, 20), vR (1, 0, 21), vR (1, 0, 22), vR (1, 0, 23), vR (1, 0, 24), vR (1, 0, 25), vR (1, 0, 26), vR (1, 0, 27), vR (1, 0, 28), vR (1, 0, 29), vR (1, 0, 30), vR (1, 0, 31), vR (1, 0, 32), vI v15, vN, vI v17, vN, vN, vN, vI v21, vN, vN, vN, vN, vN, vN, vN, vN, vN, vN, vN] [] μ) (WS G eL_law (d + 1) Z Q 531 [vR (13, 0, 0), vR (8, 0, 0), vR (1, 0, 20), vR (1, 0, 21), vR (1, 0, 22), vR (1, 0, 23), vR (1, 0, 24), vR (1, 0, 25), vR (1, 0, 26), vR (1, 0, 27), vR (1, 0, 28), vR (1, 0, 29), vR (1, 0, 30), vR (1, 0, 31), vR (1, 0, 32), vI v15, vN, vI v17, vN, vN, vN, vI v21, vN, vN, vN, vN, vN, vN, vN, vN, vN, vN, vN] [vI (0 : Int32)] μ)) (WS G eL_law (d + 1) Z Q 526 [vR (13, 0, 0), vR (8, 0, 0), vR (1, 0, 20), vR (1, 0, 21), vR (1, 0, 22), vR (1, 0, 23), vR (1, 0, 24), vR (1, 0, 25), vR (1, 0, 26), vR (1, 0, 27), vR (1, 0, 28), vR (1, 0, 29), vR (1, 0, 30), vR (1, 0, 31), vR (1, 0, 32), vI v15, vN, vI v17, vN, vN, vN, vI v21, vN, vN, vN, vN, vN, vN, vN, vN, vN, vN, vN] [] μ)) (vp_in v23 48 ∧ xif (0 ≤ (μ (1, 0, 30) v23.toNatClampNeg)) (WS G eL_law (d + 1) Z Q 506 [vR (13, 0, 0), vR (8, 0, 0), vR (1, 0, 20), vR (1, 0, 21), vR (1, 0, 22), vR (1, 0, 23), vR (1, 0, 24), vR (1, 0, 25), vR (1, 0, 26), vR (1, 0, 27), vR (1, 0, 28), vR (1, 0, 29), vR (1, 0, 30), vR (1, 0, 31), vR (1, 0, 32), vI v15, vN, vI v17, vN, vI v19, vN, vI v21, vN, vI v23, vN, vN, vN, vN, vN, vN, vN, vN, vN] [vI (0 : Int32), vI v22] μ) (WS G eL_law (d + 1) Z Q 506 [vR (13, 0, 0), vR (8, 0, 0), vR (1, 0, 20), vR (1, 0, 21), vR (1, 0, 22), vR (1, 0, 23), vR (1, 0, 24), vR (1, 0, 25), vR (1, 0, 26), vR (1, 0, 27), vR (1, 0, 28), vR (1, 0, 29), vR (1, 0, 30), vR (1, 0, 31), vR (1, 0, 32), vI v15, vN, vI v17, vN, vI v19, vN, vI v21, vN, vI v23, vN, vN, vN, vN, vN, vN, vN, vN, vN] [vI (1 : Int32), vI v22] μ))) : WS G eL_law (d + 1) Z Q 482 [vR (13, 0, 0), vR (8, 0, 0), vR (1, 0, 20), vR (1, 0, 21), vR (1, 0, 22), vR (1, 0, 23), vR (1, 0, 24), vR (1, 0, 25), vR (1, 0, 26), vR (1, 0, 27), vR (1, 0, 28), vR (1, 0, 29), vR (1, 0, 30), vR (1, 0, 31), vR (1, 0, 32), vI v15, vN, vI v17, vN, vI v19, vN, vI v21, vI v22, vI v23, vN, vN, vN, vN, vN, vN, vN, vN, vN] [] μ := WS.go okL_law 880 h
set_option maxRecDepth 100000 in
set_option maxHeartbeats 4000000 in
theorem wL_law_506 {G : xG} {d : Nat} {Z : xZ} {v15 : Int32} {v17 : Int32} {v19 : Int32} {v21 : Int32} {v23 : Int32} {s0 : Int32} {s1 : Int32} {μ : xM} {Q : xP} (h : WS G eL_law (d + 1) Z Q 482 [vR (13, 0, 0), vR (8, 0, 0), vR (1, 0, 20), vR (1, 0, 21), vR (1, 0, 22), vR (1, 0, 23), vR (1, 0, 24), vR (1, 0, 25), vR (1, 0, 26), vR (1, 0, 27), vR (1, 0, 28), vR (1, 0, 29), vR (1, 0, 30), vR (1, 0, 31), vR (1, 0, 32), vI v15, vN, vI v17, vN, vI v19, vN, vI v21, vI (s0 + s1), vI (v23 + (1 : Int32)), vN, vN, vN, vN, vN, vN, vN, vN, vN] [] μ) : WS G eL_law (d + 1) Z Q 506 [vR (13, 0, 0), vR (8, 0, 0), vR (1, 0, 20), vR (1, 0, 21), vR (1, 0, 22), vR (1, 0, 23), vR (1, 0, 24), vR (1, 0, 25), vR (1, 0, 26), vR (1, 0, 27), vR (1, 0, 28), vR (1, 0, 29), vR (1, 0, 30), vR (1, 0, 31), vR (1, 0, 32), vI v15, vN, vI v17, vN, vI v19, vN, vI v21, vN, vI v23, vN, vN, vN, vN, vN, vN, vN, vN, vN] [vI s1, vI s0] μ := WS.go okL_law 880 h
set_option maxRecDepth 100000 in
set_option maxHeartbeats 4000000 in
theorem wL_law_526 {G : xG} {d : Nat} {Z : xZ} {v15 : Int32} {v17 : Int32} {v21 : Int32} {μ : xM} {Q : xP} (h : WS G eL_law (d + 1) Z Q 531 [vR (13, 0, 0), vR (8, 0, 0), vR (1, 0, 20), vR (1, 0, 21), vR (1, 0, 22), vR (1, 0, 23), vR (1, 0, 24), vR (1, 0, 25), vR (1, 0, 26), vR (1, 0, 27), vR (1, 0, 28), vR (1, 0, 29), vR (1, 0, 30), vR (1, 0, 31), vR (1, 0, 32), vI v15, vN, vI v17, vN, vN, vN, vI v21, vN, vN, vN, vN, vN, vN, vN, vN, vN, vN, vN] [vI (1 : Int32)] μ) : WS G eL_law (d + 1) Z Q 526 [vR (13, 0, 0), vR (8, 0, 0), vR (1, 0, 20), vR (1, 0, 21), vR (1, 0, 22), vR (1, 0, 23), vR (1, 0, 24), vR (1, 0, 25), vR (1, 0, 26), vR (1, 0, 27), vR (1, 0, 28), vR (1, 0, 29), vR (1, 0, 30), vR (1, 0, 31), vR (1, 0, 32), vI v15, vN, vI v17, vN, vN, vN, vI v21, vN, vN, vN, vN, vN, vN, vN, vN, vN, vN, vN] [] μ := WS.go okL_law 880 h
set_option maxRecDepth 100000 in
set_option maxHeartbeats 4000000 in
theorem wL_law_531 {G : xG} {d : Nat} {Z : xZ} {v15 : Int32} {v17 : Int32} {v21 : Int32} {s0 : Int32} {μ : xM} {Q : xP} (h : xif (s0 = 0) (MW G d mL_latest [vR (1, 0, 30), vR (1, 0, 32)] μ (xrI fun x2 μ1 => vp_in (2 : Int32) 3 ∧ vp_in (1 : Int32) 3 ∧ vp_in ((μ1 (1, 0, 32) (2 : Int32).toNatClampNeg)) 48 ∧ vp_in (2 : Int32) 3 ∧ vp_in (((xst μ1 (1, 0, 29) ((μ1 (1, 0, 32) (2 : Int32).toNatClampNeg)).toNatClampNeg ((μ1 (1, 0, 32) (1 : Int32).toNatClampNeg))) (1, 0, 32) (2 : Int32).toNatClampNeg)) 48 ∧ vp_in (2 : Int32) 3 ∧ vp_in (((xst (xst μ1 (1, 0, 29) ((μ1 (1, 0, 32) (2 : Int32).toNatClampNeg)).toNatClampNeg ((μ1 (1, 0, 32) (1 : Int32).toNatClampNeg))) (1, 0, 30) (((xst μ1 (1, 0, 29) ((μ1 (1, 0, 32) (2 : Int32).toNatClampNeg)).toNatClampNeg ((μ1 (1, 0, 32) (1 : Int32).toNatClampNeg))) (1, 0, 32) (2 : Int32).toNatClampNeg)).toNatClampNeg (-1 : Int32)) (1, 0, 32) (2 : Int32).toNatClampNeg)) 48 ∧ vp_in (2 : Int32) 3 ∧ vp_in (2 : Int32) 3 ∧ MW G d mL_write [vR (1, 0, 23), vR (1, 0, 24), vR (1, 0, 25), vR (1, 0, 26), vR (1, 0, 27), vR (1, 0, 28), vR (1, 0, 30), vR (1, 0, 32), vI v21, vI (1 : Int32), vI (0 : Int32)] (xst (xst (xst (xst μ1 (1, 0, 29) ((μ1 (1, 0, 32) (2 : Int32).toNatClampNeg)).toNatClampNeg ((μ1 (1, 0, 32) (1 : Int32).toNatClampNeg))) (1, 0, 30) (((xst μ1 (1, 0, 29) ((μ1 (1, 0, 32) (2 : Int32).toNatClampNeg)).toNatClampNeg ((μ1 (1, 0, 32) (1 : Int32).toNatClampNeg))) (1, 0, 32) (2 : Int32).toNatClampNeg)).toNatClampNeg (-1 : Int32)) (1, 0, 31) (((xst (xst μ1 (1, 0, 29) ((μ1 (1, 0, 32) (2 : Int32).toNatClampNeg)).toNatClampNeg ((μ1 (1, 0, 32) (1 : Int32).toNatClampNeg))) (1, 0, 30) (((xst μ1 (1, 0, 29) ((μ1 (1, 0, 32) (2 : Int32).toNatClampNeg)).toNatClampNeg ((μ1 (1, 0, 32) (1 : Int32).toNatClampNeg))) (1, 0, 32) (2 : Int32).toNatClampNeg)).toNatClampNeg (-1 : Int32)) (1, 0, 32) (2 : Int32).toNatClampNeg)).toNatClampNeg x2) (1, 0, 32) (2 : Int32).toNatClampNeg ((((xst (xst (xst μ1 (1, 0, 29) ((μ1 (1, 0, 32) (2 : Int32).toNatClampNeg)).toNatClampNeg ((μ1 (1, 0, 32) (1 : Int32).toNatClampNeg))) (1, 0, 30) (((xst μ1 (1, 0, 29) ((μ1 (1, 0, 32) (2 : Int32).toNatClampNeg)).toNatClampNeg ((μ1 (1, 0, 32) (1 : Int32).toNatClampNeg))) (1, 0, 32) (2 : Int32).toNatClampNeg)).toNatClampNeg (-1 : Int32)) (1, 0, 31) (((xst (xst μ1 (1, 0, 29) ((μ1 (1, 0, 32) (2 : Int32).toNatClampNeg)).toNatClampNeg ((μ1 (1, 0, 32) (1 : Int32).toNatClampNeg))) (1, 0, 30) (((xst μ1 (1, 0, 29) ((μ1 (1, 0, 32) (2 : Int32).toNatClampNeg)).toNatClampNeg ((μ1 (1, 0, 32) (1 : Int32).toNatClampNeg))) (1, 0, 32) (2 : Int32).toNatClampNeg)).toNatClampNeg (-1 : Int32)) (1, 0, 32) (2 : Int32).toNatClampNeg)).toNatClampNeg x2) (1, 0, 32) (2 : Int32).toNatClampNeg) + (1 : Int32)))) (xrI fun x4 μ3 => WS G eL_law (d + 1) Z Q 612 [vR (13, 0, 0), vR (8, 0, 0), vR (1, 0, 20), vR (1, 0, 21), vR (1, 0, 22), vR (1, 0, 23), vR (1, 0, 24), vR (1, 0, 25), vR (1, 0, 26), vR (1, 0, 27), vR (1, 0, 28), vR (1, 0, 29), vR (1, 0, 30), vR (1, 0, 31), vR (1, 0, 32), vI v15, vN, vI v17, vN, vN, vN, vI v21, vN, vN, vI x4, vN, vN, vN, vN, vN, vN, vN, vN] [] μ3))) (WS G eL_law (d + 1) Z Q 612 [vR (13, 0, 0), vR (8, 0, 0), vR (1, 0, 20), vR (1, 0, 21), vR (1, 0, 22), vR (1, 0, 23), vR (1, 0, 24), vR (1, 0, 25), vR (1, 0, 26), vR (1, 0, 27), vR (1, 0, 28), vR (1, 0, 29), vR (1, 0, 30), vR (1, 0, 31), vR (1, 0, 32), vI v15, vN, vI v17, vN, vN, vN, vI v21, vN, vN, vI (-4 : Int32), vN, vN, vN, vN, vN, vN, vN, vN] [] μ)) : WS G eL_law (d + 1) Z Q 531 [vR (13, 0, 0), vR (8, 0, 0), vR (1, 0, 20), vR (1, 0, 21), vR (1, 0, 22), vR (1, 0, 23), vR (1, 0, 24), vR (1, 0, 25), vR (1, 0, 26), vR (1, 0, 27), vR (1, 0, 28), vR (1, 0, 29), vR (1, 0, 30), vR (1, 0, 31), vR (1, 0, 32), vI v15, vN, vI v17, vN, vN, vN, vI v21, vN, vN, vN, vN, vN, vN, vN, vN, vN, vN, vN] [vI s0] μ := WS.go okL_law 880 h
set_option maxRecDepth 100000 in
set_option maxHeartbeats 4000000 in
theorem wL_law_612 {G : xG} {d : Nat} {Z : xZ} {v15 : Int32} {v17 : Int32} {v21 : Int32} {v24 : Int32} {μ : xM} {Q : xP} (h : MW G d mX8_open [vR (8, 0, 0), vI v21] μ (xrI fun x2 μ1 => xif (x2 = v24) (WS G eL_law (d + 1) Z Q 628 [vR (13, 0, 0), vR (8, 0, 0), vR (1, 0, 20), vR (1, 0, 21), vR (1, 0, 22), vR (1, 0, 23), vR (1, 0, 24), vR (1, 0, 25), vR (1, 0, 26), vR (1, 0, 27), vR (1, 0, 28), vR (1, 0, 29), vR (1, 0, 30), vR (1, 0, 31), vR (1, 0, 32), vI v15, vN, vI v17, vN, vN, vN, vN, vN, vN, vN, vN, vN, vN, vN, vN, vN, vN, vN] [vI (1 : Int32)] μ1) (WS G eL_law (d + 1) Z Q 628 [vR (13, 0, 0), vR (8, 0, 0), vR (1, 0, 20), vR (1, 0, 21), vR (1, 0, 22), vR (1, 0, 23), vR (1, 0, 24), vR (1, 0, 25), vR (1, 0, 26), vR (1, 0, 27), vR (1, 0, 28), vR (1, 0, 29), vR (1, 0, 30), vR (1, 0, 31), vR (1, 0, 32), vI v15, vN, vI v17, vN, vN, vN, vN, vN, vN, vN, vN, vN, vN, vN, vN, vN, vN, vN] [vI (0 : Int32)] μ1))) : WS G eL_law (d + 1) Z Q 612 [vR (13, 0, 0), vR (8, 0, 0), vR (1, 0, 20), vR (1, 0, 21), vR (1, 0, 22), vR (1, 0, 23), vR (1, 0, 24), vR (1, 0, 25), vR (1, 0, 26), vR (1, 0, 27), vR (1, 0, 28), vR (1, 0, 29), vR (1, 0, 30), vR (1, 0, 31), vR (1, 0, 32), vI v15, vN, vI v17, vN, vN, vN, vI v21, vN, vN, vI v24, vN, vN, vN, vN, vN, vN, vN, vN] [] μ := WS.go okL_law 880 h
set_option maxRecDepth 100000 in
set_option maxHeartbeats 4000000 in
theorem wL_law_628 {G : xG} {d : Nat} {Z : xZ} {v15 : Int32} {v17 : Int32} {s0 : Int32} {μ : xM} {Q : xP} (h : WS G eL_law (d + 1) Z Q 1686 [vR (13, 0, 0), vR (8, 0, 0), vR (1, 0, 20), vR (1, 0, 21), vR (1, 0, 22), vR (1, 0, 23), vR (1, 0, 24), vR (1, 0, 25), vR (1, 0, 26), vR (1, 0, 27), vR (1, 0, 28), vR (1, 0, 29), vR (1, 0, 30), vR (1, 0, 31), vR (1, 0, 32), vI v15, vN, vI v17, vN, vN, vI s0, vN, vN, vN, vN, vN, vN, vN, vN, vN, vN, vN, vN] [] μ) : WS G eL_law (d + 1) Z Q 628 [vR (13, 0, 0), vR (8, 0, 0), vR (1, 0, 20), vR (1, 0, 21), vR (1, 0, 22), vR (1, 0, 23), vR (1, 0, 24), vR (1, 0, 25), vR (1, 0, 26), vR (1, 0, 27), vR (1, 0, 28), vR (1, 0, 29), vR (1, 0, 30), vR (1, 0, 31), vR (1, 0, 32), vI v15, vN, vI v17, vN, vN, vN, vN, vN, vN, vN, vN, vN, vN, vN, vN, vN, vN, vN] [vI s0] μ := WS.go okL_law 880 h
set_option maxRecDepth 100000 in
set_option maxHeartbeats 4000000 in
theorem wL_law_672 {G : xG} {d : Nat} {Z : xZ} {v15 : Int32} {v17 : Int32} {v21 : Int32} {μ : xM} {Q : xP} (h : WS G eL_law (d + 1) Z Q 673 [vR (13, 0, 0), vR (8, 0, 0), vR (1, 0, 20), vR (1, 0, 21), vR (1, 0, 22), vR (1, 0, 23), vR (1, 0, 24), vR (1, 0, 25), vR (1, 0, 26), vR (1, 0, 27), vR (1, 0, 28), vR (1, 0, 29), vR (1, 0, 30), vR (1, 0, 31), vR (1, 0, 32), vI v15, vN, vI v17, vN, vN, vN, vI v21, vN, vN, vN, vN, vN, vN, vN, vN, vN, vN, vN] [vI (0 : Int32)] μ) : WS G eL_law (d + 1) Z Q 672 [vR (13, 0, 0), vR (8, 0, 0), vR (1, 0, 20), vR (1, 0, 21), vR (1, 0, 22), vR (1, 0, 23), vR (1, 0, 24), vR (1, 0, 25), vR (1, 0, 26), vR (1, 0, 27), vR (1, 0, 28), vR (1, 0, 29), vR (1, 0, 30), vR (1, 0, 31), vR (1, 0, 32), vI v15, vN, vI v17, vN, vN, vN, vI v21, vN, vN, vN, vN, vN, vN, vN, vN, vN, vN, vN] [] μ := WS.go okL_law 880 h
set_option maxRecDepth 100000 in
set_option maxHeartbeats 4000000 in
theorem wL_law_673 {G : xG} {d : Nat} {Z : xZ} {v15 : Int32} {v17 : Int32} {v21 : Int32} {s0 : Int32} {μ : xM} {Q : xP} (h : xif (s0 = 0) (WS G eL_law (d + 1) Z Q 691 [vR (13, 0, 0), vR (8, 0, 0), vR (1, 0, 20), vR (1, 0, 21), vR (1, 0, 22), vR (1, 0, 23), vR (1, 0, 24), vR (1, 0, 25), vR (1, 0, 26), vR (1, 0, 27), vR (1, 0, 28), vR (1, 0, 29), vR (1, 0, 30), vR (1, 0, 31), vR (1, 0, 32), vI v15, vN, vI v17, vN, vN, vN, vI v21, vI s0, vN, vN, vN, vN, vN, vN, vN, vN, vN, vN] [] μ) (vp_in (1 : Int32) 3 ∧ vp_in v21 48 ∧ WS G eL_law (d + 1) Z Q 691 [vR (13, 0, 0), vR (8, 0, 0), vR (1, 0, 20), vR (1, 0, 21), vR (1, 0, 22), vR (1, 0, 23), vR (1, 0, 24), vR (1, 0, 25), vR (1, 0, 26), vR (1, 0, 27), vR (1, 0, 28), vR (1, 0, 29), vR (1, 0, 30), vR (1, 0, 31), vR (1, 0, 32), vI v15, vN, vI v17, vN, vN, vN, vI v21, vI s0, vN, vN, vN, vN, vN, vN, vN, vN, vN, vN] [] (xst μ (1, 0, 30) v21.toNatClampNeg (((μ (1, 0, 32) (1 : Int32).toNatClampNeg) - (1 : Int32)))))) : WS G eL_law (d + 1) Z Q 673 [vR (13, 0, 0), vR (8, 0, 0), vR (1, 0, 20), vR (1, 0, 21), vR (1, 0, 22), vR (1, 0, 23), vR (1, 0, 24), vR (1, 0, 25), vR (1, 0, 26), vR (1, 0, 27), vR (1, 0, 28), vR (1, 0, 29), vR (1, 0, 30), vR (1, 0, 31), vR (1, 0, 32), vI v15, vN, vI v17, vN, vN, vN, vI v21, vN, vN, vN, vN, vN, vN, vN, vN, vN, vN, vN] [vI s0] μ := WS.go okL_law 880 h
set_option maxRecDepth 100000 in
set_option maxHeartbeats 4000000 in
theorem wL_law_691 {G : xG} {d : Nat} {Z : xZ} {v15 : Int32} {v17 : Int32} {v21 : Int32} {v22 : Int32} {μ : xM} {Q : xP} (h : MW G d mX8_close [vR (8, 0, 0)] μ (xrI fun x2 μ1 => xif (v22 = 0) (WS G eL_law (d + 1) Z Q 707 [vR (13, 0, 0), vR (8, 0, 0), vR (1, 0, 20), vR (1, 0, 21), vR (1, 0, 22), vR (1, 0, 23), vR (1, 0, 24), vR (1, 0, 25), vR (1, 0, 26), vR (1, 0, 27), vR (1, 0, 28), vR (1, 0, 29), vR (1, 0, 30), vR (1, 0, 31), vR (1, 0, 32), vI v15, vN, vI v17, vN, vN, vN, vN, vN, vN, vN, vN, vN, vN, vN, vN, vN, vN, vN] [vI (-3 : Int32), vI x2] μ1) (WS G eL_law (d + 1) Z Q 707 [vR (13, 0, 0), vR (8, 0, 0), vR (1, 0, 20), vR (1, 0, 21), vR (1, 0, 22), vR (1, 0, 23), vR (1, 0, 24), vR (1, 0, 25), vR (1, 0, 26), vR (1, 0, 27), vR (1, 0, 28), vR (1, 0, 29), vR (1, 0, 30), vR (1, 0, 31), vR (1, 0, 32), vI v15, vN, vI v17, vN, vN, vN, vN, vN, vN, vN, vN, vN, vN, vN, vN, vN, vN, vN] [vI v21, vI x2] μ1))) : WS G eL_law (d + 1) Z Q 691 [vR (13, 0, 0), vR (8, 0, 0), vR (1, 0, 20), vR (1, 0, 21), vR (1, 0, 22), vR (1, 0, 23), vR (1, 0, 24), vR (1, 0, 25), vR (1, 0, 26), vR (1, 0, 27), vR (1, 0, 28), vR (1, 0, 29), vR (1, 0, 30), vR (1, 0, 31), vR (1, 0, 32), vI v15, vN, vI v17, vN, vN, vN, vI v21, vI v22, vN, vN, vN, vN, vN, vN, vN, vN, vN, vN] [] μ := WS.go okL_law 880 h
set_option maxRecDepth 100000 in
set_option maxHeartbeats 4000000 in
theorem wL_law_707 {G : xG} {d : Nat} {Z : xZ} {v15 : Int32} {v17 : Int32} {s0 : Int32} {s1 : Int32} {μ : xM} {Q : xP} (h : xif (s0 = s1) (WS G eL_law (d + 1) Z Q 715 [vR (13, 0, 0), vR (8, 0, 0), vR (1, 0, 20), vR (1, 0, 21), vR (1, 0, 22), vR (1, 0, 23), vR (1, 0, 24), vR (1, 0, 25), vR (1, 0, 26), vR (1, 0, 27), vR (1, 0, 28), vR (1, 0, 29), vR (1, 0, 30), vR (1, 0, 31), vR (1, 0, 32), vI v15, vN, vI v17, vN, vN, vN, vN, vN, vN, vN, vN, vN, vN, vN, vN, vN, vN, vN] [vI (1 : Int32)] μ) (WS G eL_law (d + 1) Z Q 715 [vR (13, 0, 0), vR (8, 0, 0), vR (1, 0, 20), vR (1, 0, 21), vR (1, 0, 22), vR (1, 0, 23), vR (1, 0, 24), vR (1, 0, 25), vR (1, 0, 26), vR (1, 0, 27), vR (1, 0, 28), vR (1, 0, 29), vR (1, 0, 30), vR (1, 0, 31), vR (1, 0, 32), vI v15, vN, vI v17, vN, vN, vN, vN, vN, vN, vN, vN, vN, vN, vN, vN, vN, vN, vN] [vI (0 : Int32)] μ)) : WS G eL_law (d + 1) Z Q 707 [vR (13, 0, 0), vR (8, 0, 0), vR (1, 0, 20), vR (1, 0, 21), vR (1, 0, 22), vR (1, 0, 23), vR (1, 0, 24), vR (1, 0, 25), vR (1, 0, 26), vR (1, 0, 27), vR (1, 0, 28), vR (1, 0, 29), vR (1, 0, 30), vR (1, 0, 31), vR (1, 0, 32), vI v15, vN, vI v17, vN, vN, vN, vN, vN, vN, vN, vN, vN, vN, vN, vN, vN, vN, vN] [vI s1, vI s0] μ := WS.go okL_law 880 h
set_option maxRecDepth 100000 in
set_option maxHeartbeats 4000000 in
theorem wL_law_715 {G : xG} {d : Nat} {Z : xZ} {v15 : Int32} {v17 : Int32} {s0 : Int32} {μ : xM} {Q : xP} (h : WS G eL_law (d + 1) Z Q 1686 [vR (13, 0, 0), vR (8, 0, 0), vR (1, 0, 20), vR (1, 0, 21), vR (1, 0, 22), vR (1, 0, 23), vR (1, 0, 24), vR (1, 0, 25), vR (1, 0, 26), vR (1, 0, 27), vR (1, 0, 28), vR (1, 0, 29), vR (1, 0, 30), vR (1, 0, 31), vR (1, 0, 32), vI v15, vN, vI v17, vN, vN, vI s0, vN, vN, vN, vN, vN, vN, vN, vN, vN, vN, vN, vN] [] μ) : WS G eL_law (d + 1) Z Q 715 [vR (13, 0, 0), vR (8, 0, 0), vR (1, 0, 20), vR (1, 0, 21), vR (1, 0, 22), vR (1, 0, 23), vR (1, 0, 24), vR (1, 0, 25), vR (1, 0, 26), vR (1, 0, 27), vR (1, 0, 28), vR (1, 0, 29), vR (1, 0, 30), vR (1, 0, 31), vR (1, 0, 32), vI v15, vN, vI v17, vN, vN, vN, vN, vN, vN, vN, vN, vN, vN, vN, vN, vN, vN, vN] [vI s0] μ := WS.go okL_law 880 h
set_option maxRecDepth 100000 in
set_option maxHeartbeats 4000000 in
theorem wL_law_765 {G : xG} {d : Nat} {Z : xZ} {v15 : Int32} {v17 : Int32} {s0 : Int32} {μ : xM} {Q : xP} (h : WS G eL_law (d + 1) Z Q 1686 [vR (13, 0, 0), vR (8, 0, 0), vR (1, 0, 20), vR (1, 0, 21), vR (1, 0, 22), vR (1, 0, 23), vR (1, 0, 24), vR (1, 0, 25), vR (1, 0, 26), vR (1, 0, 27), vR (1, 0, 28), vR (1, 0, 29), vR (1, 0, 30), vR (1, 0, 31), vR (1, 0, 32), vI v15, vN, vI v17, vN, vN, vI s0, vN, vN, vN, vN, vN, vN, vN, vN, vN, vN, vN, vN] [] μ) : WS G eL_law (d + 1) Z Q 765 [vR (13, 0, 0), vR (8, 0, 0), vR (1, 0, 20), vR (1, 0, 21), vR (1, 0, 22), vR (1, 0, 23), vR (1, 0, 24), vR (1, 0, 25), vR (1, 0, 26), vR (1, 0, 27), vR (1, 0, 28), vR (1, 0, 29), vR (1, 0, 30), vR (1, 0, 31), vR (1, 0, 32), vI v15, vN, vI v17, vN, vN, vN, vN, vN, vN, vN, vN, vN, vN, vN, vN, vN, vN, vN] [vI s0] μ := WS.go okL_law 880 h
set_option maxRecDepth 100000 in
set_option maxHeartbeats 4000000 in
theorem wL_law_770 {G : xG} {d : Nat} {Z : xZ} {v15 : Int32} {v16 : Int32} {v17 : Int32} {v18 : Int32} {v19 : Int32} {v20 : Int32} {μ : xM} {Q : xP} (h : xif (v18 = (12 : Int32)) (MW G d mL_low [vI (v16 >>> ((5 : Int32) &&& 31)), vI (3 : Int32)] μ (xrI fun x2 μ1 => xif (x2 = 0) (vp_in (1 : Int32) 3 ∧ xif ((μ1 (1, 0, 32) (1 : Int32).toNatClampNeg) ≤ 0) (WS G eL_law (d + 1) Z Q 932 [vR (13, 0, 0), vR (8, 0, 0), vR (1, 0, 20), vR (1, 0, 21), vR (1, 0, 22), vR (1, 0, 23), vR (1, 0, 24), vR (1, 0, 25), vR (1, 0, 26), vR (1, 0, 27), vR (1, 0, 28), vR (1, 0, 29), vR (1, 0, 30), vR (1, 0, 31), vR (1, 0, 32), vI v15, vI v16, vI v17, vN, vI v19, vI v20, vN, vN, vN, vN, vN, vN, vN, vN, vN, vN, vN, vN] [] μ1) (vp_in (1 : Int32) 3 ∧ MW G d mL_low [vI (v16 >>> ((8 : Int32) &&& 31)), vI (μ1 (1, 0, 32) (1 : Int32).toNatClampNeg)] μ1 (xrI fun x4 μ3 => MW G d mL_latest [vR (1, 0, 30), vR (1, 0, 32)] μ3 (xrI fun x6 μ5 => xif (0 ≤ x6) (WS G eL_law (d + 1) Z Q 831 [vR (13, 0, 0), vR (8, 0, 0), vR (1, 0, 20), vR (1, 0, 21), vR (1, 0, 22), vR (1, 0, 23), vR (1, 0, 24), vR (1, 0, 25), vR (1, 0, 26), vR (1, 0, 27), vR (1, 0, 28), vR (1, 0, 29), vR (1, 0, 30), vR (1, 0, 31), vR (1, 0, 32), vI v15, vN, vI v17, vN, vN, vN, vI x4, vN, vN, vN, vN, vN, vN, vN, vN, vN, vN, vN] [] μ5) (vp_in x4 48 ∧ xif (0 ≤ (μ5 (1, 0, 28) x4.toNatClampNeg)) (WS G eL_law (d + 1) Z Q 831 [vR (13, 0, 0), vR (8, 0, 0), vR (1, 0, 20), vR (1, 0, 21), vR (1, 0, 22), vR (1, 0, 23), vR (1, 0, 24), vR (1, 0, 25), vR (1, 0, 26), vR (1, 0, 27), vR (1, 0, 28), vR (1, 0, 29), vR (1, 0, 30), vR (1, 0, 31), vR (1, 0, 32), vI v15, vN, vI v17, vN, vN, vN, vI x4, vN, vN, vN, vN, vN, vN, vN, vN, vN, vN, vN] [] μ5) (WS G eL_law (d + 1) Z Q 832 [vR (13, 0, 0), vR (8, 0, 0), vR (1, 0, 20), vR (1, 0, 21), vR (1, 0, 22), vR (1, 0, 23), vR (1, 0, 24), vR (1, 0, 25), vR (1, 0, 26), vR (1, 0, 27), vR (1, 0, 28), vR (1, 0, 29), vR (1, 0, 30), vR (1, 0, 31), vR (1, 0, 32), vI v15, vN, vI v17, vN, vN, vN, vI x4, vN, vN, vN, vN, vN, vN, vN, vN, vN, vN, vN] [vI (1 : Int32)] μ5)))))) (WS G eL_law (d + 1) Z Q 932 [vR (13, 0, 0), vR (8, 0, 0), vR (1, 0, 20), vR (1, 0, 21), vR (1, 0, 22), vR (1, 0, 23), vR (1, 0, 24), vR (1, 0, 25), vR (1, 0, 26), vR (1, 0, 27), vR (1, 0, 28), vR (1, 0, 29), vR (1, 0, 30), vR (1, 0, 31), vR (1, 0, 32), vI v15, vI v16, vI v17, vN, vI v19, vI v20, vN, vN, vN, vN, vN, vN, vN, vN, vN, vN, vN, vN] [] μ1))) (WS G eL_law (d + 1) Z Q 932 [vR (13, 0, 0), vR (8, 0, 0), vR (1, 0, 20), vR (1, 0, 21), vR (1, 0, 22), vR (1, 0, 23), vR (1, 0, 24), vR (1, 0, 25), vR (1, 0, 26), vR (1, 0, 27), vR (1, 0, 28), vR (1, 0, 29), vR (1, 0, 30), vR (1, 0, 31), vR (1, 0, 32), vI v15, vI v16, vI v17, vN, vI v19, vI v20, vN, vN, vN, vN, vN, vN, vN, vN, vN, vN, vN, vN] [] μ)) : WS G eL_law (d + 1) Z Q 770 [vR (13, 0, 0), vR (8, 0, 0), vR (1, 0, 20), vR (1, 0, 21), vR (1, 0, 22), vR (1, 0, 23), vR (1, 0, 24), vR (1, 0, 25), vR (1, 0, 26), vR (1, 0, 27), vR (1, 0, 28), vR (1, 0, 29), vR (1, 0, 30), vR (1, 0, 31), vR (1, 0, 32), vI v15, vI v16, vI v17, vI v18, vI v19, vI v20, vN, vN, vN, vN, vN, vN, vN, vN, vN, vN, vN, vN] [] μ := WS.go okL_law 880 h
set_option maxRecDepth 100000 in
set_option maxHeartbeats 4000000 in
theorem wL_law_831 {G : xG} {d : Nat} {Z : xZ} {v15 : Int32} {v17 : Int32} {v21 : Int32} {μ : xM} {Q : xP} (h : WS G eL_law (d + 1) Z Q 832 [vR (13, 0, 0), vR (8, 0, 0), vR (1, 0, 20), vR (1, 0, 21), vR (1, 0, 22), vR (1, 0, 23), vR (1, 0, 24), vR (1, 0, 25), vR (1, 0, 26), vR (1, 0, 27), vR (1, 0, 28), vR (1, 0, 29), vR (1, 0, 30), vR (1, 0, 31), vR (1, 0, 32), vI v15, vN, vI v17, vN, vN, vN, vI v21, vN, vN, vN, vN, vN, vN, vN, vN, vN, vN, vN] [vI (0 : Int32)] μ) : WS G eL_law (d + 1) Z Q 831 [vR (13, 0, 0), vR (8, 0, 0), vR (1, 0, 20), vR (1, 0, 21), vR (1, 0, 22), vR (1, 0, 23), vR (1, 0, 24), vR (1, 0, 25), vR (1, 0, 26), vR (1, 0, 27), vR (1, 0, 28), vR (1, 0, 29), vR (1, 0, 30), vR (1, 0, 31), vR (1, 0, 32), vI v15, vN, vI v17, vN, vN, vN, vI v21, vN, vN, vN, vN, vN, vN, vN, vN, vN, vN, vN] [] μ := WS.go okL_law 880 h
set_option maxRecDepth 100000 in
set_option maxHeartbeats 4000000 in
theorem wL_law_832 {G : xG} {d : Nat} {Z : xZ} {v15 : Int32} {v17 : Int32} {v21 : Int32} {s0 : Int32} {μ : xM} {Q : xP} (h : MW G d mL_needs [vR (1, 0, 24), vR (1, 0, 25), vR (1, 0, 26), vR (1, 0, 27), vR (1, 0, 28), vR (1, 0, 29), vR (1, 0, 30), vR (1, 0, 31), vR (1, 0, 32), vI v21] μ (xrL fun y2 μ1 => vp_in (1 : Int32) 3 ∧ xif (s0 = 0) (WS G eL_law (d + 1) Z Q 895 [vR (13, 0, 0), vR (8, 0, 0), vR (1, 0, 20), vR (1, 0, 21), vR (1, 0, 22), vR (1, 0, 23), vR (1, 0, 24), vR (1, 0, 25), vR (1, 0, 26), vR (1, 0, 27), vR (1, 0, 28), vR (1, 0, 29), vR (1, 0, 30), vR (1, 0, 31), vR (1, 0, 32), vI v15, vN, vI v17, vN, vN, vN, vI v21, vI s0, vL y2, vN, vI (μ1 (1, 0, 32) (1 : Int32).toNatClampNeg), vN, vN, vN, vN, vN, vN, vN] [] μ1) (WS G eL_law (d + 1) Z Q 892 [vR (13, 0, 0), vR (8, 0, 0), vR (1, 0, 20), vR (1, 0, 21), vR (1, 0, 22), vR (1, 0, 23), vR (1, 0, 24), vR (1, 0, 25), vR (1, 0, 26), vR (1, 0, 27), vR (1, 0, 28), vR (1, 0, 29), vR (1, 0, 30), vR (1, 0, 31), vR (1, 0, 32), vI v15, vN, vI v17, vN, vN, vN, vI v21, vI s0, vL y2, vN, vI (μ1 (1, 0, 32) (1 : Int32).toNatClampNeg), vN, vN, vN, vN, vN, vN, vN] [vL y2, vR (1, 0, 32), vR (1, 0, 31), vR (1, 0, 30), vR (1, 0, 29), vR (1, 0, 28), vR (1, 0, 27), vR (1, 0, 26), vR (1, 0, 25), vR (1, 0, 24), vR (1, 0, 23)] μ1))) : WS G eL_law (d + 1) Z Q 832 [vR (13, 0, 0), vR (8, 0, 0), vR (1, 0, 20), vR (1, 0, 21), vR (1, 0, 22), vR (1, 0, 23), vR (1, 0, 24), vR (1, 0, 25), vR (1, 0, 26), vR (1, 0, 27), vR (1, 0, 28), vR (1, 0, 29), vR (1, 0, 30), vR (1, 0, 31), vR (1, 0, 32), vI v15, vN, vI v17, vN, vN, vN, vI v21, vN, vN, vN, vN, vN, vN, vN, vN, vN, vN, vN] [vI s0] μ := WS.go okL_law 880 h
set_option maxRecDepth 100000 in
set_option maxHeartbeats 4000000 in
theorem wL_law_895 {G : xG} {d : Nat} {Z : xZ} {v15 : Int32} {v17 : Int32} {v21 : Int32} {v22 : Int32} {v23 : Int64} {v25 : Int32} {μ : xM} {Q : xP} (h : MW G d mX8_trim [vR (8, 0, 0), vI v21] μ (xrI fun x2 μ1 => xif (v22 = 0) (WS G eL_law (d + 1) Z Q 919 [vR (13, 0, 0), vR (8, 0, 0), vR (1, 0, 20), vR (1, 0, 21), vR (1, 0, 22), vR (1, 0, 23), vR (1, 0, 24), vR (1, 0, 25), vR (1, 0, 26), vR (1, 0, 27), vR (1, 0, 28), vR (1, 0, 29), vR (1, 0, 30), vR (1, 0, 31), vR (1, 0, 32), vI v15, vN, vI v17, vN, vN, vN, vN, vN, vN, vN, vN, vN, vN, vN, vN, vN, vN, vN] [vI (-3 : Int32), vI x2] μ1) (MW G d mL_bits [vL v23] μ1 (xrI fun x4 μ3 => WS G eL_law (d + 1) Z Q 919 [vR (13, 0, 0), vR (8, 0, 0), vR (1, 0, 20), vR (1, 0, 21), vR (1, 0, 22), vR (1, 0, 23), vR (1, 0, 24), vR (1, 0, 25), vR (1, 0, 26), vR (1, 0, 27), vR (1, 0, 28), vR (1, 0, 29), vR (1, 0, 30), vR (1, 0, 31), vR (1, 0, 32), vI v15, vN, vI v17, vN, vN, vN, vN, vN, vN, vN, vN, vN, vN, vN, vN, vN, vN, vN] [vI (v25 - x4), vI x2] μ3)))) : WS G eL_law (d + 1) Z Q 895 [vR (13, 0, 0), vR (8, 0, 0), vR (1, 0, 20), vR (1, 0, 21), vR (1, 0, 22), vR (1, 0, 23), vR (1, 0, 24), vR (1, 0, 25), vR (1, 0, 26), vR (1, 0, 27), vR (1, 0, 28), vR (1, 0, 29), vR (1, 0, 30), vR (1, 0, 31), vR (1, 0, 32), vI v15, vN, vI v17, vN, vN, vN, vI v21, vI v22, vL v23, vN, vI v25, vN, vN, vN, vN, vN, vN, vN] [] μ := WS.go okL_law 880 h
set_option maxRecDepth 100000 in
set_option maxHeartbeats 4000000 in
theorem wL_law_919 {G : xG} {d : Nat} {Z : xZ} {v15 : Int32} {v17 : Int32} {s0 : Int32} {s1 : Int32} {μ : xM} {Q : xP} (h : xif (s0 = s1) (WS G eL_law (d + 1) Z Q 927 [vR (13, 0, 0), vR (8, 0, 0), vR (1, 0, 20), vR (1, 0, 21), vR (1, 0, 22), vR (1, 0, 23), vR (1, 0, 24), vR (1, 0, 25), vR (1, 0, 26), vR (1, 0, 27), vR (1, 0, 28), vR (1, 0, 29), vR (1, 0, 30), vR (1, 0, 31), vR (1, 0, 32), vI v15, vN, vI v17, vN, vN, vN, vN, vN, vN, vN, vN, vN, vN, vN, vN, vN, vN, vN] [vI (1 : Int32)] μ) (WS G eL_law (d + 1) Z Q 927 [vR (13, 0, 0), vR (8, 0, 0), vR (1, 0, 20), vR (1, 0, 21), vR (1, 0, 22), vR (1, 0, 23), vR (1, 0, 24), vR (1, 0, 25), vR (1, 0, 26), vR (1, 0, 27), vR (1, 0, 28), vR (1, 0, 29), vR (1, 0, 30), vR (1, 0, 31), vR (1, 0, 32), vI v15, vN, vI v17, vN, vN, vN, vN, vN, vN, vN, vN, vN, vN, vN, vN, vN, vN, vN] [vI (0 : Int32)] μ)) : WS G eL_law (d + 1) Z Q 919 [vR (13, 0, 0), vR (8, 0, 0), vR (1, 0, 20), vR (1, 0, 21), vR (1, 0, 22), vR (1, 0, 23), vR (1, 0, 24), vR (1, 0, 25), vR (1, 0, 26), vR (1, 0, 27), vR (1, 0, 28), vR (1, 0, 29), vR (1, 0, 30), vR (1, 0, 31), vR (1, 0, 32), vI v15, vN, vI v17, vN, vN, vN, vN, vN, vN, vN, vN, vN, vN, vN, vN, vN, vN, vN] [vI s1, vI s0] μ := WS.go okL_law 880 h
set_option maxRecDepth 100000 in
set_option maxHeartbeats 4000000 in
theorem wL_law_927 {G : xG} {d : Nat} {Z : xZ} {v15 : Int32} {v17 : Int32} {s0 : Int32} {μ : xM} {Q : xP} (h : WS G eL_law (d + 1) Z Q 1686 [vR (13, 0, 0), vR (8, 0, 0), vR (1, 0, 20), vR (1, 0, 21), vR (1, 0, 22), vR (1, 0, 23), vR (1, 0, 24), vR (1, 0, 25), vR (1, 0, 26), vR (1, 0, 27), vR (1, 0, 28), vR (1, 0, 29), vR (1, 0, 30), vR (1, 0, 31), vR (1, 0, 32), vI v15, vN, vI v17, vN, vN, vI s0, vN, vN, vN, vN, vN, vN, vN, vN, vN, vN, vN, vN] [] μ) : WS G eL_law (d + 1) Z Q 927 [vR (13, 0, 0), vR (8, 0, 0), vR (1, 0, 20), vR (1, 0, 21), vR (1, 0, 22), vR (1, 0, 23), vR (1, 0, 24), vR (1, 0, 25), vR (1, 0, 26), vR (1, 0, 27), vR (1, 0, 28), vR (1, 0, 29), vR (1, 0, 30), vR (1, 0, 31), vR (1, 0, 32), vI v15, vN, vI v17, vN, vN, vN, vN, vN, vN, vN, vN, vN, vN, vN, vN, vN, vN, vN] [vI s0] μ := WS.go okL_law 880 h
set_option maxRecDepth 100000 in
set_option maxHeartbeats 4000000 in
theorem wL_law_932 {G : xG} {d : Nat} {Z : xZ} {v15 : Int32} {v16 : Int32} {v17 : Int32} {v19 : Int32} {v20 : Int32} {μ : xM} {Q : xP} (h : vp_in (1 : Int32) 3 ∧ xif ((μ (1, 0, 32) (1 : Int32).toNatClampNeg) ≤ 0) (WS G eL_law (d + 1) Z Q 1686 [vR (13, 0, 0), vR (8, 0, 0), vR (1, 0, 20), vR (1, 0, 21), vR (1, 0, 22), vR (1, 0, 23), vR (1, 0, 24), vR (1, 0, 25), vR (1, 0, 26), vR (1, 0, 27), vR (1, 0, 28), vR (1, 0, 29), vR (1, 0, 30), vR (1, 0, 31), vR (1, 0, 32), vI v15, vN, vI v17, vN, vN, vI v20, vN, vN, vN, vN, vN, vN, vN, vN, vN, vN, vN, vN] [] μ) (MW G d mL_low [vI (v16 >>> ((5 : Int32) &&& 31)), vI (12 : Int32)] μ (xrI fun x2 μ1 => xif (((2 : Int32) + x2) = (8 : Int32)) (WS G eL_law (d + 1) Z Q 973 [vR (13, 0, 0), vR (8, 0, 0), vR (1, 0, 20), vR (1, 0, 21), vR (1, 0, 22), vR (1, 0, 23), vR (1, 0, 24), vR (1, 0, 25), vR (1, 0, 26), vR (1, 0, 27), vR (1, 0, 28), vR (1, 0, 29), vR (1, 0, 30), vR (1, 0, 31), vR (1, 0, 32), vI v15, vI v16, vI v17, vN, vI v19, vI v20, vI ((2 : Int32) + x2), vN, vN, vN, vN, vN, vN, vN, vN, vN, vN, vN] [] μ1) (xif (((2 : Int32) + x2) = (10 : Int32)) (WS G eL_law (d + 1) Z Q 973 [vR (13, 0, 0), vR (8, 0, 0), vR (1, 0, 20), vR (1, 0, 21), vR (1, 0, 22), vR (1, 0, 23), vR (1, 0, 24), vR (1, 0, 25), vR (1, 0, 26), vR (1, 0, 27), vR (1, 0, 28), vR (1, 0, 29), vR (1, 0, 30), vR (1, 0, 31), vR (1, 0, 32), vI v15, vI v16, vI v17, vN, vI v19, vI v20, vI ((2 : Int32) + x2), vN, vN, vN, vN, vN, vN, vN, vN, vN, vN, vN] [] μ1) (xif (((2 : Int32) + x2) = (7 : Int32)) (WS G eL_law (d + 1) Z Q 973 [vR (13, 0, 0), vR (8, 0, 0), vR (1, 0, 20), vR (1, 0, 21), vR (1, 0, 22), vR (1, 0, 23), vR (1, 0, 24), vR (1, 0, 25), vR (1, 0, 26), vR (1, 0, 27), vR (1, 0, 28), vR (1, 0, 29), vR (1, 0, 30), vR (1, 0, 31), vR (1, 0, 32), vI v15, vI v16, vI v17, vN, vI v19, vI v20, vI ((2 : Int32) + x2), vN, vN, vN, vN, vN, vN, vN, vN, vN, vN, vN] [] μ1) (WS G eL_law (d + 1) Z Q 978 [vR (13, 0, 0), vR (8, 0, 0), vR (1, 0, 20), vR (1, 0, 21), vR (1, 0, 22), vR (1, 0, 23), vR (1, 0, 24), vR (1, 0, 25), vR (1, 0, 26), vR (1, 0, 27), vR (1, 0, 28), vR (1, 0, 29), vR (1, 0, 30), vR (1, 0, 31), vR (1, 0, 32), vI v15, vI v16, vI v17, vN, vI v19, vI v20, vI ((2 : Int32) + x2), vN, vN, vN, vN, vN, vN, vN, vN, vN, vN, vN] [vI (0 : Int32)] μ1)))))) : WS G eL_law (d + 1) Z Q 932 [vR (13, 0, 0), vR (8, 0, 0), vR (1, 0, 20), vR (1, 0, 21), vR (1, 0, 22), vR (1, 0, 23), vR (1, 0, 24), vR (1, 0, 25), vR (1, 0, 26), vR (1, 0, 27), vR (1, 0, 28), vR (1, 0, 29), vR (1, 0, 30), vR (1, 0, 31), vR (1, 0, 32), vI v15, vI v16, vI v17, vN, vI v19, vI v20, vN, vN, vN, vN, vN, vN, vN, vN, vN, vN, vN, vN] [] μ := WS.go okL_law 880 h
set_option maxRecDepth 100000 in
set_option maxHeartbeats 4000000 in
theorem wL_law_973 {G : xG} {d : Nat} {Z : xZ} {v15 : Int32} {v16 : Int32} {v17 : Int32} {v19 : Int32} {v20 : Int32} {v21 : Int32} {μ : xM} {Q : xP} (h : WS G eL_law (d + 1) Z Q 978 [vR (13, 0, 0), vR (8, 0, 0), vR (1, 0, 20), vR (1, 0, 21), vR (1, 0, 22), vR (1, 0, 23), vR (1, 0, 24), vR (1, 0, 25), vR (1, 0, 26), vR (1, 0, 27), vR (1, 0, 28), vR (1, 0, 29), vR (1, 0, 30), vR (1, 0, 31), vR (1, 0, 32), vI v15, vI v16, vI v17, vN, vI v19, vI v20, vI v21, vN, vN, vN, vN, vN, vN, vN, vN, vN, vN, vN] [vI (1 : Int32)] μ) : WS G eL_law (d + 1) Z Q 973 [vR (13, 0, 0), vR (8, 0, 0), vR (1, 0, 20), vR (1, 0, 21), vR (1, 0, 22), vR (1, 0, 23), vR (1, 0, 24), vR (1, 0, 25), vR (1, 0, 26), vR (1, 0, 27), vR (1, 0, 28), vR (1, 0, 29), vR (1, 0, 30), vR (1, 0, 31), vR (1, 0, 32), vI v15, vI v16, vI v17, vN, vI v19, vI v20, vI v21, vN, vN, vN, vN, vN, vN, vN, vN, vN, vN, vN] [] μ := WS.go okL_law 880 h
set_option maxRecDepth 100000 in
set_option maxHeartbeats 4000000 in
theorem wL_law_978 {G : xG} {d : Nat} {Z : xZ} {v15 : Int32} {v16 : Int32} {v17 : Int32} {v19 : Int32} {v20 : Int32} {v21 : Int32} {s0 : Int32} {μ : xM} {Q : xP} (h : xif (s0 = 0) (WS G eL_law (d + 1) Z Q 992 [vR (13, 0, 0), vR (8, 0, 0), vR (1, 0, 20), vR (1, 0, 21), vR (1, 0, 22), vR (1, 0, 23), vR (1, 0, 24), vR (1, 0, 25), vR (1, 0, 26), vR (1, 0, 27), vR (1, 0, 28), vR (1, 0, 29), vR (1, 0, 30), vR (1, 0, 31), vR (1, 0, 32), vI v15, vI v16, vI v17, vN, vI v19, vN, vI v21, vN, vN, vN, vN, vN, vN, vN, vN, vN, vN, vN] [] μ) (vp_in (2 : Int32) 3 ∧ xif ((μ (1, 0, 32) (2 : Int32).toNatClampNeg) ≤ 0) (WS G eL_law (d + 1) Z Q 1686 [vR (13, 0, 0), vR (8, 0, 0), vR (1, 0, 20), vR (1, 0, 21), vR (1, 0, 22), vR (1, 0, 23), vR (1, 0, 24), vR (1, 0, 25), vR (1, 0, 26), vR (1, 0, 27), vR (1, 0, 28), vR (1, 0, 29), vR (1, 0, 30), vR (1, 0, 31), vR (1, 0, 32), vI v15, vN, vI v17, vN, vN, vI v20, vN, vN, vN, vN, vN, vN, vN, vN, vN, vN, vN, vN] [] μ) (WS G eL_law (d + 1) Z Q 992 [vR (13, 0, 0), vR (8, 0, 0), vR (1, 0, 20), vR (1, 0, 21), vR (1, 0, 22), vR (1, 0, 23), vR (1, 0, 24), vR (1, 0, 25), vR (1, 0, 26), vR (1, 0, 27), vR (1, 0, 28), vR (1, 0, 29), vR (1, 0, 30), vR (1, 0, 31), vR (1, 0, 32), vI v15, vI v16, vI v17, vN, vI v19, vN, vI v21, vN, vN, vN, vN, vN, vN, vN, vN, vN, vN, vN] [] μ))) : WS G eL_law (d + 1) Z Q 978 [vR (13, 0, 0), vR (8, 0, 0), vR (1, 0, 20), vR (1, 0, 21), vR (1, 0, 22), vR (1, 0, 23), vR (1, 0, 24), vR (1, 0, 25), vR (1, 0, 26), vR (1, 0, 27), vR (1, 0, 28), vR (1, 0, 29), vR (1, 0, 30), vR (1, 0, 31), vR (1, 0, 32), vI v15, vI v16, vI v17, vN, vI v19, vI v20, vI v21, vN, vN, vN, vN, vN, vN, vN, vN, vN, vN, vN] [vI s0] μ := WS.go okL_law 880 h
set_option maxRecDepth 100000 in
set_option maxHeartbeats 4000000 in
theorem wL_law_992 {G : xG} {d : Nat} {Z : xZ} {v15 : Int32} {v16 : Int32} {v17 : Int32} {v19 : Int32} {v21 : Int32} {μ : xM} {Q : xP} (h : xif (v21 = (8 : Int32)) (WS G eL_law (d + 1) Z Q 1011 [vR (13, 0, 0), vR (8, 0, 0), vR (1, 0, 20), vR (1, 0, 21), vR (1, 0, 22), vR (1, 0, 23), vR (1, 0, 24), vR (1, 0, 25), vR (1, 0, 26), vR (1, 0, 27), vR (1, 0, 28), vR (1, 0, 29), vR (1, 0, 30), vR (1, 0, 31), vR (1, 0, 32), vI v15, vN, vI v17, vN, vI v19, vN, vI v21, vN, vN, vN, vN, vN, vN, vN, vN, vN, vN, vN] [vI (v16 >>> ((9 : Int32) &&& 31))] μ) (xif (v21 = (10 : Int32)) (WS G eL_law (d + 1) Z Q 1011 [vR (13, 0, 0), vR (8, 0, 0), vR (1, 0, 20), vR (1, 0, 21), vR (1, 0, 22), vR (1, 0, 23), vR (1, 0, 24), vR (1, 0, 25), vR (1, 0, 26), vR (1, 0, 27), vR (1, 0, 28), vR (1, 0, 29), vR (1, 0, 30), vR (1, 0, 31), vR (1, 0, 32), vI v15, vN, vI v17, vN, vI v19, vN, vI v21, vN, vN, vN, vN, vN, vN, vN, vN, vN, vN, vN] [vI (v16 >>> ((9 : Int32) &&& 31))] μ) (vp_in (1 : Int32) 3 ∧ WS G eL_law (d + 1) Z Q 1022 [vR (13, 0, 0), vR (8, 0, 0), vR (1, 0, 20), vR (1, 0, 21), vR (1, 0, 22), vR (1, 0, 23), vR (1, 0, 24), vR (1, 0, 25), vR (1, 0, 26), vR (1, 0, 27), vR (1, 0, 28), vR (1, 0, 29), vR (1, 0, 30), vR (1, 0, 31), vR (1, 0, 32), vI v15, vN, vI v17, vN, vI v19, vN, vI v21, vN, vN, vN, vN, vN, vN, vN, vN, vN, vN, vN] [vI (μ (1, 0, 32) (1 : Int32).toNatClampNeg), vI (v16 >>> ((9 : Int32) &&& 31))] μ))) : WS G eL_law (d + 1) Z Q 992 [vR (13, 0, 0), vR (8, 0, 0), vR (1, 0, 20), vR (1, 0, 21), vR (1, 0, 22), vR (1, 0, 23), vR (1, 0, 24), vR (1, 0, 25), vR (1, 0, 26), vR (1, 0, 27), vR (1, 0, 28), vR (1, 0, 29), vR (1, 0, 30), vR (1, 0, 31), vR (1, 0, 32), vI v15, vI v16, vI v17, vN, vI v19, vN, vI v21, vN, vN, vN, vN, vN, vN, vN, vN, vN, vN, vN] [] μ := WS.go okL_law 880 h
set_option maxRecDepth 100000 in
set_option maxHeartbeats 4000000 in
theorem wL_law_1011 {G : xG} {d : Nat} {Z : xZ} {v15 : Int32} {v17 : Int32} {v19 : Int32} {v21 : Int32} {s0 : Int32} {μ : xM} {Q : xP} (h : vp_in (2 : Int32) 3 ∧ WS G eL_law (d + 1) Z Q 1022 [vR (13, 0, 0), vR (8, 0, 0), vR (1, 0, 20), vR (1, 0, 21), vR (1, 0, 22), vR (1, 0, 23), vR (1, 0, 24), vR (1, 0, 25), vR (1, 0, 26), vR (1, 0, 27), vR (1, 0, 28), vR (1, 0, 29), vR (1, 0, 30), vR (1, 0, 31), vR (1, 0, 32), vI v15, vN, vI v17, vN, vI v19, vN, vI v21, vN, vN, vN, vN, vN, vN, vN, vN, vN, vN, vN] [vI (μ (1, 0, 32) (2 : Int32).toNatClampNeg), vI s0] μ) : WS G eL_law (d + 1) Z Q 1011 [vR (13, 0, 0), vR (8, 0, 0), vR (1, 0, 20), vR (1, 0, 21), vR (1, 0, 22), vR (1, 0, 23), vR (1, 0, 24), vR (1, 0, 25), vR (1, 0, 26), vR (1, 0, 27), vR (1, 0, 28), vR (1, 0, 29), vR (1, 0, 30), vR (1, 0, 31), vR (1, 0, 32), vI v15, vN, vI v17, vN, vI v19, vN, vI v21, vN, vN, vN, vN, vN, vN, vN, vN, vN, vN, vN] [vI s0] μ := WS.go okL_law 880 h
set_option maxRecDepth 100000 in
set_option maxHeartbeats 4000000 in
theorem wL_law_1022 {G : xG} {d : Nat} {Z : xZ} {v15 : Int32} {v17 : Int32} {v19 : Int32} {v21 : Int32} {s0 : Int32} {s1 : Int32} {μ : xM} {Q : xP} (h : MW G d mL_low [vI s0, vI s1] μ (xrI fun x2 μ1 => xif (v21 = (7 : Int32)) (vp_in (2 : Int32) 3 ∧ MW G d mL_low [vI v17, vI (μ1 (1, 0, 32) (2 : Int32).toNatClampNeg)] μ1 (xrI fun x4 μ3 => WS G eL_law (d + 1) Z Q 1081 [vR (13, 0, 0), vR (8, 0, 0), vR (1, 0, 20), vR (1, 0, 21), vR (1, 0, 22), vR (1, 0, 23), vR (1, 0, 24), vR (1, 0, 25), vR (1, 0, 26), vR (1, 0, 27), vR (1, 0, 28), vR (1, 0, 29), vR (1, 0, 30), vR (1, 0, 31), vR (1, 0, 32), vI v15, vN, vI v17, vN, vI v19, vN, vI v21, vN, vI x2, vN, vN, vN, vN, vN, vN, vN, vN, vN] [vI x4] μ3)) (xif (v21 = (6 : Int32)) (WS G eL_law (d + 1) Z Q 1060 [vR (13, 0, 0), vR (8, 0, 0), vR (1, 0, 20), vR (1, 0, 21), vR (1, 0, 22), vR (1, 0, 23), vR (1, 0, 24), vR (1, 0, 25), vR (1, 0, 26), vR (1, 0, 27), vR (1, 0, 28), vR (1, 0, 29), vR (1, 0, 30), vR (1, 0, 31), vR (1, 0, 32), vI v15, vN, vI v17, vN, vI v19, vN, vI v21, vN, vI x2, vN, vN, vN, vN, vN, vN, vN, vN, vN] [] μ1) (xif (v21 = (12 : Int32)) (WS G eL_law (d + 1) Z Q 1060 [vR (13, 0, 0), vR (8, 0, 0), vR (1, 0, 20), vR (1, 0, 21), vR (1, 0, 22), vR (1, 0, 23), vR (1, 0, 24), vR (1, 0, 25), vR (1, 0, 26), vR (1, 0, 27), vR (1, 0, 28), vR (1, 0, 29), vR (1, 0, 30), vR (1, 0, 31), vR (1, 0, 32), vI v15, vN, vI v17, vN, vI v19, vN, vI v21, vN, vI x2, vN, vN, vN, vN, vN, vN, vN, vN, vN] [] μ1) (vp_in (1 : Int32) 3 ∧ MW G d mL_low [vI v17, vI (μ1 (1, 0, 32) (1 : Int32).toNatClampNeg)] μ1 (xrI fun x6 μ5 => WS G eL_law (d + 1) Z Q 1081 [vR (13, 0, 0), vR (8, 0, 0), vR (1, 0, 20), vR (1, 0, 21), vR (1, 0, 22), vR (1, 0, 23), vR (1, 0, 24), vR (1, 0, 25), vR (1, 0, 26), vR (1, 0, 27), vR (1, 0, 28), vR (1, 0, 29), vR (1, 0, 30), vR (1, 0, 31), vR (1, 0, 32), vI v15, vN, vI v17, vN, vI v19, vN, vI v21, vN, vI x2, vN, vN, vN, vN, vN, vN, vN, vN, vN] [vI x6] μ5)))))) : WS G eL_law (d + 1) Z Q 1022 [vR (13, 0, 0), vR (8, 0, 0), vR (1, 0, 20), vR (1, 0, 21), vR (1, 0, 22), vR (1, 0, 23), vR (1, 0, 24), vR (1, 0, 25), vR (1, 0, 26), vR (1, 0, 27), vR (1, 0, 28), vR (1, 0, 29), vR (1, 0, 30), vR (1, 0, 31), vR (1, 0, 32), vI v15, vN, vI v17, vN, vI v19, vN, vI v21, vN, vN, vN, vN, vN, vN, vN, vN, vN, vN, vN] [vI s1, vI s0] μ := WS.go okL_law 880 h
set_option maxRecDepth 100000 in
set_option maxHeartbeats 4000000 in
theorem wL_law_1060 {G : xG} {d : Nat} {Z : xZ} {v15 : Int32} {v17 : Int32} {v19 : Int32} {v21 : Int32} {v23 : Int32} {μ : xM} {Q : xP} (h : vp_in (0 : Int32) 3 ∧ MW G d mL_low [vI v17, vI (μ (1, 0, 32) (0 : Int32).toNatClampNeg)] μ (xrI fun x2 μ1 => WS G eL_law (d + 1) Z Q 1081 [vR (13, 0, 0), vR (8, 0, 0), vR (1, 0, 20), vR (1, 0, 21), vR (1, 0, 22), vR (1, 0, 23), vR (1, 0, 24), vR (1, 0, 25), vR (1, 0, 26), vR (1, 0, 27), vR (1, 0, 28), vR (1, 0, 29), vR (1, 0, 30), vR (1, 0, 31), vR (1, 0, 32), vI v15, vN, vI v17, vN, vI v19, vN, vI v21, vN, vI v23, vN, vN, vN, vN, vN, vN, vN, vN, vN] [vI x2] μ1)) : WS G eL_law (d + 1) Z Q 1060 [vR (13, 0, 0), vR (8, 0, 0), vR (1, 0, 20), vR (1, 0, 21), vR (1, 0, 22), vR (1, 0, 23), vR (1, 0, 24), vR (1, 0, 25), vR (1, 0, 26), vR (1, 0, 27), vR (1, 0, 28), vR (1, 0, 29), vR (1, 0, 30), vR (1, 0, 31), vR (1, 0, 32), vI v15, vN, vI v17, vN, vI v19, vN, vI v21, vN, vI v23, vN, vN, vN, vN, vN, vN, vN, vN, vN] [] μ := WS.go okL_law 880 h
set_option maxRecDepth 100000 in
set_option maxHeartbeats 4000000 in
theorem wL_law_1081 {G : xG} {d : Nat} {Z : xZ} {v15 : Int32} {v17 : Int32} {v19 : Int32} {v21 : Int32} {v23 : Int32} {s0 : Int32} {μ : xM} {Q : xP} (h : xif (v21 = (7 : Int32)) (vp_in (2 : Int32) 3 ∧ MW G d mL_low [vI (v17 >>> ((6 : Int32) &&& 31)), vI (μ (1, 0, 32) (2 : Int32).toNatClampNeg)] μ (xrI fun x2 μ1 => WS G eL_law (d + 1) Z Q 1106 [vR (13, 0, 0), vR (8, 0, 0), vR (1, 0, 20), vR (1, 0, 21), vR (1, 0, 22), vR (1, 0, 23), vR (1, 0, 24), vR (1, 0, 25), vR (1, 0, 26), vR (1, 0, 27), vR (1, 0, 28), vR (1, 0, 29), vR (1, 0, 30), vR (1, 0, 31), vR (1, 0, 32), vI v15, vN, vI v17, vN, vI v19, vN, vI v21, vN, vI v23, vI s0, vN, vN, vN, vN, vN, vN, vN, vN] [vI x2] μ1)) (WS G eL_law (d + 1) Z Q 1106 [vR (13, 0, 0), vR (8, 0, 0), vR (1, 0, 20), vR (1, 0, 21), vR (1, 0, 22), vR (1, 0, 23), vR (1, 0, 24), vR (1, 0, 25), vR (1, 0, 26), vR (1, 0, 27), vR (1, 0, 28), vR (1, 0, 29), vR (1, 0, 30), vR (1, 0, 31), vR (1, 0, 32), vI v15, vN, vI v17, vN, vI v19, vN, vI v21, vN, vI v23, vI s0, vN, vN, vN, vN, vN, vN, vN, vN] [vI (0 : Int32)] μ)) : WS G eL_law (d + 1) Z Q 1081 [vR (13, 0, 0), vR (8, 0, 0), vR (1, 0, 20), vR (1, 0, 21), vR (1, 0, 22), vR (1, 0, 23), vR (1, 0, 24), vR (1, 0, 25), vR (1, 0, 26), vR (1, 0, 27), vR (1, 0, 28), vR (1, 0, 29), vR (1, 0, 30), vR (1, 0, 31), vR (1, 0, 32), vI v15, vN, vI v17, vN, vI v19, vN, vI v21, vN, vI v23, vN, vN, vN, vN, vN, vN, vN, vN, vN] [vI s0] μ := WS.go okL_law 880 h
set_option maxRecDepth 100000 in
set_option maxHeartbeats 4000000 in
theorem wL_law_1106 {G : xG} {d : Nat} {Z : xZ} {v15 : Int32} {v17 : Int32} {v19 : Int32} {v21 : Int32} {v23 : Int32} {v24 : Int32} {s0 : Int32} {μ : xM} {Q : xP} (h : WS G eL_law (d + 1) Z Q 1111 [vR (13, 0, 0), vR (8, 0, 0), vR (1, 0, 20), vR (1, 0, 21), vR (1, 0, 22), vR (1, 0, 23), vR (1, 0, 24), vR (1, 0, 25), vR (1, 0, 26), vR (1, 0, 27), vR (1, 0, 28), vR (1, 0, 29), vR (1, 0, 30), vR (1, 0, 31), vR (1, 0, 32), vI v15, vN, vI v17, vN, vI v19, vN, vI v21, vN, vI v23, vI v24, vI s0, vI (0 : Int32), vN, vN, vN, vN, vN, vN] [] μ) : WS G eL_law (d + 1) Z Q 1106 [vR (13, 0, 0), vR (8, 0, 0), vR (1, 0, 20), vR (1, 0, 21), vR (1, 0, 22), vR (1, 0, 23), vR (1, 0, 24), vR (1, 0, 25), vR (1, 0, 26), vR (1, 0, 27), vR (1, 0, 28), vR (1, 0, 29), vR (1, 0, 30), vR (1, 0, 31), vR (1, 0, 32), vI v15, vN, vI v17, vN, vI v19, vN, vI v21, vN, vI v23, vI v24, vN, vN, vN, vN, vN, vN, vN, vN] [vI s0] μ := WS.go okL_law 880 h
set_option maxRecDepth 100000 in
set_option maxHeartbeats 4000000 in
theorem wL_law_1111 {G : xG} {d : Nat} {Z : xZ} {v15 : Int32} {v17 : Int32} {v19 : Int32} {v21 : Int32} {v23 : Int32} {v24 : Int32} {v25 : Int32} {v26 : Int32} {μ : xM} {Q : xP} (h : xif ((48 : Int32) ≤ v26) (WS G eL_law (d + 1) Z Q 1292 [vR (13, 0, 0), vR (8, 0, 0), vR (1, 0, 20), vR (1, 0, 21), vR (1, 0, 22), vR (1, 0, 23), vR (1, 0, 24), vR (1, 0, 25), vR (1, 0, 26), vR (1, 0, 27), vR (1, 0, 28), vR (1, 0, 29), vR (1, 0, 30), vR (1, 0, 31), vR (1, 0, 32), vI v15, vN, vI v17, vN, vI v19, vN, vI v21, vN, vI v23, vI v24, vI v25, vN, vN, vN, vN, vN, vN, vN] [] μ) (MW G d mL_low [vI (v17 >>> ((12 : Int32) &&& 31)), vI (4 : Int32)] μ (xrI fun x2 μ1 => xif (x2 ≤ 0) (WS G eL_law (d + 1) Z Q 1292 [vR (13, 0, 0), vR (8, 0, 0), vR (1, 0, 20), vR (1, 0, 21), vR (1, 0, 22), vR (1, 0, 23), vR (1, 0, 24), vR (1, 0, 25), vR (1, 0, 26), vR (1, 0, 27), vR (1, 0, 28), vR (1, 0, 29), vR (1, 0, 30), vR (1, 0, 31), vR (1, 0, 32), vI v15, vN, vI v17, vN, vI v19, vN, vI v21, vN, vI v23, vI v24, vI v25, vN, vN, vN, vN, vN, vN, vN] [] μ1) (MW G d mL_rule [vR (1, 0, 20), vR (1, 0, 21), vR (1, 0, 22), vR (1, 0, 23), vR (1, 0, 28), vR (1, 0, 29), vR (1, 0, 30), vR (1, 0, 31), vI v21, vI v23, vI v24, vI v25] μ1 (xrL fun y4 μ3 => xif ((lg_cmp y4 (0 : Int64)) = 0) (¬ (2 : Int32) = (0 : Int32) ∧ xif ((v26 - v26 / (2 : Int32) * (2 : Int32)) = 0) (WS G eL_law (d + 1) Z Q 1181 [vR (13, 0, 0), vR (8, 0, 0), vR (1, 0, 20), vR (1, 0, 21), vR (1, 0, 22), vR (1, 0, 23), vR (1, 0, 24), vR (1, 0, 25), vR (1, 0, 26), vR (1, 0, 27), vR (1, 0, 28), vR (1, 0, 29), vR (1, 0, 30), vR (1, 0, 31), vR (1, 0, 32), vI v15, vN, vI v17, vN, vI v19, vN, vI v21, vN, vI v23, vI v24, vI v25, vI v26, vN, vN, vN, vN, vN, vN] [] μ3) (xif (v21 = (8 : Int32)) (WS G eL_law (d + 1) Z Q 1181 [vR (13, 0, 0), vR (8, 0, 0), vR (1, 0, 20), vR (1, 0, 21), vR (1, 0, 22), vR (1, 0, 23), vR (1, 0, 24), vR (1, 0, 25), vR (1, 0, 26), vR (1, 0, 27), vR (1, 0, 28), vR (1, 0, 29), vR (1, 0, 30), vR (1, 0, 31), vR (1, 0, 32), vI v15, vN, vI v17, vN, vI v19, vN, vI v21, vN, vI v23, vI v24, vI v25, vI v26, vN, vN, vN, vN, vN, vN] [] μ3) (xif (v21 = (10 : Int32)) (WS G eL_law (d + 1) Z Q 1181 [vR (13, 0, 0), vR (8, 0, 0), vR (1, 0, 20), vR (1, 0, 21), vR (1, 0, 22), vR (1, 0, 23), vR (1, 0, 24), vR (1, 0, 25), vR (1, 0, 26), vR (1, 0, 27), vR (1, 0, 28), vR (1, 0, 29), vR (1, 0, 30), vR (1, 0, 31), vR (1, 0, 32), vI v15, vN, vI v17, vN, vI v19, vN, vI v21, vN, vI v23, vI v24, vI v25, vI v26, vN, vN, vN, vN, vN, vN] [] μ3) (WS G eL_law (d + 1) Z Q 1186 [vR (13, 0, 0), vR (8, 0, 0), vR (1, 0, 20), vR (1, 0, 21), vR (1, 0, 22), vR (1, 0, 23), vR (1, 0, 24), vR (1, 0, 25), vR (1, 0, 26), vR (1, 0, 27), vR (1, 0, 28), vR (1, 0, 29), vR (1, 0, 30), vR (1, 0, 31), vR (1, 0, 32), vI v15, vN, vI v17, vN, vI v19, vN, vI v21, vN, vI v23, vI v24, vI v25, vI v26, vN, vN, vN, vN, vN, vN] [vI (0 : Int32)] μ3)))) (WS G eL_law (d + 1) Z Q 1292 [vR (13, 0, 0), vR (8, 0, 0), vR (1, 0, 20), vR (1, 0, 21), vR (1, 0, 22), vR (1, 0, 23), vR (1, 0, 24), vR (1, 0, 25), vR (1, 0, 26), vR (1, 0, 27), vR (1, 0, 28), vR (1, 0, 29), vR (1, 0, 30), vR (1, 0, 31), vR (1, 0, 32), vI v15, vN, vI v17, vN, vI v19, vN, vI v21, vN, vI v23, vI v24, vI v25, vN, vN, vN, vN, vN, vN, vN] [] μ3)))))) : WS G eL_law (d + 1) Z Q 1111 [vR (13, 0, 0), vR (8, 0, 0), vR (1, 0, 20), vR (1, 0, 21), vR (1, 0, 22), vR (1, 0, 23), vR (1, 0, 24), vR (1, 0, 25), vR (1, 0, 26), vR (1, 0, 27), vR (1, 0, 28), vR (1, 0, 29), vR (1, 0, 30), vR (1, 0, 31), vR (1, 0, 32), vI v15, vN, vI v17, vN, vI v19, vN, vI v21, vN, vI v23, vI v24, vI v25, vI v26, vN, vN, vN, vN, vN, vN] [] μ := WS.go okL_law 880 h
set_option maxRecDepth 100000 in
set_option maxHeartbeats 4000000 in
theorem wL_law_1181 {G : xG} {d : Nat} {Z : xZ} {v15 : Int32} {v17 : Int32} {v19 : Int32} {v21 : Int32} {v23 : Int32} {v24 : Int32} {v25 : Int32} {v26 : Int32} {μ : xM} {Q : xP} (h : WS G eL_law (d + 1) Z Q 1186 [vR (13, 0, 0), vR (8, 0, 0), vR (1, 0, 20), vR (1, 0, 21), vR (1, 0, 22), vR (1, 0, 23), vR (1, 0, 24), vR (1, 0, 25), vR (1, 0, 26), vR (1, 0, 27), vR (1, 0, 28), vR (1, 0, 29), vR (1, 0, 30), vR (1, 0, 31), vR (1, 0, 32), vI v15, vN, vI v17, vN, vI v19, vN, vI v21, vN, vI v23, vI v24, vI v25, vI v26, vN, vN, vN, vN, vN, vN] [vI (1 : Int32)] μ) : WS G eL_law (d + 1) Z Q 1181 [vR (13, 0, 0), vR (8, 0, 0), vR (1, 0, 20), vR (1, 0, 21), vR (1, 0, 22), vR (1, 0, 23), vR (1, 0, 24), vR (1, 0, 25), vR (1, 0, 26), vR (1, 0, 27), vR (1, 0, 28), vR (1, 0, 29), vR (1, 0, 30), vR (1, 0, 31), vR (1, 0, 32), vI v15, vN, vI v17, vN, vI v19, vN, vI v21, vN, vI v23, vI v24, vI v25, vI v26, vN, vN, vN, vN, vN, vN] [] μ := WS.go okL_law 880 h
set_option maxRecDepth 100000 in
set_option maxHeartbeats 4000000 in
theorem wL_law_1186 {G : xG} {d : Nat} {Z : xZ} {v15 : Int32} {v17 : Int32} {v19 : Int32} {v21 : Int32} {v23 : Int32} {v24 : Int32} {v25 : Int32} {v26 : Int32} {s0 : Int32} {μ : xM} {Q : xP} (h : xif (s0 = 0) (WS G eL_law (d + 1) Z Q 1228 [vR (13, 0, 0), vR (8, 0, 0), vR (1, 0, 20), vR (1, 0, 21), vR (1, 0, 22), vR (1, 0, 23), vR (1, 0, 24), vR (1, 0, 25), vR (1, 0, 26), vR (1, 0, 27), vR (1, 0, 28), vR (1, 0, 29), vR (1, 0, 30), vR (1, 0, 31), vR (1, 0, 32), vI v15, vN, vI v17, vN, vI v19, vN, vI v21, vN, vN, vI v24, vI v25, vI v26, vI s0, vN, vN, vN, vN, vN] [vI v23] μ) (xif (v21 = (8 : Int32)) (WS G eL_law (d + 1) Z Q 1211 [vR (13, 0, 0), vR (8, 0, 0), vR (1, 0, 20), vR (1, 0, 21), vR (1, 0, 22), vR (1, 0, 23), vR (1, 0, 24), vR (1, 0, 25), vR (1, 0, 26), vR (1, 0, 27), vR (1, 0, 28), vR (1, 0, 29), vR (1, 0, 30), vR (1, 0, 31), vR (1, 0, 32), vI v15, vN, vI v17, vN, vI v19, vN, vI v21, vN, vN, vI v24, vI v25, vI v26, vI s0, vN, vN, vN, vN, vN] [vI (v23 + (1 : Int32))] μ) (xif (v21 = (10 : Int32)) (WS G eL_law (d + 1) Z Q 1211 [vR (13, 0, 0), vR (8, 0, 0), vR (1, 0, 20), vR (1, 0, 21), vR (1, 0, 22), vR (1, 0, 23), vR (1, 0, 24), vR (1, 0, 25), vR (1, 0, 26), vR (1, 0, 27), vR (1, 0, 28), vR (1, 0, 29), vR (1, 0, 30), vR (1, 0, 31), vR (1, 0, 32), vI v15, vN, vI v17, vN, vI v19, vN, vI v21, vN, vN, vI v24, vI v25, vI v26, vI s0, vN, vN, vN, vN, vN] [vI (v23 + (1 : Int32))] μ) (vp_in (1 : Int32) 3 ∧ WS G eL_law (d + 1) Z Q 1222 [vR (13, 0, 0), vR (8, 0, 0), vR (1, 0, 20), vR (1, 0, 21), vR (1, 0, 22), vR (1, 0, 23), vR (1, 0, 24), vR (1, 0, 25), vR (1, 0, 26), vR (1, 0, 27), vR (1, 0, 28), vR (1, 0, 29), vR (1, 0, 30), vR (1, 0, 31), vR (1, 0, 32), vI v15, vN, vI v17, vN, vI v19, vN, vI v21, vN, vN, vI v24, vI v25, vI v26, vI s0, vN, vN, vN, vN, vN] [vI (μ (1, 0, 32) (1 : Int32).toNatClampNeg), vI (v23 + (1 : Int32))] μ)))) : WS G eL_law (d + 1) Z Q 1186 [vR (13, 0, 0), vR (8, 0, 0), vR (1, 0, 20), vR (1, 0, 21), vR (1, 0, 22), vR (1, 0, 23), vR (1, 0, 24), vR (1, 0, 25), vR (1, 0, 26), vR (1, 0, 27), vR (1, 0, 28), vR (1, 0, 29), vR (1, 0, 30), vR (1, 0, 31), vR (1, 0, 32), vI v15, vN, vI v17, vN, vI v19, vN, vI v21, vN, vI v23, vI v24, vI v25, vI v26, vN, vN, vN, vN, vN, vN] [vI s0] μ := WS.go okL_law 880 h
set_option maxRecDepth 100000 in
set_option maxHeartbeats 4000000 in
theorem wL_law_1211 {G : xG} {d : Nat} {Z : xZ} {v15 : Int32} {v17 : Int32} {v19 : Int32} {v21 : Int32} {v24 : Int32} {v25 : Int32} {v26 : Int32} {v27 : Int32} {s0 : Int32} {μ : xM} {Q : xP} (h : vp_in (2 : Int32) 3 ∧ WS G eL_law (d + 1) Z Q 1222 [vR (13, 0, 0), vR (8, 0, 0), vR (1, 0, 20), vR (1, 0, 21), vR (1, 0, 22), vR (1, 0, 23), vR (1, 0, 24), vR (1, 0, 25), vR (1, 0, 26), vR (1, 0, 27), vR (1, 0, 28), vR (1, 0, 29), vR (1, 0, 30), vR (1, 0, 31), vR (1, 0, 32), vI v15, vN, vI v17, vN, vI v19, vN, vI v21, vN, vN, vI v24, vI v25, vI v26, vI v27, vN, vN, vN, vN, vN] [vI (μ (1, 0, 32) (2 : Int32).toNatClampNeg), vI s0] μ) : WS G eL_law (d + 1) Z Q 1211 [vR (13, 0, 0), vR (8, 0, 0), vR (1, 0, 20), vR (1, 0, 21), vR (1, 0, 22), vR (1, 0, 23), vR (1, 0, 24), vR (1, 0, 25), vR (1, 0, 26), vR (1, 0, 27), vR (1, 0, 28), vR (1, 0, 29), vR (1, 0, 30), vR (1, 0, 31), vR (1, 0, 32), vI v15, vN, vI v17, vN, vI v19, vN, vI v21, vN, vN, vI v24, vI v25, vI v26, vI v27, vN, vN, vN, vN, vN] [vI s0] μ := WS.go okL_law 880 h
set_option maxRecDepth 100000 in
set_option maxHeartbeats 4000000 in
theorem wL_law_1222 {G : xG} {d : Nat} {Z : xZ} {v15 : Int32} {v17 : Int32} {v19 : Int32} {v21 : Int32} {v24 : Int32} {v25 : Int32} {v26 : Int32} {v27 : Int32} {s0 : Int32} {s1 : Int32} {μ : xM} {Q : xP} (h : ¬ s1 = (0 : Int32) ∧ WS G eL_law (d + 1) Z Q 1228 [vR (13, 0, 0), vR (8, 0, 0), vR (1, 0, 20), vR (1, 0, 21), vR (1, 0, 22), vR (1, 0, 23), vR (1, 0, 24), vR (1, 0, 25), vR (1, 0, 26), vR (1, 0, 27), vR (1, 0, 28), vR (1, 0, 29), vR (1, 0, 30), vR (1, 0, 31), vR (1, 0, 32), vI v15, vN, vI v17, vN, vI v19, vN, vI v21, vN, vN, vI v24, vI v25, vI v26, vI v27, vN, vN, vN, vN, vN] [vI (s0 - s0 / s1 * s1)] μ) : WS G eL_law (d + 1) Z Q 1222 [vR (13, 0, 0), vR (8, 0, 0), vR (1, 0, 20), vR (1, 0, 21), vR (1, 0, 22), vR (1, 0, 23), vR (1, 0, 24), vR (1, 0, 25), vR (1, 0, 26), vR (1, 0, 27), vR (1, 0, 28), vR (1, 0, 29), vR (1, 0, 30), vR (1, 0, 31), vR (1, 0, 32), vI v15, vN, vI v17, vN, vI v19, vN, vI v21, vN, vN, vI v24, vI v25, vI v26, vI v27, vN, vN, vN, vN, vN] [vI s1, vI s0] μ := WS.go okL_law 880 h
set_option maxRecDepth 100000 in
set_option maxHeartbeats 4000000 in
theorem wL_law_1228 {G : xG} {d : Nat} {Z : xZ} {v15 : Int32} {v17 : Int32} {v19 : Int32} {v21 : Int32} {v24 : Int32} {v25 : Int32} {v26 : Int32} {v27 : Int32} {s0 : Int32} {μ : xM} {Q : xP} (h : xif (v27 = 0) (xif (v21 = (7 : Int32)) (vp_in (2 : Int32) 3 ∧ WS G eL_law (d + 1) Z Q 1283 [vR (13, 0, 0), vR (8, 0, 0), vR (1, 0, 20), vR (1, 0, 21), vR (1, 0, 22), vR (1, 0, 23), vR (1, 0, 24), vR (1, 0, 25), vR (1, 0, 26), vR (1, 0, 27), vR (1, 0, 28), vR (1, 0, 29), vR (1, 0, 30), vR (1, 0, 31), vR (1, 0, 32), vI v15, vN, vI v17, vN, vI v19, vN, vI v21, vN, vI s0, vN, vI v25, vI v26, vN, vN, vN, vN, vN, vN] [vI (μ (1, 0, 32) (2 : Int32).toNatClampNeg), vI (v24 + (1 : Int32))] μ) (xif (v21 = (6 : Int32)) (WS G eL_law (d + 1) Z Q 1272 [vR (13, 0, 0), vR (8, 0, 0), vR (1, 0, 20), vR (1, 0, 21), vR (1, 0, 22), vR (1, 0, 23), vR (1, 0, 24), vR (1, 0, 25), vR (1, 0, 26), vR (1, 0, 27), vR (1, 0, 28), vR (1, 0, 29), vR (1, 0, 30), vR (1, 0, 31), vR (1, 0, 32), vI v15, vN, vI v17, vN, vI v19, vN, vI v21, vN, vI s0, vN, vI v25, vI v26, vN, vN, vN, vN, vN, vN] [vI (v24 + (1 : Int32))] μ) (xif (v21 = (12 : Int32)) (WS G eL_law (d + 1) Z Q 1272 [vR (13, 0, 0), vR (8, 0, 0), vR (1, 0, 20), vR (1, 0, 21), vR (1, 0, 22), vR (1, 0, 23), vR (1, 0, 24), vR (1, 0, 25), vR (1, 0, 26), vR (1, 0, 27), vR (1, 0, 28), vR (1, 0, 29), vR (1, 0, 30), vR (1, 0, 31), vR (1, 0, 32), vI v15, vN, vI v17, vN, vI v19, vN, vI v21, vN, vI s0, vN, vI v25, vI v26, vN, vN, vN, vN, vN, vN] [vI (v24 + (1 : Int32))] μ) (vp_in (1 : Int32) 3 ∧ WS G eL_law (d + 1) Z Q 1283 [vR (13, 0, 0), vR (8, 0, 0), vR (1, 0, 20), vR (1, 0, 21), vR (1, 0, 22), vR (1, 0, 23), vR (1, 0, 24), vR (1, 0, 25), vR (1, 0, 26), vR (1, 0, 27), vR (1, 0, 28), vR (1, 0, 29), vR (1, 0, 30), vR (1, 0, 31), vR (1, 0, 32), vI v15, vN, vI v17, vN, vI v19, vN, vI v21, vN, vI s0, vN, vI v25, vI v26, vN, vN, vN, vN, vN, vN] [vI (μ (1, 0, 32) (1 : Int32).toNatClampNeg), vI (v24 + (1 : Int32))] μ)))) (WS G eL_law (d + 1) Z Q 1284 [vR (13, 0, 0), vR (8, 0, 0), vR (1, 0, 20), vR (1, 0, 21), vR (1, 0, 22), vR (1, 0, 23), vR (1, 0, 24), vR (1, 0, 25), vR (1, 0, 26), vR (1, 0, 27), vR (1, 0, 28), vR (1, 0, 29), vR (1, 0, 30), vR (1, 0, 31), vR (1, 0, 32), vI v15, vN, vI v17, vN, vI v19, vN, vI v21, vN, vI s0, vN, vI v25, vI v26, vN, vN, vN, vN, vN, vN] [vI v24] μ)) : WS G eL_law (d + 1) Z Q 1228 [vR (13, 0, 0), vR (8, 0, 0), vR (1, 0, 20), vR (1, 0, 21), vR (1, 0, 22), vR (1, 0, 23), vR (1, 0, 24), vR (1, 0, 25), vR (1, 0, 26), vR (1, 0, 27), vR (1, 0, 28), vR (1, 0, 29), vR (1, 0, 30), vR (1, 0, 31), vR (1, 0, 32), vI v15, vN, vI v17, vN, vI v19, vN, vI v21, vN, vN, vI v24, vI v25, vI v26, vI v27, vN, vN, vN, vN, vN] [vI s0] μ := WS.go okL_law 880 h
set_option maxRecDepth 100000 in
set_option maxHeartbeats 4000000 in
theorem wL_law_1272 {G : xG} {d : Nat} {Z : xZ} {v15 : Int32} {v17 : Int32} {v19 : Int32} {v21 : Int32} {v23 : Int32} {v25 : Int32} {v26 : Int32} {s0 : Int32} {μ : xM} {Q : xP} (h : vp_in (0 : Int32) 3 ∧ WS G eL_law (d + 1) Z Q 1283 [vR (13, 0, 0), vR (8, 0, 0), vR (1, 0, 20), vR (1, 0, 21), vR (1, 0, 22), vR (1, 0, 23), vR (1, 0, 24), vR (1, 0, 25), vR (1, 0, 26), vR (1, 0, 27), vR (1, 0, 28), vR (1, 0, 29), vR (1, 0, 30), vR (1, 0, 31), vR (1, 0, 32), vI v15, vN, vI v17, vN, vI v19, vN, vI v21, vN, vI v23, vN, vI v25, vI v26, vN, vN, vN, vN, vN, vN] [vI (μ (1, 0, 32) (0 : Int32).toNatClampNeg), vI s0] μ) : WS G eL_law (d + 1) Z Q 1272 [vR (13, 0, 0), vR (8, 0, 0), vR (1, 0, 20), vR (1, 0, 21), vR (1, 0, 22), vR (1, 0, 23), vR (1, 0, 24), vR (1, 0, 25), vR (1, 0, 26), vR (1, 0, 27), vR (1, 0, 28), vR (1, 0, 29), vR (1, 0, 30), vR (1, 0, 31), vR (1, 0, 32), vI v15, vN, vI v17, vN, vI v19, vN, vI v21, vN, vI v23, vN, vI v25, vI v26, vN, vN, vN, vN, vN, vN] [vI s0] μ := WS.go okL_law 880 h
set_option maxRecDepth 100000 in
set_option maxHeartbeats 4000000 in
theorem wL_law_1283 {G : xG} {d : Nat} {Z : xZ} {v15 : Int32} {v17 : Int32} {v19 : Int32} {v21 : Int32} {v23 : Int32} {v25 : Int32} {v26 : Int32} {s0 : Int32} {s1 : Int32} {μ : xM} {Q : xP} (h : ¬ s1 = (0 : Int32) ∧ WS G eL_law (d + 1) Z Q 1284 [vR (13, 0, 0), vR (8, 0, 0), vR (1, 0, 20), vR (1, 0, 21), vR (1, 0, 22), vR (1, 0, 23), vR (1, 0, 24), vR (1, 0, 25), vR (1, 0, 26), vR (1, 0, 27), vR (1, 0, 28), vR (1, 0, 29), vR (1, 0, 30), vR (1, 0, 31), vR (1, 0, 32), vI v15, vN, vI v17, vN, vI v19, vN, vI v21, vN, vI v23, vN, vI v25, vI v26, vN, vN, vN, vN, vN, vN] [vI (s0 - s0 / s1 * s1)] μ) : WS G eL_law (d + 1) Z Q 1283 [vR (13, 0, 0), vR (8, 0, 0), vR (1, 0, 20), vR (1, 0, 21), vR (1, 0, 22), vR (1, 0, 23), vR (1, 0, 24), vR (1, 0, 25), vR (1, 0, 26), vR (1, 0, 27), vR (1, 0, 28), vR (1, 0, 29), vR (1, 0, 30), vR (1, 0, 31), vR (1, 0, 32), vI v15, vN, vI v17, vN, vI v19, vN, vI v21, vN, vI v23, vN, vI v25, vI v26, vN, vN, vN, vN, vN, vN] [vI s1, vI s0] μ := WS.go okL_law 880 h
set_option maxRecDepth 100000 in
set_option maxHeartbeats 4000000 in
theorem wL_law_1284 {G : xG} {d : Nat} {Z : xZ} {v15 : Int32} {v17 : Int32} {v19 : Int32} {v21 : Int32} {v23 : Int32} {v25 : Int32} {v26 : Int32} {s0 : Int32} {μ : xM} {Q : xP} (h : WS G eL_law (d + 1) Z Q 1111 [vR (13, 0, 0), vR (8, 0, 0), vR (1, 0, 20), vR (1, 0, 21), vR (1, 0, 22), vR (1, 0, 23), vR (1, 0, 24), vR (1, 0, 25), vR (1, 0, 26), vR (1, 0, 27), vR (1, 0, 28), vR (1, 0, 29), vR (1, 0, 30), vR (1, 0, 31), vR (1, 0, 32), vI v15, vN, vI v17, vN, vI v19, vN, vI v21, vN, vI v23, vI s0, vI v25, vI (v26 + (1 : Int32)), vN, vN, vN, vN, vN, vN] [] μ) : WS G eL_law (d + 1) Z Q 1284 [vR (13, 0, 0), vR (8, 0, 0), vR (1, 0, 20), vR (1, 0, 21), vR (1, 0, 22), vR (1, 0, 23), vR (1, 0, 24), vR (1, 0, 25), vR (1, 0, 26), vR (1, 0, 27), vR (1, 0, 28), vR (1, 0, 29), vR (1, 0, 30), vR (1, 0, 31), vR (1, 0, 32), vI v15, vN, vI v17, vN, vI v19, vN, vI v21, vN, vI v23, vN, vI v25, vI v26, vN, vN, vN, vN, vN, vN] [vI s0] μ := WS.go okL_law 880 h
set_option maxRecDepth 100000 in
set_option maxHeartbeats 4000000 in
theorem wL_law_1292 {G : xG} {d : Nat} {Z : xZ} {v15 : Int32} {v17 : Int32} {v19 : Int32} {v21 : Int32} {v23 : Int32} {v24 : Int32} {v25 : Int32} {μ : xM} {Q : xP} (h : MW G d mL_rule [vR (1, 0, 20), vR (1, 0, 21), vR (1, 0, 22), vR (1, 0, 23), vR (1, 0, 28), vR (1, 0, 29), vR (1, 0, 30), vR (1, 0, 31), vI v21, vI v23, vI v24, vI v25] μ (xrL fun y2 μ1 => WS G eL_law (d + 1) Z Q 1319 [vR (13, 0, 0), vR (8, 0, 0), vR (1, 0, 20), vR (1, 0, 21), vR (1, 0, 22), vR (1, 0, 23), vR (1, 0, 24), vR (1, 0, 25), vR (1, 0, 26), vR (1, 0, 27), vR (1, 0, 28), vR (1, 0, 29), vR (1, 0, 30), vR (1, 0, 31), vR (1, 0, 32), vI v15, vN, vI v17, vN, vI v19, vN, vI v21, vN, vI v23, vI v24, vI v25, vL y2, vN, vN, vN, vN, vN, vN] [] μ1)) : WS G eL_law (d + 1) Z Q 1292 [vR (13, 0, 0), vR (8, 0, 0), vR (1, 0, 20), vR (1, 0, 21), vR (1, 0, 22), vR (1, 0, 23), vR (1, 0, 24), vR (1, 0, 25), vR (1, 0, 26), vR (1, 0, 27), vR (1, 0, 28), vR (1, 0, 29), vR (1, 0, 30), vR (1, 0, 31), vR (1, 0, 32), vI v15, vN, vI v17, vN, vI v19, vN, vI v21, vN, vI v23, vI v24, vI v25, vN, vN, vN, vN, vN, vN, vN] [] μ := WS.go okL_law 880 h
set_option maxRecDepth 100000 in
set_option maxHeartbeats 4000000 in
theorem wL_law_1319 {G : xG} {d : Nat} {Z : xZ} {v15 : Int32} {v17 : Int32} {v19 : Int32} {v21 : Int32} {v23 : Int32} {v24 : Int32} {v25 : Int32} {v26 : Int64} {μ : xM} {Q : xP} (h : xif ((lg_cmp v26 (0 : Int64)) ≤ 0) (WS G eL_law (d + 1) Z Q 1542 [vR (13, 0, 0), vR (8, 0, 0), vR (1, 0, 20), vR (1, 0, 21), vR (1, 0, 22), vR (1, 0, 23), vR (1, 0, 24), vR (1, 0, 25), vR (1, 0, 26), vR (1, 0, 27), vR (1, 0, 28), vR (1, 0, 29), vR (1, 0, 30), vR (1, 0, 31), vR (1, 0, 32), vI v15, vN, vI v17, vN, vN, vN, vI v21, vN, vI v23, vI v24, vI v25, vN, vN, vN, vI (-3 : Int32), vN, vN, vN] [] μ) (WS G eL_law (d + 1) Z Q 1337 [vR (13, 0, 0), vR (8, 0, 0), vR (1, 0, 20), vR (1, 0, 21), vR (1, 0, 22), vR (1, 0, 23), vR (1, 0, 24), vR (1, 0, 25), vR (1, 0, 26), vR (1, 0, 27), vR (1, 0, 28), vR (1, 0, 29), vR (1, 0, 30), vR (1, 0, 31), vR (1, 0, 32), vI v15, vN, vI v17, vN, vI v19, vN, vI v21, vN, vI v23, vI v24, vI v25, vL v26, vN, vI ((Int64.toInt32 v26) - (1 : Int32)), vN, vN, vN, vN] [] μ)) : WS G eL_law (d + 1) Z Q 1319 [vR (13, 0, 0), vR (8, 0, 0), vR (1, 0, 20), vR (1, 0, 21), vR (1, 0, 22), vR (1, 0, 23), vR (1, 0, 24), vR (1, 0, 25), vR (1, 0, 26), vR (1, 0, 27), vR (1, 0, 28), vR (1, 0, 29), vR (1, 0, 30), vR (1, 0, 31), vR (1, 0, 32), vI v15, vN, vI v17, vN, vI v19, vN, vI v21, vN, vI v23, vI v24, vI v25, vL v26, vN, vN, vN, vN, vN, vN] [] μ := WS.go okL_law 880 h
set_option maxRecDepth 100000 in
set_option maxHeartbeats 4000000 in
theorem wL_law_1337 {G : xG} {d : Nat} {Z : xZ} {v15 : Int32} {v17 : Int32} {v19 : Int32} {v21 : Int32} {v23 : Int32} {v24 : Int32} {v25 : Int32} {v26 : Int64} {v28 : Int32} {μ : xM} {Q : xP} (h : xif ((lg_cmp v26 (1000 : Int64)) ≤ 0) (WS G eL_law (d + 1) Z Q 1423 [vR (13, 0, 0), vR (8, 0, 0), vR (1, 0, 20), vR (1, 0, 21), vR (1, 0, 22), vR (1, 0, 23), vR (1, 0, 24), vR (1, 0, 25), vR (1, 0, 26), vR (1, 0, 27), vR (1, 0, 28), vR (1, 0, 29), vR (1, 0, 30), vR (1, 0, 31), vR (1, 0, 32), vI v15, vN, vI v17, vN, vI v19, vN, vI v21, vN, vI v23, vI v24, vI v25, vN, vN, vI v28, vN, vN, vN, vN] [] μ) (xif (v19 = 0) (WS G eL_law (d + 1) Z Q 1351 [vR (13, 0, 0), vR (8, 0, 0), vR (1, 0, 20), vR (1, 0, 21), vR (1, 0, 22), vR (1, 0, 23), vR (1, 0, 24), vR (1, 0, 25), vR (1, 0, 26), vR (1, 0, 27), vR (1, 0, 28), vR (1, 0, 29), vR (1, 0, 30), vR (1, 0, 31), vR (1, 0, 32), vI v15, vN, vI v17, vN, vI v19, vN, vI v21, vN, vI v23, vI v24, vI v25, vL v26, vN, vN, vN, vN, vN, vN] [] μ) (WS G eL_law (d + 1) Z Q 1423 [vR (13, 0, 0), vR (8, 0, 0), vR (1, 0, 20), vR (1, 0, 21), vR (1, 0, 22), vR (1, 0, 23), vR (1, 0, 24), vR (1, 0, 25), vR (1, 0, 26), vR (1, 0, 27), vR (1, 0, 28), vR (1, 0, 29), vR (1, 0, 30), vR (1, 0, 31), vR (1, 0, 32), vI v15, vN, vI v17, vN, vI v19, vN, vI v21, vN, vI v23, vI v24, vI v25, vN, vN, vI v28, vN, vN, vN, vN] [] μ))) : WS G eL_law (d + 1) Z Q 1337 [vR (13, 0, 0), vR (8, 0, 0), vR (1, 0, 20), vR (1, 0, 21), vR (1, 0, 22), vR (1, 0, 23), vR (1, 0, 24), vR (1, 0, 25), vR (1, 0, 26), vR (1, 0, 27), vR (1, 0, 28), vR (1, 0, 29), vR (1, 0, 30), vR (1, 0, 31), vR (1, 0, 32), vI v15, vN, vI v17, vN, vI v19, vN, vI v21, vN, vI v23, vI v24, vI v25, vL v26, vN, vI v28, vN, vN, vN, vN] [] μ := WS.go okL_law 880 h
set_option maxRecDepth 100000 in
set_option maxHeartbeats 4000000 in
theorem wL_law_1351 {G : xG} {d : Nat} {Z : xZ} {v15 : Int32} {v17 : Int32} {v19 : Int32} {v21 : Int32} {v23 : Int32} {v24 : Int32} {v25 : Int32} {v26 : Int64} {μ : xM} {Q : xP} (h : ¬ (100000000 : Int64) = (0 : Int64) ∧ ¬ (1000 : Int64) = (0 : Int64) ∧ ¬ (1000 : Int64) = (0 : Int64) ∧ ¬ (1000 : Int64) = (0 : Int64) ∧ WS G eL_law (d + 1) Z Q 1382 [vR (13, 0, 0), vR (8, 0, 0), vR (1, 0, 20), vR (1, 0, 21), vR (1, 0, 22), vR (1, 0, 23), vR (1, 0, 24), vR (1, 0, 25), vR (1, 0, 26), vR (1, 0, 27), vR (1, 0, 28), vR (1, 0, 29), vR (1, 0, 30), vR (1, 0, 31), vR (1, 0, 32), vI v15, vN, vI v17, vN, vI v19, vN, vI v21, vN, vI v23, vI v24, vI v25, vN, vN, vN, vN, vI (Int64.toInt32 ((v26 / (100000000 : Int64)))), vI (Int64.toInt32 (((v26 / (1000 : Int64)) - (v26 / (1000 : Int64)) / (1000 : Int64) * (1000 : Int64)))), vI (Int64.toInt32 ((v26 - v26 / (1000 : Int64) * (1000 : Int64))))] [] μ) : WS G eL_law (d + 1) Z Q 1351 [vR (13, 0, 0), vR (8, 0, 0), vR (1, 0, 20), vR (1, 0, 21), vR (1, 0, 22), vR (1, 0, 23), vR (1, 0, 24), vR (1, 0, 25), vR (1, 0, 26), vR (1, 0, 27), vR (1, 0, 28), vR (1, 0, 29), vR (1, 0, 30), vR (1, 0, 31), vR (1, 0, 32), vI v15, vN, vI v17, vN, vI v19, vN, vI v21, vN, vI v23, vI v24, vI v25, vL v26, vN, vN, vN, vN, vN, vN] [] μ := WS.go okL_law 880 h
set_option maxRecDepth 100000 in
set_option maxHeartbeats 4000000 in
theorem wL_law_1382 {G : xG} {d : Nat} {Z : xZ} {v15 : Int32} {v17 : Int32} {v19 : Int32} {v21 : Int32} {v23 : Int32} {v24 : Int32} {v25 : Int32} {v30 : Int32} {v31 : Int32} {v32 : Int32} {μ : xM} {Q : xP} (h : xif (v31 = (999 : Int32)) (WS G eL_law (d + 1) Z Q 1404 [vR (13, 0, 0), vR (8, 0, 0), vR (1, 0, 20), vR (1, 0, 21), vR (1, 0, 22), vR (1, 0, 23), vR (1, 0, 24), vR (1, 0, 25), vR (1, 0, 26), vR (1, 0, 27), vR (1, 0, 28), vR (1, 0, 29), vR (1, 0, 30), vR (1, 0, 31), vR (1, 0, 32), vI v15, vN, vI v17, vN, vI v19, vN, vI v21, vN, vI v23, vI v24, vI v25, vN, vN, vN, vN, vN, vN, vI v32] [vI (-1 : Int32), vI v30, vR (1, 0, 32), vR (1, 0, 22), vR (1, 0, 21), vR (1, 0, 20)] μ) (WS G eL_law (d + 1) Z Q 1404 [vR (13, 0, 0), vR (8, 0, 0), vR (1, 0, 20), vR (1, 0, 21), vR (1, 0, 22), vR (1, 0, 23), vR (1, 0, 24), vR (1, 0, 25), vR (1, 0, 26), vR (1, 0, 27), vR (1, 0, 28), vR (1, 0, 29), vR (1, 0, 30), vR (1, 0, 31), vR (1, 0, 32), vI v15, vN, vI v17, vN, vI v19, vN, vI v21, vN, vI v23, vI v24, vI v25, vN, vN, vN, vN, vN, vN, vI v32] [vI v31, vI v30, vR (1, 0, 32), vR (1, 0, 22), vR (1, 0, 21), vR (1, 0, 20)] μ)) : WS G eL_law (d + 1) Z Q 1382 [vR (13, 0, 0), vR (8, 0, 0), vR (1, 0, 20), vR (1, 0, 21), vR (1, 0, 22), vR (1, 0, 23), vR (1, 0, 24), vR (1, 0, 25), vR (1, 0, 26), vR (1, 0, 27), vR (1, 0, 28), vR (1, 0, 29), vR (1, 0, 30), vR (1, 0, 31), vR (1, 0, 32), vI v15, vN, vI v17, vN, vI v19, vN, vI v21, vN, vI v23, vI v24, vI v25, vN, vN, vN, vN, vI v30, vI v31, vI v32] [] μ := WS.go okL_law 880 h
set_option maxRecDepth 100000 in
set_option maxHeartbeats 4000000 in
theorem wL_law_1404 {G : xG} {d : Nat} {Z : xZ} {v15 : Int32} {v17 : Int32} {v19 : Int32} {v21 : Int32} {v23 : Int32} {v24 : Int32} {v25 : Int32} {v32 : Int32} {s4 : Int32} {s5 : Int32} {μ : xM} {Q : xP} (h : xif (v32 = (999 : Int32)) (WS G eL_law (d + 1) Z Q 1418 [vR (13, 0, 0), vR (8, 0, 0), vR (1, 0, 20), vR (1, 0, 21), vR (1, 0, 22), vR (1, 0, 23), vR (1, 0, 24), vR (1, 0, 25), vR (1, 0, 26), vR (1, 0, 27), vR (1, 0, 28), vR (1, 0, 29), vR (1, 0, 30), vR (1, 0, 31), vR (1, 0, 32), vI v15, vN, vI v17, vN, vI v19, vN, vI v21, vN, vI v23, vI v24, vI v25, vN, vN, vN, vN, vN, vN, vN] [vI (-1 : Int32), vI s5, vI s4, vR (1, 0, 32), vR (1, 0, 22), vR (1, 0, 21), vR (1, 0, 20)] μ) (WS G eL_law (d + 1) Z Q 1418 [vR (13, 0, 0), vR (8, 0, 0), vR (1, 0, 20), vR (1, 0, 21), vR (1, 0, 22), vR (1, 0, 23), vR (1, 0, 24), vR (1, 0, 25), vR (1, 0, 26), vR (1, 0, 27), vR (1, 0, 28), vR (1, 0, 29), vR (1, 0, 30), vR (1, 0, 31), vR (1, 0, 32), vI v15, vN, vI v17, vN, vI v19, vN, vI v21, vN, vI v23, vI v24, vI v25, vN, vN, vN, vN, vN, vN, vN] [vI v32, vI s5, vI s4, vR (1, 0, 32), vR (1, 0, 22), vR (1, 0, 21), vR (1, 0, 20)] μ)) : WS G eL_law (d + 1) Z Q 1404 [vR (13, 0, 0), vR (8, 0, 0), vR (1, 0, 20), vR (1, 0, 21), vR (1, 0, 22), vR (1, 0, 23), vR (1, 0, 24), vR (1, 0, 25), vR (1, 0, 26), vR (1, 0, 27), vR (1, 0, 28), vR (1, 0, 29), vR (1, 0, 30), vR (1, 0, 31), vR (1, 0, 32), vI v15, vN, vI v17, vN, vI v19, vN, vI v21, vN, vI v23, vI v24, vI v25, vN, vN, vN, vN, vN, vN, vI v32] [vI s5, vI s4, vR (1, 0, 32), vR (1, 0, 22), vR (1, 0, 21), vR (1, 0, 20)] μ := WS.go okL_law 880 h
set_option maxRecDepth 100000 in
set_option maxHeartbeats 4000000 in
theorem wL_law_1418 {G : xG} {d : Nat} {Z : xZ} {v15 : Int32} {v17 : Int32} {v19 : Int32} {v21 : Int32} {v23 : Int32} {v24 : Int32} {v25 : Int32} {s4 : Int32} {s5 : Int32} {s6 : Int32} {μ : xM} {Q : xP} (h : MW G d mL_make [vR (1, 0, 20), vR (1, 0, 21), vR (1, 0, 22), vR (1, 0, 32), vI s4, vI s5, vI s6] μ (xrI fun x2 μ1 => WS G eL_law (d + 1) Z Q 1423 [vR (13, 0, 0), vR (8, 0, 0), vR (1, 0, 20), vR (1, 0, 21), vR (1, 0, 22), vR (1, 0, 23), vR (1, 0, 24), vR (1, 0, 25), vR (1, 0, 26), vR (1, 0, 27), vR (1, 0, 28), vR (1, 0, 29), vR (1, 0, 30), vR (1, 0, 31), vR (1, 0, 32), vI v15, vN, vI v17, vN, vI v19, vN, vI v21, vN, vI v23, vI v24, vI v25, vN, vN, vI x2, vN, vN, vN, vN] [] μ1)) : WS G eL_law (d + 1) Z Q 1418 [vR (13, 0, 0), vR (8, 0, 0), vR (1, 0, 20), vR (1, 0, 21), vR (1, 0, 22), vR (1, 0, 23), vR (1, 0, 24), vR (1, 0, 25), vR (1, 0, 26), vR (1, 0, 27), vR (1, 0, 28), vR (1, 0, 29), vR (1, 0, 30), vR (1, 0, 31), vR (1, 0, 32), vI v15, vN, vI v17, vN, vI v19, vN, vI v21, vN, vI v23, vI v24, vI v25, vN, vN, vN, vN, vN, vN, vN] [vI s6, vI s5, vI s4, vR (1, 0, 32), vR (1, 0, 22), vR (1, 0, 21), vR (1, 0, 20)] μ := WS.go okL_law 880 h
set_option maxRecDepth 100000 in
set_option maxHeartbeats 4000000 in
theorem wL_law_1423 {G : xG} {d : Nat} {Z : xZ} {v15 : Int32} {v17 : Int32} {v19 : Int32} {v21 : Int32} {v23 : Int32} {v24 : Int32} {v25 : Int32} {v28 : Int32} {μ : xM} {Q : xP} (h : xif (v21 = (3 : Int32)) (WS G eL_law (d + 1) Z Q 1450 [vR (13, 0, 0), vR (8, 0, 0), vR (1, 0, 20), vR (1, 0, 21), vR (1, 0, 22), vR (1, 0, 23), vR (1, 0, 24), vR (1, 0, 25), vR (1, 0, 26), vR (1, 0, 27), vR (1, 0, 28), vR (1, 0, 29), vR (1, 0, 30), vR (1, 0, 31), vR (1, 0, 32), vI v15, vN, vI v17, vN, vI v19, vN, vI v21, vN, vI v23, vI v24, vI v25, vN, vN, vI v28, vN, vN, vN, vN] [] μ) (xif (v21 = (9 : Int32)) (WS G eL_law (d + 1) Z Q 1450 [vR (13, 0, 0), vR (8, 0, 0), vR (1, 0, 20), vR (1, 0, 21), vR (1, 0, 22), vR (1, 0, 23), vR (1, 0, 24), vR (1, 0, 25), vR (1, 0, 26), vR (1, 0, 27), vR (1, 0, 28), vR (1, 0, 29), vR (1, 0, 30), vR (1, 0, 31), vR (1, 0, 32), vI v15, vN, vI v17, vN, vI v19, vN, vI v21, vN, vI v23, vI v24, vI v25, vN, vN, vI v28, vN, vN, vN, vN] [] μ) (xif (v21 = (11 : Int32)) (WS G eL_law (d + 1) Z Q 1450 [vR (13, 0, 0), vR (8, 0, 0), vR (1, 0, 20), vR (1, 0, 21), vR (1, 0, 22), vR (1, 0, 23), vR (1, 0, 24), vR (1, 0, 25), vR (1, 0, 26), vR (1, 0, 27), vR (1, 0, 28), vR (1, 0, 29), vR (1, 0, 30), vR (1, 0, 31), vR (1, 0, 32), vI v15, vN, vI v17, vN, vI v19, vN, vI v21, vN, vI v23, vI v24, vI v25, vN, vN, vI v28, vN, vN, vN, vN] [] μ) (xif (v21 = (7 : Int32)) (WS G eL_law (d + 1) Z Q 1450 [vR (13, 0, 0), vR (8, 0, 0), vR (1, 0, 20), vR (1, 0, 21), vR (1, 0, 22), vR (1, 0, 23), vR (1, 0, 24), vR (1, 0, 25), vR (1, 0, 26), vR (1, 0, 27), vR (1, 0, 28), vR (1, 0, 29), vR (1, 0, 30), vR (1, 0, 31), vR (1, 0, 32), vI v15, vN, vI v17, vN, vI v19, vN, vI v21, vN, vI v23, vI v24, vI v25, vN, vN, vI v28, vN, vN, vN, vN] [] μ) (WS G eL_law (d + 1) Z Q 1455 [vR (13, 0, 0), vR (8, 0, 0), vR (1, 0, 20), vR (1, 0, 21), vR (1, 0, 22), vR (1, 0, 23), vR (1, 0, 24), vR (1, 0, 25), vR (1, 0, 26), vR (1, 0, 27), vR (1, 0, 28), vR (1, 0, 29), vR (1, 0, 30), vR (1, 0, 31), vR (1, 0, 32), vI v15, vN, vI v17, vN, vI v19, vN, vI v21, vN, vI v23, vI v24, vI v25, vN, vN, vI v28, vN, vN, vN, vN] [vI (0 : Int32)] μ))))) : WS G eL_law (d + 1) Z Q 1423 [vR (13, 0, 0), vR (8, 0, 0), vR (1, 0, 20), vR (1, 0, 21), vR (1, 0, 22), vR (1, 0, 23), vR (1, 0, 24), vR (1, 0, 25), vR (1, 0, 26), vR (1, 0, 27), vR (1, 0, 28), vR (1, 0, 29), vR (1, 0, 30), vR (1, 0, 31), vR (1, 0, 32), vI v15, vN, vI v17, vN, vI v19, vN, vI v21, vN, vI v23, vI v24, vI v25, vN, vN, vI v28, vN, vN, vN, vN] [] μ := WS.go okL_law 880 h
set_option maxRecDepth 100000 in
set_option maxHeartbeats 4000000 in
theorem wL_law_1450 {G : xG} {d : Nat} {Z : xZ} {v15 : Int32} {v17 : Int32} {v19 : Int32} {v21 : Int32} {v23 : Int32} {v24 : Int32} {v25 : Int32} {v28 : Int32} {μ : xM} {Q : xP} (h : WS G eL_law (d + 1) Z Q 1455 [vR (13, 0, 0), vR (8, 0, 0), vR (1, 0, 20), vR (1, 0, 21), vR (1, 0, 22), vR (1, 0, 23), vR (1, 0, 24), vR (1, 0, 25), vR (1, 0, 26), vR (1, 0, 27), vR (1, 0, 28), vR (1, 0, 29), vR (1, 0, 30), vR (1, 0, 31), vR (1, 0, 32), vI v15, vN, vI v17, vN, vI v19, vN, vI v21, vN, vI v23, vI v24, vI v25, vN, vN, vI v28, vN, vN, vN, vN] [vI (1 : Int32)] μ) : WS G eL_law (d + 1) Z Q 1450 [vR (13, 0, 0), vR (8, 0, 0), vR (1, 0, 20), vR (1, 0, 21), vR (1, 0, 22), vR (1, 0, 23), vR (1, 0, 24), vR (1, 0, 25), vR (1, 0, 26), vR (1, 0, 27), vR (1, 0, 28), vR (1, 0, 29), vR (1, 0, 30), vR (1, 0, 31), vR (1, 0, 32), vI v15, vN, vI v17, vN, vI v19, vN, vI v21, vN, vI v23, vI v24, vI v25, vN, vN, vI v28, vN, vN, vN, vN] [] μ := WS.go okL_law 880 h
set_option maxRecDepth 100000 in
set_option maxHeartbeats 4000000 in
theorem wL_law_1455 {G : xG} {d : Nat} {Z : xZ} {v15 : Int32} {v17 : Int32} {v19 : Int32} {v21 : Int32} {v23 : Int32} {v24 : Int32} {v25 : Int32} {v28 : Int32} {s0 : Int32} {μ : xM} {Q : xP} (h : xif (s0 = 0) (WS G eL_law (d + 1) Z Q 1477 [vR (13, 0, 0), vR (8, 0, 0), vR (1, 0, 20), vR (1, 0, 21), vR (1, 0, 22), vR (1, 0, 23), vR (1, 0, 24), vR (1, 0, 25), vR (1, 0, 26), vR (1, 0, 27), vR (1, 0, 28), vR (1, 0, 29), vR (1, 0, 30), vR (1, 0, 31), vR (1, 0, 32), vI v15, vN, vI v17, vN, vI v19, vN, vI v21, vN, vI v23, vI v24, vI v25, vN, vN, vI v28, vN, vN, vN, vN] [vI (0 : Int32), vI ((1 : Int32) + v23)] μ) (WS G eL_law (d + 1) Z Q 1477 [vR (13, 0, 0), vR (8, 0, 0), vR (1, 0, 20), vR (1, 0, 21), vR (1, 0, 22), vR (1, 0, 23), vR (1, 0, 24), vR (1, 0, 25), vR (1, 0, 26), vR (1, 0, 27), vR (1, 0, 28), vR (1, 0, 29), vR (1, 0, 30), vR (1, 0, 31), vR (1, 0, 32), vI v15, vN, vI v17, vN, vI v19, vN, vI v21, vN, vI v23, vI v24, vI v25, vN, vN, vI v28, vN, vN, vN, vN] [vI ((100 : Int32) * ((1 : Int32) + v24)), vI ((1 : Int32) + v23)] μ)) : WS G eL_law (d + 1) Z Q 1455 [vR (13, 0, 0), vR (8, 0, 0), vR (1, 0, 20), vR (1, 0, 21), vR (1, 0, 22), vR (1, 0, 23), vR (1, 0, 24), vR (1, 0, 25), vR (1, 0, 26), vR (1, 0, 27), vR (1, 0, 28), vR (1, 0, 29), vR (1, 0, 30), vR (1, 0, 31), vR (1, 0, 32), vI v15, vN, vI v17, vN, vI v19, vN, vI v21, vN, vI v23, vI v24, vI v25, vN, vN, vI v28, vN, vN, vN, vN] [vI s0] μ := WS.go okL_law 880 h
set_option maxRecDepth 100000 in
set_option maxHeartbeats 4000000 in
theorem wL_law_1477 {G : xG} {d : Nat} {Z : xZ} {v15 : Int32} {v17 : Int32} {v19 : Int32} {v21 : Int32} {v23 : Int32} {v24 : Int32} {v25 : Int32} {v28 : Int32} {s0 : Int32} {s1 : Int32} {μ : xM} {Q : xP} (h : xif (v21 = (7 : Int32)) (WS G eL_law (d + 1) Z Q 1497 [vR (13, 0, 0), vR (8, 0, 0), vR (1, 0, 20), vR (1, 0, 21), vR (1, 0, 22), vR (1, 0, 23), vR (1, 0, 24), vR (1, 0, 25), vR (1, 0, 26), vR (1, 0, 27), vR (1, 0, 28), vR (1, 0, 29), vR (1, 0, 30), vR (1, 0, 31), vR (1, 0, 32), vI v15, vN, vI v17, vN, vI v19, vN, vI v21, vN, vI v23, vI v24, vI v25, vN, vN, vI v28, vN, vN, vN, vN] [vI ((10000 : Int32) * ((1 : Int32) + v25)), vI (s0 + s1)] μ) (WS G eL_law (d + 1) Z Q 1497 [vR (13, 0, 0), vR (8, 0, 0), vR (1, 0, 20), vR (1, 0, 21), vR (1, 0, 22), vR (1, 0, 23), vR (1, 0, 24), vR (1, 0, 25), vR (1, 0, 26), vR (1, 0, 27), vR (1, 0, 28), vR (1, 0, 29), vR (1, 0, 30), vR (1, 0, 31), vR (1, 0, 32), vI v15, vN, vI v17, vN, vI v19, vN, vI v21, vN, vI v23, vI v24, vI v25, vN, vN, vI v28, vN, vN, vN, vN] [vI (0 : Int32), vI (s0 + s1)] μ)) : WS G eL_law (d + 1) Z Q 1477 [vR (13, 0, 0), vR (8, 0, 0), vR (1, 0, 20), vR (1, 0, 21), vR (1, 0, 22), vR (1, 0, 23), vR (1, 0, 24), vR (1, 0, 25), vR (1, 0, 26), vR (1, 0, 27), vR (1, 0, 28), vR (1, 0, 29), vR (1, 0, 30), vR (1, 0, 31), vR (1, 0, 32), vI v15, vN, vI v17, vN, vI v19, vN, vI v21, vN, vI v23, vI v24, vI v25, vN, vN, vI v28, vN, vN, vN, vN] [vI s1, vI s0] μ := WS.go okL_law 880 h
set_option maxRecDepth 100000 in
set_option maxHeartbeats 4000000 in
theorem wL_law_1497 {G : xG} {d : Nat} {Z : xZ} {v15 : Int32} {v17 : Int32} {v19 : Int32} {v21 : Int32} {v23 : Int32} {v24 : Int32} {v25 : Int32} {v28 : Int32} {s0 : Int32} {s1 : Int32} {μ : xM} {Q : xP} (h : xif (v19 = 0) (xif (0 ≤ v28) (MW G d mL_write [vR (1, 0, 23), vR (1, 0, 24), vR (1, 0, 25), vR (1, 0, 26), vR (1, 0, 27), vR (1, 0, 28), vR (1, 0, 30), vR (1, 0, 32), vI v28, vI v21, vI (s0 + s1)] μ (xrI fun x2 μ1 => WS G eL_law (d + 1) Z Q 1540 [vR (13, 0, 0), vR (8, 0, 0), vR (1, 0, 20), vR (1, 0, 21), vR (1, 0, 22), vR (1, 0, 23), vR (1, 0, 24), vR (1, 0, 25), vR (1, 0, 26), vR (1, 0, 27), vR (1, 0, 28), vR (1, 0, 29), vR (1, 0, 30), vR (1, 0, 31), vR (1, 0, 32), vI v15, vN, vI v17, vN, vN, vN, vI v21, vN, vI v23, vI v24, vI v25, vN, vN, vN, vN, vN, vN, vN] [vI x2] μ1)) (WS G eL_law (d + 1) Z Q 1510 [vR (13, 0, 0), vR (8, 0, 0), vR (1, 0, 20), vR (1, 0, 21), vR (1, 0, 22), vR (1, 0, 23), vR (1, 0, 24), vR (1, 0, 25), vR (1, 0, 26), vR (1, 0, 27), vR (1, 0, 28), vR (1, 0, 29), vR (1, 0, 30), vR (1, 0, 31), vR (1, 0, 32), vI v15, vN, vI v17, vN, vN, vN, vI v21, vN, vI v23, vI v24, vI v25, vN, vN, vN, vN, vN, vN, vN] [] μ)) (WS G eL_law (d + 1) Z Q 1510 [vR (13, 0, 0), vR (8, 0, 0), vR (1, 0, 20), vR (1, 0, 21), vR (1, 0, 22), vR (1, 0, 23), vR (1, 0, 24), vR (1, 0, 25), vR (1, 0, 26), vR (1, 0, 27), vR (1, 0, 28), vR (1, 0, 29), vR (1, 0, 30), vR (1, 0, 31), vR (1, 0, 32), vI v15, vN, vI v17, vN, vN, vN, vI v21, vN, vI v23, vI v24, vI v25, vN, vN, vN, vN, vN, vN, vN] [] μ)) : WS G eL_law (d + 1) Z Q 1497 [vR (13, 0, 0), vR (8, 0, 0), vR (1, 0, 20), vR (1, 0, 21), vR (1, 0, 22), vR (1, 0, 23), vR (1, 0, 24), vR (1, 0, 25), vR (1, 0, 26), vR (1, 0, 27), vR (1, 0, 28), vR (1, 0, 29), vR (1, 0, 30), vR (1, 0, 31), vR (1, 0, 32), vI v15, vN, vI v17, vN, vI v19, vN, vI v21, vN, vI v23, vI v24, vI v25, vN, vN, vI v28, vN, vN, vN, vN] [vI s1, vI s0] μ := WS.go okL_law 880 h
set_option maxRecDepth 100000 in
set_option maxHeartbeats 4000000 in
theorem wL_law_1510 {G : xG} {d : Nat} {Z : xZ} {v15 : Int32} {v17 : Int32} {v21 : Int32} {v23 : Int32} {v24 : Int32} {v25 : Int32} {μ : xM} {Q : xP} (h : WS G eL_law (d + 1) Z Q 1540 [vR (13, 0, 0), vR (8, 0, 0), vR (1, 0, 20), vR (1, 0, 21), vR (1, 0, 22), vR (1, 0, 23), vR (1, 0, 24), vR (1, 0, 25), vR (1, 0, 26), vR (1, 0, 27), vR (1, 0, 28), vR (1, 0, 29), vR (1, 0, 30), vR (1, 0, 31), vR (1, 0, 32), vI v15, vN, vI v17, vN, vN, vN, vI v21, vN, vI v23, vI v24, vI v25, vN, vN, vN, vN, vN, vN, vN] [vI (-4 : Int32)] μ) : WS G eL_law (d + 1) Z Q 1510 [vR (13, 0, 0), vR (8, 0, 0), vR (1, 0, 20), vR (1, 0, 21), vR (1, 0, 22), vR (1, 0, 23), vR (1, 0, 24), vR (1, 0, 25), vR (1, 0, 26), vR (1, 0, 27), vR (1, 0, 28), vR (1, 0, 29), vR (1, 0, 30), vR (1, 0, 31), vR (1, 0, 32), vI v15, vN, vI v17, vN, vN, vN, vI v21, vN, vI v23, vI v24, vI v25, vN, vN, vN, vN, vN, vN, vN] [] μ := WS.go okL_law 880 h
set_option maxRecDepth 100000 in
set_option maxHeartbeats 4000000 in
theorem wL_law_1540 {G : xG} {d : Nat} {Z : xZ} {v15 : Int32} {v17 : Int32} {v21 : Int32} {v23 : Int32} {v24 : Int32} {v25 : Int32} {s0 : Int32} {μ : xM} {Q : xP} (h : WS G eL_law (d + 1) Z Q 1542 [vR (13, 0, 0), vR (8, 0, 0), vR (1, 0, 20), vR (1, 0, 21), vR (1, 0, 22), vR (1, 0, 23), vR (1, 0, 24), vR (1, 0, 25), vR (1, 0, 26), vR (1, 0, 27), vR (1, 0, 28), vR (1, 0, 29), vR (1, 0, 30), vR (1, 0, 31), vR (1, 0, 32), vI v15, vN, vI v17, vN, vN, vN, vI v21, vN, vI v23, vI v24, vI v25, vN, vN, vN, vI s0, vN, vN, vN] [] μ) : WS G eL_law (d + 1) Z Q 1540 [vR (13, 0, 0), vR (8, 0, 0), vR (1, 0, 20), vR (1, 0, 21), vR (1, 0, 22), vR (1, 0, 23), vR (1, 0, 24), vR (1, 0, 25), vR (1, 0, 26), vR (1, 0, 27), vR (1, 0, 28), vR (1, 0, 29), vR (1, 0, 30), vR (1, 0, 31), vR (1, 0, 32), vI v15, vN, vI v17, vN, vN, vN, vI v21, vN, vI v23, vI v24, vI v25, vN, vN, vN, vN, vN, vN, vN] [vI s0] μ := WS.go okL_law 880 h
set_option maxRecDepth 100000 in
set_option maxHeartbeats 4000000 in
theorem wL_law_1542 {G : xG} {d : Nat} {Z : xZ} {v15 : Int32} {v17 : Int32} {v21 : Int32} {v23 : Int32} {v24 : Int32} {v25 : Int32} {v29 : Int32} {μ : xM} {Q : xP} (h : xif (v21 = (2 : Int32)) (MW G d mX8_repeat [vR (8, 0, 0), vI v23] μ (xrI fun x2 μ1 => WS G eL_law (d + 1) Z Q 1670 [vR (13, 0, 0), vR (8, 0, 0), vR (1, 0, 20), vR (1, 0, 21), vR (1, 0, 22), vR (1, 0, 23), vR (1, 0, 24), vR (1, 0, 25), vR (1, 0, 26), vR (1, 0, 27), vR (1, 0, 28), vR (1, 0, 29), vR (1, 0, 30), vR (1, 0, 31), vR (1, 0, 32), vI v15, vN, vI v17, vN, vN, vN, vN, vN, vN, vN, vN, vN, vN, vN, vI v29, vN, vN, vN] [vI x2] μ1)) (xif (v21 = (7 : Int32)) (MW G d mX8_cases [vR (8, 0, 0), vI v23, vI v24, vI v25] μ (xrI fun x4 μ3 => WS G eL_law (d + 1) Z Q 1670 [vR (13, 0, 0), vR (8, 0, 0), vR (1, 0, 20), vR (1, 0, 21), vR (1, 0, 22), vR (1, 0, 23), vR (1, 0, 24), vR (1, 0, 25), vR (1, 0, 26), vR (1, 0, 27), vR (1, 0, 28), vR (1, 0, 29), vR (1, 0, 30), vR (1, 0, 31), vR (1, 0, 32), vI v15, vN, vI v17, vN, vN, vN, vN, vN, vN, vN, vN, vN, vN, vN, vI v29, vN, vN, vN] [vI x4] μ3)) (xif (v21 = (8 : Int32)) (WS G eL_law (d + 1) Z Q 1591 [vR (13, 0, 0), vR (8, 0, 0), vR (1, 0, 20), vR (1, 0, 21), vR (1, 0, 22), vR (1, 0, 23), vR (1, 0, 24), vR (1, 0, 25), vR (1, 0, 26), vR (1, 0, 27), vR (1, 0, 28), vR (1, 0, 29), vR (1, 0, 30), vR (1, 0, 31), vR (1, 0, 32), vI v15, vN, vI v17, vN, vN, vN, vI v21, vN, vI v23, vN, vN, vN, vN, vN, vI v29, vN, vN, vN] [] μ) (xif (v21 = (10 : Int32)) (WS G eL_law (d + 1) Z Q 1591 [vR (13, 0, 0), vR (8, 0, 0), vR (1, 0, 20), vR (1, 0, 21), vR (1, 0, 22), vR (1, 0, 23), vR (1, 0, 24), vR (1, 0, 25), vR (1, 0, 26), vR (1, 0, 27), vR (1, 0, 28), vR (1, 0, 29), vR (1, 0, 30), vR (1, 0, 31), vR (1, 0, 32), vI v15, vN, vI v17, vN, vN, vN, vI v21, vN, vI v23, vN, vN, vN, vN, vN, vI v29, vN, vN, vN] [] μ) (xif (v21 = (3 : Int32)) (WS G eL_law (d + 1) Z Q 1622 [vR (13, 0, 0), vR (8, 0, 0), vR (1, 0, 20), vR (1, 0, 21), vR (1, 0, 22), vR (1, 0, 23), vR (1, 0, 24), vR (1, 0, 25), vR (1, 0, 26), vR (1, 0, 27), vR (1, 0, 28), vR (1, 0, 29), vR (1, 0, 30), vR (1, 0, 31), vR (1, 0, 32), vI v15, vN, vI v17, vN, vN, vN, vI v21, vN, vI v23, vI v24, vN, vN, vN, vN, vI v29, vN, vN, vN] [] μ) (xif (v21 = (9 : Int32)) (WS G eL_law (d + 1) Z Q 1622 [vR (13, 0, 0), vR (8, 0, 0), vR (1, 0, 20), vR (1, 0, 21), vR (1, 0, 22), vR (1, 0, 23), vR (1, 0, 24), vR (1, 0, 25), vR (1, 0, 26), vR (1, 0, 27), vR (1, 0, 28), vR (1, 0, 29), vR (1, 0, 30), vR (1, 0, 31), vR (1, 0, 32), vI v15, vN, vI v17, vN, vN, vN, vI v21, vN, vI v23, vI v24, vN, vN, vN, vN, vI v29, vN, vN, vN] [] μ) (xif (v21 = (11 : Int32)) (WS G eL_law (d + 1) Z Q 1622 [vR (13, 0, 0), vR (8, 0, 0), vR (1, 0, 20), vR (1, 0, 21), vR (1, 0, 22), vR (1, 0, 23), vR (1, 0, 24), vR (1, 0, 25), vR (1, 0, 26), vR (1, 0, 27), vR (1, 0, 28), vR (1, 0, 29), vR (1, 0, 30), vR (1, 0, 31), vR (1, 0, 32), vI v15, vN, vI v17, vN, vN, vN, vI v21, vN, vI v23, vI v24, vN, vN, vN, vN, vI v29, vN, vN, vN] [] μ) (xif (v21 = (6 : Int32)) (WS G eL_law (d + 1) Z Q 1649 [vR (13, 0, 0), vR (8, 0, 0), vR (1, 0, 20), vR (1, 0, 21), vR (1, 0, 22), vR (1, 0, 23), vR (1, 0, 24), vR (1, 0, 25), vR (1, 0, 26), vR (1, 0, 27), vR (1, 0, 28), vR (1, 0, 29), vR (1, 0, 30), vR (1, 0, 31), vR (1, 0, 32), vI v15, vN, vI v17, vN, vN, vN, vI v21, vN, vI v23, vI v24, vN, vN, vN, vN, vI v29, vN, vN, vN] [] μ) (xif (v21 = (12 : Int32)) (WS G eL_law (d + 1) Z Q 1649 [vR (13, 0, 0), vR (8, 0, 0), vR (1, 0, 20), vR (1, 0, 21), vR (1, 0, 22), vR (1, 0, 23), vR (1, 0, 24), vR (1, 0, 25), vR (1, 0, 26), vR (1, 0, 27), vR (1, 0, 28), vR (1, 0, 29), vR (1, 0, 30), vR (1, 0, 31), vR (1, 0, 32), vI v15, vN, vI v17, vN, vN, vN, vI v21, vN, vI v23, vI v24, vN, vN, vN, vN, vI v29, vN, vN, vN] [] μ) (MW G d mX8_fromOne [vR (8, 0, 0), vI v21, vI v23] μ (xrI fun x6 μ5 => WS G eL_law (d + 1) Z Q 1670 [vR (13, 0, 0), vR (8, 0, 0), vR (1, 0, 20), vR (1, 0, 21), vR (1, 0, 22), vR (1, 0, 23), vR (1, 0, 24), vR (1, 0, 25), vR (1, 0, 26), vR (1, 0, 27), vR (1, 0, 28), vR (1, 0, 29), vR (1, 0, 30), vR (1, 0, 31), vR (1, 0, 32), vI v15, vN, vI v17, vN, vN, vN, vN, vN, vN, vN, vN, vN, vN, vN, vI v29, vN, vN, vN] [vI x6] μ5))))))))))) : WS G eL_law (d + 1) Z Q 1542 [vR (13, 0, 0), vR (8, 0, 0), vR (1, 0, 20), vR (1, 0, 21), vR (1, 0, 22), vR (1, 0, 23), vR (1, 0, 24), vR (1, 0, 25), vR (1, 0, 26), vR (1, 0, 27), vR (1, 0, 28), vR (1, 0, 29), vR (1, 0, 30), vR (1, 0, 31), vR (1, 0, 32), vI v15, vN, vI v17, vN, vN, vN, vI v21, vN, vI v23, vI v24, vI v25, vN, vN, vN, vI v29, vN, vN, vN] [] μ := WS.go okL_law 880 h
set_option maxRecDepth 100000 in
set_option maxHeartbeats 4000000 in
theorem wL_law_1591 {G : xG} {d : Nat} {Z : xZ} {v15 : Int32} {v17 : Int32} {v21 : Int32} {v23 : Int32} {v29 : Int32} {μ : xM} {Q : xP} (h : MW G d mX8_fromBox [vR (8, 0, 0), vI v21, vI v23] μ (xrI fun x2 μ1 => WS G eL_law (d + 1) Z Q 1670 [vR (13, 0, 0), vR (8, 0, 0), vR (1, 0, 20), vR (1, 0, 21), vR (1, 0, 22), vR (1, 0, 23), vR (1, 0, 24), vR (1, 0, 25), vR (1, 0, 26), vR (1, 0, 27), vR (1, 0, 28), vR (1, 0, 29), vR (1, 0, 30), vR (1, 0, 31), vR (1, 0, 32), vI v15, vN, vI v17, vN, vN, vN, vN, vN, vN, vN, vN, vN, vN, vN, vI v29, vN, vN, vN] [vI x2] μ1)) : WS G eL_law (d + 1) Z Q 1591 [vR (13, 0, 0), vR (8, 0, 0), vR (1, 0, 20), vR (1, 0, 21), vR (1, 0, 22), vR (1, 0, 23), vR (1, 0, 24), vR (1, 0, 25), vR (1, 0, 26), vR (1, 0, 27), vR (1, 0, 28), vR (1, 0, 29), vR (1, 0, 30), vR (1, 0, 31), vR (1, 0, 32), vI v15, vN, vI v17, vN, vN, vN, vI v21, vN, vI v23, vN, vN, vN, vN, vN, vI v29, vN, vN, vN] [] μ := WS.go okL_law 880 h
set_option maxRecDepth 100000 in
set_option maxHeartbeats 4000000 in
theorem wL_law_1622 {G : xG} {d : Nat} {Z : xZ} {v15 : Int32} {v17 : Int32} {v21 : Int32} {v23 : Int32} {v24 : Int32} {v29 : Int32} {μ : xM} {Q : xP} (h : MW G d mX8_fromTwo [vR (8, 0, 0), vI v21, vI v23, vI v24] μ (xrI fun x2 μ1 => WS G eL_law (d + 1) Z Q 1670 [vR (13, 0, 0), vR (8, 0, 0), vR (1, 0, 20), vR (1, 0, 21), vR (1, 0, 22), vR (1, 0, 23), vR (1, 0, 24), vR (1, 0, 25), vR (1, 0, 26), vR (1, 0, 27), vR (1, 0, 28), vR (1, 0, 29), vR (1, 0, 30), vR (1, 0, 31), vR (1, 0, 32), vI v15, vN, vI v17, vN, vN, vN, vN, vN, vN, vN, vN, vN, vN, vN, vI v29, vN, vN, vN] [vI x2] μ1)) : WS G eL_law (d + 1) Z Q 1622 [vR (13, 0, 0), vR (8, 0, 0), vR (1, 0, 20), vR (1, 0, 21), vR (1, 0, 22), vR (1, 0, 23), vR (1, 0, 24), vR (1, 0, 25), vR (1, 0, 26), vR (1, 0, 27), vR (1, 0, 28), vR (1, 0, 29), vR (1, 0, 30), vR (1, 0, 31), vR (1, 0, 32), vI v15, vN, vI v17, vN, vN, vN, vI v21, vN, vI v23, vI v24, vN, vN, vN, vN, vI v29, vN, vN, vN] [] μ := WS.go okL_law 880 h
set_option maxRecDepth 100000 in
set_option maxHeartbeats 4000000 in
theorem wL_law_1649 {G : xG} {d : Nat} {Z : xZ} {v15 : Int32} {v17 : Int32} {v21 : Int32} {v23 : Int32} {v24 : Int32} {v29 : Int32} {μ : xM} {Q : xP} (h : MW G d mX8_toFormula [vR (8, 0, 0), vI v21, vI v23, vI v24] μ (xrI fun x2 μ1 => WS G eL_law (d + 1) Z Q 1670 [vR (13, 0, 0), vR (8, 0, 0), vR (1, 0, 20), vR (1, 0, 21), vR (1, 0, 22), vR (1, 0, 23), vR (1, 0, 24), vR (1, 0, 25), vR (1, 0, 26), vR (1, 0, 27), vR (1, 0, 28), vR (1, 0, 29), vR (1, 0, 30), vR (1, 0, 31), vR (1, 0, 32), vI v15, vN, vI v17, vN, vN, vN, vN, vN, vN, vN, vN, vN, vN, vN, vI v29, vN, vN, vN] [vI x2] μ1)) : WS G eL_law (d + 1) Z Q 1649 [vR (13, 0, 0), vR (8, 0, 0), vR (1, 0, 20), vR (1, 0, 21), vR (1, 0, 22), vR (1, 0, 23), vR (1, 0, 24), vR (1, 0, 25), vR (1, 0, 26), vR (1, 0, 27), vR (1, 0, 28), vR (1, 0, 29), vR (1, 0, 30), vR (1, 0, 31), vR (1, 0, 32), vI v15, vN, vI v17, vN, vN, vN, vI v21, vN, vI v23, vI v24, vN, vN, vN, vN, vI v29, vN, vN, vN] [] μ := WS.go okL_law 880 h
set_option maxRecDepth 100000 in
set_option maxHeartbeats 4000000 in
theorem wL_law_1670 {G : xG} {d : Nat} {Z : xZ} {v15 : Int32} {v17 : Int32} {v29 : Int32} {s0 : Int32} {μ : xM} {Q : xP} (h : xif (s0 = v29) (WS G eL_law (d + 1) Z Q 1684 [vR (13, 0, 0), vR (8, 0, 0), vR (1, 0, 20), vR (1, 0, 21), vR (1, 0, 22), vR (1, 0, 23), vR (1, 0, 24), vR (1, 0, 25), vR (1, 0, 26), vR (1, 0, 27), vR (1, 0, 28), vR (1, 0, 29), vR (1, 0, 30), vR (1, 0, 31), vR (1, 0, 32), vI v15, vN, vI v17, vN, vN, vN, vN, vN, vN, vN, vN, vN, vN, vN, vN, vN, vN, vN] [vI (1 : Int32)] μ) (WS G eL_law (d + 1) Z Q 1684 [vR (13, 0, 0), vR (8, 0, 0), vR (1, 0, 20), vR (1, 0, 21), vR (1, 0, 22), vR (1, 0, 23), vR (1, 0, 24), vR (1, 0, 25), vR (1, 0, 26), vR (1, 0, 27), vR (1, 0, 28), vR (1, 0, 29), vR (1, 0, 30), vR (1, 0, 31), vR (1, 0, 32), vI v15, vN, vI v17, vN, vN, vN, vN, vN, vN, vN, vN, vN, vN, vN, vN, vN, vN, vN] [vI (0 : Int32)] μ)) : WS G eL_law (d + 1) Z Q 1670 [vR (13, 0, 0), vR (8, 0, 0), vR (1, 0, 20), vR (1, 0, 21), vR (1, 0, 22), vR (1, 0, 23), vR (1, 0, 24), vR (1, 0, 25), vR (1, 0, 26), vR (1, 0, 27), vR (1, 0, 28), vR (1, 0, 29), vR (1, 0, 30), vR (1, 0, 31), vR (1, 0, 32), vI v15, vN, vI v17, vN, vN, vN, vN, vN, vN, vN, vN, vN, vN, vN, vI v29, vN, vN, vN] [vI s0] μ := WS.go okL_law 880 h
set_option maxRecDepth 100000 in
set_option maxHeartbeats 4000000 in
theorem wL_law_1684 {G : xG} {d : Nat} {Z : xZ} {v15 : Int32} {v17 : Int32} {s0 : Int32} {μ : xM} {Q : xP} (h : WS G eL_law (d + 1) Z Q 1686 [vR (13, 0, 0), vR (8, 0, 0), vR (1, 0, 20), vR (1, 0, 21), vR (1, 0, 22), vR (1, 0, 23), vR (1, 0, 24), vR (1, 0, 25), vR (1, 0, 26), vR (1, 0, 27), vR (1, 0, 28), vR (1, 0, 29), vR (1, 0, 30), vR (1, 0, 31), vR (1, 0, 32), vI v15, vN, vI v17, vN, vN, vI s0, vN, vN, vN, vN, vN, vN, vN, vN, vN, vN, vN, vN] [] μ) : WS G eL_law (d + 1) Z Q 1684 [vR (13, 0, 0), vR (8, 0, 0), vR (1, 0, 20), vR (1, 0, 21), vR (1, 0, 22), vR (1, 0, 23), vR (1, 0, 24), vR (1, 0, 25), vR (1, 0, 26), vR (1, 0, 27), vR (1, 0, 28), vR (1, 0, 29), vR (1, 0, 30), vR (1, 0, 31), vR (1, 0, 32), vI v15, vN, vI v17, vN, vN, vN, vN, vN, vN, vN, vN, vN, vN, vN, vN, vN, vN, vN] [vI s0] μ := WS.go okL_law 880 h
set_option maxRecDepth 100000 in
set_option maxHeartbeats 4000000 in
theorem wL_law_1686 {G : xG} {d : Nat} {Z : xZ} {v15 : Int32} {v17 : Int32} {v20 : Int32} {μ : xM} {Q : xP} (h : xif (v20 = 0) (WS G eL_law (d + 1) Z Q 1794 [vN, vN, vN, vN, vN, vN, vN, vN, vN, vN, vN, vN, vN, vN, vN, vN, vN, vN, vN, vN, vN, vN, vN, vN, vN, vN, vN, vN, vN, vN, vN, vN, vN] [vI (0 : Int32)] μ) (MW G d mL_formulas [vR (8, 0, 0), vR (1, 0, 20), vR (1, 0, 21), vR (1, 0, 22), vR (1, 0, 32), vI (v17 >>> ((3 : Int32) &&& 31))] μ (xrI fun x2 μ1 => xif (x2 = 0) (WS G eL_law (d + 1) Z Q 1794 [vN, vN, vN, vN, vN, vN, vN, vN, vN, vN, vN, vN, vN, vN, vN, vN, vN, vN, vN, vN, vN, vN, vN, vN, vN, vN, vN, vN, vN, vN, vN, vN, vN] [vI (0 : Int32)] μ1) (WS G eL_law (d + 1) Z Q 1708 [vR (13, 0, 0), vR (8, 0, 0), vR (1, 0, 20), vR (1, 0, 21), vR (1, 0, 22), vR (1, 0, 23), vR (1, 0, 24), vR (1, 0, 25), vR (1, 0, 26), vR (1, 0, 27), vR (1, 0, 28), vR (1, 0, 29), vR (1, 0, 30), vR (1, 0, 31), vR (1, 0, 32), vI v15, vN, vI v17, vN, vN, vN, vN, vN, vN, vN, vN, vN, vN, vN, vN, vN, vN, vN] [] μ1)))) : WS G eL_law (d + 1) Z Q 1686 [vR (13, 0, 0), vR (8, 0, 0), vR (1, 0, 20), vR (1, 0, 21), vR (1, 0, 22), vR (1, 0, 23), vR (1, 0, 24), vR (1, 0, 25), vR (1, 0, 26), vR (1, 0, 27), vR (1, 0, 28), vR (1, 0, 29), vR (1, 0, 30), vR (1, 0, 31), vR (1, 0, 32), vI v15, vN, vI v17, vN, vN, vI v20, vN, vN, vN, vN, vN, vN, vN, vN, vN, vN, vN, vN] [] μ := WS.go okL_law 880 h
set_option maxRecDepth 100000 in
set_option maxHeartbeats 4000000 in
theorem wL_law_1708 {G : xG} {d : Nat} {Z : xZ} {v15 : Int32} {v17 : Int32} {μ : xM} {Q : xP} (h : MW G d mL_lines [vR (8, 0, 0), vR (1, 0, 23), vR (1, 0, 24), vR (1, 0, 25), vR (1, 0, 26), vR (1, 0, 27), vR (1, 0, 28), vR (1, 0, 29), vR (1, 0, 30), vR (1, 0, 31), vR (1, 0, 32)] μ (xrI fun x2 μ1 => xif (x2 = 0) (WS G eL_law (d + 1) Z Q 1794 [vN, vN, vN, vN, vN, vN, vN, vN, vN, vN, vN, vN, vN, vN, vN, vN, vN, vN, vN, vN, vN, vN, vN, vN, vN, vN, vN, vN, vN, vN, vN, vN, vN] [vI (0 : Int32)] μ1) (WS G eL_law (d + 1) Z Q 1735 [vR (13, 0, 0), vR (8, 0, 0), vR (1, 0, 20), vR (1, 0, 21), vR (1, 0, 22), vR (1, 0, 23), vR (1, 0, 24), vR (1, 0, 25), vR (1, 0, 26), vR (1, 0, 27), vR (1, 0, 28), vR (1, 0, 29), vR (1, 0, 30), vR (1, 0, 31), vR (1, 0, 32), vI v15, vN, vI v17, vN, vN, vN, vN, vN, vN, vN, vN, vN, vN, vN, vN, vN, vN, vN] [] μ1))) : WS G eL_law (d + 1) Z Q 1708 [vR (13, 0, 0), vR (8, 0, 0), vR (1, 0, 20), vR (1, 0, 21), vR (1, 0, 22), vR (1, 0, 23), vR (1, 0, 24), vR (1, 0, 25), vR (1, 0, 26), vR (1, 0, 27), vR (1, 0, 28), vR (1, 0, 29), vR (1, 0, 30), vR (1, 0, 31), vR (1, 0, 32), vI v15, vN, vI v17, vN, vN, vN, vN, vN, vN, vN, vN, vN, vN, vN, vN, vN, vN, vN] [] μ := WS.go okL_law 880 h
set_option maxRecDepth 100000 in
set_option maxHeartbeats 4000000 in
theorem wL_law_1735 {G : xG} {d : Nat} {Z : xZ} {v15 : Int32} {v17 : Int32} {μ : xM} {Q : xP} (h : ¬ (3 : Int32) = (0 : Int32) ∧ xif ((v15 - v15 / (3 : Int32) * (3 : Int32)) = (2 : Int32)) (vp_in (1 : Int32) 3 ∧ xif ((μ (1, 0, 32) (1 : Int32).toNatClampNeg) ≤ 0) (WS G eL_law (d + 1) Z Q 1795 [vR (13, 0, 0), vR (8, 0, 0), vR (1, 0, 20), vR (1, 0, 21), vR (1, 0, 22), vR (1, 0, 23), vR (1, 0, 24), vR (1, 0, 25), vR (1, 0, 26), vR (1, 0, 27), vR (1, 0, 28), vR (1, 0, 29), vR (1, 0, 30), vR (1, 0, 31), vR (1, 0, 32), vI v15, vN, vN, vN, vN, vN, vN, vN, vN, vN, vN, vN, vN, vN, vN, vN, vN, vN] [] μ) (WS G eL_law (d + 1) Z Q 1750 [vR (13, 0, 0), vR (8, 0, 0), vR (1, 0, 20), vR (1, 0, 21), vR (1, 0, 22), vR (1, 0, 23), vR (1, 0, 24), vR (1, 0, 25), vR (1, 0, 26), vR (1, 0, 27), vR (1, 0, 28), vR (1, 0, 29), vR (1, 0, 30), vR (1, 0, 31), vR (1, 0, 32), vI v15, vN, vI v17, vN, vN, vN, vN, vN, vN, vN, vN, vN, vN, vN, vN, vN, vN, vN] [] μ)) (WS G eL_law (d + 1) Z Q 1795 [vR (13, 0, 0), vR (8, 0, 0), vR (1, 0, 20), vR (1, 0, 21), vR (1, 0, 22), vR (1, 0, 23), vR (1, 0, 24), vR (1, 0, 25), vR (1, 0, 26), vR (1, 0, 27), vR (1, 0, 28), vR (1, 0, 29), vR (1, 0, 30), vR (1, 0, 31), vR (1, 0, 32), vI v15, vN, vN, vN, vN, vN, vN, vN, vN, vN, vN, vN, vN, vN, vN, vN, vN, vN] [] μ)) : WS G eL_law (d + 1) Z Q 1735 [vR (13, 0, 0), vR (8, 0, 0), vR (1, 0, 20), vR (1, 0, 21), vR (1, 0, 22), vR (1, 0, 23), vR (1, 0, 24), vR (1, 0, 25), vR (1, 0, 26), vR (1, 0, 27), vR (1, 0, 28), vR (1, 0, 29), vR (1, 0, 30), vR (1, 0, 31), vR (1, 0, 32), vI v15, vN, vI v17, vN, vN, vN, vN, vN, vN, vN, vN, vN, vN, vN, vN, vN, vN, vN] [] μ := WS.go okL_law 880 h
set_option maxRecDepth 100000 in
set_option maxHeartbeats 4000000 in
theorem wL_law_1750 {G : xG} {d : Nat} {Z : xZ} {v15 : Int32} {v17 : Int32} {μ : xM} {Q : xP} (h : vp_in (0 : Int32) 3 ∧ MW G d mL_low [vI (v17 >>> ((10 : Int32) &&& 31)), vI (μ (1, 0, 32) (0 : Int32).toNatClampNeg)] μ (xrI fun x2 μ1 => vp_in (1 : Int32) 3 ∧ MW G d mL_follows [vR (8, 0, 0), vR (1, 0, 20), vR (1, 0, 21), vR (1, 0, 22), vR (1, 0, 23), vR (1, 0, 24), vR (1, 0, 28), vR (1, 0, 29), vR (1, 0, 30), vR (1, 0, 31), vR (1, 0, 32), vI x2, vI ((μ1 (1, 0, 32) (1 : Int32).toNatClampNeg) - (1 : Int32))] μ1 (xrI fun x4 μ3 => xif (x4 = 0) (WS G eL_law (d + 1) Z Q 1794 [vN, vN, vN, vN, vN, vN, vN, vN, vN, vN, vN, vN, vN, vN, vN, vN, vN, vN, vN, vN, vN, vN, vN, vN, vN, vN, vN, vN, vN, vN, vN, vN, vN] [vI (0 : Int32)] μ3) (WS G eL_law (d + 1) Z Q 1795 [vR (13, 0, 0), vR (8, 0, 0), vR (1, 0, 20), vR (1, 0, 21), vR (1, 0, 22), vR (1, 0, 23), vR (1, 0, 24), vR (1, 0, 25), vR (1, 0, 26), vR (1, 0, 27), vR (1, 0, 28), vR (1, 0, 29), vR (1, 0, 30), vR (1, 0, 31), vR (1, 0, 32), vI v15, vN, vN, vN, vN, vN, vN, vN, vN, vN, vN, vN, vN, vN, vN, vN, vN, vN] [] μ3)))) : WS G eL_law (d + 1) Z Q 1750 [vR (13, 0, 0), vR (8, 0, 0), vR (1, 0, 20), vR (1, 0, 21), vR (1, 0, 22), vR (1, 0, 23), vR (1, 0, 24), vR (1, 0, 25), vR (1, 0, 26), vR (1, 0, 27), vR (1, 0, 28), vR (1, 0, 29), vR (1, 0, 30), vR (1, 0, 31), vR (1, 0, 32), vI v15, vN, vI v17, vN, vN, vN, vN, vN, vN, vN, vN, vN, vN, vN, vN, vN, vN, vN] [] μ := WS.go okL_law 880 h
set_option maxRecDepth 100000 in
set_option maxHeartbeats 4000000 in
theorem wL_law_1795 {G : xG} {d : Nat} {Z : xZ} {v15 : Int32} {μ : xM} {Q : xP} (h : WS G eL_law (d + 1) Z Q 86 [vR (13, 0, 0), vR (8, 0, 0), vR (1, 0, 20), vR (1, 0, 21), vR (1, 0, 22), vR (1, 0, 23), vR (1, 0, 24), vR (1, 0, 25), vR (1, 0, 26), vR (1, 0, 27), vR (1, 0, 28), vR (1, 0, 29), vR (1, 0, 30), vR (1, 0, 31), vR (1, 0, 32), vI (v15 + (1 : Int32)), vN, vN, vN, vN, vN, vN, vN, vN, vN, vN, vN, vN, vN, vN, vN, vN, vN] [] μ) : WS G eL_law (d + 1) Z Q 1795 [vR (13, 0, 0), vR (8, 0, 0), vR (1, 0, 20), vR (1, 0, 21), vR (1, 0, 22), vR (1, 0, 23), vR (1, 0, 24), vR (1, 0, 25), vR (1, 0, 26), vR (1, 0, 27), vR (1, 0, 28), vR (1, 0, 29), vR (1, 0, 30), vR (1, 0, 31), vR (1, 0, 32), vI v15, vN, vN, vN, vN, vN, vN, vN, vN, vN, vN, vN, vN, vN, vN, vN, vN, vN] [] μ := WS.go okL_law 880 h
end
