/-! THE METHODS: descriptors, the classes' tables, instructions; each is held against the bytecode-/
theorem xw {w : Cond} (i : Nat) (h : lw_tbl[i]? = some w) (g : goodWord w = true) : xin w := ⟨List.mem_of_getElem? h, g⟩
theorem xfn {α : Type} {P : α → Prop} : ∀ x ∈ ([] : List α), P x := fun x h => absurd h List.not_mem_nil
theorem xfc {α : Type} {P : α → Prop} {a : α} {l : List α} (h : P a) (k : ∀ x ∈ l, P x) : ∀ x ∈ a :: l, P x := List.forall_mem_cons.mpr ⟨h, k⟩
def xdF (D : xD) : Prop := xin (Cond.code D.1 D.2.1 D.2.2.1 D.2.2.2.1) ∧ xin (Cond.initialized D.1.cls) ∧ D.1.cls ≠ "java/lang/invoke/MethodHandle" ∧ D.1.cls ≠ "java/lang/invoke/VarHandle" ∧ (parseMethodDescriptor D.1.desc).map (fun d => d.parameters.length) = some D.2.2.2.2 ∧ D.2.2.1 ≤ 21
def mX0_add : xD := (yX0_add, cX0_add, 2, none, 1)
def mX0_firstError : xD := (yX0_firstError, cX0_firstError, 4, some .int, 0)
def mX0_beginsPart : xD := (yX0_beginsPart, cX0_beginsPart, 2, some .boolean, 1)
def mX0_continuesPart : xD := (yX0_continuesPart, cX0_continuesPart, 2, some .boolean, 1)
def mX1_build : xD := (yX1_build, cX1_build, 6, some .int, 2)
def mX1_push : xD := (yX1_push, cX1_push, 2, none, 1)
def mX1_makeAtEnd : xD := (yX1_makeAtEnd, cX1_makeAtEnd, 4, some .int, 3)
def mX1_negate : xD := (yX1_negate, cX1_negate, 4, some .int, 2)
def mX2_copyFrom : xD := (yX2_copyFrom, cX2_copyFrom, 2, none, 1)
def mX2_has : xD := (yX2_has, cX2_has, 2, some .boolean, 1)
def mX2_isOfKind : xD := (yX2_isOfKind, cX2_isOfKind, 3, some .boolean, 2)
def mX2_isPartOfDisjunction : xD := (yX2_isPartOfDisjunction, cX2_isPartOfDisjunction, 3, some .boolean, 2)
def mX2_takenOut : xD := (yX2_takenOut, cX2_takenOut, 4, some .int, 2)
def mX2_find : xD := (yX2_find, cX2_find, 5, some .int, 3)
def mX2_hasRoomFor : xD := (yX2_hasRoomFor, cX2_hasRoomFor, 4, some .boolean, 3)
def mX2_make : xD := (yX2_make, cX2_make, 5, some .int, 3)
def mX2_measure : xD := (yX2_measure, cX2_measure, 4, none, 1)
def mX2_codeAt : xD := (yX2_codeAt, cX2_codeAt, 8, some .int, 3)
def mX2_firstCode : xD := (yX2_firstCode, cX2_firstCode, 2, some .int, 1)
def mX2_evaluate : xD := (yX2_evaluate, cX2_evaluate, 4, none, 2)
def mX2_truthOf : xD := (yX2_truthOf, cX2_truthOf, 6, some .int, 3)
def mX2_truthOfAtom : xD := (yX2_truthOfAtom, cX2_truthOfAtom, 2, some .int, 2)
def mX3_at : xD := (yX3_at, cX3_at, 2, some (.object "BoxedProofs$State"), 1)
def mX3_record : xD := (yX3_record, cX3_record, 3, none, 1)
def mX3_takeBack : xD := (yX3_takeBack, cX3_takeBack, 4, none, 1)
def mX4_copyFrom : xD := (yX4_copyFrom, cX4_copyFrom, 2, none, 1)
def mX4_hasLine : xD := (yX4_hasLine, cX4_hasLine, 2, some .boolean, 1)
def mX4_hasBox : xD := (yX4_hasBox, cX4_hasBox, 2, some .boolean, 1)
def mX4_isFull : xD := (yX4_isFull, cX4_isFull, 1, some .boolean, 0)
def mX4_addLine : xD := (yX4_addLine, cX4_addLine, 7, some .int, 5)
def mX4_openBox : xD := (yX4_openBox, cX4_openBox, 3, some .int, 1)
def mX4_canCloseBox : xD := (yX4_canCloseBox, cX4_canCloseBox, 1, some .boolean, 0)
def mX4_closeBox : xD := (yX4_closeBox, cX4_closeBox, 2, some .int, 0)
def mX4_isNoneOrOpen : xD := (yX4_isNoneOrOpen, cX4_isNoneOrOpen, 2, some .boolean, 1)
def mX4_isLineAvailable : xD := (yX4_isLineAvailable, cX4_isLineAvailable, 2, some .boolean, 1)
def mX4_isBoxAvailable : xD := (yX4_isBoxAvailable, cX4_isBoxAvailable, 2, some .boolean, 1)
def mX4_assumptionOf : xD := (yX4_assumptionOf, cX4_assumptionOf, 2, some .int, 1)
def mX4_conclusionOf : xD := (yX4_conclusionOf, cX4_conclusionOf, 2, some .int, 1)
def mX4_nesting : xD := (yX4_nesting, cX4_nesting, 4, some .int, 1)
def mX4_referenceAt : xD := (yX4_referenceAt, cX4_referenceAt, 3, some .int, 2)
def mX4_countLineReferences : xD := (yX4_countLineReferences, cX4_countLineReferences, 2, some .int, 1)
def mX4_bit : xD := (yX4_bit, cX4_bit, 1, some .long, 1)
def mX4_contains : xD := (yX4_contains, cX4_contains, 3, some .boolean, 2)
def mX4_directNeeds : xD := (yX4_directNeeds, cX4_directNeeds, 7, some .long, 1)
def mX4_countUsers : xD := (yX4_countUsers, cX4_countUsers, 4, some .int, 1)
def mX4_assumptionsFrom : xD := (yX4_assumptionsFrom, cX4_assumptionsFrom, 6, some .long, 1)
def mX4_allNeeds : xD := (yX4_allNeeds, cX4_allNeeds, 5, some .long, 1)
def mX4_bypassOf : xD := (yX4_bypassOf, cX4_bypassOf, 4, some .int, 1)
def mX4_countDetours : xD := (yX4_countDetours, cX4_countDetours, 3, some .int, 0)
def mX4_bypassDetours : xD := (yX4_bypassDetours, cX4_bypassDetours, 4, some .int, 0)
def mX4_bypassIn : xD := (yX4_bypassIn, cX4_bypassIn, 6, some .int, 2)
def mX4_allowedValuations : xD := (yX4_allowedValuations, cX4_allowedValuations, 7, some .int, 2)
def mX4_keepOnly : xD := (yX4_keepOnly, cX4_keepOnly, 8, some .int, 1)
def mX4_renumbered : xD := (yX4_renumbered, cX4_renumbered, 3, some .int, 2)
def mX4_moveLine : xD := (yX4_moveLine, cX4_moveLine, 8, none, 4)
def mX4_keepBoxes : xD := (yX4_keepBoxes, cX4_keepBoxes, 7, some .long, 1)
def mX4_findEnds : xD := (yX4_findEnds, cX4_findEnds, 4, none, 0)
def mX5_get : xD := (yX5_get, cX5_get, 2, some .int, 1)
def mX5_set : xD := (yX5_set, cX5_set, 3, none, 2)
def mX5_copyFrom : xD := (yX5_copyFrom, cX5_copyFrom, 3, none, 1)
def mX6_ofKind : xD := (yX6_ofKind, cX6_ofKind, 1, some .int, 1)
def mX6_kindOf : xD := (yX6_kindOf, cX6_kindOf, 1, some .int, 1)
def mX7_copyFrom : xD := (yX7_copyFrom, cX7_copyFrom, 2, none, 1)
def mX8_atom : xD := (yX8_atom, cX8_atom, 2, some .int, 1)
def mX8_falsum : xD := (yX8_falsum, cX8_falsum, 1, some .int, 0)
def mX8_not : xD := (yX8_not, cX8_not, 2, some .int, 1)
def mX8_pair : xD := (yX8_pair, cX8_pair, 4, some .int, 3)
def mX8_makeFormula : xD := (yX8_makeFormula, cX8_makeFormula, 4, some .int, 3)
def mX8_formulas : xD := (yX8_formulas, cX8_formulas, 1, some .int, 0)
def mX8_part : xD := (yX8_part, cX8_part, 3, some .int, 2)
def mX8_length : xD := (yX8_length, cX8_length, 2, some .int, 1)
def mX8_character : xD := (yX8_character, cX8_character, 3, some .int, 2)
def mX8_isTrue : xD := (yX8_isTrue, cX8_isTrue, 3, some .int, 2)
def mX8_premise : xD := (yX8_premise, cX8_premise, 2, some .int, 1)
def mX8_open : xD := (yX8_open, cX8_open, 2, some .int, 1)
def mX8_close : xD := (yX8_close, cX8_close, 1, some .int, 0)
def mX8_repeat : xD := (yX8_repeat, cX8_repeat, 2, some .int, 1)
def mX8_fromTwo : xD := (yX8_fromTwo, cX8_fromTwo, 7, some .int, 3)
def mX8_fromOne : xD := (yX8_fromOne, cX8_fromOne, 4, some .int, 2)
def mX8_toFormula : xD := (yX8_toFormula, cX8_toFormula, 6, some .int, 3)
def mX8_fromBox : xD := (yX8_fromBox, cX8_fromBox, 5, some .int, 2)
def mX8_cases : xD := (yX8_cases, cX8_cases, 7, some .int, 3)
def mX8_write : xD := (yX8_write, cX8_write, 6, some .int, 5)
def mX8_writeMade : xD := (yX8_writeMade, cX8_writeMade, 8, some .int, 6)
def mX8_lines : xD := (yX8_lines, cX8_lines, 1, some .int, 0)
def mX8_line : xD := (yX8_line, cX8_line, 3, some .int, 2)
def mX8_reference : xD := (yX8_reference, cX8_reference, 4, some .int, 2)
def mX8_boxes : xD := (yX8_boxes, cX8_boxes, 1, some .int, 0)
def mX8_box : xD := (yX8_box, cX8_box, 3, some .int, 2)
def mX8_depth : xD := (yX8_depth, cX8_depth, 1, some .int, 0)
def mX8_needs : xD := (yX8_needs, cX8_needs, 2, some .long, 1)
def mX8_bypass : xD := (yX8_bypass, cX8_bypass, 2, some .int, 1)
def mX8_detours : xD := (yX8_detours, cX8_detours, 1, some .int, 0)
def mX8_failure : xD := (yX8_failure, cX8_failure, 2, some .int, 1)
def mX8_counterexample : xD := (yX8_counterexample, cX8_counterexample, 2, some .int, 1)
def mX8_lowestFailure : xD := (yX8_lowestFailure, cX8_lowestFailure, 5, some .int, 2)
def mX8_lowestBit : xD := (yX8_lowestBit, cX8_lowestBit, 1, some .int, 1)
def mX8_shorten : xD := (yX8_shorten, cX8_shorten, 1, some .int, 0)
def mX8_trim : xD := (yX8_trim, cX8_trim, 2, some .int, 1)
def mX8_append : xD := (yX8_append, cX8_append, 2, some .int, 1)
def mX8_clearText : xD := (yX8_clearText, cX8_clearText, 2, some .int, 0)
def mX8_errorPosition : xD := (yX8_errorPosition, cX8_errorPosition, 1, some .int, 0)
def mX8_read : xD := (yX8_read, cX8_read, 2, some .int, 0)
def mX8_undo : xD := (yX8_undo, cX8_undo, 1, some .int, 0)
def mX8_save : xD := (yX8_save, cX8_save, 1, some .int, 0)
def mX8_restore : xD := (yX8_restore, cX8_restore, 1, some .int, 0)
def mX9_in : xD := (yX9_in, cX9_in, 3, some .boolean, 3)
def mX9_record : xD := (yX9_record, cX9_record, 2, none, 0)
def mX9_undo : xD := (yX9_undo, cX9_undo, 2, some .int, 0)
def mX9_save : xD := (yX9_save, cX9_save, 2, some .int, 0)
def mX9_restore : xD := (yX9_restore, cX9_restore, 2, some .int, 0)
def mX9_isFormula : xD := (yX9_isFormula, cX9_isFormula, 2, some .boolean, 1)
def mX9_kind : xD := (yX9_kind, cX9_kind, 2, some .int, 1)
def mX9_left : xD := (yX9_left, cX9_left, 2, some .int, 1)
def mX9_right : xD := (yX9_right, cX9_right, 2, some .int, 1)
def mX9_find : xD := (yX9_find, cX9_find, 5, some .int, 3)
def mX9_hasRoom : xD := (yX9_hasRoom, cX9_hasRoom, 4, some .boolean, 3)
def mX9_make : xD := (yX9_make, cX9_make, 6, some .int, 3)
def mX9_makeOne : xD := (yX9_makeOne, cX9_makeOne, 4, some .int, 3)
def mX9_atom : xD := (yX9_atom, cX9_atom, 2, some .int, 1)
def mX9_falsum : xD := (yX9_falsum, cX9_falsum, 1, some .int, 0)
def mX9_not : xD := (yX9_not, cX9_not, 2, some .int, 1)
def mX9_pair : xD := (yX9_pair, cX9_pair, 4, some .int, 3)
def mX9_formulas : xD := (yX9_formulas, cX9_formulas, 1, some .int, 0)
def mX9_part : xD := (yX9_part, cX9_part, 3, some .int, 2)
def mX9_measure : xD := (yX9_measure, cX9_measure, 3, none, 0)
def mX9_length : xD := (yX9_length, cX9_length, 2, some .int, 1)
def mX9_character : xD := (yX9_character, cX9_character, 5, some .int, 2)
def mX9_evaluate : xD := (yX9_evaluate, cX9_evaluate, 5, none, 1)
def mX9_isTrue : xD := (yX9_isTrue, cX9_isTrue, 3, some .int, 2)
def mX9_isLine : xD := (yX9_isLine, cX9_isLine, 2, some .boolean, 1)
def mX9_isBox : xD := (yX9_isBox, cX9_isBox, 2, some .boolean, 1)
def mX9_formulaOf : xD := (yX9_formulaOf, cX9_formulaOf, 2, some .int, 1)
def mX9_ruleOf : xD := (yX9_ruleOf, cX9_ruleOf, 2, some .int, 1)
def mX9_refOf : xD := (yX9_refOf, cX9_refOf, 3, some .int, 2)
def mX9_boxOf : xD := (yX9_boxOf, cX9_boxOf, 2, some .int, 1)
def mX9_opens : xD := (yX9_opens, cX9_opens, 2, some .int, 1)
def mX9_ends : xD := (yX9_ends, cX9_ends, 2, some .int, 1)
def mX9_parent : xD := (yX9_parent, cX9_parent, 2, some .int, 1)
def mX9_latest : xD := (yX9_latest, cX9_latest, 3, some .int, 0)
def mX9_openBoxes : xD := (yX9_openBoxes, cX9_openBoxes, 3, some .int, 0)
def mX9_isShut : xD := (yX9_isShut, cX9_isShut, 4, some .boolean, 1)
def mX9_isAvailable : xD := (yX9_isAvailable, cX9_isAvailable, 2, some .boolean, 1)
def mX9_isBoxAvailable : xD := (yX9_isBoxAvailable, cX9_isBoxAvailable, 2, some .boolean, 1)
def mX9_liesIn : xD := (yX9_liesIn, cX9_liesIn, 4, some .boolean, 2)
def mX9_depthOf : xD := (yX9_depthOf, cX9_depthOf, 4, some .int, 1)
def mX9_write : xD := (yX9_write, cX9_write, 7, some .int, 5)
def mX9_isFull : xD := (yX9_isFull, cX9_isFull, 1, some .boolean, 0)
def mX9_writeOld : xD := (yX9_writeOld, cX9_writeOld, 6, some .int, 5)
def mX9_writeNew : xD := (yX9_writeNew, cX9_writeNew, 7, some .int, 6)
def mX9_premise : xD := (yX9_premise, cX9_premise, 2, some .int, 1)
def mX9_open : xD := (yX9_open, cX9_open, 4, some .int, 1)
def mX9_close : xD := (yX9_close, cX9_close, 2, some .int, 0)
def mX9_repeat : xD := (yX9_repeat, cX9_repeat, 2, some .int, 1)
def mX9_fromTwo : xD := (yX9_fromTwo, cX9_fromTwo, 6, some .int, 3)
def mX9_fromOne : xD := (yX9_fromOne, cX9_fromOne, 5, some .int, 2)
def mX9_toFormula : xD := (yX9_toFormula, cX9_toFormula, 6, some .int, 3)
def mX9_fromBox : xD := (yX9_fromBox, cX9_fromBox, 5, some .int, 2)
def mX9_cases : xD := (yX9_cases, cX9_cases, 6, some .int, 3)
def mX9_lines : xD := (yX9_lines, cX9_lines, 1, some .int, 0)
def mX9_isToBox : xD := (yX9_isToBox, cX9_isToBox, 4, some .boolean, 2)
def mX9_direct : xD := (yX9_direct, cX9_direct, 6, some .long, 1)
def mX9_neededBy : xD := (yX9_neededBy, cX9_neededBy, 4, some .int, 1)
def mX9_line : xD := (yX9_line, cX9_line, 3, some .int, 2)
def mX9_reference : xD := (yX9_reference, cX9_reference, 3, some .int, 2)
def mX9_boxes : xD := (yX9_boxes, cX9_boxes, 1, some .int, 0)
def mX9_box : xD := (yX9_box, cX9_box, 3, some .int, 2)
def mX9_depth : xD := (yX9_depth, cX9_depth, 1, some .int, 0)
def mX9_assumed : xD := (yX9_assumed, cX9_assumed, 5, some .long, 1)
def mX9_needed : xD := (yX9_needed, cX9_needed, 5, some .long, 1)
def mX9_needs : xD := (yX9_needs, cX9_needs, 2, some .long, 1)
def mX9_bypassOf : xD := (yX9_bypassOf, cX9_bypassOf, 4, some .int, 1)
def mX9_bypass : xD := (yX9_bypass, cX9_bypass, 2, some .int, 1)
def mX9_detours : xD := (yX9_detours, cX9_detours, 3, some .int, 0)
def mX9_areTrue : xD := (yX9_areTrue, cX9_areTrue, 5, some .boolean, 1)
def mX9_premises : xD := (yX9_premises, cX9_premises, 4, some .long, 0)
def mX9_fails : xD := (yX9_fails, cX9_fails, 5, some .int, 2)
def mX9_failure : xD := (yX9_failure, cX9_failure, 2, some .int, 1)
def mX9_counterexample : xD := (yX9_counterexample, cX9_counterexample, 5, some .int, 1)
def mX9_shorten : xD := (yX9_shorten, cX9_shorten, 6, some .int, 0)
def mX9_renamed : xD := (yX9_renamed, cX9_renamed, 4, some .int, 2)
def mX9_lastIn : xD := (yX9_lastIn, cX9_lastIn, 6, some .int, 2)
def mX9_trim : xD := (yX9_trim, cX9_trim, 8, some .int, 1)
def mX9_moveLines : xD := (yX9_moveLines, cX9_moveLines, 9, none, 1)
def mX9_moveBoxes : xD := (yX9_moveBoxes, cX9_moveBoxes, 6, none, 0)
def mX9_append : xD := (yX9_append, cX9_append, 2, some .int, 1)
def mX9_clearText : xD := (yX9_clearText, cX9_clearText, 2, some .int, 0)
def mX9_makes : xD := (yX9_makes, cX9_makes, 5, some .int, 4)
def mX9_isWhole : xD := (yX9_isWhole, cX9_isWhole, 4, none, 2)
def mX9_signOf : xD := (yX9_signOf, cX9_signOf, 1, some .int, 1)
def mX9_readOne : xD := (yX9_readOne, cX9_readOne, 4, some .boolean, 2)
def mX9_readBuffer : xD := (yX9_readBuffer, cX9_readBuffer, 3, some .int, 1)
def mX9_errorPosition : xD := (yX9_errorPosition, cX9_errorPosition, 1, some .int, 0)
def mX9_read : xD := (yX9_read, cX9_read, 3, some .int, 0)
def mJ6_bitCount_0f7a4 : xD := (yJ6_bitCount_0f7a4, cJ6_bitCount_0f7a4, 1, some .int, 1)
def mJ13_bitCount_95d88 : xD := (yJ13_bitCount_95d88, cJ13_bitCount_95d88, 2, some .int, 1)
theorem xdX0_add : xdF mX0_add := ⟨xw 689 (by decide +kernel) (by decide +kernel), xw 77 (by decide +kernel) (by decide +kernel), by decide, by decide, (by decide +kernel), by decide⟩
theorem xdX0_firstError : xdF mX0_firstError := ⟨xw 702 (by decide +kernel) (by decide +kernel), xw 77 (by decide +kernel) (by decide +kernel), by decide, by decide, (by decide +kernel), by decide⟩
theorem xdX0_beginsPart : xdF mX0_beginsPart := ⟨xw 714 (by decide +kernel) (by decide +kernel), xw 77 (by decide +kernel) (by decide +kernel), by decide, by decide, (by decide +kernel), by decide⟩
theorem xdX0_continuesPart : xdF mX0_continuesPart := ⟨xw 707 (by decide +kernel) (by decide +kernel), xw 77 (by decide +kernel) (by decide +kernel), by decide, by decide, (by decide +kernel), by decide⟩
theorem xdX1_build : xdF mX1_build := ⟨xw 723 (by decide +kernel) (by decide +kernel), xw 78 (by decide +kernel) (by decide +kernel), by decide, by decide, (by decide +kernel), by decide⟩
theorem xdX1_push : xdF mX1_push := ⟨xw 728 (by decide +kernel) (by decide +kernel), xw 78 (by decide +kernel) (by decide +kernel), by decide, by decide, (by decide +kernel), by decide⟩
theorem xdX1_makeAtEnd : xdF mX1_makeAtEnd := ⟨xw 734 (by decide +kernel) (by decide +kernel), xw 78 (by decide +kernel) (by decide +kernel), by decide, by decide, (by decide +kernel), by decide⟩
theorem xdX1_negate : xdF mX1_negate := ⟨xw 739 (by decide +kernel) (by decide +kernel), xw 78 (by decide +kernel) (by decide +kernel), by decide, by decide, (by decide +kernel), by decide⟩
theorem xdX2_copyFrom : xdF mX2_copyFrom := ⟨xw 330 (by decide +kernel) (by decide +kernel), xw 72 (by decide +kernel) (by decide +kernel), by decide, by decide, (by decide +kernel), by decide⟩
theorem xdX2_has : xdF mX2_has := ⟨xw 366 (by decide +kernel) (by decide +kernel), xw 72 (by decide +kernel) (by decide +kernel), by decide, by decide, (by decide +kernel), by decide⟩
theorem xdX2_isOfKind : xdF mX2_isOfKind := ⟨xw 503 (by decide +kernel) (by decide +kernel), xw 72 (by decide +kernel) (by decide +kernel), by decide, by decide, (by decide +kernel), by decide⟩
theorem xdX2_isPartOfDisjunction : xdF mX2_isPartOfDisjunction := ⟨xw 520 (by decide +kernel) (by decide +kernel), xw 72 (by decide +kernel) (by decide +kernel), by decide, by decide, (by decide +kernel), by decide⟩
theorem xdX2_takenOut : xdF mX2_takenOut := ⟨xw 511 (by decide +kernel) (by decide +kernel), xw 72 (by decide +kernel) (by decide +kernel), by decide, by decide, (by decide +kernel), by decide⟩
theorem xdX2_find : xdF mX2_find := ⟨xw 310 (by decide +kernel) (by decide +kernel), xw 72 (by decide +kernel) (by decide +kernel), by decide, by decide, (by decide +kernel), by decide⟩
theorem xdX2_hasRoomFor : xdF mX2_hasRoomFor := ⟨xw 306 (by decide +kernel) (by decide +kernel), xw 72 (by decide +kernel) (by decide +kernel), by decide, by decide, (by decide +kernel), by decide⟩
theorem xdX2_make : xdF mX2_make := ⟨xw 350 (by decide +kernel) (by decide +kernel), xw 72 (by decide +kernel) (by decide +kernel), by decide, by decide, (by decide +kernel), by decide⟩
theorem xdX2_measure : xdF mX2_measure := ⟨xw 387 (by decide +kernel) (by decide +kernel), xw 72 (by decide +kernel) (by decide +kernel), by decide, by decide, (by decide +kernel), by decide⟩
theorem xdX2_codeAt : xdF mX2_codeAt := ⟨xw 397 (by decide +kernel) (by decide +kernel), xw 72 (by decide +kernel) (by decide +kernel), by decide, by decide, (by decide +kernel), by decide⟩
theorem xdX2_firstCode : xdF mX2_firstCode := ⟨xw 401 (by decide +kernel) (by decide +kernel), xw 72 (by decide +kernel) (by decide +kernel), by decide, by decide, (by decide +kernel), by decide⟩
theorem xdX2_evaluate : xdF mX2_evaluate := ⟨xw 412 (by decide +kernel) (by decide +kernel), xw 72 (by decide +kernel) (by decide +kernel), by decide, by decide, (by decide +kernel), by decide⟩
theorem xdX2_truthOf : xdF mX2_truthOf := ⟨xw 416 (by decide +kernel) (by decide +kernel), xw 72 (by decide +kernel) (by decide +kernel), by decide, by decide, (by decide +kernel), by decide⟩
theorem xdX2_truthOfAtom : xdF mX2_truthOfAtom := ⟨xw 419 (by decide +kernel) (by decide +kernel), xw 72 (by decide +kernel) (by decide +kernel), by decide, by decide, (by decide +kernel), by decide⟩
theorem xdX3_at : xdF mX3_at := ⟨xw 322 (by decide +kernel) (by decide +kernel), xw 76 (by decide +kernel) (by decide +kernel), by decide, by decide, (by decide +kernel), by decide⟩
theorem xdX3_record : xdF mX3_record := ⟨xw 318 (by decide +kernel) (by decide +kernel), xw 76 (by decide +kernel) (by decide +kernel), by decide, by decide, (by decide +kernel), by decide⟩
theorem xdX3_takeBack : xdF mX3_takeBack := ⟨xw 747 (by decide +kernel) (by decide +kernel), xw 76 (by decide +kernel) (by decide +kernel), by decide, by decide, (by decide +kernel), by decide⟩
theorem xdX4_copyFrom : xdF mX4_copyFrom := ⟨xw 344 (by decide +kernel) (by decide +kernel), xw 75 (by decide +kernel) (by decide +kernel), by decide, by decide, (by decide +kernel), by decide⟩
theorem xdX4_hasLine : xdF mX4_hasLine := ⟨xw 483 (by decide +kernel) (by decide +kernel), xw 75 (by decide +kernel) (by decide +kernel), by decide, by decide, (by decide +kernel), by decide⟩
theorem xdX4_hasBox : xdF mX4_hasBox := ⟨xw 457 (by decide +kernel) (by decide +kernel), xw 75 (by decide +kernel) (by decide +kernel), by decide, by decide, (by decide +kernel), by decide⟩
theorem xdX4_isFull : xdF mX4_isFull := ⟨xw 436 (by decide +kernel) (by decide +kernel), xw 75 (by decide +kernel) (by decide +kernel), by decide, by decide, (by decide +kernel), by decide⟩
theorem xdX4_addLine : xdF mX4_addLine := ⟨xw 440 (by decide +kernel) (by decide +kernel), xw 75 (by decide +kernel) (by decide +kernel), by decide, by decide, (by decide +kernel), by decide⟩
theorem xdX4_openBox : xdF mX4_openBox := ⟨xw 462 (by decide +kernel) (by decide +kernel), xw 75 (by decide +kernel) (by decide +kernel), by decide, by decide, (by decide +kernel), by decide⟩
theorem xdX4_canCloseBox : xdF mX4_canCloseBox := ⟨xw 471 (by decide +kernel) (by decide +kernel), xw 75 (by decide +kernel) (by decide +kernel), by decide, by decide, (by decide +kernel), by decide⟩
theorem xdX4_closeBox : xdF mX4_closeBox := ⟨xw 475 (by decide +kernel) (by decide +kernel), xw 75 (by decide +kernel) (by decide +kernel), by decide, by decide, (by decide +kernel), by decide⟩
theorem xdX4_isNoneOrOpen : xdF mX4_isNoneOrOpen := ⟨xw 491 (by decide +kernel) (by decide +kernel), xw 75 (by decide +kernel) (by decide +kernel), by decide, by decide, (by decide +kernel), by decide⟩
theorem xdX4_isLineAvailable : xdF mX4_isLineAvailable := ⟨xw 487 (by decide +kernel) (by decide +kernel), xw 75 (by decide +kernel) (by decide +kernel), by decide, by decide, (by decide +kernel), by decide⟩
theorem xdX4_isBoxAvailable : xdF mX4_isBoxAvailable := ⟨xw 529 (by decide +kernel) (by decide +kernel), xw 75 (by decide +kernel) (by decide +kernel), by decide, by decide, (by decide +kernel), by decide⟩
theorem xdX4_assumptionOf : xdF mX4_assumptionOf := ⟨xw 533 (by decide +kernel) (by decide +kernel), xw 75 (by decide +kernel) (by decide +kernel), by decide, by decide, (by decide +kernel), by decide⟩
theorem xdX4_conclusionOf : xdF mX4_conclusionOf := ⟨xw 537 (by decide +kernel) (by decide +kernel), xw 75 (by decide +kernel) (by decide +kernel), by decide, by decide, (by decide +kernel), by decide⟩
theorem xdX4_nesting : xdF mX4_nesting := ⟨xw 453 (by decide +kernel) (by decide +kernel), xw 75 (by decide +kernel) (by decide +kernel), by decide, by decide, (by decide +kernel), by decide⟩
theorem xdX4_referenceAt : xdF mX4_referenceAt := ⟨xw 565 (by decide +kernel) (by decide +kernel), xw 75 (by decide +kernel) (by decide +kernel), by decide, by decide, (by decide +kernel), by decide⟩
theorem xdX4_countLineReferences : xdF mX4_countLineReferences := ⟨xw 561 (by decide +kernel) (by decide +kernel), xw 75 (by decide +kernel) (by decide +kernel), by decide, by decide, (by decide +kernel), by decide⟩
theorem xdX4_bit : xdF mX4_bit := ⟨xw 568 (by decide +kernel) (by decide +kernel), xw 75 (by decide +kernel) (by decide +kernel), by decide, by decide, (by decide +kernel), by decide⟩
theorem xdX4_contains : xdF mX4_contains := ⟨xw 571 (by decide +kernel) (by decide +kernel), xw 75 (by decide +kernel) (by decide +kernel), by decide, by decide, (by decide +kernel), by decide⟩
theorem xdX4_directNeeds : xdF mX4_directNeeds := ⟨xw 557 (by decide +kernel) (by decide +kernel), xw 75 (by decide +kernel) (by decide +kernel), by decide, by decide, (by decide +kernel), by decide⟩
theorem xdX4_countUsers : xdF mX4_countUsers := ⟨xw 553 (by decide +kernel) (by decide +kernel), xw 75 (by decide +kernel) (by decide +kernel), by decide, by decide, (by decide +kernel), by decide⟩
theorem xdX4_assumptionsFrom : xdF mX4_assumptionsFrom := ⟨xw 598 (by decide +kernel) (by decide +kernel), xw 75 (by decide +kernel) (by decide +kernel), by decide, by decide, (by decide +kernel), by decide⟩
theorem xdX4_allNeeds : xdF mX4_allNeeds := ⟨xw 594 (by decide +kernel) (by decide +kernel), xw 75 (by decide +kernel) (by decide +kernel), by decide, by decide, (by decide +kernel), by decide⟩
theorem xdX4_bypassOf : xdF mX4_bypassOf := ⟨xw 606 (by decide +kernel) (by decide +kernel), xw 75 (by decide +kernel) (by decide +kernel), by decide, by decide, (by decide +kernel), by decide⟩
theorem xdX4_countDetours : xdF mX4_countDetours := ⟨xw 614 (by decide +kernel) (by decide +kernel), xw 75 (by decide +kernel) (by decide +kernel), by decide, by decide, (by decide +kernel), by decide⟩
theorem xdX4_bypassDetours : xdF mX4_bypassDetours := ⟨xw 648 (by decide +kernel) (by decide +kernel), xw 75 (by decide +kernel) (by decide +kernel), by decide, by decide, (by decide +kernel), by decide⟩
theorem xdX4_bypassIn : xdF mX4_bypassIn := ⟨xw 652 (by decide +kernel) (by decide +kernel), xw 75 (by decide +kernel) (by decide +kernel), by decide, by decide, (by decide +kernel), by decide⟩
theorem xdX4_allowedValuations : xdF mX4_allowedValuations := ⟨xw 627 (by decide +kernel) (by decide +kernel), xw 75 (by decide +kernel) (by decide +kernel), by decide, by decide, (by decide +kernel), by decide⟩
theorem xdX4_keepOnly : xdF mX4_keepOnly := ⟨xw 660 (by decide +kernel) (by decide +kernel), xw 75 (by decide +kernel) (by decide +kernel), by decide, by decide, (by decide +kernel), by decide⟩
theorem xdX4_renumbered : xdF mX4_renumbered := ⟨xw 667 (by decide +kernel) (by decide +kernel), xw 75 (by decide +kernel) (by decide +kernel), by decide, by decide, (by decide +kernel), by decide⟩
theorem xdX4_moveLine : xdF mX4_moveLine := ⟨xw 677 (by decide +kernel) (by decide +kernel), xw 75 (by decide +kernel) (by decide +kernel), by decide, by decide, (by decide +kernel), by decide⟩
theorem xdX4_keepBoxes : xdF mX4_keepBoxes := ⟨xw 664 (by decide +kernel) (by decide +kernel), xw 75 (by decide +kernel) (by decide +kernel), by decide, by decide, (by decide +kernel), by decide⟩
theorem xdX4_findEnds : xdF mX4_findEnds := ⟨xw 681 (by decide +kernel) (by decide +kernel), xw 75 (by decide +kernel) (by decide +kernel), by decide, by decide, (by decide +kernel), by decide⟩
theorem xdX5_get : xdF mX5_get := ⟨xw 314 (by decide +kernel) (by decide +kernel), xw 73 (by decide +kernel) (by decide +kernel), by decide, by decide, (by decide +kernel), by decide⟩
theorem xdX5_set : xdF mX5_set := ⟨xw 354 (by decide +kernel) (by decide +kernel), xw 73 (by decide +kernel) (by decide +kernel), by decide, by decide, (by decide +kernel), by decide⟩
theorem xdX5_copyFrom : xdF mX5_copyFrom := ⟨xw 334 (by decide +kernel) (by decide +kernel), xw 73 (by decide +kernel) (by decide +kernel), by decide, by decide, (by decide +kernel), by decide⟩
theorem xdX6_ofKind : xdF mX6_ofKind := ⟨xw 404 (by decide +kernel) (by decide +kernel), xw 81 (by decide +kernel) (by decide +kernel), by decide, by decide, (by decide +kernel), by decide⟩
theorem xdX6_kindOf : xdF mX6_kindOf := ⟨xw 710 (by decide +kernel) (by decide +kernel), xw 81 (by decide +kernel) (by decide +kernel), by decide, by decide, (by decide +kernel), by decide⟩
theorem xdX7_copyFrom : xdF mX7_copyFrom := ⟨xw 326 (by decide +kernel) (by decide +kernel), xw 71 (by decide +kernel) (by decide +kernel), by decide, by decide, (by decide +kernel), by decide⟩
theorem xdX8_atom : xdF mX8_atom := ⟨xw 298 (by decide +kernel) (by decide +kernel), xw 70 (by decide +kernel) (by decide +kernel), by decide, by decide, (by decide +kernel), by decide⟩
theorem xdX8_falsum : xdF mX8_falsum := ⟨xw 358 (by decide +kernel) (by decide +kernel), xw 70 (by decide +kernel) (by decide +kernel), by decide, by decide, (by decide +kernel), by decide⟩
theorem xdX8_not : xdF mX8_not := ⟨xw 362 (by decide +kernel) (by decide +kernel), xw 70 (by decide +kernel) (by decide +kernel), by decide, by decide, (by decide +kernel), by decide⟩
theorem xdX8_pair : xdF mX8_pair := ⟨xw 370 (by decide +kernel) (by decide +kernel), xw 70 (by decide +kernel) (by decide +kernel), by decide, by decide, (by decide +kernel), by decide⟩
theorem xdX8_makeFormula : xdF mX8_makeFormula := ⟨xw 302 (by decide +kernel) (by decide +kernel), xw 70 (by decide +kernel) (by decide +kernel), by decide, by decide, (by decide +kernel), by decide⟩
theorem xdX8_formulas : xdF mX8_formulas := ⟨xw 374 (by decide +kernel) (by decide +kernel), xw 70 (by decide +kernel) (by decide +kernel), by decide, by decide, (by decide +kernel), by decide⟩
theorem xdX8_part : xdF mX8_part := ⟨xw 378 (by decide +kernel) (by decide +kernel), xw 70 (by decide +kernel) (by decide +kernel), by decide, by decide, (by decide +kernel), by decide⟩
theorem xdX8_length : xdF mX8_length := ⟨xw 383 (by decide +kernel) (by decide +kernel), xw 70 (by decide +kernel) (by decide +kernel), by decide, by decide, (by decide +kernel), by decide⟩
theorem xdX8_character : xdF mX8_character := ⟨xw 393 (by decide +kernel) (by decide +kernel), xw 70 (by decide +kernel) (by decide +kernel), by decide, by decide, (by decide +kernel), by decide⟩
theorem xdX8_isTrue : xdF mX8_isTrue := ⟨xw 408 (by decide +kernel) (by decide +kernel), xw 70 (by decide +kernel) (by decide +kernel), by decide, by decide, (by decide +kernel), by decide⟩
theorem xdX8_premise : xdF mX8_premise := ⟨xw 428 (by decide +kernel) (by decide +kernel), xw 70 (by decide +kernel) (by decide +kernel), by decide, by decide, (by decide +kernel), by decide⟩
theorem xdX8_open : xdF mX8_open := ⟨xw 445 (by decide +kernel) (by decide +kernel), xw 70 (by decide +kernel) (by decide +kernel), by decide, by decide, (by decide +kernel), by decide⟩
theorem xdX8_close : xdF mX8_close := ⟨xw 467 (by decide +kernel) (by decide +kernel), xw 70 (by decide +kernel) (by decide +kernel), by decide, by decide, (by decide +kernel), by decide⟩
theorem xdX8_repeat : xdF mX8_repeat := ⟨xw 479 (by decide +kernel) (by decide +kernel), xw 70 (by decide +kernel) (by decide +kernel), by decide, by decide, (by decide +kernel), by decide⟩
theorem xdX8_fromTwo : xdF mX8_fromTwo := ⟨xw 495 (by decide +kernel) (by decide +kernel), xw 70 (by decide +kernel) (by decide +kernel), by decide, by decide, (by decide +kernel), by decide⟩
theorem xdX8_fromOne : xdF mX8_fromOne := ⟨xw 507 (by decide +kernel) (by decide +kernel), xw 70 (by decide +kernel) (by decide +kernel), by decide, by decide, (by decide +kernel), by decide⟩
theorem xdX8_toFormula : xdF mX8_toFormula := ⟨xw 516 (by decide +kernel) (by decide +kernel), xw 70 (by decide +kernel) (by decide +kernel), by decide, by decide, (by decide +kernel), by decide⟩
theorem xdX8_fromBox : xdF mX8_fromBox := ⟨xw 524 (by decide +kernel) (by decide +kernel), xw 70 (by decide +kernel) (by decide +kernel), by decide, by decide, (by decide +kernel), by decide⟩
theorem xdX8_cases : xdF mX8_cases := ⟨xw 541 (by decide +kernel) (by decide +kernel), xw 70 (by decide +kernel) (by decide +kernel), by decide, by decide, (by decide +kernel), by decide⟩
theorem xdX8_write : xdF mX8_write := ⟨xw 432 (by decide +kernel) (by decide +kernel), xw 70 (by decide +kernel) (by decide +kernel), by decide, by decide, (by decide +kernel), by decide⟩
theorem xdX8_writeMade : xdF mX8_writeMade := ⟨xw 499 (by decide +kernel) (by decide +kernel), xw 70 (by decide +kernel) (by decide +kernel), by decide, by decide, (by decide +kernel), by decide⟩
theorem xdX8_lines : xdF mX8_lines := ⟨xw 545 (by decide +kernel) (by decide +kernel), xw 70 (by decide +kernel) (by decide +kernel), by decide, by decide, (by decide +kernel), by decide⟩
theorem xdX8_line : xdF mX8_line := ⟨xw 549 (by decide +kernel) (by decide +kernel), xw 70 (by decide +kernel) (by decide +kernel), by decide, by decide, (by decide +kernel), by decide⟩
theorem xdX8_reference : xdF mX8_reference := ⟨xw 575 (by decide +kernel) (by decide +kernel), xw 70 (by decide +kernel) (by decide +kernel), by decide, by decide, (by decide +kernel), by decide⟩
theorem xdX8_boxes : xdF mX8_boxes := ⟨xw 580 (by decide +kernel) (by decide +kernel), xw 70 (by decide +kernel) (by decide +kernel), by decide, by decide, (by decide +kernel), by decide⟩
theorem xdX8_box : xdF mX8_box := ⟨xw 584 (by decide +kernel) (by decide +kernel), xw 70 (by decide +kernel) (by decide +kernel), by decide, by decide, (by decide +kernel), by decide⟩
theorem xdX8_depth : xdF mX8_depth := ⟨xw 449 (by decide +kernel) (by decide +kernel), xw 70 (by decide +kernel) (by decide +kernel), by decide, by decide, (by decide +kernel), by decide⟩
theorem xdX8_needs : xdF mX8_needs := ⟨xw 589 (by decide +kernel) (by decide +kernel), xw 70 (by decide +kernel) (by decide +kernel), by decide, by decide, (by decide +kernel), by decide⟩
theorem xdX8_bypass : xdF mX8_bypass := ⟨xw 602 (by decide +kernel) (by decide +kernel), xw 70 (by decide +kernel) (by decide +kernel), by decide, by decide, (by decide +kernel), by decide⟩
theorem xdX8_detours : xdF mX8_detours := ⟨xw 610 (by decide +kernel) (by decide +kernel), xw 70 (by decide +kernel) (by decide +kernel), by decide, by decide, (by decide +kernel), by decide⟩
theorem xdX8_failure : xdF mX8_failure := ⟨xw 619 (by decide +kernel) (by decide +kernel), xw 70 (by decide +kernel) (by decide +kernel), by decide, by decide, (by decide +kernel), by decide⟩
theorem xdX8_counterexample : xdF mX8_counterexample := ⟨xw 640 (by decide +kernel) (by decide +kernel), xw 70 (by decide +kernel) (by decide +kernel), by decide, by decide, (by decide +kernel), by decide⟩
theorem xdX8_lowestFailure : xdF mX8_lowestFailure := ⟨xw 623 (by decide +kernel) (by decide +kernel), xw 70 (by decide +kernel) (by decide +kernel), by decide, by decide, (by decide +kernel), by decide⟩
theorem xdX8_lowestBit : xdF mX8_lowestBit := ⟨xw 630 (by decide +kernel) (by decide +kernel), xw 70 (by decide +kernel) (by decide +kernel), by decide, by decide, (by decide +kernel), by decide⟩
theorem xdX8_shorten : xdF mX8_shorten := ⟨xw 644 (by decide +kernel) (by decide +kernel), xw 70 (by decide +kernel) (by decide +kernel), by decide, by decide, (by decide +kernel), by decide⟩
theorem xdX8_trim : xdF mX8_trim := ⟨xw 656 (by decide +kernel) (by decide +kernel), xw 70 (by decide +kernel) (by decide +kernel), by decide, by decide, (by decide +kernel), by decide⟩
theorem xdX8_append : xdF mX8_append := ⟨xw 685 (by decide +kernel) (by decide +kernel), xw 70 (by decide +kernel) (by decide +kernel), by decide, by decide, (by decide +kernel), by decide⟩
theorem xdX8_clearText : xdF mX8_clearText := ⟨xw 694 (by decide +kernel) (by decide +kernel), xw 70 (by decide +kernel) (by decide +kernel), by decide, by decide, (by decide +kernel), by decide⟩
theorem xdX8_errorPosition : xdF mX8_errorPosition := ⟨xw 698 (by decide +kernel) (by decide +kernel), xw 70 (by decide +kernel) (by decide +kernel), by decide, by decide, (by decide +kernel), by decide⟩
theorem xdX8_read : xdF mX8_read := ⟨xw 718 (by decide +kernel) (by decide +kernel), xw 70 (by decide +kernel) (by decide +kernel), by decide, by decide, (by decide +kernel), by decide⟩
theorem xdX8_undo : xdF mX8_undo := ⟨xw 743 (by decide +kernel) (by decide +kernel), xw 70 (by decide +kernel) (by decide +kernel), by decide, by decide, (by decide +kernel), by decide⟩
theorem xdX8_save : xdF mX8_save := ⟨xw 751 (by decide +kernel) (by decide +kernel), xw 70 (by decide +kernel) (by decide +kernel), by decide, by decide, (by decide +kernel), by decide⟩
theorem xdX8_restore : xdF mX8_restore := ⟨xw 756 (by decide +kernel) (by decide +kernel), xw 70 (by decide +kernel) (by decide +kernel), by decide, by decide, (by decide +kernel), by decide⟩
theorem xdX9_in : xdF mX9_in := ⟨xw 842 (by decide +kernel) (by decide +kernel), xw 79 (by decide +kernel) (by decide +kernel), by decide, by decide, (by decide +kernel), by decide⟩
theorem xdX9_record : xdF mX9_record := ⟨xw 835 (by decide +kernel) (by decide +kernel), xw 79 (by decide +kernel) (by decide +kernel), by decide, by decide, (by decide +kernel), by decide⟩
theorem xdX9_undo : xdF mX9_undo := ⟨xw 823 (by decide +kernel) (by decide +kernel), xw 79 (by decide +kernel) (by decide +kernel), by decide, by decide, (by decide +kernel), by decide⟩
theorem xdX9_save : xdF mX9_save := ⟨xw 827 (by decide +kernel) (by decide +kernel), xw 79 (by decide +kernel) (by decide +kernel), by decide, by decide, (by decide +kernel), by decide⟩
theorem xdX9_restore : xdF mX9_restore := ⟨xw 831 (by decide +kernel) (by decide +kernel), xw 79 (by decide +kernel) (by decide +kernel), by decide, by decide, (by decide +kernel), by decide⟩
theorem xdX9_isFormula : xdF mX9_isFormula := ⟨xw 882 (by decide +kernel) (by decide +kernel), xw 79 (by decide +kernel) (by decide +kernel), by decide, by decide, (by decide +kernel), by decide⟩
theorem xdX9_kind : xdF mX9_kind := ⟨xw 858 (by decide +kernel) (by decide +kernel), xw 79 (by decide +kernel) (by decide +kernel), by decide, by decide, (by decide +kernel), by decide⟩
theorem xdX9_left : xdF mX9_left := ⟨xw 862 (by decide +kernel) (by decide +kernel), xw 79 (by decide +kernel) (by decide +kernel), by decide, by decide, (by decide +kernel), by decide⟩
theorem xdX9_right : xdF mX9_right := ⟨xw 866 (by decide +kernel) (by decide +kernel), xw 79 (by decide +kernel) (by decide +kernel), by decide, by decide, (by decide +kernel), by decide⟩
theorem xdX9_find : xdF mX9_find := ⟨xw 854 (by decide +kernel) (by decide +kernel), xw 79 (by decide +kernel) (by decide +kernel), by decide, by decide, (by decide +kernel), by decide⟩
theorem xdX9_hasRoom : xdF mX9_hasRoom := ⟨xw 850 (by decide +kernel) (by decide +kernel), xw 79 (by decide +kernel) (by decide +kernel), by decide, by decide, (by decide +kernel), by decide⟩
theorem xdX9_make : xdF mX9_make := ⟨xw 870 (by decide +kernel) (by decide +kernel), xw 79 (by decide +kernel) (by decide +kernel), by decide, by decide, (by decide +kernel), by decide⟩
theorem xdX9_makeOne : xdF mX9_makeOne := ⟨xw 846 (by decide +kernel) (by decide +kernel), xw 79 (by decide +kernel) (by decide +kernel), by decide, by decide, (by decide +kernel), by decide⟩
theorem xdX9_atom : xdF mX9_atom := ⟨xw 839 (by decide +kernel) (by decide +kernel), xw 79 (by decide +kernel) (by decide +kernel), by decide, by decide, (by decide +kernel), by decide⟩
theorem xdX9_falsum : xdF mX9_falsum := ⟨xw 874 (by decide +kernel) (by decide +kernel), xw 79 (by decide +kernel) (by decide +kernel), by decide, by decide, (by decide +kernel), by decide⟩
theorem xdX9_not : xdF mX9_not := ⟨xw 878 (by decide +kernel) (by decide +kernel), xw 79 (by decide +kernel) (by decide +kernel), by decide, by decide, (by decide +kernel), by decide⟩
theorem xdX9_pair : xdF mX9_pair := ⟨xw 886 (by decide +kernel) (by decide +kernel), xw 79 (by decide +kernel) (by decide +kernel), by decide, by decide, (by decide +kernel), by decide⟩
theorem xdX9_formulas : xdF mX9_formulas := ⟨xw 890 (by decide +kernel) (by decide +kernel), xw 79 (by decide +kernel) (by decide +kernel), by decide, by decide, (by decide +kernel), by decide⟩
theorem xdX9_part : xdF mX9_part := ⟨xw 894 (by decide +kernel) (by decide +kernel), xw 79 (by decide +kernel) (by decide +kernel), by decide, by decide, (by decide +kernel), by decide⟩
theorem xdX9_measure : xdF mX9_measure := ⟨xw 902 (by decide +kernel) (by decide +kernel), xw 79 (by decide +kernel) (by decide +kernel), by decide, by decide, (by decide +kernel), by decide⟩
theorem xdX9_length : xdF mX9_length := ⟨xw 898 (by decide +kernel) (by decide +kernel), xw 79 (by decide +kernel) (by decide +kernel), by decide, by decide, (by decide +kernel), by decide⟩
theorem xdX9_character : xdF mX9_character := ⟨xw 907 (by decide +kernel) (by decide +kernel), xw 79 (by decide +kernel) (by decide +kernel), by decide, by decide, (by decide +kernel), by decide⟩
theorem xdX9_evaluate : xdF mX9_evaluate := ⟨xw 915 (by decide +kernel) (by decide +kernel), xw 79 (by decide +kernel) (by decide +kernel), by decide, by decide, (by decide +kernel), by decide⟩
theorem xdX9_isTrue : xdF mX9_isTrue := ⟨xw 911 (by decide +kernel) (by decide +kernel), xw 79 (by decide +kernel) (by decide +kernel), by decide, by decide, (by decide +kernel), by decide⟩
theorem xdX9_isLine : xdF mX9_isLine := ⟨xw 963 (by decide +kernel) (by decide +kernel), xw 79 (by decide +kernel) (by decide +kernel), by decide, by decide, (by decide +kernel), by decide⟩
theorem xdX9_isBox : xdF mX9_isBox := ⟨xw 1003 (by decide +kernel) (by decide +kernel), xw 79 (by decide +kernel) (by decide +kernel), by decide, by decide, (by decide +kernel), by decide⟩
theorem xdX9_formulaOf : xdF mX9_formulaOf := ⟨xw 979 (by decide +kernel) (by decide +kernel), xw 79 (by decide +kernel) (by decide +kernel), by decide, by decide, (by decide +kernel), by decide⟩
theorem xdX9_ruleOf : xdF mX9_ruleOf := ⟨xw 1027 (by decide +kernel) (by decide +kernel), xw 79 (by decide +kernel) (by decide +kernel), by decide, by decide, (by decide +kernel), by decide⟩
theorem xdX9_refOf : xdF mX9_refOf := ⟨xw 1043 (by decide +kernel) (by decide +kernel), xw 79 (by decide +kernel) (by decide +kernel), by decide, by decide, (by decide +kernel), by decide⟩
theorem xdX9_boxOf : xdF mX9_boxOf := ⟨xw 955 (by decide +kernel) (by decide +kernel), xw 79 (by decide +kernel) (by decide +kernel), by decide, by decide, (by decide +kernel), by decide⟩
theorem xdX9_opens : xdF mX9_opens := ⟨xw 1011 (by decide +kernel) (by decide +kernel), xw 79 (by decide +kernel) (by decide +kernel), by decide, by decide, (by decide +kernel), by decide⟩
theorem xdX9_ends : xdF mX9_ends := ⟨xw 927 (by decide +kernel) (by decide +kernel), xw 79 (by decide +kernel) (by decide +kernel), by decide, by decide, (by decide +kernel), by decide⟩
theorem xdX9_parent : xdF mX9_parent := ⟨xw 975 (by decide +kernel) (by decide +kernel), xw 79 (by decide +kernel) (by decide +kernel), by decide, by decide, (by decide +kernel), by decide⟩
theorem xdX9_latest : xdF mX9_latest := ⟨xw 923 (by decide +kernel) (by decide +kernel), xw 79 (by decide +kernel) (by decide +kernel), by decide, by decide, (by decide +kernel), by decide⟩
theorem xdX9_openBoxes : xdF mX9_openBoxes := ⟨xw 947 (by decide +kernel) (by decide +kernel), xw 79 (by decide +kernel) (by decide +kernel), by decide, by decide, (by decide +kernel), by decide⟩
theorem xdX9_isShut : xdF mX9_isShut := ⟨xw 971 (by decide +kernel) (by decide +kernel), xw 79 (by decide +kernel) (by decide +kernel), by decide, by decide, (by decide +kernel), by decide⟩
theorem xdX9_isAvailable : xdF mX9_isAvailable := ⟨xw 967 (by decide +kernel) (by decide +kernel), xw 79 (by decide +kernel) (by decide +kernel), by decide, by decide, (by decide +kernel), by decide⟩
theorem xdX9_isBoxAvailable : xdF mX9_isBoxAvailable := ⟨xw 1007 (by decide +kernel) (by decide +kernel), xw 79 (by decide +kernel) (by decide +kernel), by decide, by decide, (by decide +kernel), by decide⟩
theorem xdX9_liesIn : xdF mX9_liesIn := ⟨xw 1124 (by decide +kernel) (by decide +kernel), xw 79 (by decide +kernel) (by decide +kernel), by decide, by decide, (by decide +kernel), by decide⟩
theorem xdX9_depthOf : xdF mX9_depthOf := ⟨xw 1031 (by decide +kernel) (by decide +kernel), xw 79 (by decide +kernel) (by decide +kernel), by decide, by decide, (by decide +kernel), by decide⟩
theorem xdX9_write : xdF mX9_write := ⟨xw 939 (by decide +kernel) (by decide +kernel), xw 79 (by decide +kernel) (by decide +kernel), by decide, by decide, (by decide +kernel), by decide⟩
theorem xdX9_isFull : xdF mX9_isFull := ⟨xw 935 (by decide +kernel) (by decide +kernel), xw 79 (by decide +kernel) (by decide +kernel), by decide, by decide, (by decide +kernel), by decide⟩
theorem xdX9_writeOld : xdF mX9_writeOld := ⟨xw 931 (by decide +kernel) (by decide +kernel), xw 79 (by decide +kernel) (by decide +kernel), by decide, by decide, (by decide +kernel), by decide⟩
theorem xdX9_writeNew : xdF mX9_writeNew := ⟨xw 987 (by decide +kernel) (by decide +kernel), xw 79 (by decide +kernel) (by decide +kernel), by decide, by decide, (by decide +kernel), by decide⟩
theorem xdX9_premise : xdF mX9_premise := ⟨xw 919 (by decide +kernel) (by decide +kernel), xw 79 (by decide +kernel) (by decide +kernel), by decide, by decide, (by decide +kernel), by decide⟩
theorem xdX9_open : xdF mX9_open := ⟨xw 943 (by decide +kernel) (by decide +kernel), xw 79 (by decide +kernel) (by decide +kernel), by decide, by decide, (by decide +kernel), by decide⟩
theorem xdX9_close : xdF mX9_close := ⟨xw 951 (by decide +kernel) (by decide +kernel), xw 79 (by decide +kernel) (by decide +kernel), by decide, by decide, (by decide +kernel), by decide⟩
theorem xdX9_repeat : xdF mX9_repeat := ⟨xw 959 (by decide +kernel) (by decide +kernel), xw 79 (by decide +kernel) (by decide +kernel), by decide, by decide, (by decide +kernel), by decide⟩
theorem xdX9_fromTwo : xdF mX9_fromTwo := ⟨xw 983 (by decide +kernel) (by decide +kernel), xw 79 (by decide +kernel) (by decide +kernel), by decide, by decide, (by decide +kernel), by decide⟩
theorem xdX9_fromOne : xdF mX9_fromOne := ⟨xw 991 (by decide +kernel) (by decide +kernel), xw 79 (by decide +kernel) (by decide +kernel), by decide, by decide, (by decide +kernel), by decide⟩
theorem xdX9_toFormula : xdF mX9_toFormula := ⟨xw 995 (by decide +kernel) (by decide +kernel), xw 79 (by decide +kernel) (by decide +kernel), by decide, by decide, (by decide +kernel), by decide⟩
theorem xdX9_fromBox : xdF mX9_fromBox := ⟨xw 999 (by decide +kernel) (by decide +kernel), xw 79 (by decide +kernel) (by decide +kernel), by decide, by decide, (by decide +kernel), by decide⟩
theorem xdX9_cases : xdF mX9_cases := ⟨xw 1015 (by decide +kernel) (by decide +kernel), xw 79 (by decide +kernel) (by decide +kernel), by decide, by decide, (by decide +kernel), by decide⟩
theorem xdX9_lines : xdF mX9_lines := ⟨xw 1019 (by decide +kernel) (by decide +kernel), xw 79 (by decide +kernel) (by decide +kernel), by decide, by decide, (by decide +kernel), by decide⟩
theorem xdX9_isToBox : xdF mX9_isToBox := ⟨xw 1047 (by decide +kernel) (by decide +kernel), xw 79 (by decide +kernel) (by decide +kernel), by decide, by decide, (by decide +kernel), by decide⟩
theorem xdX9_direct : xdF mX9_direct := ⟨xw 1039 (by decide +kernel) (by decide +kernel), xw 79 (by decide +kernel) (by decide +kernel), by decide, by decide, (by decide +kernel), by decide⟩
theorem xdX9_neededBy : xdF mX9_neededBy := ⟨xw 1035 (by decide +kernel) (by decide +kernel), xw 79 (by decide +kernel) (by decide +kernel), by decide, by decide, (by decide +kernel), by decide⟩
theorem xdX9_line : xdF mX9_line := ⟨xw 1023 (by decide +kernel) (by decide +kernel), xw 79 (by decide +kernel) (by decide +kernel), by decide, by decide, (by decide +kernel), by decide⟩
theorem xdX9_reference : xdF mX9_reference := ⟨xw 1051 (by decide +kernel) (by decide +kernel), xw 79 (by decide +kernel) (by decide +kernel), by decide, by decide, (by decide +kernel), by decide⟩
theorem xdX9_boxes : xdF mX9_boxes := ⟨xw 1055 (by decide +kernel) (by decide +kernel), xw 79 (by decide +kernel) (by decide +kernel), by decide, by decide, (by decide +kernel), by decide⟩
theorem xdX9_box : xdF mX9_box := ⟨xw 1059 (by decide +kernel) (by decide +kernel), xw 79 (by decide +kernel) (by decide +kernel), by decide, by decide, (by decide +kernel), by decide⟩
theorem xdX9_depth : xdF mX9_depth := ⟨xw 1063 (by decide +kernel) (by decide +kernel), xw 79 (by decide +kernel) (by decide +kernel), by decide, by decide, (by decide +kernel), by decide⟩
theorem xdX9_assumed : xdF mX9_assumed := ⟨xw 1075 (by decide +kernel) (by decide +kernel), xw 79 (by decide +kernel) (by decide +kernel), by decide, by decide, (by decide +kernel), by decide⟩
theorem xdX9_needed : xdF mX9_needed := ⟨xw 1071 (by decide +kernel) (by decide +kernel), xw 79 (by decide +kernel) (by decide +kernel), by decide, by decide, (by decide +kernel), by decide⟩
theorem xdX9_needs : xdF mX9_needs := ⟨xw 1067 (by decide +kernel) (by decide +kernel), xw 79 (by decide +kernel) (by decide +kernel), by decide, by decide, (by decide +kernel), by decide⟩
theorem xdX9_bypassOf : xdF mX9_bypassOf := ⟨xw 1084 (by decide +kernel) (by decide +kernel), xw 79 (by decide +kernel) (by decide +kernel), by decide, by decide, (by decide +kernel), by decide⟩
theorem xdX9_bypass : xdF mX9_bypass := ⟨xw 1080 (by decide +kernel) (by decide +kernel), xw 79 (by decide +kernel) (by decide +kernel), by decide, by decide, (by decide +kernel), by decide⟩
theorem xdX9_detours : xdF mX9_detours := ⟨xw 1088 (by decide +kernel) (by decide +kernel), xw 79 (by decide +kernel) (by decide +kernel), by decide, by decide, (by decide +kernel), by decide⟩
theorem xdX9_areTrue : xdF mX9_areTrue := ⟨xw 1104 (by decide +kernel) (by decide +kernel), xw 79 (by decide +kernel) (by decide +kernel), by decide, by decide, (by decide +kernel), by decide⟩
theorem xdX9_premises : xdF mX9_premises := ⟨xw 1096 (by decide +kernel) (by decide +kernel), xw 79 (by decide +kernel) (by decide +kernel), by decide, by decide, (by decide +kernel), by decide⟩
theorem xdX9_fails : xdF mX9_fails := ⟨xw 1100 (by decide +kernel) (by decide +kernel), xw 79 (by decide +kernel) (by decide +kernel), by decide, by decide, (by decide +kernel), by decide⟩
theorem xdX9_failure : xdF mX9_failure := ⟨xw 1092 (by decide +kernel) (by decide +kernel), xw 79 (by decide +kernel) (by decide +kernel), by decide, by decide, (by decide +kernel), by decide⟩
theorem xdX9_counterexample : xdF mX9_counterexample := ⟨xw 1108 (by decide +kernel) (by decide +kernel), xw 79 (by decide +kernel) (by decide +kernel), by decide, by decide, (by decide +kernel), by decide⟩
theorem xdX9_shorten : xdF mX9_shorten := ⟨xw 1112 (by decide +kernel) (by decide +kernel), xw 79 (by decide +kernel) (by decide +kernel), by decide, by decide, (by decide +kernel), by decide⟩
theorem xdX9_renamed : xdF mX9_renamed := ⟨xw 1132 (by decide +kernel) (by decide +kernel), xw 79 (by decide +kernel) (by decide +kernel), by decide, by decide, (by decide +kernel), by decide⟩
theorem xdX9_lastIn : xdF mX9_lastIn := ⟨xw 1120 (by decide +kernel) (by decide +kernel), xw 79 (by decide +kernel) (by decide +kernel), by decide, by decide, (by decide +kernel), by decide⟩
theorem xdX9_trim : xdF mX9_trim := ⟨xw 1116 (by decide +kernel) (by decide +kernel), xw 79 (by decide +kernel) (by decide +kernel), by decide, by decide, (by decide +kernel), by decide⟩
theorem xdX9_moveLines : xdF mX9_moveLines := ⟨xw 1128 (by decide +kernel) (by decide +kernel), xw 79 (by decide +kernel) (by decide +kernel), by decide, by decide, (by decide +kernel), by decide⟩
theorem xdX9_moveBoxes : xdF mX9_moveBoxes := ⟨xw 1136 (by decide +kernel) (by decide +kernel), xw 79 (by decide +kernel) (by decide +kernel), by decide, by decide, (by decide +kernel), by decide⟩
theorem xdX9_append : xdF mX9_append := ⟨xw 1140 (by decide +kernel) (by decide +kernel), xw 79 (by decide +kernel) (by decide +kernel), by decide, by decide, (by decide +kernel), by decide⟩
theorem xdX9_clearText : xdF mX9_clearText := ⟨xw 1144 (by decide +kernel) (by decide +kernel), xw 79 (by decide +kernel) (by decide +kernel), by decide, by decide, (by decide +kernel), by decide⟩
theorem xdX9_makes : xdF mX9_makes := ⟨xw 1160 (by decide +kernel) (by decide +kernel), xw 79 (by decide +kernel) (by decide +kernel), by decide, by decide, (by decide +kernel), by decide⟩
theorem xdX9_isWhole : xdF mX9_isWhole := ⟨xw 1164 (by decide +kernel) (by decide +kernel), xw 79 (by decide +kernel) (by decide +kernel), by decide, by decide, (by decide +kernel), by decide⟩
theorem xdX9_signOf : xdF mX9_signOf := ⟨xw 1167 (by decide +kernel) (by decide +kernel), xw 79 (by decide +kernel) (by decide +kernel), by decide, by decide, (by decide +kernel), by decide⟩
theorem xdX9_readOne : xdF mX9_readOne := ⟨xw 1156 (by decide +kernel) (by decide +kernel), xw 79 (by decide +kernel) (by decide +kernel), by decide, by decide, (by decide +kernel), by decide⟩
theorem xdX9_readBuffer : xdF mX9_readBuffer := ⟨xw 1152 (by decide +kernel) (by decide +kernel), xw 79 (by decide +kernel) (by decide +kernel), by decide, by decide, (by decide +kernel), by decide⟩
theorem xdX9_errorPosition : xdF mX9_errorPosition := ⟨xw 1148 (by decide +kernel) (by decide +kernel), xw 79 (by decide +kernel) (by decide +kernel), by decide, by decide, (by decide +kernel), by decide⟩
theorem xdX9_read : xdF mX9_read := ⟨xw 1171 (by decide +kernel) (by decide +kernel), xw 79 (by decide +kernel) (by decide +kernel), by decide, by decide, (by decide +kernel), by decide⟩
theorem xdJ6_bitCount_0f7a4 : xdF mJ6_bitCount_0f7a4 := ⟨xw 633 (by decide +kernel) (by decide +kernel), xw 82 (by decide +kernel) (by decide +kernel), by decide, by decide, (by decide +kernel), by decide⟩
theorem xdJ13_bitCount_95d88 : xdF mJ13_bitCount_95d88 := ⟨xw 670 (by decide +kernel) (by decide +kernel), xw 83 (by decide +kernel) (by decide +kernel), by decide, by decide, (by decide +kernel), by decide⟩
theorem xfX0_9 : xfF 0 (9, 0, 0, 1) := ⟨RX0, TX0, 5, rfl, by decide, xw 226 (by decide +kernel) (by decide +kernel), fun _ => ⟨rfl, rfl⟩, fun h => absurd h (by decide)⟩
theorem xfX0_20 : xfF 0 (20, 0, 1, 0) := ⟨RX0, TX0, 5, rfl, by decide, xw 229 (by decide +kernel) (by decide +kernel), fun h => absurd h (by decide), fun h => absurd h (by decide)⟩
theorem xfX0_24 : xfF 0 (24, 0, 2, 1) := ⟨RX0, TX0, 5, rfl, by decide, xw 231 (by decide +kernel) (by decide +kernel), fun _ => ⟨rfl, rfl⟩, fun h => absurd h (by decide)⟩
theorem xfX0_27 : xfF 0 (27, 0, 3, 1) := ⟨RX0, TX0, 5, rfl, by decide, xw 232 (by decide +kernel) (by decide +kernel), fun _ => ⟨rfl, rfl⟩, fun h => absurd h (by decide)⟩
theorem xfX0_30 : xfF 0 (30, 0, 4, 2) := ⟨RX0, TX0, 5, rfl, by decide, xw 233 (by decide +kernel) (by decide +kernel), fun h => absurd h (by decide), fun _ => ⟨rfl, rfl⟩⟩
theorem xvX0_34 : xvF 0 (34, 5, mX5_set) := ⟨⟨TX5, 1, rfl⟩, ⟨xw 690 (by decide +kernel) (by decide +kernel), xdX5_set⟩, xw 352 (by decide +kernel) (by decide +kernel), xw 353 (by decide +kernel) (by decide +kernel)⟩
theorem xvX0_38 : xvF 0 (38, 5, mX5_get) := ⟨⟨TX5, 1, rfl⟩, ⟨xw 703 (by decide +kernel) (by decide +kernel), xdX5_get⟩, xw 312 (by decide +kernel) (by decide +kernel), xw 313 (by decide +kernel) (by decide +kernel)⟩
theorem xvX0_42 : xvF 0 (42, 0, mX0_continuesPart) := ⟨⟨TX0, 5, rfl⟩, ⟨xw 704 (by decide +kernel) (by decide +kernel), xdX0_continuesPart⟩, xw 706 (by decide +kernel) (by decide +kernel), xw 16 (by decide +kernel) (by decide +kernel)⟩
theorem xvX0_46 : xvF 0 (46, 0, mX0_beginsPart) := ⟨⟨TX0, 5, rfl⟩, ⟨xw 711 (by decide +kernel) (by decide +kernel), xdX0_beginsPart⟩, xw 713 (by decide +kernel) (by decide +kernel), xw 17 (by decide +kernel) (by decide +kernel)⟩
theorem xsX0_49 : xsF 0 (49, 0, mX6_kindOf) := ⟨⟨xw 708 (by decide +kernel) (by decide +kernel), xdX6_kindOf⟩, xw 709 (by decide +kernel) (by decide +kernel)⟩
def ceX0 : xCE := ([(9, 0, 0, 1), (20, 0, 1, 0), (24, 0, 2, 1), (27, 0, 3, 1), (30, 0, 4, 2)], [(34, 5, mX5_set), (38, 5, mX5_get), (42, 0, mX0_continuesPart), (46, 0, mX0_beginsPart)], [(49, 0, mX6_kindOf)], [], [])
theorem ceX0_ok : xCEok 0 ceX0 := ⟨(xfc xfX0_9 (xfc xfX0_20 (xfc xfX0_24 (xfc xfX0_27 (xfc xfX0_30 xfn))))), (xfc xvX0_34 (xfc xvX0_38 (xfc xvX0_42 (xfc xvX0_46 xfn)))), (xfc xsX0_49 xfn), xfn, xfn⟩
theorem xfX1_9 : xfF 1 (9, 1, 0, 1) := ⟨RX1, TX1, 3, rfl, by decide, xw 253 (by decide +kernel) (by decide +kernel), fun _ => ⟨rfl, rfl⟩, fun h => absurd h (by decide)⟩
theorem xfX1_20 : xfF 1 (20, 1, 1, 0) := ⟨RX1, TX1, 3, rfl, by decide, xw 254 (by decide +kernel) (by decide +kernel), fun h => absurd h (by decide), fun h => absurd h (by decide)⟩
theorem xfX1_24 : xfF 1 (24, 1, 2, 0) := ⟨RX1, TX1, 3, rfl, by decide, xw 255 (by decide +kernel) (by decide +kernel), fun h => absurd h (by decide), fun h => absurd h (by decide)⟩
theorem xfX1_27 : xfF 1 (27, 0, 0, 1) := ⟨RX0, TX0, 5, rfl, by decide, xw 227 (by decide +kernel) (by decide +kernel), fun _ => ⟨rfl, rfl⟩, fun h => absurd h (by decide)⟩
theorem xfX1_32 : xfF 1 (32, 0, 1, 0) := ⟨RX0, TX0, 5, rfl, by decide, xw 230 (by decide +kernel) (by decide +kernel), fun h => absurd h (by decide), fun h => absurd h (by decide)⟩
theorem xvX1_35 : xvF 1 (35, 5, mX5_get) := ⟨⟨TX5, 1, rfl⟩, ⟨xw 724 (by decide +kernel) (by decide +kernel), xdX5_get⟩, xw 312 (by decide +kernel) (by decide +kernel), xw 313 (by decide +kernel) (by decide +kernel)⟩
theorem xvX1_39 : xvF 1 (39, 1, mX1_push) := ⟨⟨TX1, 3, rfl⟩, ⟨xw 725 (by decide +kernel) (by decide +kernel), xdX1_push⟩, xw 727 (by decide +kernel) (by decide +kernel), xw 18 (by decide +kernel) (by decide +kernel)⟩
theorem xvX1_47 : xvF 1 (47, 5, mX5_set) := ⟨⟨TX5, 1, rfl⟩, ⟨xw 729 (by decide +kernel) (by decide +kernel), xdX5_set⟩, xw 352 (by decide +kernel) (by decide +kernel), xw 353 (by decide +kernel) (by decide +kernel)⟩
theorem xvX1_51 : xvF 1 (51, 1, mX1_makeAtEnd) := ⟨⟨TX1, 3, rfl⟩, ⟨xw 731 (by decide +kernel) (by decide +kernel), xdX1_makeAtEnd⟩, xw 733 (by decide +kernel) (by decide +kernel), xw 19 (by decide +kernel) (by decide +kernel)⟩
theorem xvX1_55 : xvF 1 (55, 1, mX1_negate) := ⟨⟨TX1, 3, rfl⟩, ⟨xw 736 (by decide +kernel) (by decide +kernel), xdX1_negate⟩, xw 738 (by decide +kernel) (by decide +kernel), xw 20 (by decide +kernel) (by decide +kernel)⟩
theorem xvX1_59 : xvF 1 (59, 2, mX2_make) := ⟨⟨TX2, 4, rfl⟩, ⟨xw 735 (by decide +kernel) (by decide +kernel), xdX2_make⟩, xw 348 (by decide +kernel) (by decide +kernel), xw 349 (by decide +kernel) (by decide +kernel)⟩
theorem xsX1_42 : xsF 1 (42, 0, mX6_kindOf) := ⟨⟨xw 730 (by decide +kernel) (by decide +kernel), xdX6_kindOf⟩, xw 709 (by decide +kernel) (by decide +kernel)⟩
def ceX1 : xCE := ([(9, 1, 0, 1), (20, 1, 1, 0), (24, 1, 2, 0), (27, 0, 0, 1), (32, 0, 1, 0)], [(35, 5, mX5_get), (39, 1, mX1_push), (47, 5, mX5_set), (51, 1, mX1_makeAtEnd), (55, 1, mX1_negate), (59, 2, mX2_make)], [(42, 0, mX6_kindOf)], [], [])
theorem ceX1_ok : xCEok 1 ceX1 := ⟨(xfc xfX1_9 (xfc xfX1_20 (xfc xfX1_24 (xfc xfX1_27 (xfc xfX1_32 xfn))))), (xfc xvX1_35 (xfc xvX1_39 (xfc xvX1_47 (xfc xvX1_51 (xfc xvX1_55 (xfc xvX1_59 xfn)))))), (xfc xsX1_42 xfn), xfn, xfn⟩
theorem xfX2_9 : xfF 2 (9, 2, 0, 1) := ⟨RX2, TX2, 4, rfl, by decide, xw 118 (by decide +kernel) (by decide +kernel), fun _ => ⟨rfl, rfl⟩, fun h => absurd h (by decide)⟩
theorem xfX2_20 : xfF 2 (20, 2, 1, 0) := ⟨RX2, TX2, 4, rfl, by decide, xw 120 (by decide +kernel) (by decide +kernel), fun h => absurd h (by decide), fun h => absurd h (by decide)⟩
theorem xfX2_24 : xfF 2 (24, 2, 2, 0) := ⟨RX2, TX2, 4, rfl, by decide, xw 122 (by decide +kernel) (by decide +kernel), fun h => absurd h (by decide), fun h => absurd h (by decide)⟩
theorem xfX2_27 : xfF 2 (27, 2, 3, 0) := ⟨RX2, TX2, 4, rfl, by decide, xw 124 (by decide +kernel) (by decide +kernel), fun h => absurd h (by decide), fun h => absurd h (by decide)⟩
theorem xvX2_30 : xvF 2 (30, 5, mX5_copyFrom) := ⟨⟨TX5, 1, rfl⟩, ⟨xw 331 (by decide +kernel) (by decide +kernel), xdX5_copyFrom⟩, xw 332 (by decide +kernel) (by decide +kernel), xw 333 (by decide +kernel) (by decide +kernel)⟩
theorem xvX2_34 : xvF 2 (34, 5, mX5_get) := ⟨⟨TX5, 1, rfl⟩, ⟨xw 311 (by decide +kernel) (by decide +kernel), xdX5_get⟩, xw 312 (by decide +kernel) (by decide +kernel), xw 313 (by decide +kernel) (by decide +kernel)⟩
theorem xvX2_38 : xvF 2 (38, 2, mX2_isOfKind) := ⟨⟨TX2, 4, rfl⟩, ⟨xw 512 (by decide +kernel) (by decide +kernel), xdX2_isOfKind⟩, xw 501 (by decide +kernel) (by decide +kernel), xw 502 (by decide +kernel) (by decide +kernel)⟩
theorem xvX2_42 : xvF 2 (42, 2, mX2_find) := ⟨⟨TX2, 4, rfl⟩, ⟨xw 307 (by decide +kernel) (by decide +kernel), xdX2_find⟩, xw 309 (by decide +kernel) (by decide +kernel), xw 1 (by decide +kernel) (by decide +kernel)⟩
theorem xvX2_46 : xvF 2 (46, 5, mX5_set) := ⟨⟨TX5, 1, rfl⟩, ⟨xw 351 (by decide +kernel) (by decide +kernel), xdX5_set⟩, xw 352 (by decide +kernel) (by decide +kernel), xw 353 (by decide +kernel) (by decide +kernel)⟩
theorem xvX2_57 : xvF 2 (57, 2, mX2_firstCode) := ⟨⟨TX2, 4, rfl⟩, ⟨xw 398 (by decide +kernel) (by decide +kernel), xdX2_firstCode⟩, xw 400 (by decide +kernel) (by decide +kernel), xw 3 (by decide +kernel) (by decide +kernel)⟩
theorem xvX2_65 : xvF 2 (65, 2, mX2_truthOf) := ⟨⟨TX2, 4, rfl⟩, ⟨xw 413 (by decide +kernel) (by decide +kernel), xdX2_truthOf⟩, xw 415 (by decide +kernel) (by decide +kernel), xw 4 (by decide +kernel) (by decide +kernel)⟩
theorem xsX2_60 : xsF 2 (60, 0, mX6_ofKind) := ⟨⟨xw 402 (by decide +kernel) (by decide +kernel), xdX6_ofKind⟩, xw 403 (by decide +kernel) (by decide +kernel)⟩
theorem xsX2_69 : xsF 2 (69, 0, mX2_truthOfAtom) := ⟨⟨xw 417 (by decide +kernel) (by decide +kernel), xdX2_truthOfAtom⟩, xw 418 (by decide +kernel) (by decide +kernel)⟩
theorem xkX2_50 : xkF 2 (50, vI 1000000) := xw 388 (by decide +kernel) (by decide +kernel)
theorem xkX2_72 : xkF 2 (72, vI (-1431655766)) := xw 420 (by decide +kernel) (by decide +kernel)
theorem xkX2_73 : xkF 2 (73, vI (-858993460)) := xw 421 (by decide +kernel) (by decide +kernel)
theorem xkX2_74 : xkF 2 (74, vI (-252645136)) := xw 422 (by decide +kernel) (by decide +kernel)
theorem xkX2_75 : xkF 2 (75, vI (-16711936)) := xw 423 (by decide +kernel) (by decide +kernel)
theorem xkX2_76 : xkF 2 (76, vI (-65536)) := xw 424 (by decide +kernel) (by decide +kernel)
theorem xnX2_51 : xnF 2 (51, 1) := ⟨fun _ => ⟨xw 389 (by decide +kernel) (by decide +kernel), xw 336 (by decide +kernel) (by decide +kernel), xw 74 (by decide +kernel) (by decide +kernel), xw 337 (by decide +kernel) (by decide +kernel)⟩, fun h => absurd h (by decide)⟩
def ceX2 : xCE := ([(9, 2, 0, 1), (20, 2, 1, 0), (24, 2, 2, 0), (27, 2, 3, 0)], [(30, 5, mX5_copyFrom), (34, 5, mX5_get), (38, 2, mX2_isOfKind), (42, 2, mX2_find), (46, 5, mX5_set), (57, 2, mX2_firstCode), (65, 2, mX2_truthOf)], [(60, 0, mX6_ofKind), (69, 0, mX2_truthOfAtom)], [(50, vI 1000000), (72, vI (-1431655766)), (73, vI (-858993460)), (74, vI (-252645136)), (75, vI (-16711936)), (76, vI (-65536))], [(51, 1)])
theorem ceX2_ok : xCEok 2 ceX2 := ⟨(xfc xfX2_9 (xfc xfX2_20 (xfc xfX2_24 (xfc xfX2_27 xfn)))), (xfc xvX2_30 (xfc xvX2_34 (xfc xvX2_38 (xfc xvX2_42 (xfc xvX2_46 (xfc xvX2_57 (xfc xvX2_65 xfn))))))), (xfc xsX2_60 (xfc xsX2_69 xfn)), (xfc xkX2_50 (xfc xkX2_72 (xfc xkX2_73 (xfc xkX2_74 (xfc xkX2_75 (xfc xkX2_76 xfn)))))), (xfc xnX2_51 xfn)⟩
theorem xfX3_9 : xfF 3 (9, 3, 0, 1) := ⟨RX3, TX3, 3, rfl, by decide, xw 207 (by decide +kernel) (by decide +kernel), fun _ => ⟨rfl, rfl⟩, fun h => absurd h (by decide)⟩
theorem xfX3_15 : xfF 3 (15, 3, 1, 1) := ⟨RX3, TX3, 3, rfl, by decide, xw 209 (by decide +kernel) (by decide +kernel), fun _ => ⟨rfl, rfl⟩, fun h => absurd h (by decide)⟩
theorem xfX3_20 : xfF 3 (20, 3, 2, 0) := ⟨RX3, TX3, 3, rfl, by decide, xw 210 (by decide +kernel) (by decide +kernel), fun h => absurd h (by decide), fun h => absurd h (by decide)⟩
theorem xvX3_25 : xvF 3 (25, 3, mX3_at) := ⟨⟨TX3, 3, rfl⟩, ⟨xw 319 (by decide +kernel) (by decide +kernel), xdX3_at⟩, xw 321 (by decide +kernel) (by decide +kernel), xw 2 (by decide +kernel) (by decide +kernel)⟩
theorem xvX3_29 : xvF 3 (29, 6, mX7_copyFrom) := ⟨⟨TX7, 2, rfl⟩, ⟨xw 323 (by decide +kernel) (by decide +kernel), xdX7_copyFrom⟩, xw 324 (by decide +kernel) (by decide +kernel), xw 325 (by decide +kernel) (by decide +kernel)⟩
theorem xnX3_33 : xnF 3 (33, 1) := ⟨fun _ => ⟨xw 346 (by decide +kernel) (by decide +kernel), xw 336 (by decide +kernel) (by decide +kernel), xw 74 (by decide +kernel) (by decide +kernel), xw 337 (by decide +kernel) (by decide +kernel)⟩, fun h => absurd h (by decide)⟩
def ceX3 : xCE := ([(9, 3, 0, 1), (15, 3, 1, 1), (20, 3, 2, 0)], [(25, 3, mX3_at), (29, 6, mX7_copyFrom)], [], [], [(33, 1)])
theorem ceX3_ok : xCEok 3 ceX3 := ⟨(xfc xfX3_9 (xfc xfX3_15 (xfc xfX3_20 xfn))), (xfc xvX3_25 (xfc xvX3_29 xfn)), xfn, xfn, (xfc xnX3_33 xfn)⟩
theorem xfX4_9 : xfF 4 (9, 4, 0, 1) := ⟨RX4, TX4, 12, rfl, by decide, xw 143 (by decide +kernel) (by decide +kernel), fun _ => ⟨rfl, rfl⟩, fun h => absurd h (by decide)⟩
theorem xfX4_15 : xfF 4 (15, 4, 1, 1) := ⟨RX4, TX4, 12, rfl, by decide, xw 145 (by decide +kernel) (by decide +kernel), fun _ => ⟨rfl, rfl⟩, fun h => absurd h (by decide)⟩
theorem xfX4_18 : xfF 4 (18, 4, 2, 1) := ⟨RX4, TX4, 12, rfl, by decide, xw 147 (by decide +kernel) (by decide +kernel), fun _ => ⟨rfl, rfl⟩, fun h => absurd h (by decide)⟩
theorem xfX4_26 : xfF 4 (26, 4, 3, 0) := ⟨RX4, TX4, 12, rfl, by decide, xw 149 (by decide +kernel) (by decide +kernel), fun h => absurd h (by decide), fun h => absurd h (by decide)⟩
theorem xfX4_30 : xfF 4 (30, 4, 4, 0) := ⟨RX4, TX4, 12, rfl, by decide, xw 151 (by decide +kernel) (by decide +kernel), fun h => absurd h (by decide), fun h => absurd h (by decide)⟩
theorem xfX4_33 : xfF 4 (33, 4, 5, 0) := ⟨RX4, TX4, 12, rfl, by decide, xw 153 (by decide +kernel) (by decide +kernel), fun h => absurd h (by decide), fun h => absurd h (by decide)⟩
theorem xfX4_36 : xfF 4 (36, 4, 6, 0) := ⟨RX4, TX4, 12, rfl, by decide, xw 155 (by decide +kernel) (by decide +kernel), fun h => absurd h (by decide), fun h => absurd h (by decide)⟩
theorem xfX4_39 : xfF 4 (39, 4, 7, 0) := ⟨RX4, TX4, 12, rfl, by decide, xw 156 (by decide +kernel) (by decide +kernel), fun h => absurd h (by decide), fun h => absurd h (by decide)⟩
theorem xfX4_42 : xfF 4 (42, 4, 8, 0) := ⟨RX4, TX4, 12, rfl, by decide, xw 157 (by decide +kernel) (by decide +kernel), fun h => absurd h (by decide), fun h => absurd h (by decide)⟩
theorem xfX4_45 : xfF 4 (45, 4, 9, 0) := ⟨RX4, TX4, 12, rfl, by decide, xw 158 (by decide +kernel) (by decide +kernel), fun h => absurd h (by decide), fun h => absurd h (by decide)⟩
theorem xfX4_48 : xfF 4 (48, 4, 10, 0) := ⟨RX4, TX4, 12, rfl, by decide, xw 160 (by decide +kernel) (by decide +kernel), fun h => absurd h (by decide), fun h => absurd h (by decide)⟩
theorem xfX4_51 : xfF 4 (51, 4, 11, 0) := ⟨RX4, TX4, 12, rfl, by decide, xw 162 (by decide +kernel) (by decide +kernel), fun h => absurd h (by decide), fun h => absurd h (by decide)⟩
theorem xvX4_54 : xvF 4 (54, 5, mX5_copyFrom) := ⟨⟨TX5, 1, rfl⟩, ⟨xw 345 (by decide +kernel) (by decide +kernel), xdX5_copyFrom⟩, xw 332 (by decide +kernel) (by decide +kernel), xw 333 (by decide +kernel) (by decide +kernel)⟩
theorem xvX4_58 : xvF 4 (58, 5, mX5_set) := ⟨⟨TX5, 1, rfl⟩, ⟨xw 441 (by decide +kernel) (by decide +kernel), xdX5_set⟩, xw 352 (by decide +kernel) (by decide +kernel), xw 353 (by decide +kernel) (by decide +kernel)⟩
theorem xvX4_62 : xvF 4 (62, 4, mX4_addLine) := ⟨⟨TX4, 12, rfl⟩, ⟨xw 463 (by decide +kernel) (by decide +kernel), xdX4_addLine⟩, xw 438 (by decide +kernel) (by decide +kernel), xw 439 (by decide +kernel) (by decide +kernel)⟩
theorem xvX4_66 : xvF 4 (66, 5, mX5_get) := ⟨⟨TX5, 1, rfl⟩, ⟨xw 458 (by decide +kernel) (by decide +kernel), xdX5_get⟩, xw 312 (by decide +kernel) (by decide +kernel), xw 313 (by decide +kernel) (by decide +kernel)⟩
theorem xvX4_70 : xvF 4 (70, 4, mX4_hasBox) := ⟨⟨TX4, 12, rfl⟩, ⟨xw 454 (by decide +kernel) (by decide +kernel), xdX4_hasBox⟩, xw 455 (by decide +kernel) (by decide +kernel), xw 456 (by decide +kernel) (by decide +kernel)⟩
theorem xvX4_74 : xvF 4 (74, 4, mX4_isNoneOrOpen) := ⟨⟨TX4, 12, rfl⟩, ⟨xw 488 (by decide +kernel) (by decide +kernel), xdX4_isNoneOrOpen⟩, xw 490 (by decide +kernel) (by decide +kernel), xw 6 (by decide +kernel) (by decide +kernel)⟩
theorem xvX4_81 : xvF 4 (81, 4, mX4_countLineReferences) := ⟨⟨TX4, 12, rfl⟩, ⟨xw 558 (by decide +kernel) (by decide +kernel), xdX4_countLineReferences⟩, xw 560 (by decide +kernel) (by decide +kernel), xw 9 (by decide +kernel) (by decide +kernel)⟩
theorem xvX4_84 : xvF 4 (84, 4, mX4_referenceAt) := ⟨⟨TX4, 12, rfl⟩, ⟨xw 562 (by decide +kernel) (by decide +kernel), xdX4_referenceAt⟩, xw 563 (by decide +kernel) (by decide +kernel), xw 564 (by decide +kernel) (by decide +kernel)⟩
theorem xvX4_88 : xvF 4 (88, 4, mX4_directNeeds) := ⟨⟨TX4, 12, rfl⟩, ⟨xw 554 (by decide +kernel) (by decide +kernel), xdX4_directNeeds⟩, xw 556 (by decide +kernel) (by decide +kernel), xw 8 (by decide +kernel) (by decide +kernel)⟩
theorem xvX4_95 : xvF 4 (95, 4, mX4_assumptionsFrom) := ⟨⟨TX4, 12, rfl⟩, ⟨xw 595 (by decide +kernel) (by decide +kernel), xdX4_assumptionsFrom⟩, xw 597 (by decide +kernel) (by decide +kernel), xw 10 (by decide +kernel) (by decide +kernel)⟩
theorem xvX4_98 : xvF 4 (98, 4, mX4_bypassOf) := ⟨⟨TX4, 12, rfl⟩, ⟨xw 615 (by decide +kernel) (by decide +kernel), xdX4_bypassOf⟩, xw 604 (by decide +kernel) (by decide +kernel), xw 605 (by decide +kernel) (by decide +kernel)⟩
theorem xvX4_101 : xvF 4 (101, 4, mX4_bypassIn) := ⟨⟨TX4, 12, rfl⟩, ⟨xw 649 (by decide +kernel) (by decide +kernel), xdX4_bypassIn⟩, xw 651 (by decide +kernel) (by decide +kernel), xw 12 (by decide +kernel) (by decide +kernel)⟩
theorem xvX4_105 : xvF 4 (105, 4, mX4_keepBoxes) := ⟨⟨TX4, 12, rfl⟩, ⟨xw 661 (by decide +kernel) (by decide +kernel), xdX4_keepBoxes⟩, xw 663 (by decide +kernel) (by decide +kernel), xw 13 (by decide +kernel) (by decide +kernel)⟩
theorem xvX4_109 : xvF 4 (109, 4, mX4_moveLine) := ⟨⟨TX4, 12, rfl⟩, ⟨xw 674 (by decide +kernel) (by decide +kernel), xdX4_moveLine⟩, xw 676 (by decide +kernel) (by decide +kernel), xw 14 (by decide +kernel) (by decide +kernel)⟩
theorem xvX4_113 : xvF 4 (113, 4, mX4_findEnds) := ⟨⟨TX4, 12, rfl⟩, ⟨xw 678 (by decide +kernel) (by decide +kernel), xdX4_findEnds⟩, xw 680 (by decide +kernel) (by decide +kernel), xw 15 (by decide +kernel) (by decide +kernel)⟩
theorem xsX4_77 : xsF 4 (77, 0, mX4_bit) := ⟨⟨xw 566 (by decide +kernel) (by decide +kernel), xdX4_bit⟩, xw 567 (by decide +kernel) (by decide +kernel)⟩
theorem xsX4_91 : xsF 4 (91, 0, mX4_contains) := ⟨⟨xw 569 (by decide +kernel) (by decide +kernel), xdX4_contains⟩, xw 570 (by decide +kernel) (by decide +kernel)⟩
theorem xsX4_116 : xsF 4 (116, 0, mJ13_bitCount_95d88) := ⟨⟨xw 668 (by decide +kernel) (by decide +kernel), xdJ13_bitCount_95d88⟩, xw 669 (by decide +kernel) (by decide +kernel)⟩
theorem xsX4_122 : xsF 4 (122, 0, mX4_renumbered) := ⟨⟨xw 665 (by decide +kernel) (by decide +kernel), xdX4_renumbered⟩, xw 666 (by decide +kernel) (by decide +kernel)⟩
def ceX4 : xCE := ([(9, 4, 0, 1), (15, 4, 1, 1), (18, 4, 2, 1), (26, 4, 3, 0), (30, 4, 4, 0), (33, 4, 5, 0), (36, 4, 6, 0), (39, 4, 7, 0), (42, 4, 8, 0), (45, 4, 9, 0), (48, 4, 10, 0), (51, 4, 11, 0)], [(54, 5, mX5_copyFrom), (58, 5, mX5_set), (62, 4, mX4_addLine), (66, 5, mX5_get), (70, 4, mX4_hasBox), (74, 4, mX4_isNoneOrOpen), (81, 4, mX4_countLineReferences), (84, 4, mX4_referenceAt), (88, 4, mX4_directNeeds), (95, 4, mX4_assumptionsFrom), (98, 4, mX4_bypassOf), (101, 4, mX4_bypassIn), (105, 4, mX4_keepBoxes), (109, 4, mX4_moveLine), (113, 4, mX4_findEnds)], [(77, 0, mX4_bit), (91, 0, mX4_contains), (116, 0, mJ13_bitCount_95d88), (122, 0, mX4_renumbered)], [], [])
theorem ceX4_ok : xCEok 4 ceX4 := ⟨(xfc xfX4_9 (xfc xfX4_15 (xfc xfX4_18 (xfc xfX4_26 (xfc xfX4_30 (xfc xfX4_33 (xfc xfX4_36 (xfc xfX4_39 (xfc xfX4_42 (xfc xfX4_45 (xfc xfX4_48 (xfc xfX4_51 xfn)))))))))))), (xfc xvX4_54 (xfc xvX4_58 (xfc xvX4_62 (xfc xvX4_66 (xfc xvX4_70 (xfc xvX4_74 (xfc xvX4_81 (xfc xvX4_84 (xfc xvX4_88 (xfc xvX4_95 (xfc xvX4_98 (xfc xvX4_101 (xfc xvX4_105 (xfc xvX4_109 (xfc xvX4_113 xfn))))))))))))))), (xfc xsX4_77 (xfc xsX4_91 (xfc xsX4_116 (xfc xsX4_122 xfn)))), xfn, xfn⟩
theorem xfX5_15 : xfF 5 (15, 5, 0, 0) := ⟨RX5, TX5, 1, rfl, by decide, xw 113 (by decide +kernel) (by decide +kernel), fun h => absurd h (by decide), fun h => absurd h (by decide)⟩
theorem xnX5_21 : xnF 5 (21, 1) := ⟨fun _ => ⟨xw 335 (by decide +kernel) (by decide +kernel), xw 336 (by decide +kernel) (by decide +kernel), xw 74 (by decide +kernel) (by decide +kernel), xw 337 (by decide +kernel) (by decide +kernel)⟩, fun h => absurd h (by decide)⟩
theorem xnX5_24 : xnF 5 (24, 2) := ⟨fun h => absurd h (by decide), fun _ => ⟨xw 338 (by decide +kernel) (by decide +kernel), xw 340 (by decide +kernel) (by decide +kernel), xw 339 (by decide +kernel) (by decide +kernel), xw 80 (by decide +kernel) (by decide +kernel)⟩⟩
def ceX5 : xCE := ([(15, 5, 0, 0)], [], [], [], [(21, 1), (24, 2)])
theorem ceX5_ok : xCEok 5 ceX5 := ⟨(xfc xfX5_15 xfn), xfn, xfn, xfn, (xfc xnX5_21 (xfc xnX5_24 xfn))⟩
def ceX6 : xCE := ([], [], [], [], [])
theorem ceX6_ok : xCEok 6 ceX6 := ⟨xfn, xfn, xfn, xfn, xfn⟩
theorem xfX7_10 : xfF 7 (10, 6, 0, 0) := ⟨RX7, TX7, 2, rfl, by decide, xw 189 (by decide +kernel) (by decide +kernel), fun h => absurd h (by decide), fun h => absurd h (by decide)⟩
theorem xfX7_19 : xfF 7 (19, 6, 1, 0) := ⟨RX7, TX7, 2, rfl, by decide, xw 191 (by decide +kernel) (by decide +kernel), fun h => absurd h (by decide), fun h => absurd h (by decide)⟩
theorem xvX7_23 : xvF 7 (23, 2, mX2_copyFrom) := ⟨⟨TX2, 4, rfl⟩, ⟨xw 327 (by decide +kernel) (by decide +kernel), xdX2_copyFrom⟩, xw 328 (by decide +kernel) (by decide +kernel), xw 329 (by decide +kernel) (by decide +kernel)⟩
theorem xvX7_27 : xvF 7 (27, 4, mX4_copyFrom) := ⟨⟨TX4, 12, rfl⟩, ⟨xw 341 (by decide +kernel) (by decide +kernel), xdX4_copyFrom⟩, xw 342 (by decide +kernel) (by decide +kernel), xw 343 (by decide +kernel) (by decide +kernel)⟩
def ceX7 : xCE := ([(10, 6, 0, 0), (19, 6, 1, 0)], [(23, 2, mX2_copyFrom), (27, 4, mX4_copyFrom)], [], [], [])
theorem ceX7_ok : xCEok 7 ceX7 := ⟨(xfc xfX7_10 (xfc xfX7_19 xfn)), (xfc xvX7_23 (xfc xvX7_27 xfn)), xfn, xfn, xfn⟩
theorem xfX8_10 : xfF 8 (10, 7, 0, 0) := ⟨RX8, TX8, 9, rfl, by decide, xw 267 (by decide +kernel) (by decide +kernel), fun h => absurd h (by decide), fun h => absurd h (by decide)⟩
theorem xfX8_16 : xfF 8 (16, 7, 1, 0) := ⟨RX8, TX8, 9, rfl, by decide, xw 268 (by decide +kernel) (by decide +kernel), fun h => absurd h (by decide), fun h => absurd h (by decide)⟩
theorem xfX8_22 : xfF 8 (22, 7, 2, 0) := ⟨RX8, TX8, 9, rfl, by decide, xw 269 (by decide +kernel) (by decide +kernel), fun h => absurd h (by decide), fun h => absurd h (by decide)⟩
theorem xfX8_29 : xfF 8 (29, 7, 3, 0) := ⟨RX8, TX8, 9, rfl, by decide, xw 270 (by decide +kernel) (by decide +kernel), fun h => absurd h (by decide), fun h => absurd h (by decide)⟩
theorem xfX8_36 : xfF 8 (36, 7, 4, 0) := ⟨RX8, TX8, 9, rfl, by decide, xw 271 (by decide +kernel) (by decide +kernel), fun h => absurd h (by decide), fun h => absurd h (by decide)⟩
theorem xfX8_43 : xfF 8 (43, 7, 5, 0) := ⟨RX8, TX8, 9, rfl, by decide, xw 272 (by decide +kernel) (by decide +kernel), fun h => absurd h (by decide), fun h => absurd h (by decide)⟩
theorem xfX8_52 : xfF 8 (52, 7, 6, 0) := ⟨RX8, TX8, 9, rfl, by decide, xw 273 (by decide +kernel) (by decide +kernel), fun h => absurd h (by decide), fun h => absurd h (by decide)⟩
theorem xfX8_56 : xfF 8 (56, 7, 7, 0) := ⟨RX8, TX8, 9, rfl, by decide, xw 274 (by decide +kernel) (by decide +kernel), fun h => absurd h (by decide), fun h => absurd h (by decide)⟩
theorem xfX8_59 : xfF 8 (59, 7, 8, 2) := ⟨RX8, TX8, 9, rfl, by decide, xw 275 (by decide +kernel) (by decide +kernel), fun h => absurd h (by decide), fun _ => ⟨rfl, rfl⟩⟩
theorem xfX8_67 : xfF 8 (67, 6, 0, 0) := ⟨RX7, TX7, 2, rfl, by decide, xw 190 (by decide +kernel) (by decide +kernel), fun h => absurd h (by decide), fun h => absurd h (by decide)⟩
theorem xfX8_85 : xfF 8 (85, 2, 0, 1) := ⟨RX2, TX2, 4, rfl, by decide, xw 119 (by decide +kernel) (by decide +kernel), fun _ => ⟨rfl, rfl⟩, fun h => absurd h (by decide)⟩
theorem xfX8_89 : xfF 8 (89, 2, 1, 0) := ⟨RX2, TX2, 4, rfl, by decide, xw 121 (by decide +kernel) (by decide +kernel), fun h => absurd h (by decide), fun h => absurd h (by decide)⟩
theorem xfX8_96 : xfF 8 (96, 2, 2, 0) := ⟨RX2, TX2, 4, rfl, by decide, xw 123 (by decide +kernel) (by decide +kernel), fun h => absurd h (by decide), fun h => absurd h (by decide)⟩
theorem xfX8_99 : xfF 8 (99, 2, 3, 0) := ⟨RX2, TX2, 4, rfl, by decide, xw 125 (by decide +kernel) (by decide +kernel), fun h => absurd h (by decide), fun h => absurd h (by decide)⟩
theorem xfX8_114 : xfF 8 (114, 6, 1, 0) := ⟨RX7, TX7, 2, rfl, by decide, xw 192 (by decide +kernel) (by decide +kernel), fun h => absurd h (by decide), fun h => absurd h (by decide)⟩
theorem xfX8_118 : xfF 8 (118, 4, 2, 1) := ⟨RX4, TX4, 12, rfl, by decide, xw 148 (by decide +kernel) (by decide +kernel), fun _ => ⟨rfl, rfl⟩, fun h => absurd h (by decide)⟩
theorem xfX8_150 : xfF 8 (150, 4, 3, 0) := ⟨RX4, TX4, 12, rfl, by decide, xw 150 (by decide +kernel) (by decide +kernel), fun h => absurd h (by decide), fun h => absurd h (by decide)⟩
theorem xfX8_183 : xfF 8 (183, 4, 0, 1) := ⟨RX4, TX4, 12, rfl, by decide, xw 144 (by decide +kernel) (by decide +kernel), fun _ => ⟨rfl, rfl⟩, fun h => absurd h (by decide)⟩
theorem xfX8_186 : xfF 8 (186, 4, 4, 0) := ⟨RX4, TX4, 12, rfl, by decide, xw 152 (by decide +kernel) (by decide +kernel), fun h => absurd h (by decide), fun h => absurd h (by decide)⟩
theorem xfX8_189 : xfF 8 (189, 4, 5, 0) := ⟨RX4, TX4, 12, rfl, by decide, xw 154 (by decide +kernel) (by decide +kernel), fun h => absurd h (by decide), fun h => absurd h (by decide)⟩
theorem xfX8_201 : xfF 8 (201, 4, 1, 1) := ⟨RX4, TX4, 12, rfl, by decide, xw 146 (by decide +kernel) (by decide +kernel), fun _ => ⟨rfl, rfl⟩, fun h => absurd h (by decide)⟩
theorem xfX8_204 : xfF 8 (204, 4, 9, 0) := ⟨RX4, TX4, 12, rfl, by decide, xw 159 (by decide +kernel) (by decide +kernel), fun h => absurd h (by decide), fun h => absurd h (by decide)⟩
theorem xfX8_207 : xfF 8 (207, 4, 10, 0) := ⟨RX4, TX4, 12, rfl, by decide, xw 161 (by decide +kernel) (by decide +kernel), fun h => absurd h (by decide), fun h => absurd h (by decide)⟩
theorem xfX8_210 : xfF 8 (210, 4, 11, 0) := ⟨RX4, TX4, 12, rfl, by decide, xw 163 (by decide +kernel) (by decide +kernel), fun h => absurd h (by decide), fun h => absurd h (by decide)⟩
theorem xfX8_247 : xfF 8 (247, 0, 0, 1) := ⟨RX0, TX0, 5, rfl, by decide, xw 228 (by decide +kernel) (by decide +kernel), fun _ => ⟨rfl, rfl⟩, fun h => absurd h (by decide)⟩
theorem xfX8_262 : xfF 8 (262, 3, 0, 1) := ⟨RX3, TX3, 3, rfl, by decide, xw 208 (by decide +kernel) (by decide +kernel), fun _ => ⟨rfl, rfl⟩, fun h => absurd h (by decide)⟩
theorem xvX8_63 : xvF 8 (63, 7, mX8_makeFormula) := ⟨⟨TX8, 9, rfl⟩, ⟨xw 299 (by decide +kernel) (by decide +kernel), xdX8_makeFormula⟩, xw 301 (by decide +kernel) (by decide +kernel), xw 0 (by decide +kernel) (by decide +kernel)⟩
theorem xvX8_70 : xvF 8 (70, 2, mX2_has) := ⟨⟨TX2, 4, rfl⟩, ⟨xw 363 (by decide +kernel) (by decide +kernel), xdX2_has⟩, xw 364 (by decide +kernel) (by decide +kernel), xw 365 (by decide +kernel) (by decide +kernel)⟩
theorem xvX8_74 : xvF 8 (74, 2, mX2_hasRoomFor) := ⟨⟨TX2, 4, rfl⟩, ⟨xw 303 (by decide +kernel) (by decide +kernel), xdX2_hasRoomFor⟩, xw 304 (by decide +kernel) (by decide +kernel), xw 305 (by decide +kernel) (by decide +kernel)⟩
theorem xvX8_78 : xvF 8 (78, 3, mX3_record) := ⟨⟨TX3, 3, rfl⟩, ⟨xw 315 (by decide +kernel) (by decide +kernel), xdX3_record⟩, xw 316 (by decide +kernel) (by decide +kernel), xw 317 (by decide +kernel) (by decide +kernel)⟩
theorem xvX8_82 : xvF 8 (82, 2, mX2_make) := ⟨⟨TX2, 4, rfl⟩, ⟨xw 347 (by decide +kernel) (by decide +kernel), xdX2_make⟩, xw 348 (by decide +kernel) (by decide +kernel), xw 349 (by decide +kernel) (by decide +kernel)⟩
theorem xvX8_92 : xvF 8 (92, 5, mX5_get) := ⟨⟨TX5, 1, rfl⟩, ⟨xw 379 (by decide +kernel) (by decide +kernel), xdX5_get⟩, xw 312 (by decide +kernel) (by decide +kernel), xw 313 (by decide +kernel) (by decide +kernel)⟩
theorem xvX8_102 : xvF 8 (102, 2, mX2_measure) := ⟨⟨TX2, 4, rfl⟩, ⟨xw 384 (by decide +kernel) (by decide +kernel), xdX2_measure⟩, xw 385 (by decide +kernel) (by decide +kernel), xw 386 (by decide +kernel) (by decide +kernel)⟩
theorem xvX8_106 : xvF 8 (106, 2, mX2_codeAt) := ⟨⟨TX2, 4, rfl⟩, ⟨xw 394 (by decide +kernel) (by decide +kernel), xdX2_codeAt⟩, xw 395 (by decide +kernel) (by decide +kernel), xw 396 (by decide +kernel) (by decide +kernel)⟩
theorem xvX8_110 : xvF 8 (110, 2, mX2_evaluate) := ⟨⟨TX2, 4, rfl⟩, ⟨xw 409 (by decide +kernel) (by decide +kernel), xdX2_evaluate⟩, xw 410 (by decide +kernel) (by decide +kernel), xw 411 (by decide +kernel) (by decide +kernel)⟩
theorem xvX8_123 : xvF 8 (123, 7, mX8_write) := ⟨⟨TX8, 9, rfl⟩, ⟨xw 429 (by decide +kernel) (by decide +kernel), xdX8_write⟩, xw 431 (by decide +kernel) (by decide +kernel), xw 5 (by decide +kernel) (by decide +kernel)⟩
theorem xvX8_127 : xvF 8 (127, 4, mX4_isFull) := ⟨⟨TX4, 12, rfl⟩, ⟨xw 433 (by decide +kernel) (by decide +kernel), xdX4_isFull⟩, xw 434 (by decide +kernel) (by decide +kernel), xw 435 (by decide +kernel) (by decide +kernel)⟩
theorem xvX8_131 : xvF 8 (131, 7, mX8_depth) := ⟨⟨TX8, 9, rfl⟩, ⟨xw 446 (by decide +kernel) (by decide +kernel), xdX8_depth⟩, xw 447 (by decide +kernel) (by decide +kernel), xw 448 (by decide +kernel) (by decide +kernel)⟩
theorem xvX8_135 : xvF 8 (135, 4, mX4_openBox) := ⟨⟨TX4, 12, rfl⟩, ⟨xw 459 (by decide +kernel) (by decide +kernel), xdX4_openBox⟩, xw 460 (by decide +kernel) (by decide +kernel), xw 461 (by decide +kernel) (by decide +kernel)⟩
theorem xvX8_138 : xvF 8 (138, 4, mX4_canCloseBox) := ⟨⟨TX4, 12, rfl⟩, ⟨xw 468 (by decide +kernel) (by decide +kernel), xdX4_canCloseBox⟩, xw 469 (by decide +kernel) (by decide +kernel), xw 470 (by decide +kernel) (by decide +kernel)⟩
theorem xvX8_141 : xvF 8 (141, 4, mX4_closeBox) := ⟨⟨TX4, 12, rfl⟩, ⟨xw 472 (by decide +kernel) (by decide +kernel), xdX4_closeBox⟩, xw 473 (by decide +kernel) (by decide +kernel), xw 474 (by decide +kernel) (by decide +kernel)⟩
theorem xvX8_144 : xvF 8 (144, 4, mX4_hasLine) := ⟨⟨TX4, 12, rfl⟩, ⟨xw 480 (by decide +kernel) (by decide +kernel), xdX4_hasLine⟩, xw 481 (by decide +kernel) (by decide +kernel), xw 482 (by decide +kernel) (by decide +kernel)⟩
theorem xvX8_147 : xvF 8 (147, 4, mX4_isLineAvailable) := ⟨⟨TX4, 12, rfl⟩, ⟨xw 484 (by decide +kernel) (by decide +kernel), xdX4_isLineAvailable⟩, xw 485 (by decide +kernel) (by decide +kernel), xw 486 (by decide +kernel) (by decide +kernel)⟩
theorem xvX8_153 : xvF 8 (153, 7, mX8_writeMade) := ⟨⟨TX8, 9, rfl⟩, ⟨xw 496 (by decide +kernel) (by decide +kernel), xdX8_writeMade⟩, xw 498 (by decide +kernel) (by decide +kernel), xw 7 (by decide +kernel) (by decide +kernel)⟩
theorem xvX8_157 : xvF 8 (157, 2, mX2_isOfKind) := ⟨⟨TX2, 4, rfl⟩, ⟨xw 500 (by decide +kernel) (by decide +kernel), xdX2_isOfKind⟩, xw 501 (by decide +kernel) (by decide +kernel), xw 502 (by decide +kernel) (by decide +kernel)⟩
theorem xvX8_161 : xvF 8 (161, 2, mX2_takenOut) := ⟨⟨TX2, 4, rfl⟩, ⟨xw 508 (by decide +kernel) (by decide +kernel), xdX2_takenOut⟩, xw 509 (by decide +kernel) (by decide +kernel), xw 510 (by decide +kernel) (by decide +kernel)⟩
theorem xvX8_165 : xvF 8 (165, 2, mX2_isPartOfDisjunction) := ⟨⟨TX2, 4, rfl⟩, ⟨xw 517 (by decide +kernel) (by decide +kernel), xdX2_isPartOfDisjunction⟩, xw 518 (by decide +kernel) (by decide +kernel), xw 519 (by decide +kernel) (by decide +kernel)⟩
theorem xvX8_168 : xvF 8 (168, 4, mX4_hasBox) := ⟨⟨TX4, 12, rfl⟩, ⟨xw 525 (by decide +kernel) (by decide +kernel), xdX4_hasBox⟩, xw 455 (by decide +kernel) (by decide +kernel), xw 456 (by decide +kernel) (by decide +kernel)⟩
theorem xvX8_171 : xvF 8 (171, 4, mX4_isBoxAvailable) := ⟨⟨TX4, 12, rfl⟩, ⟨xw 526 (by decide +kernel) (by decide +kernel), xdX4_isBoxAvailable⟩, xw 527 (by decide +kernel) (by decide +kernel), xw 528 (by decide +kernel) (by decide +kernel)⟩
theorem xvX8_174 : xvF 8 (174, 4, mX4_assumptionOf) := ⟨⟨TX4, 12, rfl⟩, ⟨xw 530 (by decide +kernel) (by decide +kernel), xdX4_assumptionOf⟩, xw 531 (by decide +kernel) (by decide +kernel), xw 532 (by decide +kernel) (by decide +kernel)⟩
theorem xvX8_177 : xvF 8 (177, 4, mX4_conclusionOf) := ⟨⟨TX4, 12, rfl⟩, ⟨xw 534 (by decide +kernel) (by decide +kernel), xdX4_conclusionOf⟩, xw 535 (by decide +kernel) (by decide +kernel), xw 536 (by decide +kernel) (by decide +kernel)⟩
theorem xvX8_180 : xvF 8 (180, 4, mX4_addLine) := ⟨⟨TX4, 12, rfl⟩, ⟨xw 437 (by decide +kernel) (by decide +kernel), xdX4_addLine⟩, xw 438 (by decide +kernel) (by decide +kernel), xw 439 (by decide +kernel) (by decide +kernel)⟩
theorem xvX8_192 : xvF 8 (192, 4, mX4_nesting) := ⟨⟨TX4, 12, rfl⟩, ⟨xw 450 (by decide +kernel) (by decide +kernel), xdX4_nesting⟩, xw 451 (by decide +kernel) (by decide +kernel), xw 452 (by decide +kernel) (by decide +kernel)⟩
theorem xvX8_195 : xvF 8 (195, 4, mX4_countUsers) := ⟨⟨TX4, 12, rfl⟩, ⟨xw 550 (by decide +kernel) (by decide +kernel), xdX4_countUsers⟩, xw 551 (by decide +kernel) (by decide +kernel), xw 552 (by decide +kernel) (by decide +kernel)⟩
theorem xvX8_198 : xvF 8 (198, 4, mX4_referenceAt) := ⟨⟨TX4, 12, rfl⟩, ⟨xw 576 (by decide +kernel) (by decide +kernel), xdX4_referenceAt⟩, xw 563 (by decide +kernel) (by decide +kernel), xw 564 (by decide +kernel) (by decide +kernel)⟩
theorem xvX8_215 : xvF 8 (215, 4, mX4_allNeeds) := ⟨⟨TX4, 12, rfl⟩, ⟨xw 591 (by decide +kernel) (by decide +kernel), xdX4_allNeeds⟩, xw 592 (by decide +kernel) (by decide +kernel), xw 593 (by decide +kernel) (by decide +kernel)⟩
theorem xvX8_219 : xvF 8 (219, 4, mX4_bypassOf) := ⟨⟨TX4, 12, rfl⟩, ⟨xw 603 (by decide +kernel) (by decide +kernel), xdX4_bypassOf⟩, xw 604 (by decide +kernel) (by decide +kernel), xw 605 (by decide +kernel) (by decide +kernel)⟩
theorem xvX8_222 : xvF 8 (222, 4, mX4_countDetours) := ⟨⟨TX4, 12, rfl⟩, ⟨xw 611 (by decide +kernel) (by decide +kernel), xdX4_countDetours⟩, xw 612 (by decide +kernel) (by decide +kernel), xw 613 (by decide +kernel) (by decide +kernel)⟩
theorem xvX8_225 : xvF 8 (225, 7, mX8_lowestFailure) := ⟨⟨TX8, 9, rfl⟩, ⟨xw 620 (by decide +kernel) (by decide +kernel), xdX8_lowestFailure⟩, xw 622 (by decide +kernel) (by decide +kernel), xw 11 (by decide +kernel) (by decide +kernel)⟩
theorem xvX8_228 : xvF 8 (228, 4, mX4_allowedValuations) := ⟨⟨TX4, 12, rfl⟩, ⟨xw 624 (by decide +kernel) (by decide +kernel), xdX4_allowedValuations⟩, xw 625 (by decide +kernel) (by decide +kernel), xw 626 (by decide +kernel) (by decide +kernel)⟩
theorem xvX8_240 : xvF 8 (240, 4, mX4_bypassDetours) := ⟨⟨TX4, 12, rfl⟩, ⟨xw 645 (by decide +kernel) (by decide +kernel), xdX4_bypassDetours⟩, xw 646 (by decide +kernel) (by decide +kernel), xw 647 (by decide +kernel) (by decide +kernel)⟩
theorem xvX8_243 : xvF 8 (243, 4, mX4_keepOnly) := ⟨⟨TX4, 12, rfl⟩, ⟨xw 657 (by decide +kernel) (by decide +kernel), xdX4_keepOnly⟩, xw 658 (by decide +kernel) (by decide +kernel), xw 659 (by decide +kernel) (by decide +kernel)⟩
theorem xvX8_248 : xvF 8 (248, 0, mX0_add) := ⟨⟨TX0, 5, rfl⟩, ⟨xw 686 (by decide +kernel) (by decide +kernel), xdX0_add⟩, xw 687 (by decide +kernel) (by decide +kernel), xw 688 (by decide +kernel) (by decide +kernel)⟩
theorem xvX8_251 : xvF 8 (251, 0, mX0_firstError) := ⟨⟨TX0, 5, rfl⟩, ⟨xw 699 (by decide +kernel) (by decide +kernel), xdX0_firstError⟩, xw 700 (by decide +kernel) (by decide +kernel), xw 701 (by decide +kernel) (by decide +kernel)⟩
theorem xvX8_254 : xvF 8 (254, 2, mX2_copyFrom) := ⟨⟨TX2, 4, rfl⟩, ⟨xw 719 (by decide +kernel) (by decide +kernel), xdX2_copyFrom⟩, xw 328 (by decide +kernel) (by decide +kernel), xw 329 (by decide +kernel) (by decide +kernel)⟩
theorem xvX8_258 : xvF 8 (258, 1, mX1_build) := ⟨⟨TX1, 3, rfl⟩, ⟨xw 720 (by decide +kernel) (by decide +kernel), xdX1_build⟩, xw 721 (by decide +kernel) (by decide +kernel), xw 722 (by decide +kernel) (by decide +kernel)⟩
theorem xvX8_263 : xvF 8 (263, 3, mX3_takeBack) := ⟨⟨TX3, 3, rfl⟩, ⟨xw 744 (by decide +kernel) (by decide +kernel), xdX3_takeBack⟩, xw 745 (by decide +kernel) (by decide +kernel), xw 746 (by decide +kernel) (by decide +kernel)⟩
theorem xvX8_266 : xvF 8 (266, 6, mX7_copyFrom) := ⟨⟨TX7, 2, rfl⟩, ⟨xw 752 (by decide +kernel) (by decide +kernel), xdX7_copyFrom⟩, xw 324 (by decide +kernel) (by decide +kernel), xw 325 (by decide +kernel) (by decide +kernel)⟩
theorem xsX8_232 : xsF 8 (232, 0, mX8_lowestBit) := ⟨⟨xw 628 (by decide +kernel) (by decide +kernel), xdX8_lowestBit⟩, xw 629 (by decide +kernel) (by decide +kernel)⟩
theorem xsX8_235 : xsF 8 (235, 0, mJ6_bitCount_0f7a4) := ⟨⟨xw 631 (by decide +kernel) (by decide +kernel), xdJ6_bitCount_0f7a4⟩, xw 632 (by decide +kernel) (by decide +kernel)⟩
theorem xkX8_213 : xkF 8 (213, vL (-1)) := xw 590 (by decide +kernel) (by decide +kernel)
def ceX8 : xCE := ([(10, 7, 0, 0), (16, 7, 1, 0), (22, 7, 2, 0), (29, 7, 3, 0), (36, 7, 4, 0), (43, 7, 5, 0), (52, 7, 6, 0), (56, 7, 7, 0), (59, 7, 8, 2), (67, 6, 0, 0), (85, 2, 0, 1), (89, 2, 1, 0), (96, 2, 2, 0), (99, 2, 3, 0), (114, 6, 1, 0), (118, 4, 2, 1), (150, 4, 3, 0), (183, 4, 0, 1), (186, 4, 4, 0), (189, 4, 5, 0), (201, 4, 1, 1), (204, 4, 9, 0), (207, 4, 10, 0), (210, 4, 11, 0), (247, 0, 0, 1), (262, 3, 0, 1)], [(63, 7, mX8_makeFormula), (70, 2, mX2_has), (74, 2, mX2_hasRoomFor), (78, 3, mX3_record), (82, 2, mX2_make), (92, 5, mX5_get), (102, 2, mX2_measure), (106, 2, mX2_codeAt), (110, 2, mX2_evaluate), (123, 7, mX8_write), (127, 4, mX4_isFull), (131, 7, mX8_depth), (135, 4, mX4_openBox), (138, 4, mX4_canCloseBox), (141, 4, mX4_closeBox), (144, 4, mX4_hasLine), (147, 4, mX4_isLineAvailable), (153, 7, mX8_writeMade), (157, 2, mX2_isOfKind), (161, 2, mX2_takenOut), (165, 2, mX2_isPartOfDisjunction), (168, 4, mX4_hasBox), (171, 4, mX4_isBoxAvailable), (174, 4, mX4_assumptionOf), (177, 4, mX4_conclusionOf), (180, 4, mX4_addLine), (192, 4, mX4_nesting), (195, 4, mX4_countUsers), (198, 4, mX4_referenceAt), (215, 4, mX4_allNeeds), (219, 4, mX4_bypassOf), (222, 4, mX4_countDetours), (225, 7, mX8_lowestFailure), (228, 4, mX4_allowedValuations), (240, 4, mX4_bypassDetours), (243, 4, mX4_keepOnly), (248, 0, mX0_add), (251, 0, mX0_firstError), (254, 2, mX2_copyFrom), (258, 1, mX1_build), (263, 3, mX3_takeBack), (266, 6, mX7_copyFrom)], [(232, 0, mX8_lowestBit), (235, 0, mJ6_bitCount_0f7a4)], [(213, vL (-1))], [])
theorem ceX8_ok : xCEok 8 ceX8 := ⟨(xfc xfX8_10 (xfc xfX8_16 (xfc xfX8_22 (xfc xfX8_29 (xfc xfX8_36 (xfc xfX8_43 (xfc xfX8_52 (xfc xfX8_56 (xfc xfX8_59 (xfc xfX8_67 (xfc xfX8_85 (xfc xfX8_89 (xfc xfX8_96 (xfc xfX8_99 (xfc xfX8_114 (xfc xfX8_118 (xfc xfX8_150 (xfc xfX8_183 (xfc xfX8_186 (xfc xfX8_189 (xfc xfX8_201 (xfc xfX8_204 (xfc xfX8_207 (xfc xfX8_210 (xfc xfX8_247 (xfc xfX8_262 xfn)))))))))))))))))))))))))), (xfc xvX8_63 (xfc xvX8_70 (xfc xvX8_74 (xfc xvX8_78 (xfc xvX8_82 (xfc xvX8_92 (xfc xvX8_102 (xfc xvX8_106 (xfc xvX8_110 (xfc xvX8_123 (xfc xvX8_127 (xfc xvX8_131 (xfc xvX8_135 (xfc xvX8_138 (xfc xvX8_141 (xfc xvX8_144 (xfc xvX8_147 (xfc xvX8_153 (xfc xvX8_157 (xfc xvX8_161 (xfc xvX8_165 (xfc xvX8_168 (xfc xvX8_171 (xfc xvX8_174 (xfc xvX8_177 (xfc xvX8_180 (xfc xvX8_192 (xfc xvX8_195 (xfc xvX8_198 (xfc xvX8_215 (xfc xvX8_219 (xfc xvX8_222 (xfc xvX8_225 (xfc xvX8_228 (xfc xvX8_240 (xfc xvX8_243 (xfc xvX8_248 (xfc xvX8_251 (xfc xvX8_254 (xfc xvX8_258 (xfc xvX8_263 (xfc xvX8_266 xfn)))))))))))))))))))))))))))))))))))))))))), (xfc xsX8_232 (xfc xsX8_235 xfn)), (xfc xkX8_213 xfn), xfn⟩
theorem xfX9_7 : xfF 9 (7, 8, 0, 0) := ⟨RX9, TX9, 18, rfl, by decide, xw 763 (by decide +kernel) (by decide +kernel), fun h => absurd h (by decide), fun h => absurd h (by decide)⟩
theorem xfX9_13 : xfF 9 (13, 8, 1, 0) := ⟨RX9, TX9, 18, rfl, by decide, xw 764 (by decide +kernel) (by decide +kernel), fun h => absurd h (by decide), fun h => absurd h (by decide)⟩
theorem xfX9_16 : xfF 9 (16, 8, 3, 0) := ⟨RX9, TX9, 18, rfl, by decide, xw 766 (by decide +kernel) (by decide +kernel), fun h => absurd h (by decide), fun h => absurd h (by decide)⟩
theorem xfX9_19 : xfF 9 (19, 8, 5, 0) := ⟨RX9, TX9, 18, rfl, by decide, xw 768 (by decide +kernel) (by decide +kernel), fun h => absurd h (by decide), fun h => absurd h (by decide)⟩
theorem xfX9_23 : xfF 9 (23, 8, 7, 0) := ⟨RX9, TX9, 18, rfl, by decide, xw 770 (by decide +kernel) (by decide +kernel), fun h => absurd h (by decide), fun h => absurd h (by decide)⟩
theorem xfX9_26 : xfF 9 (26, 8, 8, 0) := ⟨RX9, TX9, 18, rfl, by decide, xw 771 (by decide +kernel) (by decide +kernel), fun h => absurd h (by decide), fun h => absurd h (by decide)⟩
theorem xfX9_30 : xfF 9 (30, 8, 9, 0) := ⟨RX9, TX9, 18, rfl, by decide, xw 772 (by decide +kernel) (by decide +kernel), fun h => absurd h (by decide), fun h => absurd h (by decide)⟩
theorem xfX9_33 : xfF 9 (33, 8, 10, 0) := ⟨RX9, TX9, 18, rfl, by decide, xw 773 (by decide +kernel) (by decide +kernel), fun h => absurd h (by decide), fun h => absurd h (by decide)⟩
theorem xfX9_36 : xfF 9 (36, 8, 11, 0) := ⟨RX9, TX9, 18, rfl, by decide, xw 774 (by decide +kernel) (by decide +kernel), fun h => absurd h (by decide), fun h => absurd h (by decide)⟩
theorem xfX9_39 : xfF 9 (39, 8, 12, 0) := ⟨RX9, TX9, 18, rfl, by decide, xw 775 (by decide +kernel) (by decide +kernel), fun h => absurd h (by decide), fun h => absurd h (by decide)⟩
theorem xfX9_42 : xfF 9 (42, 8, 13, 0) := ⟨RX9, TX9, 18, rfl, by decide, xw 776 (by decide +kernel) (by decide +kernel), fun h => absurd h (by decide), fun h => absurd h (by decide)⟩
theorem xfX9_45 : xfF 9 (45, 8, 2, 1) := ⟨RX9, TX9, 18, rfl, by decide, xw 765 (by decide +kernel) (by decide +kernel), fun _ => ⟨rfl, rfl⟩, fun h => absurd h (by decide)⟩
theorem xfX9_49 : xfF 9 (49, 8, 4, 2) := ⟨RX9, TX9, 18, rfl, by decide, xw 767 (by decide +kernel) (by decide +kernel), fun h => absurd h (by decide), fun _ => ⟨rfl, rfl⟩⟩
theorem xfX9_208 : xfF 9 (208, 8, 6, 1) := ⟨RX9, TX9, 18, rfl, by decide, xw 769 (by decide +kernel) (by decide +kernel), fun _ => ⟨rfl, rfl⟩, fun h => absurd h (by decide)⟩
theorem xfX9_211 : xfF 9 (211, 8, 17, 2) := ⟨RX9, TX9, 18, rfl, by decide, xw 780 (by decide +kernel) (by decide +kernel), fun h => absurd h (by decide), fun _ => ⟨rfl, rfl⟩⟩
theorem xfX9_214 : xfF 9 (214, 8, 16, 1) := ⟨RX9, TX9, 18, rfl, by decide, xw 779 (by decide +kernel) (by decide +kernel), fun _ => ⟨rfl, rfl⟩, fun h => absurd h (by decide)⟩
theorem xfX9_217 : xfF 9 (217, 8, 14, 1) := ⟨RX9, TX9, 18, rfl, by decide, xw 777 (by decide +kernel) (by decide +kernel), fun _ => ⟨rfl, rfl⟩, fun h => absurd h (by decide)⟩
theorem xfX9_224 : xfF 9 (224, 8, 15, 2) := ⟨RX9, TX9, 18, rfl, by decide, xw 778 (by decide +kernel) (by decide +kernel), fun h => absurd h (by decide), fun _ => ⟨rfl, rfl⟩⟩
theorem xvX9_53 : xvF 9 (53, 8, mX9_record) := ⟨⟨TX9, 18, rfl⟩, ⟨xw 832 (by decide +kernel) (by decide +kernel), xdX9_record⟩, xw 834 (by decide +kernel) (by decide +kernel), xw 21 (by decide +kernel) (by decide +kernel)⟩
theorem xvX9_56 : xvF 9 (56, 8, mX9_kind) := ⟨⟨TX9, 18, rfl⟩, ⟨xw 855 (by decide +kernel) (by decide +kernel), xdX9_kind⟩, xw 857 (by decide +kernel) (by decide +kernel), xw 25 (by decide +kernel) (by decide +kernel)⟩
theorem xvX9_60 : xvF 9 (60, 8, mX9_left) := ⟨⟨TX9, 18, rfl⟩, ⟨xw 859 (by decide +kernel) (by decide +kernel), xdX9_left⟩, xw 861 (by decide +kernel) (by decide +kernel), xw 26 (by decide +kernel) (by decide +kernel)⟩
theorem xvX9_63 : xvF 9 (63, 8, mX9_right) := ⟨⟨TX9, 18, rfl⟩, ⟨xw 863 (by decide +kernel) (by decide +kernel), xdX9_right⟩, xw 865 (by decide +kernel) (by decide +kernel), xw 27 (by decide +kernel) (by decide +kernel)⟩
theorem xvX9_66 : xvF 9 (66, 8, mX9_find) := ⟨⟨TX9, 18, rfl⟩, ⟨xw 851 (by decide +kernel) (by decide +kernel), xdX9_find⟩, xw 853 (by decide +kernel) (by decide +kernel), xw 24 (by decide +kernel) (by decide +kernel)⟩
theorem xvX9_70 : xvF 9 (70, 8, mX9_hasRoom) := ⟨⟨TX9, 18, rfl⟩, ⟨xw 847 (by decide +kernel) (by decide +kernel), xdX9_hasRoom⟩, xw 849 (by decide +kernel) (by decide +kernel), xw 23 (by decide +kernel) (by decide +kernel)⟩
theorem xvX9_74 : xvF 9 (74, 8, mX9_make) := ⟨⟨TX9, 18, rfl⟩, ⟨xw 867 (by decide +kernel) (by decide +kernel), xdX9_make⟩, xw 869 (by decide +kernel) (by decide +kernel), xw 28 (by decide +kernel) (by decide +kernel)⟩
theorem xvX9_80 : xvF 9 (80, 8, mX9_makeOne) := ⟨⟨TX9, 18, rfl⟩, ⟨xw 843 (by decide +kernel) (by decide +kernel), xdX9_makeOne⟩, xw 845 (by decide +kernel) (by decide +kernel), xw 22 (by decide +kernel) (by decide +kernel)⟩
theorem xvX9_83 : xvF 9 (83, 8, mX9_isFormula) := ⟨⟨TX9, 18, rfl⟩, ⟨xw 879 (by decide +kernel) (by decide +kernel), xdX9_isFormula⟩, xw 881 (by decide +kernel) (by decide +kernel), xw 29 (by decide +kernel) (by decide +kernel)⟩
theorem xvX9_88 : xvF 9 (88, 8, mX9_measure) := ⟨⟨TX9, 18, rfl⟩, ⟨xw 899 (by decide +kernel) (by decide +kernel), xdX9_measure⟩, xw 901 (by decide +kernel) (by decide +kernel), xw 30 (by decide +kernel) (by decide +kernel)⟩
theorem xvX9_91 : xvF 9 (91, 8, mX9_evaluate) := ⟨⟨TX9, 18, rfl⟩, ⟨xw 912 (by decide +kernel) (by decide +kernel), xdX9_evaluate⟩, xw 914 (by decide +kernel) (by decide +kernel), xw 31 (by decide +kernel) (by decide +kernel)⟩
theorem xvX9_95 : xvF 9 (95, 8, mX9_ends) := ⟨⟨TX9, 18, rfl⟩, ⟨xw 924 (by decide +kernel) (by decide +kernel), xdX9_ends⟩, xw 926 (by decide +kernel) (by decide +kernel), xw 33 (by decide +kernel) (by decide +kernel)⟩
theorem xvX9_98 : xvF 9 (98, 8, mX9_parent) := ⟨⟨TX9, 18, rfl⟩, ⟨xw 972 (by decide +kernel) (by decide +kernel), xdX9_parent⟩, xw 974 (by decide +kernel) (by decide +kernel), xw 42 (by decide +kernel) (by decide +kernel)⟩
theorem xvX9_101 : xvF 9 (101, 8, mX9_boxOf) := ⟨⟨TX9, 18, rfl⟩, ⟨xw 952 (by decide +kernel) (by decide +kernel), xdX9_boxOf⟩, xw 954 (by decide +kernel) (by decide +kernel), xw 38 (by decide +kernel) (by decide +kernel)⟩
theorem xvX9_104 : xvF 9 (104, 8, mX9_isShut) := ⟨⟨TX9, 18, rfl⟩, ⟨xw 968 (by decide +kernel) (by decide +kernel), xdX9_isShut⟩, xw 970 (by decide +kernel) (by decide +kernel), xw 41 (by decide +kernel) (by decide +kernel)⟩
theorem xvX9_107 : xvF 9 (107, 8, mX9_latest) := ⟨⟨TX9, 18, rfl⟩, ⟨xw 920 (by decide +kernel) (by decide +kernel), xdX9_latest⟩, xw 922 (by decide +kernel) (by decide +kernel), xw 32 (by decide +kernel) (by decide +kernel)⟩
theorem xvX9_111 : xvF 9 (111, 8, mX9_isFull) := ⟨⟨TX9, 18, rfl⟩, ⟨xw 932 (by decide +kernel) (by decide +kernel), xdX9_isFull⟩, xw 934 (by decide +kernel) (by decide +kernel), xw 35 (by decide +kernel) (by decide +kernel)⟩
theorem xvX9_115 : xvF 9 (115, 8, mX9_write) := ⟨⟨TX9, 18, rfl⟩, ⟨xw 936 (by decide +kernel) (by decide +kernel), xdX9_write⟩, xw 938 (by decide +kernel) (by decide +kernel), xw 36 (by decide +kernel) (by decide +kernel)⟩
theorem xvX9_119 : xvF 9 (119, 8, mX9_writeOld) := ⟨⟨TX9, 18, rfl⟩, ⟨xw 928 (by decide +kernel) (by decide +kernel), xdX9_writeOld⟩, xw 930 (by decide +kernel) (by decide +kernel), xw 34 (by decide +kernel) (by decide +kernel)⟩
theorem xvX9_122 : xvF 9 (122, 8, mX9_openBoxes) := ⟨⟨TX9, 18, rfl⟩, ⟨xw 944 (by decide +kernel) (by decide +kernel), xdX9_openBoxes⟩, xw 946 (by decide +kernel) (by decide +kernel), xw 37 (by decide +kernel) (by decide +kernel)⟩
theorem xvX9_125 : xvF 9 (125, 8, mX9_isLine) := ⟨⟨TX9, 18, rfl⟩, ⟨xw 960 (by decide +kernel) (by decide +kernel), xdX9_isLine⟩, xw 962 (by decide +kernel) (by decide +kernel), xw 39 (by decide +kernel) (by decide +kernel)⟩
theorem xvX9_128 : xvF 9 (128, 8, mX9_isAvailable) := ⟨⟨TX9, 18, rfl⟩, ⟨xw 964 (by decide +kernel) (by decide +kernel), xdX9_isAvailable⟩, xw 966 (by decide +kernel) (by decide +kernel), xw 40 (by decide +kernel) (by decide +kernel)⟩
theorem xvX9_131 : xvF 9 (131, 8, mX9_formulaOf) := ⟨⟨TX9, 18, rfl⟩, ⟨xw 976 (by decide +kernel) (by decide +kernel), xdX9_formulaOf⟩, xw 978 (by decide +kernel) (by decide +kernel), xw 43 (by decide +kernel) (by decide +kernel)⟩
theorem xvX9_134 : xvF 9 (134, 8, mX9_writeNew) := ⟨⟨TX9, 18, rfl⟩, ⟨xw 984 (by decide +kernel) (by decide +kernel), xdX9_writeNew⟩, xw 986 (by decide +kernel) (by decide +kernel), xw 44 (by decide +kernel) (by decide +kernel)⟩
theorem xvX9_138 : xvF 9 (138, 8, mX9_isBox) := ⟨⟨TX9, 18, rfl⟩, ⟨xw 1000 (by decide +kernel) (by decide +kernel), xdX9_isBox⟩, xw 1002 (by decide +kernel) (by decide +kernel), xw 45 (by decide +kernel) (by decide +kernel)⟩
theorem xvX9_141 : xvF 9 (141, 8, mX9_isBoxAvailable) := ⟨⟨TX9, 18, rfl⟩, ⟨xw 1004 (by decide +kernel) (by decide +kernel), xdX9_isBoxAvailable⟩, xw 1006 (by decide +kernel) (by decide +kernel), xw 46 (by decide +kernel) (by decide +kernel)⟩
theorem xvX9_144 : xvF 9 (144, 8, mX9_opens) := ⟨⟨TX9, 18, rfl⟩, ⟨xw 1008 (by decide +kernel) (by decide +kernel), xdX9_opens⟩, xw 1010 (by decide +kernel) (by decide +kernel), xw 47 (by decide +kernel) (by decide +kernel)⟩
theorem xvX9_147 : xvF 9 (147, 8, mX9_ruleOf) := ⟨⟨TX9, 18, rfl⟩, ⟨xw 1024 (by decide +kernel) (by decide +kernel), xdX9_ruleOf⟩, xw 1026 (by decide +kernel) (by decide +kernel), xw 48 (by decide +kernel) (by decide +kernel)⟩
theorem xvX9_150 : xvF 9 (150, 8, mX9_refOf) := ⟨⟨TX9, 18, rfl⟩, ⟨xw 1040 (by decide +kernel) (by decide +kernel), xdX9_refOf⟩, xw 1042 (by decide +kernel) (by decide +kernel), xw 52 (by decide +kernel) (by decide +kernel)⟩
theorem xvX9_154 : xvF 9 (154, 8, mX9_isToBox) := ⟨⟨TX9, 18, rfl⟩, ⟨xw 1044 (by decide +kernel) (by decide +kernel), xdX9_isToBox⟩, xw 1046 (by decide +kernel) (by decide +kernel), xw 53 (by decide +kernel) (by decide +kernel)⟩
theorem xvX9_158 : xvF 9 (158, 8, mX9_direct) := ⟨⟨TX9, 18, rfl⟩, ⟨xw 1036 (by decide +kernel) (by decide +kernel), xdX9_direct⟩, xw 1038 (by decide +kernel) (by decide +kernel), xw 51 (by decide +kernel) (by decide +kernel)⟩
theorem xvX9_162 : xvF 9 (162, 8, mX9_depthOf) := ⟨⟨TX9, 18, rfl⟩, ⟨xw 1028 (by decide +kernel) (by decide +kernel), xdX9_depthOf⟩, xw 1030 (by decide +kernel) (by decide +kernel), xw 49 (by decide +kernel) (by decide +kernel)⟩
theorem xvX9_165 : xvF 9 (165, 8, mX9_neededBy) := ⟨⟨TX9, 18, rfl⟩, ⟨xw 1032 (by decide +kernel) (by decide +kernel), xdX9_neededBy⟩, xw 1034 (by decide +kernel) (by decide +kernel), xw 50 (by decide +kernel) (by decide +kernel)⟩
theorem xvX9_168 : xvF 9 (168, 8, mX9_assumed) := ⟨⟨TX9, 18, rfl⟩, ⟨xw 1072 (by decide +kernel) (by decide +kernel), xdX9_assumed⟩, xw 1074 (by decide +kernel) (by decide +kernel), xw 55 (by decide +kernel) (by decide +kernel)⟩
theorem xvX9_171 : xvF 9 (171, 8, mX9_needed) := ⟨⟨TX9, 18, rfl⟩, ⟨xw 1068 (by decide +kernel) (by decide +kernel), xdX9_needed⟩, xw 1070 (by decide +kernel) (by decide +kernel), xw 54 (by decide +kernel) (by decide +kernel)⟩
theorem xvX9_176 : xvF 9 (176, 8, mX9_bypassOf) := ⟨⟨TX9, 18, rfl⟩, ⟨xw 1081 (by decide +kernel) (by decide +kernel), xdX9_bypassOf⟩, xw 1083 (by decide +kernel) (by decide +kernel), xw 56 (by decide +kernel) (by decide +kernel)⟩
theorem xvX9_179 : xvF 9 (179, 8, mX9_areTrue) := ⟨⟨TX9, 18, rfl⟩, ⟨xw 1101 (by decide +kernel) (by decide +kernel), xdX9_areTrue⟩, xw 1103 (by decide +kernel) (by decide +kernel), xw 59 (by decide +kernel) (by decide +kernel)⟩
theorem xvX9_183 : xvF 9 (183, 8, mX9_premises) := ⟨⟨TX9, 18, rfl⟩, ⟨xw 1093 (by decide +kernel) (by decide +kernel), xdX9_premises⟩, xw 1095 (by decide +kernel) (by decide +kernel), xw 57 (by decide +kernel) (by decide +kernel)⟩
theorem xvX9_187 : xvF 9 (187, 8, mX9_fails) := ⟨⟨TX9, 18, rfl⟩, ⟨xw 1097 (by decide +kernel) (by decide +kernel), xdX9_fails⟩, xw 1099 (by decide +kernel) (by decide +kernel), xw 58 (by decide +kernel) (by decide +kernel)⟩
theorem xvX9_191 : xvF 9 (191, 8, mX9_liesIn) := ⟨⟨TX9, 18, rfl⟩, ⟨xw 1121 (by decide +kernel) (by decide +kernel), xdX9_liesIn⟩, xw 1123 (by decide +kernel) (by decide +kernel), xw 61 (by decide +kernel) (by decide +kernel)⟩
theorem xvX9_194 : xvF 9 (194, 8, mX9_lastIn) := ⟨⟨TX9, 18, rfl⟩, ⟨xw 1117 (by decide +kernel) (by decide +kernel), xdX9_lastIn⟩, xw 1119 (by decide +kernel) (by decide +kernel), xw 60 (by decide +kernel) (by decide +kernel)⟩
theorem xvX9_198 : xvF 9 (198, 8, mX9_moveLines) := ⟨⟨TX9, 18, rfl⟩, ⟨xw 1125 (by decide +kernel) (by decide +kernel), xdX9_moveLines⟩, xw 1127 (by decide +kernel) (by decide +kernel), xw 62 (by decide +kernel) (by decide +kernel)⟩
theorem xvX9_202 : xvF 9 (202, 8, mX9_moveBoxes) := ⟨⟨TX9, 18, rfl⟩, ⟨xw 1133 (by decide +kernel) (by decide +kernel), xdX9_moveBoxes⟩, xw 1135 (by decide +kernel) (by decide +kernel), xw 64 (by decide +kernel) (by decide +kernel)⟩
theorem xvX9_205 : xvF 9 (205, 8, mX9_renamed) := ⟨⟨TX9, 18, rfl⟩, ⟨xw 1129 (by decide +kernel) (by decide +kernel), xdX9_renamed⟩, xw 1131 (by decide +kernel) (by decide +kernel), xw 63 (by decide +kernel) (by decide +kernel)⟩
theorem xvX9_220 : xvF 9 (220, 8, mX9_makes) := ⟨⟨TX9, 18, rfl⟩, ⟨xw 1157 (by decide +kernel) (by decide +kernel), xdX9_makes⟩, xw 1159 (by decide +kernel) (by decide +kernel), xw 67 (by decide +kernel) (by decide +kernel)⟩
theorem xvX9_227 : xvF 9 (227, 8, mX9_isWhole) := ⟨⟨TX9, 18, rfl⟩, ⟨xw 1161 (by decide +kernel) (by decide +kernel), xdX9_isWhole⟩, xw 1163 (by decide +kernel) (by decide +kernel), xw 68 (by decide +kernel) (by decide +kernel)⟩
theorem xvX9_234 : xvF 9 (234, 8, mX9_readOne) := ⟨⟨TX9, 18, rfl⟩, ⟨xw 1153 (by decide +kernel) (by decide +kernel), xdX9_readOne⟩, xw 1155 (by decide +kernel) (by decide +kernel), xw 66 (by decide +kernel) (by decide +kernel)⟩
theorem xvX9_238 : xvF 9 (238, 8, mX9_readBuffer) := ⟨⟨TX9, 18, rfl⟩, ⟨xw 1149 (by decide +kernel) (by decide +kernel), xdX9_readBuffer⟩, xw 1151 (by decide +kernel) (by decide +kernel), xw 65 (by decide +kernel) (by decide +kernel)⟩
theorem xsX9_77 : xsF 9 (77, 0, mX9_in) := ⟨⟨xw 840 (by decide +kernel) (by decide +kernel), xdX9_in⟩, xw 841 (by decide +kernel) (by decide +kernel)⟩
theorem xsX9_231 : xsF 9 (231, 0, mX9_signOf) := ⟨⟨xw 1165 (by decide +kernel) (by decide +kernel), xdX9_signOf⟩, xw 1166 (by decide +kernel) (by decide +kernel)⟩
theorem xkX9_87 : xkF 9 (87, vI 1000000) := xw 903 (by decide +kernel) (by decide +kernel)
theorem xkX9_174 : xkF 9 (174, vL (-1)) := xw 1076 (by decide +kernel) (by decide +kernel)
def ceX9 : xCE := ([(7, 8, 0, 0), (13, 8, 1, 0), (16, 8, 3, 0), (19, 8, 5, 0), (23, 8, 7, 0), (26, 8, 8, 0), (30, 8, 9, 0), (33, 8, 10, 0), (36, 8, 11, 0), (39, 8, 12, 0), (42, 8, 13, 0), (45, 8, 2, 1), (49, 8, 4, 2), (208, 8, 6, 1), (211, 8, 17, 2), (214, 8, 16, 1), (217, 8, 14, 1), (224, 8, 15, 2)], [(53, 8, mX9_record), (56, 8, mX9_kind), (60, 8, mX9_left), (63, 8, mX9_right), (66, 8, mX9_find), (70, 8, mX9_hasRoom), (74, 8, mX9_make), (80, 8, mX9_makeOne), (83, 8, mX9_isFormula), (88, 8, mX9_measure), (91, 8, mX9_evaluate), (95, 8, mX9_ends), (98, 8, mX9_parent), (101, 8, mX9_boxOf), (104, 8, mX9_isShut), (107, 8, mX9_latest), (111, 8, mX9_isFull), (115, 8, mX9_write), (119, 8, mX9_writeOld), (122, 8, mX9_openBoxes), (125, 8, mX9_isLine), (128, 8, mX9_isAvailable), (131, 8, mX9_formulaOf), (134, 8, mX9_writeNew), (138, 8, mX9_isBox), (141, 8, mX9_isBoxAvailable), (144, 8, mX9_opens), (147, 8, mX9_ruleOf), (150, 8, mX9_refOf), (154, 8, mX9_isToBox), (158, 8, mX9_direct), (162, 8, mX9_depthOf), (165, 8, mX9_neededBy), (168, 8, mX9_assumed), (171, 8, mX9_needed), (176, 8, mX9_bypassOf), (179, 8, mX9_areTrue), (183, 8, mX9_premises), (187, 8, mX9_fails), (191, 8, mX9_liesIn), (194, 8, mX9_lastIn), (198, 8, mX9_moveLines), (202, 8, mX9_moveBoxes), (205, 8, mX9_renamed), (220, 8, mX9_makes), (227, 8, mX9_isWhole), (234, 8, mX9_readOne), (238, 8, mX9_readBuffer)], [(77, 0, mX9_in), (231, 0, mX9_signOf)], [(87, vI 1000000), (174, vL (-1))], [])
theorem ceX9_ok : xCEok 9 ceX9 := ⟨(xfc xfX9_7 (xfc xfX9_13 (xfc xfX9_16 (xfc xfX9_19 (xfc xfX9_23 (xfc xfX9_26 (xfc xfX9_30 (xfc xfX9_33 (xfc xfX9_36 (xfc xfX9_39 (xfc xfX9_42 (xfc xfX9_45 (xfc xfX9_49 (xfc xfX9_208 (xfc xfX9_211 (xfc xfX9_214 (xfc xfX9_217 (xfc xfX9_224 xfn)))))))))))))))))), (xfc xvX9_53 (xfc xvX9_56 (xfc xvX9_60 (xfc xvX9_63 (xfc xvX9_66 (xfc xvX9_70 (xfc xvX9_74 (xfc xvX9_80 (xfc xvX9_83 (xfc xvX9_88 (xfc xvX9_91 (xfc xvX9_95 (xfc xvX9_98 (xfc xvX9_101 (xfc xvX9_104 (xfc xvX9_107 (xfc xvX9_111 (xfc xvX9_115 (xfc xvX9_119 (xfc xvX9_122 (xfc xvX9_125 (xfc xvX9_128 (xfc xvX9_131 (xfc xvX9_134 (xfc xvX9_138 (xfc xvX9_141 (xfc xvX9_144 (xfc xvX9_147 (xfc xvX9_150 (xfc xvX9_154 (xfc xvX9_158 (xfc xvX9_162 (xfc xvX9_165 (xfc xvX9_168 (xfc xvX9_171 (xfc xvX9_176 (xfc xvX9_179 (xfc xvX9_183 (xfc xvX9_187 (xfc xvX9_191 (xfc xvX9_194 (xfc xvX9_198 (xfc xvX9_202 (xfc xvX9_205 (xfc xvX9_220 (xfc xvX9_227 (xfc xvX9_234 (xfc xvX9_238 xfn)))))))))))))))))))))))))))))))))))))))))))))))), (xfc xsX9_77 (xfc xsX9_231 xfn)), (xfc xkX9_87 (xfc xkX9_174 xfn)), xfn⟩
theorem xkJ6_265 : xkF 10 (265, vI 1431655765) := xw 634 (by decide +kernel) (by decide +kernel)
theorem xkJ6_266 : xkF 10 (266, vI 858993459) := xw 635 (by decide +kernel) (by decide +kernel)
theorem xkJ6_267 : xkF 10 (267, vI 252645135) := xw 636 (by decide +kernel) (by decide +kernel)
def ceJ6 : xCE := ([], [], [], [(265, vI 1431655765), (266, vI 858993459), (267, vI 252645135)], [])
theorem ceJ6_ok : xCEok 10 ceJ6 := ⟨xfn, xfn, xfn, (xfc xkJ6_265 (xfc xkJ6_266 (xfc xkJ6_267 xfn))), xfn⟩
theorem xkJ13_314 : xkF 11 (314, vL 6148914691236517205) := xw 671 (by decide +kernel) (by decide +kernel)
theorem xkJ13_316 : xkF 11 (316, vL 3689348814741910323) := xw 672 (by decide +kernel) (by decide +kernel)
theorem xkJ13_318 : xkF 11 (318, vL 1085102592571150095) := xw 673 (by decide +kernel) (by decide +kernel)
def ceJ13 : xCE := ([], [], [], [(314, vL 6148914691236517205), (316, vL 3689348814741910323), (318, vL 1085102592571150095)], [])
theorem ceJ13_ok : xCEok 11 ceJ13 := ⟨xfn, xfn, xfn, (xfc xkJ13_314 (xfc xkJ13_316 (xfc xkJ13_318 xfn))), xfn⟩
