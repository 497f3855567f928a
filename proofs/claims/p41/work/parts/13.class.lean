/-! THE METHODS: descriptors, the classes' tables, instructions; each is held against the bytecode-/
theorem xw {w : Cond} (i : Nat) (h : lw_tbl[i]? = some w) (g : goodWord w = true) : xin w := ⟨List.mem_of_getElem? h, g⟩
theorem xfn {α : Type} {P : α → Prop} : ∀ x ∈ ([] : List α), P x := fun x h => absurd h List.not_mem_nil
theorem xfc {α : Type} {P : α → Prop} {a : α} {l : List α} (h : P a) (k : ∀ x ∈ l, P x) : ∀ x ∈ a :: l, P x := List.forall_mem_cons.mpr ⟨h, k⟩
def xdF (D : xD) : Prop := xin (Cond.code D.1 D.2.1 D.2.2.1 D.2.2.2.1) ∧ xin (Cond.initialized D.1.cls) ∧ D.1.cls ≠ "java/lang/invoke/MethodHandle" ∧ D.1.cls ≠ "java/lang/invoke/VarHandle" ∧ (parseMethodDescriptor D.1.desc).map (fun d => d.parameters.length) = some D.2.2.2.2 ∧ D.2.2.1 ≤ 26
def mX2_copyFrom : xD := (yX2_copyFrom, cX2_copyFrom, 2, none, 1)
def mX2_has : xD := (yX2_has, cX2_has, 2, some .boolean, 1)
def mX2_isOfKind : xD := (yX2_isOfKind, cX2_isOfKind, 3, some .boolean, 2)
def mX2_isPartOfDisjunction : xD := (yX2_isPartOfDisjunction, cX2_isPartOfDisjunction, 3, some .boolean, 2)
def mX2_takenOut : xD := (yX2_takenOut, cX2_takenOut, 4, some .int, 2)
def mX2_find : xD := (yX2_find, cX2_find, 5, some .int, 3)
def mX2_hasRoomFor : xD := (yX2_hasRoomFor, cX2_hasRoomFor, 4, some .boolean, 3)
def mX2_make : xD := (yX2_make, cX2_make, 5, some .int, 3)
def mX2_evaluate : xD := (yX2_evaluate, cX2_evaluate, 4, none, 2)
def mX2_truthOf : xD := (yX2_truthOf, cX2_truthOf, 6, some .int, 3)
def mX2_truthOfAtom : xD := (yX2_truthOfAtom, cX2_truthOfAtom, 2, some .int, 2)
def mX3_at : xD := (yX3_at, cX3_at, 2, some (.object "BoxedProofs$State"), 1)
def mX3_record : xD := (yX3_record, cX3_record, 3, none, 1)
def mX4_copyFrom : xD := (yX4_copyFrom, cX4_copyFrom, 2, none, 1)
def mX4_hasLine : xD := (yX4_hasLine, cX4_hasLine, 2, some .boolean, 1)
def mX4_hasBox : xD := (yX4_hasBox, cX4_hasBox, 2, some .boolean, 1)
def mX4_isFull : xD := (yX4_isFull, cX4_isFull, 1, some .boolean, 0)
def mX4_addLine : xD := (yX4_addLine, cX4_addLine, 7, some .int, 5)
def mX4_openBox : xD := (yX4_openBox, cX4_openBox, 3, some .int, 1)
def mX4_canCloseBox : xD := (yX4_canCloseBox, cX4_canCloseBox, 1, some .boolean, 0)
def mX4_closeBox : xD := (yX4_closeBox, cX4_closeBox, 2, some .int, 0)
def mX4_isNoneOrOpen : xD := (yX4_isNoneOrOpen, cX4_isNoneOrOpen, 2, some .boolean, 1)
def mX4_isLineAvailable : xD := (yX4_isLineAvailable, cX4_isLineAvailable, 2, some .boolean, 1)
def mX4_isBoxAvailable : xD := (yX4_isBoxAvailable, cX4_isBoxAvailable, 2, some .boolean, 1)
def mX4_assumptionOf : xD := (yX4_assumptionOf, cX4_assumptionOf, 2, some .int, 1)
def mX4_conclusionOf : xD := (yX4_conclusionOf, cX4_conclusionOf, 2, some .int, 1)
def mX4_nesting : xD := (yX4_nesting, cX4_nesting, 4, some .int, 1)
def mX4_referenceAt : xD := (yX4_referenceAt, cX4_referenceAt, 3, some .int, 2)
def mX4_countLineReferences : xD := (yX4_countLineReferences, cX4_countLineReferences, 2, some .int, 1)
def mX4_bit : xD := (yX4_bit, cX4_bit, 1, some .long, 1)
def mX4_contains : xD := (yX4_contains, cX4_contains, 3, some .boolean, 2)
def mX4_directNeeds : xD := (yX4_directNeeds, cX4_directNeeds, 7, some .long, 1)
def mX4_countUsers : xD := (yX4_countUsers, cX4_countUsers, 4, some .int, 1)
def mX4_assumptionsFrom : xD := (yX4_assumptionsFrom, cX4_assumptionsFrom, 6, some .long, 1)
def mX4_allNeeds : xD := (yX4_allNeeds, cX4_allNeeds, 5, some .long, 1)
def mX4_bypassOf : xD := (yX4_bypassOf, cX4_bypassOf, 4, some .int, 1)
def mX4_countDetours : xD := (yX4_countDetours, cX4_countDetours, 3, some .int, 0)
def mX4_bypassDetours : xD := (yX4_bypassDetours, cX4_bypassDetours, 4, some .int, 0)
def mX4_bypassIn : xD := (yX4_bypassIn, cX4_bypassIn, 6, some .int, 2)
def mX4_allowedValuations : xD := (yX4_allowedValuations, cX4_allowedValuations, 7, some .int, 2)
def mX4_keepOnly : xD := (yX4_keepOnly, cX4_keepOnly, 8, some .int, 1)
def mX4_renumbered : xD := (yX4_renumbered, cX4_renumbered, 3, some .int, 2)
def mX4_moveLine : xD := (yX4_moveLine, cX4_moveLine, 8, none, 4)
def mX4_keepBoxes : xD := (yX4_keepBoxes, cX4_keepBoxes, 7, some .long, 1)
def mX4_findEnds : xD := (yX4_findEnds, cX4_findEnds, 4, none, 0)
def mX5_get : xD := (yX5_get, cX5_get, 2, some .int, 1)
def mX5_set : xD := (yX5_set, cX5_set, 3, none, 2)
def mX5_copyFrom : xD := (yX5_copyFrom, cX5_copyFrom, 3, none, 1)
def mX7_copyFrom : xD := (yX7_copyFrom, cX7_copyFrom, 2, none, 1)
def mX8_atom : xD := (yX8_atom, cX8_atom, 2, some .int, 1)
def mX8_falsum : xD := (yX8_falsum, cX8_falsum, 1, some .int, 0)
def mX8_not : xD := (yX8_not, cX8_not, 2, some .int, 1)
def mX8_pair : xD := (yX8_pair, cX8_pair, 4, some .int, 3)
def mX8_makeFormula : xD := (yX8_makeFormula, cX8_makeFormula, 4, some .int, 3)
def mX8_formulas : xD := (yX8_formulas, cX8_formulas, 1, some .int, 0)
def mX8_part : xD := (yX8_part, cX8_part, 3, some .int, 2)
def mX8_isTrue : xD := (yX8_isTrue, cX8_isTrue, 3, some .int, 2)
def mX8_premise : xD := (yX8_premise, cX8_premise, 2, some .int, 1)
def mX8_open : xD := (yX8_open, cX8_open, 2, some .int, 1)
def mX8_close : xD := (yX8_close, cX8_close, 1, some .int, 0)
def mX8_repeat : xD := (yX8_repeat, cX8_repeat, 2, some .int, 1)
def mX8_fromTwo : xD := (yX8_fromTwo, cX8_fromTwo, 7, some .int, 3)
def mX8_fromOne : xD := (yX8_fromOne, cX8_fromOne, 4, some .int, 2)
def mX8_toFormula : xD := (yX8_toFormula, cX8_toFormula, 6, some .int, 3)
def mX8_fromBox : xD := (yX8_fromBox, cX8_fromBox, 5, some .int, 2)
def mX8_cases : xD := (yX8_cases, cX8_cases, 7, some .int, 3)
def mX8_write : xD := (yX8_write, cX8_write, 6, some .int, 5)
def mX8_writeMade : xD := (yX8_writeMade, cX8_writeMade, 8, some .int, 6)
def mX8_lines : xD := (yX8_lines, cX8_lines, 1, some .int, 0)
def mX8_line : xD := (yX8_line, cX8_line, 3, some .int, 2)
def mX8_reference : xD := (yX8_reference, cX8_reference, 4, some .int, 2)
def mX8_boxes : xD := (yX8_boxes, cX8_boxes, 1, some .int, 0)
def mX8_box : xD := (yX8_box, cX8_box, 3, some .int, 2)
def mX8_depth : xD := (yX8_depth, cX8_depth, 1, some .int, 0)
def mX8_needs : xD := (yX8_needs, cX8_needs, 2, some .long, 1)
def mX8_bypass : xD := (yX8_bypass, cX8_bypass, 2, some .int, 1)
def mX8_detours : xD := (yX8_detours, cX8_detours, 1, some .int, 0)
def mX8_failure : xD := (yX8_failure, cX8_failure, 2, some .int, 1)
def mX8_counterexample : xD := (yX8_counterexample, cX8_counterexample, 2, some .int, 1)
def mX8_lowestFailure : xD := (yX8_lowestFailure, cX8_lowestFailure, 5, some .int, 2)
def mX8_lowestBit : xD := (yX8_lowestBit, cX8_lowestBit, 1, some .int, 1)
def mX8_shorten : xD := (yX8_shorten, cX8_shorten, 1, some .int, 0)
def mX8_trim : xD := (yX8_trim, cX8_trim, 2, some .int, 1)
def mJ6_bitCount_0f7a4 : xD := (yJ6_bitCount_0f7a4, cJ6_bitCount_0f7a4, 1, some .int, 1)
def mJ13_bitCount_95d88 : xD := (yJ13_bitCount_95d88, cJ13_bitCount_95d88, 2, some .int, 1)
def mL_low : xD := (yL_low, cL_low, 2, some .int, 2)
def mL_find : xD := (yL_find, cL_find, 9, some .int, 7)
def mL_make : xD := (yL_make, cL_make, 8, some .int, 7)
def mL_truth : xD := (yL_truth, cL_truth, 14, some .long, 5)
def mL_shut : xD := (yL_shut, cL_shut, 5, some .boolean, 3)
def mL_latest : xD := (yL_latest, cL_latest, 4, some .int, 2)
def mL_write : xD := (yL_write, cL_write, 12, some .int, 11)
def mL_direct : xD := (yL_direct, cL_direct, 7, some .long, 7)
def mL_assumed : xD := (yL_assumed, cL_assumed, 7, some .long, 4)
def mL_needs : xD := (yL_needs, cL_needs, 16, some .long, 10)
def mL_bypass : xD := (yL_bypass, cL_bypass, 5, some .int, 4)
def mL_bits : xD := (yL_bits, cL_bits, 4, some .int, 1)
def mL_formulas : xD := (yL_formulas, cL_formulas, 10, some .boolean, 6)
def mL_lines : xD := (yL_lines, cL_lines, 17, some .boolean, 11)
def mL_follows : xD := (yL_follows, cL_follows, 22, some .boolean, 13)
def mL_shorten : xD := (yL_shorten, cL_shorten, 9, some .int, 4)
def mL_trim : xD := (yL_trim, cL_trim, 19, none, 11)
def mL_rule : xD := (yL_rule, cL_rule, 15, some .long, 12)
def mL_law : xD := (yL_law, cL_law, 33, some .boolean, 1)
theorem xdX2_copyFrom : xdF mX2_copyFrom := ⟨xw 270 (by decide +kernel) (by decide +kernel), xw 18 (by decide +kernel) (by decide +kernel), by decide, by decide, (by decide +kernel), by decide⟩
theorem xdX2_has : xdF mX2_has := ⟨xw 306 (by decide +kernel) (by decide +kernel), xw 18 (by decide +kernel) (by decide +kernel), by decide, by decide, (by decide +kernel), by decide⟩
theorem xdX2_isOfKind : xdF mX2_isOfKind := ⟨xw 390 (by decide +kernel) (by decide +kernel), xw 18 (by decide +kernel) (by decide +kernel), by decide, by decide, (by decide +kernel), by decide⟩
theorem xdX2_isPartOfDisjunction : xdF mX2_isPartOfDisjunction := ⟨xw 407 (by decide +kernel) (by decide +kernel), xw 18 (by decide +kernel) (by decide +kernel), by decide, by decide, (by decide +kernel), by decide⟩
theorem xdX2_takenOut : xdF mX2_takenOut := ⟨xw 398 (by decide +kernel) (by decide +kernel), xw 18 (by decide +kernel) (by decide +kernel), by decide, by decide, (by decide +kernel), by decide⟩
theorem xdX2_find : xdF mX2_find := ⟨xw 250 (by decide +kernel) (by decide +kernel), xw 18 (by decide +kernel) (by decide +kernel), by decide, by decide, (by decide +kernel), by decide⟩
theorem xdX2_hasRoomFor : xdF mX2_hasRoomFor := ⟨xw 246 (by decide +kernel) (by decide +kernel), xw 18 (by decide +kernel) (by decide +kernel), by decide, by decide, (by decide +kernel), by decide⟩
theorem xdX2_make : xdF mX2_make := ⟨xw 290 (by decide +kernel) (by decide +kernel), xw 18 (by decide +kernel) (by decide +kernel), by decide, by decide, (by decide +kernel), by decide⟩
theorem xdX2_evaluate : xdF mX2_evaluate := ⟨xw 550 (by decide +kernel) (by decide +kernel), xw 18 (by decide +kernel) (by decide +kernel), by decide, by decide, (by decide +kernel), by decide⟩
theorem xdX2_truthOf : xdF mX2_truthOf := ⟨xw 554 (by decide +kernel) (by decide +kernel), xw 18 (by decide +kernel) (by decide +kernel), by decide, by decide, (by decide +kernel), by decide⟩
theorem xdX2_truthOfAtom : xdF mX2_truthOfAtom := ⟨xw 557 (by decide +kernel) (by decide +kernel), xw 18 (by decide +kernel) (by decide +kernel), by decide, by decide, (by decide +kernel), by decide⟩
theorem xdX3_at : xdF mX3_at := ⟨xw 262 (by decide +kernel) (by decide +kernel), xw 22 (by decide +kernel) (by decide +kernel), by decide, by decide, (by decide +kernel), by decide⟩
theorem xdX3_record : xdF mX3_record := ⟨xw 258 (by decide +kernel) (by decide +kernel), xw 22 (by decide +kernel) (by decide +kernel), by decide, by decide, (by decide +kernel), by decide⟩
theorem xdX4_copyFrom : xdF mX4_copyFrom := ⟨xw 284 (by decide +kernel) (by decide +kernel), xw 21 (by decide +kernel) (by decide +kernel), by decide, by decide, (by decide +kernel), by decide⟩
theorem xdX4_hasLine : xdF mX4_hasLine := ⟨xw 369 (by decide +kernel) (by decide +kernel), xw 21 (by decide +kernel) (by decide +kernel), by decide, by decide, (by decide +kernel), by decide⟩
theorem xdX4_hasBox : xdF mX4_hasBox := ⟨xw 343 (by decide +kernel) (by decide +kernel), xw 21 (by decide +kernel) (by decide +kernel), by decide, by decide, (by decide +kernel), by decide⟩
theorem xdX4_isFull : xdF mX4_isFull := ⟨xw 322 (by decide +kernel) (by decide +kernel), xw 21 (by decide +kernel) (by decide +kernel), by decide, by decide, (by decide +kernel), by decide⟩
theorem xdX4_addLine : xdF mX4_addLine := ⟨xw 326 (by decide +kernel) (by decide +kernel), xw 21 (by decide +kernel) (by decide +kernel), by decide, by decide, (by decide +kernel), by decide⟩
theorem xdX4_openBox : xdF mX4_openBox := ⟨xw 348 (by decide +kernel) (by decide +kernel), xw 21 (by decide +kernel) (by decide +kernel), by decide, by decide, (by decide +kernel), by decide⟩
theorem xdX4_canCloseBox : xdF mX4_canCloseBox := ⟨xw 357 (by decide +kernel) (by decide +kernel), xw 21 (by decide +kernel) (by decide +kernel), by decide, by decide, (by decide +kernel), by decide⟩
theorem xdX4_closeBox : xdF mX4_closeBox := ⟨xw 361 (by decide +kernel) (by decide +kernel), xw 21 (by decide +kernel) (by decide +kernel), by decide, by decide, (by decide +kernel), by decide⟩
theorem xdX4_isNoneOrOpen : xdF mX4_isNoneOrOpen := ⟨xw 377 (by decide +kernel) (by decide +kernel), xw 21 (by decide +kernel) (by decide +kernel), by decide, by decide, (by decide +kernel), by decide⟩
theorem xdX4_isLineAvailable : xdF mX4_isLineAvailable := ⟨xw 373 (by decide +kernel) (by decide +kernel), xw 21 (by decide +kernel) (by decide +kernel), by decide, by decide, (by decide +kernel), by decide⟩
theorem xdX4_isBoxAvailable : xdF mX4_isBoxAvailable := ⟨xw 416 (by decide +kernel) (by decide +kernel), xw 21 (by decide +kernel) (by decide +kernel), by decide, by decide, (by decide +kernel), by decide⟩
theorem xdX4_assumptionOf : xdF mX4_assumptionOf := ⟨xw 420 (by decide +kernel) (by decide +kernel), xw 21 (by decide +kernel) (by decide +kernel), by decide, by decide, (by decide +kernel), by decide⟩
theorem xdX4_conclusionOf : xdF mX4_conclusionOf := ⟨xw 424 (by decide +kernel) (by decide +kernel), xw 21 (by decide +kernel) (by decide +kernel), by decide, by decide, (by decide +kernel), by decide⟩
theorem xdX4_nesting : xdF mX4_nesting := ⟨xw 339 (by decide +kernel) (by decide +kernel), xw 21 (by decide +kernel) (by decide +kernel), by decide, by decide, (by decide +kernel), by decide⟩
theorem xdX4_referenceAt : xdF mX4_referenceAt := ⟨xw 470 (by decide +kernel) (by decide +kernel), xw 21 (by decide +kernel) (by decide +kernel), by decide, by decide, (by decide +kernel), by decide⟩
theorem xdX4_countLineReferences : xdF mX4_countLineReferences := ⟨xw 440 (by decide +kernel) (by decide +kernel), xw 21 (by decide +kernel) (by decide +kernel), by decide, by decide, (by decide +kernel), by decide⟩
theorem xdX4_bit : xdF mX4_bit := ⟨xw 459 (by decide +kernel) (by decide +kernel), xw 21 (by decide +kernel) (by decide +kernel), by decide, by decide, (by decide +kernel), by decide⟩
theorem xdX4_contains : xdF mX4_contains := ⟨xw 462 (by decide +kernel) (by decide +kernel), xw 21 (by decide +kernel) (by decide +kernel), by decide, by decide, (by decide +kernel), by decide⟩
theorem xdX4_directNeeds : xdF mX4_directNeeds := ⟨xw 466 (by decide +kernel) (by decide +kernel), xw 21 (by decide +kernel) (by decide +kernel), by decide, by decide, (by decide +kernel), by decide⟩
theorem xdX4_countUsers : xdF mX4_countUsers := ⟨xw 580 (by decide +kernel) (by decide +kernel), xw 21 (by decide +kernel) (by decide +kernel), by decide, by decide, (by decide +kernel), by decide⟩
theorem xdX4_assumptionsFrom : xdF mX4_assumptionsFrom := ⟨xw 474 (by decide +kernel) (by decide +kernel), xw 21 (by decide +kernel) (by decide +kernel), by decide, by decide, (by decide +kernel), by decide⟩
theorem xdX4_allNeeds : xdF mX4_allNeeds := ⟨xw 456 (by decide +kernel) (by decide +kernel), xw 21 (by decide +kernel) (by decide +kernel), by decide, by decide, (by decide +kernel), by decide⟩
theorem xdX4_bypassOf : xdF mX4_bypassOf := ⟨xw 448 (by decide +kernel) (by decide +kernel), xw 21 (by decide +kernel) (by decide +kernel), by decide, by decide, (by decide +kernel), by decide⟩
theorem xdX4_countDetours : xdF mX4_countDetours := ⟨xw 619 (by decide +kernel) (by decide +kernel), xw 21 (by decide +kernel) (by decide +kernel), by decide, by decide, (by decide +kernel), by decide⟩
theorem xdX4_bypassDetours : xdF mX4_bypassDetours := ⟨xw 436 (by decide +kernel) (by decide +kernel), xw 21 (by decide +kernel) (by decide +kernel), by decide, by decide, (by decide +kernel), by decide⟩
theorem xdX4_bypassIn : xdF mX4_bypassIn := ⟨xw 444 (by decide +kernel) (by decide +kernel), xw 21 (by decide +kernel) (by decide +kernel), by decide, by decide, (by decide +kernel), by decide⟩
theorem xdX4_allowedValuations : xdF mX4_allowedValuations := ⟨xw 634 (by decide +kernel) (by decide +kernel), xw 21 (by decide +kernel) (by decide +kernel), by decide, by decide, (by decide +kernel), by decide⟩
theorem xdX4_keepOnly : xdF mX4_keepOnly := ⟨xw 478 (by decide +kernel) (by decide +kernel), xw 21 (by decide +kernel) (by decide +kernel), by decide, by decide, (by decide +kernel), by decide⟩
theorem xdX4_renumbered : xdF mX4_renumbered := ⟨xw 485 (by decide +kernel) (by decide +kernel), xw 21 (by decide +kernel) (by decide +kernel), by decide, by decide, (by decide +kernel), by decide⟩
theorem xdX4_moveLine : xdF mX4_moveLine := ⟨xw 495 (by decide +kernel) (by decide +kernel), xw 21 (by decide +kernel) (by decide +kernel), by decide, by decide, (by decide +kernel), by decide⟩
theorem xdX4_keepBoxes : xdF mX4_keepBoxes := ⟨xw 482 (by decide +kernel) (by decide +kernel), xw 21 (by decide +kernel) (by decide +kernel), by decide, by decide, (by decide +kernel), by decide⟩
theorem xdX4_findEnds : xdF mX4_findEnds := ⟨xw 499 (by decide +kernel) (by decide +kernel), xw 21 (by decide +kernel) (by decide +kernel), by decide, by decide, (by decide +kernel), by decide⟩
theorem xdX5_get : xdF mX5_get := ⟨xw 254 (by decide +kernel) (by decide +kernel), xw 19 (by decide +kernel) (by decide +kernel), by decide, by decide, (by decide +kernel), by decide⟩
theorem xdX5_set : xdF mX5_set := ⟨xw 294 (by decide +kernel) (by decide +kernel), xw 19 (by decide +kernel) (by decide +kernel), by decide, by decide, (by decide +kernel), by decide⟩
theorem xdX5_copyFrom : xdF mX5_copyFrom := ⟨xw 274 (by decide +kernel) (by decide +kernel), xw 19 (by decide +kernel) (by decide +kernel), by decide, by decide, (by decide +kernel), by decide⟩
theorem xdX7_copyFrom : xdF mX7_copyFrom := ⟨xw 266 (by decide +kernel) (by decide +kernel), xw 17 (by decide +kernel) (by decide +kernel), by decide, by decide, (by decide +kernel), by decide⟩
theorem xdX8_atom : xdF mX8_atom := ⟨xw 238 (by decide +kernel) (by decide +kernel), xw 16 (by decide +kernel) (by decide +kernel), by decide, by decide, (by decide +kernel), by decide⟩
theorem xdX8_falsum : xdF mX8_falsum := ⟨xw 298 (by decide +kernel) (by decide +kernel), xw 16 (by decide +kernel) (by decide +kernel), by decide, by decide, (by decide +kernel), by decide⟩
theorem xdX8_not : xdF mX8_not := ⟨xw 302 (by decide +kernel) (by decide +kernel), xw 16 (by decide +kernel) (by decide +kernel), by decide, by decide, (by decide +kernel), by decide⟩
theorem xdX8_pair : xdF mX8_pair := ⟨xw 310 (by decide +kernel) (by decide +kernel), xw 16 (by decide +kernel) (by decide +kernel), by decide, by decide, (by decide +kernel), by decide⟩
theorem xdX8_makeFormula : xdF mX8_makeFormula := ⟨xw 242 (by decide +kernel) (by decide +kernel), xw 16 (by decide +kernel) (by decide +kernel), by decide, by decide, (by decide +kernel), by decide⟩
theorem xdX8_formulas : xdF mX8_formulas := ⟨xw 566 (by decide +kernel) (by decide +kernel), xw 16 (by decide +kernel) (by decide +kernel), by decide, by decide, (by decide +kernel), by decide⟩
theorem xdX8_part : xdF mX8_part := ⟨xw 539 (by decide +kernel) (by decide +kernel), xw 16 (by decide +kernel) (by decide +kernel), by decide, by decide, (by decide +kernel), by decide⟩
theorem xdX8_isTrue : xdF mX8_isTrue := ⟨xw 546 (by decide +kernel) (by decide +kernel), xw 16 (by decide +kernel) (by decide +kernel), by decide, by decide, (by decide +kernel), by decide⟩
theorem xdX8_premise : xdF mX8_premise := ⟨xw 314 (by decide +kernel) (by decide +kernel), xw 16 (by decide +kernel) (by decide +kernel), by decide, by decide, (by decide +kernel), by decide⟩
theorem xdX8_open : xdF mX8_open := ⟨xw 331 (by decide +kernel) (by decide +kernel), xw 16 (by decide +kernel) (by decide +kernel), by decide, by decide, (by decide +kernel), by decide⟩
theorem xdX8_close : xdF mX8_close := ⟨xw 353 (by decide +kernel) (by decide +kernel), xw 16 (by decide +kernel) (by decide +kernel), by decide, by decide, (by decide +kernel), by decide⟩
theorem xdX8_repeat : xdF mX8_repeat := ⟨xw 365 (by decide +kernel) (by decide +kernel), xw 16 (by decide +kernel) (by decide +kernel), by decide, by decide, (by decide +kernel), by decide⟩
theorem xdX8_fromTwo : xdF mX8_fromTwo := ⟨xw 382 (by decide +kernel) (by decide +kernel), xw 16 (by decide +kernel) (by decide +kernel), by decide, by decide, (by decide +kernel), by decide⟩
theorem xdX8_fromOne : xdF mX8_fromOne := ⟨xw 394 (by decide +kernel) (by decide +kernel), xw 16 (by decide +kernel) (by decide +kernel), by decide, by decide, (by decide +kernel), by decide⟩
theorem xdX8_toFormula : xdF mX8_toFormula := ⟨xw 403 (by decide +kernel) (by decide +kernel), xw 16 (by decide +kernel) (by decide +kernel), by decide, by decide, (by decide +kernel), by decide⟩
theorem xdX8_fromBox : xdF mX8_fromBox := ⟨xw 411 (by decide +kernel) (by decide +kernel), xw 16 (by decide +kernel) (by decide +kernel), by decide, by decide, (by decide +kernel), by decide⟩
theorem xdX8_cases : xdF mX8_cases := ⟨xw 428 (by decide +kernel) (by decide +kernel), xw 16 (by decide +kernel) (by decide +kernel), by decide, by decide, (by decide +kernel), by decide⟩
theorem xdX8_write : xdF mX8_write := ⟨xw 318 (by decide +kernel) (by decide +kernel), xw 16 (by decide +kernel) (by decide +kernel), by decide, by decide, (by decide +kernel), by decide⟩
theorem xdX8_writeMade : xdF mX8_writeMade := ⟨xw 386 (by decide +kernel) (by decide +kernel), xw 16 (by decide +kernel) (by decide +kernel), by decide, by decide, (by decide +kernel), by decide⟩
theorem xdX8_lines : xdF mX8_lines := ⟨xw 606 (by decide +kernel) (by decide +kernel), xw 16 (by decide +kernel) (by decide +kernel), by decide, by decide, (by decide +kernel), by decide⟩
theorem xdX8_line : xdF mX8_line := ⟨xw 576 (by decide +kernel) (by decide +kernel), xw 16 (by decide +kernel) (by decide +kernel), by decide, by decide, (by decide +kernel), by decide⟩
theorem xdX8_reference : xdF mX8_reference := ⟨xw 597 (by decide +kernel) (by decide +kernel), xw 16 (by decide +kernel) (by decide +kernel), by decide, by decide, (by decide +kernel), by decide⟩
theorem xdX8_boxes : xdF mX8_boxes := ⟨xw 610 (by decide +kernel) (by decide +kernel), xw 16 (by decide +kernel) (by decide +kernel), by decide, by decide, (by decide +kernel), by decide⟩
theorem xdX8_box : xdF mX8_box := ⟨xw 602 (by decide +kernel) (by decide +kernel), xw 16 (by decide +kernel) (by decide +kernel), by decide, by decide, (by decide +kernel), by decide⟩
theorem xdX8_depth : xdF mX8_depth := ⟨xw 335 (by decide +kernel) (by decide +kernel), xw 16 (by decide +kernel) (by decide +kernel), by decide, by decide, (by decide +kernel), by decide⟩
theorem xdX8_needs : xdF mX8_needs := ⟨xw 592 (by decide +kernel) (by decide +kernel), xw 16 (by decide +kernel) (by decide +kernel), by decide, by decide, (by decide +kernel), by decide⟩
theorem xdX8_bypass : xdF mX8_bypass := ⟨xw 587 (by decide +kernel) (by decide +kernel), xw 16 (by decide +kernel) (by decide +kernel), by decide, by decide, (by decide +kernel), by decide⟩
theorem xdX8_detours : xdF mX8_detours := ⟨xw 615 (by decide +kernel) (by decide +kernel), xw 16 (by decide +kernel) (by decide +kernel), by decide, by decide, (by decide +kernel), by decide⟩
theorem xdX8_failure : xdF mX8_failure := ⟨xw 626 (by decide +kernel) (by decide +kernel), xw 16 (by decide +kernel) (by decide +kernel), by decide, by decide, (by decide +kernel), by decide⟩
theorem xdX8_counterexample : xdF mX8_counterexample := ⟨xw 647 (by decide +kernel) (by decide +kernel), xw 16 (by decide +kernel) (by decide +kernel), by decide, by decide, (by decide +kernel), by decide⟩
theorem xdX8_lowestFailure : xdF mX8_lowestFailure := ⟨xw 630 (by decide +kernel) (by decide +kernel), xw 16 (by decide +kernel) (by decide +kernel), by decide, by decide, (by decide +kernel), by decide⟩
theorem xdX8_lowestBit : xdF mX8_lowestBit := ⟨xw 637 (by decide +kernel) (by decide +kernel), xw 16 (by decide +kernel) (by decide +kernel), by decide, by decide, (by decide +kernel), by decide⟩
theorem xdX8_shorten : xdF mX8_shorten := ⟨xw 432 (by decide +kernel) (by decide +kernel), xw 16 (by decide +kernel) (by decide +kernel), by decide, by decide, (by decide +kernel), by decide⟩
theorem xdX8_trim : xdF mX8_trim := ⟨xw 452 (by decide +kernel) (by decide +kernel), xw 16 (by decide +kernel) (by decide +kernel), by decide, by decide, (by decide +kernel), by decide⟩
theorem xdJ6_bitCount_0f7a4 : xdF mJ6_bitCount_0f7a4 := ⟨xw 640 (by decide +kernel) (by decide +kernel), xw 27 (by decide +kernel) (by decide +kernel), by decide, by decide, (by decide +kernel), by decide⟩
theorem xdJ13_bitCount_95d88 : xdF mJ13_bitCount_95d88 := ⟨xw 488 (by decide +kernel) (by decide +kernel), xw 26 (by decide +kernel) (by decide +kernel), by decide, by decide, (by decide +kernel), by decide⟩
theorem xdL_low : xdF mL_low := ⟨xw 507 (by decide +kernel) (by decide +kernel), xw 15 (by decide +kernel) (by decide +kernel), by decide, by decide, (by decide +kernel), by decide⟩
theorem xdL_find : xdF mL_find := ⟨xw 514 (by decide +kernel) (by decide +kernel), xw 15 (by decide +kernel) (by decide +kernel), by decide, by decide, (by decide +kernel), by decide⟩
theorem xdL_make : xdF mL_make := ⟨xw 511 (by decide +kernel) (by decide +kernel), xw 15 (by decide +kernel) (by decide +kernel), by decide, by decide, (by decide +kernel), by decide⟩
theorem xdL_truth : xdF mL_truth := ⟨xw 542 (by decide +kernel) (by decide +kernel), xw 15 (by decide +kernel) (by decide +kernel), by decide, by decide, (by decide +kernel), by decide⟩
theorem xdL_shut : xdF mL_shut := ⟨xw 583 (by decide +kernel) (by decide +kernel), xw 15 (by decide +kernel) (by decide +kernel), by decide, by decide, (by decide +kernel), by decide⟩
theorem xdL_latest : xdF mL_latest := ⟨xw 517 (by decide +kernel) (by decide +kernel), xw 15 (by decide +kernel) (by decide +kernel), by decide, by decide, (by decide +kernel), by decide⟩
theorem xdL_write : xdF mL_write := ⟨xw 520 (by decide +kernel) (by decide +kernel), xw 15 (by decide +kernel) (by decide +kernel), by decide, by decide, (by decide +kernel), by decide⟩
theorem xdL_direct : xdF mL_direct := ⟨xw 526 (by decide +kernel) (by decide +kernel), xw 15 (by decide +kernel) (by decide +kernel), by decide, by decide, (by decide +kernel), by decide⟩
theorem xdL_assumed : xdF mL_assumed := ⟨xw 529 (by decide +kernel) (by decide +kernel), xw 15 (by decide +kernel) (by decide +kernel), by decide, by decide, (by decide +kernel), by decide⟩
theorem xdL_needs : xdF mL_needs := ⟨xw 523 (by decide +kernel) (by decide +kernel), xw 15 (by decide +kernel) (by decide +kernel), by decide, by decide, (by decide +kernel), by decide⟩
theorem xdL_bypass : xdF mL_bypass := ⟨xw 572 (by decide +kernel) (by decide +kernel), xw 15 (by decide +kernel) (by decide +kernel), by decide, by decide, (by decide +kernel), by decide⟩
theorem xdL_bits : xdF mL_bits := ⟨xw 532 (by decide +kernel) (by decide +kernel), xw 15 (by decide +kernel) (by decide +kernel), by decide, by decide, (by decide +kernel), by decide⟩
theorem xdL_formulas : xdF mL_formulas := ⟨xw 535 (by decide +kernel) (by decide +kernel), xw 15 (by decide +kernel) (by decide +kernel), by decide, by decide, (by decide +kernel), by decide⟩
theorem xdL_lines : xdF mL_lines := ⟨xw 569 (by decide +kernel) (by decide +kernel), xw 15 (by decide +kernel) (by decide +kernel), by decide, by decide, (by decide +kernel), by decide⟩
theorem xdL_follows : xdF mL_follows := ⟨xw 622 (by decide +kernel) (by decide +kernel), xw 15 (by decide +kernel) (by decide +kernel), by decide, by decide, (by decide +kernel), by decide⟩
theorem xdL_shorten : xdF mL_shorten := ⟨xw 650 (by decide +kernel) (by decide +kernel), xw 15 (by decide +kernel) (by decide +kernel), by decide, by decide, (by decide +kernel), by decide⟩
theorem xdL_rule : xdF mL_rule := ⟨xw 656 (by decide +kernel) (by decide +kernel), xw 15 (by decide +kernel) (by decide +kernel), by decide, by decide, (by decide +kernel), by decide⟩
def ceX0 : xCE := ([], [], [], [], [])
theorem ceX0_ok : xCEok 0 ceX0 := ⟨xfn, xfn, xfn, xfn, xfn⟩
def ceX1 : xCE := ([], [], [], [], [])
theorem ceX1_ok : xCEok 1 ceX1 := ⟨xfn, xfn, xfn, xfn, xfn⟩
theorem xfX2_9 : xfF 2 (9, 2, 0, 1) := ⟨RX2, TX2, 4, rfl, by decide, xw 62 (by decide +kernel) (by decide +kernel), fun _ => ⟨rfl, rfl⟩, fun h => absurd h (by decide)⟩
theorem xfX2_20 : xfF 2 (20, 2, 1, 0) := ⟨RX2, TX2, 4, rfl, by decide, xw 64 (by decide +kernel) (by decide +kernel), fun h => absurd h (by decide), fun h => absurd h (by decide)⟩
theorem xfX2_24 : xfF 2 (24, 2, 2, 0) := ⟨RX2, TX2, 4, rfl, by decide, xw 66 (by decide +kernel) (by decide +kernel), fun h => absurd h (by decide), fun h => absurd h (by decide)⟩
theorem xfX2_27 : xfF 2 (27, 2, 3, 0) := ⟨RX2, TX2, 4, rfl, by decide, xw 68 (by decide +kernel) (by decide +kernel), fun h => absurd h (by decide), fun h => absurd h (by decide)⟩
theorem xvX2_30 : xvF 2 (30, 5, mX5_copyFrom) := ⟨⟨TX5, 1, rfl⟩, ⟨xw 271 (by decide +kernel) (by decide +kernel), xdX5_copyFrom⟩, xw 272 (by decide +kernel) (by decide +kernel), xw 273 (by decide +kernel) (by decide +kernel)⟩
theorem xvX2_34 : xvF 2 (34, 5, mX5_get) := ⟨⟨TX5, 1, rfl⟩, ⟨xw 251 (by decide +kernel) (by decide +kernel), xdX5_get⟩, xw 252 (by decide +kernel) (by decide +kernel), xw 253 (by decide +kernel) (by decide +kernel)⟩
theorem xvX2_38 : xvF 2 (38, 2, mX2_isOfKind) := ⟨⟨TX2, 4, rfl⟩, ⟨xw 399 (by decide +kernel) (by decide +kernel), xdX2_isOfKind⟩, xw 388 (by decide +kernel) (by decide +kernel), xw 389 (by decide +kernel) (by decide +kernel)⟩
theorem xvX2_42 : xvF 2 (42, 2, mX2_find) := ⟨⟨TX2, 4, rfl⟩, ⟨xw 247 (by decide +kernel) (by decide +kernel), xdX2_find⟩, xw 249 (by decide +kernel) (by decide +kernel), xw 1 (by decide +kernel) (by decide +kernel)⟩
theorem xvX2_46 : xvF 2 (46, 5, mX5_set) := ⟨⟨TX5, 1, rfl⟩, ⟨xw 291 (by decide +kernel) (by decide +kernel), xdX5_set⟩, xw 292 (by decide +kernel) (by decide +kernel), xw 293 (by decide +kernel) (by decide +kernel)⟩
theorem xvX2_65 : xvF 2 (65, 2, mX2_truthOf) := ⟨⟨TX2, 4, rfl⟩, ⟨xw 551 (by decide +kernel) (by decide +kernel), xdX2_truthOf⟩, xw 553 (by decide +kernel) (by decide +kernel), xw 13 (by decide +kernel) (by decide +kernel)⟩
theorem xsX2_69 : xsF 2 (69, 0, mX2_truthOfAtom) := ⟨⟨xw 555 (by decide +kernel) (by decide +kernel), xdX2_truthOfAtom⟩, xw 556 (by decide +kernel) (by decide +kernel)⟩
theorem xkX2_72 : xkF 2 (72, vI (-1431655766)) := xw 558 (by decide +kernel) (by decide +kernel)
theorem xkX2_73 : xkF 2 (73, vI (-858993460)) := xw 559 (by decide +kernel) (by decide +kernel)
theorem xkX2_74 : xkF 2 (74, vI (-252645136)) := xw 560 (by decide +kernel) (by decide +kernel)
theorem xkX2_75 : xkF 2 (75, vI (-16711936)) := xw 561 (by decide +kernel) (by decide +kernel)
theorem xkX2_76 : xkF 2 (76, vI (-65536)) := xw 562 (by decide +kernel) (by decide +kernel)
def ceX2 : xCE := ([(9, 2, 0, 1), (20, 2, 1, 0), (24, 2, 2, 0), (27, 2, 3, 0)], [(30, 5, mX5_copyFrom), (34, 5, mX5_get), (38, 2, mX2_isOfKind), (42, 2, mX2_find), (46, 5, mX5_set), (65, 2, mX2_truthOf)], [(69, 0, mX2_truthOfAtom)], [(72, vI (-1431655766)), (73, vI (-858993460)), (74, vI (-252645136)), (75, vI (-16711936)), (76, vI (-65536))], [])
theorem ceX2_ok : xCEok 2 ceX2 := ⟨(xfc xfX2_9 (xfc xfX2_20 (xfc xfX2_24 (xfc xfX2_27 xfn)))), (xfc xvX2_30 (xfc xvX2_34 (xfc xvX2_38 (xfc xvX2_42 (xfc xvX2_46 (xfc xvX2_65 xfn)))))), (xfc xsX2_69 xfn), (xfc xkX2_72 (xfc xkX2_73 (xfc xkX2_74 (xfc xkX2_75 (xfc xkX2_76 xfn))))), xfn⟩
theorem xfX3_9 : xfF 3 (9, 3, 0, 1) := ⟨RX3, TX3, 3, rfl, by decide, xw 151 (by decide +kernel) (by decide +kernel), fun _ => ⟨rfl, rfl⟩, fun h => absurd h (by decide)⟩
theorem xfX3_15 : xfF 3 (15, 3, 1, 1) := ⟨RX3, TX3, 3, rfl, by decide, xw 152 (by decide +kernel) (by decide +kernel), fun _ => ⟨rfl, rfl⟩, fun h => absurd h (by decide)⟩
theorem xfX3_20 : xfF 3 (20, 3, 2, 0) := ⟨RX3, TX3, 3, rfl, by decide, xw 153 (by decide +kernel) (by decide +kernel), fun h => absurd h (by decide), fun h => absurd h (by decide)⟩
theorem xvX3_25 : xvF 3 (25, 3, mX3_at) := ⟨⟨TX3, 3, rfl⟩, ⟨xw 259 (by decide +kernel) (by decide +kernel), xdX3_at⟩, xw 261 (by decide +kernel) (by decide +kernel), xw 2 (by decide +kernel) (by decide +kernel)⟩
theorem xvX3_29 : xvF 3 (29, 6, mX7_copyFrom) := ⟨⟨TX7, 2, rfl⟩, ⟨xw 263 (by decide +kernel) (by decide +kernel), xdX7_copyFrom⟩, xw 264 (by decide +kernel) (by decide +kernel), xw 265 (by decide +kernel) (by decide +kernel)⟩
theorem xnX3_33 : xnF 3 (33, 1) := ⟨fun _ => ⟨xw 286 (by decide +kernel) (by decide +kernel), xw 276 (by decide +kernel) (by decide +kernel), xw 20 (by decide +kernel) (by decide +kernel), xw 277 (by decide +kernel) (by decide +kernel)⟩, fun h => absurd h (by decide)⟩
def ceX3 : xCE := ([(9, 3, 0, 1), (15, 3, 1, 1), (20, 3, 2, 0)], [(25, 3, mX3_at), (29, 6, mX7_copyFrom)], [], [], [(33, 1)])
theorem ceX3_ok : xCEok 3 ceX3 := ⟨(xfc xfX3_9 (xfc xfX3_15 (xfc xfX3_20 xfn))), (xfc xvX3_25 (xfc xvX3_29 xfn)), xfn, xfn, (xfc xnX3_33 xfn)⟩
theorem xfX4_9 : xfF 4 (9, 4, 0, 1) := ⟨RX4, TX4, 12, rfl, by decide, xw 87 (by decide +kernel) (by decide +kernel), fun _ => ⟨rfl, rfl⟩, fun h => absurd h (by decide)⟩
theorem xfX4_15 : xfF 4 (15, 4, 1, 1) := ⟨RX4, TX4, 12, rfl, by decide, xw 89 (by decide +kernel) (by decide +kernel), fun _ => ⟨rfl, rfl⟩, fun h => absurd h (by decide)⟩
theorem xfX4_18 : xfF 4 (18, 4, 2, 1) := ⟨RX4, TX4, 12, rfl, by decide, xw 91 (by decide +kernel) (by decide +kernel), fun _ => ⟨rfl, rfl⟩, fun h => absurd h (by decide)⟩
theorem xfX4_26 : xfF 4 (26, 4, 3, 0) := ⟨RX4, TX4, 12, rfl, by decide, xw 93 (by decide +kernel) (by decide +kernel), fun h => absurd h (by decide), fun h => absurd h (by decide)⟩
theorem xfX4_30 : xfF 4 (30, 4, 4, 0) := ⟨RX4, TX4, 12, rfl, by decide, xw 95 (by decide +kernel) (by decide +kernel), fun h => absurd h (by decide), fun h => absurd h (by decide)⟩
theorem xfX4_33 : xfF 4 (33, 4, 5, 0) := ⟨RX4, TX4, 12, rfl, by decide, xw 97 (by decide +kernel) (by decide +kernel), fun h => absurd h (by decide), fun h => absurd h (by decide)⟩
theorem xfX4_36 : xfF 4 (36, 4, 6, 0) := ⟨RX4, TX4, 12, rfl, by decide, xw 99 (by decide +kernel) (by decide +kernel), fun h => absurd h (by decide), fun h => absurd h (by decide)⟩
theorem xfX4_39 : xfF 4 (39, 4, 7, 0) := ⟨RX4, TX4, 12, rfl, by decide, xw 100 (by decide +kernel) (by decide +kernel), fun h => absurd h (by decide), fun h => absurd h (by decide)⟩
theorem xfX4_42 : xfF 4 (42, 4, 8, 0) := ⟨RX4, TX4, 12, rfl, by decide, xw 101 (by decide +kernel) (by decide +kernel), fun h => absurd h (by decide), fun h => absurd h (by decide)⟩
theorem xfX4_45 : xfF 4 (45, 4, 9, 0) := ⟨RX4, TX4, 12, rfl, by decide, xw 102 (by decide +kernel) (by decide +kernel), fun h => absurd h (by decide), fun h => absurd h (by decide)⟩
theorem xfX4_48 : xfF 4 (48, 4, 10, 0) := ⟨RX4, TX4, 12, rfl, by decide, xw 104 (by decide +kernel) (by decide +kernel), fun h => absurd h (by decide), fun h => absurd h (by decide)⟩
theorem xfX4_51 : xfF 4 (51, 4, 11, 0) := ⟨RX4, TX4, 12, rfl, by decide, xw 106 (by decide +kernel) (by decide +kernel), fun h => absurd h (by decide), fun h => absurd h (by decide)⟩
theorem xvX4_54 : xvF 4 (54, 5, mX5_copyFrom) := ⟨⟨TX5, 1, rfl⟩, ⟨xw 285 (by decide +kernel) (by decide +kernel), xdX5_copyFrom⟩, xw 272 (by decide +kernel) (by decide +kernel), xw 273 (by decide +kernel) (by decide +kernel)⟩
theorem xvX4_58 : xvF 4 (58, 5, mX5_set) := ⟨⟨TX5, 1, rfl⟩, ⟨xw 327 (by decide +kernel) (by decide +kernel), xdX5_set⟩, xw 292 (by decide +kernel) (by decide +kernel), xw 293 (by decide +kernel) (by decide +kernel)⟩
theorem xvX4_62 : xvF 4 (62, 4, mX4_addLine) := ⟨⟨TX4, 12, rfl⟩, ⟨xw 349 (by decide +kernel) (by decide +kernel), xdX4_addLine⟩, xw 324 (by decide +kernel) (by decide +kernel), xw 325 (by decide +kernel) (by decide +kernel)⟩
theorem xvX4_66 : xvF 4 (66, 5, mX5_get) := ⟨⟨TX5, 1, rfl⟩, ⟨xw 344 (by decide +kernel) (by decide +kernel), xdX5_get⟩, xw 252 (by decide +kernel) (by decide +kernel), xw 253 (by decide +kernel) (by decide +kernel)⟩
theorem xvX4_70 : xvF 4 (70, 4, mX4_hasBox) := ⟨⟨TX4, 12, rfl⟩, ⟨xw 340 (by decide +kernel) (by decide +kernel), xdX4_hasBox⟩, xw 341 (by decide +kernel) (by decide +kernel), xw 342 (by decide +kernel) (by decide +kernel)⟩
theorem xvX4_74 : xvF 4 (74, 4, mX4_isNoneOrOpen) := ⟨⟨TX4, 12, rfl⟩, ⟨xw 374 (by decide +kernel) (by decide +kernel), xdX4_isNoneOrOpen⟩, xw 376 (by decide +kernel) (by decide +kernel), xw 4 (by decide +kernel) (by decide +kernel)⟩
theorem xvX4_81 : xvF 4 (81, 4, mX4_countLineReferences) := ⟨⟨TX4, 12, rfl⟩, ⟨xw 437 (by decide +kernel) (by decide +kernel), xdX4_countLineReferences⟩, xw 439 (by decide +kernel) (by decide +kernel), xw 6 (by decide +kernel) (by decide +kernel)⟩
theorem xvX4_84 : xvF 4 (84, 4, mX4_referenceAt) := ⟨⟨TX4, 12, rfl⟩, ⟨xw 467 (by decide +kernel) (by decide +kernel), xdX4_referenceAt⟩, xw 468 (by decide +kernel) (by decide +kernel), xw 469 (by decide +kernel) (by decide +kernel)⟩
theorem xvX4_88 : xvF 4 (88, 4, mX4_directNeeds) := ⟨⟨TX4, 12, rfl⟩, ⟨xw 463 (by decide +kernel) (by decide +kernel), xdX4_directNeeds⟩, xw 465 (by decide +kernel) (by decide +kernel), xw 8 (by decide +kernel) (by decide +kernel)⟩
theorem xvX4_95 : xvF 4 (95, 4, mX4_assumptionsFrom) := ⟨⟨TX4, 12, rfl⟩, ⟨xw 471 (by decide +kernel) (by decide +kernel), xdX4_assumptionsFrom⟩, xw 473 (by decide +kernel) (by decide +kernel), xw 9 (by decide +kernel) (by decide +kernel)⟩
theorem xvX4_98 : xvF 4 (98, 4, mX4_bypassOf) := ⟨⟨TX4, 12, rfl⟩, ⟨xw 445 (by decide +kernel) (by decide +kernel), xdX4_bypassOf⟩, xw 446 (by decide +kernel) (by decide +kernel), xw 447 (by decide +kernel) (by decide +kernel)⟩
theorem xvX4_101 : xvF 4 (101, 4, mX4_bypassIn) := ⟨⟨TX4, 12, rfl⟩, ⟨xw 441 (by decide +kernel) (by decide +kernel), xdX4_bypassIn⟩, xw 443 (by decide +kernel) (by decide +kernel), xw 7 (by decide +kernel) (by decide +kernel)⟩
theorem xvX4_105 : xvF 4 (105, 4, mX4_keepBoxes) := ⟨⟨TX4, 12, rfl⟩, ⟨xw 479 (by decide +kernel) (by decide +kernel), xdX4_keepBoxes⟩, xw 481 (by decide +kernel) (by decide +kernel), xw 10 (by decide +kernel) (by decide +kernel)⟩
theorem xvX4_109 : xvF 4 (109, 4, mX4_moveLine) := ⟨⟨TX4, 12, rfl⟩, ⟨xw 492 (by decide +kernel) (by decide +kernel), xdX4_moveLine⟩, xw 494 (by decide +kernel) (by decide +kernel), xw 11 (by decide +kernel) (by decide +kernel)⟩
theorem xvX4_113 : xvF 4 (113, 4, mX4_findEnds) := ⟨⟨TX4, 12, rfl⟩, ⟨xw 496 (by decide +kernel) (by decide +kernel), xdX4_findEnds⟩, xw 498 (by decide +kernel) (by decide +kernel), xw 12 (by decide +kernel) (by decide +kernel)⟩
theorem xsX4_77 : xsF 4 (77, 0, mX4_bit) := ⟨⟨xw 457 (by decide +kernel) (by decide +kernel), xdX4_bit⟩, xw 458 (by decide +kernel) (by decide +kernel)⟩
theorem xsX4_91 : xsF 4 (91, 0, mX4_contains) := ⟨⟨xw 460 (by decide +kernel) (by decide +kernel), xdX4_contains⟩, xw 461 (by decide +kernel) (by decide +kernel)⟩
theorem xsX4_116 : xsF 4 (116, 0, mJ13_bitCount_95d88) := ⟨⟨xw 486 (by decide +kernel) (by decide +kernel), xdJ13_bitCount_95d88⟩, xw 487 (by decide +kernel) (by decide +kernel)⟩
theorem xsX4_122 : xsF 4 (122, 0, mX4_renumbered) := ⟨⟨xw 483 (by decide +kernel) (by decide +kernel), xdX4_renumbered⟩, xw 484 (by decide +kernel) (by decide +kernel)⟩
def ceX4 : xCE := ([(9, 4, 0, 1), (15, 4, 1, 1), (18, 4, 2, 1), (26, 4, 3, 0), (30, 4, 4, 0), (33, 4, 5, 0), (36, 4, 6, 0), (39, 4, 7, 0), (42, 4, 8, 0), (45, 4, 9, 0), (48, 4, 10, 0), (51, 4, 11, 0)], [(54, 5, mX5_copyFrom), (58, 5, mX5_set), (62, 4, mX4_addLine), (66, 5, mX5_get), (70, 4, mX4_hasBox), (74, 4, mX4_isNoneOrOpen), (81, 4, mX4_countLineReferences), (84, 4, mX4_referenceAt), (88, 4, mX4_directNeeds), (95, 4, mX4_assumptionsFrom), (98, 4, mX4_bypassOf), (101, 4, mX4_bypassIn), (105, 4, mX4_keepBoxes), (109, 4, mX4_moveLine), (113, 4, mX4_findEnds)], [(77, 0, mX4_bit), (91, 0, mX4_contains), (116, 0, mJ13_bitCount_95d88), (122, 0, mX4_renumbered)], [], [])
theorem ceX4_ok : xCEok 4 ceX4 := ⟨(xfc xfX4_9 (xfc xfX4_15 (xfc xfX4_18 (xfc xfX4_26 (xfc xfX4_30 (xfc xfX4_33 (xfc xfX4_36 (xfc xfX4_39 (xfc xfX4_42 (xfc xfX4_45 (xfc xfX4_48 (xfc xfX4_51 xfn)))))))))))), (xfc xvX4_54 (xfc xvX4_58 (xfc xvX4_62 (xfc xvX4_66 (xfc xvX4_70 (xfc xvX4_74 (xfc xvX4_81 (xfc xvX4_84 (xfc xvX4_88 (xfc xvX4_95 (xfc xvX4_98 (xfc xvX4_101 (xfc xvX4_105 (xfc xvX4_109 (xfc xvX4_113 xfn))))))))))))))), (xfc xsX4_77 (xfc xsX4_91 (xfc xsX4_116 (xfc xsX4_122 xfn)))), xfn, xfn⟩
theorem xfX5_15 : xfF 5 (15, 5, 0, 0) := ⟨RX5, TX5, 1, rfl, by decide, xw 57 (by decide +kernel) (by decide +kernel), fun h => absurd h (by decide), fun h => absurd h (by decide)⟩
theorem xnX5_21 : xnF 5 (21, 1) := ⟨fun _ => ⟨xw 275 (by decide +kernel) (by decide +kernel), xw 276 (by decide +kernel) (by decide +kernel), xw 20 (by decide +kernel) (by decide +kernel), xw 277 (by decide +kernel) (by decide +kernel)⟩, fun h => absurd h (by decide)⟩
theorem xnX5_24 : xnF 5 (24, 2) := ⟨fun h => absurd h (by decide), fun _ => ⟨xw 278 (by decide +kernel) (by decide +kernel), xw 280 (by decide +kernel) (by decide +kernel), xw 279 (by decide +kernel) (by decide +kernel), xw 25 (by decide +kernel) (by decide +kernel)⟩⟩
def ceX5 : xCE := ([(15, 5, 0, 0)], [], [], [], [(21, 1), (24, 2)])
theorem ceX5_ok : xCEok 5 ceX5 := ⟨(xfc xfX5_15 xfn), xfn, xfn, xfn, (xfc xnX5_21 (xfc xnX5_24 xfn))⟩
def ceX6 : xCE := ([], [], [], [], [])
theorem ceX6_ok : xCEok 6 ceX6 := ⟨xfn, xfn, xfn, xfn, xfn⟩
theorem xfX7_10 : xfF 7 (10, 6, 0, 0) := ⟨RX7, TX7, 2, rfl, by decide, xw 133 (by decide +kernel) (by decide +kernel), fun h => absurd h (by decide), fun h => absurd h (by decide)⟩
theorem xfX7_19 : xfF 7 (19, 6, 1, 0) := ⟨RX7, TX7, 2, rfl, by decide, xw 135 (by decide +kernel) (by decide +kernel), fun h => absurd h (by decide), fun h => absurd h (by decide)⟩
theorem xvX7_23 : xvF 7 (23, 2, mX2_copyFrom) := ⟨⟨TX2, 4, rfl⟩, ⟨xw 267 (by decide +kernel) (by decide +kernel), xdX2_copyFrom⟩, xw 268 (by decide +kernel) (by decide +kernel), xw 269 (by decide +kernel) (by decide +kernel)⟩
theorem xvX7_27 : xvF 7 (27, 4, mX4_copyFrom) := ⟨⟨TX4, 12, rfl⟩, ⟨xw 281 (by decide +kernel) (by decide +kernel), xdX4_copyFrom⟩, xw 282 (by decide +kernel) (by decide +kernel), xw 283 (by decide +kernel) (by decide +kernel)⟩
def ceX7 : xCE := ([(10, 6, 0, 0), (19, 6, 1, 0)], [(23, 2, mX2_copyFrom), (27, 4, mX4_copyFrom)], [], [], [])
theorem ceX7_ok : xCEok 7 ceX7 := ⟨(xfc xfX7_10 (xfc xfX7_19 xfn)), (xfc xvX7_23 (xfc xvX7_27 xfn)), xfn, xfn, xfn⟩
theorem xfX8_10 : xfF 8 (10, 7, 0, 0) := ⟨RX8, TX8, 9, rfl, by decide, xw 207 (by decide +kernel) (by decide +kernel), fun h => absurd h (by decide), fun h => absurd h (by decide)⟩
theorem xfX8_22 : xfF 8 (22, 7, 2, 0) := ⟨RX8, TX8, 9, rfl, by decide, xw 209 (by decide +kernel) (by decide +kernel), fun h => absurd h (by decide), fun h => absurd h (by decide)⟩
theorem xfX8_56 : xfF 8 (56, 7, 7, 0) := ⟨RX8, TX8, 9, rfl, by decide, xw 214 (by decide +kernel) (by decide +kernel), fun h => absurd h (by decide), fun h => absurd h (by decide)⟩
theorem xfX8_67 : xfF 8 (67, 6, 0, 0) := ⟨RX7, TX7, 2, rfl, by decide, xw 134 (by decide +kernel) (by decide +kernel), fun h => absurd h (by decide), fun h => absurd h (by decide)⟩
theorem xfX8_85 : xfF 8 (85, 2, 0, 1) := ⟨RX2, TX2, 4, rfl, by decide, xw 63 (by decide +kernel) (by decide +kernel), fun _ => ⟨rfl, rfl⟩, fun h => absurd h (by decide)⟩
theorem xfX8_89 : xfF 8 (89, 2, 1, 0) := ⟨RX2, TX2, 4, rfl, by decide, xw 65 (by decide +kernel) (by decide +kernel), fun h => absurd h (by decide), fun h => absurd h (by decide)⟩
theorem xfX8_96 : xfF 8 (96, 2, 2, 0) := ⟨RX2, TX2, 4, rfl, by decide, xw 67 (by decide +kernel) (by decide +kernel), fun h => absurd h (by decide), fun h => absurd h (by decide)⟩
theorem xfX8_99 : xfF 8 (99, 2, 3, 0) := ⟨RX2, TX2, 4, rfl, by decide, xw 69 (by decide +kernel) (by decide +kernel), fun h => absurd h (by decide), fun h => absurd h (by decide)⟩
theorem xfX8_114 : xfF 8 (114, 6, 1, 0) := ⟨RX7, TX7, 2, rfl, by decide, xw 136 (by decide +kernel) (by decide +kernel), fun h => absurd h (by decide), fun h => absurd h (by decide)⟩
theorem xfX8_118 : xfF 8 (118, 4, 2, 1) := ⟨RX4, TX4, 12, rfl, by decide, xw 92 (by decide +kernel) (by decide +kernel), fun _ => ⟨rfl, rfl⟩, fun h => absurd h (by decide)⟩
theorem xfX8_150 : xfF 8 (150, 4, 3, 0) := ⟨RX4, TX4, 12, rfl, by decide, xw 94 (by decide +kernel) (by decide +kernel), fun h => absurd h (by decide), fun h => absurd h (by decide)⟩
theorem xfX8_183 : xfF 8 (183, 4, 0, 1) := ⟨RX4, TX4, 12, rfl, by decide, xw 88 (by decide +kernel) (by decide +kernel), fun _ => ⟨rfl, rfl⟩, fun h => absurd h (by decide)⟩
theorem xfX8_186 : xfF 8 (186, 4, 4, 0) := ⟨RX4, TX4, 12, rfl, by decide, xw 96 (by decide +kernel) (by decide +kernel), fun h => absurd h (by decide), fun h => absurd h (by decide)⟩
theorem xfX8_189 : xfF 8 (189, 4, 5, 0) := ⟨RX4, TX4, 12, rfl, by decide, xw 98 (by decide +kernel) (by decide +kernel), fun h => absurd h (by decide), fun h => absurd h (by decide)⟩
theorem xfX8_201 : xfF 8 (201, 4, 1, 1) := ⟨RX4, TX4, 12, rfl, by decide, xw 90 (by decide +kernel) (by decide +kernel), fun _ => ⟨rfl, rfl⟩, fun h => absurd h (by decide)⟩
theorem xfX8_204 : xfF 8 (204, 4, 9, 0) := ⟨RX4, TX4, 12, rfl, by decide, xw 103 (by decide +kernel) (by decide +kernel), fun h => absurd h (by decide), fun h => absurd h (by decide)⟩
theorem xfX8_207 : xfF 8 (207, 4, 10, 0) := ⟨RX4, TX4, 12, rfl, by decide, xw 105 (by decide +kernel) (by decide +kernel), fun h => absurd h (by decide), fun h => absurd h (by decide)⟩
theorem xfX8_210 : xfF 8 (210, 4, 11, 0) := ⟨RX4, TX4, 12, rfl, by decide, xw 107 (by decide +kernel) (by decide +kernel), fun h => absurd h (by decide), fun h => absurd h (by decide)⟩
theorem xvX8_63 : xvF 8 (63, 7, mX8_makeFormula) := ⟨⟨TX8, 9, rfl⟩, ⟨xw 239 (by decide +kernel) (by decide +kernel), xdX8_makeFormula⟩, xw 241 (by decide +kernel) (by decide +kernel), xw 0 (by decide +kernel) (by decide +kernel)⟩
theorem xvX8_70 : xvF 8 (70, 2, mX2_has) := ⟨⟨TX2, 4, rfl⟩, ⟨xw 303 (by decide +kernel) (by decide +kernel), xdX2_has⟩, xw 304 (by decide +kernel) (by decide +kernel), xw 305 (by decide +kernel) (by decide +kernel)⟩
theorem xvX8_74 : xvF 8 (74, 2, mX2_hasRoomFor) := ⟨⟨TX2, 4, rfl⟩, ⟨xw 243 (by decide +kernel) (by decide +kernel), xdX2_hasRoomFor⟩, xw 244 (by decide +kernel) (by decide +kernel), xw 245 (by decide +kernel) (by decide +kernel)⟩
theorem xvX8_78 : xvF 8 (78, 3, mX3_record) := ⟨⟨TX3, 3, rfl⟩, ⟨xw 255 (by decide +kernel) (by decide +kernel), xdX3_record⟩, xw 256 (by decide +kernel) (by decide +kernel), xw 257 (by decide +kernel) (by decide +kernel)⟩
theorem xvX8_82 : xvF 8 (82, 2, mX2_make) := ⟨⟨TX2, 4, rfl⟩, ⟨xw 287 (by decide +kernel) (by decide +kernel), xdX2_make⟩, xw 288 (by decide +kernel) (by decide +kernel), xw 289 (by decide +kernel) (by decide +kernel)⟩
theorem xvX8_92 : xvF 8 (92, 5, mX5_get) := ⟨⟨TX5, 1, rfl⟩, ⟨xw 378 (by decide +kernel) (by decide +kernel), xdX5_get⟩, xw 252 (by decide +kernel) (by decide +kernel), xw 253 (by decide +kernel) (by decide +kernel)⟩
theorem xvX8_110 : xvF 8 (110, 2, mX2_evaluate) := ⟨⟨TX2, 4, rfl⟩, ⟨xw 547 (by decide +kernel) (by decide +kernel), xdX2_evaluate⟩, xw 548 (by decide +kernel) (by decide +kernel), xw 549 (by decide +kernel) (by decide +kernel)⟩
theorem xvX8_123 : xvF 8 (123, 7, mX8_write) := ⟨⟨TX8, 9, rfl⟩, ⟨xw 315 (by decide +kernel) (by decide +kernel), xdX8_write⟩, xw 317 (by decide +kernel) (by decide +kernel), xw 3 (by decide +kernel) (by decide +kernel)⟩
theorem xvX8_127 : xvF 8 (127, 4, mX4_isFull) := ⟨⟨TX4, 12, rfl⟩, ⟨xw 319 (by decide +kernel) (by decide +kernel), xdX4_isFull⟩, xw 320 (by decide +kernel) (by decide +kernel), xw 321 (by decide +kernel) (by decide +kernel)⟩
theorem xvX8_131 : xvF 8 (131, 7, mX8_depth) := ⟨⟨TX8, 9, rfl⟩, ⟨xw 332 (by decide +kernel) (by decide +kernel), xdX8_depth⟩, xw 333 (by decide +kernel) (by decide +kernel), xw 334 (by decide +kernel) (by decide +kernel)⟩
theorem xvX8_135 : xvF 8 (135, 4, mX4_openBox) := ⟨⟨TX4, 12, rfl⟩, ⟨xw 345 (by decide +kernel) (by decide +kernel), xdX4_openBox⟩, xw 346 (by decide +kernel) (by decide +kernel), xw 347 (by decide +kernel) (by decide +kernel)⟩
theorem xvX8_138 : xvF 8 (138, 4, mX4_canCloseBox) := ⟨⟨TX4, 12, rfl⟩, ⟨xw 354 (by decide +kernel) (by decide +kernel), xdX4_canCloseBox⟩, xw 355 (by decide +kernel) (by decide +kernel), xw 356 (by decide +kernel) (by decide +kernel)⟩
theorem xvX8_141 : xvF 8 (141, 4, mX4_closeBox) := ⟨⟨TX4, 12, rfl⟩, ⟨xw 358 (by decide +kernel) (by decide +kernel), xdX4_closeBox⟩, xw 359 (by decide +kernel) (by decide +kernel), xw 360 (by decide +kernel) (by decide +kernel)⟩
theorem xvX8_144 : xvF 8 (144, 4, mX4_hasLine) := ⟨⟨TX4, 12, rfl⟩, ⟨xw 366 (by decide +kernel) (by decide +kernel), xdX4_hasLine⟩, xw 367 (by decide +kernel) (by decide +kernel), xw 368 (by decide +kernel) (by decide +kernel)⟩
theorem xvX8_147 : xvF 8 (147, 4, mX4_isLineAvailable) := ⟨⟨TX4, 12, rfl⟩, ⟨xw 370 (by decide +kernel) (by decide +kernel), xdX4_isLineAvailable⟩, xw 371 (by decide +kernel) (by decide +kernel), xw 372 (by decide +kernel) (by decide +kernel)⟩
theorem xvX8_153 : xvF 8 (153, 7, mX8_writeMade) := ⟨⟨TX8, 9, rfl⟩, ⟨xw 383 (by decide +kernel) (by decide +kernel), xdX8_writeMade⟩, xw 385 (by decide +kernel) (by decide +kernel), xw 5 (by decide +kernel) (by decide +kernel)⟩
theorem xvX8_157 : xvF 8 (157, 2, mX2_isOfKind) := ⟨⟨TX2, 4, rfl⟩, ⟨xw 387 (by decide +kernel) (by decide +kernel), xdX2_isOfKind⟩, xw 388 (by decide +kernel) (by decide +kernel), xw 389 (by decide +kernel) (by decide +kernel)⟩
theorem xvX8_161 : xvF 8 (161, 2, mX2_takenOut) := ⟨⟨TX2, 4, rfl⟩, ⟨xw 395 (by decide +kernel) (by decide +kernel), xdX2_takenOut⟩, xw 396 (by decide +kernel) (by decide +kernel), xw 397 (by decide +kernel) (by decide +kernel)⟩
theorem xvX8_165 : xvF 8 (165, 2, mX2_isPartOfDisjunction) := ⟨⟨TX2, 4, rfl⟩, ⟨xw 404 (by decide +kernel) (by decide +kernel), xdX2_isPartOfDisjunction⟩, xw 405 (by decide +kernel) (by decide +kernel), xw 406 (by decide +kernel) (by decide +kernel)⟩
theorem xvX8_168 : xvF 8 (168, 4, mX4_hasBox) := ⟨⟨TX4, 12, rfl⟩, ⟨xw 412 (by decide +kernel) (by decide +kernel), xdX4_hasBox⟩, xw 341 (by decide +kernel) (by decide +kernel), xw 342 (by decide +kernel) (by decide +kernel)⟩
theorem xvX8_171 : xvF 8 (171, 4, mX4_isBoxAvailable) := ⟨⟨TX4, 12, rfl⟩, ⟨xw 413 (by decide +kernel) (by decide +kernel), xdX4_isBoxAvailable⟩, xw 414 (by decide +kernel) (by decide +kernel), xw 415 (by decide +kernel) (by decide +kernel)⟩
theorem xvX8_174 : xvF 8 (174, 4, mX4_assumptionOf) := ⟨⟨TX4, 12, rfl⟩, ⟨xw 417 (by decide +kernel) (by decide +kernel), xdX4_assumptionOf⟩, xw 418 (by decide +kernel) (by decide +kernel), xw 419 (by decide +kernel) (by decide +kernel)⟩
theorem xvX8_177 : xvF 8 (177, 4, mX4_conclusionOf) := ⟨⟨TX4, 12, rfl⟩, ⟨xw 421 (by decide +kernel) (by decide +kernel), xdX4_conclusionOf⟩, xw 422 (by decide +kernel) (by decide +kernel), xw 423 (by decide +kernel) (by decide +kernel)⟩
theorem xvX8_180 : xvF 8 (180, 4, mX4_addLine) := ⟨⟨TX4, 12, rfl⟩, ⟨xw 323 (by decide +kernel) (by decide +kernel), xdX4_addLine⟩, xw 324 (by decide +kernel) (by decide +kernel), xw 325 (by decide +kernel) (by decide +kernel)⟩
theorem xvX8_192 : xvF 8 (192, 4, mX4_nesting) := ⟨⟨TX4, 12, rfl⟩, ⟨xw 336 (by decide +kernel) (by decide +kernel), xdX4_nesting⟩, xw 337 (by decide +kernel) (by decide +kernel), xw 338 (by decide +kernel) (by decide +kernel)⟩
theorem xvX8_195 : xvF 8 (195, 4, mX4_countUsers) := ⟨⟨TX4, 12, rfl⟩, ⟨xw 577 (by decide +kernel) (by decide +kernel), xdX4_countUsers⟩, xw 578 (by decide +kernel) (by decide +kernel), xw 579 (by decide +kernel) (by decide +kernel)⟩
theorem xvX8_198 : xvF 8 (198, 4, mX4_referenceAt) := ⟨⟨TX4, 12, rfl⟩, ⟨xw 598 (by decide +kernel) (by decide +kernel), xdX4_referenceAt⟩, xw 468 (by decide +kernel) (by decide +kernel), xw 469 (by decide +kernel) (by decide +kernel)⟩
theorem xvX8_215 : xvF 8 (215, 4, mX4_allNeeds) := ⟨⟨TX4, 12, rfl⟩, ⟨xw 453 (by decide +kernel) (by decide +kernel), xdX4_allNeeds⟩, xw 454 (by decide +kernel) (by decide +kernel), xw 455 (by decide +kernel) (by decide +kernel)⟩
theorem xvX8_219 : xvF 8 (219, 4, mX4_bypassOf) := ⟨⟨TX4, 12, rfl⟩, ⟨xw 588 (by decide +kernel) (by decide +kernel), xdX4_bypassOf⟩, xw 446 (by decide +kernel) (by decide +kernel), xw 447 (by decide +kernel) (by decide +kernel)⟩
theorem xvX8_222 : xvF 8 (222, 4, mX4_countDetours) := ⟨⟨TX4, 12, rfl⟩, ⟨xw 616 (by decide +kernel) (by decide +kernel), xdX4_countDetours⟩, xw 617 (by decide +kernel) (by decide +kernel), xw 618 (by decide +kernel) (by decide +kernel)⟩
theorem xvX8_225 : xvF 8 (225, 7, mX8_lowestFailure) := ⟨⟨TX8, 9, rfl⟩, ⟨xw 627 (by decide +kernel) (by decide +kernel), xdX8_lowestFailure⟩, xw 629 (by decide +kernel) (by decide +kernel), xw 14 (by decide +kernel) (by decide +kernel)⟩
theorem xvX8_228 : xvF 8 (228, 4, mX4_allowedValuations) := ⟨⟨TX4, 12, rfl⟩, ⟨xw 631 (by decide +kernel) (by decide +kernel), xdX4_allowedValuations⟩, xw 632 (by decide +kernel) (by decide +kernel), xw 633 (by decide +kernel) (by decide +kernel)⟩
theorem xvX8_240 : xvF 8 (240, 4, mX4_bypassDetours) := ⟨⟨TX4, 12, rfl⟩, ⟨xw 433 (by decide +kernel) (by decide +kernel), xdX4_bypassDetours⟩, xw 434 (by decide +kernel) (by decide +kernel), xw 435 (by decide +kernel) (by decide +kernel)⟩
theorem xvX8_243 : xvF 8 (243, 4, mX4_keepOnly) := ⟨⟨TX4, 12, rfl⟩, ⟨xw 475 (by decide +kernel) (by decide +kernel), xdX4_keepOnly⟩, xw 476 (by decide +kernel) (by decide +kernel), xw 477 (by decide +kernel) (by decide +kernel)⟩
theorem xsX8_232 : xsF 8 (232, 0, mX8_lowestBit) := ⟨⟨xw 635 (by decide +kernel) (by decide +kernel), xdX8_lowestBit⟩, xw 636 (by decide +kernel) (by decide +kernel)⟩
theorem xsX8_235 : xsF 8 (235, 0, mJ6_bitCount_0f7a4) := ⟨⟨xw 638 (by decide +kernel) (by decide +kernel), xdJ6_bitCount_0f7a4⟩, xw 639 (by decide +kernel) (by decide +kernel)⟩
theorem xkX8_213 : xkF 8 (213, vL (-1)) := xw 593 (by decide +kernel) (by decide +kernel)
def ceX8 : xCE := ([(10, 7, 0, 0), (22, 7, 2, 0), (56, 7, 7, 0), (67, 6, 0, 0), (85, 2, 0, 1), (89, 2, 1, 0), (96, 2, 2, 0), (99, 2, 3, 0), (114, 6, 1, 0), (118, 4, 2, 1), (150, 4, 3, 0), (183, 4, 0, 1), (186, 4, 4, 0), (189, 4, 5, 0), (201, 4, 1, 1), (204, 4, 9, 0), (207, 4, 10, 0), (210, 4, 11, 0)], [(63, 7, mX8_makeFormula), (70, 2, mX2_has), (74, 2, mX2_hasRoomFor), (78, 3, mX3_record), (82, 2, mX2_make), (92, 5, mX5_get), (110, 2, mX2_evaluate), (123, 7, mX8_write), (127, 4, mX4_isFull), (131, 7, mX8_depth), (135, 4, mX4_openBox), (138, 4, mX4_canCloseBox), (141, 4, mX4_closeBox), (144, 4, mX4_hasLine), (147, 4, mX4_isLineAvailable), (153, 7, mX8_writeMade), (157, 2, mX2_isOfKind), (161, 2, mX2_takenOut), (165, 2, mX2_isPartOfDisjunction), (168, 4, mX4_hasBox), (171, 4, mX4_isBoxAvailable), (174, 4, mX4_assumptionOf), (177, 4, mX4_conclusionOf), (180, 4, mX4_addLine), (192, 4, mX4_nesting), (195, 4, mX4_countUsers), (198, 4, mX4_referenceAt), (215, 4, mX4_allNeeds), (219, 4, mX4_bypassOf), (222, 4, mX4_countDetours), (225, 7, mX8_lowestFailure), (228, 4, mX4_allowedValuations), (240, 4, mX4_bypassDetours), (243, 4, mX4_keepOnly)], [(232, 0, mX8_lowestBit), (235, 0, mJ6_bitCount_0f7a4)], [(213, vL (-1))], [])
theorem ceX8_ok : xCEok 8 ceX8 := ⟨(xfc xfX8_10 (xfc xfX8_22 (xfc xfX8_56 (xfc xfX8_67 (xfc xfX8_85 (xfc xfX8_89 (xfc xfX8_96 (xfc xfX8_99 (xfc xfX8_114 (xfc xfX8_118 (xfc xfX8_150 (xfc xfX8_183 (xfc xfX8_186 (xfc xfX8_189 (xfc xfX8_201 (xfc xfX8_204 (xfc xfX8_207 (xfc xfX8_210 xfn)))))))))))))))))), (xfc xvX8_63 (xfc xvX8_70 (xfc xvX8_74 (xfc xvX8_78 (xfc xvX8_82 (xfc xvX8_92 (xfc xvX8_110 (xfc xvX8_123 (xfc xvX8_127 (xfc xvX8_131 (xfc xvX8_135 (xfc xvX8_138 (xfc xvX8_141 (xfc xvX8_144 (xfc xvX8_147 (xfc xvX8_153 (xfc xvX8_157 (xfc xvX8_161 (xfc xvX8_165 (xfc xvX8_168 (xfc xvX8_171 (xfc xvX8_174 (xfc xvX8_177 (xfc xvX8_180 (xfc xvX8_192 (xfc xvX8_195 (xfc xvX8_198 (xfc xvX8_215 (xfc xvX8_219 (xfc xvX8_222 (xfc xvX8_225 (xfc xvX8_228 (xfc xvX8_240 (xfc xvX8_243 xfn)))))))))))))))))))))))))))))))))), (xfc xsX8_232 (xfc xsX8_235 xfn)), (xfc xkX8_213 xfn), xfn⟩
theorem xkJ6_265 : xkF 10 (265, vI 1431655765) := xw 641 (by decide +kernel) (by decide +kernel)
theorem xkJ6_266 : xkF 10 (266, vI 858993459) := xw 642 (by decide +kernel) (by decide +kernel)
theorem xkJ6_267 : xkF 10 (267, vI 252645135) := xw 643 (by decide +kernel) (by decide +kernel)
def ceJ6 : xCE := ([], [], [], [(265, vI 1431655765), (266, vI 858993459), (267, vI 252645135)], [])
theorem ceJ6_ok : xCEok 10 ceJ6 := ⟨xfn, xfn, xfn, (xfc xkJ6_265 (xfc xkJ6_266 (xfc xkJ6_267 xfn))), xfn⟩
theorem xkJ13_314 : xkF 11 (314, vL 6148914691236517205) := xw 489 (by decide +kernel) (by decide +kernel)
theorem xkJ13_316 : xkF 11 (316, vL 3689348814741910323) := xw 490 (by decide +kernel) (by decide +kernel)
theorem xkJ13_318 : xkF 11 (318, vL 1085102592571150095) := xw 491 (by decide +kernel) (by decide +kernel)
def ceJ13 : xCE := ([], [], [], [(314, vL 6148914691236517205), (316, vL 3689348814741910323), (318, vL 1085102592571150095)], [])
theorem ceJ13_ok : xCEok 11 ceJ13 := ⟨xfn, xfn, xfn, (xfc xkJ13_314 (xfc xkJ13_316 (xfc xkJ13_318 xfn))), xfn⟩
theorem xvL_30 : xvF 12 (30, 7, mX8_part) := ⟨⟨TX8, 9, rfl⟩, ⟨xw 536 (by decide +kernel) (by decide +kernel), xdX8_part⟩, xw 537 (by decide +kernel) (by decide +kernel), xw 538 (by decide +kernel) (by decide +kernel)⟩
theorem xvL_41 : xvF 12 (41, 7, mX8_isTrue) := ⟨⟨TX8, 9, rfl⟩, ⟨xw 543 (by decide +kernel) (by decide +kernel), xdX8_isTrue⟩, xw 544 (by decide +kernel) (by decide +kernel), xw 545 (by decide +kernel) (by decide +kernel)⟩
theorem xvL_44 : xvF 12 (44, 7, mX8_formulas) := ⟨⟨TX8, 9, rfl⟩, ⟨xw 563 (by decide +kernel) (by decide +kernel), xdX8_formulas⟩, xw 564 (by decide +kernel) (by decide +kernel), xw 565 (by decide +kernel) (by decide +kernel)⟩
theorem xvL_52 : xvF 12 (52, 7, mX8_line) := ⟨⟨TX8, 9, rfl⟩, ⟨xw 573 (by decide +kernel) (by decide +kernel), xdX8_line⟩, xw 574 (by decide +kernel) (by decide +kernel), xw 575 (by decide +kernel) (by decide +kernel)⟩
theorem xvL_59 : xvF 12 (59, 7, mX8_bypass) := ⟨⟨TX8, 9, rfl⟩, ⟨xw 584 (by decide +kernel) (by decide +kernel), xdX8_bypass⟩, xw 585 (by decide +kernel) (by decide +kernel), xw 586 (by decide +kernel) (by decide +kernel)⟩
theorem xvL_62 : xvF 12 (62, 7, mX8_needs) := ⟨⟨TX8, 9, rfl⟩, ⟨xw 589 (by decide +kernel) (by decide +kernel), xdX8_needs⟩, xw 590 (by decide +kernel) (by decide +kernel), xw 591 (by decide +kernel) (by decide +kernel)⟩
theorem xvL_69 : xvF 12 (69, 7, mX8_reference) := ⟨⟨TX8, 9, rfl⟩, ⟨xw 594 (by decide +kernel) (by decide +kernel), xdX8_reference⟩, xw 595 (by decide +kernel) (by decide +kernel), xw 596 (by decide +kernel) (by decide +kernel)⟩
theorem xvL_72 : xvF 12 (72, 7, mX8_box) := ⟨⟨TX8, 9, rfl⟩, ⟨xw 599 (by decide +kernel) (by decide +kernel), xdX8_box⟩, xw 600 (by decide +kernel) (by decide +kernel), xw 601 (by decide +kernel) (by decide +kernel)⟩
theorem xvL_75 : xvF 12 (75, 7, mX8_lines) := ⟨⟨TX8, 9, rfl⟩, ⟨xw 603 (by decide +kernel) (by decide +kernel), xdX8_lines⟩, xw 604 (by decide +kernel) (by decide +kernel), xw 605 (by decide +kernel) (by decide +kernel)⟩
theorem xvL_78 : xvF 12 (78, 7, mX8_boxes) := ⟨⟨TX8, 9, rfl⟩, ⟨xw 607 (by decide +kernel) (by decide +kernel), xdX8_boxes⟩, xw 608 (by decide +kernel) (by decide +kernel), xw 609 (by decide +kernel) (by decide +kernel)⟩
theorem xvL_81 : xvF 12 (81, 7, mX8_depth) := ⟨⟨TX8, 9, rfl⟩, ⟨xw 611 (by decide +kernel) (by decide +kernel), xdX8_depth⟩, xw 333 (by decide +kernel) (by decide +kernel), xw 334 (by decide +kernel) (by decide +kernel)⟩
theorem xvL_84 : xvF 12 (84, 7, mX8_detours) := ⟨⟨TX8, 9, rfl⟩, ⟨xw 612 (by decide +kernel) (by decide +kernel), xdX8_detours⟩, xw 613 (by decide +kernel) (by decide +kernel), xw 614 (by decide +kernel) (by decide +kernel)⟩
theorem xvL_87 : xvF 12 (87, 7, mX8_failure) := ⟨⟨TX8, 9, rfl⟩, ⟨xw 623 (by decide +kernel) (by decide +kernel), xdX8_failure⟩, xw 624 (by decide +kernel) (by decide +kernel), xw 625 (by decide +kernel) (by decide +kernel)⟩
theorem xvL_90 : xvF 12 (90, 7, mX8_counterexample) := ⟨⟨TX8, 9, rfl⟩, ⟨xw 644 (by decide +kernel) (by decide +kernel), xdX8_counterexample⟩, xw 645 (by decide +kernel) (by decide +kernel), xw 646 (by decide +kernel) (by decide +kernel)⟩
theorem xvL_113 : xvF 12 (113, 7, mX8_atom) := ⟨⟨TX8, 9, rfl⟩, ⟨xw 235 (by decide +kernel) (by decide +kernel), xdX8_atom⟩, xw 236 (by decide +kernel) (by decide +kernel), xw 237 (by decide +kernel) (by decide +kernel)⟩
theorem xvL_116 : xvF 12 (116, 7, mX8_falsum) := ⟨⟨TX8, 9, rfl⟩, ⟨xw 295 (by decide +kernel) (by decide +kernel), xdX8_falsum⟩, xw 296 (by decide +kernel) (by decide +kernel), xw 297 (by decide +kernel) (by decide +kernel)⟩
theorem xvL_119 : xvF 12 (119, 7, mX8_not) := ⟨⟨TX8, 9, rfl⟩, ⟨xw 299 (by decide +kernel) (by decide +kernel), xdX8_not⟩, xw 300 (by decide +kernel) (by decide +kernel), xw 301 (by decide +kernel) (by decide +kernel)⟩
theorem xvL_122 : xvF 12 (122, 7, mX8_pair) := ⟨⟨TX8, 9, rfl⟩, ⟨xw 307 (by decide +kernel) (by decide +kernel), xdX8_pair⟩, xw 308 (by decide +kernel) (by decide +kernel), xw 309 (by decide +kernel) (by decide +kernel)⟩
theorem xvL_130 : xvF 12 (130, 7, mX8_premise) := ⟨⟨TX8, 9, rfl⟩, ⟨xw 311 (by decide +kernel) (by decide +kernel), xdX8_premise⟩, xw 312 (by decide +kernel) (by decide +kernel), xw 313 (by decide +kernel) (by decide +kernel)⟩
theorem xvL_133 : xvF 12 (133, 7, mX8_open) := ⟨⟨TX8, 9, rfl⟩, ⟨xw 328 (by decide +kernel) (by decide +kernel), xdX8_open⟩, xw 329 (by decide +kernel) (by decide +kernel), xw 330 (by decide +kernel) (by decide +kernel)⟩
theorem xvL_136 : xvF 12 (136, 7, mX8_close) := ⟨⟨TX8, 9, rfl⟩, ⟨xw 350 (by decide +kernel) (by decide +kernel), xdX8_close⟩, xw 351 (by decide +kernel) (by decide +kernel), xw 352 (by decide +kernel) (by decide +kernel)⟩
theorem xvL_143 : xvF 12 (143, 7, mX8_shorten) := ⟨⟨TX8, 9, rfl⟩, ⟨xw 429 (by decide +kernel) (by decide +kernel), xdX8_shorten⟩, xw 430 (by decide +kernel) (by decide +kernel), xw 431 (by decide +kernel) (by decide +kernel)⟩
theorem xvL_149 : xvF 12 (149, 7, mX8_trim) := ⟨⟨TX8, 9, rfl⟩, ⟨xw 449 (by decide +kernel) (by decide +kernel), xdX8_trim⟩, xw 450 (by decide +kernel) (by decide +kernel), xw 451 (by decide +kernel) (by decide +kernel)⟩
theorem xvL_161 : xvF 12 (161, 7, mX8_repeat) := ⟨⟨TX8, 9, rfl⟩, ⟨xw 362 (by decide +kernel) (by decide +kernel), xdX8_repeat⟩, xw 363 (by decide +kernel) (by decide +kernel), xw 364 (by decide +kernel) (by decide +kernel)⟩
theorem xvL_164 : xvF 12 (164, 7, mX8_cases) := ⟨⟨TX8, 9, rfl⟩, ⟨xw 425 (by decide +kernel) (by decide +kernel), xdX8_cases⟩, xw 426 (by decide +kernel) (by decide +kernel), xw 427 (by decide +kernel) (by decide +kernel)⟩
theorem xvL_167 : xvF 12 (167, 7, mX8_fromBox) := ⟨⟨TX8, 9, rfl⟩, ⟨xw 408 (by decide +kernel) (by decide +kernel), xdX8_fromBox⟩, xw 409 (by decide +kernel) (by decide +kernel), xw 410 (by decide +kernel) (by decide +kernel)⟩
theorem xvL_170 : xvF 12 (170, 7, mX8_fromTwo) := ⟨⟨TX8, 9, rfl⟩, ⟨xw 379 (by decide +kernel) (by decide +kernel), xdX8_fromTwo⟩, xw 380 (by decide +kernel) (by decide +kernel), xw 381 (by decide +kernel) (by decide +kernel)⟩
theorem xvL_173 : xvF 12 (173, 7, mX8_toFormula) := ⟨⟨TX8, 9, rfl⟩, ⟨xw 400 (by decide +kernel) (by decide +kernel), xdX8_toFormula⟩, xw 401 (by decide +kernel) (by decide +kernel), xw 402 (by decide +kernel) (by decide +kernel)⟩
theorem xvL_176 : xvF 12 (176, 7, mX8_fromOne) := ⟨⟨TX8, 9, rfl⟩, ⟨xw 391 (by decide +kernel) (by decide +kernel), xdX8_fromOne⟩, xw 392 (by decide +kernel) (by decide +kernel), xw 393 (by decide +kernel) (by decide +kernel)⟩
theorem xsL_10 : xsF 12 (10, 0, mL_find) := ⟨⟨xw 512 (by decide +kernel) (by decide +kernel), xdL_find⟩, xw 513 (by decide +kernel) (by decide +kernel)⟩
theorem xsL_16 : xsF 12 (16, 0, mL_latest) := ⟨⟨xw 515 (by decide +kernel) (by decide +kernel), xdL_latest⟩, xw 516 (by decide +kernel) (by decide +kernel)⟩
theorem xsL_20 : xsF 12 (20, 0, mL_direct) := ⟨⟨xw 524 (by decide +kernel) (by decide +kernel), xdL_direct⟩, xw 525 (by decide +kernel) (by decide +kernel)⟩
theorem xsL_24 : xsF 12 (24, 0, mL_assumed) := ⟨⟨xw 527 (by decide +kernel) (by decide +kernel), xdL_assumed⟩, xw 528 (by decide +kernel) (by decide +kernel)⟩
theorem xsL_34 : xsF 12 (34, 0, mL_low) := ⟨⟨xw 505 (by decide +kernel) (by decide +kernel), xdL_low⟩, xw 506 (by decide +kernel) (by decide +kernel)⟩
theorem xsL_37 : xsF 12 (37, 0, mL_truth) := ⟨⟨xw 540 (by decide +kernel) (by decide +kernel), xdL_truth⟩, xw 541 (by decide +kernel) (by decide +kernel)⟩
theorem xsL_48 : xsF 12 (48, 0, mL_bypass) := ⟨⟨xw 570 (by decide +kernel) (by decide +kernel), xdL_bypass⟩, xw 571 (by decide +kernel) (by decide +kernel)⟩
theorem xsL_55 : xsF 12 (55, 0, mL_shut) := ⟨⟨xw 581 (by decide +kernel) (by decide +kernel), xdL_shut⟩, xw 582 (by decide +kernel) (by decide +kernel)⟩
theorem xsL_66 : xsF 12 (66, 0, mL_needs) := ⟨⟨xw 521 (by decide +kernel) (by decide +kernel), xdL_needs⟩, xw 522 (by decide +kernel) (by decide +kernel)⟩
theorem xsL_110 : xsF 12 (110, 0, mL_make) := ⟨⟨xw 509 (by decide +kernel) (by decide +kernel), xdL_make⟩, xw 510 (by decide +kernel) (by decide +kernel)⟩
theorem xsL_126 : xsF 12 (126, 0, mL_write) := ⟨⟨xw 518 (by decide +kernel) (by decide +kernel), xdL_write⟩, xw 519 (by decide +kernel) (by decide +kernel)⟩
theorem xsL_139 : xsF 12 (139, 0, mL_shorten) := ⟨⟨xw 648 (by decide +kernel) (by decide +kernel), xdL_shorten⟩, xw 649 (by decide +kernel) (by decide +kernel)⟩
theorem xsL_151 : xsF 12 (151, 0, mL_bits) := ⟨⟨xw 530 (by decide +kernel) (by decide +kernel), xdL_bits⟩, xw 531 (by decide +kernel) (by decide +kernel)⟩
theorem xsL_155 : xsF 12 (155, 0, mL_rule) := ⟨⟨xw 654 (by decide +kernel) (by decide +kernel), xdL_rule⟩, xw 655 (by decide +kernel) (by decide +kernel)⟩
theorem xsL_179 : xsF 12 (179, 0, mL_formulas) := ⟨⟨xw 533 (by decide +kernel) (by decide +kernel), xdL_formulas⟩, xw 534 (by decide +kernel) (by decide +kernel)⟩
theorem xsL_182 : xsF 12 (182, 0, mL_lines) := ⟨⟨xw 567 (by decide +kernel) (by decide +kernel), xdL_lines⟩, xw 568 (by decide +kernel) (by decide +kernel)⟩
theorem xsL_185 : xsF 12 (185, 0, mL_follows) := ⟨⟨xw 620 (by decide +kernel) (by decide +kernel), xdL_follows⟩, xw 621 (by decide +kernel) (by decide +kernel)⟩
theorem xkL_9 : xkF 12 (9, vI 2147483647) := xw 508 (by decide +kernel) (by decide +kernel)
theorem xkL_93 : xkF 12 (93, vL 500000000) := xw 657 (by decide +kernel) (by decide +kernel)
theorem xkL_95 : xkF 12 (95, vL 1000) := xw 658 (by decide +kernel) (by decide +kernel)
theorem xkL_97 : xkF 12 (97, vL 200000000) := xw 659 (by decide +kernel) (by decide +kernel)
theorem xkL_99 : xkF 12 (99, vL 999) := xw 660 (by decide +kernel) (by decide +kernel)
theorem xkL_101 : xkF 12 (101, vL 300000000) := xw 661 (by decide +kernel) (by decide +kernel)
theorem xkL_103 : xkF 12 (103, vL 100999999) := xw 662 (by decide +kernel) (by decide +kernel)
theorem xkL_159 : xkF 12 (159, vL 100000000) := xw 663 (by decide +kernel) (by decide +kernel)
def ceL : xCE := ([], [(30, 7, mX8_part), (41, 7, mX8_isTrue), (44, 7, mX8_formulas), (52, 7, mX8_line), (59, 7, mX8_bypass), (62, 7, mX8_needs), (69, 7, mX8_reference), (72, 7, mX8_box), (75, 7, mX8_lines), (78, 7, mX8_boxes), (81, 7, mX8_depth), (84, 7, mX8_detours), (87, 7, mX8_failure), (90, 7, mX8_counterexample), (113, 7, mX8_atom), (116, 7, mX8_falsum), (119, 7, mX8_not), (122, 7, mX8_pair), (130, 7, mX8_premise), (133, 7, mX8_open), (136, 7, mX8_close), (143, 7, mX8_shorten), (149, 7, mX8_trim), (161, 7, mX8_repeat), (164, 7, mX8_cases), (167, 7, mX8_fromBox), (170, 7, mX8_fromTwo), (173, 7, mX8_toFormula), (176, 7, mX8_fromOne)], [(10, 0, mL_find), (16, 0, mL_latest), (20, 0, mL_direct), (24, 0, mL_assumed), (34, 0, mL_low), (37, 0, mL_truth), (48, 0, mL_bypass), (55, 0, mL_shut), (66, 0, mL_needs), (110, 0, mL_make), (126, 0, mL_write), (139, 0, mL_shorten), (151, 0, mL_bits), (155, 0, mL_rule), (179, 0, mL_formulas), (182, 0, mL_lines), (185, 0, mL_follows)], [(9, vI 2147483647), (93, vL 500000000), (95, vL 1000), (97, vL 200000000), (99, vL 999), (101, vL 300000000), (103, vL 100999999), (159, vL 100000000)], [])
theorem ceL_ok : xCEok 12 ceL := ⟨xfn, (xfc xvL_30 (xfc xvL_41 (xfc xvL_44 (xfc xvL_52 (xfc xvL_59 (xfc xvL_62 (xfc xvL_69 (xfc xvL_72 (xfc xvL_75 (xfc xvL_78 (xfc xvL_81 (xfc xvL_84 (xfc xvL_87 (xfc xvL_90 (xfc xvL_113 (xfc xvL_116 (xfc xvL_119 (xfc xvL_122 (xfc xvL_130 (xfc xvL_133 (xfc xvL_136 (xfc xvL_143 (xfc xvL_149 (xfc xvL_161 (xfc xvL_164 (xfc xvL_167 (xfc xvL_170 (xfc xvL_173 (xfc xvL_176 xfn))))))))))))))))))))))))))))), (xfc xsL_10 (xfc xsL_16 (xfc xsL_20 (xfc xsL_24 (xfc xsL_34 (xfc xsL_37 (xfc xsL_48 (xfc xsL_55 (xfc xsL_66 (xfc xsL_110 (xfc xsL_126 (xfc xsL_139 (xfc xsL_151 (xfc xsL_155 (xfc xsL_179 (xfc xsL_182 (xfc xsL_185 xfn))))))))))))))))), (xfc xkL_9 (xfc xkL_93 (xfc xkL_95 (xfc xkL_97 (xfc xkL_99 (xfc xkL_101 (xfc xkL_103 (xfc xkL_159 xfn)))))))), xfn⟩
