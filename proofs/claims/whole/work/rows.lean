section
-- ===== PART A: goes FIRST, ahead of the names: the tables' words, and 'selects' of the private methods out of them =====
/-- a private method of a class that the tables say can be made, by its rows of tables_1 -/
def lw_okq (q : MethodName × Nat) : Prop := (q.1.cls ≠ "java/lang/invoke/MethodHandle" ∧ q.1.cls ≠ "java/lang/invoke/VarHandle") ∧ Cond.instantiable q.1.cls q.2 ∈ tables_1 ∧ Cond.privateMethod q.1 ∈ tables_1 ∧ Cond.instanceMethod q.1 ∈ tables_1
theorem lw_p0 : lw_okq (⟨"BoxedProofs", "makeFormula", "(III)I"⟩, 9) := ⟨⟨by decide +kernel, by decide +kernel⟩, List.mem_of_getElem? (i := 16) (by decide +kernel), List.mem_of_getElem? (i := 231) (by decide +kernel), List.mem_of_getElem? (i := 232) (by decide +kernel)⟩
theorem lw_p1 : lw_okq (⟨"BoxedProofs$Formulas", "find", "(III)I"⟩, 4) := ⟨⟨by decide +kernel, by decide +kernel⟩, List.mem_of_getElem? (i := 30) (by decide +kernel), List.mem_of_getElem? (i := 239) (by decide +kernel), List.mem_of_getElem? (i := 240) (by decide +kernel)⟩
theorem lw_p2 : lw_okq (⟨"BoxedProofs$History", "at", "(I)LBoxedProofs$State;"⟩, 3) := ⟨⟨by decide +kernel, by decide +kernel⟩, List.mem_of_getElem? (i := 130) (by decide +kernel), List.mem_of_getElem? (i := 251) (by decide +kernel), List.mem_of_getElem? (i := 252) (by decide +kernel)⟩
theorem lw_p3 : lw_okq (⟨"BoxedProofs$Formulas", "firstCode", "(I)I"⟩, 4) := ⟨⟨by decide +kernel, by decide +kernel⟩, List.mem_of_getElem? (i := 30) (by decide +kernel), List.mem_of_getElem? (i := 330) (by decide +kernel), List.mem_of_getElem? (i := 331) (by decide +kernel)⟩
theorem lw_p4 : lw_okq (⟨"BoxedProofs$Formulas", "truthOf", "(IILBoxedProofs$Row;)I"⟩, 4) := ⟨⟨by decide +kernel, by decide +kernel⟩, List.mem_of_getElem? (i := 30) (by decide +kernel), List.mem_of_getElem? (i := 345) (by decide +kernel), List.mem_of_getElem? (i := 346) (by decide +kernel)⟩
theorem lw_p5 : lw_okq (⟨"BoxedProofs", "write", "(IIIII)I"⟩, 9) := ⟨⟨by decide +kernel, by decide +kernel⟩, List.mem_of_getElem? (i := 16) (by decide +kernel), List.mem_of_getElem? (i := 361) (by decide +kernel), List.mem_of_getElem? (i := 362) (by decide +kernel)⟩
theorem lw_p6 : lw_okq (⟨"BoxedProofs$Proof", "isNoneOrOpen", "(I)Z"⟩, 12) := ⟨⟨by decide +kernel, by decide +kernel⟩, List.mem_of_getElem? (i := 67) (by decide +kernel), List.mem_of_getElem? (i := 420) (by decide +kernel), List.mem_of_getElem? (i := 421) (by decide +kernel)⟩
theorem lw_p7 : lw_okq (⟨"BoxedProofs", "writeMade", "(IIIIII)I"⟩, 9) := ⟨⟨by decide +kernel, by decide +kernel⟩, List.mem_of_getElem? (i := 16) (by decide +kernel), List.mem_of_getElem? (i := 428) (by decide +kernel), List.mem_of_getElem? (i := 429) (by decide +kernel)⟩
theorem lw_p8 : lw_okq (⟨"BoxedProofs$Proof", "directNeeds", "(I)J"⟩, 12) := ⟨⟨by decide +kernel, by decide +kernel⟩, List.mem_of_getElem? (i := 67) (by decide +kernel), List.mem_of_getElem? (i := 486) (by decide +kernel), List.mem_of_getElem? (i := 487) (by decide +kernel)⟩
theorem lw_p9 : lw_okq (⟨"BoxedProofs$Proof", "countLineReferences", "(I)I"⟩, 12) := ⟨⟨by decide +kernel, by decide +kernel⟩, List.mem_of_getElem? (i := 67) (by decide +kernel), List.mem_of_getElem? (i := 490) (by decide +kernel), List.mem_of_getElem? (i := 491) (by decide +kernel)⟩
theorem lw_p10 : lw_okq (⟨"BoxedProofs$Proof", "assumptionsFrom", "(I)J"⟩, 12) := ⟨⟨by decide +kernel, by decide +kernel⟩, List.mem_of_getElem? (i := 67) (by decide +kernel), List.mem_of_getElem? (i := 527) (by decide +kernel), List.mem_of_getElem? (i := 528) (by decide +kernel)⟩
theorem lw_p11 : lw_okq (⟨"BoxedProofs", "lowestFailure", "(II)I"⟩, 9) := ⟨⟨by decide +kernel, by decide +kernel⟩, List.mem_of_getElem? (i := 16) (by decide +kernel), List.mem_of_getElem? (i := 552) (by decide +kernel), List.mem_of_getElem? (i := 553) (by decide +kernel)⟩
theorem lw_p12 : lw_okq (⟨"BoxedProofs$Proof", "bypassIn", "(LBoxedProofs$Row;I)I"⟩, 12) := ⟨⟨by decide +kernel, by decide +kernel⟩, List.mem_of_getElem? (i := 67) (by decide +kernel), List.mem_of_getElem? (i := 581) (by decide +kernel), List.mem_of_getElem? (i := 582) (by decide +kernel)⟩
theorem lw_p13 : lw_okq (⟨"BoxedProofs$Proof", "keepBoxes", "(J)J"⟩, 12) := ⟨⟨by decide +kernel, by decide +kernel⟩, List.mem_of_getElem? (i := 67) (by decide +kernel), List.mem_of_getElem? (i := 593) (by decide +kernel), List.mem_of_getElem? (i := 594) (by decide +kernel)⟩
theorem lw_p14 : lw_okq (⟨"BoxedProofs$Proof", "moveLine", "(IIJJ)V"⟩, 12) := ⟨⟨by decide +kernel, by decide +kernel⟩, List.mem_of_getElem? (i := 67) (by decide +kernel), List.mem_of_getElem? (i := 606) (by decide +kernel), List.mem_of_getElem? (i := 607) (by decide +kernel)⟩
theorem lw_p15 : lw_okq (⟨"BoxedProofs$Proof", "findEnds", "()V"⟩, 12) := ⟨⟨by decide +kernel, by decide +kernel⟩, List.mem_of_getElem? (i := 67) (by decide +kernel), List.mem_of_getElem? (i := 610) (by decide +kernel), List.mem_of_getElem? (i := 611) (by decide +kernel)⟩
def lw_privs_1 : List (MethodName × Nat) := [(⟨"BoxedProofs", "makeFormula", "(III)I"⟩, 9), (⟨"BoxedProofs$Formulas", "find", "(III)I"⟩, 4), (⟨"BoxedProofs$History", "at", "(I)LBoxedProofs$State;"⟩, 3), (⟨"BoxedProofs$Formulas", "firstCode", "(I)I"⟩, 4), (⟨"BoxedProofs$Formulas", "truthOf", "(IILBoxedProofs$Row;)I"⟩, 4), (⟨"BoxedProofs", "write", "(IIIII)I"⟩, 9), (⟨"BoxedProofs$Proof", "isNoneOrOpen", "(I)Z"⟩, 12), (⟨"BoxedProofs", "writeMade", "(IIIIII)I"⟩, 9), (⟨"BoxedProofs$Proof", "directNeeds", "(I)J"⟩, 12), (⟨"BoxedProofs$Proof", "countLineReferences", "(I)I"⟩, 12), (⟨"BoxedProofs$Proof", "assumptionsFrom", "(I)J"⟩, 12), (⟨"BoxedProofs", "lowestFailure", "(II)I"⟩, 9), (⟨"BoxedProofs$Proof", "bypassIn", "(LBoxedProofs$Row;I)I"⟩, 12), (⟨"BoxedProofs$Proof", "keepBoxes", "(J)J"⟩, 12), (⟨"BoxedProofs$Proof", "moveLine", "(IIJJ)V"⟩, 12), (⟨"BoxedProofs$Proof", "findEnds", "()V"⟩, 12)]
theorem lw_r1 : ∀ q ∈ lw_privs_1, lw_okq q := List.forall_mem_cons.mpr ⟨lw_p0, List.forall_mem_cons.mpr ⟨lw_p1, List.forall_mem_cons.mpr ⟨lw_p2, List.forall_mem_cons.mpr ⟨lw_p3, List.forall_mem_cons.mpr ⟨lw_p4, List.forall_mem_cons.mpr ⟨lw_p5, List.forall_mem_cons.mpr ⟨lw_p6, List.forall_mem_cons.mpr ⟨lw_p7, List.forall_mem_cons.mpr ⟨lw_p8, List.forall_mem_cons.mpr ⟨lw_p9, List.forall_mem_cons.mpr ⟨lw_p10, List.forall_mem_cons.mpr ⟨lw_p11, List.forall_mem_cons.mpr ⟨lw_p12, List.forall_mem_cons.mpr ⟨lw_p13, List.forall_mem_cons.mpr ⟨lw_p14, List.forall_mem_cons.mpr ⟨lw_p15, fun _ h => absurd h List.not_mem_nil⟩⟩⟩⟩⟩⟩⟩⟩⟩⟩⟩⟩⟩⟩⟩⟩
theorem lw_p16 : lw_okq (⟨"BoxedProofs$Buffer", "continuesPart", "(I)Z"⟩, 5) := ⟨⟨by decide +kernel, by decide +kernel⟩, List.mem_of_getElem? (i := 150) (by decide +kernel), List.mem_of_getElem? (i := 636) (by decide +kernel), List.mem_of_getElem? (i := 637) (by decide +kernel)⟩
theorem lw_p17 : lw_okq (⟨"BoxedProofs$Buffer", "beginsPart", "(I)Z"⟩, 5) := ⟨⟨by decide +kernel, by decide +kernel⟩, List.mem_of_getElem? (i := 150) (by decide +kernel), List.mem_of_getElem? (i := 643) (by decide +kernel), List.mem_of_getElem? (i := 644) (by decide +kernel)⟩
theorem lw_p18 : lw_okq (⟨"BoxedProofs$Builder", "push", "(I)V"⟩, 3) := ⟨⟨by decide +kernel, by decide +kernel⟩, List.mem_of_getElem? (i := 177) (by decide +kernel), List.mem_of_getElem? (i := 657) (by decide +kernel), List.mem_of_getElem? (i := 658) (by decide +kernel)⟩
theorem lw_p19 : lw_okq (⟨"BoxedProofs$Builder", "makeAtEnd", "(IILBoxedProofs$Formulas;)I"⟩, 3) := ⟨⟨by decide +kernel, by decide +kernel⟩, List.mem_of_getElem? (i := 177) (by decide +kernel), List.mem_of_getElem? (i := 663) (by decide +kernel), List.mem_of_getElem? (i := 664) (by decide +kernel)⟩
theorem lw_p20 : lw_okq (⟨"BoxedProofs$Builder", "negate", "(ILBoxedProofs$Formulas;)I"⟩, 3) := ⟨⟨by decide +kernel, by decide +kernel⟩, List.mem_of_getElem? (i := 177) (by decide +kernel), List.mem_of_getElem? (i := 668) (by decide +kernel), List.mem_of_getElem? (i := 669) (by decide +kernel)⟩
theorem lw_p21 : lw_okq (⟨"BoxedProofsModel", "record", "()V"⟩, 18) := ⟨⟨by decide +kernel, by decide +kernel⟩, List.mem_of_getElem? (i := 689) (by decide +kernel), List.mem_of_getElem? (i := 764) (by decide +kernel), List.mem_of_getElem? (i := 765) (by decide +kernel)⟩
theorem lw_p22 : lw_okq (⟨"BoxedProofsModel", "makeOne", "(III)I"⟩, 18) := ⟨⟨by decide +kernel, by decide +kernel⟩, List.mem_of_getElem? (i := 689) (by decide +kernel), List.mem_of_getElem? (i := 775) (by decide +kernel), List.mem_of_getElem? (i := 776) (by decide +kernel)⟩
theorem lw_p23 : lw_okq (⟨"BoxedProofsModel", "hasRoom", "(III)Z"⟩, 18) := ⟨⟨by decide +kernel, by decide +kernel⟩, List.mem_of_getElem? (i := 689) (by decide +kernel), List.mem_of_getElem? (i := 779) (by decide +kernel), List.mem_of_getElem? (i := 780) (by decide +kernel)⟩
theorem lw_p24 : lw_okq (⟨"BoxedProofsModel", "find", "(III)I"⟩, 18) := ⟨⟨by decide +kernel, by decide +kernel⟩, List.mem_of_getElem? (i := 689) (by decide +kernel), List.mem_of_getElem? (i := 783) (by decide +kernel), List.mem_of_getElem? (i := 784) (by decide +kernel)⟩
theorem lw_p25 : lw_okq (⟨"BoxedProofsModel", "kind", "(I)I"⟩, 18) := ⟨⟨by decide +kernel, by decide +kernel⟩, List.mem_of_getElem? (i := 689) (by decide +kernel), List.mem_of_getElem? (i := 787) (by decide +kernel), List.mem_of_getElem? (i := 788) (by decide +kernel)⟩
theorem lw_p26 : lw_okq (⟨"BoxedProofsModel", "left", "(I)I"⟩, 18) := ⟨⟨by decide +kernel, by decide +kernel⟩, List.mem_of_getElem? (i := 689) (by decide +kernel), List.mem_of_getElem? (i := 791) (by decide +kernel), List.mem_of_getElem? (i := 792) (by decide +kernel)⟩
theorem lw_p27 : lw_okq (⟨"BoxedProofsModel", "right", "(I)I"⟩, 18) := ⟨⟨by decide +kernel, by decide +kernel⟩, List.mem_of_getElem? (i := 689) (by decide +kernel), List.mem_of_getElem? (i := 795) (by decide +kernel), List.mem_of_getElem? (i := 796) (by decide +kernel)⟩
theorem lw_p28 : lw_okq (⟨"BoxedProofsModel", "make", "(III)I"⟩, 18) := ⟨⟨by decide +kernel, by decide +kernel⟩, List.mem_of_getElem? (i := 689) (by decide +kernel), List.mem_of_getElem? (i := 799) (by decide +kernel), List.mem_of_getElem? (i := 800) (by decide +kernel)⟩
theorem lw_p29 : lw_okq (⟨"BoxedProofsModel", "isFormula", "(I)Z"⟩, 18) := ⟨⟨by decide +kernel, by decide +kernel⟩, List.mem_of_getElem? (i := 689) (by decide +kernel), List.mem_of_getElem? (i := 811) (by decide +kernel), List.mem_of_getElem? (i := 812) (by decide +kernel)⟩
theorem lw_p30 : lw_okq (⟨"BoxedProofsModel", "measure", "()V"⟩, 18) := ⟨⟨by decide +kernel, by decide +kernel⟩, List.mem_of_getElem? (i := 689) (by decide +kernel), List.mem_of_getElem? (i := 831) (by decide +kernel), List.mem_of_getElem? (i := 832) (by decide +kernel)⟩
theorem lw_p31 : lw_okq (⟨"BoxedProofsModel", "evaluate", "(I)V"⟩, 18) := ⟨⟨by decide +kernel, by decide +kernel⟩, List.mem_of_getElem? (i := 689) (by decide +kernel), List.mem_of_getElem? (i := 844) (by decide +kernel), List.mem_of_getElem? (i := 845) (by decide +kernel)⟩
def lw_privs_2 : List (MethodName × Nat) := [(⟨"BoxedProofs$Buffer", "continuesPart", "(I)Z"⟩, 5), (⟨"BoxedProofs$Buffer", "beginsPart", "(I)Z"⟩, 5), (⟨"BoxedProofs$Builder", "push", "(I)V"⟩, 3), (⟨"BoxedProofs$Builder", "makeAtEnd", "(IILBoxedProofs$Formulas;)I"⟩, 3), (⟨"BoxedProofs$Builder", "negate", "(ILBoxedProofs$Formulas;)I"⟩, 3), (⟨"BoxedProofsModel", "record", "()V"⟩, 18), (⟨"BoxedProofsModel", "makeOne", "(III)I"⟩, 18), (⟨"BoxedProofsModel", "hasRoom", "(III)Z"⟩, 18), (⟨"BoxedProofsModel", "find", "(III)I"⟩, 18), (⟨"BoxedProofsModel", "kind", "(I)I"⟩, 18), (⟨"BoxedProofsModel", "left", "(I)I"⟩, 18), (⟨"BoxedProofsModel", "right", "(I)I"⟩, 18), (⟨"BoxedProofsModel", "make", "(III)I"⟩, 18), (⟨"BoxedProofsModel", "isFormula", "(I)Z"⟩, 18), (⟨"BoxedProofsModel", "measure", "()V"⟩, 18), (⟨"BoxedProofsModel", "evaluate", "(I)V"⟩, 18)]
theorem lw_r2 : ∀ q ∈ lw_privs_2, lw_okq q := List.forall_mem_cons.mpr ⟨lw_p16, List.forall_mem_cons.mpr ⟨lw_p17, List.forall_mem_cons.mpr ⟨lw_p18, List.forall_mem_cons.mpr ⟨lw_p19, List.forall_mem_cons.mpr ⟨lw_p20, List.forall_mem_cons.mpr ⟨lw_p21, List.forall_mem_cons.mpr ⟨lw_p22, List.forall_mem_cons.mpr ⟨lw_p23, List.forall_mem_cons.mpr ⟨lw_p24, List.forall_mem_cons.mpr ⟨lw_p25, List.forall_mem_cons.mpr ⟨lw_p26, List.forall_mem_cons.mpr ⟨lw_p27, List.forall_mem_cons.mpr ⟨lw_p28, List.forall_mem_cons.mpr ⟨lw_p29, List.forall_mem_cons.mpr ⟨lw_p30, List.forall_mem_cons.mpr ⟨lw_p31, fun _ h => absurd h List.not_mem_nil⟩⟩⟩⟩⟩⟩⟩⟩⟩⟩⟩⟩⟩⟩⟩⟩
theorem lw_p32 : lw_okq (⟨"BoxedProofsModel", "latest", "()I"⟩, 18) := ⟨⟨by decide +kernel, by decide +kernel⟩, List.mem_of_getElem? (i := 689) (by decide +kernel), List.mem_of_getElem? (i := 852) (by decide +kernel), List.mem_of_getElem? (i := 853) (by decide +kernel)⟩
theorem lw_p33 : lw_okq (⟨"BoxedProofsModel", "ends", "(I)I"⟩, 18) := ⟨⟨by decide +kernel, by decide +kernel⟩, List.mem_of_getElem? (i := 689) (by decide +kernel), List.mem_of_getElem? (i := 856) (by decide +kernel), List.mem_of_getElem? (i := 857) (by decide +kernel)⟩
theorem lw_p34 : lw_okq (⟨"BoxedProofsModel", "writeOld", "(IIIII)I"⟩, 18) := ⟨⟨by decide +kernel, by decide +kernel⟩, List.mem_of_getElem? (i := 689) (by decide +kernel), List.mem_of_getElem? (i := 860) (by decide +kernel), List.mem_of_getElem? (i := 861) (by decide +kernel)⟩
theorem lw_p35 : lw_okq (⟨"BoxedProofsModel", "isFull", "()Z"⟩, 18) := ⟨⟨by decide +kernel, by decide +kernel⟩, List.mem_of_getElem? (i := 689) (by decide +kernel), List.mem_of_getElem? (i := 864) (by decide +kernel), List.mem_of_getElem? (i := 865) (by decide +kernel)⟩
theorem lw_p36 : lw_okq (⟨"BoxedProofsModel", "write", "(IIIII)I"⟩, 18) := ⟨⟨by decide +kernel, by decide +kernel⟩, List.mem_of_getElem? (i := 689) (by decide +kernel), List.mem_of_getElem? (i := 868) (by decide +kernel), List.mem_of_getElem? (i := 869) (by decide +kernel)⟩
theorem lw_p37 : lw_okq (⟨"BoxedProofsModel", "openBoxes", "()I"⟩, 18) := ⟨⟨by decide +kernel, by decide +kernel⟩, List.mem_of_getElem? (i := 689) (by decide +kernel), List.mem_of_getElem? (i := 876) (by decide +kernel), List.mem_of_getElem? (i := 877) (by decide +kernel)⟩
theorem lw_p38 : lw_okq (⟨"BoxedProofsModel", "boxOf", "(I)I"⟩, 18) := ⟨⟨by decide +kernel, by decide +kernel⟩, List.mem_of_getElem? (i := 689) (by decide +kernel), List.mem_of_getElem? (i := 884) (by decide +kernel), List.mem_of_getElem? (i := 885) (by decide +kernel)⟩
theorem lw_p39 : lw_okq (⟨"BoxedProofsModel", "isLine", "(I)Z"⟩, 18) := ⟨⟨by decide +kernel, by decide +kernel⟩, List.mem_of_getElem? (i := 689) (by decide +kernel), List.mem_of_getElem? (i := 892) (by decide +kernel), List.mem_of_getElem? (i := 893) (by decide +kernel)⟩
theorem lw_p40 : lw_okq (⟨"BoxedProofsModel", "isAvailable", "(I)Z"⟩, 18) := ⟨⟨by decide +kernel, by decide +kernel⟩, List.mem_of_getElem? (i := 689) (by decide +kernel), List.mem_of_getElem? (i := 896) (by decide +kernel), List.mem_of_getElem? (i := 897) (by decide +kernel)⟩
theorem lw_p41 : lw_okq (⟨"BoxedProofsModel", "isShut", "(I)Z"⟩, 18) := ⟨⟨by decide +kernel, by decide +kernel⟩, List.mem_of_getElem? (i := 689) (by decide +kernel), List.mem_of_getElem? (i := 900) (by decide +kernel), List.mem_of_getElem? (i := 901) (by decide +kernel)⟩
theorem lw_p42 : lw_okq (⟨"BoxedProofsModel", "parent", "(I)I"⟩, 18) := ⟨⟨by decide +kernel, by decide +kernel⟩, List.mem_of_getElem? (i := 689) (by decide +kernel), List.mem_of_getElem? (i := 904) (by decide +kernel), List.mem_of_getElem? (i := 905) (by decide +kernel)⟩
theorem lw_p43 : lw_okq (⟨"BoxedProofsModel", "formulaOf", "(I)I"⟩, 18) := ⟨⟨by decide +kernel, by decide +kernel⟩, List.mem_of_getElem? (i := 689) (by decide +kernel), List.mem_of_getElem? (i := 908) (by decide +kernel), List.mem_of_getElem? (i := 909) (by decide +kernel)⟩
theorem lw_p44 : lw_okq (⟨"BoxedProofsModel", "writeNew", "(IIIIII)I"⟩, 18) := ⟨⟨by decide +kernel, by decide +kernel⟩, List.mem_of_getElem? (i := 689) (by decide +kernel), List.mem_of_getElem? (i := 916) (by decide +kernel), List.mem_of_getElem? (i := 917) (by decide +kernel)⟩
theorem lw_p45 : lw_okq (⟨"BoxedProofsModel", "isBox", "(I)Z"⟩, 18) := ⟨⟨by decide +kernel, by decide +kernel⟩, List.mem_of_getElem? (i := 689) (by decide +kernel), List.mem_of_getElem? (i := 932) (by decide +kernel), List.mem_of_getElem? (i := 933) (by decide +kernel)⟩
theorem lw_p46 : lw_okq (⟨"BoxedProofsModel", "isBoxAvailable", "(I)Z"⟩, 18) := ⟨⟨by decide +kernel, by decide +kernel⟩, List.mem_of_getElem? (i := 689) (by decide +kernel), List.mem_of_getElem? (i := 936) (by decide +kernel), List.mem_of_getElem? (i := 937) (by decide +kernel)⟩
theorem lw_p47 : lw_okq (⟨"BoxedProofsModel", "opens", "(I)I"⟩, 18) := ⟨⟨by decide +kernel, by decide +kernel⟩, List.mem_of_getElem? (i := 689) (by decide +kernel), List.mem_of_getElem? (i := 940) (by decide +kernel), List.mem_of_getElem? (i := 941) (by decide +kernel)⟩
def lw_privs_3 : List (MethodName × Nat) := [(⟨"BoxedProofsModel", "latest", "()I"⟩, 18), (⟨"BoxedProofsModel", "ends", "(I)I"⟩, 18), (⟨"BoxedProofsModel", "writeOld", "(IIIII)I"⟩, 18), (⟨"BoxedProofsModel", "isFull", "()Z"⟩, 18), (⟨"BoxedProofsModel", "write", "(IIIII)I"⟩, 18), (⟨"BoxedProofsModel", "openBoxes", "()I"⟩, 18), (⟨"BoxedProofsModel", "boxOf", "(I)I"⟩, 18), (⟨"BoxedProofsModel", "isLine", "(I)Z"⟩, 18), (⟨"BoxedProofsModel", "isAvailable", "(I)Z"⟩, 18), (⟨"BoxedProofsModel", "isShut", "(I)Z"⟩, 18), (⟨"BoxedProofsModel", "parent", "(I)I"⟩, 18), (⟨"BoxedProofsModel", "formulaOf", "(I)I"⟩, 18), (⟨"BoxedProofsModel", "writeNew", "(IIIIII)I"⟩, 18), (⟨"BoxedProofsModel", "isBox", "(I)Z"⟩, 18), (⟨"BoxedProofsModel", "isBoxAvailable", "(I)Z"⟩, 18), (⟨"BoxedProofsModel", "opens", "(I)I"⟩, 18)]
theorem lw_r3 : ∀ q ∈ lw_privs_3, lw_okq q := List.forall_mem_cons.mpr ⟨lw_p32, List.forall_mem_cons.mpr ⟨lw_p33, List.forall_mem_cons.mpr ⟨lw_p34, List.forall_mem_cons.mpr ⟨lw_p35, List.forall_mem_cons.mpr ⟨lw_p36, List.forall_mem_cons.mpr ⟨lw_p37, List.forall_mem_cons.mpr ⟨lw_p38, List.forall_mem_cons.mpr ⟨lw_p39, List.forall_mem_cons.mpr ⟨lw_p40, List.forall_mem_cons.mpr ⟨lw_p41, List.forall_mem_cons.mpr ⟨lw_p42, List.forall_mem_cons.mpr ⟨lw_p43, List.forall_mem_cons.mpr ⟨lw_p44, List.forall_mem_cons.mpr ⟨lw_p45, List.forall_mem_cons.mpr ⟨lw_p46, List.forall_mem_cons.mpr ⟨lw_p47, fun _ h => absurd h List.not_mem_nil⟩⟩⟩⟩⟩⟩⟩⟩⟩⟩⟩⟩⟩⟩⟩⟩
theorem lw_p48 : lw_okq (⟨"BoxedProofsModel", "ruleOf", "(I)I"⟩, 18) := ⟨⟨by decide +kernel, by decide +kernel⟩, List.mem_of_getElem? (i := 689) (by decide +kernel), List.mem_of_getElem? (i := 956) (by decide +kernel), List.mem_of_getElem? (i := 957) (by decide +kernel)⟩
theorem lw_p49 : lw_okq (⟨"BoxedProofsModel", "depthOf", "(I)I"⟩, 18) := ⟨⟨by decide +kernel, by decide +kernel⟩, List.mem_of_getElem? (i := 689) (by decide +kernel), List.mem_of_getElem? (i := 960) (by decide +kernel), List.mem_of_getElem? (i := 961) (by decide +kernel)⟩
theorem lw_p50 : lw_okq (⟨"BoxedProofsModel", "neededBy", "(I)I"⟩, 18) := ⟨⟨by decide +kernel, by decide +kernel⟩, List.mem_of_getElem? (i := 689) (by decide +kernel), List.mem_of_getElem? (i := 964) (by decide +kernel), List.mem_of_getElem? (i := 965) (by decide +kernel)⟩
theorem lw_p51 : lw_okq (⟨"BoxedProofsModel", "direct", "(I)J"⟩, 18) := ⟨⟨by decide +kernel, by decide +kernel⟩, List.mem_of_getElem? (i := 689) (by decide +kernel), List.mem_of_getElem? (i := 968) (by decide +kernel), List.mem_of_getElem? (i := 969) (by decide +kernel)⟩
theorem lw_p52 : lw_okq (⟨"BoxedProofsModel", "refOf", "(II)I"⟩, 18) := ⟨⟨by decide +kernel, by decide +kernel⟩, List.mem_of_getElem? (i := 689) (by decide +kernel), List.mem_of_getElem? (i := 972) (by decide +kernel), List.mem_of_getElem? (i := 973) (by decide +kernel)⟩
theorem lw_p53 : lw_okq (⟨"BoxedProofsModel", "isToBox", "(II)Z"⟩, 18) := ⟨⟨by decide +kernel, by decide +kernel⟩, List.mem_of_getElem? (i := 689) (by decide +kernel), List.mem_of_getElem? (i := 976) (by decide +kernel), List.mem_of_getElem? (i := 977) (by decide +kernel)⟩
theorem lw_p54 : lw_okq (⟨"BoxedProofsModel", "needed", "(I)J"⟩, 18) := ⟨⟨by decide +kernel, by decide +kernel⟩, List.mem_of_getElem? (i := 689) (by decide +kernel), List.mem_of_getElem? (i := 1000) (by decide +kernel), List.mem_of_getElem? (i := 1001) (by decide +kernel)⟩
theorem lw_p55 : lw_okq (⟨"BoxedProofsModel", "assumed", "(I)J"⟩, 18) := ⟨⟨by decide +kernel, by decide +kernel⟩, List.mem_of_getElem? (i := 689) (by decide +kernel), List.mem_of_getElem? (i := 1004) (by decide +kernel), List.mem_of_getElem? (i := 1005) (by decide +kernel)⟩
theorem lw_p56 : lw_okq (⟨"BoxedProofsModel", "bypassOf", "(I)I"⟩, 18) := ⟨⟨by decide +kernel, by decide +kernel⟩, List.mem_of_getElem? (i := 689) (by decide +kernel), List.mem_of_getElem? (i := 1013) (by decide +kernel), List.mem_of_getElem? (i := 1014) (by decide +kernel)⟩
theorem lw_p57 : lw_okq (⟨"BoxedProofsModel", "premises", "()J"⟩, 18) := ⟨⟨by decide +kernel, by decide +kernel⟩, List.mem_of_getElem? (i := 689) (by decide +kernel), List.mem_of_getElem? (i := 1025) (by decide +kernel), List.mem_of_getElem? (i := 1026) (by decide +kernel)⟩
theorem lw_p58 : lw_okq (⟨"BoxedProofsModel", "fails", "(JI)I"⟩, 18) := ⟨⟨by decide +kernel, by decide +kernel⟩, List.mem_of_getElem? (i := 689) (by decide +kernel), List.mem_of_getElem? (i := 1029) (by decide +kernel), List.mem_of_getElem? (i := 1030) (by decide +kernel)⟩
theorem lw_p59 : lw_okq (⟨"BoxedProofsModel", "areTrue", "(J)Z"⟩, 18) := ⟨⟨by decide +kernel, by decide +kernel⟩, List.mem_of_getElem? (i := 689) (by decide +kernel), List.mem_of_getElem? (i := 1033) (by decide +kernel), List.mem_of_getElem? (i := 1034) (by decide +kernel)⟩
theorem lw_p60 : lw_okq (⟨"BoxedProofsModel", "lastIn", "(IJ)I"⟩, 18) := ⟨⟨by decide +kernel, by decide +kernel⟩, List.mem_of_getElem? (i := 689) (by decide +kernel), List.mem_of_getElem? (i := 1049) (by decide +kernel), List.mem_of_getElem? (i := 1050) (by decide +kernel)⟩
theorem lw_p61 : lw_okq (⟨"BoxedProofsModel", "liesIn", "(II)Z"⟩, 18) := ⟨⟨by decide +kernel, by decide +kernel⟩, List.mem_of_getElem? (i := 689) (by decide +kernel), List.mem_of_getElem? (i := 1053) (by decide +kernel), List.mem_of_getElem? (i := 1054) (by decide +kernel)⟩
theorem lw_p62 : lw_okq (⟨"BoxedProofsModel", "moveLines", "(J)V"⟩, 18) := ⟨⟨by decide +kernel, by decide +kernel⟩, List.mem_of_getElem? (i := 689) (by decide +kernel), List.mem_of_getElem? (i := 1057) (by decide +kernel), List.mem_of_getElem? (i := 1058) (by decide +kernel)⟩
theorem lw_p63 : lw_okq (⟨"BoxedProofsModel", "renamed", "(II)I"⟩, 18) := ⟨⟨by decide +kernel, by decide +kernel⟩, List.mem_of_getElem? (i := 689) (by decide +kernel), List.mem_of_getElem? (i := 1061) (by decide +kernel), List.mem_of_getElem? (i := 1062) (by decide +kernel)⟩
def lw_privs_4 : List (MethodName × Nat) := [(⟨"BoxedProofsModel", "ruleOf", "(I)I"⟩, 18), (⟨"BoxedProofsModel", "depthOf", "(I)I"⟩, 18), (⟨"BoxedProofsModel", "neededBy", "(I)I"⟩, 18), (⟨"BoxedProofsModel", "direct", "(I)J"⟩, 18), (⟨"BoxedProofsModel", "refOf", "(II)I"⟩, 18), (⟨"BoxedProofsModel", "isToBox", "(II)Z"⟩, 18), (⟨"BoxedProofsModel", "needed", "(I)J"⟩, 18), (⟨"BoxedProofsModel", "assumed", "(I)J"⟩, 18), (⟨"BoxedProofsModel", "bypassOf", "(I)I"⟩, 18), (⟨"BoxedProofsModel", "premises", "()J"⟩, 18), (⟨"BoxedProofsModel", "fails", "(JI)I"⟩, 18), (⟨"BoxedProofsModel", "areTrue", "(J)Z"⟩, 18), (⟨"BoxedProofsModel", "lastIn", "(IJ)I"⟩, 18), (⟨"BoxedProofsModel", "liesIn", "(II)Z"⟩, 18), (⟨"BoxedProofsModel", "moveLines", "(J)V"⟩, 18), (⟨"BoxedProofsModel", "renamed", "(II)I"⟩, 18)]
theorem lw_r4 : ∀ q ∈ lw_privs_4, lw_okq q := List.forall_mem_cons.mpr ⟨lw_p48, List.forall_mem_cons.mpr ⟨lw_p49, List.forall_mem_cons.mpr ⟨lw_p50, List.forall_mem_cons.mpr ⟨lw_p51, List.forall_mem_cons.mpr ⟨lw_p52, List.forall_mem_cons.mpr ⟨lw_p53, List.forall_mem_cons.mpr ⟨lw_p54, List.forall_mem_cons.mpr ⟨lw_p55, List.forall_mem_cons.mpr ⟨lw_p56, List.forall_mem_cons.mpr ⟨lw_p57, List.forall_mem_cons.mpr ⟨lw_p58, List.forall_mem_cons.mpr ⟨lw_p59, List.forall_mem_cons.mpr ⟨lw_p60, List.forall_mem_cons.mpr ⟨lw_p61, List.forall_mem_cons.mpr ⟨lw_p62, List.forall_mem_cons.mpr ⟨lw_p63, fun _ h => absurd h List.not_mem_nil⟩⟩⟩⟩⟩⟩⟩⟩⟩⟩⟩⟩⟩⟩⟩⟩
theorem lw_p64 : lw_okq (⟨"BoxedProofsModel", "moveBoxes", "()V"⟩, 18) := ⟨⟨by decide +kernel, by decide +kernel⟩, List.mem_of_getElem? (i := 689) (by decide +kernel), List.mem_of_getElem? (i := 1065) (by decide +kernel), List.mem_of_getElem? (i := 1066) (by decide +kernel)⟩
theorem lw_p65 : lw_okq (⟨"BoxedProofsModel", "readBuffer", "(Z)I"⟩, 18) := ⟨⟨by decide +kernel, by decide +kernel⟩, List.mem_of_getElem? (i := 689) (by decide +kernel), List.mem_of_getElem? (i := 1081) (by decide +kernel), List.mem_of_getElem? (i := 1082) (by decide +kernel)⟩
theorem lw_p66 : lw_okq (⟨"BoxedProofsModel", "readOne", "(ZI)Z"⟩, 18) := ⟨⟨by decide +kernel, by decide +kernel⟩, List.mem_of_getElem? (i := 689) (by decide +kernel), List.mem_of_getElem? (i := 1085) (by decide +kernel), List.mem_of_getElem? (i := 1086) (by decide +kernel)⟩
theorem lw_p67 : lw_okq (⟨"BoxedProofsModel", "makes", "(ZIII)I"⟩, 18) := ⟨⟨by decide +kernel, by decide +kernel⟩, List.mem_of_getElem? (i := 689) (by decide +kernel), List.mem_of_getElem? (i := 1089) (by decide +kernel), List.mem_of_getElem? (i := 1090) (by decide +kernel)⟩
theorem lw_p68 : lw_okq (⟨"BoxedProofsModel", "isWhole", "(ZI)V"⟩, 18) := ⟨⟨by decide +kernel, by decide +kernel⟩, List.mem_of_getElem? (i := 689) (by decide +kernel), List.mem_of_getElem? (i := 1093) (by decide +kernel), List.mem_of_getElem? (i := 1094) (by decide +kernel)⟩
def lw_privs_5 : List (MethodName × Nat) := [(⟨"BoxedProofsModel", "moveBoxes", "()V"⟩, 18), (⟨"BoxedProofsModel", "readBuffer", "(Z)I"⟩, 18), (⟨"BoxedProofsModel", "readOne", "(ZI)Z"⟩, 18), (⟨"BoxedProofsModel", "makes", "(ZIII)I"⟩, 18), (⟨"BoxedProofsModel", "isWhole", "(ZI)V"⟩, 18)]
theorem lw_r5 : ∀ q ∈ lw_privs_5, lw_okq q := List.forall_mem_cons.mpr ⟨lw_p64, List.forall_mem_cons.mpr ⟨lw_p65, List.forall_mem_cons.mpr ⟨lw_p66, List.forall_mem_cons.mpr ⟨lw_p67, List.forall_mem_cons.mpr ⟨lw_p68, fun _ h => absurd h List.not_mem_nil⟩⟩⟩⟩⟩
def lw_privs : List (MethodName × Nat) := lw_privs_1 ++ (lw_privs_2 ++ (lw_privs_3 ++ (lw_privs_4 ++ (lw_privs_5))))
def lw_tbl : List Cond := k2_sels lw_privs ++ tables_1
theorem lw_privs_ok : ∀ q ∈ lw_privs, lw_okq q := by
  show ∀ q ∈ lw_privs_1 ++ (lw_privs_2 ++ (lw_privs_3 ++ (lw_privs_4 ++ (lw_privs_5)))), lw_okq q
  exact List.forall_mem_append.mpr ⟨lw_r1, List.forall_mem_append.mpr ⟨lw_r2, List.forall_mem_append.mpr ⟨lw_r3, List.forall_mem_append.mpr ⟨lw_r4, lw_r5⟩⟩⟩⟩
-- ===== end of PART A; then your names; then what follows =====
end
section
/-! ===== BEGIN words of one list among another's, by their places ===== -/
theorem goodIn_r {big : List Cond} (ws : List Cond) (ps : List Nat) (hp : ws = ps.filterMap (fun i => big[i]?)) (h : ws.all goodWord = true) : GoodIn big ws := by
  intro w hw
  have h1 := List.all_eq_true.mp h w hw
  rw [hp] at hw
  obtain ⟨i, -, hi⟩ := List.mem_filterMap.mp hw
  have hm : w ∈ big := by first | exact List.mem_of_getElem? hi | exact List.getElem?_mem hi
  exact ⟨hm, good_of_word h1⟩
theorem goodIn_app {big a b : List Cond} (ha : GoodIn big a) (hb : GoodIn big b) : GoodIn big (a ++ b) := fun w h => (List.mem_append.mp h).elim (ha w) (hb w)
theorem goodIn_ca {big a b : List Cond} {c : Cond} (ha : GoodIn big (c :: a)) (hb : GoodIn big b) : GoodIn big (c :: (a ++ b)) := fun w h => (List.mem_cons.mp h).elim (fun e => ha w (List.mem_cons.mpr (Or.inl e))) (fun h => (List.mem_append.mp h).elim (fun h => ha w (List.mem_cons.mpr (Or.inr h))) (hb w))
theorem goodIn_sub {big ws : List Cond} (hm : ∀ w ∈ ws, w ∈ big) (h : ws.all goodWord = true) : GoodIn big ws := fun w hw => ⟨hm w hw, good_of_word (List.all_eq_true.mp h w hw)⟩
/-! ===== END ===== -/

/-! ===== BEGIN printed: names, fields, word lists, decode rows ===== -/
def RX0 : String := "BoxedProofs$Buffer"
def TX0 : u_T := fun k => match k with
  | 0 => ("BoxedProofs$Buffer", "count", "I", false)
  | 1 => ("BoxedProofs$Buffer", "codes", "LBoxedProofs$Row;", true)
  | 2 => ("BoxedProofs$Buffer", "opened", "I", false)
  | 3 => ("BoxedProofs$Buffer", "signed", "I", false)
  | _ => ("BoxedProofs$Buffer", "isPartRead", "Z", false)
def tyX0 : Nat → FieldType := fun k => match k with
  | 0 => .int
  | 1 => .object "BoxedProofs$Row"
  | 2 => .int
  | 3 => .int
  | _ => .boolean
abbrev wsX00 : List Cond := u_ws RX0 TX0 5
theorem nmX0 : ∀ a, a < 5 → ∀ b, b < 5 → a ≠ b → (TX0 a).2.1 ≠ (TX0 b).2.1 := by decide +kernel
theorem tyX0_ok : ∀ k, k < 5 → parseFieldDescriptor (TX0 k).2.2.1 = some (tyX0 k) := by decide +kernel
abbrev cX0_init : ByteArray := prog_2_method_1_code
def yX0_init : MethodName := ⟨RX0, "<init>", "()V"⟩
abbrev cX0_add : ByteArray := prog_2_method_2_code
def yX0_add : MethodName := ⟨RX0, "add", "(I)V"⟩
abbrev cX0_firstError : ByteArray := prog_2_method_3_code
def yX0_firstError : MethodName := ⟨RX0, "firstError", "()I"⟩
abbrev cX0_beginsPart : ByteArray := prog_2_method_4_code
def yX0_beginsPart : MethodName := ⟨RX0, "beginsPart", "(I)Z"⟩
abbrev cX0_continuesPart : ByteArray := prog_2_method_5_code
def yX0_continuesPart : MethodName := ⟨RX0, "continuesPart", "(I)Z"⟩
def RX1 : String := "BoxedProofs$Builder"
def TX1 : u_T := fun k => match k with
  | 0 => ("BoxedProofs$Builder", "height", "I", false)
  | 1 => ("BoxedProofs$Builder", "waiting", "LBoxedProofs$Row;", true)
  | _ => ("BoxedProofs$Builder", "waitingLefts", "LBoxedProofs$Row;", true)
def tyX1 : Nat → FieldType := fun k => match k with
  | 0 => .int
  | 1 => .object "BoxedProofs$Row"
  | _ => .object "BoxedProofs$Row"
abbrev wsX10 : List Cond := u_ws RX1 TX1 3
theorem nmX1 : ∀ a, a < 3 → ∀ b, b < 3 → a ≠ b → (TX1 a).2.1 ≠ (TX1 b).2.1 := by decide +kernel
theorem tyX1_ok : ∀ k, k < 3 → parseFieldDescriptor (TX1 k).2.2.1 = some (tyX1 k) := by decide +kernel
abbrev cX1_init : ByteArray := prog_3_method_1_code
def yX1_init : MethodName := ⟨RX1, "<init>", "()V"⟩
abbrev cX1_build : ByteArray := prog_3_method_2_code
def yX1_build : MethodName := ⟨RX1, "build", "(LBoxedProofs$Buffer;LBoxedProofs$Formulas;)I"⟩
abbrev cX1_push : ByteArray := prog_3_method_3_code
def yX1_push : MethodName := ⟨RX1, "push", "(I)V"⟩
abbrev cX1_makeAtEnd : ByteArray := prog_3_method_4_code
def yX1_makeAtEnd : MethodName := ⟨RX1, "makeAtEnd", "(IILBoxedProofs$Formulas;)I"⟩
abbrev cX1_negate : ByteArray := prog_3_method_5_code
def yX1_negate : MethodName := ⟨RX1, "negate", "(ILBoxedProofs$Formulas;)I"⟩
def RX2 : String := "BoxedProofs$Formulas"
def TX2 : u_T := fun k => match k with
  | 0 => ("BoxedProofs$Formulas", "count", "I", false)
  | 1 => ("BoxedProofs$Formulas", "kinds", "LBoxedProofs$Row;", true)
  | 2 => ("BoxedProofs$Formulas", "lefts", "LBoxedProofs$Row;", true)
  | _ => ("BoxedProofs$Formulas", "rights", "LBoxedProofs$Row;", true)
def tyX2 : Nat → FieldType := fun k => match k with
  | 0 => .int
  | 1 => .object "BoxedProofs$Row"
  | 2 => .object "BoxedProofs$Row"
  | _ => .object "BoxedProofs$Row"
abbrev wsX20 : List Cond := u_ws RX2 TX2 4
theorem nmX2 : ∀ a, a < 4 → ∀ b, b < 4 → a ≠ b → (TX2 a).2.1 ≠ (TX2 b).2.1 := by decide +kernel
theorem tyX2_ok : ∀ k, k < 4 → parseFieldDescriptor (TX2 k).2.2.1 = some (tyX2 k) := by decide +kernel
abbrev cX2_init : ByteArray := prog_4_method_1_code
def yX2_init : MethodName := ⟨RX2, "<init>", "()V"⟩
abbrev cX2_copyFrom : ByteArray := prog_4_method_2_code
def yX2_copyFrom : MethodName := ⟨RX2, "copyFrom", "(LBoxedProofs$Formulas;)V"⟩
abbrev cX2_has : ByteArray := prog_4_method_3_code
def yX2_has : MethodName := ⟨RX2, "has", "(I)Z"⟩
abbrev cX2_isOfKind : ByteArray := prog_4_method_4_code
def yX2_isOfKind : MethodName := ⟨RX2, "isOfKind", "(II)Z"⟩
abbrev cX2_isPartOfDisjunction : ByteArray := prog_4_method_5_code
def yX2_isPartOfDisjunction : MethodName := ⟨RX2, "isPartOfDisjunction", "(II)Z"⟩
abbrev cX2_takenOut : ByteArray := prog_4_method_6_code
def yX2_takenOut : MethodName := ⟨RX2, "takenOut", "(II)I"⟩
abbrev cX2_find : ByteArray := prog_4_method_7_code
def yX2_find : MethodName := ⟨RX2, "find", "(III)I"⟩
abbrev cX2_hasRoomFor : ByteArray := prog_4_method_8_code
def yX2_hasRoomFor : MethodName := ⟨RX2, "hasRoomFor", "(III)Z"⟩
abbrev cX2_make : ByteArray := prog_4_method_9_code
def yX2_make : MethodName := ⟨RX2, "make", "(III)I"⟩
abbrev cX2_measure : ByteArray := prog_4_method_10_code
def yX2_measure : MethodName := ⟨RX2, "measure", "(LBoxedProofs$Row;)V"⟩
abbrev cX2_codeAt : ByteArray := prog_4_method_11_code
def yX2_codeAt : MethodName := ⟨RX2, "codeAt", "(IILBoxedProofs$Row;)I"⟩
abbrev cX2_firstCode : ByteArray := prog_4_method_12_code
def yX2_firstCode : MethodName := ⟨RX2, "firstCode", "(I)I"⟩
abbrev cX2_evaluate : ByteArray := prog_4_method_13_code
def yX2_evaluate : MethodName := ⟨RX2, "evaluate", "(ILBoxedProofs$Row;)V"⟩
abbrev cX2_truthOf : ByteArray := prog_4_method_14_code
def yX2_truthOf : MethodName := ⟨RX2, "truthOf", "(IILBoxedProofs$Row;)I"⟩
abbrev cX2_truthOfAtom : ByteArray := prog_4_method_15_code
def yX2_truthOfAtom : MethodName := ⟨RX2, "truthOfAtom", "(II)I"⟩
def RX3 : String := "BoxedProofs$History"
def TX3 : u_T := fun k => match k with
  | 0 => ("BoxedProofs$History", "count", "I", false)
  | 1 => ("BoxedProofs$History", "next", "I", false)
  | _ => ("BoxedProofs$History", "ring", "[LBoxedProofs$State;", true)
def tyX3 : Nat → FieldType := fun k => match k with
  | 0 => .int
  | 1 => .int
  | _ => .array (.object "BoxedProofs$State")
abbrev wsX30 : List Cond := u_ws RX3 TX3 3
theorem nmX3 : ∀ a, a < 3 → ∀ b, b < 3 → a ≠ b → (TX3 a).2.1 ≠ (TX3 b).2.1 := by decide +kernel
theorem tyX3_ok : ∀ k, k < 3 → parseFieldDescriptor (TX3 k).2.2.1 = some (tyX3 k) := by decide +kernel
abbrev cX3_init : ByteArray := prog_5_method_1_code
def yX3_init : MethodName := ⟨RX3, "<init>", "()V"⟩
abbrev cX3_at : ByteArray := prog_5_method_2_code
def yX3_at : MethodName := ⟨RX3, "at", "(I)LBoxedProofs$State;"⟩
abbrev cX3_record : ByteArray := prog_5_method_3_code
def yX3_record : MethodName := ⟨RX3, "record", "(LBoxedProofs$State;)V"⟩
abbrev cX3_takeBack : ByteArray := prog_5_method_4_code
def yX3_takeBack : MethodName := ⟨RX3, "takeBack", "(LBoxedProofs$State;)V"⟩
def RX4 : String := "BoxedProofs$Proof"
def TX4 : u_T := fun k => match k with
  | 0 => ("BoxedProofs$Proof", "lineCount", "I", false)
  | 1 => ("BoxedProofs$Proof", "boxCount", "I", false)
  | 2 => ("BoxedProofs$Proof", "innermost", "I", false)
  | 3 => ("BoxedProofs$Proof", "lineFormulas", "LBoxedProofs$Row;", true)
  | 4 => ("BoxedProofs$Proof", "rules", "LBoxedProofs$Row;", true)
  | 5 => ("BoxedProofs$Proof", "homes", "LBoxedProofs$Row;", true)
  | 6 => ("BoxedProofs$Proof", "firsts", "LBoxedProofs$Row;", true)
  | 7 => ("BoxedProofs$Proof", "seconds", "LBoxedProofs$Row;", true)
  | 8 => ("BoxedProofs$Proof", "thirds", "LBoxedProofs$Row;", true)
  | 9 => ("BoxedProofs$Proof", "starts", "LBoxedProofs$Row;", true)
  | 10 => ("BoxedProofs$Proof", "ends", "LBoxedProofs$Row;", true)
  | _ => ("BoxedProofs$Proof", "parents", "LBoxedProofs$Row;", true)
def tyX4 : Nat → FieldType := fun k => match k with
  | 0 => .int
  | 1 => .int
  | 2 => .int
  | 3 => .object "BoxedProofs$Row"
  | 4 => .object "BoxedProofs$Row"
  | 5 => .object "BoxedProofs$Row"
  | 6 => .object "BoxedProofs$Row"
  | 7 => .object "BoxedProofs$Row"
  | 8 => .object "BoxedProofs$Row"
  | 9 => .object "BoxedProofs$Row"
  | 10 => .object "BoxedProofs$Row"
  | _ => .object "BoxedProofs$Row"
abbrev wsX40 : List Cond := u_ws RX4 TX4 12
theorem nmX4 : ∀ a, a < 12 → ∀ b, b < 12 → a ≠ b → (TX4 a).2.1 ≠ (TX4 b).2.1 := by decide +kernel
theorem tyX4_ok : ∀ k, k < 12 → parseFieldDescriptor (TX4 k).2.2.1 = some (tyX4 k) := by decide +kernel
abbrev cX4_init : ByteArray := prog_6_method_1_code
def yX4_init : MethodName := ⟨RX4, "<init>", "()V"⟩
abbrev cX4_copyFrom : ByteArray := prog_6_method_2_code
def yX4_copyFrom : MethodName := ⟨RX4, "copyFrom", "(LBoxedProofs$Proof;)V"⟩
abbrev cX4_hasLine : ByteArray := prog_6_method_3_code
def yX4_hasLine : MethodName := ⟨RX4, "hasLine", "(I)Z"⟩
abbrev cX4_hasBox : ByteArray := prog_6_method_4_code
def yX4_hasBox : MethodName := ⟨RX4, "hasBox", "(I)Z"⟩
abbrev cX4_isFull : ByteArray := prog_6_method_5_code
def yX4_isFull : MethodName := ⟨RX4, "isFull", "()Z"⟩
abbrev cX4_addLine : ByteArray := prog_6_method_6_code
def yX4_addLine : MethodName := ⟨RX4, "addLine", "(IIIII)I"⟩
abbrev cX4_openBox : ByteArray := prog_6_method_7_code
def yX4_openBox : MethodName := ⟨RX4, "openBox", "(I)I"⟩
abbrev cX4_canCloseBox : ByteArray := prog_6_method_8_code
def yX4_canCloseBox : MethodName := ⟨RX4, "canCloseBox", "()Z"⟩
abbrev cX4_closeBox : ByteArray := prog_6_method_9_code
def yX4_closeBox : MethodName := ⟨RX4, "closeBox", "()I"⟩
abbrev cX4_isNoneOrOpen : ByteArray := prog_6_method_10_code
def yX4_isNoneOrOpen : MethodName := ⟨RX4, "isNoneOrOpen", "(I)Z"⟩
abbrev cX4_isLineAvailable : ByteArray := prog_6_method_11_code
def yX4_isLineAvailable : MethodName := ⟨RX4, "isLineAvailable", "(I)Z"⟩
abbrev cX4_isBoxAvailable : ByteArray := prog_6_method_12_code
def yX4_isBoxAvailable : MethodName := ⟨RX4, "isBoxAvailable", "(I)Z"⟩
abbrev cX4_assumptionOf : ByteArray := prog_6_method_13_code
def yX4_assumptionOf : MethodName := ⟨RX4, "assumptionOf", "(I)I"⟩
abbrev cX4_conclusionOf : ByteArray := prog_6_method_14_code
def yX4_conclusionOf : MethodName := ⟨RX4, "conclusionOf", "(I)I"⟩
abbrev cX4_nesting : ByteArray := prog_6_method_15_code
def yX4_nesting : MethodName := ⟨RX4, "nesting", "(I)I"⟩
abbrev cX4_referenceAt : ByteArray := prog_6_method_16_code
def yX4_referenceAt : MethodName := ⟨RX4, "referenceAt", "(II)I"⟩
abbrev cX4_countLineReferences : ByteArray := prog_6_method_17_code
def yX4_countLineReferences : MethodName := ⟨RX4, "countLineReferences", "(I)I"⟩
abbrev cX4_bit : ByteArray := prog_6_method_18_code
def yX4_bit : MethodName := ⟨RX4, "bit", "(I)J"⟩
abbrev cX4_contains : ByteArray := prog_6_method_19_code
def yX4_contains : MethodName := ⟨RX4, "contains", "(JI)Z"⟩
abbrev cX4_directNeeds : ByteArray := prog_6_method_20_code
def yX4_directNeeds : MethodName := ⟨RX4, "directNeeds", "(I)J"⟩
abbrev cX4_countUsers : ByteArray := prog_6_method_21_code
def yX4_countUsers : MethodName := ⟨RX4, "countUsers", "(I)I"⟩
abbrev cX4_assumptionsFrom : ByteArray := prog_6_method_22_code
def yX4_assumptionsFrom : MethodName := ⟨RX4, "assumptionsFrom", "(I)J"⟩
abbrev cX4_allNeeds : ByteArray := prog_6_method_23_code
def yX4_allNeeds : MethodName := ⟨RX4, "allNeeds", "(I)J"⟩
abbrev cX4_bypassOf : ByteArray := prog_6_method_24_code
def yX4_bypassOf : MethodName := ⟨RX4, "bypassOf", "(I)I"⟩
abbrev cX4_countDetours : ByteArray := prog_6_method_25_code
def yX4_countDetours : MethodName := ⟨RX4, "countDetours", "()I"⟩
abbrev cX4_bypassDetours : ByteArray := prog_6_method_26_code
def yX4_bypassDetours : MethodName := ⟨RX4, "bypassDetours", "()I"⟩
abbrev cX4_bypassIn : ByteArray := prog_6_method_27_code
def yX4_bypassIn : MethodName := ⟨RX4, "bypassIn", "(LBoxedProofs$Row;I)I"⟩
abbrev cX4_allowedValuations : ByteArray := prog_6_method_28_code
def yX4_allowedValuations : MethodName := ⟨RX4, "allowedValuations", "(ILBoxedProofs$Row;)I"⟩
abbrev cX4_keepOnly : ByteArray := prog_6_method_29_code
def yX4_keepOnly : MethodName := ⟨RX4, "keepOnly", "(J)I"⟩
abbrev cX4_renumbered : ByteArray := prog_6_method_30_code
def yX4_renumbered : MethodName := ⟨RX4, "renumbered", "(IJ)I"⟩
abbrev cX4_moveLine : ByteArray := prog_6_method_31_code
def yX4_moveLine : MethodName := ⟨RX4, "moveLine", "(IIJJ)V"⟩
abbrev cX4_keepBoxes : ByteArray := prog_6_method_32_code
def yX4_keepBoxes : MethodName := ⟨RX4, "keepBoxes", "(J)J"⟩
abbrev cX4_findEnds : ByteArray := prog_6_method_33_code
def yX4_findEnds : MethodName := ⟨RX4, "findEnds", "()V"⟩
def RX5 : String := "BoxedProofs$Row"
def TX5 : u_T := fun k => match k with
  | _ => ("BoxedProofs$Row", "cells", "[I", true)
def tyX5 : Nat → FieldType := fun k => match k with
  | _ => .array .int
abbrev wsX50 : List Cond := u_ws RX5 TX5 1
theorem nmX5 : ∀ a, a < 1 → ∀ b, b < 1 → a ≠ b → (TX5 a).2.1 ≠ (TX5 b).2.1 := by decide +kernel
theorem tyX5_ok : ∀ k, k < 1 → parseFieldDescriptor (TX5 k).2.2.1 = some (tyX5 k) := by decide +kernel
abbrev cX5_init : ByteArray := prog_7_method_1_code
def yX5_init : MethodName := ⟨RX5, "<init>", "(I)V"⟩
abbrev cX5_get : ByteArray := prog_7_method_2_code
def yX5_get : MethodName := ⟨RX5, "get", "(I)I"⟩
abbrev cX5_set : ByteArray := prog_7_method_3_code
def yX5_set : MethodName := ⟨RX5, "set", "(II)V"⟩
abbrev cX5_copyFrom : ByteArray := prog_7_method_4_code
def yX5_copyFrom : MethodName := ⟨RX5, "copyFrom", "(LBoxedProofs$Row;)V"⟩
def RX6 : String := "BoxedProofs$Signs"
def TX6 : u_T := fun k => match k with
  | _ => ("", "", "", false)
def tyX6 : Nat → FieldType := fun k => match k with
  | _ => .int
abbrev wsX60 : List Cond := u_ws RX6 TX6 0
theorem nmX6 : ∀ a, a < 0 → ∀ b, b < 0 → a ≠ b → (TX6 a).2.1 ≠ (TX6 b).2.1 := by decide +kernel
theorem tyX6_ok : ∀ k, k < 0 → parseFieldDescriptor (TX6 k).2.2.1 = some (tyX6 k) := by decide +kernel
abbrev cX6_ofKind : ByteArray := prog_8_method_2_code
def yX6_ofKind : MethodName := ⟨RX6, "ofKind", "(I)I"⟩
abbrev cX6_kindOf : ByteArray := prog_8_method_3_code
def yX6_kindOf : MethodName := ⟨RX6, "kindOf", "(I)I"⟩
def RX7 : String := "BoxedProofs$State"
def TX7 : u_T := fun k => match k with
  | 0 => ("BoxedProofs$State", "formulas", "LBoxedProofs$Formulas;", true)
  | _ => ("BoxedProofs$State", "proof", "LBoxedProofs$Proof;", true)
def tyX7 : Nat → FieldType := fun k => match k with
  | 0 => .object "BoxedProofs$Formulas"
  | _ => .object "BoxedProofs$Proof"
abbrev wsX70 : List Cond := u_ws RX7 TX7 2
theorem nmX7 : ∀ a, a < 2 → ∀ b, b < 2 → a ≠ b → (TX7 a).2.1 ≠ (TX7 b).2.1 := by decide +kernel
theorem tyX7_ok : ∀ k, k < 2 → parseFieldDescriptor (TX7 k).2.2.1 = some (tyX7 k) := by decide +kernel
abbrev cX7_init : ByteArray := prog_9_method_1_code
def yX7_init : MethodName := ⟨RX7, "<init>", "()V"⟩
abbrev cX7_copyFrom : ByteArray := prog_9_method_2_code
def yX7_copyFrom : MethodName := ⟨RX7, "copyFrom", "(LBoxedProofs$State;)V"⟩
def RX8 : String := "BoxedProofs"
def TX8 : u_T := fun k => match k with
  | 0 => ("BoxedProofs", "now", "LBoxedProofs$State;", true)
  | 1 => ("BoxedProofs", "kept", "LBoxedProofs$State;", true)
  | 2 => ("BoxedProofs", "history", "LBoxedProofs$History;", true)
  | 3 => ("BoxedProofs", "buffer", "LBoxedProofs$Buffer;", true)
  | 4 => ("BoxedProofs", "builder", "LBoxedProofs$Builder;", true)
  | 5 => ("BoxedProofs", "draft", "LBoxedProofs$Formulas;", true)
  | 6 => ("BoxedProofs", "lengths", "LBoxedProofs$Row;", true)
  | 7 => ("BoxedProofs", "truths", "LBoxedProofs$Row;", true)
  | _ => ("BoxedProofs", "isKept", "Z", false)
def tyX8 : Nat → FieldType := fun k => match k with
  | 0 => .object "BoxedProofs$State"
  | 1 => .object "BoxedProofs$State"
  | 2 => .object "BoxedProofs$History"
  | 3 => .object "BoxedProofs$Buffer"
  | 4 => .object "BoxedProofs$Builder"
  | 5 => .object "BoxedProofs$Formulas"
  | 6 => .object "BoxedProofs$Row"
  | 7 => .object "BoxedProofs$Row"
  | _ => .boolean
abbrev wsX80 : List Cond := u_ws RX8 TX8 9
theorem nmX8 : ∀ a, a < 9 → ∀ b, b < 9 → a ≠ b → (TX8 a).2.1 ≠ (TX8 b).2.1 := by decide +kernel
theorem tyX8_ok : ∀ k, k < 9 → parseFieldDescriptor (TX8 k).2.2.1 = some (tyX8 k) := by decide +kernel
abbrev cX8_init : ByteArray := prog_1_method_1_code
def yX8_init : MethodName := ⟨RX8, "<init>", "()V"⟩
abbrev cX8_atom : ByteArray := prog_1_method_2_code
def yX8_atom : MethodName := ⟨RX8, "atom", "(I)I"⟩
abbrev cX8_falsum : ByteArray := prog_1_method_3_code
def yX8_falsum : MethodName := ⟨RX8, "falsum", "()I"⟩
abbrev cX8_not : ByteArray := prog_1_method_4_code
def yX8_not : MethodName := ⟨RX8, "not", "(I)I"⟩
abbrev cX8_pair : ByteArray := prog_1_method_5_code
def yX8_pair : MethodName := ⟨RX8, "pair", "(III)I"⟩
abbrev cX8_makeFormula : ByteArray := prog_1_method_6_code
def yX8_makeFormula : MethodName := ⟨RX8, "makeFormula", "(III)I"⟩
abbrev cX8_formulas : ByteArray := prog_1_method_7_code
def yX8_formulas : MethodName := ⟨RX8, "formulas", "()I"⟩
abbrev cX8_part : ByteArray := prog_1_method_8_code
def yX8_part : MethodName := ⟨RX8, "part", "(II)I"⟩
abbrev cX8_length : ByteArray := prog_1_method_9_code
def yX8_length : MethodName := ⟨RX8, "length", "(I)I"⟩
abbrev cX8_character : ByteArray := prog_1_method_10_code
def yX8_character : MethodName := ⟨RX8, "character", "(II)I"⟩
abbrev cX8_isTrue : ByteArray := prog_1_method_11_code
def yX8_isTrue : MethodName := ⟨RX8, "isTrue", "(II)I"⟩
abbrev cX8_premise : ByteArray := prog_1_method_12_code
def yX8_premise : MethodName := ⟨RX8, "premise", "(I)I"⟩
abbrev cX8_open : ByteArray := prog_1_method_13_code
def yX8_open : MethodName := ⟨RX8, "open", "(I)I"⟩
abbrev cX8_close : ByteArray := prog_1_method_14_code
def yX8_close : MethodName := ⟨RX8, "close", "()I"⟩
abbrev cX8_repeat : ByteArray := prog_1_method_15_code
def yX8_repeat : MethodName := ⟨RX8, "repeat", "(I)I"⟩
abbrev cX8_fromTwo : ByteArray := prog_1_method_16_code
def yX8_fromTwo : MethodName := ⟨RX8, "fromTwo", "(III)I"⟩
abbrev cX8_fromOne : ByteArray := prog_1_method_17_code
def yX8_fromOne : MethodName := ⟨RX8, "fromOne", "(II)I"⟩
abbrev cX8_toFormula : ByteArray := prog_1_method_18_code
def yX8_toFormula : MethodName := ⟨RX8, "toFormula", "(III)I"⟩
abbrev cX8_fromBox : ByteArray := prog_1_method_19_code
def yX8_fromBox : MethodName := ⟨RX8, "fromBox", "(II)I"⟩
abbrev cX8_cases : ByteArray := prog_1_method_20_code
def yX8_cases : MethodName := ⟨RX8, "cases", "(III)I"⟩
abbrev cX8_write : ByteArray := prog_1_method_21_code
def yX8_write : MethodName := ⟨RX8, "write", "(IIIII)I"⟩
abbrev cX8_writeMade : ByteArray := prog_1_method_22_code
def yX8_writeMade : MethodName := ⟨RX8, "writeMade", "(IIIIII)I"⟩
abbrev cX8_lines : ByteArray := prog_1_method_23_code
def yX8_lines : MethodName := ⟨RX8, "lines", "()I"⟩
abbrev cX8_line : ByteArray := prog_1_method_24_code
def yX8_line : MethodName := ⟨RX8, "line", "(II)I"⟩
abbrev cX8_reference : ByteArray := prog_1_method_25_code
def yX8_reference : MethodName := ⟨RX8, "reference", "(II)I"⟩
abbrev cX8_boxes : ByteArray := prog_1_method_26_code
def yX8_boxes : MethodName := ⟨RX8, "boxes", "()I"⟩
abbrev cX8_box : ByteArray := prog_1_method_27_code
def yX8_box : MethodName := ⟨RX8, "box", "(II)I"⟩
abbrev cX8_depth : ByteArray := prog_1_method_28_code
def yX8_depth : MethodName := ⟨RX8, "depth", "()I"⟩
abbrev cX8_needs : ByteArray := prog_1_method_29_code
def yX8_needs : MethodName := ⟨RX8, "needs", "(I)J"⟩
abbrev cX8_bypass : ByteArray := prog_1_method_30_code
def yX8_bypass : MethodName := ⟨RX8, "bypass", "(I)I"⟩
abbrev cX8_detours : ByteArray := prog_1_method_31_code
def yX8_detours : MethodName := ⟨RX8, "detours", "()I"⟩
abbrev cX8_failure : ByteArray := prog_1_method_32_code
def yX8_failure : MethodName := ⟨RX8, "failure", "(I)I"⟩
abbrev cX8_counterexample : ByteArray := prog_1_method_33_code
def yX8_counterexample : MethodName := ⟨RX8, "counterexample", "(I)I"⟩
abbrev cX8_lowestFailure : ByteArray := prog_1_method_34_code
def yX8_lowestFailure : MethodName := ⟨RX8, "lowestFailure", "(II)I"⟩
abbrev cX8_lowestBit : ByteArray := prog_1_method_35_code
def yX8_lowestBit : MethodName := ⟨RX8, "lowestBit", "(I)I"⟩
abbrev cX8_shorten : ByteArray := prog_1_method_36_code
def yX8_shorten : MethodName := ⟨RX8, "shorten", "()I"⟩
abbrev cX8_trim : ByteArray := prog_1_method_37_code
def yX8_trim : MethodName := ⟨RX8, "trim", "(I)I"⟩
abbrev cX8_append : ByteArray := prog_1_method_38_code
def yX8_append : MethodName := ⟨RX8, "append", "(I)I"⟩
abbrev cX8_clearText : ByteArray := prog_1_method_39_code
def yX8_clearText : MethodName := ⟨RX8, "clearText", "()I"⟩
abbrev cX8_errorPosition : ByteArray := prog_1_method_40_code
def yX8_errorPosition : MethodName := ⟨RX8, "errorPosition", "()I"⟩
abbrev cX8_read : ByteArray := prog_1_method_41_code
def yX8_read : MethodName := ⟨RX8, "read", "()I"⟩
abbrev cX8_undo : ByteArray := prog_1_method_42_code
def yX8_undo : MethodName := ⟨RX8, "undo", "()I"⟩
abbrev cX8_save : ByteArray := prog_1_method_43_code
def yX8_save : MethodName := ⟨RX8, "save", "()I"⟩
abbrev cX8_restore : ByteArray := prog_1_method_44_code
def yX8_restore : MethodName := ⟨RX8, "restore", "()I"⟩
def RX9 : String := "BoxedProofsModel"
def TX9 : u_T := fun k => match k with
  | 0 => ("BoxedProofsModel", "z", "[I", true)
  | 1 => ("BoxedProofsModel", "past", "[I", true)
  | 2 => ("BoxedProofsModel", "pastMany", "I", false)
  | 3 => ("BoxedProofsModel", "kept", "[I", true)
  | 4 => ("BoxedProofsModel", "isKept", "Z", false)
  | 5 => ("BoxedProofsModel", "buffer", "[C", true)
  | 6 => ("BoxedProofsModel", "typed", "I", false)
  | 7 => ("BoxedProofsModel", "lengths", "[I", true)
  | 8 => ("BoxedProofsModel", "truth", "[Z", true)
  | 9 => ("BoxedProofsModel", "newLine", "[I", true)
  | 10 => ("BoxedProofsModel", "newBox", "[I", true)
  | 11 => ("BoxedProofsModel", "waits", "[I", true)
  | 12 => ("BoxedProofsModel", "ahead", "[I", true)
  | 13 => ("BoxedProofsModel", "signs", "[I", true)
  | 14 => ("BoxedProofsModel", "deep", "I", false)
  | 15 => ("BoxedProofsModel", "wantsFormula", "Z", false)
  | 16 => ("BoxedProofsModel", "value", "I", false)
  | _ => ("BoxedProofsModel", "isOver", "Z", false)
def tyX9 : Nat → FieldType := fun k => match k with
  | 0 => .array .int
  | 1 => .array .int
  | 2 => .int
  | 3 => .array .int
  | 4 => .boolean
  | 5 => .array .char
  | 6 => .int
  | 7 => .array .int
  | 8 => .array .boolean
  | 9 => .array .int
  | 10 => .array .int
  | 11 => .array .int
  | 12 => .array .int
  | 13 => .array .int
  | 14 => .int
  | 15 => .boolean
  | 16 => .int
  | _ => .boolean
abbrev wsX90 : List Cond := u_ws RX9 TX9 18
theorem nmX9 : ∀ a, a < 18 → ∀ b, b < 18 → a ≠ b → (TX9 a).2.1 ≠ (TX9 b).2.1 := by decide +kernel
theorem tyX9_ok : ∀ k, k < 18 → parseFieldDescriptor (TX9 k).2.2.1 = some (tyX9 k) := by decide +kernel
abbrev cX9_init : ByteArray := prog_11_method_1_code
def yX9_init : MethodName := ⟨RX9, "<init>", "()V"⟩
abbrev cX9_in : ByteArray := prog_11_method_2_code
def yX9_in : MethodName := ⟨RX9, "in", "(III)Z"⟩
abbrev cX9_record : ByteArray := prog_11_method_3_code
def yX9_record : MethodName := ⟨RX9, "record", "()V"⟩
abbrev cX9_undo : ByteArray := prog_11_method_4_code
def yX9_undo : MethodName := ⟨RX9, "undo", "()I"⟩
abbrev cX9_save : ByteArray := prog_11_method_5_code
def yX9_save : MethodName := ⟨RX9, "save", "()I"⟩
abbrev cX9_restore : ByteArray := prog_11_method_6_code
def yX9_restore : MethodName := ⟨RX9, "restore", "()I"⟩
abbrev cX9_isFormula : ByteArray := prog_11_method_7_code
def yX9_isFormula : MethodName := ⟨RX9, "isFormula", "(I)Z"⟩
abbrev cX9_kind : ByteArray := prog_11_method_8_code
def yX9_kind : MethodName := ⟨RX9, "kind", "(I)I"⟩
abbrev cX9_left : ByteArray := prog_11_method_9_code
def yX9_left : MethodName := ⟨RX9, "left", "(I)I"⟩
abbrev cX9_right : ByteArray := prog_11_method_10_code
def yX9_right : MethodName := ⟨RX9, "right", "(I)I"⟩
abbrev cX9_find : ByteArray := prog_11_method_11_code
def yX9_find : MethodName := ⟨RX9, "find", "(III)I"⟩
abbrev cX9_hasRoom : ByteArray := prog_11_method_12_code
def yX9_hasRoom : MethodName := ⟨RX9, "hasRoom", "(III)Z"⟩
abbrev cX9_make : ByteArray := prog_11_method_13_code
def yX9_make : MethodName := ⟨RX9, "make", "(III)I"⟩
abbrev cX9_makeOne : ByteArray := prog_11_method_14_code
def yX9_makeOne : MethodName := ⟨RX9, "makeOne", "(III)I"⟩
abbrev cX9_atom : ByteArray := prog_11_method_15_code
def yX9_atom : MethodName := ⟨RX9, "atom", "(I)I"⟩
abbrev cX9_falsum : ByteArray := prog_11_method_16_code
def yX9_falsum : MethodName := ⟨RX9, "falsum", "()I"⟩
abbrev cX9_not : ByteArray := prog_11_method_17_code
def yX9_not : MethodName := ⟨RX9, "not", "(I)I"⟩
abbrev cX9_pair : ByteArray := prog_11_method_18_code
def yX9_pair : MethodName := ⟨RX9, "pair", "(III)I"⟩
abbrev cX9_formulas : ByteArray := prog_11_method_19_code
def yX9_formulas : MethodName := ⟨RX9, "formulas", "()I"⟩
abbrev cX9_part : ByteArray := prog_11_method_20_code
def yX9_part : MethodName := ⟨RX9, "part", "(II)I"⟩
abbrev cX9_measure : ByteArray := prog_11_method_21_code
def yX9_measure : MethodName := ⟨RX9, "measure", "()V"⟩
abbrev cX9_length : ByteArray := prog_11_method_22_code
def yX9_length : MethodName := ⟨RX9, "length", "(I)I"⟩
abbrev cX9_character : ByteArray := prog_11_method_23_code
def yX9_character : MethodName := ⟨RX9, "character", "(II)I"⟩
abbrev cX9_evaluate : ByteArray := prog_11_method_24_code
def yX9_evaluate : MethodName := ⟨RX9, "evaluate", "(I)V"⟩
abbrev cX9_isTrue : ByteArray := prog_11_method_25_code
def yX9_isTrue : MethodName := ⟨RX9, "isTrue", "(II)I"⟩
abbrev cX9_isLine : ByteArray := prog_11_method_26_code
def yX9_isLine : MethodName := ⟨RX9, "isLine", "(I)Z"⟩
abbrev cX9_isBox : ByteArray := prog_11_method_27_code
def yX9_isBox : MethodName := ⟨RX9, "isBox", "(I)Z"⟩
abbrev cX9_formulaOf : ByteArray := prog_11_method_28_code
def yX9_formulaOf : MethodName := ⟨RX9, "formulaOf", "(I)I"⟩
abbrev cX9_ruleOf : ByteArray := prog_11_method_29_code
def yX9_ruleOf : MethodName := ⟨RX9, "ruleOf", "(I)I"⟩
abbrev cX9_refOf : ByteArray := prog_11_method_30_code
def yX9_refOf : MethodName := ⟨RX9, "refOf", "(II)I"⟩
abbrev cX9_boxOf : ByteArray := prog_11_method_31_code
def yX9_boxOf : MethodName := ⟨RX9, "boxOf", "(I)I"⟩
abbrev cX9_opens : ByteArray := prog_11_method_32_code
def yX9_opens : MethodName := ⟨RX9, "opens", "(I)I"⟩
abbrev cX9_ends : ByteArray := prog_11_method_33_code
def yX9_ends : MethodName := ⟨RX9, "ends", "(I)I"⟩
abbrev cX9_parent : ByteArray := prog_11_method_34_code
def yX9_parent : MethodName := ⟨RX9, "parent", "(I)I"⟩
abbrev cX9_latest : ByteArray := prog_11_method_35_code
def yX9_latest : MethodName := ⟨RX9, "latest", "()I"⟩
abbrev cX9_openBoxes : ByteArray := prog_11_method_36_code
def yX9_openBoxes : MethodName := ⟨RX9, "openBoxes", "()I"⟩
abbrev cX9_isShut : ByteArray := prog_11_method_37_code
def yX9_isShut : MethodName := ⟨RX9, "isShut", "(I)Z"⟩
abbrev cX9_isAvailable : ByteArray := prog_11_method_38_code
def yX9_isAvailable : MethodName := ⟨RX9, "isAvailable", "(I)Z"⟩
abbrev cX9_isBoxAvailable : ByteArray := prog_11_method_39_code
def yX9_isBoxAvailable : MethodName := ⟨RX9, "isBoxAvailable", "(I)Z"⟩
abbrev cX9_liesIn : ByteArray := prog_11_method_40_code
def yX9_liesIn : MethodName := ⟨RX9, "liesIn", "(II)Z"⟩
abbrev cX9_depthOf : ByteArray := prog_11_method_41_code
def yX9_depthOf : MethodName := ⟨RX9, "depthOf", "(I)I"⟩
abbrev cX9_write : ByteArray := prog_11_method_42_code
def yX9_write : MethodName := ⟨RX9, "write", "(IIIII)I"⟩
abbrev cX9_isFull : ByteArray := prog_11_method_43_code
def yX9_isFull : MethodName := ⟨RX9, "isFull", "()Z"⟩
abbrev cX9_writeOld : ByteArray := prog_11_method_44_code
def yX9_writeOld : MethodName := ⟨RX9, "writeOld", "(IIIII)I"⟩
abbrev cX9_writeNew : ByteArray := prog_11_method_45_code
def yX9_writeNew : MethodName := ⟨RX9, "writeNew", "(IIIIII)I"⟩
abbrev cX9_premise : ByteArray := prog_11_method_46_code
def yX9_premise : MethodName := ⟨RX9, "premise", "(I)I"⟩
abbrev cX9_open : ByteArray := prog_11_method_47_code
def yX9_open : MethodName := ⟨RX9, "open", "(I)I"⟩
abbrev cX9_close : ByteArray := prog_11_method_48_code
def yX9_close : MethodName := ⟨RX9, "close", "()I"⟩
abbrev cX9_repeat : ByteArray := prog_11_method_49_code
def yX9_repeat : MethodName := ⟨RX9, "repeat", "(I)I"⟩
abbrev cX9_fromTwo : ByteArray := prog_11_method_50_code
def yX9_fromTwo : MethodName := ⟨RX9, "fromTwo", "(III)I"⟩
abbrev cX9_fromOne : ByteArray := prog_11_method_51_code
def yX9_fromOne : MethodName := ⟨RX9, "fromOne", "(II)I"⟩
abbrev cX9_toFormula : ByteArray := prog_11_method_52_code
def yX9_toFormula : MethodName := ⟨RX9, "toFormula", "(III)I"⟩
abbrev cX9_fromBox : ByteArray := prog_11_method_53_code
def yX9_fromBox : MethodName := ⟨RX9, "fromBox", "(II)I"⟩
abbrev cX9_cases : ByteArray := prog_11_method_54_code
def yX9_cases : MethodName := ⟨RX9, "cases", "(III)I"⟩
abbrev cX9_lines : ByteArray := prog_11_method_55_code
def yX9_lines : MethodName := ⟨RX9, "lines", "()I"⟩
abbrev cX9_isToBox : ByteArray := prog_11_method_56_code
def yX9_isToBox : MethodName := ⟨RX9, "isToBox", "(II)Z"⟩
abbrev cX9_direct : ByteArray := prog_11_method_57_code
def yX9_direct : MethodName := ⟨RX9, "direct", "(I)J"⟩
abbrev cX9_neededBy : ByteArray := prog_11_method_58_code
def yX9_neededBy : MethodName := ⟨RX9, "neededBy", "(I)I"⟩
abbrev cX9_line : ByteArray := prog_11_method_59_code
def yX9_line : MethodName := ⟨RX9, "line", "(II)I"⟩
abbrev cX9_reference : ByteArray := prog_11_method_60_code
def yX9_reference : MethodName := ⟨RX9, "reference", "(II)I"⟩
abbrev cX9_boxes : ByteArray := prog_11_method_61_code
def yX9_boxes : MethodName := ⟨RX9, "boxes", "()I"⟩
abbrev cX9_box : ByteArray := prog_11_method_62_code
def yX9_box : MethodName := ⟨RX9, "box", "(II)I"⟩
abbrev cX9_depth : ByteArray := prog_11_method_63_code
def yX9_depth : MethodName := ⟨RX9, "depth", "()I"⟩
abbrev cX9_assumed : ByteArray := prog_11_method_64_code
def yX9_assumed : MethodName := ⟨RX9, "assumed", "(I)J"⟩
abbrev cX9_needed : ByteArray := prog_11_method_65_code
def yX9_needed : MethodName := ⟨RX9, "needed", "(I)J"⟩
abbrev cX9_needs : ByteArray := prog_11_method_66_code
def yX9_needs : MethodName := ⟨RX9, "needs", "(I)J"⟩
abbrev cX9_bypassOf : ByteArray := prog_11_method_67_code
def yX9_bypassOf : MethodName := ⟨RX9, "bypassOf", "(I)I"⟩
abbrev cX9_bypass : ByteArray := prog_11_method_68_code
def yX9_bypass : MethodName := ⟨RX9, "bypass", "(I)I"⟩
abbrev cX9_detours : ByteArray := prog_11_method_69_code
def yX9_detours : MethodName := ⟨RX9, "detours", "()I"⟩
abbrev cX9_areTrue : ByteArray := prog_11_method_70_code
def yX9_areTrue : MethodName := ⟨RX9, "areTrue", "(J)Z"⟩
abbrev cX9_premises : ByteArray := prog_11_method_71_code
def yX9_premises : MethodName := ⟨RX9, "premises", "()J"⟩
abbrev cX9_fails : ByteArray := prog_11_method_72_code
def yX9_fails : MethodName := ⟨RX9, "fails", "(JI)I"⟩
abbrev cX9_failure : ByteArray := prog_11_method_73_code
def yX9_failure : MethodName := ⟨RX9, "failure", "(I)I"⟩
abbrev cX9_counterexample : ByteArray := prog_11_method_74_code
def yX9_counterexample : MethodName := ⟨RX9, "counterexample", "(I)I"⟩
abbrev cX9_shorten : ByteArray := prog_11_method_75_code
def yX9_shorten : MethodName := ⟨RX9, "shorten", "()I"⟩
abbrev cX9_renamed : ByteArray := prog_11_method_76_code
def yX9_renamed : MethodName := ⟨RX9, "renamed", "(II)I"⟩
abbrev cX9_lastIn : ByteArray := prog_11_method_77_code
def yX9_lastIn : MethodName := ⟨RX9, "lastIn", "(IJ)I"⟩
abbrev cX9_trim : ByteArray := prog_11_method_78_code
def yX9_trim : MethodName := ⟨RX9, "trim", "(I)I"⟩
abbrev cX9_moveLines : ByteArray := prog_11_method_79_code
def yX9_moveLines : MethodName := ⟨RX9, "moveLines", "(J)V"⟩
abbrev cX9_moveBoxes : ByteArray := prog_11_method_80_code
def yX9_moveBoxes : MethodName := ⟨RX9, "moveBoxes", "()V"⟩
abbrev cX9_append : ByteArray := prog_11_method_81_code
def yX9_append : MethodName := ⟨RX9, "append", "(I)I"⟩
abbrev cX9_clearText : ByteArray := prog_11_method_82_code
def yX9_clearText : MethodName := ⟨RX9, "clearText", "()I"⟩
abbrev cX9_makes : ByteArray := prog_11_method_83_code
def yX9_makes : MethodName := ⟨RX9, "makes", "(ZIII)I"⟩
abbrev cX9_isWhole : ByteArray := prog_11_method_84_code
def yX9_isWhole : MethodName := ⟨RX9, "isWhole", "(ZI)V"⟩
abbrev cX9_signOf : ByteArray := prog_11_method_85_code
def yX9_signOf : MethodName := ⟨RX9, "signOf", "(I)I"⟩
abbrev cX9_readOne : ByteArray := prog_11_method_86_code
def yX9_readOne : MethodName := ⟨RX9, "readOne", "(ZI)Z"⟩
abbrev cX9_readBuffer : ByteArray := prog_11_method_87_code
def yX9_readBuffer : MethodName := ⟨RX9, "readBuffer", "(Z)I"⟩
abbrev cX9_errorPosition : ByteArray := prog_11_method_88_code
def yX9_errorPosition : MethodName := ⟨RX9, "errorPosition", "()I"⟩
abbrev cX9_read : ByteArray := prog_11_method_89_code
def yX9_read : MethodName := ⟨RX9, "read", "()I"⟩
def RJ6 : String := "java/lang/Integer"
def TJ6 : u_T := fun k => match k with
  | _ => ("", "", "", false)
def tyJ6 : Nat → FieldType := fun k => match k with
  | _ => .int
abbrev wsJ60 : List Cond := u_ws RJ6 TJ6 0
theorem nmJ6 : ∀ a, a < 0 → ∀ b, b < 0 → a ≠ b → (TJ6 a).2.1 ≠ (TJ6 b).2.1 := by decide +kernel
theorem tyJ6_ok : ∀ k, k < 0 → parseFieldDescriptor (TJ6 k).2.2.1 = some (tyJ6 k) := by decide +kernel
abbrev cJ6_bitCount_0f7a4 : ByteArray := prog_12_method_49_code
def yJ6_bitCount_0f7a4 : MethodName := ⟨RJ6, "bitCount", "(I)I"⟩
def RJ13 : String := "java/lang/Long"
def TJ13 : u_T := fun k => match k with
  | _ => ("", "", "", false)
def tyJ13 : Nat → FieldType := fun k => match k with
  | _ => .int
abbrev wsJ130 : List Cond := u_ws RJ13 TJ13 0
theorem nmJ13 : ∀ a, a < 0 → ∀ b, b < 0 → a ≠ b → (TJ13 a).2.1 ≠ (TJ13 b).2.1 := by decide +kernel
theorem tyJ13_ok : ∀ k, k < 0 → parseFieldDescriptor (TJ13 k).2.2.1 = some (tyJ13 k) := by decide +kernel
abbrev cJ13_bitCount_95d88 : ByteArray := prog_13_method_50_code
def yJ13_bitCount_95d88 : MethodName := ⟨RJ13, "bitCount", "(J)I"⟩
def RJ9 : String := "java/lang/Math"
def TJ9 : u_T := fun k => match k with
  | _ => ("", "", "", false)
def tyJ9 : Nat → FieldType := fun k => match k with
  | _ => .int
abbrev wsJ90 : List Cond := u_ws RJ9 TJ9 0
theorem nmJ9 : ∀ a, a < 0 → ∀ b, b < 0 → a ≠ b → (TJ9 a).2.1 ≠ (TJ9 b).2.1 := by decide +kernel
theorem tyJ9_ok : ∀ k, k < 0 → parseFieldDescriptor (TJ9 k).2.2.1 = some (tyJ9 k) := by decide +kernel
abbrev cJ9_max_7cf53 : ByteArray := prog_14_method_65_code
def yJ9_max_7cf53 : MethodName := ⟨RJ9, "max", "(II)I"⟩
abbrev cJ9_min_7cf53 : ByteArray := prog_14_method_69_code
def yJ9_min_7cf53 : MethodName := ⟨RJ9, "min", "(II)I"⟩
def RJ10 : String := "java/lang/System"
def TJ10 : u_T := fun k => match k with
  | _ => ("", "", "", false)
def tyJ10 : Nat → FieldType := fun k => match k with
  | _ => .int
abbrev wsJ100 : List Cond := u_ws RJ10 TJ10 0
theorem nmJ10 : ∀ a, a < 0 → ∀ b, b < 0 → a ≠ b → (TJ10 a).2.1 ≠ (TJ10 b).2.1 := by decide +kernel
theorem tyJ10_ok : ∀ k, k < 0 → parseFieldDescriptor (TJ10 k).2.2.1 = some (tyJ10 k) := by decide +kernel
def RL : String := "BoxedProofsLaw"
abbrev cL_law : ByteArray := code
def yL_law : MethodName := ⟨RL, "law", "([I)Z"⟩
abbrev vwCl : List vw_C := [(RX0, TX0, 5), (RX1, TX1, 3), (RX2, TX2, 4), (RX3, TX3, 3), (RX4, TX4, 12), (RX5, TX5, 1), (RX7, TX7, 2), (RX8, TX8, 9), (RX9, TX9, 18)]
end
section
/-! THE SMALL MACHINE: values, memory, shapes, one step as a condition. Cell ids are (kind, instance, column); references never change once the objects are made. -/
abbrev xI : Type := Nat × Nat × Nat
abbrev xV : Type := Int32 ⊕ Int64 ⊕ Option xI
abbrev xM : Type := xI → Nat → Int32
abbrev vI (x : Int32) : xV := Sum.inl x
abbrev vL (x : Int64) : xV := Sum.inr (Sum.inl x)
abbrev vR (q : xI) : xV := Sum.inr (Sum.inr (some q))
abbrev vN : xV := Sum.inr (Sum.inr none)
abbrev xP : Type := Option xV → xM → Prop
/-- a method: name, bytes, locals, what it returns, how many arguments (the receiver not counted) -/
abbrev xD : Type := MethodName × ByteArray × Nat × Option FieldType × Nat
/-- an instruction: place, instruction, length, numbers (a local, targets, a field), a constant -/
abbrev xT : Type := Nat × Instr × Nat × List Nat × xV
abbrev xC : Type := xD → List xV → xM → xP → Prop
abbrev xK : Type := List xT → List xV → List xV → xM → Prop
/-- of a class: fields (entry, class, place, kind), methods of objects (entry, class, method), static methods, constants, natives (entry, which) -/
abbrev xCE : Type := List (Nat × Nat × Nat × Nat) × List (Nat × Nat × xD) × List (Nat × Nat × xD) × List (Nat × xV) × List (Nat × Nat)
/-- a method's text: its class's number, the method, its instructions, its heads with their live locals, its class's tables -/
abbrev xE : Type := Nat × xD × List xT × List (Nat × List Bool) × xCE
def xst (μ : xM) (q : xI) (k : Nat) (v : Int32) : xM := fun p => if p = q then upd (μ q) k v else μ p
def xcp (μ : xM) (a b : xI) (sp dp n : Nat) : xM := fun p => if p = b then va_cpy (μ a) (μ b) sp dp n else μ p
def xlenc : Nat → Nat
  | 0 => 60 | 1 => 60 | 2 => 60
  | 3 => 48 | 4 => 48 | 5 => 48 | 6 => 48 | 7 => 48 | 8 => 48 | 9 => 48 | 10 => 48 | 11 => 48
  | 12 => 60 | 13 => 60 | 14 => 70 | 15 => 70 | 16 => 70
  | 20 => 615 | 21 => 3075 | 22 => 615 | 23 => 60 | 24 => 48 | 25 => 48 | 26 => 11 | 27 => 11 | 28 => 11
  | _ => 0
def xarr : xI → Option (Nat × Nat)
  | (1, _, c) => some (0, xlenc c)
  | (11, _, _) => some (2, 70)
  | (12, _, _) => some (1, 60)
  | _ => none
def xobj : xI → Option (Nat × List (Option xI))
  | (0, j, c) => some (5, [some (1, j, c)])
  | (2, j, _) => some (2, [none, some (0, j, 0), some (0, j, 1), some (0, j, 2)])
  | (3, j, _) => some (4, [none, none, none, some (0, j, 3), some (0, j, 4), some (0, j, 5), some (0, j, 6), some (0, j, 7), some (0, j, 8), some (0, j, 9), some (0, j, 10), some (0, j, 11)])
  | (4, j, _) => some (6, [some (2, j, 0), some (3, j, 0)])
  | (5, _, _) => some (3, [none, none, some (10, 0, 0)])
  | (6, _, _) => some (0, [none, some (0, 0, 14), none, none, none])
  | (7, _, _) => some (1, [none, some (0, 0, 15), some (0, 0, 16)])
  | (8, _, _) => some (7, [some (4, 0, 0), some (4, 1, 0), some (5, 0, 0), some (6, 0, 0), some (7, 0, 0), some (2, 7, 0), some (0, 0, 12), some (0, 0, 13), none])
  | (9, _, _) => some (8, [some (1, 0, 20), some (1, 0, 21), none, some (1, 0, 22), none, some (11, 0, 0), none, some (1, 0, 23), some (12, 0, 0), some (1, 0, 24), some (1, 0, 25), some (1, 0, 26), some (1, 0, 27), some (1, 0, 28), none, none, none, none])
  | _ => none
def xok (q : xI) : Bool :=
  if q.1 = 0 then (decide (q.2.2 < 3) && decide (q.2.1 < 8)) || (decide (3 ≤ q.2.2) && decide (q.2.2 < 12) && decide (q.2.1 < 7)) || (decide (12 ≤ q.2.2) && decide (q.2.2 < 17) && decide (q.2.1 = 0))
  else if q.1 = 1 then (decide (q.2.2 < 3) && decide (q.2.1 < 8)) || (decide (3 ≤ q.2.2) && decide (q.2.2 < 12) && decide (q.2.1 < 7)) || (decide (12 ≤ q.2.2) && decide (q.2.2 < 17) && decide (q.2.1 = 0)) || (decide (20 ≤ q.2.2) && decide (q.2.2 < 29) && decide (q.2.1 = 0))
  else if q.1 = 2 then decide (q.2.2 = 0) && decide (q.2.1 < 8)
  else if q.1 = 3 then decide (q.2.2 = 0) && decide (q.2.1 < 7)
  else if q.1 = 4 then decide (q.2.2 = 0) && decide (q.2.1 < 7)
  else decide (q.1 < 13) && decide (q.2.1 = 0) && decide (q.2.2 = 0)
def xids : List xI := ((List.range 13).flatMap fun k => (List.range 8).flatMap fun j => (List.range 29).map fun c => (k, j, c)).filter xok
/-- a machine's value -/
def xrv (ad : xI → Nat) : xV → Value
  | .inl x => .int x
  | .inr (.inl x) => .long x
  | .inr (.inr (some q)) => .ref (ad q)
  | .inr (.inr none) => .null
def xvok : xV → Prop
  | .inr (.inr (some q)) => xok q = true
  | _ => True
def xfs (ad : xI → Nat) (f : Nat → Int32) : Nat → List (Option xI) → List Value
  | _, [] => []
  | k, none :: l => .int (f k) :: xfs ad f (k + 1) l
  | k, some r :: l => .ref (ad r) :: xfs ad f (k + 1) l
def xcell (ad : xI → Nat) (cA : Nat → ClassId) (μ : xM) (q : xI) : va_E := match xobj q with
  | some (ci, fs) => .inr (ci, xfs ad (μ q) 0 fs)
  | none => match xarr q with
    | some (t, n) => .inl (cA t, n, .inl (μ q))
    | none => .inl (cA 3, 5, .inr (.inr (.inr (.inr fun i => some (ad (4, 2 + i, 0))))))
def xwld (ad : xI → Nat) (cA : Nat → ClassId) (μ : xM) : va_W := xids.map fun q => (ad q, xcell ad cA μ q)
def xtys (cA : Nat → ClassId) : List (ClassId × FieldType) := [(cA 0, .int), (cA 1, .boolean), (cA 2, .char), (cA 3, .object "BoxedProofs$State")]
def xA (ad : xI → Nat) : Nat → Prop := fun q => ∃ x : xI, xok x = true ∧ ad x = q
-- reading stack and locals
def xpI (st : List xV) (f : Int32 → List xV → Prop) : Prop := match st with
  | .inl x :: r => f x r
  | _ => False
def xpL (st : List xV) (f : Int64 → List xV → Prop) : Prop := match st with
  | .inr (.inl x) :: r => f x r
  | _ => False
def xpR (st : List xV) (f : xI → List xV → Prop) : Prop := match st with
  | .inr (.inr (some q)) :: r => f q r
  | _ => False
def xnth : List xV → Nat → xV
  | [], _ => vN
  | v :: _, 0 => v
  | _ :: l, i + 1 => xnth l i
def xgI (lv : List xV) (i : Nat) (f : Int32 → Prop) : Prop := match xnth lv i with
  | .inl x => f x
  | _ => False
def xgL (lv : List xV) (i : Nat) (f : Int64 → Prop) : Prop := match xnth lv i with
  | .inr (.inl x) => f x
  | _ => False
def xgR (lv : List xV) (i : Nat) (f : xI → Prop) : Prop := match xnth lv i with
  | .inr (.inr (some q)) => f q
  | _ => False
def xcI (c : xV) (f : Int32 → Prop) : Prop := match c with
  | .inl x => f x
  | _ => False
def xcL (c : xV) (f : Int64 → Prop) : Prop := match c with
  | .inr (.inl x) => f x
  | _ => False
def xax (q : xI) (t : Nat) (f : Nat → Prop) : Prop := match xarr q with
  | some (t', n) => (match Nat.beq t' t with | true => f n | false => False)
  | none => False
def xal (q : xI) (f : Nat → Prop) : Prop := match xarr q with
  | some (_, n) => f n
  | none => (match q with | (10, _, _) => f 5 | _ => False)
def xrg (q : xI) (f : Prop) : Prop := match q with
  | (10, _, _) => f
  | _ => False
def xro (q : xI) (t : Nat) (f : Prop) : Prop := match xobj q with
  | some (ci, _) => (match Nat.beq ci t with | true => f | false => False)
  | none => False
def xpQ (st : List xV) (f : Option xI → List xV → Prop) : Prop := match st with
  | .inr (.inr q) :: r => f q r
  | _ => False
def xnil (l : List xV) (f : Prop) : Prop := match l with
  | [] => f
  | _ => False
def xri (rt : Option FieldType) (x : Int32) (f : Prop) : Prop := match rt with
  | some .int => f
  | some .boolean => (x = 0 ∨ x = 1) ∧ f
  | _ => False
def xrl (rt : Option FieldType) (f : Prop) : Prop := match rt with
  | some .long => f
  | _ => False
def xra (rt : Option FieldType) (f : Prop) : Prop := match rt with
  | some (.object _) => f
  | _ => False
def xrn (rt : Option FieldType) (f : Prop) : Prop := match rt with
  | none => f
  | _ => False
def xpb (c : xV) (x : Int32) (f : Prop) : Prop := match c with
  | .inl _ => (x = 0 ∨ x = 1) ∧ f
  | _ => f
def xset : List xV → Nat → xV → List xV
  | [], _, _ => []
  | _ :: l, 0, v => v :: l
  | a :: l, i + 1, v => a :: xset l i v
def xclr (lv : List xV) : Nat → List xV
  | 0 => lv
  | i + 1 => match xnth lv i with
    | .inr (.inl _) => xset lv i vN
    | _ => lv
def xs1 (lv : List xV) (i : Nat) (v : xV) : List xV := xset (xclr lv i) i v
def xs2 (lv : List xV) (i : Nat) (v : xV) : List xV := xset (xset (xclr lv i) (i + 1) vN) i v
def xmask : List Bool → List xV → List xV
  | true :: b, v :: l => v :: xmask b l
  | false :: b, _ :: l => vN :: xmask b l
  | _, _ => []
def xlook : List (Nat × List Bool) → Nat → Option (List Bool)
  | [], _ => none
  | (a, b) :: l, n => match Nat.beq a n with
    | true => some b
    | false => xlook l n
def xt0 : List Nat → Nat
  | a :: _ => a
  | [] => 0
def xt1 : List Nat → Nat
  | _ :: a :: _ => a
  | _ => 0
def xcats : List xV → Nat
  | [] => 0
  | .inr (.inl _) :: l => 2 + xcats l
  | _ :: l => 1 + xcats l
def xargs : Nat → List xV → List xV → (List xV → List xV → Prop) → Prop
  | 0, st, acc, f => f acc st
  | n + 1, v :: r, acc, f => xargs n r (v :: acc) f
  | _ + 1, [], _, _ => False
def xfind (l : List (Nat × Nat × xD)) (i : Nat) (f : xD → Prop) : Prop := match l, i with
  | [], _ => False
  | (_, _, D) :: _, 0 => f D
  | _ :: l, i + 1 => xfind l i f
def xif8 (l : List xV) (f : Prop) : Prop := match Nat.ble (xcats l) 8 with
  | true => f
  | false => False
def xrI (k : Int32 → xM → Prop) : xP := fun r μ' => match r with
  | some (.inl x) => k x μ'
  | _ => False
def xrL (k : Int64 → xM → Prop) : xP := fun r μ' => match r with
  | some (.inr (.inl x)) => k x μ'
  | _ => False
def xrR (k : xI → xM → Prop) : xP := fun r μ' => match r with
  | some (.inr (.inr (some q))) => k q μ'
  | _ => False
def xrV (k : xM → Prop) : xP := fun r μ' => match r with
  | none => k μ'
  | _ => False
/-- behind a call: what it returned goes onto the stack -/
def xret (rt : Option FieldType) (rest : List xV) (k : List xV → xM → Prop) : xP := match rt with
  | none => xrV fun μ' => k rest μ'
  | some .long => xrL fun x μ' => k (vL x :: rest) μ'
  | some (.object _) => xrR fun q μ' => k (vR q :: rest) μ'
  | some _ => xrI fun x μ' => k (vI x :: rest) μ'
def xtsw (x : Int32) : Int → List Nat → (Nat → Prop) → Prop → Prop
  | _, [], _, d => d
  | lo, t :: l, k, d => (x = Int32.ofInt lo → k t) ∧ (¬ x = Int32.ofInt lo → xtsw x (lo + 1) l k d)
def xlsw (x : Int32) : List (Int × Int) → List Nat → (Nat → Prop) → Prop → Prop
  | [], _, _, d => d
  | (a, _) :: l, t :: ts, k, d => (x = Int32.ofInt a → k t) ∧ (¬ x = Int32.ofInt a → xlsw x l ts k d)
  | _ :: _, [], _, _ => False
def xif (c : Prop) (a b : Prop) : Prop := (c → a) ∧ (¬ c → b)
def xfld (q : xI) (ci k : Nat) (fi : Prop) (fr : xI → Prop) : Prop := match xobj q with
  | some (ci', fs) => (match Nat.beq ci' ci with
    | true => (match fs[k]? with
      | some none => fi
      | some (some r) => fr r
      | none => False)
    | false => False)
  | none => False
def xstep (cl : xC) (E : xE) (Q : xP) (e : xT) (r : List xT) (lv st : List xV) (μ : xM) (k : xK) : Prop :=
  match e.2.1 with
  | .aload_n _ => xgR lv (xt0 e.2.2.2.1) fun q => k r lv (vR q :: st) μ
  | .aload _ => xgR lv (xt0 e.2.2.2.1) fun q => k r lv (vR q :: st) μ
  | .iload_n _ => xgI lv (xt0 e.2.2.2.1) fun x => k r lv (vI x :: st) μ
  | .iload _ => xgI lv (xt0 e.2.2.2.1) fun x => k r lv (vI x :: st) μ
  | .lload_n _ => xgL lv (xt0 e.2.2.2.1) fun x => k r lv (vL x :: st) μ
  | .lload _ => xgL lv (xt0 e.2.2.2.1) fun x => k r lv (vL x :: st) μ
  | .istore_n _ => xpI st fun x s' => k r (xs1 lv (xt0 e.2.2.2.1) (vI x)) s' μ
  | .istore _ => xpI st fun x s' => k r (xs1 lv (xt0 e.2.2.2.1) (vI x)) s' μ
  | .lstore_n _ => xpL st fun x s' => k r (xs2 lv (xt0 e.2.2.2.1) (vL x)) s' μ
  | .lstore _ => xpL st fun x s' => k r (xs2 lv (xt0 e.2.2.2.1) (vL x)) s' μ
  | .astore_n _ => xpR st fun q s' => k r (xs1 lv (xt0 e.2.2.2.1) (vR q)) s' μ
  | .astore _ => xpR st fun q s' => k r (xs1 lv (xt0 e.2.2.2.1) (vR q)) s' μ
  | .iconst _ => xcI e.2.2.2.2 fun x => k r lv (vI x :: st) μ
  | .bipush _ => xcI e.2.2.2.2 fun x => k r lv (vI x :: st) μ
  | .sipush _ => xcI e.2.2.2.2 fun x => k r lv (vI x :: st) μ
  | .ldc _ => xcI e.2.2.2.2 fun x => k r lv (vI x :: st) μ
  | .ldc_w _ => xcI e.2.2.2.2 fun x => k r lv (vI x :: st) μ
  | .lconst _ => xcL e.2.2.2.2 fun x => k r lv (vL x :: st) μ
  | .ldc2_w _ => xcL e.2.2.2.2 fun x => k r lv (vL x :: st) μ
  | .aconst_null => k r lv (vN :: st) μ
  | .iadd => xpI st fun y s' => xpI s' fun x s' => k r lv (vI (x + y) :: s') μ
  | .isub => xpI st fun y s' => xpI s' fun x s' => k r lv (vI (x - y) :: s') μ
  | .imul => xpI st fun y s' => xpI s' fun x s' => k r lv (vI (x * y) :: s') μ
  | .iand => xpI st fun y s' => xpI s' fun x s' => k r lv (vI (x &&& y) :: s') μ
  | .ior => xpI st fun y s' => xpI s' fun x s' => k r lv (vI (x ||| y) :: s') μ
  | .ixor => xpI st fun y s' => xpI s' fun x s' => k r lv (vI (x ^^^ y) :: s') μ
  | .idiv => xpI st fun y s' => xpI s' fun x s' => ¬ y = 0 ∧ k r lv (vI (x / y) :: s') μ
  | .irem => xpI st fun y s' => xpI s' fun x s' => ¬ y = 0 ∧ k r lv (vI (x - x / y * y) :: s') μ
  | .ineg => xpI st fun x s' => k r lv (vI (-x) :: s') μ
  | .ishl => xpI st fun y s' => xpI s' fun x s' => k r lv (vI (x <<< (y &&& 31)) :: s') μ
  | .ishr => xpI st fun y s' => xpI s' fun x s' => k r lv (vI (x >>> (y &&& 31)) :: s') μ
  | .iushr => xpI st fun y s' => xpI s' fun x s' => k r lv (vI ((x.toUInt32 >>> (y.toUInt32 &&& Int32.toUInt32 31)).toInt32) :: s') μ
  | .i2c => xpI st fun x s' => k r lv (vI ((x.toUInt32 % 65536).toInt32) :: s') μ
  | .i2l => xpI st fun x s' => k r lv (vL x.toInt64 :: s') μ
  | .l2i => xpL st fun x s' => k r lv (vI x.toInt32 :: s') μ
  | .ladd => xpL st fun y s' => xpL s' fun x s' => k r lv (vL (x + y) :: s') μ
  | .lsub => xpL st fun y s' => xpL s' fun x s' => k r lv (vL (x - y) :: s') μ
  | .land => xpL st fun y s' => xpL s' fun x s' => k r lv (vL (x &&& y) :: s') μ
  | .lor => xpL st fun y s' => xpL s' fun x s' => k r lv (vL (x ||| y) :: s') μ
  | .lshl => xpI st fun y s' => xpL s' fun x s' => k r lv (vL (x <<< (y.toInt64 &&& 63)) :: s') μ
  | .lshr => xpI st fun y s' => xpL s' fun x s' => k r lv (vL (x >>> (y.toInt64 &&& 63)) :: s') μ
  | .lushr => xpI st fun y s' => xpL s' fun x s' => k r lv (vL ((x.toUInt64 >>> (y.toInt64.toUInt64 &&& Int64.toUInt64 63)).toInt64) :: s') μ
  | .lcmp => xpL st fun y s' => xpL s' fun x s' => k r lv (vI (lg_cmp x y) :: s') μ
  | .iinc _ _ => xcI e.2.2.2.2 fun n => xgI lv (xt0 e.2.2.2.1) fun x => k r (xs1 lv (xt0 e.2.2.2.1) (vI (x + n))) st μ
  | .dup => (match st with | .inl x :: s' => k r lv (vI x :: vI x :: s') μ | .inr (.inr (some q)) :: s' => k r lv (vR q :: vR q :: s') μ | _ => False)
  | .dup2 => xpI st fun x s' => xpR s' fun q s' => k r lv (vI x :: vR q :: vI x :: vR q :: s') μ
  | .pop => xpI st fun _ s' => k r lv s' μ
  | .ifCond .eq _ => xpI st fun x s' => xif (x = 0) (k (E.2.2.1.drop (xt0 e.2.2.2.1)) lv s' μ) (k r lv s' μ)
  | .ifCond .ne _ => xpI st fun x s' => xif (x = 0) (k r lv s' μ) (k (E.2.2.1.drop (xt0 e.2.2.2.1)) lv s' μ)
  | .ifCond .lt _ => xpI st fun x s' => xif (x < 0) (k (E.2.2.1.drop (xt0 e.2.2.2.1)) lv s' μ) (k r lv s' μ)
  | .ifCond .ge _ => xpI st fun x s' => xif (0 ≤ x) (k (E.2.2.1.drop (xt0 e.2.2.2.1)) lv s' μ) (k r lv s' μ)
  | .ifCond .gt _ => xpI st fun x s' => xif (0 < x) (k (E.2.2.1.drop (xt0 e.2.2.2.1)) lv s' μ) (k r lv s' μ)
  | .ifCond .le _ => xpI st fun x s' => xif (x ≤ 0) (k (E.2.2.1.drop (xt0 e.2.2.2.1)) lv s' μ) (k r lv s' μ)
  | .if_icmp .eq _ => xpI st fun y s' => xpI s' fun x s' => xif (x = y) (k (E.2.2.1.drop (xt0 e.2.2.2.1)) lv s' μ) (k r lv s' μ)
  | .if_icmp .ne _ => xpI st fun y s' => xpI s' fun x s' => xif (x = y) (k r lv s' μ) (k (E.2.2.1.drop (xt0 e.2.2.2.1)) lv s' μ)
  | .if_icmp .lt _ => xpI st fun y s' => xpI s' fun x s' => xif (x < y) (k (E.2.2.1.drop (xt0 e.2.2.2.1)) lv s' μ) (k r lv s' μ)
  | .if_icmp .ge _ => xpI st fun y s' => xpI s' fun x s' => xif (y ≤ x) (k (E.2.2.1.drop (xt0 e.2.2.2.1)) lv s' μ) (k r lv s' μ)
  | .if_icmp .gt _ => xpI st fun y s' => xpI s' fun x s' => xif (y < x) (k (E.2.2.1.drop (xt0 e.2.2.2.1)) lv s' μ) (k r lv s' μ)
  | .if_icmp .le _ => xpI st fun y s' => xpI s' fun x s' => xif (x ≤ y) (k (E.2.2.1.drop (xt0 e.2.2.2.1)) lv s' μ) (k r lv s' μ)
  | .ifnull _ => xpR st fun _ s' => k r lv s' μ
  | .goto _ => k (E.2.2.1.drop (xt0 e.2.2.2.1)) lv st μ
  | .tableswitch _ lo _ _ => xpI st fun x s' => (match e.2.2.2.1 with | d :: l => xtsw x lo l (fun t => k (E.2.2.1.drop t) lv s' μ) (k (E.2.2.1.drop d) lv s' μ) | [] => False)
  | .lookupswitch _ ps => xpI st fun x s' => (match e.2.2.2.1 with | d :: l => xlsw x ps.toList l (fun t => k (E.2.2.1.drop t) lv s' μ) (k (E.2.2.1.drop d) lv s' μ) | [] => False)
  | .getfield _ => xpR st fun q s' => xfld q (xt0 e.2.2.2.1) (xt1 e.2.2.2.1) (k r lv (vI (μ q (xt1 e.2.2.2.1)) :: s') μ) (fun p => k r lv (vR p :: s') μ)
  | .putfield _ => xpI st fun x s' => xpR s' fun q s' => xfld q (xt0 e.2.2.2.1) (xt1 e.2.2.2.1) (xpb e.2.2.2.2 x (k r lv s' (xst μ q (xt1 e.2.2.2.1) x))) (fun _ => False)
  | .arraylength => xpR st fun q s' => xal q fun n => k r lv (vI (Int32.ofNat n) :: s') μ
  | .iaload => xpI st fun i s' => xpR s' fun q s' => xax q 0 fun n => vp_in i n ∧ k r lv (vI (μ q i.toNatClampNeg) :: s') μ
  | .baload => xpI st fun i s' => xpR s' fun q s' => xax q 1 fun n => vp_in i n ∧ k r lv (vI (μ q i.toNatClampNeg) :: s') μ
  | .caload => xpI st fun i s' => xpR s' fun q s' => xax q 2 fun n => vp_in i n ∧ k r lv (vI (μ q i.toNatClampNeg) :: s') μ
  | .iastore => xpI st fun x s' => xpI s' fun i s' => xpR s' fun q s' => xax q 0 fun n => vp_in i n ∧ k r lv s' (xst μ q i.toNatClampNeg x)
  | .bastore => xpI st fun x s' => xpI s' fun i s' => xpR s' fun q s' => xax q 1 fun n => vp_in i n ∧ k r lv s' (xst μ q i.toNatClampNeg (vp_nar .boolean x))
  | .castore => xpI st fun x s' => xpI s' fun i s' => xpR s' fun q s' => xax q 2 fun n => vp_in i n ∧ k r lv s' (xst μ q i.toNatClampNeg (vp_nar .char x))
  | .aaload => xpI st fun i s' => xpR s' fun q s' => xrg q (vp_in i 5 ∧ k r lv (vR (4, 2 + i.toNatClampNeg, 0) :: s') μ)
  | .invokevirtual _ => xfind E.2.2.2.2.2.1 (xt0 e.2.2.2.1) fun D => xargs D.2.2.2.2 st [] fun As s' => xpR s' fun q s' => xro q (xt1 e.2.2.2.1) (xif8 s' (cl D (vR q :: As) μ (xret D.2.2.2.1 s' fun s'' μ' => k r lv s'' μ')))
  | .invokestatic _ => (match xt1 e.2.2.2.1 with
    | 0 => xfind E.2.2.2.2.2.2.1 (xt0 e.2.2.2.1) fun D => xargs D.2.2.2.2 st [] fun As s' => xif8 s' (cl D As μ (xret D.2.2.2.1 s' fun s'' μ' => k r lv s'' μ'))
    | 1 => xpI st fun y s' => xpI s' fun x s' => xif8 s' (k r lv (vI (if y < x then y else x) :: s') μ)
    | _ => xpI st fun n s' => xpI s' fun dp s' => xpR s' fun b s' => xpI s' fun sp s' => xpR s' fun a s' => xax a 0 fun n0 => xax b 0 fun n1 => xnil s' (¬ sp < 0 ∧ ¬ dp < 0 ∧ ¬ n < 0 ∧ sp.toNatClampNeg + n.toNatClampNeg ≤ n0 ∧ dp.toNatClampNeg + n.toNatClampNeg ≤ n1 ∧ k r lv [] (xcp μ a b sp.toNatClampNeg dp.toNatClampNeg n.toNatClampNeg)))
  | .ireturn => xpI st fun x s' => xnil s' (xri E.2.1.2.2.2.1 x (Q (some (vI x)) μ))
  | .lreturn => xpL st fun x s' => xnil s' (xrl E.2.1.2.2.2.1 (Q (some (vL x)) μ))
  | .areturn => xpQ st fun q s' => xnil s' (xra E.2.1.2.2.2.1 (Q (some (.inr (.inr q))) μ))
  | .return_ => xnil st (xrn E.2.1.2.2.2.1 (Q none μ))
  | _ => False
end
section
/-! THE SMALL MACHINE'S WORLD in the heap; contracts (MW) and places (WS) as conditions over it -/
/-- the tables' words that a call takes along -/
def xgw : List Cond := lw_tbl.filter goodWord
theorem xgood {w : Cond} (h : w ∈ xgw) : (w.onTables && w.keeps) = true ∨ ∃ ty, w = .arrayClass ty := good_of_word (List.mem_filter.mp h).2
theorem xok_bd {q : xI} (h : xok q = true) : q.1 < 13 ∧ q.2.1 < 8 ∧ q.2.2 < 29 := by
  obtain ⟨k, j, c⟩ := q
  simp only [xok] at h ⊢
  repeat' split at h
  all_goals simp at h
  all_goals omega
theorem xids_mem {q : xI} (h : xok q = true) : q ∈ xids := by
  obtain ⟨h1, h2, h3⟩ := xok_bd h
  obtain ⟨k, j, c⟩ := q
  simp only [xids, List.mem_filter, List.mem_flatMap, List.mem_map, List.mem_range]
  exact ⟨⟨k, h1, j, h2, c, h3, rfl⟩, h⟩
theorem xids_ok {q : xI} (h : q ∈ xids) : xok q = true := by
  simp only [xids, List.mem_filter] at h
  exact h.2
set_option maxRecDepth 100000 in
theorem xids_nd : xids.Nodup := by decide +kernel
theorem xids_inj {i j : Nat} {q : xI} (h1 : xids[i]? = some q) (h2 : xids[j]? = some q) : i = j := by
  have hi := (List.getElem?_eq_some_iff.mp h1).1
  exact (List.getElem?_inj hi xids_nd).mp (h1.trans h2.symm)
theorem xwld_get {ad : xI → Nat} {cA : Nat → ClassId} {q : xI} (μ : xM) (h : xok q = true) : ∃ n : Nat, xids[n]? = some q ∧ (xwld ad cA μ)[n]? = some (ad q, xcell ad cA μ q) := by
  obtain ⟨n, hn⟩ := List.getElem?_of_mem (xids_mem h)
  exact ⟨n, hn, by rw [xwld, List.getElem?_map, hn]; rfl⟩
theorem xcell_cg {ad : xI → Nat} {cA : Nat → ClassId} {μ μ' : xM} {q : xI} (h : μ q = μ' q) : xcell ad cA μ q = xcell ad cA μ' q := by
  unfold xcell
  rw [h]
theorem xwld_set {ad : xI → Nat} {cA : Nat → ClassId} {μ μ' : xM} {n : Nat} {q : xI} (hn : xids[n]? = some q) (h : ∀ p, p ≠ q → μ p = μ' p) : (xwld ad cA μ).set n (ad q, xcell ad cA μ' q) = xwld ad cA μ' := by
  have hl := (List.getElem?_eq_some_iff.mp hn).1
  apply List.ext_getElem?
  intro i
  by_cases hi : i = n
  · subst hi
    rw [List.getElem?_set_self (by simpa [xwld] using hl), xwld, List.getElem?_map, hn]
    rfl
  · rw [List.getElem?_set_ne (Ne.symm hi), xwld, xwld, List.getElem?_map, List.getElem?_map]
    cases hp : xids[i]? with
    | none => rfl
    | some p =>
      have hne : p ≠ q := fun e => hi (xids_inj hp (by rw [e]; exact hn))
      simp only [Option.map_some, xcell_cg (h p hne)]
abbrev xG : Type := Launch × (xI → Nat) × va_G × (Nat → ClassId)
abbrev xZ : Type := Program × Env × State × MethodId × Array Value × List Frame × Method × Code
def xws (D : xD) : List Cond := Cond.code D.1 D.2.1 D.2.2.1 D.2.2.2.1 :: xgw
def xrm (d : Nat) : Room := { frames := d, cells := 0, slots := 0, locals := 40 * d }
def xGok (G : xG) : Prop := ∀ p q, xok p = true → xok q = true → G.2.1 p = G.2.1 q → p = q
def xB (G : xG) (μ : xM) (U : State) : Prop := va_P G.2.2.1 vwCl (xwld G.2.1 G.2.2.2 μ) U.heap ∧ va_K G.2.2.1 vwCl (xtys G.2.2.2) U
def xQc (G : xG) (Q : xP) : Array Value → State → Outcome → State → Prop := fun _ st oc t => (∃ (r : Option xV) (μ' : xM), Q r μ' ∧ oc = .returned (r.map (xrv G.2.1)) ∧ (∀ v, r = some v → xvok v) ∧ xB G μ' t) ∧ va_F (xA G.2.1) st t
/-- the contract of a method at a memory: it returns, Q of what it returns and of the memory then -/
def MW (G : xG) (d : Nat) (D : xD) (args : List xV) (μ : xM) (Q : xP) : Prop :=
  xGok G → (∀ v ∈ args, xvok v) → Met G.1 D.1 (xws D) (xrm d) (va_Pc (args.map (xrv G.2.1)) (xB G μ)) (xQc G Q) 0 0 (xA G.2.1)
def xLv (ad : xI → Nat) (ls : Array Slot) (n : Nat) (lv : List xV) : Prop := ls.size = n ∧ lv_wf ls ∧ ∀ i, xnth lv i ≠ vN → ls[i]? = some (.val (xrv ad (xnth lv i)))
def xoks : List xV → Prop
  | [] => True
  | v :: l => xvok v ∧ xoks l
def xlok (lv : List xV) : Prop := ∀ i, xvok (xnth lv i)
def xcn : Nat → String
  | 0 => RX0 | 1 => RX1 | 2 => RX2 | 3 => RX3 | 4 => RX4 | 5 => RX5 | 6 => RX6 | 7 => RX7 | 8 => RX8 | 9 => RX9 | 10 => RJ6 | _ => RJ13
def xCx (G : xG) (E : xE) (p : Program) (s : State) (m : MethodId) (args : Array Value) (meth : Method) (c : Code) : Prop :=
  p.tables.exec = Jvm.exec ∧ c.code = E.2.1.2.1 ∧ meth.sig.returnType = E.2.1.2.2.2.1 ∧ c.maxLocals = E.2.1.2.2.1 ∧ s.vm.findClass (xcn E.1) = some m.cls ∧ (∀ w ∈ xws E.2.1, w.before args s = true) ∧ va_K G.2.2.1 vwCl (xtys G.2.2.2) s ∧ meth.locks = false
/-- at a place of a method: it will return, with Q -/
def WS (G : xG) (E : xE) (d : Nat) (Z : xZ) (Q : xP) (pc : Nat) (lv st : List xV) (μ : xM) : Prop :=
  match Z with
  | (p, e, s, m, args, below, meth, c) => xGok G → xCx G E p s m args meth c → ∀ (H : Heap) (locs : List Loc) (ls : Array Slot), va_P G.2.2.1 vwCl (xwld G.2.1 G.2.2.2 μ) H → va_S (xA G.2.1) s.heap H locs → xLv G.2.1 ls E.2.1.2.2.1 lv → xlok lv → xoks st →
    W p G.1 e (xrm d) s m args below meth c H locs 0 0 (MQ below (xQc G Q) args s 0 0 (xA G.2.1)) (F0 m pc ls (st.map (xrv G.2.1)))
theorem xD_wld {G : xG} (hG : xGok G) (μ : xM) : va_D (xA G.2.1) (xwld G.2.1 G.2.2.2 μ) := by
  have key : ∀ (i : Nat) (p : Nat × va_E), (xwld G.2.1 G.2.2.2 μ)[i]? = some p → ∃ q, xids[i]? = some q ∧ G.2.1 q = p.1 := by
    intro i p hp
    rw [xwld, List.getElem?_map] at hp
    cases hq : xids[i]? with
    | none => rw [hq] at hp; cases hp
    | some q => rw [hq] at hp; cases hp; exact ⟨q, rfl, rfl⟩
  refine ⟨fun i j p q hp hq hpq => ?_, fun k q hq => ?_⟩
  · obtain ⟨a, ha, ea⟩ := key i p hp
    obtain ⟨b, hb, eb⟩ := key j q hq
    have hab := hG a b (xids_ok (List.mem_of_getElem? ha)) (xids_ok (List.mem_of_getElem? hb)) (by rw [ea, eb, hpq])
    subst hab
    exact xids_inj ha hb
  · obtain ⟨a, ha, ea⟩ := key k q hq
    exact ⟨a, xids_ok (List.mem_of_getElem? ha), ea⟩
-- locals
theorem xnth_set (l : List xV) (i j : Nat) (v : xV) : xnth (xset l i v) j = if j = i ∧ i < l.length then v else xnth l j := by
  induction l generalizing i j with
  | nil => cases i <;> simp [xset, xnth]
  | cons a l ih =>
    cases i with
    | zero => cases j <;> simp [xset, xnth]
    | succ i =>
      cases j with
      | zero => simp [xset, xnth]
      | succ j => simp [xset, xnth, ih]
theorem xlok_set {l : List xV} (h : xlok l) (i : Nat) {v : xV} (hv : xvok v) : xlok (xset l i v) := by
  intro j
  rw [xnth_set]
  split
  · exact hv
  · exact h j
theorem xclr_s (lv : List xV) (i : Nat) : xclr lv (i + 1) = match xnth lv i with
    | .inr (.inl _) => xset lv i vN
    | _ => lv := rfl
theorem xlok_clr {l : List xV} (h : xlok l) (i : Nat) : xlok (xclr l i) := by
  cases i with
  | zero => exact h
  | succ i =>
    rw [xclr_s]
    split
    · exact xlok_set h i (v := vN) trivial
    · exact h
theorem xnth_clr (l : List xV) (i j : Nat) : xnth (xclr l i) j = vN ∨ (xnth (xclr l i) j = xnth l j ∧ ∀ x, ¬ (j + 1 = i ∧ xnth l j = vL x)) := by
  cases i with
  | zero => exact Or.inr ⟨rfl, fun x h => by omega⟩
  | succ i =>
    rw [xclr_s]
    split
    · rename_i x hx
      rw [xnth_set]
      by_cases hj : j = i
      · subst hj
        split
        · exact Or.inl rfl
        · rename_i hn
          rw [show xnth l j = vN from by
            have : l.length ≤ j := by
              rcases Nat.lt_or_ge j l.length with q | q
              · exact absurd ⟨rfl, q⟩ hn
              · exact q
            clear hn hx
            induction l generalizing j with
            | nil => rfl
            | cons a l ih => cases j with
              | zero => simp at this
              | succ j => exact ih j (by simpa using this)] at hx
          cases hx
      · right
        rw [if_neg (fun h => hj h.1)]
        exact ⟨rfl, fun x h => hj (by omega)⟩
    · rename_i hx
      right
      refine ⟨rfl, fun x h => ?_⟩
      obtain ⟨h1, h2⟩ := h
      have : j = i := by omega
      subst this
      exact hx x h2
theorem xrv_cat2 {ad : xI → Nat} {v : xV} (h : (xrv ad v).category = 2) : ∃ x, v = vL x := by
  rcases v with x | x | _ | q
  · exact absurd h (by simp [xrv, Value.category])
  · exact ⟨x, rfl⟩
  · exact absurd h (by simp [xrv, Value.category])
  · exact absurd h (by simp [xrv, Value.category])
theorem xLv_s1 {ad : xI → Nat} {ls ls' : Array Slot} {n i : Nat} {lv : List xV} {v : xV} {V : Value} (h : xLv ad ls n lv) (hi : i < n) (hV : xrv ad v = V) (hc : V.category = 1) (hst : storeLocals ls i V = some ls') : xLv ad ls' n (xs1 lv i v) := by
  obtain ⟨h1, h2, h3⟩ := h
  have base : ∀ l : List (Nat × Value), (∀ q ∈ l, ls[q.1]? = some (.val q.2)) → lv_has ls' n ((i, V) :: l.filter (fun q => !(q.1 == i) && !(q.1 + 1 == i && q.2.category == 2))) := by
    intro l hl
    obtain ⟨ls2, e1, e2⟩ := lv_store1 (ls := ls) (nL := n) (l := l) ⟨h1, h2, hl⟩ hi hc
    rw [hst] at e1
    cases e1
    exact e2
  obtain ⟨b1, b2, b3⟩ := base [] (by simp)
  refine ⟨b1, b2, fun j hj => ?_⟩
  unfold xs1 at hj ⊢
  rw [xnth_set] at hj ⊢
  by_cases hji : j = i
  · subst hji
    by_cases hlt : j < (xclr lv j).length
    · rw [if_pos ⟨rfl, hlt⟩, hV]
      exact b3 (j, V) (by simp)
    · rw [if_neg (fun q => hlt q.2)] at hj
      exfalso
      apply hj
      generalize xclr lv j = l at hlt
      clear hj h3 hV hi hst base b3
      induction l generalizing j with
      | nil => rfl
      | cons a l ih => cases j with
        | zero => simp at hlt
        | succ j => exact ih j (by simpa using hlt)
  · rw [if_neg (fun q => hji q.1)] at hj ⊢
    rcases xnth_clr lv i j with e | ⟨e, hx⟩
    · exact absurd e hj
    · rw [e] at hj ⊢
      obtain ⟨-, -, c3⟩ := base [(j, xrv ad (xnth lv j))] (by simpa using h3 j hj)
      apply c3 (j, xrv ad (xnth lv j))
      simp only [List.mem_cons, List.mem_filter, List.not_mem_nil, or_false]
      right
      refine ⟨trivial, ?_⟩
      simp only [Bool.and_eq_true, Bool.not_eq_true', beq_eq_false_iff_ne, ne_eq, Bool.and_eq_false_iff]
      refine ⟨hji, ?_⟩
      by_cases h9 : j + 1 = i
      · right
        intro hcat
        obtain ⟨x, ex⟩ := xrv_cat2 hcat
        exact hx x ⟨h9, ex⟩
      · exact Or.inl h9
theorem xLv_s2 {ad : xI → Nat} {ls ls' : Array Slot} {n i : Nat} {lv : List xV} {v : xV} {V : Value} (h : xLv ad ls n lv) (hi : i + 1 < n) (hV : xrv ad v = V) (hc : V.category = 2) (hst : storeLocals ls i V = some ls') : xLv ad ls' n (xs2 lv i v) := by
  obtain ⟨h1, h2, h3⟩ := h
  have base : ∀ l : List (Nat × Value), (∀ q ∈ l, ls[q.1]? = some (.val q.2)) → lv_has ls' n ((i, V) :: l.filter (fun q => !(q.1 == i) && (!(q.1 == i + 1) && !(q.1 + 1 == i && q.2.category == 2)))) := by
    intro l hl
    obtain ⟨ls2, e1, e2⟩ := lv_store2 (ls := ls) (nL := n) (l := l) ⟨h1, h2, hl⟩ hi hc
    rw [hst] at e1
    cases e1
    exact e2
  obtain ⟨b1, b2, b3⟩ := base [] (by simp)
  have past : ∀ (l : List xV) (j : Nat), ¬ j < l.length → xnth l j = vN := by
    intro l
    induction l with
    | nil => intro j _; rfl
    | cons a l ih => intro j hj; cases j with
      | zero => simp at hj
      | succ j => exact ih j (by simpa using hj)
  refine ⟨b1, b2, fun j hj => ?_⟩
  unfold xs2 at hj ⊢
  rw [xnth_set] at hj ⊢
  by_cases hji : j = i
  · subst hji
    by_cases hlt : j < (xset (xclr lv j) (j + 1) vN).length
    · rw [if_pos ⟨rfl, hlt⟩, hV]
      exact b3 (j, V) (by simp)
    · rw [if_neg (fun q => hlt q.2)] at hj
      exact absurd (past _ j hlt) hj
  · rw [if_neg (fun q => hji q.1)] at hj ⊢
    rw [xnth_set] at hj ⊢
    by_cases hj1 : j = i + 1
    · subst hj1
      by_cases hlt : i + 1 < (xclr lv i).length
      · rw [if_pos ⟨rfl, hlt⟩] at hj
        exact absurd rfl hj
      · rw [if_neg (fun q => hlt q.2)] at hj
        exact absurd (past _ _ hlt) hj
    · rw [if_neg (fun q => hj1 q.1)] at hj ⊢
      rcases xnth_clr lv i j with e | ⟨e, hx⟩
      · exact absurd e hj
      · rw [e] at hj ⊢
        obtain ⟨-, -, c3⟩ := base [(j, xrv ad (xnth lv j))] (by simpa using h3 j hj)
        apply c3 (j, xrv ad (xnth lv j))
        simp only [List.mem_cons, List.mem_filter, List.not_mem_nil, or_false]
        right
        refine ⟨trivial, ?_⟩
        simp only [Bool.and_eq_true, Bool.not_eq_true', beq_eq_false_iff_ne, ne_eq, Bool.and_eq_false_iff]
        refine ⟨hji, hj1, ?_⟩
        by_cases h9 : j + 1 = i
        · right
          intro hcat
          obtain ⟨x, ex⟩ := xrv_cat2 hcat
          exact hx x ⟨h9, ex⟩
        · exact Or.inl h9
theorem xLv_mask {ad : xI → Nat} {ls : Array Slot} {n : Nat} {lv : List xV} (b : List Bool) (h : xLv ad ls n lv) : xLv ad ls n (xmask b lv) := by
  refine ⟨h.1, h.2.1, fun i hi => ?_⟩
  have key : ∀ (b : List Bool) (l : List xV) (i : Nat), xnth (xmask b l) i ≠ vN → xnth (xmask b l) i = xnth l i := by
    intro b
    induction b with
    | nil => intro l i h; exact absurd (by unfold xmask; rfl) h
    | cons a b ih =>
      intro l i h
      cases l with
      | nil => cases a <;> exact absurd rfl h
      | cons v l =>
        cases a with
        | true => cases i with
          | zero => rfl
          | succ i => exact ih l i h
        | false => cases i with
          | zero => exact absurd rfl h
          | succ i => exact ih l i h
  have e := key b lv i hi
  rw [e]
  exact h.2.2 i (fun z => hi (e.trans z))
theorem xlok_mask {lv : List xV} (b : List Bool) (h : xlok lv) : xlok (xmask b lv) := by
  intro i
  have key : ∀ (b : List Bool) (l : List xV) (i : Nat), xnth (xmask b l) i = vN ∨ xnth (xmask b l) i = xnth l i := by
    intro b
    induction b with
    | nil => intro l i; exact Or.inl (by unfold xmask; rfl)
    | cons a b ih =>
      intro l i
      cases l with
      | nil => cases a <;> exact Or.inl rfl
      | cons v l =>
        cases a with
        | true => cases i with
          | zero => exact Or.inr rfl
          | succ i => exact ih l i
        | false => cases i with
          | zero => exact Or.inl rfl
          | succ i => exact ih l i
  rcases key b lv i with e | e
  · rw [e]; exact trivial
  · rw [e]; exact h i
-- shapes
theorem xfs_int {ad : xI → Nat} {f : Nat → Int32} : ∀ (fs : List (Option xI)) (b k : Nat), fs[k]? = some none → (xfs ad f b fs)[k]? = some (.int (f (b + k)))
  | [], b, k, h => by simp at h
  | none :: l, b, 0, h => rfl
  | some r :: l, b, 0, h => by simp at h
  | none :: l, b, k + 1, h => by
    rw [show b + (k + 1) = (b + 1) + k by omega]
    exact xfs_int l (b + 1) k (by simpa using h)
  | some r :: l, b, k + 1, h => by
    rw [show b + (k + 1) = (b + 1) + k by omega]
    exact xfs_int l (b + 1) k (by simpa using h)
theorem xfs_ref {ad : xI → Nat} {f : Nat → Int32} {r : xI} : ∀ (fs : List (Option xI)) (b k : Nat), fs[k]? = some (some r) → (xfs ad f b fs)[k]? = some (.ref (ad r))
  | [], b, k, h => by simp at h
  | none :: l, b, 0, h => by simp at h
  | some r' :: l, b, 0, h => by
    have : r' = r := by simpa using h
    subst this
    rfl
  | none :: l, b, k + 1, h => xfs_ref l (b + 1) k (by simpa using h)
  | some r :: l, b, k + 1, h => xfs_ref l (b + 1) k (by simpa using h)
theorem xfs_set {ad : xI → Nat} {f : Nat → Int32} {v : Int32} : ∀ (fs : List (Option xI)) (b k : Nat), fs[k]? = some none → (xfs ad f b fs).set k (.int v) = xfs ad (upd f (b + k) v) b fs
  | [], b, k, h => by simp at h
  | none :: l, b, 0, h => by
    have : ∀ (l : List (Option xI)) (c : Nat), b < c → xfs ad f c l = xfs ad (upd f b v) c l := by
      intro l
      induction l with
      | nil => intro c _; rfl
      | cons a l ih => intro c hc; cases a with
        | none => show _ :: _ = _ :: _; rw [ih (c + 1) (by omega), pk_un (show c ≠ b by omega)]
        | some r => show _ :: _ = _ :: _; rw [ih (c + 1) (by omega)]
    show _ :: _ = _ :: _
    simp only [Nat.add_zero]
    rw [this l (b + 1) (by omega), pk_us]
  | some r :: l, b, 0, h => by simp at h
  | none :: l, b, k + 1, h => by
    rw [show b + (k + 1) = (b + 1) + k by omega]
    show _ :: _ = _ :: _
    rw [xfs_set l (b + 1) k (by simpa using h), pk_un (show b ≠ b + 1 + k by omega)]
  | some r :: l, b, k + 1, h => by
    rw [show b + (k + 1) = (b + 1) + k by omega]
    show _ :: _ = _ :: _
    rw [xfs_set l (b + 1) k (by simpa using h)]
theorem xfs_len {ad : xI → Nat} {f : Nat → Int32} : ∀ (fs : List (Option xI)) (b : Nat), (xfs ad f b fs).length = fs.length
  | [], b => rfl
  | none :: l, b => by simp [xfs, xfs_len l]
  | some r :: l, b => by simp [xfs, xfs_len l]
theorem xobj_ok {q r : xI} {ci : Nat} {fs : List (Option xI)} (h : xok q = true) (hq : xobj q = some (ci, fs)) (hr : some r ∈ fs) : xok r = true := by
  obtain ⟨k, j, c⟩ := q
  unfold xobj at hq
  split at hq <;> cases hq <;> rename_i heq <;> cases heq <;> simp at hr
  all_goals repeat' (refine Or.elim hr ?_ ?_ <;> clear hr <;> intro hr)
  all_goals (subst hr; simp [xok] at h ⊢; try omega)
end
section
/-! THE SMALL MACHINE IS SOUND: a step of it is a step of the machine-/
def xin (w : Cond) : Prop := w ∈ lw_tbl ∧ goodWord w = true
theorem xin_gw {w : Cond} (h : xin w) : w ∈ xgw := List.mem_filter.mpr h
def xfF (o : Nat) (f : Nat × Nat × Nat × Nat) : Prop := ∃ (C : String) (T : u_T) (N : Nat), vwCl[f.2.1]? = some (C, T, N) ∧ f.2.2.1 < N ∧ xin (Cond.fieldLink (xcn o) f.1 (T f.2.2.1).1 (T f.2.2.1).2.1 (T f.2.2.1).2.2.1) ∧ (f.2.2.2 = 1 → (T f.2.2.1).2.2.2 = false ∧ (T f.2.2.1).2.2.1 = "I") ∧ (f.2.2.2 = 2 → (T f.2.2.1).2.2.2 = false ∧ (T f.2.2.1).2.2.1 = "Z")
def xmF (o : Nat) (idx : Nat) (D : xD) : Prop := xin (Cond.methodLink (xcn o) idx D.1) ∧ xin (Cond.code D.1 D.2.1 D.2.2.1 D.2.2.2.1) ∧ xin (Cond.initialized D.1.cls) ∧ D.1.cls ≠ "java/lang/invoke/MethodHandle" ∧ D.1.cls ≠ "java/lang/invoke/VarHandle" ∧ (parseMethodDescriptor D.1.desc).map (fun d => d.parameters.length) = some D.2.2.2.2 ∧ D.2.2.1 ≤ 21
def xvF (o : Nat) (q : Nat × Nat × xD) : Prop := (∃ (T : u_T) (N : Nat), vwCl[q.2.1]? = some (q.2.2.1.cls, T, N)) ∧ xmF o q.1 q.2.2 ∧ xin (Cond.instanceMethod q.2.2.1) ∧ xin (Cond.selects q.2.2.1.cls q.2.2.1 q.2.2.1)
def xsF (o : Nat) (q : Nat × Nat × xD) : Prop := xmF o q.1 q.2.2 ∧ xin (Cond.static q.2.2.1)
def xkF (o : Nat) (q : Nat × xV) : Prop := match q.2 with
  | .inl v => xin (Cond.constant (xcn o) q.1 v)
  | .inr (.inl v) => xin (Cond.constantLong (xcn o) q.1 v)
  | _ => False
def xnF (o : Nat) (q : Nat × Nat) : Prop := (q.2 = 1 → xin (Cond.methodLink (xcn o) q.1 Lib.Math.min.name) ∧ xin (Cond.static Lib.Math.min.name) ∧ xin (Cond.initialized "java/lang/Math") ∧ xin (Cond.code Lib.Math.min.name Lib.Math.min.code 2 (some .int))) ∧ (q.2 = 2 → xin (Cond.methodLink (xcn o) q.1 arraycopyName) ∧ xin (Cond.native arraycopyName) ∧ xin (Cond.static arraycopyName) ∧ xin (Cond.initialized "java/lang/System"))
def xCEok (o : Nat) (ce : xCE) : Prop := (∀ f ∈ ce.1, xfF o f) ∧ (∀ q ∈ ce.2.1, xvF o q) ∧ (∀ q ∈ ce.2.2.1, xsF o q) ∧ (∀ q ∈ ce.2.2.2.1, xkF o q) ∧ (∀ q ∈ ce.2.2.2.2, xnF o q)
def xtgt (tb : List xT) (pc : Nat) (off : Int) (t : Nat) : Bool := match tb.drop t with
  | e :: _ => decide ((pc : Int) + off = (e.1 : Int))
  | [] => false
theorem xtgt_ok {tb : List xT} {pc : Nat} {off : Int} {t : Nat} (h : xtgt tb pc off t = true) : ∃ e r, tb.drop t = e :: r ∧ (pc : Int) + off = (e.1 : Int) := by
  unfold xtgt at h
  split at h
  · rename_i e r he
    exact ⟨e, r, he, of_decide_eq_true h⟩
  · cases h
def xtgts (tb : List xT) (pc : Nat) : List Int → List Nat → Bool
  | [], [] => true
  | o :: os, t :: ts => xtgt tb pc o t && xtgts tb pc os ts
  | _, _ => false
def xkeys : List (Int × Int) → Bool
  | [] => true
  | (a, _) :: l => decide (-2147483648 ≤ a ∧ a ≤ 2147483647) && xkeys l
def xcI1 (c : xV) (x : Int32) : Bool := match c with | .inl v => decide (x = v) | _ => false
def xcL1 (c : xV) (x : Int64) : Bool := match c with | .inr (.inl v) => decide (x = v) | _ => false
def xisI (c : xV) : Bool := match c with | .inl _ => true | _ => false
def xme (l : List (Nat × Nat × xD)) (t : Nat) (idx ci : Nat) : Bool := match l.drop t with
  | q :: _ => decide (q.1 = idx) && decide (q.2.1 = ci)
  | [] => false
def xme0 (l : List (Nat × Nat × xD)) (t : Nat) (idx : Nat) : Bool := match l.drop t with
  | q :: _ => decide (q.1 = idx)
  | [] => false
def xchk (E : xE) (e : xT) : Bool :=
  match e.2.1 with
  | .aload_n n => decide (e.2.2.1 = 1 ∧ n.val = (xt0 e.2.2.2.1))
  | .iload_n n => decide (e.2.2.1 = 1 ∧ n.val = (xt0 e.2.2.2.1))
  | .lload_n n => decide (e.2.2.1 = 1 ∧ n.val = (xt0 e.2.2.2.1))
  | .aload n => decide (e.2.2.1 = 2 ∧ n = (xt0 e.2.2.2.1))
  | .iload n => decide (e.2.2.1 = 2 ∧ n = (xt0 e.2.2.2.1))
  | .lload n => decide (e.2.2.1 = 2 ∧ n = (xt0 e.2.2.2.1))
  | .istore_n n => decide (e.2.2.1 = 1 ∧ n.val = (xt0 e.2.2.2.1) ∧ (xt0 e.2.2.2.1) < E.2.1.2.2.1)
  | .astore_n n => decide (e.2.2.1 = 1 ∧ n.val = (xt0 e.2.2.2.1) ∧ (xt0 e.2.2.2.1) < E.2.1.2.2.1)
  | .istore n => decide (e.2.2.1 = 2 ∧ n = (xt0 e.2.2.2.1) ∧ (xt0 e.2.2.2.1) < E.2.1.2.2.1)
  | .astore n => decide (e.2.2.1 = 2 ∧ n = (xt0 e.2.2.2.1) ∧ (xt0 e.2.2.2.1) < E.2.1.2.2.1)
  | .lstore_n n => decide (e.2.2.1 = 1 ∧ n.val = (xt0 e.2.2.2.1) ∧ (xt0 e.2.2.2.1) + 1 < E.2.1.2.2.1)
  | .lstore n => decide (e.2.2.1 = 2 ∧ n = (xt0 e.2.2.2.1) ∧ (xt0 e.2.2.2.1) + 1 < E.2.1.2.2.1)
  | .iconst n => decide (e.2.2.1 = 1) && xcI1 e.2.2.2.2 (Int32.ofInt n)
  | .bipush n => decide (e.2.2.1 = 2) && xcI1 e.2.2.2.2 (Int8.ofInt n).toInt32
  | .sipush n => decide (e.2.2.1 = 3) && xcI1 e.2.2.2.2 (Int16.ofInt n).toInt32
  | .lconst n => decide (e.2.2.1 = 1) && xcL1 e.2.2.2.2 (Int64.ofNat n.val)
  | .ldc i => decide (e.2.2.1 = 2) && E.2.2.2.2.2.2.2.1.any (fun q => decide (q = (i, e.2.2.2.2)))
  | .ldc_w i => decide (e.2.2.1 = 3) && E.2.2.2.2.2.2.2.1.any (fun q => decide (q = (i, e.2.2.2.2)))
  | .ldc2_w i => decide (e.2.2.1 = 3) && E.2.2.2.2.2.2.2.1.any (fun q => decide (q = (i, e.2.2.2.2)))
  | .aconst_null => decide (e.2.2.1 = 1)
  | .iadd => decide (e.2.2.1 = 1)
  | .isub => decide (e.2.2.1 = 1)
  | .imul => decide (e.2.2.1 = 1)
  | .iand => decide (e.2.2.1 = 1)
  | .ior => decide (e.2.2.1 = 1)
  | .ixor => decide (e.2.2.1 = 1)
  | .idiv => decide (e.2.2.1 = 1)
  | .irem => decide (e.2.2.1 = 1)
  | .ineg => decide (e.2.2.1 = 1)
  | .ishl => decide (e.2.2.1 = 1)
  | .ishr => decide (e.2.2.1 = 1)
  | .iushr => decide (e.2.2.1 = 1)
  | .i2c => decide (e.2.2.1 = 1)
  | .i2l => decide (e.2.2.1 = 1)
  | .l2i => decide (e.2.2.1 = 1)
  | .ladd => decide (e.2.2.1 = 1)
  | .lsub => decide (e.2.2.1 = 1)
  | .land => decide (e.2.2.1 = 1)
  | .lor => decide (e.2.2.1 = 1)
  | .lshl => decide (e.2.2.1 = 1)
  | .lshr => decide (e.2.2.1 = 1)
  | .lushr => decide (e.2.2.1 = 1)
  | .lcmp => decide (e.2.2.1 = 1)
  | .dup => decide (e.2.2.1 = 1)
  | .dup2 => decide (e.2.2.1 = 1)
  | .pop => decide (e.2.2.1 = 1)
  | .arraylength => decide (e.2.2.1 = 1)
  | .iaload => decide (e.2.2.1 = 1)
  | .baload => decide (e.2.2.1 = 1)
  | .caload => decide (e.2.2.1 = 1)
  | .iastore => decide (e.2.2.1 = 1)
  | .bastore => decide (e.2.2.1 = 1)
  | .castore => decide (e.2.2.1 = 1)
  | .aaload => decide (e.2.2.1 = 1)
  | .ireturn => decide (e.2.2.1 = 1)
  | .lreturn => decide (e.2.2.1 = 1)
  | .areturn => decide (e.2.2.1 = 1)
  | .return_ => decide (e.2.2.1 = 1)
  | .iinc i n => decide (e.2.2.1 = 3 ∧ i = (xt0 e.2.2.2.1) ∧ (xt0 e.2.2.2.1) < E.2.1.2.2.1) && xcI1 e.2.2.2.2 (Int32.ofInt n)
  | .ifCond _ o => decide (e.2.2.1 = 3) && xtgt E.2.2.1 e.1 o (xt0 e.2.2.2.1)
  | .if_icmp _ o => decide (e.2.2.1 = 3) && xtgt E.2.2.1 e.1 o (xt0 e.2.2.2.1)
  | .ifnull _ => decide (e.2.2.1 = 3)
  | .goto o => decide (e.2.2.1 = 3) && xtgt E.2.2.1 e.1 o (xt0 e.2.2.2.1)
  | .tableswitch d lo hi offs => (match e.2.2.2.1 with | t :: ts => xtgt E.2.2.1 e.1 d t && xtgts E.2.2.1 e.1 offs.toList ts && decide (hi - lo + 1 = (offs.size : Int) ∧ -2147483648 ≤ lo ∧ hi ≤ 2147483647) | [] => false)
  | .lookupswitch d ps => (match e.2.2.2.1 with | t :: ts => xtgt E.2.2.1 e.1 d t && xtgts E.2.2.1 e.1 (ps.toList.map (·.2)) ts && xkeys ps.toList && (ps.toList.zip (ps.toList.drop 1)).all (fun (a, next) => a.1 < next.1) | [] => false)
  | .getfield i => decide (e.2.2.1 = 3) && E.2.2.2.2.1.any (fun f => decide (f.1 = i ∧ f.2.1 = (xt0 e.2.2.2.1) ∧ f.2.2.1 = xt1 e.2.2.2.1))
  | .putfield i => decide (e.2.2.1 = 3) && E.2.2.2.2.1.any (fun f => decide (f.1 = i ∧ f.2.1 = (xt0 e.2.2.2.1) ∧ f.2.2.1 = xt1 e.2.2.2.1 ∧ f.2.2.2 = (if xisI e.2.2.2.2 = true then 2 else 1)))
  | .invokevirtual i => decide (e.2.2.1 = 3) && xme E.2.2.2.2.2.1 (xt0 e.2.2.2.1) i (xt1 e.2.2.2.1)
  | .invokestatic i => decide (e.2.2.1 = 3) && (match xt1 e.2.2.2.1 with | 0 => xme0 E.2.2.2.2.2.2.1 (xt0 e.2.2.2.1) i | 1 => E.2.2.2.2.2.2.2.2.any (fun q => decide (q = (i, 1))) | _ => E.2.2.2.2.2.2.2.2.any (fun q => decide (q = (i, 2))))
  | _ => false
def xcont : List xT → Bool
  | [] => true
  | e :: l => (match l with
    | [] => true
    | e' :: _ => decide (e'.1 = e.1 + e.2.2.1)) && xcont l
def xEok (E : xE) : Prop := (∀ e ∈ E.2.2.1, decode E.2.1.2.1 e.1 = .ok (e.2.1, e.2.2.1)) ∧ E.2.2.1.all (xchk E) = true ∧ xcont E.2.2.1 = true ∧ xCEok E.1 E.2.2.2.2 ∧ E.2.1.1.cls = xcn E.1 ∧ plainName E.2.1.1.cls = true
-- what the conditions of a step say
theorem xpI_ex {st : List xV} {f : Int32 → List xV → Prop} (h : xpI st f) : ∃ x r, st = vI x :: r ∧ f x r := by
  rcases st with _ | ⟨x | x | _ | q, r⟩ <;> first | exact h.elim | exact ⟨_, _, rfl, h⟩
theorem xpL_ex {st : List xV} {f : Int64 → List xV → Prop} (h : xpL st f) : ∃ x r, st = vL x :: r ∧ f x r := by
  rcases st with _ | ⟨x | x | _ | q, r⟩ <;> first | exact h.elim | exact ⟨_, _, rfl, h⟩
theorem xpR_ex {st : List xV} {f : xI → List xV → Prop} (h : xpR st f) : ∃ q r, st = vR q :: r ∧ f q r := by
  rcases st with _ | ⟨x | x | _ | q, r⟩ <;> first | exact h.elim | exact ⟨_, _, rfl, h⟩
theorem xgI_ex {lv : List xV} {i : Nat} {f : Int32 → Prop} (h : xgI lv i f) : ∃ x, xnth lv i = vI x ∧ f x := by
  revert h
  unfold xgI
  rcases xnth lv i with x | x | _ | q <;> intro h <;> first | exact h.elim | exact ⟨_, rfl, h⟩
theorem xgL_ex {lv : List xV} {i : Nat} {f : Int64 → Prop} (h : xgL lv i f) : ∃ x, xnth lv i = vL x ∧ f x := by
  revert h
  unfold xgL
  rcases xnth lv i with x | x | _ | q <;> intro h <;> first | exact h.elim | exact ⟨_, rfl, h⟩
theorem xgR_ex {lv : List xV} {i : Nat} {f : xI → Prop} (h : xgR lv i f) : ∃ x, xnth lv i = vR x ∧ f x := by
  revert h
  unfold xgR
  rcases xnth lv i with x | x | _ | q <;> intro h <;> first | exact h.elim | exact ⟨_, rfl, h⟩
theorem xcI_ex {c : xV} {f : Int32 → Prop} (h : xcI c f) : ∃ x, c = vI x ∧ f x := by
  unfold xcI at h
  rcases c with x | x | _ | q <;> first | exact h.elim | exact ⟨_, rfl, h⟩
theorem xcL_ex {c : xV} {f : Int64 → Prop} (h : xcL c f) : ∃ x, c = vL x ∧ f x := by
  unfold xcL at h
  rcases c with x | x | _ | q <;> first | exact h.elim | exact ⟨_, rfl, h⟩
theorem xax_ex {q : xI} {t : Nat} {f : Nat → Prop} (h : xax q t f) : ∃ n, xarr q = some (t, n) ∧ f n := by
  unfold xax at h
  split at h
  · rename_i t' n e
    cases hb : Nat.beq t' t with
    | false => rw [hb] at h; exact h.elim
    | true => rw [hb] at h; exact ⟨n, by rw [e, Nat.eq_of_beq_eq_true hb], h⟩
  · exact h.elim
theorem xro_ex {q : xI} {t : Nat} {f : Prop} (h : xro q t f) : (∃ fs, xobj q = some (t, fs)) ∧ f := by
  unfold xro at h
  split at h
  · rename_i t' fs e
    cases hb : Nat.beq t' t with
    | false => rw [hb] at h; exact h.elim
    | true => rw [hb] at h; exact ⟨⟨fs, by rw [e, Nat.eq_of_beq_eq_true hb]⟩, h⟩
  · exact h.elim
theorem xif8_ex {l : List xV} {f : Prop} (h : xif8 l f) : xcats l ≤ 8 ∧ f := by
  unfold xif8 at h
  cases hb : Nat.ble (xcats l) 8 with
  | false => rw [hb] at h; exact h.elim
  | true => rw [hb] at h; exact ⟨Nat.le_of_ble_eq_true hb, h⟩
theorem xcats_eq (ad : xI → Nat) (l : List xV) : ((l.map (xrv ad)).map fun v => v.category).sum = xcats l := by
  induction l with
  | nil => rfl
  | cons v l ih =>
    rw [List.map_cons, List.map_cons, List.sum_cons, ih]
    rcases v with x | x | _ | q <;> rfl
theorem xfind_ex {l : List (Nat × Nat × xD)} {i : Nat} {f : xD → Prop} (h : xfind l i f) : ∃ q r, l.drop i = q :: r ∧ f q.2.2 := by
  induction l generalizing i with
  | nil => unfold xfind at h; exact h.elim
  | cons a l ih =>
    cases i with
    | zero => exact ⟨a, l, rfl, h⟩
    | succ i => exact ih h
theorem xdrop_mem {α : Type} {l : List α} {i : Nat} {q : α} {r : List α} (h : l.drop i = q :: r) : q ∈ l := List.mem_of_mem_drop (by rw [h]; exact List.mem_cons_self)
theorem xargs_ex : ∀ (n : Nat) (st acc : List xV) (f : List xV → List xV → Prop), xargs n st acc f → ∃ B s', st = B.reverse ++ s' ∧ B.length = n ∧ f (B ++ acc) s'
  | 0, st, acc, f, h => ⟨[], st, rfl, rfl, h⟩
  | n + 1, [], acc, f, h => h.elim
  | n + 1, v :: r, acc, f, h => by
    obtain ⟨B, s', e1, e2, e3⟩ := xargs_ex n r (v :: acc) f h
    refine ⟨B ++ [v], s', ?_, by simp [e2], by simpa using e3⟩
    rw [e1]
    simp
theorem xoks_app {a b : List xV} (h : xoks (a ++ b)) : xoks a ∧ xoks b := by
  induction a with
  | nil => exact ⟨trivial, h⟩
  | cons v a ih => exact ⟨⟨h.1, (ih h.2).1⟩, (ih h.2).2⟩
theorem xoks_mem {a : List xV} (h : xoks a) : ∀ v ∈ a, xvok v := by
  induction a with
  | nil => intro v hv; cases hv
  | cons w a ih =>
    intro v hv
    rcases List.mem_cons.mp hv with rfl | hv
    · exact h.1
    · exact ih h.2 v hv
end
section
-- a class's words, by their places in the tables
theorem xu_of {ws : List Cond} (ps : List Nat) (hp : ws = ps.filterMap (fun i => lw_tbl[i]?)) (h : ws.all goodWord = true) : ∀ w ∈ ws, xin w := by
  intro w hw
  have h1 := List.all_eq_true.mp h w hw
  rw [hp] at hw
  obtain ⟨i, -, hi⟩ := List.mem_filterMap.mp hw
  exact ⟨List.mem_of_getElem? hi, h1⟩
set_option maxRecDepth 100000 in
theorem xu_X0 : ∀ w ∈ u_ws RX0 TX0 5, xin w := xu_of [234, 236, 238, 240, 242] (by decide +kernel) (by decide +kernel)
set_option maxRecDepth 100000 in
theorem xu_X1 : ∀ w ∈ u_ws RX1 TX1 3, xin w := xu_of [256, 258, 260] (by decide +kernel) (by decide +kernel)
set_option maxRecDepth 100000 in
theorem xu_X2 : ∀ w ∈ u_ws RX2 TX2 4, xin w := xu_of [126, 128, 130, 132] (by decide +kernel) (by decide +kernel)
set_option maxRecDepth 100000 in
theorem xu_X3 : ∀ w ∈ u_ws RX3 TX3 3, xin w := xu_of [211, 213, 215] (by decide +kernel) (by decide +kernel)
set_option maxRecDepth 100000 in
theorem xu_X4 : ∀ w ∈ u_ws RX4 TX4 12, xin w := xu_of [164, 166, 168, 170, 172, 174, 176, 178, 180, 182, 184, 186] (by decide +kernel) (by decide +kernel)
set_option maxRecDepth 100000 in
theorem xu_X5 : ∀ w ∈ u_ws RX5 TX5 1, xin w := xu_of [114] (by decide +kernel) (by decide +kernel)
set_option maxRecDepth 100000 in
theorem xu_X7 : ∀ w ∈ u_ws RX7 TX7 2, xin w := xu_of [193, 195] (by decide +kernel) (by decide +kernel)
set_option maxRecDepth 100000 in
theorem xu_X8 : ∀ w ∈ u_ws RX8 TX8 9, xin w := xu_of [276, 278, 280, 282, 284, 286, 288, 290, 292] (by decide +kernel) (by decide +kernel)
set_option maxRecDepth 100000 in
theorem xu_X9 : ∀ w ∈ u_ws RX9 TX9 18, xin w := xu_of [781, 783, 785, 787, 789, 791, 793, 795, 797, 799, 801, 803, 805, 807, 809, 811, 813, 815] (by decide +kernel) (by decide +kernel)
theorem xcl_ok : ∀ (ci : Nat) (C : String) (T : u_T) (N : Nat), vwCl[ci]? = some (C, T, N) → (∀ w ∈ u_ws C T N, xin w) ∧ (∃ ty : Nat → FieldType, ∀ k, k < N → parseFieldDescriptor (T k).2.2.1 = some (ty k)) ∧ (∀ a, a < N → ∀ b, b < N → a ≠ b → (T a).2.1 ≠ (T b).2.1) := by
  intro ci C T N h
  match ci, h with
  | 0, h => cases h; exact ⟨xu_X0, ⟨tyX0, tyX0_ok⟩, nmX0⟩
  | 1, h => cases h; exact ⟨xu_X1, ⟨tyX1, tyX1_ok⟩, nmX1⟩
  | 2, h => cases h; exact ⟨xu_X2, ⟨tyX2, tyX2_ok⟩, nmX2⟩
  | 3, h => cases h; exact ⟨xu_X3, ⟨tyX3, tyX3_ok⟩, nmX3⟩
  | 4, h => cases h; exact ⟨xu_X4, ⟨tyX4, tyX4_ok⟩, nmX4⟩
  | 5, h => cases h; exact ⟨xu_X5, ⟨tyX5, tyX5_ok⟩, nmX5⟩
  | 6, h => cases h; exact ⟨xu_X7, ⟨tyX7, tyX7_ok⟩, nmX7⟩
  | 7, h => cases h; exact ⟨xu_X8, ⟨tyX8, tyX8_ok⟩, nmX8⟩
  | 8, h => cases h; exact ⟨xu_X9, ⟨tyX9, tyX9_ok⟩, nmX9⟩
  | n + 9, h => simp [vwCl] at h
end
section
section
variable {p : Program} {l : Launch} {e : Env} {R : Room} {s : State} {m : MethodId} {args : Array Value} {below : List Frame} {meth : Method} {c : Code} {H : Heap} {locs : List Loc} {QS : State → Prop}
variable {pc : Nat} {ls : Array Slot} {rest st0 : List Value} {a : Array Value} {H0 : Heap}
/-- behind a call by a small contract -/
theorem xcall_go {G : xG} {Q : xP} (hr : va_Run p l e R s m args below meth c H locs 0 0 0 0 (F0 m pc ls st0) rest (xQc G Q a) (xA G.2.1)) (hS : va_S (xA G.2.1) H0 H locs)
    (kk : ∀ (r : Option xV) (μ' : xM) (H1 : Heap) (locs1 : List Loc), Q r μ' → (∀ v, r = some v → xvok v) → va_P G.2.2.1 vwCl (xwld G.2.1 G.2.2.2 μ') H1 → va_S (xA G.2.1) H0 H1 locs1 → W p l e R s m args below meth c H1 locs1 0 0 QS (F0 m (pc + 3) ls ((r.map (xrv G.2.1)).toList ++ rest))) : W p l e R s m args below meth c H locs 0 0 QS (F0 m pc ls st0) := by
  intro T hT X
  obtain ⟨v, st₀, t, T', L, h0, X', hL, e1, e2, ⟨⟨r, μ', hq, hv, hok, hP1, -⟩, hz, hk⟩, st⟩ := hr T hT X
  cases hv
  rw [h0] at hz hk
  rw [← e1] at hP1
  obtain ⟨t2, a1, b1⟩ := kk r μ' T'.heap (locs ++ L) hq hok hP1
    ⟨Nat.le_trans hS.1 (by rw [e1]; exact hz), fun q h1 h2 => by rw [e1, hk q (Nat.lt_of_lt_of_le h1 hS.1) h2]; exact hS.2.1 q h1 h2, fun q hq => by
      rcases List.mem_append.mp hq with h | h
      · exact hS.2.2 q h
      · exact hL q h⟩ T' rfl X'
  exact ⟨t2, st t2 a1, b1⟩
theorem xblind (G : xG) (As : List Value) (μ : xM) : FrameBlind (va_Pc As (xB G μ)) := by
  intro a U g mk q
  obtain ⟨h1, qP, qK⟩ := q
  exact ⟨h1, qP, va_K.moved (u := U) (U := U.calling g mk a) (Vm.Alike.refl U.vm) qK⟩

theorem xw_istore_n (hexec : p.tables.exec = Jvm.exec) {cc : ByteArray} (hb : c.code = cc) {ad : xI → Nat} {n i : Nat} {k : Fin 4} {lv : List xV} {x : Int32} {cells slots : Nat} (hl : xLv ad ls n lv) (hi : i < n) (hdg : decode cc pc = .ok (.istore_n k, 1)) (hk : k.val = i)
    (kk : ∀ ls' : Array Slot, xLv ad ls' n (xs1 lv i (vI x)) → W p l e R s m args below meth c H locs cells slots QS (F0 m (pc + 1) ls' rest)) : W p l e R s m args below meth c H locs cells slots QS (F0 m pc ls (.int x :: rest)) := by
  subst hk
  obtain ⟨ls', e', -⟩ := lv_store1 (l := []) (v := .int x) ⟨hl.1, hl.2.1, fun q hq => by cases hq⟩ hi rfl
  intro T hT X
  obtain ⟨t, a, b⟩ := kk ls' (xLv_s1 hl hi rfl rfl e') T hT X
  refine ⟨t, ?_, b⟩
  jvm_step X.here [X.here.top, ↓top_set X.here.top, hexec, hb, hdg, e']
  exact a
theorem xw_istore (hexec : p.tables.exec = Jvm.exec) {cc : ByteArray} (hb : c.code = cc) {ad : xI → Nat} {n i : Nat} {lv : List xV} {x : Int32} {cells slots : Nat} (hl : xLv ad ls n lv) (hi : i < n) (hdg : decode cc pc = .ok (.istore i, 2))
    (kk : ∀ ls' : Array Slot, xLv ad ls' n (xs1 lv i (vI x)) → W p l e R s m args below meth c H locs cells slots QS (F0 m (pc + 2) ls' rest)) : W p l e R s m args below meth c H locs cells slots QS (F0 m pc ls (.int x :: rest)) := by
  obtain ⟨ls', e', -⟩ := lv_store1 (l := []) (v := .int x) ⟨hl.1, hl.2.1, fun q hq => by cases hq⟩ hi rfl
  intro T hT X
  obtain ⟨t, a, b⟩ := kk ls' (xLv_s1 hl hi rfl rfl e') T hT X
  refine ⟨t, ?_, b⟩
  jvm_step X.here [X.here.top, ↓top_set X.here.top, hexec, hb, hdg, e']
  exact a
theorem xw_lstore_n (hexec : p.tables.exec = Jvm.exec) {cc : ByteArray} (hb : c.code = cc) {ad : xI → Nat} {n i : Nat} {k : Fin 4} {lv : List xV} {x : Int64} {cells slots : Nat} (hl : xLv ad ls n lv) (hi : i + 1 < n) (hdg : decode cc pc = .ok (.lstore_n k, 1)) (hk : k.val = i)
    (kk : ∀ ls' : Array Slot, xLv ad ls' n (xs2 lv i (vL x)) → W p l e R s m args below meth c H locs cells slots QS (F0 m (pc + 1) ls' rest)) : W p l e R s m args below meth c H locs cells slots QS (F0 m pc ls (.long x :: rest)) := by
  subst hk
  obtain ⟨ls', e', -⟩ := lv_store2 (l := []) (v := .long x) ⟨hl.1, hl.2.1, fun q hq => by cases hq⟩ hi rfl
  intro T hT X
  obtain ⟨t, a, b⟩ := kk ls' (xLv_s2 hl hi rfl rfl e') T hT X
  refine ⟨t, ?_, b⟩
  jvm_step X.here [X.here.top, ↓top_set X.here.top, hexec, hb, hdg, e']
  exact a
theorem xw_lstore (hexec : p.tables.exec = Jvm.exec) {cc : ByteArray} (hb : c.code = cc) {ad : xI → Nat} {n i : Nat} {lv : List xV} {x : Int64} {cells slots : Nat} (hl : xLv ad ls n lv) (hi : i + 1 < n) (hdg : decode cc pc = .ok (.lstore i, 2))
    (kk : ∀ ls' : Array Slot, xLv ad ls' n (xs2 lv i (vL x)) → W p l e R s m args below meth c H locs cells slots QS (F0 m (pc + 2) ls' rest)) : W p l e R s m args below meth c H locs cells slots QS (F0 m pc ls (.long x :: rest)) := by
  obtain ⟨ls', e', -⟩ := lv_store2 (l := []) (v := .long x) ⟨hl.1, hl.2.1, fun q hq => by cases hq⟩ hi rfl
  intro T hT X
  obtain ⟨t, a, b⟩ := kk ls' (xLv_s2 hl hi rfl rfl e') T hT X
  refine ⟨t, ?_, b⟩
  jvm_step X.here [X.here.top, ↓top_set X.here.top, hexec, hb, hdg, e']
  exact a
theorem xw_astore_n (hexec : p.tables.exec = Jvm.exec) {cc : ByteArray} (hb : c.code = cc) {ad : xI → Nat} {n i : Nat} {k : Fin 4} {lv : List xV} {x : xI} {cells slots : Nat} (hl : xLv ad ls n lv) (hi : i < n) (hdg : decode cc pc = .ok (.astore_n k, 1)) (hk : k.val = i)
    (kk : ∀ ls' : Array Slot, xLv ad ls' n (xs1 lv i (vR x)) → W p l e R s m args below meth c H locs cells slots QS (F0 m (pc + 1) ls' rest)) : W p l e R s m args below meth c H locs cells slots QS (F0 m pc ls (.ref (ad x) :: rest)) := by
  subst hk
  obtain ⟨ls', e', -⟩ := lv_store1 (l := []) (v := .ref (ad x)) ⟨hl.1, hl.2.1, fun q hq => by cases hq⟩ hi rfl
  intro T hT X
  obtain ⟨t, a, b⟩ := kk ls' (xLv_s1 hl hi rfl rfl e') T hT X
  refine ⟨t, ?_, b⟩
  jvm_step X.here [X.here.top, ↓top_set X.here.top, hexec, hb, hdg, e', Value.isRef]
  exact a
theorem xw_astore (hexec : p.tables.exec = Jvm.exec) {cc : ByteArray} (hb : c.code = cc) {ad : xI → Nat} {n i : Nat} {lv : List xV} {x : xI} {cells slots : Nat} (hl : xLv ad ls n lv) (hi : i < n) (hdg : decode cc pc = .ok (.astore i, 2))
    (kk : ∀ ls' : Array Slot, xLv ad ls' n (xs1 lv i (vR x)) → W p l e R s m args below meth c H locs cells slots QS (F0 m (pc + 2) ls' rest)) : W p l e R s m args below meth c H locs cells slots QS (F0 m pc ls (.ref (ad x) :: rest)) := by
  obtain ⟨ls', e', -⟩ := lv_store1 (l := []) (v := .ref (ad x)) ⟨hl.1, hl.2.1, fun q hq => by cases hq⟩ hi rfl
  intro T hT X
  obtain ⟨t, a, b⟩ := kk ls' (xLv_s1 hl hi rfl rfl e') T hT X
  refine ⟨t, ?_, b⟩
  jvm_step X.here [X.here.top, ↓top_set X.here.top, hexec, hb, hdg, e', Value.isRef]
  exact a
theorem xw_iinc (hexec : p.tables.exec = Jvm.exec) {cc : ByteArray} (hb : c.code = cc) {ad : xI → Nat} {n i : Nat} {lv : List xV} {x v : Int32} {q : Int} {cells slots : Nat} (hl : xLv ad ls n lv) (hi : i < n) (hdg : decode cc pc = .ok (.iinc i q, 3)) (hx : xnth lv i = vI x) (hv : Int32.ofInt q = v)
    (kk : ∀ ls' : Array Slot, xLv ad ls' n (xs1 lv i (vI (x + v))) → W p l e R s m args below meth c H locs cells slots QS (F0 m (pc + 3) ls' rest)) : W p l e R s m args below meth c H locs cells slots QS (F0 m pc ls rest) := by
  subst hv
  have hg := hl.2.2 i (by rw [hx]; intro z; cases z)
  rw [hx] at hg
  have hg : ls[i]? = some (.val (.int x)) := hg
  obtain ⟨ls', e', -⟩ := lv_store1 (l := []) (v := .int (x + Int32.ofInt q)) ⟨hl.1, hl.2.1, fun q hq => by cases hq⟩ hi rfl
  intro T hT X
  obtain ⟨t, a, b⟩ := kk ls' (xLv_s1 hl hi rfl rfl e') T hT X
  refine ⟨t, ?_, b⟩
  jvm_step X.here [X.here.top, ↓top_set X.here.top, hexec, hb, hdg, hg, e']
  exact a
end
-- switches
theorem xnat_le : 0 + (nativeFrameWords "java/lang/System" "arraycopy" 5 + 11) ≤ 40 := by decide +kernel
theorem xtgts_get {tb : List xT} {pc : Nat} : ∀ (os : List Int) (ts : List Nat), xtgts tb pc os ts = true → os.length = ts.length ∧ ∀ (j t : Nat), ts[j]? = some t → ∃ o, os[j]? = some o ∧ xtgt tb pc o t = true
  | [], [], _ => ⟨rfl, fun j t h => by simp at h⟩
  | [], _ :: _, h => by simp [xtgts] at h
  | _ :: _, [], h => by simp [xtgts] at h
  | o :: os, t :: ts, h => by
    simp only [xtgts, Bool.and_eq_true] at h
    obtain ⟨e, f⟩ := xtgts_get os ts h.2
    refine ⟨by simp [e], fun j t' hj => ?_⟩
    cases j with
    | zero =>
      have : t = t' := by simpa using hj
      subst this
      exact ⟨o, rfl, h.1⟩
    | succ j => exact f j t' (by simpa using hj)
theorem xtsw_ex {x : Int32} {kt : Nat → Prop} {kd : Prop} : ∀ (ts : List Nat) (lo : Int), xtsw x lo ts kt kd → (∃ (j t : Nat), ts[j]? = some t ∧ x = Int32.ofInt (lo + (j : Int)) ∧ kt t) ∨ ((∀ j, j < ts.length → ¬ x = Int32.ofInt (lo + (j : Int))) ∧ kd)
  | [], lo, h => Or.inr ⟨fun j hj => by simp at hj, h⟩
  | t :: ts, lo, h => by
    by_cases hx : x = Int32.ofInt lo
    · exact Or.inl ⟨0, t, by simp, by simpa using hx, h.1 hx⟩
    · rcases xtsw_ex ts (lo + 1) (h.2 hx) with ⟨j, t', e1, e2, e3⟩ | ⟨e1, e2⟩
      · exact Or.inl ⟨j + 1, t', by simpa using e1, by rw [e2]; congr 1; omega, e3⟩
      · refine Or.inr ⟨fun j hj => ?_, e2⟩
        cases j with
        | zero => simpa using hx
        | succ j =>
          have := e1 j (by simpa using hj)
          rwa [show lo + 1 + (j : Int) = lo + ((j + 1 : Nat) : Int) by omega] at this
theorem xofI {x : Int32} {z : Int} (h : x = Int32.ofInt z) (h1 : -2147483648 ≤ z) (h2 : z ≤ 2147483647) : x.toInt = z := by
  subst h
  exact Int32.toInt_ofInt_of_le (by simpa using h1) (by simpa using (by omega : z < 2147483648))
theorem xlsw_ex {x : Int32} {tb : List xT} {pc : Nat} {d : Int} {kt : Nat → Prop} {kd : Prop} : ∀ (ps : List (Int × Int)) (ts : List Nat), xtgts tb pc (ps.map (·.2)) ts = true → xkeys ps = true → xlsw x ps ts kt kd → (∃ o t, Op.lookupswitch.offset ps d x.toInt = o ∧ xtgt tb pc o t = true ∧ kt t) ∨ (Op.lookupswitch.offset ps d x.toInt = d ∧ kd)
  | [], [], _, _, h => Or.inr ⟨by simp [Op.lookupswitch.offset], h⟩
  | [], _ :: _, h, _, _ => by simp [xtgts] at h
  | (a, o) :: ps, [], h, _, _ => by simp [xtgts] at h
  | (a, o) :: ps, t :: ts, hg, hk, h => by
    simp only [List.map_cons, xtgts, Bool.and_eq_true] at hg
    simp only [xkeys, Bool.and_eq_true, decide_eq_true_eq] at hk
    by_cases hx : x = Int32.ofInt a
    · refine Or.inl ⟨o, t, ?_, hg.1, h.1 hx⟩
      rw [xofI hx hk.1.1 hk.1.2]
      simp [Op.lookupswitch.offset]
    · have hne : ¬ x = Int32.ofInt a := hx
      have hka : (Int32.ofInt a).toInt = a := xofI rfl hk.1.1 hk.1.2
      rw [lv_osw hne hka]
      exact xlsw_ex ps ts hg.2 hk.2 (h.2 hx)
-- cells
theorem xfld_ex {q : xI} {ci k : Nat} {fi : Prop} {fr : xI → Prop} (h : xfld q ci k fi fr) : ∃ fs, xobj q = some (ci, fs) ∧ ((fs[k]? = some none ∧ fi) ∨ ∃ r, fs[k]? = some (some r) ∧ fr r) := by
  unfold xfld at h
  split at h
  · rename_i ci' fs e
    cases hb : Nat.beq ci' ci with
    | false => rw [hb] at h; exact h.elim
    | true =>
      rw [hb] at h
      refine ⟨fs, by rw [e, Nat.eq_of_beq_eq_true hb], ?_⟩
      simp only at h
      split at h
      · exact Or.inl ⟨by assumption, h⟩
      · rename_i r e2
        exact Or.inr ⟨r, e2, h⟩
      · exact h.elim
  · exact h.elim
theorem xcell_obj {ad : xI → Nat} {cA : Nat → ClassId} {μ : xM} {q : xI} {ci : Nat} {fs : List (Option xI)} (h : xobj q = some (ci, fs)) : xcell ad cA μ q = .inr (ci, xfs ad (μ q) 0 fs) := by
  unfold xcell
  rw [h]
theorem xarr_obj {q : xI} {t n : Nat} (h : xarr q = some (t, n)) : xobj q = none := by
  unfold xarr at h
  split at h
  · rfl
  · rfl
  · rfl
  · cases h
theorem xcell_arr {ad : xI → Nat} {cA : Nat → ClassId} {μ : xM} {q : xI} {t n : Nat} (h : xarr q = some (t, n)) : xcell ad cA μ q = .inl (cA t, n, .inl (μ q)) := by
  unfold xcell
  rw [xarr_obj h]
  simp only [h]
theorem xst_self (μ : xM) (q : xI) (k : Nat) (v : Int32) : xst μ q k v q = upd (μ q) k v := by simp [xst]
theorem xst_ne (μ : xM) {p q : xI} (k : Nat) (v : Int32) (h : p ≠ q) : xst μ q k v p = μ p := by simp [xst, h]
theorem xwld_put {ad : xI → Nat} {cA : Nat → ClassId} {μ : xM} {n : Nat} {q : xI} {ci k : Nat} {fs : List (Option xI)} {x : Int32} (hn : xids[n]? = some q) (h : xobj q = some (ci, fs)) (hk : fs[k]? = some none) : (xwld ad cA μ).set n (ad q, .inr (ci, (xfs ad (μ q) 0 fs).set k (.int x))) = xwld ad cA (xst μ q k x) := by
  have e : (.inr (ci, (xfs ad (μ q) 0 fs).set k (.int x)) : va_E) = xcell ad cA (xst μ q k x) q := by
    rw [xcell_obj h, xst_self, xfs_set fs 0 k hk, Nat.zero_add]
  rw [e]
  exact xwld_set hn (fun p hp => (xst_ne μ k x hp).symm)
theorem xwld_arr {ad : xI → Nat} {cA : Nat → ClassId} {μ : xM} {n : Nat} {q : xI} {t z k : Nat} {x : Int32} (hn : xids[n]? = some q) (h : xarr q = some (t, z)) : (xwld ad cA μ).set n (ad q, .inl (cA t, z, .inl (upd (μ q) k x))) = xwld ad cA (xst μ q k x) := by
  have e : (.inl (cA t, z, .inl (upd (μ q) k x)) : va_E) = xcell ad cA (xst μ q k x) q := by
    rw [xcell_arr h, xst_self]
  rw [e]
  exact xwld_set hn (fun p hp => (xst_ne μ k x hp).symm)
theorem xwld_cpy {ad : xI → Nat} {cA : Nat → ClassId} {μ : xM} {n : Nat} {a q : xI} {t z sp dp k : Nat} (hn : xids[n]? = some q) (h : xarr q = some (t, z)) : (xwld ad cA μ).set n (ad q, .inl (cA t, z, .inl (va_cpy (μ a) (μ q) sp dp k))) = xwld ad cA (xcp μ a q sp dp k) := by
  have e : (.inl (cA t, z, .inl (va_cpy (μ a) (μ q) sp dp k)) : va_E) = xcell ad cA (xcp μ a q sp dp k) q := by
    rw [xcell_arr h]
    simp [xcp]
  rw [e]
  exact xwld_set hn (fun p hp => by simp [xcp, hp])
theorem xal_ex {ad : xI → Nat} {cA : Nat → ClassId} {μ : xM} {q : xI} {f : Nat → Prop} (h : xal q f) : ∃ (t : Nat) (ty : FieldType) (x : vp_A), xcell ad cA μ q = .inl (cA t, x) ∧ (xtys cA)[t]? = some (cA t, ty) ∧ f x.1 := by
  unfold xal at h
  split at h
  · rename_i t n e
    have ht : t < 3 := by
      unfold xarr at e
      split at e <;> cases e <;> omega
    refine ⟨t, if t = 0 then .int else if t = 1 then .boolean else .char, (n, .inl (μ q)), xcell_arr e, ?_, h⟩
    rcases (show t = 0 ∨ t = 1 ∨ t = 2 by omega) with rfl | rfl | rfl <;> rfl
  · split at h
    · exact ⟨3, .object "BoxedProofs$State", (5, _), rfl, rfl, h⟩
    · exact h.elim
theorem xret_ex {ad : xI → Nat} {rt : Option FieldType} {rest : List xV} {k : List xV → xM → Prop} {r : Option xV} {μ' : xM} (h : xret rt rest k r μ') : ∃ st', k st' μ' ∧ (r.map (xrv ad)).toList ++ rest.map (xrv ad) = st'.map (xrv ad) ∧ (xoks rest → (∀ v, r = some v → xvok v) → xoks st') := by
  unfold xret at h
  split at h
  · rcases r with _ | v
    · exact ⟨rest, h, rfl, fun a _ => a⟩
    · exact (show False from h).elim
  · rcases r with _ | x | x | _ | q <;> first | exact (show False from h).elim | exact ⟨_, h, rfl, fun a b => ⟨b _ rfl, a⟩⟩
  · rcases r with _ | x | x | _ | q <;> first | exact (show False from h).elim | exact ⟨_, h, rfl, fun a b => ⟨b _ rfl, a⟩⟩
  · rcases r with _ | x | x | _ | q <;> first | exact (show False from h).elim | exact ⟨_, h, rfl, fun a b => ⟨b _ rfl, a⟩⟩
end
section
set_option maxHeartbeats 1000000 in
theorem xso_iload_n {G : xG} {E : xE} {d : Nat} {Q : xP} {pc len : Nat} {tg : List Nat} {cst : xV} {r : List xT} {lv st : List xV} {μ : xM} {k : xK} {p : Program} {e : Env} {s : State} {m : MethodId} {args : Array Value} {below : List Frame} {meth : Method} {c : Code} (n : Fin 4) (hE : xEok E)
    (kN : ∀ lv st μ, k r lv st μ → WS G E (d + 1) (p, e, s, m, args, below, meth, c) Q (pc + len) lv st μ)
    (kJ : ∀ t e' r', E.2.2.1.drop t = e' :: r' → ∀ lv st μ, k (E.2.2.1.drop t) lv st μ → WS G E (d + 1) (p, e, s, m, args, below, meth, c) Q e'.1 lv st μ)
    (hdec : decode E.2.1.2.1 pc = .ok ((.iload_n n), len)) (hch : xchk E (pc, (.iload_n n), len, tg, cst) = true)
    (h : xstep (MW G d) E Q (pc, (.iload_n n), len, tg, cst) r lv st μ k) : WS G E (d + 1) (p, e, s, m, args, below, meth, c) Q pc lv st μ := by
  intro hG hC H locs ls hP hS hl hlo hso
  obtain ⟨hx, hb, hr, hml, hown, hts, hK, hlocks⟩ := id hC
  have hD := xD_wld hG μ
  have htw : ∀ w, xin w → w.before args s = true := fun w hw => hts w (List.mem_cons_of_mem _ (xin_gw hw))
  simp only [xchk, decide_eq_true_eq] at hch
  obtain ⟨hlen, hi⟩ := hch
  subst hlen
  
  obtain ⟨x, ex, h⟩ := xgI_ex (show xgI lv _ _ from h)
  have h2 := hl.2.2 _ (show xnth lv (xt0 tg) ≠ vN by rw [ex]; intro z; cases z)
  have hq := hlo (xt0 tg)
  rw [ex] at h2 hq
  exact lv_iload_n hx hb hdec hi h2 (kN _ _ _ h hG hC H locs ls hP hS hl hlo ⟨trivial, hso⟩)
set_option maxHeartbeats 1000000 in
theorem xso_iload {G : xG} {E : xE} {d : Nat} {Q : xP} {pc len : Nat} {tg : List Nat} {cst : xV} {r : List xT} {lv st : List xV} {μ : xM} {k : xK} {p : Program} {e : Env} {s : State} {m : MethodId} {args : Array Value} {below : List Frame} {meth : Method} {c : Code} (n : Nat) (hE : xEok E)
    (kN : ∀ lv st μ, k r lv st μ → WS G E (d + 1) (p, e, s, m, args, below, meth, c) Q (pc + len) lv st μ)
    (kJ : ∀ t e' r', E.2.2.1.drop t = e' :: r' → ∀ lv st μ, k (E.2.2.1.drop t) lv st μ → WS G E (d + 1) (p, e, s, m, args, below, meth, c) Q e'.1 lv st μ)
    (hdec : decode E.2.1.2.1 pc = .ok ((.iload n), len)) (hch : xchk E (pc, (.iload n), len, tg, cst) = true)
    (h : xstep (MW G d) E Q (pc, (.iload n), len, tg, cst) r lv st μ k) : WS G E (d + 1) (p, e, s, m, args, below, meth, c) Q pc lv st μ := by
  intro hG hC H locs ls hP hS hl hlo hso
  obtain ⟨hx, hb, hr, hml, hown, hts, hK, hlocks⟩ := id hC
  have hD := xD_wld hG μ
  have htw : ∀ w, xin w → w.before args s = true := fun w hw => hts w (List.mem_cons_of_mem _ (xin_gw hw))
  simp only [xchk, decide_eq_true_eq] at hch
  obtain ⟨hlen, hi⟩ := hch
  subst hlen
  subst hi
  obtain ⟨x, ex, h⟩ := xgI_ex (show xgI lv _ _ from h)
  have h2 := hl.2.2 _ (show xnth lv (xt0 tg) ≠ vN by rw [ex]; intro z; cases z)
  have hq := hlo (xt0 tg)
  rw [ex] at h2 hq
  exact lv_iload hx hb hdec h2 (kN _ _ _ h hG hC H locs ls hP hS hl hlo ⟨trivial, hso⟩)
set_option maxHeartbeats 1000000 in
theorem xso_lload_n {G : xG} {E : xE} {d : Nat} {Q : xP} {pc len : Nat} {tg : List Nat} {cst : xV} {r : List xT} {lv st : List xV} {μ : xM} {k : xK} {p : Program} {e : Env} {s : State} {m : MethodId} {args : Array Value} {below : List Frame} {meth : Method} {c : Code} (n : Fin 4) (hE : xEok E)
    (kN : ∀ lv st μ, k r lv st μ → WS G E (d + 1) (p, e, s, m, args, below, meth, c) Q (pc + len) lv st μ)
    (kJ : ∀ t e' r', E.2.2.1.drop t = e' :: r' → ∀ lv st μ, k (E.2.2.1.drop t) lv st μ → WS G E (d + 1) (p, e, s, m, args, below, meth, c) Q e'.1 lv st μ)
    (hdec : decode E.2.1.2.1 pc = .ok ((.lload_n n), len)) (hch : xchk E (pc, (.lload_n n), len, tg, cst) = true)
    (h : xstep (MW G d) E Q (pc, (.lload_n n), len, tg, cst) r lv st μ k) : WS G E (d + 1) (p, e, s, m, args, below, meth, c) Q pc lv st μ := by
  intro hG hC H locs ls hP hS hl hlo hso
  obtain ⟨hx, hb, hr, hml, hown, hts, hK, hlocks⟩ := id hC
  have hD := xD_wld hG μ
  have htw : ∀ w, xin w → w.before args s = true := fun w hw => hts w (List.mem_cons_of_mem _ (xin_gw hw))
  simp only [xchk, decide_eq_true_eq] at hch
  obtain ⟨hlen, hi⟩ := hch
  subst hlen
  
  obtain ⟨x, ex, h⟩ := xgL_ex (show xgL lv _ _ from h)
  have h2 := hl.2.2 _ (show xnth lv (xt0 tg) ≠ vN by rw [ex]; intro z; cases z)
  have hq := hlo (xt0 tg)
  rw [ex] at h2 hq
  exact lv_lload_n hx hb hdec hi h2 (kN _ _ _ h hG hC H locs ls hP hS hl hlo ⟨trivial, hso⟩)
set_option maxHeartbeats 1000000 in
theorem xso_lload {G : xG} {E : xE} {d : Nat} {Q : xP} {pc len : Nat} {tg : List Nat} {cst : xV} {r : List xT} {lv st : List xV} {μ : xM} {k : xK} {p : Program} {e : Env} {s : State} {m : MethodId} {args : Array Value} {below : List Frame} {meth : Method} {c : Code} (n : Nat) (hE : xEok E)
    (kN : ∀ lv st μ, k r lv st μ → WS G E (d + 1) (p, e, s, m, args, below, meth, c) Q (pc + len) lv st μ)
    (kJ : ∀ t e' r', E.2.2.1.drop t = e' :: r' → ∀ lv st μ, k (E.2.2.1.drop t) lv st μ → WS G E (d + 1) (p, e, s, m, args, below, meth, c) Q e'.1 lv st μ)
    (hdec : decode E.2.1.2.1 pc = .ok ((.lload n), len)) (hch : xchk E (pc, (.lload n), len, tg, cst) = true)
    (h : xstep (MW G d) E Q (pc, (.lload n), len, tg, cst) r lv st μ k) : WS G E (d + 1) (p, e, s, m, args, below, meth, c) Q pc lv st μ := by
  intro hG hC H locs ls hP hS hl hlo hso
  obtain ⟨hx, hb, hr, hml, hown, hts, hK, hlocks⟩ := id hC
  have hD := xD_wld hG μ
  have htw : ∀ w, xin w → w.before args s = true := fun w hw => hts w (List.mem_cons_of_mem _ (xin_gw hw))
  simp only [xchk, decide_eq_true_eq] at hch
  obtain ⟨hlen, hi⟩ := hch
  subst hlen
  subst hi
  obtain ⟨x, ex, h⟩ := xgL_ex (show xgL lv _ _ from h)
  have h2 := hl.2.2 _ (show xnth lv (xt0 tg) ≠ vN by rw [ex]; intro z; cases z)
  have hq := hlo (xt0 tg)
  rw [ex] at h2 hq
  exact lv_lload hx hb hdec h2 (kN _ _ _ h hG hC H locs ls hP hS hl hlo ⟨trivial, hso⟩)
set_option maxHeartbeats 1000000 in
theorem xso_aload_n {G : xG} {E : xE} {d : Nat} {Q : xP} {pc len : Nat} {tg : List Nat} {cst : xV} {r : List xT} {lv st : List xV} {μ : xM} {k : xK} {p : Program} {e : Env} {s : State} {m : MethodId} {args : Array Value} {below : List Frame} {meth : Method} {c : Code} (n : Fin 4) (hE : xEok E)
    (kN : ∀ lv st μ, k r lv st μ → WS G E (d + 1) (p, e, s, m, args, below, meth, c) Q (pc + len) lv st μ)
    (kJ : ∀ t e' r', E.2.2.1.drop t = e' :: r' → ∀ lv st μ, k (E.2.2.1.drop t) lv st μ → WS G E (d + 1) (p, e, s, m, args, below, meth, c) Q e'.1 lv st μ)
    (hdec : decode E.2.1.2.1 pc = .ok ((.aload_n n), len)) (hch : xchk E (pc, (.aload_n n), len, tg, cst) = true)
    (h : xstep (MW G d) E Q (pc, (.aload_n n), len, tg, cst) r lv st μ k) : WS G E (d + 1) (p, e, s, m, args, below, meth, c) Q pc lv st μ := by
  intro hG hC H locs ls hP hS hl hlo hso
  obtain ⟨hx, hb, hr, hml, hown, hts, hK, hlocks⟩ := id hC
  have hD := xD_wld hG μ
  have htw : ∀ w, xin w → w.before args s = true := fun w hw => hts w (List.mem_cons_of_mem _ (xin_gw hw))
  simp only [xchk, decide_eq_true_eq] at hch
  obtain ⟨hlen, hi⟩ := hch
  subst hlen
  
  obtain ⟨x, ex, h⟩ := xgR_ex (show xgR lv _ _ from h)
  have h2 := hl.2.2 _ (show xnth lv (xt0 tg) ≠ vN by rw [ex]; intro z; cases z)
  have hq := hlo (xt0 tg)
  rw [ex] at h2 hq
  exact lv_aload_n hx hb hdec hi h2 (kN _ _ _ h hG hC H locs ls hP hS hl hlo ⟨hq, hso⟩)
set_option maxHeartbeats 1000000 in
theorem xso_aload {G : xG} {E : xE} {d : Nat} {Q : xP} {pc len : Nat} {tg : List Nat} {cst : xV} {r : List xT} {lv st : List xV} {μ : xM} {k : xK} {p : Program} {e : Env} {s : State} {m : MethodId} {args : Array Value} {below : List Frame} {meth : Method} {c : Code} (n : Nat) (hE : xEok E)
    (kN : ∀ lv st μ, k r lv st μ → WS G E (d + 1) (p, e, s, m, args, below, meth, c) Q (pc + len) lv st μ)
    (kJ : ∀ t e' r', E.2.2.1.drop t = e' :: r' → ∀ lv st μ, k (E.2.2.1.drop t) lv st μ → WS G E (d + 1) (p, e, s, m, args, below, meth, c) Q e'.1 lv st μ)
    (hdec : decode E.2.1.2.1 pc = .ok ((.aload n), len)) (hch : xchk E (pc, (.aload n), len, tg, cst) = true)
    (h : xstep (MW G d) E Q (pc, (.aload n), len, tg, cst) r lv st μ k) : WS G E (d + 1) (p, e, s, m, args, below, meth, c) Q pc lv st μ := by
  intro hG hC H locs ls hP hS hl hlo hso
  obtain ⟨hx, hb, hr, hml, hown, hts, hK, hlocks⟩ := id hC
  have hD := xD_wld hG μ
  have htw : ∀ w, xin w → w.before args s = true := fun w hw => hts w (List.mem_cons_of_mem _ (xin_gw hw))
  simp only [xchk, decide_eq_true_eq] at hch
  obtain ⟨hlen, hi⟩ := hch
  subst hlen
  subst hi
  obtain ⟨x, ex, h⟩ := xgR_ex (show xgR lv _ _ from h)
  have h2 := hl.2.2 _ (show xnth lv (xt0 tg) ≠ vN by rw [ex]; intro z; cases z)
  have hq := hlo (xt0 tg)
  rw [ex] at h2 hq
  exact lv_aload hx hb hdec h2 (kN _ _ _ h hG hC H locs ls hP hS hl hlo ⟨hq, hso⟩)
set_option maxHeartbeats 1000000 in
theorem xso_istore_n {G : xG} {E : xE} {d : Nat} {Q : xP} {pc len : Nat} {tg : List Nat} {cst : xV} {r : List xT} {lv st : List xV} {μ : xM} {k : xK} {p : Program} {e : Env} {s : State} {m : MethodId} {args : Array Value} {below : List Frame} {meth : Method} {c : Code} (n : Fin 4) (hE : xEok E)
    (kN : ∀ lv st μ, k r lv st μ → WS G E (d + 1) (p, e, s, m, args, below, meth, c) Q (pc + len) lv st μ)
    (kJ : ∀ t e' r', E.2.2.1.drop t = e' :: r' → ∀ lv st μ, k (E.2.2.1.drop t) lv st μ → WS G E (d + 1) (p, e, s, m, args, below, meth, c) Q e'.1 lv st μ)
    (hdec : decode E.2.1.2.1 pc = .ok ((.istore_n n), len)) (hch : xchk E (pc, (.istore_n n), len, tg, cst) = true)
    (h : xstep (MW G d) E Q (pc, (.istore_n n), len, tg, cst) r lv st μ k) : WS G E (d + 1) (p, e, s, m, args, below, meth, c) Q pc lv st μ := by
  intro hG hC H locs ls hP hS hl hlo hso
  obtain ⟨hx, hb, hr, hml, hown, hts, hK, hlocks⟩ := id hC
  have hD := xD_wld hG μ
  have htw : ∀ w, xin w → w.before args s = true := fun w hw => hts w (List.mem_cons_of_mem _ (xin_gw hw))
  simp only [xchk, decide_eq_true_eq] at hch
  obtain ⟨hlen, hi, hlt⟩ := hch
  subst hlen
  
  obtain ⟨x, s1, rfl, hh⟩ := xpI_ex (show xpI st _ from h)
  clear h
  have h := hh
  clear hh
  exact xw_istore_n hx hb hl hlt hdec hi (fun ls' hl' => kN _ _ _ h hG hC H locs ls' hP hS hl' (xlok_set (xlok_clr hlo _) _ trivial) hso.2)
set_option maxHeartbeats 1000000 in
theorem xso_istore {G : xG} {E : xE} {d : Nat} {Q : xP} {pc len : Nat} {tg : List Nat} {cst : xV} {r : List xT} {lv st : List xV} {μ : xM} {k : xK} {p : Program} {e : Env} {s : State} {m : MethodId} {args : Array Value} {below : List Frame} {meth : Method} {c : Code} (n : Nat) (hE : xEok E)
    (kN : ∀ lv st μ, k r lv st μ → WS G E (d + 1) (p, e, s, m, args, below, meth, c) Q (pc + len) lv st μ)
    (kJ : ∀ t e' r', E.2.2.1.drop t = e' :: r' → ∀ lv st μ, k (E.2.2.1.drop t) lv st μ → WS G E (d + 1) (p, e, s, m, args, below, meth, c) Q e'.1 lv st μ)
    (hdec : decode E.2.1.2.1 pc = .ok ((.istore n), len)) (hch : xchk E (pc, (.istore n), len, tg, cst) = true)
    (h : xstep (MW G d) E Q (pc, (.istore n), len, tg, cst) r lv st μ k) : WS G E (d + 1) (p, e, s, m, args, below, meth, c) Q pc lv st μ := by
  intro hG hC H locs ls hP hS hl hlo hso
  obtain ⟨hx, hb, hr, hml, hown, hts, hK, hlocks⟩ := id hC
  have hD := xD_wld hG μ
  have htw : ∀ w, xin w → w.before args s = true := fun w hw => hts w (List.mem_cons_of_mem _ (xin_gw hw))
  simp only [xchk, decide_eq_true_eq] at hch
  obtain ⟨hlen, hi, hlt⟩ := hch
  subst hlen
  subst hi
  obtain ⟨x, s1, rfl, hh⟩ := xpI_ex (show xpI st _ from h)
  clear h
  have h := hh
  clear hh
  exact xw_istore hx hb hl hlt hdec (fun ls' hl' => kN _ _ _ h hG hC H locs ls' hP hS hl' (xlok_set (xlok_clr hlo _) _ trivial) hso.2)
set_option maxHeartbeats 1000000 in
theorem xso_lstore_n {G : xG} {E : xE} {d : Nat} {Q : xP} {pc len : Nat} {tg : List Nat} {cst : xV} {r : List xT} {lv st : List xV} {μ : xM} {k : xK} {p : Program} {e : Env} {s : State} {m : MethodId} {args : Array Value} {below : List Frame} {meth : Method} {c : Code} (n : Fin 4) (hE : xEok E)
    (kN : ∀ lv st μ, k r lv st μ → WS G E (d + 1) (p, e, s, m, args, below, meth, c) Q (pc + len) lv st μ)
    (kJ : ∀ t e' r', E.2.2.1.drop t = e' :: r' → ∀ lv st μ, k (E.2.2.1.drop t) lv st μ → WS G E (d + 1) (p, e, s, m, args, below, meth, c) Q e'.1 lv st μ)
    (hdec : decode E.2.1.2.1 pc = .ok ((.lstore_n n), len)) (hch : xchk E (pc, (.lstore_n n), len, tg, cst) = true)
    (h : xstep (MW G d) E Q (pc, (.lstore_n n), len, tg, cst) r lv st μ k) : WS G E (d + 1) (p, e, s, m, args, below, meth, c) Q pc lv st μ := by
  intro hG hC H locs ls hP hS hl hlo hso
  obtain ⟨hx, hb, hr, hml, hown, hts, hK, hlocks⟩ := id hC
  have hD := xD_wld hG μ
  have htw : ∀ w, xin w → w.before args s = true := fun w hw => hts w (List.mem_cons_of_mem _ (xin_gw hw))
  simp only [xchk, decide_eq_true_eq] at hch
  obtain ⟨hlen, hi, hlt⟩ := hch
  subst hlen
  
  obtain ⟨x, s1, rfl, hh⟩ := xpL_ex (show xpL st _ from h)
  clear h
  have h := hh
  clear hh
  exact xw_lstore_n hx hb hl hlt hdec hi (fun ls' hl' => kN _ _ _ h hG hC H locs ls' hP hS hl' (xlok_set (xlok_set (xlok_clr hlo _) _ (v := vN) trivial) _ trivial) hso.2)
set_option maxHeartbeats 1000000 in
theorem xso_lstore {G : xG} {E : xE} {d : Nat} {Q : xP} {pc len : Nat} {tg : List Nat} {cst : xV} {r : List xT} {lv st : List xV} {μ : xM} {k : xK} {p : Program} {e : Env} {s : State} {m : MethodId} {args : Array Value} {below : List Frame} {meth : Method} {c : Code} (n : Nat) (hE : xEok E)
    (kN : ∀ lv st μ, k r lv st μ → WS G E (d + 1) (p, e, s, m, args, below, meth, c) Q (pc + len) lv st μ)
    (kJ : ∀ t e' r', E.2.2.1.drop t = e' :: r' → ∀ lv st μ, k (E.2.2.1.drop t) lv st μ → WS G E (d + 1) (p, e, s, m, args, below, meth, c) Q e'.1 lv st μ)
    (hdec : decode E.2.1.2.1 pc = .ok ((.lstore n), len)) (hch : xchk E (pc, (.lstore n), len, tg, cst) = true)
    (h : xstep (MW G d) E Q (pc, (.lstore n), len, tg, cst) r lv st μ k) : WS G E (d + 1) (p, e, s, m, args, below, meth, c) Q pc lv st μ := by
  intro hG hC H locs ls hP hS hl hlo hso
  obtain ⟨hx, hb, hr, hml, hown, hts, hK, hlocks⟩ := id hC
  have hD := xD_wld hG μ
  have htw : ∀ w, xin w → w.before args s = true := fun w hw => hts w (List.mem_cons_of_mem _ (xin_gw hw))
  simp only [xchk, decide_eq_true_eq] at hch
  obtain ⟨hlen, hi, hlt⟩ := hch
  subst hlen
  subst hi
  obtain ⟨x, s1, rfl, hh⟩ := xpL_ex (show xpL st _ from h)
  clear h
  have h := hh
  clear hh
  exact xw_lstore hx hb hl hlt hdec (fun ls' hl' => kN _ _ _ h hG hC H locs ls' hP hS hl' (xlok_set (xlok_set (xlok_clr hlo _) _ (v := vN) trivial) _ trivial) hso.2)
set_option maxHeartbeats 1000000 in
theorem xso_astore_n {G : xG} {E : xE} {d : Nat} {Q : xP} {pc len : Nat} {tg : List Nat} {cst : xV} {r : List xT} {lv st : List xV} {μ : xM} {k : xK} {p : Program} {e : Env} {s : State} {m : MethodId} {args : Array Value} {below : List Frame} {meth : Method} {c : Code} (n : Fin 4) (hE : xEok E)
    (kN : ∀ lv st μ, k r lv st μ → WS G E (d + 1) (p, e, s, m, args, below, meth, c) Q (pc + len) lv st μ)
    (kJ : ∀ t e' r', E.2.2.1.drop t = e' :: r' → ∀ lv st μ, k (E.2.2.1.drop t) lv st μ → WS G E (d + 1) (p, e, s, m, args, below, meth, c) Q e'.1 lv st μ)
    (hdec : decode E.2.1.2.1 pc = .ok ((.astore_n n), len)) (hch : xchk E (pc, (.astore_n n), len, tg, cst) = true)
    (h : xstep (MW G d) E Q (pc, (.astore_n n), len, tg, cst) r lv st μ k) : WS G E (d + 1) (p, e, s, m, args, below, meth, c) Q pc lv st μ := by
  intro hG hC H locs ls hP hS hl hlo hso
  obtain ⟨hx, hb, hr, hml, hown, hts, hK, hlocks⟩ := id hC
  have hD := xD_wld hG μ
  have htw : ∀ w, xin w → w.before args s = true := fun w hw => hts w (List.mem_cons_of_mem _ (xin_gw hw))
  simp only [xchk, decide_eq_true_eq] at hch
  obtain ⟨hlen, hi, hlt⟩ := hch
  subst hlen
  
  obtain ⟨x, s1, rfl, hh⟩ := xpR_ex (show xpR st _ from h)
  clear h
  have h := hh
  clear hh
  exact xw_astore_n hx hb hl hlt hdec hi (fun ls' hl' => kN _ _ _ h hG hC H locs ls' hP hS hl' (xlok_set (xlok_clr hlo _) _ hso.1) hso.2)
set_option maxHeartbeats 1000000 in
theorem xso_astore {G : xG} {E : xE} {d : Nat} {Q : xP} {pc len : Nat} {tg : List Nat} {cst : xV} {r : List xT} {lv st : List xV} {μ : xM} {k : xK} {p : Program} {e : Env} {s : State} {m : MethodId} {args : Array Value} {below : List Frame} {meth : Method} {c : Code} (n : Nat) (hE : xEok E)
    (kN : ∀ lv st μ, k r lv st μ → WS G E (d + 1) (p, e, s, m, args, below, meth, c) Q (pc + len) lv st μ)
    (kJ : ∀ t e' r', E.2.2.1.drop t = e' :: r' → ∀ lv st μ, k (E.2.2.1.drop t) lv st μ → WS G E (d + 1) (p, e, s, m, args, below, meth, c) Q e'.1 lv st μ)
    (hdec : decode E.2.1.2.1 pc = .ok ((.astore n), len)) (hch : xchk E (pc, (.astore n), len, tg, cst) = true)
    (h : xstep (MW G d) E Q (pc, (.astore n), len, tg, cst) r lv st μ k) : WS G E (d + 1) (p, e, s, m, args, below, meth, c) Q pc lv st μ := by
  intro hG hC H locs ls hP hS hl hlo hso
  obtain ⟨hx, hb, hr, hml, hown, hts, hK, hlocks⟩ := id hC
  have hD := xD_wld hG μ
  have htw : ∀ w, xin w → w.before args s = true := fun w hw => hts w (List.mem_cons_of_mem _ (xin_gw hw))
  simp only [xchk, decide_eq_true_eq] at hch
  obtain ⟨hlen, hi, hlt⟩ := hch
  subst hlen
  subst hi
  obtain ⟨x, s1, rfl, hh⟩ := xpR_ex (show xpR st _ from h)
  clear h
  have h := hh
  clear hh
  exact xw_astore hx hb hl hlt hdec (fun ls' hl' => kN _ _ _ h hG hC H locs ls' hP hS hl' (xlok_set (xlok_clr hlo _) _ hso.1) hso.2)
set_option maxHeartbeats 1000000 in
theorem xso_iconst {G : xG} {E : xE} {d : Nat} {Q : xP} {pc len : Nat} {tg : List Nat} {cst : xV} {r : List xT} {lv st : List xV} {μ : xM} {k : xK} {p : Program} {e : Env} {s : State} {m : MethodId} {args : Array Value} {below : List Frame} {meth : Method} {c : Code} (n : Int) (hE : xEok E)
    (kN : ∀ lv st μ, k r lv st μ → WS G E (d + 1) (p, e, s, m, args, below, meth, c) Q (pc + len) lv st μ)
    (kJ : ∀ t e' r', E.2.2.1.drop t = e' :: r' → ∀ lv st μ, k (E.2.2.1.drop t) lv st μ → WS G E (d + 1) (p, e, s, m, args, below, meth, c) Q e'.1 lv st μ)
    (hdec : decode E.2.1.2.1 pc = .ok ((.iconst n), len)) (hch : xchk E (pc, (.iconst n), len, tg, cst) = true)
    (h : xstep (MW G d) E Q (pc, (.iconst n), len, tg, cst) r lv st μ k) : WS G E (d + 1) (p, e, s, m, args, below, meth, c) Q pc lv st μ := by
  intro hG hC H locs ls hP hS hl hlo hso
  obtain ⟨hx, hb, hr, hml, hown, hts, hK, hlocks⟩ := id hC
  have hD := xD_wld hG μ
  have htw : ∀ w, xin w → w.before args s = true := fun w hw => hts w (List.mem_cons_of_mem _ (xin_gw hw))
  simp only [xchk, Bool.and_eq_true, decide_eq_true_eq] at hch
  obtain ⟨hlen, hc⟩ := hch
  subst hlen
  obtain ⟨x, rfl, hh⟩ := xcI_ex (show xcI cst _ from h)
  clear h
  have h := hh
  clear hh
  exact lv_iconst hx hb hdec (of_decide_eq_true (show decide (Int32.ofInt n = x) = true from hc)) (kN _ _ _ h hG hC H locs ls hP hS hl hlo ⟨trivial, hso⟩)
set_option maxHeartbeats 1000000 in
theorem xso_bipush {G : xG} {E : xE} {d : Nat} {Q : xP} {pc len : Nat} {tg : List Nat} {cst : xV} {r : List xT} {lv st : List xV} {μ : xM} {k : xK} {p : Program} {e : Env} {s : State} {m : MethodId} {args : Array Value} {below : List Frame} {meth : Method} {c : Code} (n : Int) (hE : xEok E)
    (kN : ∀ lv st μ, k r lv st μ → WS G E (d + 1) (p, e, s, m, args, below, meth, c) Q (pc + len) lv st μ)
    (kJ : ∀ t e' r', E.2.2.1.drop t = e' :: r' → ∀ lv st μ, k (E.2.2.1.drop t) lv st μ → WS G E (d + 1) (p, e, s, m, args, below, meth, c) Q e'.1 lv st μ)
    (hdec : decode E.2.1.2.1 pc = .ok ((.bipush n), len)) (hch : xchk E (pc, (.bipush n), len, tg, cst) = true)
    (h : xstep (MW G d) E Q (pc, (.bipush n), len, tg, cst) r lv st μ k) : WS G E (d + 1) (p, e, s, m, args, below, meth, c) Q pc lv st μ := by
  intro hG hC H locs ls hP hS hl hlo hso
  obtain ⟨hx, hb, hr, hml, hown, hts, hK, hlocks⟩ := id hC
  have hD := xD_wld hG μ
  have htw : ∀ w, xin w → w.before args s = true := fun w hw => hts w (List.mem_cons_of_mem _ (xin_gw hw))
  simp only [xchk, Bool.and_eq_true, decide_eq_true_eq] at hch
  obtain ⟨hlen, hc⟩ := hch
  subst hlen
  obtain ⟨x, rfl, hh⟩ := xcI_ex (show xcI cst _ from h)
  clear h
  have h := hh
  clear hh
  exact lv_bipush hx hb hdec (of_decide_eq_true (show decide ((Int8.ofInt n).toInt32 = x) = true from hc)) (kN _ _ _ h hG hC H locs ls hP hS hl hlo ⟨trivial, hso⟩)
set_option maxHeartbeats 1000000 in
theorem xso_sipush {G : xG} {E : xE} {d : Nat} {Q : xP} {pc len : Nat} {tg : List Nat} {cst : xV} {r : List xT} {lv st : List xV} {μ : xM} {k : xK} {p : Program} {e : Env} {s : State} {m : MethodId} {args : Array Value} {below : List Frame} {meth : Method} {c : Code} (n : Int) (hE : xEok E)
    (kN : ∀ lv st μ, k r lv st μ → WS G E (d + 1) (p, e, s, m, args, below, meth, c) Q (pc + len) lv st μ)
    (kJ : ∀ t e' r', E.2.2.1.drop t = e' :: r' → ∀ lv st μ, k (E.2.2.1.drop t) lv st μ → WS G E (d + 1) (p, e, s, m, args, below, meth, c) Q e'.1 lv st μ)
    (hdec : decode E.2.1.2.1 pc = .ok ((.sipush n), len)) (hch : xchk E (pc, (.sipush n), len, tg, cst) = true)
    (h : xstep (MW G d) E Q (pc, (.sipush n), len, tg, cst) r lv st μ k) : WS G E (d + 1) (p, e, s, m, args, below, meth, c) Q pc lv st μ := by
  intro hG hC H locs ls hP hS hl hlo hso
  obtain ⟨hx, hb, hr, hml, hown, hts, hK, hlocks⟩ := id hC
  have hD := xD_wld hG μ
  have htw : ∀ w, xin w → w.before args s = true := fun w hw => hts w (List.mem_cons_of_mem _ (xin_gw hw))
  simp only [xchk, Bool.and_eq_true, decide_eq_true_eq] at hch
  obtain ⟨hlen, hc⟩ := hch
  subst hlen
  obtain ⟨x, rfl, hh⟩ := xcI_ex (show xcI cst _ from h)
  clear h
  have h := hh
  clear hh
  exact lv_sipush hx hb hdec (of_decide_eq_true (show decide ((Int16.ofInt n).toInt32 = x) = true from hc)) (kN _ _ _ h hG hC H locs ls hP hS hl hlo ⟨trivial, hso⟩)
set_option maxHeartbeats 1000000 in
theorem xso_lconst {G : xG} {E : xE} {d : Nat} {Q : xP} {pc len : Nat} {tg : List Nat} {cst : xV} {r : List xT} {lv st : List xV} {μ : xM} {k : xK} {p : Program} {e : Env} {s : State} {m : MethodId} {args : Array Value} {below : List Frame} {meth : Method} {c : Code} (n : Fin 2) (hE : xEok E)
    (kN : ∀ lv st μ, k r lv st μ → WS G E (d + 1) (p, e, s, m, args, below, meth, c) Q (pc + len) lv st μ)
    (kJ : ∀ t e' r', E.2.2.1.drop t = e' :: r' → ∀ lv st μ, k (E.2.2.1.drop t) lv st μ → WS G E (d + 1) (p, e, s, m, args, below, meth, c) Q e'.1 lv st μ)
    (hdec : decode E.2.1.2.1 pc = .ok ((.lconst n), len)) (hch : xchk E (pc, (.lconst n), len, tg, cst) = true)
    (h : xstep (MW G d) E Q (pc, (.lconst n), len, tg, cst) r lv st μ k) : WS G E (d + 1) (p, e, s, m, args, below, meth, c) Q pc lv st μ := by
  intro hG hC H locs ls hP hS hl hlo hso
  obtain ⟨hx, hb, hr, hml, hown, hts, hK, hlocks⟩ := id hC
  have hD := xD_wld hG μ
  have htw : ∀ w, xin w → w.before args s = true := fun w hw => hts w (List.mem_cons_of_mem _ (xin_gw hw))
  simp only [xchk, Bool.and_eq_true, decide_eq_true_eq] at hch
  obtain ⟨hlen, hc⟩ := hch
  subst hlen
  obtain ⟨x, rfl, hh⟩ := xcL_ex (show xcL cst _ from h)
  clear h
  have h := hh
  clear hh
  exact lv_lconst hx hb hdec (of_decide_eq_true (show decide (Int64.ofNat n.val = x) = true from hc)) (kN _ _ _ h hG hC H locs ls hP hS hl hlo ⟨trivial, hso⟩)
set_option maxHeartbeats 1000000 in
theorem xso_ldc {G : xG} {E : xE} {d : Nat} {Q : xP} {pc len : Nat} {tg : List Nat} {cst : xV} {r : List xT} {lv st : List xV} {μ : xM} {k : xK} {p : Program} {e : Env} {s : State} {m : MethodId} {args : Array Value} {below : List Frame} {meth : Method} {c : Code} (n : Nat) (hE : xEok E)
    (kN : ∀ lv st μ, k r lv st μ → WS G E (d + 1) (p, e, s, m, args, below, meth, c) Q (pc + len) lv st μ)
    (kJ : ∀ t e' r', E.2.2.1.drop t = e' :: r' → ∀ lv st μ, k (E.2.2.1.drop t) lv st μ → WS G E (d + 1) (p, e, s, m, args, below, meth, c) Q e'.1 lv st μ)
    (hdec : decode E.2.1.2.1 pc = .ok ((.ldc n), len)) (hch : xchk E (pc, (.ldc n), len, tg, cst) = true)
    (h : xstep (MW G d) E Q (pc, (.ldc n), len, tg, cst) r lv st μ k) : WS G E (d + 1) (p, e, s, m, args, below, meth, c) Q pc lv st μ := by
  intro hG hC H locs ls hP hS hl hlo hso
  obtain ⟨hx, hb, hr, hml, hown, hts, hK, hlocks⟩ := id hC
  have hD := xD_wld hG μ
  have htw : ∀ w, xin w → w.before args s = true := fun w hw => hts w (List.mem_cons_of_mem _ (xin_gw hw))
  simp only [xchk, Bool.and_eq_true, decide_eq_true_eq] at hch
  obtain ⟨hlen, hc⟩ := hch
  subst hlen
  obtain ⟨q, hq, eq⟩ := List.any_eq_true.mp hc
  have eq := of_decide_eq_true eq
  obtain ⟨x, rfl, hh⟩ := xcI_ex (show xcI cst _ from h)
  clear h
  have h := hh
  clear hh
  have hF := hE.2.2.2.1.2.2.2.1 q hq
  subst eq
  exact lv_ldc hx hb hown (htw _ hF) hdec (kN _ _ _ h hG hC H locs ls hP hS hl hlo ⟨trivial, hso⟩)
set_option maxHeartbeats 1000000 in
theorem xso_ldc_w {G : xG} {E : xE} {d : Nat} {Q : xP} {pc len : Nat} {tg : List Nat} {cst : xV} {r : List xT} {lv st : List xV} {μ : xM} {k : xK} {p : Program} {e : Env} {s : State} {m : MethodId} {args : Array Value} {below : List Frame} {meth : Method} {c : Code} (n : Nat) (hE : xEok E)
    (kN : ∀ lv st μ, k r lv st μ → WS G E (d + 1) (p, e, s, m, args, below, meth, c) Q (pc + len) lv st μ)
    (kJ : ∀ t e' r', E.2.2.1.drop t = e' :: r' → ∀ lv st μ, k (E.2.2.1.drop t) lv st μ → WS G E (d + 1) (p, e, s, m, args, below, meth, c) Q e'.1 lv st μ)
    (hdec : decode E.2.1.2.1 pc = .ok ((.ldc_w n), len)) (hch : xchk E (pc, (.ldc_w n), len, tg, cst) = true)
    (h : xstep (MW G d) E Q (pc, (.ldc_w n), len, tg, cst) r lv st μ k) : WS G E (d + 1) (p, e, s, m, args, below, meth, c) Q pc lv st μ := by
  intro hG hC H locs ls hP hS hl hlo hso
  obtain ⟨hx, hb, hr, hml, hown, hts, hK, hlocks⟩ := id hC
  have hD := xD_wld hG μ
  have htw : ∀ w, xin w → w.before args s = true := fun w hw => hts w (List.mem_cons_of_mem _ (xin_gw hw))
  simp only [xchk, Bool.and_eq_true, decide_eq_true_eq] at hch
  obtain ⟨hlen, hc⟩ := hch
  subst hlen
  obtain ⟨q, hq, eq⟩ := List.any_eq_true.mp hc
  have eq := of_decide_eq_true eq
  obtain ⟨x, rfl, hh⟩ := xcI_ex (show xcI cst _ from h)
  clear h
  have h := hh
  clear hh
  have hF := hE.2.2.2.1.2.2.2.1 q hq
  subst eq
  exact lv_ldcw hx hb hown (htw _ hF) hdec (kN _ _ _ h hG hC H locs ls hP hS hl hlo ⟨trivial, hso⟩)
set_option maxHeartbeats 1000000 in
theorem xso_ldc2_w {G : xG} {E : xE} {d : Nat} {Q : xP} {pc len : Nat} {tg : List Nat} {cst : xV} {r : List xT} {lv st : List xV} {μ : xM} {k : xK} {p : Program} {e : Env} {s : State} {m : MethodId} {args : Array Value} {below : List Frame} {meth : Method} {c : Code} (n : Nat) (hE : xEok E)
    (kN : ∀ lv st μ, k r lv st μ → WS G E (d + 1) (p, e, s, m, args, below, meth, c) Q (pc + len) lv st μ)
    (kJ : ∀ t e' r', E.2.2.1.drop t = e' :: r' → ∀ lv st μ, k (E.2.2.1.drop t) lv st μ → WS G E (d + 1) (p, e, s, m, args, below, meth, c) Q e'.1 lv st μ)
    (hdec : decode E.2.1.2.1 pc = .ok ((.ldc2_w n), len)) (hch : xchk E (pc, (.ldc2_w n), len, tg, cst) = true)
    (h : xstep (MW G d) E Q (pc, (.ldc2_w n), len, tg, cst) r lv st μ k) : WS G E (d + 1) (p, e, s, m, args, below, meth, c) Q pc lv st μ := by
  intro hG hC H locs ls hP hS hl hlo hso
  obtain ⟨hx, hb, hr, hml, hown, hts, hK, hlocks⟩ := id hC
  have hD := xD_wld hG μ
  have htw : ∀ w, xin w → w.before args s = true := fun w hw => hts w (List.mem_cons_of_mem _ (xin_gw hw))
  simp only [xchk, Bool.and_eq_true, decide_eq_true_eq] at hch
  obtain ⟨hlen, hc⟩ := hch
  subst hlen
  obtain ⟨q, hq, eq⟩ := List.any_eq_true.mp hc
  have eq := of_decide_eq_true eq
  obtain ⟨x, rfl, hh⟩ := xcL_ex (show xcL cst _ from h)
  clear h
  have h := hh
  clear hh
  have hF := hE.2.2.2.1.2.2.2.1 q hq
  subst eq
  exact lv_ldc2 hx hb hown (htw _ hF) hdec (kN _ _ _ h hG hC H locs ls hP hS hl hlo ⟨trivial, hso⟩)
set_option maxHeartbeats 1000000 in
theorem xso_aconst_null {G : xG} {E : xE} {d : Nat} {Q : xP} {pc len : Nat} {tg : List Nat} {cst : xV} {r : List xT} {lv st : List xV} {μ : xM} {k : xK} {p : Program} {e : Env} {s : State} {m : MethodId} {args : Array Value} {below : List Frame} {meth : Method} {c : Code} (hE : xEok E)
    (kN : ∀ lv st μ, k r lv st μ → WS G E (d + 1) (p, e, s, m, args, below, meth, c) Q (pc + len) lv st μ)
    (kJ : ∀ t e' r', E.2.2.1.drop t = e' :: r' → ∀ lv st μ, k (E.2.2.1.drop t) lv st μ → WS G E (d + 1) (p, e, s, m, args, below, meth, c) Q e'.1 lv st μ)
    (hdec : decode E.2.1.2.1 pc = .ok ((.aconst_null), len)) (hch : xchk E (pc, (.aconst_null), len, tg, cst) = true)
    (h : xstep (MW G d) E Q (pc, (.aconst_null), len, tg, cst) r lv st μ k) : WS G E (d + 1) (p, e, s, m, args, below, meth, c) Q pc lv st μ := by
  intro hG hC H locs ls hP hS hl hlo hso
  obtain ⟨hx, hb, hr, hml, hown, hts, hK, hlocks⟩ := id hC
  have hD := xD_wld hG μ
  have htw : ∀ w, xin w → w.before args s = true := fun w hw => hts w (List.mem_cons_of_mem _ (xin_gw hw))
  simp only [xchk, decide_eq_true_eq] at hch
  subst hch
  exact lv_null hx hb hdec (kN _ _ _ h hG hC H locs ls hP hS hl hlo ⟨trivial, hso⟩)
set_option maxHeartbeats 1000000 in
theorem xso_iadd {G : xG} {E : xE} {d : Nat} {Q : xP} {pc len : Nat} {tg : List Nat} {cst : xV} {r : List xT} {lv st : List xV} {μ : xM} {k : xK} {p : Program} {e : Env} {s : State} {m : MethodId} {args : Array Value} {below : List Frame} {meth : Method} {c : Code} (hE : xEok E)
    (kN : ∀ lv st μ, k r lv st μ → WS G E (d + 1) (p, e, s, m, args, below, meth, c) Q (pc + len) lv st μ)
    (kJ : ∀ t e' r', E.2.2.1.drop t = e' :: r' → ∀ lv st μ, k (E.2.2.1.drop t) lv st μ → WS G E (d + 1) (p, e, s, m, args, below, meth, c) Q e'.1 lv st μ)
    (hdec : decode E.2.1.2.1 pc = .ok ((.iadd), len)) (hch : xchk E (pc, (.iadd), len, tg, cst) = true)
    (h : xstep (MW G d) E Q (pc, (.iadd), len, tg, cst) r lv st μ k) : WS G E (d + 1) (p, e, s, m, args, below, meth, c) Q pc lv st μ := by
  intro hG hC H locs ls hP hS hl hlo hso
  obtain ⟨hx, hb, hr, hml, hown, hts, hK, hlocks⟩ := id hC
  have hD := xD_wld hG μ
  have htw : ∀ w, xin w → w.before args s = true := fun w hw => hts w (List.mem_cons_of_mem _ (xin_gw hw))
  simp only [xchk, decide_eq_true_eq] at hch
  subst hch
  obtain ⟨y, s1, rfl, hh⟩ := xpI_ex (show xpI st _ from h)
  clear h
  have h := hh
  clear hh
  obtain ⟨x, s2, rfl, hh⟩ := xpI_ex h
  clear h
  have h := hh
  clear hh
  exact lv_iadd hx hb hdec (kN _ _ _ h hG hC H locs ls hP hS hl hlo ⟨trivial, hso.2.2⟩)
set_option maxHeartbeats 1000000 in
theorem xso_isub {G : xG} {E : xE} {d : Nat} {Q : xP} {pc len : Nat} {tg : List Nat} {cst : xV} {r : List xT} {lv st : List xV} {μ : xM} {k : xK} {p : Program} {e : Env} {s : State} {m : MethodId} {args : Array Value} {below : List Frame} {meth : Method} {c : Code} (hE : xEok E)
    (kN : ∀ lv st μ, k r lv st μ → WS G E (d + 1) (p, e, s, m, args, below, meth, c) Q (pc + len) lv st μ)
    (kJ : ∀ t e' r', E.2.2.1.drop t = e' :: r' → ∀ lv st μ, k (E.2.2.1.drop t) lv st μ → WS G E (d + 1) (p, e, s, m, args, below, meth, c) Q e'.1 lv st μ)
    (hdec : decode E.2.1.2.1 pc = .ok ((.isub), len)) (hch : xchk E (pc, (.isub), len, tg, cst) = true)
    (h : xstep (MW G d) E Q (pc, (.isub), len, tg, cst) r lv st μ k) : WS G E (d + 1) (p, e, s, m, args, below, meth, c) Q pc lv st μ := by
  intro hG hC H locs ls hP hS hl hlo hso
  obtain ⟨hx, hb, hr, hml, hown, hts, hK, hlocks⟩ := id hC
  have hD := xD_wld hG μ
  have htw : ∀ w, xin w → w.before args s = true := fun w hw => hts w (List.mem_cons_of_mem _ (xin_gw hw))
  simp only [xchk, decide_eq_true_eq] at hch
  subst hch
  obtain ⟨y, s1, rfl, hh⟩ := xpI_ex (show xpI st _ from h)
  clear h
  have h := hh
  clear hh
  obtain ⟨x, s2, rfl, hh⟩ := xpI_ex h
  clear h
  have h := hh
  clear hh
  exact lv_isub hx hb hdec (kN _ _ _ h hG hC H locs ls hP hS hl hlo ⟨trivial, hso.2.2⟩)
set_option maxHeartbeats 1000000 in
theorem xso_imul {G : xG} {E : xE} {d : Nat} {Q : xP} {pc len : Nat} {tg : List Nat} {cst : xV} {r : List xT} {lv st : List xV} {μ : xM} {k : xK} {p : Program} {e : Env} {s : State} {m : MethodId} {args : Array Value} {below : List Frame} {meth : Method} {c : Code} (hE : xEok E)
    (kN : ∀ lv st μ, k r lv st μ → WS G E (d + 1) (p, e, s, m, args, below, meth, c) Q (pc + len) lv st μ)
    (kJ : ∀ t e' r', E.2.2.1.drop t = e' :: r' → ∀ lv st μ, k (E.2.2.1.drop t) lv st μ → WS G E (d + 1) (p, e, s, m, args, below, meth, c) Q e'.1 lv st μ)
    (hdec : decode E.2.1.2.1 pc = .ok ((.imul), len)) (hch : xchk E (pc, (.imul), len, tg, cst) = true)
    (h : xstep (MW G d) E Q (pc, (.imul), len, tg, cst) r lv st μ k) : WS G E (d + 1) (p, e, s, m, args, below, meth, c) Q pc lv st μ := by
  intro hG hC H locs ls hP hS hl hlo hso
  obtain ⟨hx, hb, hr, hml, hown, hts, hK, hlocks⟩ := id hC
  have hD := xD_wld hG μ
  have htw : ∀ w, xin w → w.before args s = true := fun w hw => hts w (List.mem_cons_of_mem _ (xin_gw hw))
  simp only [xchk, decide_eq_true_eq] at hch
  subst hch
  obtain ⟨y, s1, rfl, hh⟩ := xpI_ex (show xpI st _ from h)
  clear h
  have h := hh
  clear hh
  obtain ⟨x, s2, rfl, hh⟩ := xpI_ex h
  clear h
  have h := hh
  clear hh
  exact lv_imul hx hb hdec (kN _ _ _ h hG hC H locs ls hP hS hl hlo ⟨trivial, hso.2.2⟩)
set_option maxHeartbeats 1000000 in
theorem xso_iand {G : xG} {E : xE} {d : Nat} {Q : xP} {pc len : Nat} {tg : List Nat} {cst : xV} {r : List xT} {lv st : List xV} {μ : xM} {k : xK} {p : Program} {e : Env} {s : State} {m : MethodId} {args : Array Value} {below : List Frame} {meth : Method} {c : Code} (hE : xEok E)
    (kN : ∀ lv st μ, k r lv st μ → WS G E (d + 1) (p, e, s, m, args, below, meth, c) Q (pc + len) lv st μ)
    (kJ : ∀ t e' r', E.2.2.1.drop t = e' :: r' → ∀ lv st μ, k (E.2.2.1.drop t) lv st μ → WS G E (d + 1) (p, e, s, m, args, below, meth, c) Q e'.1 lv st μ)
    (hdec : decode E.2.1.2.1 pc = .ok ((.iand), len)) (hch : xchk E (pc, (.iand), len, tg, cst) = true)
    (h : xstep (MW G d) E Q (pc, (.iand), len, tg, cst) r lv st μ k) : WS G E (d + 1) (p, e, s, m, args, below, meth, c) Q pc lv st μ := by
  intro hG hC H locs ls hP hS hl hlo hso
  obtain ⟨hx, hb, hr, hml, hown, hts, hK, hlocks⟩ := id hC
  have hD := xD_wld hG μ
  have htw : ∀ w, xin w → w.before args s = true := fun w hw => hts w (List.mem_cons_of_mem _ (xin_gw hw))
  simp only [xchk, decide_eq_true_eq] at hch
  subst hch
  obtain ⟨y, s1, rfl, hh⟩ := xpI_ex (show xpI st _ from h)
  clear h
  have h := hh
  clear hh
  obtain ⟨x, s2, rfl, hh⟩ := xpI_ex h
  clear h
  have h := hh
  clear hh
  exact lv_iand hx hb hdec (kN _ _ _ h hG hC H locs ls hP hS hl hlo ⟨trivial, hso.2.2⟩)
set_option maxHeartbeats 1000000 in
theorem xso_ior {G : xG} {E : xE} {d : Nat} {Q : xP} {pc len : Nat} {tg : List Nat} {cst : xV} {r : List xT} {lv st : List xV} {μ : xM} {k : xK} {p : Program} {e : Env} {s : State} {m : MethodId} {args : Array Value} {below : List Frame} {meth : Method} {c : Code} (hE : xEok E)
    (kN : ∀ lv st μ, k r lv st μ → WS G E (d + 1) (p, e, s, m, args, below, meth, c) Q (pc + len) lv st μ)
    (kJ : ∀ t e' r', E.2.2.1.drop t = e' :: r' → ∀ lv st μ, k (E.2.2.1.drop t) lv st μ → WS G E (d + 1) (p, e, s, m, args, below, meth, c) Q e'.1 lv st μ)
    (hdec : decode E.2.1.2.1 pc = .ok ((.ior), len)) (hch : xchk E (pc, (.ior), len, tg, cst) = true)
    (h : xstep (MW G d) E Q (pc, (.ior), len, tg, cst) r lv st μ k) : WS G E (d + 1) (p, e, s, m, args, below, meth, c) Q pc lv st μ := by
  intro hG hC H locs ls hP hS hl hlo hso
  obtain ⟨hx, hb, hr, hml, hown, hts, hK, hlocks⟩ := id hC
  have hD := xD_wld hG μ
  have htw : ∀ w, xin w → w.before args s = true := fun w hw => hts w (List.mem_cons_of_mem _ (xin_gw hw))
  simp only [xchk, decide_eq_true_eq] at hch
  subst hch
  obtain ⟨y, s1, rfl, hh⟩ := xpI_ex (show xpI st _ from h)
  clear h
  have h := hh
  clear hh
  obtain ⟨x, s2, rfl, hh⟩ := xpI_ex h
  clear h
  have h := hh
  clear hh
  exact lv_ior hx hb hdec (kN _ _ _ h hG hC H locs ls hP hS hl hlo ⟨trivial, hso.2.2⟩)
set_option maxHeartbeats 1000000 in
theorem xso_ixor {G : xG} {E : xE} {d : Nat} {Q : xP} {pc len : Nat} {tg : List Nat} {cst : xV} {r : List xT} {lv st : List xV} {μ : xM} {k : xK} {p : Program} {e : Env} {s : State} {m : MethodId} {args : Array Value} {below : List Frame} {meth : Method} {c : Code} (hE : xEok E)
    (kN : ∀ lv st μ, k r lv st μ → WS G E (d + 1) (p, e, s, m, args, below, meth, c) Q (pc + len) lv st μ)
    (kJ : ∀ t e' r', E.2.2.1.drop t = e' :: r' → ∀ lv st μ, k (E.2.2.1.drop t) lv st μ → WS G E (d + 1) (p, e, s, m, args, below, meth, c) Q e'.1 lv st μ)
    (hdec : decode E.2.1.2.1 pc = .ok ((.ixor), len)) (hch : xchk E (pc, (.ixor), len, tg, cst) = true)
    (h : xstep (MW G d) E Q (pc, (.ixor), len, tg, cst) r lv st μ k) : WS G E (d + 1) (p, e, s, m, args, below, meth, c) Q pc lv st μ := by
  intro hG hC H locs ls hP hS hl hlo hso
  obtain ⟨hx, hb, hr, hml, hown, hts, hK, hlocks⟩ := id hC
  have hD := xD_wld hG μ
  have htw : ∀ w, xin w → w.before args s = true := fun w hw => hts w (List.mem_cons_of_mem _ (xin_gw hw))
  simp only [xchk, decide_eq_true_eq] at hch
  subst hch
  obtain ⟨y, s1, rfl, hh⟩ := xpI_ex (show xpI st _ from h)
  clear h
  have h := hh
  clear hh
  obtain ⟨x, s2, rfl, hh⟩ := xpI_ex h
  clear h
  have h := hh
  clear hh
  exact lv_ixor hx hb hdec (kN _ _ _ h hG hC H locs ls hP hS hl hlo ⟨trivial, hso.2.2⟩)
set_option maxHeartbeats 1000000 in
theorem xso_ishl {G : xG} {E : xE} {d : Nat} {Q : xP} {pc len : Nat} {tg : List Nat} {cst : xV} {r : List xT} {lv st : List xV} {μ : xM} {k : xK} {p : Program} {e : Env} {s : State} {m : MethodId} {args : Array Value} {below : List Frame} {meth : Method} {c : Code} (hE : xEok E)
    (kN : ∀ lv st μ, k r lv st μ → WS G E (d + 1) (p, e, s, m, args, below, meth, c) Q (pc + len) lv st μ)
    (kJ : ∀ t e' r', E.2.2.1.drop t = e' :: r' → ∀ lv st μ, k (E.2.2.1.drop t) lv st μ → WS G E (d + 1) (p, e, s, m, args, below, meth, c) Q e'.1 lv st μ)
    (hdec : decode E.2.1.2.1 pc = .ok ((.ishl), len)) (hch : xchk E (pc, (.ishl), len, tg, cst) = true)
    (h : xstep (MW G d) E Q (pc, (.ishl), len, tg, cst) r lv st μ k) : WS G E (d + 1) (p, e, s, m, args, below, meth, c) Q pc lv st μ := by
  intro hG hC H locs ls hP hS hl hlo hso
  obtain ⟨hx, hb, hr, hml, hown, hts, hK, hlocks⟩ := id hC
  have hD := xD_wld hG μ
  have htw : ∀ w, xin w → w.before args s = true := fun w hw => hts w (List.mem_cons_of_mem _ (xin_gw hw))
  simp only [xchk, decide_eq_true_eq] at hch
  subst hch
  obtain ⟨y, s1, rfl, hh⟩ := xpI_ex (show xpI st _ from h)
  clear h
  have h := hh
  clear hh
  obtain ⟨x, s2, rfl, hh⟩ := xpI_ex h
  clear h
  have h := hh
  clear hh
  exact lv_ishl hx hb hdec (kN _ _ _ h hG hC H locs ls hP hS hl hlo ⟨trivial, hso.2.2⟩)
set_option maxHeartbeats 1000000 in
theorem xso_ishr {G : xG} {E : xE} {d : Nat} {Q : xP} {pc len : Nat} {tg : List Nat} {cst : xV} {r : List xT} {lv st : List xV} {μ : xM} {k : xK} {p : Program} {e : Env} {s : State} {m : MethodId} {args : Array Value} {below : List Frame} {meth : Method} {c : Code} (hE : xEok E)
    (kN : ∀ lv st μ, k r lv st μ → WS G E (d + 1) (p, e, s, m, args, below, meth, c) Q (pc + len) lv st μ)
    (kJ : ∀ t e' r', E.2.2.1.drop t = e' :: r' → ∀ lv st μ, k (E.2.2.1.drop t) lv st μ → WS G E (d + 1) (p, e, s, m, args, below, meth, c) Q e'.1 lv st μ)
    (hdec : decode E.2.1.2.1 pc = .ok ((.ishr), len)) (hch : xchk E (pc, (.ishr), len, tg, cst) = true)
    (h : xstep (MW G d) E Q (pc, (.ishr), len, tg, cst) r lv st μ k) : WS G E (d + 1) (p, e, s, m, args, below, meth, c) Q pc lv st μ := by
  intro hG hC H locs ls hP hS hl hlo hso
  obtain ⟨hx, hb, hr, hml, hown, hts, hK, hlocks⟩ := id hC
  have hD := xD_wld hG μ
  have htw : ∀ w, xin w → w.before args s = true := fun w hw => hts w (List.mem_cons_of_mem _ (xin_gw hw))
  simp only [xchk, decide_eq_true_eq] at hch
  subst hch
  obtain ⟨y, s1, rfl, hh⟩ := xpI_ex (show xpI st _ from h)
  clear h
  have h := hh
  clear hh
  obtain ⟨x, s2, rfl, hh⟩ := xpI_ex h
  clear h
  have h := hh
  clear hh
  exact lv_ishr hx hb hdec (kN _ _ _ h hG hC H locs ls hP hS hl hlo ⟨trivial, hso.2.2⟩)
set_option maxHeartbeats 1000000 in
theorem xso_iushr {G : xG} {E : xE} {d : Nat} {Q : xP} {pc len : Nat} {tg : List Nat} {cst : xV} {r : List xT} {lv st : List xV} {μ : xM} {k : xK} {p : Program} {e : Env} {s : State} {m : MethodId} {args : Array Value} {below : List Frame} {meth : Method} {c : Code} (hE : xEok E)
    (kN : ∀ lv st μ, k r lv st μ → WS G E (d + 1) (p, e, s, m, args, below, meth, c) Q (pc + len) lv st μ)
    (kJ : ∀ t e' r', E.2.2.1.drop t = e' :: r' → ∀ lv st μ, k (E.2.2.1.drop t) lv st μ → WS G E (d + 1) (p, e, s, m, args, below, meth, c) Q e'.1 lv st μ)
    (hdec : decode E.2.1.2.1 pc = .ok ((.iushr), len)) (hch : xchk E (pc, (.iushr), len, tg, cst) = true)
    (h : xstep (MW G d) E Q (pc, (.iushr), len, tg, cst) r lv st μ k) : WS G E (d + 1) (p, e, s, m, args, below, meth, c) Q pc lv st μ := by
  intro hG hC H locs ls hP hS hl hlo hso
  obtain ⟨hx, hb, hr, hml, hown, hts, hK, hlocks⟩ := id hC
  have hD := xD_wld hG μ
  have htw : ∀ w, xin w → w.before args s = true := fun w hw => hts w (List.mem_cons_of_mem _ (xin_gw hw))
  simp only [xchk, decide_eq_true_eq] at hch
  subst hch
  obtain ⟨y, s1, rfl, hh⟩ := xpI_ex (show xpI st _ from h)
  clear h
  have h := hh
  clear hh
  obtain ⟨x, s2, rfl, hh⟩ := xpI_ex h
  clear h
  have h := hh
  clear hh
  exact lv_iushr hx hb hdec rfl (kN _ _ _ h hG hC H locs ls hP hS hl hlo ⟨trivial, hso.2.2⟩)
set_option maxHeartbeats 1000000 in
theorem xso_idiv {G : xG} {E : xE} {d : Nat} {Q : xP} {pc len : Nat} {tg : List Nat} {cst : xV} {r : List xT} {lv st : List xV} {μ : xM} {k : xK} {p : Program} {e : Env} {s : State} {m : MethodId} {args : Array Value} {below : List Frame} {meth : Method} {c : Code} (hE : xEok E)
    (kN : ∀ lv st μ, k r lv st μ → WS G E (d + 1) (p, e, s, m, args, below, meth, c) Q (pc + len) lv st μ)
    (kJ : ∀ t e' r', E.2.2.1.drop t = e' :: r' → ∀ lv st μ, k (E.2.2.1.drop t) lv st μ → WS G E (d + 1) (p, e, s, m, args, below, meth, c) Q e'.1 lv st μ)
    (hdec : decode E.2.1.2.1 pc = .ok ((.idiv), len)) (hch : xchk E (pc, (.idiv), len, tg, cst) = true)
    (h : xstep (MW G d) E Q (pc, (.idiv), len, tg, cst) r lv st μ k) : WS G E (d + 1) (p, e, s, m, args, below, meth, c) Q pc lv st μ := by
  intro hG hC H locs ls hP hS hl hlo hso
  obtain ⟨hx, hb, hr, hml, hown, hts, hK, hlocks⟩ := id hC
  have hD := xD_wld hG μ
  have htw : ∀ w, xin w → w.before args s = true := fun w hw => hts w (List.mem_cons_of_mem _ (xin_gw hw))
  simp only [xchk, decide_eq_true_eq] at hch
  subst hch
  obtain ⟨y, s1, rfl, hh⟩ := xpI_ex (show xpI st _ from h)
  clear h
  have h := hh
  clear hh
  obtain ⟨x, s2, rfl, hh⟩ := xpI_ex h
  clear h
  have h := hh
  clear hh
  exact lv_idiv hx hb hdec h.1 (kN _ _ _ h.2 hG hC H locs ls hP hS hl hlo ⟨trivial, hso.2.2⟩)
set_option maxHeartbeats 1000000 in
theorem xso_irem {G : xG} {E : xE} {d : Nat} {Q : xP} {pc len : Nat} {tg : List Nat} {cst : xV} {r : List xT} {lv st : List xV} {μ : xM} {k : xK} {p : Program} {e : Env} {s : State} {m : MethodId} {args : Array Value} {below : List Frame} {meth : Method} {c : Code} (hE : xEok E)
    (kN : ∀ lv st μ, k r lv st μ → WS G E (d + 1) (p, e, s, m, args, below, meth, c) Q (pc + len) lv st μ)
    (kJ : ∀ t e' r', E.2.2.1.drop t = e' :: r' → ∀ lv st μ, k (E.2.2.1.drop t) lv st μ → WS G E (d + 1) (p, e, s, m, args, below, meth, c) Q e'.1 lv st μ)
    (hdec : decode E.2.1.2.1 pc = .ok ((.irem), len)) (hch : xchk E (pc, (.irem), len, tg, cst) = true)
    (h : xstep (MW G d) E Q (pc, (.irem), len, tg, cst) r lv st μ k) : WS G E (d + 1) (p, e, s, m, args, below, meth, c) Q pc lv st μ := by
  intro hG hC H locs ls hP hS hl hlo hso
  obtain ⟨hx, hb, hr, hml, hown, hts, hK, hlocks⟩ := id hC
  have hD := xD_wld hG μ
  have htw : ∀ w, xin w → w.before args s = true := fun w hw => hts w (List.mem_cons_of_mem _ (xin_gw hw))
  simp only [xchk, decide_eq_true_eq] at hch
  subst hch
  obtain ⟨y, s1, rfl, hh⟩ := xpI_ex (show xpI st _ from h)
  clear h
  have h := hh
  clear hh
  obtain ⟨x, s2, rfl, hh⟩ := xpI_ex h
  clear h
  have h := hh
  clear hh
  exact lv_irem hx hb hdec h.1 (kN _ _ _ h.2 hG hC H locs ls hP hS hl hlo ⟨trivial, hso.2.2⟩)
set_option maxHeartbeats 1000000 in
theorem xso_ladd {G : xG} {E : xE} {d : Nat} {Q : xP} {pc len : Nat} {tg : List Nat} {cst : xV} {r : List xT} {lv st : List xV} {μ : xM} {k : xK} {p : Program} {e : Env} {s : State} {m : MethodId} {args : Array Value} {below : List Frame} {meth : Method} {c : Code} (hE : xEok E)
    (kN : ∀ lv st μ, k r lv st μ → WS G E (d + 1) (p, e, s, m, args, below, meth, c) Q (pc + len) lv st μ)
    (kJ : ∀ t e' r', E.2.2.1.drop t = e' :: r' → ∀ lv st μ, k (E.2.2.1.drop t) lv st μ → WS G E (d + 1) (p, e, s, m, args, below, meth, c) Q e'.1 lv st μ)
    (hdec : decode E.2.1.2.1 pc = .ok ((.ladd), len)) (hch : xchk E (pc, (.ladd), len, tg, cst) = true)
    (h : xstep (MW G d) E Q (pc, (.ladd), len, tg, cst) r lv st μ k) : WS G E (d + 1) (p, e, s, m, args, below, meth, c) Q pc lv st μ := by
  intro hG hC H locs ls hP hS hl hlo hso
  obtain ⟨hx, hb, hr, hml, hown, hts, hK, hlocks⟩ := id hC
  have hD := xD_wld hG μ
  have htw : ∀ w, xin w → w.before args s = true := fun w hw => hts w (List.mem_cons_of_mem _ (xin_gw hw))
  simp only [xchk, decide_eq_true_eq] at hch
  subst hch
  obtain ⟨y, s1, rfl, hh⟩ := xpL_ex (show xpL st _ from h)
  clear h
  have h := hh
  clear hh
  obtain ⟨x, s2, rfl, hh⟩ := xpL_ex h
  clear h
  have h := hh
  clear hh
  exact lv_ladd hx hb hdec (kN _ _ _ h hG hC H locs ls hP hS hl hlo ⟨trivial, hso.2.2⟩)
set_option maxHeartbeats 1000000 in
theorem xso_lsub {G : xG} {E : xE} {d : Nat} {Q : xP} {pc len : Nat} {tg : List Nat} {cst : xV} {r : List xT} {lv st : List xV} {μ : xM} {k : xK} {p : Program} {e : Env} {s : State} {m : MethodId} {args : Array Value} {below : List Frame} {meth : Method} {c : Code} (hE : xEok E)
    (kN : ∀ lv st μ, k r lv st μ → WS G E (d + 1) (p, e, s, m, args, below, meth, c) Q (pc + len) lv st μ)
    (kJ : ∀ t e' r', E.2.2.1.drop t = e' :: r' → ∀ lv st μ, k (E.2.2.1.drop t) lv st μ → WS G E (d + 1) (p, e, s, m, args, below, meth, c) Q e'.1 lv st μ)
    (hdec : decode E.2.1.2.1 pc = .ok ((.lsub), len)) (hch : xchk E (pc, (.lsub), len, tg, cst) = true)
    (h : xstep (MW G d) E Q (pc, (.lsub), len, tg, cst) r lv st μ k) : WS G E (d + 1) (p, e, s, m, args, below, meth, c) Q pc lv st μ := by
  intro hG hC H locs ls hP hS hl hlo hso
  obtain ⟨hx, hb, hr, hml, hown, hts, hK, hlocks⟩ := id hC
  have hD := xD_wld hG μ
  have htw : ∀ w, xin w → w.before args s = true := fun w hw => hts w (List.mem_cons_of_mem _ (xin_gw hw))
  simp only [xchk, decide_eq_true_eq] at hch
  subst hch
  obtain ⟨y, s1, rfl, hh⟩ := xpL_ex (show xpL st _ from h)
  clear h
  have h := hh
  clear hh
  obtain ⟨x, s2, rfl, hh⟩ := xpL_ex h
  clear h
  have h := hh
  clear hh
  exact lv_lsub hx hb hdec (kN _ _ _ h hG hC H locs ls hP hS hl hlo ⟨trivial, hso.2.2⟩)
set_option maxHeartbeats 1000000 in
theorem xso_land {G : xG} {E : xE} {d : Nat} {Q : xP} {pc len : Nat} {tg : List Nat} {cst : xV} {r : List xT} {lv st : List xV} {μ : xM} {k : xK} {p : Program} {e : Env} {s : State} {m : MethodId} {args : Array Value} {below : List Frame} {meth : Method} {c : Code} (hE : xEok E)
    (kN : ∀ lv st μ, k r lv st μ → WS G E (d + 1) (p, e, s, m, args, below, meth, c) Q (pc + len) lv st μ)
    (kJ : ∀ t e' r', E.2.2.1.drop t = e' :: r' → ∀ lv st μ, k (E.2.2.1.drop t) lv st μ → WS G E (d + 1) (p, e, s, m, args, below, meth, c) Q e'.1 lv st μ)
    (hdec : decode E.2.1.2.1 pc = .ok ((.land), len)) (hch : xchk E (pc, (.land), len, tg, cst) = true)
    (h : xstep (MW G d) E Q (pc, (.land), len, tg, cst) r lv st μ k) : WS G E (d + 1) (p, e, s, m, args, below, meth, c) Q pc lv st μ := by
  intro hG hC H locs ls hP hS hl hlo hso
  obtain ⟨hx, hb, hr, hml, hown, hts, hK, hlocks⟩ := id hC
  have hD := xD_wld hG μ
  have htw : ∀ w, xin w → w.before args s = true := fun w hw => hts w (List.mem_cons_of_mem _ (xin_gw hw))
  simp only [xchk, decide_eq_true_eq] at hch
  subst hch
  obtain ⟨y, s1, rfl, hh⟩ := xpL_ex (show xpL st _ from h)
  clear h
  have h := hh
  clear hh
  obtain ⟨x, s2, rfl, hh⟩ := xpL_ex h
  clear h
  have h := hh
  clear hh
  exact lv_land hx hb hdec (kN _ _ _ h hG hC H locs ls hP hS hl hlo ⟨trivial, hso.2.2⟩)
set_option maxHeartbeats 1000000 in
theorem xso_lor {G : xG} {E : xE} {d : Nat} {Q : xP} {pc len : Nat} {tg : List Nat} {cst : xV} {r : List xT} {lv st : List xV} {μ : xM} {k : xK} {p : Program} {e : Env} {s : State} {m : MethodId} {args : Array Value} {below : List Frame} {meth : Method} {c : Code} (hE : xEok E)
    (kN : ∀ lv st μ, k r lv st μ → WS G E (d + 1) (p, e, s, m, args, below, meth, c) Q (pc + len) lv st μ)
    (kJ : ∀ t e' r', E.2.2.1.drop t = e' :: r' → ∀ lv st μ, k (E.2.2.1.drop t) lv st μ → WS G E (d + 1) (p, e, s, m, args, below, meth, c) Q e'.1 lv st μ)
    (hdec : decode E.2.1.2.1 pc = .ok ((.lor), len)) (hch : xchk E (pc, (.lor), len, tg, cst) = true)
    (h : xstep (MW G d) E Q (pc, (.lor), len, tg, cst) r lv st μ k) : WS G E (d + 1) (p, e, s, m, args, below, meth, c) Q pc lv st μ := by
  intro hG hC H locs ls hP hS hl hlo hso
  obtain ⟨hx, hb, hr, hml, hown, hts, hK, hlocks⟩ := id hC
  have hD := xD_wld hG μ
  have htw : ∀ w, xin w → w.before args s = true := fun w hw => hts w (List.mem_cons_of_mem _ (xin_gw hw))
  simp only [xchk, decide_eq_true_eq] at hch
  subst hch
  obtain ⟨y, s1, rfl, hh⟩ := xpL_ex (show xpL st _ from h)
  clear h
  have h := hh
  clear hh
  obtain ⟨x, s2, rfl, hh⟩ := xpL_ex h
  clear h
  have h := hh
  clear hh
  exact lv_lor hx hb hdec (kN _ _ _ h hG hC H locs ls hP hS hl hlo ⟨trivial, hso.2.2⟩)
set_option maxHeartbeats 1000000 in
theorem xso_lcmp {G : xG} {E : xE} {d : Nat} {Q : xP} {pc len : Nat} {tg : List Nat} {cst : xV} {r : List xT} {lv st : List xV} {μ : xM} {k : xK} {p : Program} {e : Env} {s : State} {m : MethodId} {args : Array Value} {below : List Frame} {meth : Method} {c : Code} (hE : xEok E)
    (kN : ∀ lv st μ, k r lv st μ → WS G E (d + 1) (p, e, s, m, args, below, meth, c) Q (pc + len) lv st μ)
    (kJ : ∀ t e' r', E.2.2.1.drop t = e' :: r' → ∀ lv st μ, k (E.2.2.1.drop t) lv st μ → WS G E (d + 1) (p, e, s, m, args, below, meth, c) Q e'.1 lv st μ)
    (hdec : decode E.2.1.2.1 pc = .ok ((.lcmp), len)) (hch : xchk E (pc, (.lcmp), len, tg, cst) = true)
    (h : xstep (MW G d) E Q (pc, (.lcmp), len, tg, cst) r lv st μ k) : WS G E (d + 1) (p, e, s, m, args, below, meth, c) Q pc lv st μ := by
  intro hG hC H locs ls hP hS hl hlo hso
  obtain ⟨hx, hb, hr, hml, hown, hts, hK, hlocks⟩ := id hC
  have hD := xD_wld hG μ
  have htw : ∀ w, xin w → w.before args s = true := fun w hw => hts w (List.mem_cons_of_mem _ (xin_gw hw))
  simp only [xchk, decide_eq_true_eq] at hch
  subst hch
  obtain ⟨y, s1, rfl, hh⟩ := xpL_ex (show xpL st _ from h)
  clear h
  have h := hh
  clear hh
  obtain ⟨x, s2, rfl, hh⟩ := xpL_ex h
  clear h
  have h := hh
  clear hh
  exact W.lcmp hx hb hdec (kN _ _ _ h hG hC H locs ls hP hS hl hlo ⟨trivial, hso.2.2⟩)
set_option maxHeartbeats 1000000 in
theorem xso_lshl {G : xG} {E : xE} {d : Nat} {Q : xP} {pc len : Nat} {tg : List Nat} {cst : xV} {r : List xT} {lv st : List xV} {μ : xM} {k : xK} {p : Program} {e : Env} {s : State} {m : MethodId} {args : Array Value} {below : List Frame} {meth : Method} {c : Code} (hE : xEok E)
    (kN : ∀ lv st μ, k r lv st μ → WS G E (d + 1) (p, e, s, m, args, below, meth, c) Q (pc + len) lv st μ)
    (kJ : ∀ t e' r', E.2.2.1.drop t = e' :: r' → ∀ lv st μ, k (E.2.2.1.drop t) lv st μ → WS G E (d + 1) (p, e, s, m, args, below, meth, c) Q e'.1 lv st μ)
    (hdec : decode E.2.1.2.1 pc = .ok ((.lshl), len)) (hch : xchk E (pc, (.lshl), len, tg, cst) = true)
    (h : xstep (MW G d) E Q (pc, (.lshl), len, tg, cst) r lv st μ k) : WS G E (d + 1) (p, e, s, m, args, below, meth, c) Q pc lv st μ := by
  intro hG hC H locs ls hP hS hl hlo hso
  obtain ⟨hx, hb, hr, hml, hown, hts, hK, hlocks⟩ := id hC
  have hD := xD_wld hG μ
  have htw : ∀ w, xin w → w.before args s = true := fun w hw => hts w (List.mem_cons_of_mem _ (xin_gw hw))
  simp only [xchk, decide_eq_true_eq] at hch
  subst hch
  obtain ⟨y, s1, rfl, hh⟩ := xpI_ex (show xpI st _ from h)
  clear h
  have h := hh
  clear hh
  obtain ⟨x, s2, rfl, hh⟩ := xpL_ex h
  clear h
  have h := hh
  clear hh
  exact lv_lshl hx hb hdec rfl (kN _ _ _ h hG hC H locs ls hP hS hl hlo ⟨trivial, hso.2.2⟩)
set_option maxHeartbeats 1000000 in
theorem xso_lshr {G : xG} {E : xE} {d : Nat} {Q : xP} {pc len : Nat} {tg : List Nat} {cst : xV} {r : List xT} {lv st : List xV} {μ : xM} {k : xK} {p : Program} {e : Env} {s : State} {m : MethodId} {args : Array Value} {below : List Frame} {meth : Method} {c : Code} (hE : xEok E)
    (kN : ∀ lv st μ, k r lv st μ → WS G E (d + 1) (p, e, s, m, args, below, meth, c) Q (pc + len) lv st μ)
    (kJ : ∀ t e' r', E.2.2.1.drop t = e' :: r' → ∀ lv st μ, k (E.2.2.1.drop t) lv st μ → WS G E (d + 1) (p, e, s, m, args, below, meth, c) Q e'.1 lv st μ)
    (hdec : decode E.2.1.2.1 pc = .ok ((.lshr), len)) (hch : xchk E (pc, (.lshr), len, tg, cst) = true)
    (h : xstep (MW G d) E Q (pc, (.lshr), len, tg, cst) r lv st μ k) : WS G E (d + 1) (p, e, s, m, args, below, meth, c) Q pc lv st μ := by
  intro hG hC H locs ls hP hS hl hlo hso
  obtain ⟨hx, hb, hr, hml, hown, hts, hK, hlocks⟩ := id hC
  have hD := xD_wld hG μ
  have htw : ∀ w, xin w → w.before args s = true := fun w hw => hts w (List.mem_cons_of_mem _ (xin_gw hw))
  simp only [xchk, decide_eq_true_eq] at hch
  subst hch
  obtain ⟨y, s1, rfl, hh⟩ := xpI_ex (show xpI st _ from h)
  clear h
  have h := hh
  clear hh
  obtain ⟨x, s2, rfl, hh⟩ := xpL_ex h
  clear h
  have h := hh
  clear hh
  exact lv_lshr hx hb hdec rfl (kN _ _ _ h hG hC H locs ls hP hS hl hlo ⟨trivial, hso.2.2⟩)
set_option maxHeartbeats 1000000 in
theorem xso_lushr {G : xG} {E : xE} {d : Nat} {Q : xP} {pc len : Nat} {tg : List Nat} {cst : xV} {r : List xT} {lv st : List xV} {μ : xM} {k : xK} {p : Program} {e : Env} {s : State} {m : MethodId} {args : Array Value} {below : List Frame} {meth : Method} {c : Code} (hE : xEok E)
    (kN : ∀ lv st μ, k r lv st μ → WS G E (d + 1) (p, e, s, m, args, below, meth, c) Q (pc + len) lv st μ)
    (kJ : ∀ t e' r', E.2.2.1.drop t = e' :: r' → ∀ lv st μ, k (E.2.2.1.drop t) lv st μ → WS G E (d + 1) (p, e, s, m, args, below, meth, c) Q e'.1 lv st μ)
    (hdec : decode E.2.1.2.1 pc = .ok ((.lushr), len)) (hch : xchk E (pc, (.lushr), len, tg, cst) = true)
    (h : xstep (MW G d) E Q (pc, (.lushr), len, tg, cst) r lv st μ k) : WS G E (d + 1) (p, e, s, m, args, below, meth, c) Q pc lv st μ := by
  intro hG hC H locs ls hP hS hl hlo hso
  obtain ⟨hx, hb, hr, hml, hown, hts, hK, hlocks⟩ := id hC
  have hD := xD_wld hG μ
  have htw : ∀ w, xin w → w.before args s = true := fun w hw => hts w (List.mem_cons_of_mem _ (xin_gw hw))
  simp only [xchk, decide_eq_true_eq] at hch
  subst hch
  obtain ⟨y, s1, rfl, hh⟩ := xpI_ex (show xpI st _ from h)
  clear h
  have h := hh
  clear hh
  obtain ⟨x, s2, rfl, hh⟩ := xpL_ex h
  clear h
  have h := hh
  clear hh
  exact lv_lushr hx hb hdec rfl (kN _ _ _ h hG hC H locs ls hP hS hl hlo ⟨trivial, hso.2.2⟩)
set_option maxHeartbeats 1000000 in
theorem xso_ineg {G : xG} {E : xE} {d : Nat} {Q : xP} {pc len : Nat} {tg : List Nat} {cst : xV} {r : List xT} {lv st : List xV} {μ : xM} {k : xK} {p : Program} {e : Env} {s : State} {m : MethodId} {args : Array Value} {below : List Frame} {meth : Method} {c : Code} (hE : xEok E)
    (kN : ∀ lv st μ, k r lv st μ → WS G E (d + 1) (p, e, s, m, args, below, meth, c) Q (pc + len) lv st μ)
    (kJ : ∀ t e' r', E.2.2.1.drop t = e' :: r' → ∀ lv st μ, k (E.2.2.1.drop t) lv st μ → WS G E (d + 1) (p, e, s, m, args, below, meth, c) Q e'.1 lv st μ)
    (hdec : decode E.2.1.2.1 pc = .ok ((.ineg), len)) (hch : xchk E (pc, (.ineg), len, tg, cst) = true)
    (h : xstep (MW G d) E Q (pc, (.ineg), len, tg, cst) r lv st μ k) : WS G E (d + 1) (p, e, s, m, args, below, meth, c) Q pc lv st μ := by
  intro hG hC H locs ls hP hS hl hlo hso
  obtain ⟨hx, hb, hr, hml, hown, hts, hK, hlocks⟩ := id hC
  have hD := xD_wld hG μ
  have htw : ∀ w, xin w → w.before args s = true := fun w hw => hts w (List.mem_cons_of_mem _ (xin_gw hw))
  simp only [xchk, decide_eq_true_eq] at hch
  subst hch
  obtain ⟨x, s1, rfl, hh⟩ := xpI_ex (show xpI st _ from h)
  clear h
  have h := hh
  clear hh
  exact lv_ineg hx hb hdec (kN _ _ _ h hG hC H locs ls hP hS hl hlo ⟨trivial, hso.2⟩)
set_option maxHeartbeats 1000000 in
theorem xso_i2c {G : xG} {E : xE} {d : Nat} {Q : xP} {pc len : Nat} {tg : List Nat} {cst : xV} {r : List xT} {lv st : List xV} {μ : xM} {k : xK} {p : Program} {e : Env} {s : State} {m : MethodId} {args : Array Value} {below : List Frame} {meth : Method} {c : Code} (hE : xEok E)
    (kN : ∀ lv st μ, k r lv st μ → WS G E (d + 1) (p, e, s, m, args, below, meth, c) Q (pc + len) lv st μ)
    (kJ : ∀ t e' r', E.2.2.1.drop t = e' :: r' → ∀ lv st μ, k (E.2.2.1.drop t) lv st μ → WS G E (d + 1) (p, e, s, m, args, below, meth, c) Q e'.1 lv st μ)
    (hdec : decode E.2.1.2.1 pc = .ok ((.i2c), len)) (hch : xchk E (pc, (.i2c), len, tg, cst) = true)
    (h : xstep (MW G d) E Q (pc, (.i2c), len, tg, cst) r lv st μ k) : WS G E (d + 1) (p, e, s, m, args, below, meth, c) Q pc lv st μ := by
  intro hG hC H locs ls hP hS hl hlo hso
  obtain ⟨hx, hb, hr, hml, hown, hts, hK, hlocks⟩ := id hC
  have hD := xD_wld hG μ
  have htw : ∀ w, xin w → w.before args s = true := fun w hw => hts w (List.mem_cons_of_mem _ (xin_gw hw))
  simp only [xchk, decide_eq_true_eq] at hch
  subst hch
  obtain ⟨x, s1, rfl, hh⟩ := xpI_ex (show xpI st _ from h)
  clear h
  have h := hh
  clear hh
  exact lv_i2c hx hb hdec rfl (kN _ _ _ h hG hC H locs ls hP hS hl hlo ⟨trivial, hso.2⟩)
set_option maxHeartbeats 1000000 in
theorem xso_i2l {G : xG} {E : xE} {d : Nat} {Q : xP} {pc len : Nat} {tg : List Nat} {cst : xV} {r : List xT} {lv st : List xV} {μ : xM} {k : xK} {p : Program} {e : Env} {s : State} {m : MethodId} {args : Array Value} {below : List Frame} {meth : Method} {c : Code} (hE : xEok E)
    (kN : ∀ lv st μ, k r lv st μ → WS G E (d + 1) (p, e, s, m, args, below, meth, c) Q (pc + len) lv st μ)
    (kJ : ∀ t e' r', E.2.2.1.drop t = e' :: r' → ∀ lv st μ, k (E.2.2.1.drop t) lv st μ → WS G E (d + 1) (p, e, s, m, args, below, meth, c) Q e'.1 lv st μ)
    (hdec : decode E.2.1.2.1 pc = .ok ((.i2l), len)) (hch : xchk E (pc, (.i2l), len, tg, cst) = true)
    (h : xstep (MW G d) E Q (pc, (.i2l), len, tg, cst) r lv st μ k) : WS G E (d + 1) (p, e, s, m, args, below, meth, c) Q pc lv st μ := by
  intro hG hC H locs ls hP hS hl hlo hso
  obtain ⟨hx, hb, hr, hml, hown, hts, hK, hlocks⟩ := id hC
  have hD := xD_wld hG μ
  have htw : ∀ w, xin w → w.before args s = true := fun w hw => hts w (List.mem_cons_of_mem _ (xin_gw hw))
  simp only [xchk, decide_eq_true_eq] at hch
  subst hch
  obtain ⟨x, s1, rfl, hh⟩ := xpI_ex (show xpI st _ from h)
  clear h
  have h := hh
  clear hh
  exact lv_i2l hx hb hdec rfl (kN _ _ _ h hG hC H locs ls hP hS hl hlo ⟨trivial, hso.2⟩)
set_option maxHeartbeats 1000000 in
theorem xso_l2i {G : xG} {E : xE} {d : Nat} {Q : xP} {pc len : Nat} {tg : List Nat} {cst : xV} {r : List xT} {lv st : List xV} {μ : xM} {k : xK} {p : Program} {e : Env} {s : State} {m : MethodId} {args : Array Value} {below : List Frame} {meth : Method} {c : Code} (hE : xEok E)
    (kN : ∀ lv st μ, k r lv st μ → WS G E (d + 1) (p, e, s, m, args, below, meth, c) Q (pc + len) lv st μ)
    (kJ : ∀ t e' r', E.2.2.1.drop t = e' :: r' → ∀ lv st μ, k (E.2.2.1.drop t) lv st μ → WS G E (d + 1) (p, e, s, m, args, below, meth, c) Q e'.1 lv st μ)
    (hdec : decode E.2.1.2.1 pc = .ok ((.l2i), len)) (hch : xchk E (pc, (.l2i), len, tg, cst) = true)
    (h : xstep (MW G d) E Q (pc, (.l2i), len, tg, cst) r lv st μ k) : WS G E (d + 1) (p, e, s, m, args, below, meth, c) Q pc lv st μ := by
  intro hG hC H locs ls hP hS hl hlo hso
  obtain ⟨hx, hb, hr, hml, hown, hts, hK, hlocks⟩ := id hC
  have hD := xD_wld hG μ
  have htw : ∀ w, xin w → w.before args s = true := fun w hw => hts w (List.mem_cons_of_mem _ (xin_gw hw))
  simp only [xchk, decide_eq_true_eq] at hch
  subst hch
  obtain ⟨x, s1, rfl, hh⟩ := xpL_ex (show xpL st _ from h)
  clear h
  have h := hh
  clear hh
  exact lv_l2i hx hb hdec rfl (kN _ _ _ h hG hC H locs ls hP hS hl hlo ⟨trivial, hso.2⟩)
set_option maxHeartbeats 1000000 in
theorem xso_iinc {G : xG} {E : xE} {d : Nat} {Q : xP} {pc len : Nat} {tg : List Nat} {cst : xV} {r : List xT} {lv st : List xV} {μ : xM} {k : xK} {p : Program} {e : Env} {s : State} {m : MethodId} {args : Array Value} {below : List Frame} {meth : Method} {c : Code} (n : Nat) (q : Int) (hE : xEok E)
    (kN : ∀ lv st μ, k r lv st μ → WS G E (d + 1) (p, e, s, m, args, below, meth, c) Q (pc + len) lv st μ)
    (kJ : ∀ t e' r', E.2.2.1.drop t = e' :: r' → ∀ lv st μ, k (E.2.2.1.drop t) lv st μ → WS G E (d + 1) (p, e, s, m, args, below, meth, c) Q e'.1 lv st μ)
    (hdec : decode E.2.1.2.1 pc = .ok ((.iinc n q), len)) (hch : xchk E (pc, (.iinc n q), len, tg, cst) = true)
    (h : xstep (MW G d) E Q (pc, (.iinc n q), len, tg, cst) r lv st μ k) : WS G E (d + 1) (p, e, s, m, args, below, meth, c) Q pc lv st μ := by
  intro hG hC H locs ls hP hS hl hlo hso
  obtain ⟨hx, hb, hr, hml, hown, hts, hK, hlocks⟩ := id hC
  have hD := xD_wld hG μ
  have htw : ∀ w, xin w → w.before args s = true := fun w hw => hts w (List.mem_cons_of_mem _ (xin_gw hw))
  simp only [xchk, Bool.and_eq_true, decide_eq_true_eq] at hch
  obtain ⟨⟨hlen, hi, hlt⟩, hc⟩ := hch
  subst hlen
  subst hi
  obtain ⟨y, rfl, hh⟩ := xcI_ex (show xcI cst _ from h)
  clear h
  have h := hh
  clear hh
  obtain ⟨x, ex, h⟩ := xgI_ex h
  exact xw_iinc hx hb hl hlt hdec ex (of_decide_eq_true (show decide (Int32.ofInt q = y) = true from hc)) (fun ls' hl' => kN _ _ _ h hG hC H locs ls' hP hS hl' (xlok_set (xlok_clr hlo _) _ trivial) hso)
set_option maxHeartbeats 1000000 in
theorem xso_dup {G : xG} {E : xE} {d : Nat} {Q : xP} {pc len : Nat} {tg : List Nat} {cst : xV} {r : List xT} {lv st : List xV} {μ : xM} {k : xK} {p : Program} {e : Env} {s : State} {m : MethodId} {args : Array Value} {below : List Frame} {meth : Method} {c : Code} (hE : xEok E)
    (kN : ∀ lv st μ, k r lv st μ → WS G E (d + 1) (p, e, s, m, args, below, meth, c) Q (pc + len) lv st μ)
    (kJ : ∀ t e' r', E.2.2.1.drop t = e' :: r' → ∀ lv st μ, k (E.2.2.1.drop t) lv st μ → WS G E (d + 1) (p, e, s, m, args, below, meth, c) Q e'.1 lv st μ)
    (hdec : decode E.2.1.2.1 pc = .ok ((.dup), len)) (hch : xchk E (pc, (.dup), len, tg, cst) = true)
    (h : xstep (MW G d) E Q (pc, (.dup), len, tg, cst) r lv st μ k) : WS G E (d + 1) (p, e, s, m, args, below, meth, c) Q pc lv st μ := by
  intro hG hC H locs ls hP hS hl hlo hso
  obtain ⟨hx, hb, hr, hml, hown, hts, hK, hlocks⟩ := id hC
  have hD := xD_wld hG μ
  have htw : ∀ w, xin w → w.before args s = true := fun w hw => hts w (List.mem_cons_of_mem _ (xin_gw hw))
  simp only [xchk, decide_eq_true_eq] at hch
  subst hch
  rcases st with _ | ⟨x | x | _ | q, s1⟩
  · exact (show False from h).elim
  · exact lv_dup hx hb hdec rfl (kN _ _ _ h hG hC H locs ls hP hS hl hlo ⟨trivial, hso⟩)
  · exact (show False from h).elim
  · exact (show False from h).elim
  · exact lv_dup hx hb hdec rfl (kN _ _ _ h hG hC H locs ls hP hS hl hlo ⟨hso.1, hso⟩)
set_option maxHeartbeats 1000000 in
theorem xso_dup2 {G : xG} {E : xE} {d : Nat} {Q : xP} {pc len : Nat} {tg : List Nat} {cst : xV} {r : List xT} {lv st : List xV} {μ : xM} {k : xK} {p : Program} {e : Env} {s : State} {m : MethodId} {args : Array Value} {below : List Frame} {meth : Method} {c : Code} (hE : xEok E)
    (kN : ∀ lv st μ, k r lv st μ → WS G E (d + 1) (p, e, s, m, args, below, meth, c) Q (pc + len) lv st μ)
    (kJ : ∀ t e' r', E.2.2.1.drop t = e' :: r' → ∀ lv st μ, k (E.2.2.1.drop t) lv st μ → WS G E (d + 1) (p, e, s, m, args, below, meth, c) Q e'.1 lv st μ)
    (hdec : decode E.2.1.2.1 pc = .ok ((.dup2), len)) (hch : xchk E (pc, (.dup2), len, tg, cst) = true)
    (h : xstep (MW G d) E Q (pc, (.dup2), len, tg, cst) r lv st μ k) : WS G E (d + 1) (p, e, s, m, args, below, meth, c) Q pc lv st μ := by
  intro hG hC H locs ls hP hS hl hlo hso
  obtain ⟨hx, hb, hr, hml, hown, hts, hK, hlocks⟩ := id hC
  have hD := xD_wld hG μ
  have htw : ∀ w, xin w → w.before args s = true := fun w hw => hts w (List.mem_cons_of_mem _ (xin_gw hw))
  simp only [xchk, decide_eq_true_eq] at hch
  subst hch
  obtain ⟨x, s1, rfl, hh⟩ := xpI_ex (show xpI st _ from h)
  clear h
  have h := hh
  clear hh
  obtain ⟨q, s2, rfl, hh⟩ := xpR_ex h
  clear h
  have h := hh
  clear hh
  exact lv_dup2_11 hx hb hdec rfl rfl (kN _ _ _ h hG hC H locs ls hP hS hl hlo ⟨trivial, hso.2.1, hso⟩)
set_option maxHeartbeats 1000000 in
theorem xso_pop {G : xG} {E : xE} {d : Nat} {Q : xP} {pc len : Nat} {tg : List Nat} {cst : xV} {r : List xT} {lv st : List xV} {μ : xM} {k : xK} {p : Program} {e : Env} {s : State} {m : MethodId} {args : Array Value} {below : List Frame} {meth : Method} {c : Code} (hE : xEok E)
    (kN : ∀ lv st μ, k r lv st μ → WS G E (d + 1) (p, e, s, m, args, below, meth, c) Q (pc + len) lv st μ)
    (kJ : ∀ t e' r', E.2.2.1.drop t = e' :: r' → ∀ lv st μ, k (E.2.2.1.drop t) lv st μ → WS G E (d + 1) (p, e, s, m, args, below, meth, c) Q e'.1 lv st μ)
    (hdec : decode E.2.1.2.1 pc = .ok ((.pop), len)) (hch : xchk E (pc, (.pop), len, tg, cst) = true)
    (h : xstep (MW G d) E Q (pc, (.pop), len, tg, cst) r lv st μ k) : WS G E (d + 1) (p, e, s, m, args, below, meth, c) Q pc lv st μ := by
  intro hG hC H locs ls hP hS hl hlo hso
  obtain ⟨hx, hb, hr, hml, hown, hts, hK, hlocks⟩ := id hC
  have hD := xD_wld hG μ
  have htw : ∀ w, xin w → w.before args s = true := fun w hw => hts w (List.mem_cons_of_mem _ (xin_gw hw))
  simp only [xchk, decide_eq_true_eq] at hch
  subst hch
  obtain ⟨x, s1, rfl, hh⟩ := xpI_ex (show xpI st _ from h)
  clear h
  have h := hh
  clear hh
  exact lv_pop hx hb hdec rfl (kN _ _ _ h hG hC H locs ls hP hS hl hlo hso.2)
end
section
set_option maxHeartbeats 1000000 in
theorem xso_ifCond {G : xG} {E : xE} {d : Nat} {Q : xP} {pc len : Nat} {tg : List Nat} {cst : xV} {r : List xT} {lv st : List xV} {μ : xM} {k : xK} {p : Program} {e : Env} {s : State} {m : MethodId} {args : Array Value} {below : List Frame} {meth : Method} {c : Code} (cnd : ClassFile.Cond) (o : Int) (hE : xEok E)
    (kN : ∀ lv st μ, k r lv st μ → WS G E (d + 1) (p, e, s, m, args, below, meth, c) Q (pc + len) lv st μ)
    (kJ : ∀ t e' r', E.2.2.1.drop t = e' :: r' → ∀ lv st μ, k (E.2.2.1.drop t) lv st μ → WS G E (d + 1) (p, e, s, m, args, below, meth, c) Q e'.1 lv st μ)
    (hdec : decode E.2.1.2.1 pc = .ok ((.ifCond cnd o), len)) (hch : xchk E (pc, (.ifCond cnd o), len, tg, cst) = true)
    (h : xstep (MW G d) E Q (pc, (.ifCond cnd o), len, tg, cst) r lv st μ k) : WS G E (d + 1) (p, e, s, m, args, below, meth, c) Q pc lv st μ := by
  intro hG hC H locs ls hP hS hl hlo hso
  obtain ⟨hx, hb, hr, hml, hown, hts, hK, hlocks⟩ := id hC
  have hD := xD_wld hG μ
  have htw : ∀ w, xin w → w.before args s = true := fun w hw => hts w (List.mem_cons_of_mem _ (xin_gw hw))
  simp only [xchk, Bool.and_eq_true, decide_eq_true_eq] at hch
  obtain ⟨hlen, hc⟩ := hch
  subst hlen
  obtain ⟨e', r', he, ht⟩ := xtgt_ok hc
  cases cnd
  case eq =>
    obtain ⟨x, s1, rfl, hh⟩ := xpI_ex (show xpI st _ from h)
    clear h
    have h := hh
    clear hh
    exact lv_if_eq hx hb hdec ht (fun c1 => kJ _ e' r' he _ _ _ (h.1 c1) hG hC H locs ls hP hS hl hlo hso.2) (fun c1 => kN _ _ _ (h.2 c1) hG hC H locs ls hP hS hl hlo hso.2)
  case ne =>
    obtain ⟨x, s1, rfl, hh⟩ := xpI_ex (show xpI st _ from h)
    clear h
    have h := hh
    clear hh
    exact lv_if_ne hx hb hdec ht (fun c1 => kJ _ e' r' he _ _ _ (h.2 c1) hG hC H locs ls hP hS hl hlo hso.2) (fun c1 => kN _ _ _ (h.1 c1) hG hC H locs ls hP hS hl hlo hso.2)
  case lt =>
    obtain ⟨x, s1, rfl, hh⟩ := xpI_ex (show xpI st _ from h)
    clear h
    have h := hh
    clear hh
    exact lv_if_lt hx hb hdec ht (fun c1 => kJ _ e' r' he _ _ _ (h.1 c1) hG hC H locs ls hP hS hl hlo hso.2) (fun c1 => kN _ _ _ (h.2 c1) hG hC H locs ls hP hS hl hlo hso.2)
  case ge =>
    obtain ⟨x, s1, rfl, hh⟩ := xpI_ex (show xpI st _ from h)
    clear h
    have h := hh
    clear hh
    exact lv_if_ge hx hb hdec ht (fun c1 => kJ _ e' r' he _ _ _ (h.1 c1) hG hC H locs ls hP hS hl hlo hso.2) (fun c1 => kN _ _ _ (h.2 c1) hG hC H locs ls hP hS hl hlo hso.2)
  case gt =>
    obtain ⟨x, s1, rfl, hh⟩ := xpI_ex (show xpI st _ from h)
    clear h
    have h := hh
    clear hh
    exact lv_if_gt hx hb hdec ht (fun c1 => kJ _ e' r' he _ _ _ (h.1 c1) hG hC H locs ls hP hS hl hlo hso.2) (fun c1 => kN _ _ _ (h.2 c1) hG hC H locs ls hP hS hl hlo hso.2)
  case le =>
    obtain ⟨x, s1, rfl, hh⟩ := xpI_ex (show xpI st _ from h)
    clear h
    have h := hh
    clear hh
    exact lv_if_le hx hb hdec ht (fun c1 => kJ _ e' r' he _ _ _ (h.1 c1) hG hC H locs ls hP hS hl hlo hso.2) (fun c1 => kN _ _ _ (h.2 c1) hG hC H locs ls hP hS hl hlo hso.2)
set_option maxHeartbeats 1000000 in
theorem xso_if_icmp {G : xG} {E : xE} {d : Nat} {Q : xP} {pc len : Nat} {tg : List Nat} {cst : xV} {r : List xT} {lv st : List xV} {μ : xM} {k : xK} {p : Program} {e : Env} {s : State} {m : MethodId} {args : Array Value} {below : List Frame} {meth : Method} {c : Code} (cnd : ClassFile.Cond) (o : Int) (hE : xEok E)
    (kN : ∀ lv st μ, k r lv st μ → WS G E (d + 1) (p, e, s, m, args, below, meth, c) Q (pc + len) lv st μ)
    (kJ : ∀ t e' r', E.2.2.1.drop t = e' :: r' → ∀ lv st μ, k (E.2.2.1.drop t) lv st μ → WS G E (d + 1) (p, e, s, m, args, below, meth, c) Q e'.1 lv st μ)
    (hdec : decode E.2.1.2.1 pc = .ok ((.if_icmp cnd o), len)) (hch : xchk E (pc, (.if_icmp cnd o), len, tg, cst) = true)
    (h : xstep (MW G d) E Q (pc, (.if_icmp cnd o), len, tg, cst) r lv st μ k) : WS G E (d + 1) (p, e, s, m, args, below, meth, c) Q pc lv st μ := by
  intro hG hC H locs ls hP hS hl hlo hso
  obtain ⟨hx, hb, hr, hml, hown, hts, hK, hlocks⟩ := id hC
  have hD := xD_wld hG μ
  have htw : ∀ w, xin w → w.before args s = true := fun w hw => hts w (List.mem_cons_of_mem _ (xin_gw hw))
  simp only [xchk, Bool.and_eq_true, decide_eq_true_eq] at hch
  obtain ⟨hlen, hc⟩ := hch
  subst hlen
  obtain ⟨e', r', he, ht⟩ := xtgt_ok hc
  cases cnd
  case eq =>
    obtain ⟨y, s1, rfl, hh⟩ := xpI_ex (show xpI st _ from h)
    clear h
    have h := hh
    clear hh
    obtain ⟨x, s2, rfl, hh⟩ := xpI_ex h
    clear h
    have h := hh
    clear hh
    exact lv_icmp_eq hx hb hdec ht (fun c1 => kJ _ e' r' he _ _ _ (h.1 c1) hG hC H locs ls hP hS hl hlo hso.2.2) (fun c1 => kN _ _ _ (h.2 c1) hG hC H locs ls hP hS hl hlo hso.2.2)
  case ne =>
    obtain ⟨y, s1, rfl, hh⟩ := xpI_ex (show xpI st _ from h)
    clear h
    have h := hh
    clear hh
    obtain ⟨x, s2, rfl, hh⟩ := xpI_ex h
    clear h
    have h := hh
    clear hh
    exact lv_icmp_ne hx hb hdec ht (fun c1 => kJ _ e' r' he _ _ _ (h.2 c1) hG hC H locs ls hP hS hl hlo hso.2.2) (fun c1 => kN _ _ _ (h.1 c1) hG hC H locs ls hP hS hl hlo hso.2.2)
  case lt =>
    obtain ⟨y, s1, rfl, hh⟩ := xpI_ex (show xpI st _ from h)
    clear h
    have h := hh
    clear hh
    obtain ⟨x, s2, rfl, hh⟩ := xpI_ex h
    clear h
    have h := hh
    clear hh
    exact lv_icmp_lt hx hb hdec ht (fun c1 => kJ _ e' r' he _ _ _ (h.1 c1) hG hC H locs ls hP hS hl hlo hso.2.2) (fun c1 => kN _ _ _ (h.2 c1) hG hC H locs ls hP hS hl hlo hso.2.2)
  case ge =>
    obtain ⟨y, s1, rfl, hh⟩ := xpI_ex (show xpI st _ from h)
    clear h
    have h := hh
    clear hh
    obtain ⟨x, s2, rfl, hh⟩ := xpI_ex h
    clear h
    have h := hh
    clear hh
    exact lv_icmp_ge hx hb hdec ht (fun c1 => kJ _ e' r' he _ _ _ (h.1 c1) hG hC H locs ls hP hS hl hlo hso.2.2) (fun c1 => kN _ _ _ (h.2 c1) hG hC H locs ls hP hS hl hlo hso.2.2)
  case gt =>
    obtain ⟨y, s1, rfl, hh⟩ := xpI_ex (show xpI st _ from h)
    clear h
    have h := hh
    clear hh
    obtain ⟨x, s2, rfl, hh⟩ := xpI_ex h
    clear h
    have h := hh
    clear hh
    exact lv_icmp_gt hx hb hdec ht (fun c1 => kJ _ e' r' he _ _ _ (h.1 c1) hG hC H locs ls hP hS hl hlo hso.2.2) (fun c1 => kN _ _ _ (h.2 c1) hG hC H locs ls hP hS hl hlo hso.2.2)
  case le =>
    obtain ⟨y, s1, rfl, hh⟩ := xpI_ex (show xpI st _ from h)
    clear h
    have h := hh
    clear hh
    obtain ⟨x, s2, rfl, hh⟩ := xpI_ex h
    clear h
    have h := hh
    clear hh
    exact lv_icmp_le hx hb hdec ht (fun c1 => kJ _ e' r' he _ _ _ (h.1 c1) hG hC H locs ls hP hS hl hlo hso.2.2) (fun c1 => kN _ _ _ (h.2 c1) hG hC H locs ls hP hS hl hlo hso.2.2)
set_option maxHeartbeats 1000000 in
theorem xso_ifnull {G : xG} {E : xE} {d : Nat} {Q : xP} {pc len : Nat} {tg : List Nat} {cst : xV} {r : List xT} {lv st : List xV} {μ : xM} {k : xK} {p : Program} {e : Env} {s : State} {m : MethodId} {args : Array Value} {below : List Frame} {meth : Method} {c : Code} (o : Int) (hE : xEok E)
    (kN : ∀ lv st μ, k r lv st μ → WS G E (d + 1) (p, e, s, m, args, below, meth, c) Q (pc + len) lv st μ)
    (kJ : ∀ t e' r', E.2.2.1.drop t = e' :: r' → ∀ lv st μ, k (E.2.2.1.drop t) lv st μ → WS G E (d + 1) (p, e, s, m, args, below, meth, c) Q e'.1 lv st μ)
    (hdec : decode E.2.1.2.1 pc = .ok ((.ifnull o), len)) (hch : xchk E (pc, (.ifnull o), len, tg, cst) = true)
    (h : xstep (MW G d) E Q (pc, (.ifnull o), len, tg, cst) r lv st μ k) : WS G E (d + 1) (p, e, s, m, args, below, meth, c) Q pc lv st μ := by
  intro hG hC H locs ls hP hS hl hlo hso
  obtain ⟨hx, hb, hr, hml, hown, hts, hK, hlocks⟩ := id hC
  have hD := xD_wld hG μ
  have htw : ∀ w, xin w → w.before args s = true := fun w hw => hts w (List.mem_cons_of_mem _ (xin_gw hw))
  simp only [xchk, decide_eq_true_eq] at hch
  subst hch
  obtain ⟨q, s1, rfl, hh⟩ := xpR_ex (show xpR st _ from h)
  clear h
  have h := hh
  clear hh
  exact lv_ifnull hx hb hdec (kN _ _ _ h hG hC H locs ls hP hS hl hlo hso.2)
set_option maxHeartbeats 1000000 in
theorem xso_goto {G : xG} {E : xE} {d : Nat} {Q : xP} {pc len : Nat} {tg : List Nat} {cst : xV} {r : List xT} {lv st : List xV} {μ : xM} {k : xK} {p : Program} {e : Env} {s : State} {m : MethodId} {args : Array Value} {below : List Frame} {meth : Method} {c : Code} (o : Int) (hE : xEok E)
    (kN : ∀ lv st μ, k r lv st μ → WS G E (d + 1) (p, e, s, m, args, below, meth, c) Q (pc + len) lv st μ)
    (kJ : ∀ t e' r', E.2.2.1.drop t = e' :: r' → ∀ lv st μ, k (E.2.2.1.drop t) lv st μ → WS G E (d + 1) (p, e, s, m, args, below, meth, c) Q e'.1 lv st μ)
    (hdec : decode E.2.1.2.1 pc = .ok ((.goto o), len)) (hch : xchk E (pc, (.goto o), len, tg, cst) = true)
    (h : xstep (MW G d) E Q (pc, (.goto o), len, tg, cst) r lv st μ k) : WS G E (d + 1) (p, e, s, m, args, below, meth, c) Q pc lv st μ := by
  intro hG hC H locs ls hP hS hl hlo hso
  obtain ⟨hx, hb, hr, hml, hown, hts, hK, hlocks⟩ := id hC
  have hD := xD_wld hG μ
  have htw : ∀ w, xin w → w.before args s = true := fun w hw => hts w (List.mem_cons_of_mem _ (xin_gw hw))
  simp only [xchk, Bool.and_eq_true, decide_eq_true_eq] at hch
  obtain ⟨hlen, hc⟩ := hch
  subst hlen
  obtain ⟨e', r', he, ht⟩ := xtgt_ok hc
  exact lv_goto hx hb hdec ht (kJ _ e' r' he _ _ _ h hG hC H locs ls hP hS hl hlo hso)
set_option maxHeartbeats 1000000 in
theorem xso_tableswitch {G : xG} {E : xE} {d : Nat} {Q : xP} {pc len : Nat} {tg : List Nat} {cst : xV} {r : List xT} {lv st : List xV} {μ : xM} {k : xK} {p : Program} {e : Env} {s : State} {m : MethodId} {args : Array Value} {below : List Frame} {meth : Method} {c : Code} (dd lo hi : Int) (offs : Array Int) (hE : xEok E)
    (kN : ∀ lv st μ, k r lv st μ → WS G E (d + 1) (p, e, s, m, args, below, meth, c) Q (pc + len) lv st μ)
    (kJ : ∀ t e' r', E.2.2.1.drop t = e' :: r' → ∀ lv st μ, k (E.2.2.1.drop t) lv st μ → WS G E (d + 1) (p, e, s, m, args, below, meth, c) Q e'.1 lv st μ)
    (hdec : decode E.2.1.2.1 pc = .ok ((.tableswitch dd lo hi offs), len)) (hch : xchk E (pc, (.tableswitch dd lo hi offs), len, tg, cst) = true)
    (h : xstep (MW G d) E Q (pc, (.tableswitch dd lo hi offs), len, tg, cst) r lv st μ k) : WS G E (d + 1) (p, e, s, m, args, below, meth, c) Q pc lv st μ := by
  intro hG hC H locs ls hP hS hl hlo hso
  obtain ⟨hx, hb, hr, hml, hown, hts, hK, hlocks⟩ := id hC
  have hD := xD_wld hG μ
  have htw : ∀ w, xin w → w.before args s = true := fun w hw => hts w (List.mem_cons_of_mem _ (xin_gw hw))
  rcases tg with _ | ⟨t, ts⟩
  · simp [xchk] at hch
  simp only [xchk, Bool.and_eq_true, decide_eq_true_eq] at hch
  obtain ⟨⟨hd1, hts1⟩, hsz, hlo1, hhi1⟩ := hch
  obtain ⟨x, s1, rfl, hh⟩ := xpI_ex (show xpI st _ from h)
  clear h
  have h := hh
  clear hh
  obtain ⟨hlen1, hget⟩ := xtgts_get _ _ hts1
  have hlen2 : offs.size = ts.length := by simpa using hlen1
  have h : xtsw x lo ts _ _ := h
  rcases xtsw_ex ts lo h with ⟨j, t', e1, e2, e3⟩ | ⟨e1, e2⟩
  · obtain ⟨o, ho, hot⟩ := hget j t' e1
    obtain ⟨e', r', he, ht⟩ := xtgt_ok hot
    have hj : j < ts.length := (List.getElem?_eq_some_iff.mp e1).1
    have hxi : x.toInt = lo + (j : Int) := xofI e2 (by omega) (by omega)
    refine lv_tableIn hx hb hdec (by rw [hxi]; omega) (by rw [hxi]; omega) (off := o) ?_ ht (kJ _ e' r' he _ _ _ e3 hG hC H locs ls hP hS hl hlo hso.2)
    rw [hxi, show lo + (j : Int) - lo = (j : Int) by omega, Int.toNat_natCast]
    simpa using ho
  · obtain ⟨e', r', he, ht⟩ := xtgt_ok hd1
    refine lv_tableOut hx hb hdec ?_ ht (kJ _ e' r' he _ _ _ e2 hG hC H locs ls hP hS hl hlo hso.2)
    rcases Int.lt_or_le x.toInt lo with q | q
    · exact Or.inl q
    · rcases Int.lt_or_le hi x.toInt with q2 | q2
      · exact Or.inr q2
      · exfalso
        refine e1 (x.toInt - lo).toNat (by omega) ?_
        rw [show lo + ((x.toInt - lo).toNat : Int) = x.toInt by omega]
        exact (Int32.ofInt_toInt x).symm
set_option maxHeartbeats 1000000 in
theorem xso_lookupswitch {G : xG} {E : xE} {d : Nat} {Q : xP} {pc len : Nat} {tg : List Nat} {cst : xV} {r : List xT} {lv st : List xV} {μ : xM} {k : xK} {p : Program} {e : Env} {s : State} {m : MethodId} {args : Array Value} {below : List Frame} {meth : Method} {c : Code} (dd : Int) (ps : Array (Int × Int)) (hE : xEok E)
    (kN : ∀ lv st μ, k r lv st μ → WS G E (d + 1) (p, e, s, m, args, below, meth, c) Q (pc + len) lv st μ)
    (kJ : ∀ t e' r', E.2.2.1.drop t = e' :: r' → ∀ lv st μ, k (E.2.2.1.drop t) lv st μ → WS G E (d + 1) (p, e, s, m, args, below, meth, c) Q e'.1 lv st μ)
    (hdec : decode E.2.1.2.1 pc = .ok ((.lookupswitch dd ps), len)) (hch : xchk E (pc, (.lookupswitch dd ps), len, tg, cst) = true)
    (h : xstep (MW G d) E Q (pc, (.lookupswitch dd ps), len, tg, cst) r lv st μ k) : WS G E (d + 1) (p, e, s, m, args, below, meth, c) Q pc lv st μ := by
  intro hG hC H locs ls hP hS hl hlo hso
  obtain ⟨hx, hb, hr, hml, hown, hts, hK, hlocks⟩ := id hC
  have hD := xD_wld hG μ
  have htw : ∀ w, xin w → w.before args s = true := fun w hw => hts w (List.mem_cons_of_mem _ (xin_gw hw))
  rcases tg with _ | ⟨t, ts⟩
  · simp [xchk] at hch
  simp only [xchk, Bool.and_eq_true] at hch
  obtain ⟨⟨⟨hd1, hts1⟩, hky⟩, hsrt⟩ := hch
  obtain ⟨x, s1, rfl, hh⟩ := xpI_ex (show xpI st _ from h)
  clear h
  have h := hh
  clear hh
  have h : xlsw x ps.toList ts _ _ := h
  rcases xlsw_ex (d := dd) ps.toList ts hts1 hky h with ⟨o, t', e1, e2, e3⟩ | ⟨e1, e2⟩
  · obtain ⟨e', r', he, ht⟩ := xtgt_ok e2
    exact lv_lookup hx hb hdec hsrt e1 ht (kJ _ e' r' he _ _ _ e3 hG hC H locs ls hP hS hl hlo hso.2)
  · obtain ⟨e', r', he, ht⟩ := xtgt_ok hd1
    exact lv_lookup hx hb hdec hsrt e1 ht (kJ _ e' r' he _ _ _ e2 hG hC H locs ls hP hS hl hlo hso.2)
end
section
set_option maxHeartbeats 1000000 in
theorem xso_getfield {G : xG} {E : xE} {d : Nat} {Q : xP} {pc len : Nat} {tg : List Nat} {cst : xV} {r : List xT} {lv st : List xV} {μ : xM} {k : xK} {p : Program} {e : Env} {s : State} {m : MethodId} {args : Array Value} {below : List Frame} {meth : Method} {c : Code} (n : Nat) (hE : xEok E)
    (kN : ∀ lv st μ, k r lv st μ → WS G E (d + 1) (p, e, s, m, args, below, meth, c) Q (pc + len) lv st μ)
    (kJ : ∀ t e' r', E.2.2.1.drop t = e' :: r' → ∀ lv st μ, k (E.2.2.1.drop t) lv st μ → WS G E (d + 1) (p, e, s, m, args, below, meth, c) Q e'.1 lv st μ)
    (hdec : decode E.2.1.2.1 pc = .ok ((.getfield n), len)) (hch : xchk E (pc, (.getfield n), len, tg, cst) = true)
    (h : xstep (MW G d) E Q (pc, (.getfield n), len, tg, cst) r lv st μ k) : WS G E (d + 1) (p, e, s, m, args, below, meth, c) Q pc lv st μ := by
  intro hG hC H locs ls hP hS hl hlo hso
  obtain ⟨hx, hb, hr, hml, hown, hts, hK, hlocks⟩ := id hC
  have hD := xD_wld hG μ
  have htw : ∀ w, xin w → w.before args s = true := fun w hw => hts w (List.mem_cons_of_mem _ (xin_gw hw))
  simp only [xchk, Bool.and_eq_true, decide_eq_true_eq] at hch
  obtain ⟨hlen, hc⟩ := hch
  subst hlen
  obtain ⟨f, hf, ef⟩ := List.any_eq_true.mp hc
  obtain ⟨e1, e2, e3⟩ := of_decide_eq_true ef
  obtain ⟨C, T, N, hc1, hkN, hlink, -⟩ := hE.2.2.2.1.1 f hf
  rw [e2] at hc1
  rw [e3] at hkN
  rw [e1, e3] at hlink
  obtain ⟨hu, -, -⟩ := xcl_ok _ C T N hc1
  obtain ⟨q, s1, rfl, hh⟩ := xpR_ex (show xpR st _ from h)
  clear h
  have h := hh
  clear hh
  obtain ⟨fs, ho, h⟩ := xfld_ex h
  have hq : xok q = true := hso.1
  obtain ⟨n1, hn1, hw1⟩ := xwld_get (ad := G.2.1) (cA := G.2.2.2) μ hq
  rw [xcell_obj ho] at hw1
  rcases h with ⟨hk, h⟩ | ⟨r1, hk, h⟩
  · exact va_get (D := G.2.2.1) (v := .int (μ q (xt1 tg))) hx hb hts (fun w hw => List.mem_cons_of_mem _ (xin_gw (hu w hw))) hown hK hP n1 hw1 hc1 _ hkN (htw _ hlink) (fun _ h9 => h9) (by have := xfs_int (ad := G.2.1) (f := μ q) fs 0 _ hk; rwa [Nat.zero_add] at this) hdec (kN _ _ _ h hG hC H locs ls hP hS hl hlo ⟨trivial, hso.2⟩)
  · exact va_get (D := G.2.2.1) (v := .ref (G.2.1 r1)) hx hb hts (fun w hw => List.mem_cons_of_mem _ (xin_gw (hu w hw))) hown hK hP n1 hw1 hc1 _ hkN (htw _ hlink) (fun _ h9 => h9) (xfs_ref fs 0 _ hk) hdec (kN _ _ _ h hG hC H locs ls hP hS hl hlo ⟨xobj_ok hq ho (List.mem_of_getElem? hk), hso.2⟩)
set_option maxHeartbeats 1000000 in
theorem xso_putfield {G : xG} {E : xE} {d : Nat} {Q : xP} {pc len : Nat} {tg : List Nat} {cst : xV} {r : List xT} {lv st : List xV} {μ : xM} {k : xK} {p : Program} {e : Env} {s : State} {m : MethodId} {args : Array Value} {below : List Frame} {meth : Method} {c : Code} (n : Nat) (hE : xEok E)
    (kN : ∀ lv st μ, k r lv st μ → WS G E (d + 1) (p, e, s, m, args, below, meth, c) Q (pc + len) lv st μ)
    (kJ : ∀ t e' r', E.2.2.1.drop t = e' :: r' → ∀ lv st μ, k (E.2.2.1.drop t) lv st μ → WS G E (d + 1) (p, e, s, m, args, below, meth, c) Q e'.1 lv st μ)
    (hdec : decode E.2.1.2.1 pc = .ok ((.putfield n), len)) (hch : xchk E (pc, (.putfield n), len, tg, cst) = true)
    (h : xstep (MW G d) E Q (pc, (.putfield n), len, tg, cst) r lv st μ k) : WS G E (d + 1) (p, e, s, m, args, below, meth, c) Q pc lv st μ := by
  intro hG hC H locs ls hP hS hl hlo hso
  obtain ⟨hx, hb, hr, hml, hown, hts, hK, hlocks⟩ := id hC
  have hD := xD_wld hG μ
  have htw : ∀ w, xin w → w.before args s = true := fun w hw => hts w (List.mem_cons_of_mem _ (xin_gw hw))
  simp only [xchk, Bool.and_eq_true, decide_eq_true_eq] at hch
  obtain ⟨hlen, hc⟩ := hch
  subst hlen
  obtain ⟨f, hf, ef⟩ := List.any_eq_true.mp hc
  obtain ⟨e1, e2, e3, e4⟩ := of_decide_eq_true ef
  obtain ⟨C, T, N, hc1, hkN, hlink, hkI, hkZ⟩ := hE.2.2.2.1.1 f hf
  rw [e2] at hc1
  rw [e3] at hkN hkI hkZ
  rw [e1, e3] at hlink
  obtain ⟨hu, ⟨ty0, hty⟩, hnm⟩ := xcl_ok _ C T N hc1
  obtain ⟨x, s0, rfl, hh⟩ := xpI_ex (show xpI st _ from h)
  clear h
  have h := hh
  clear hh
  obtain ⟨q, s1, rfl, hh⟩ := xpR_ex h
  clear h
  have h := hh
  clear hh
  obtain ⟨fs, ho, h⟩ := xfld_ex h
  have hq : xok q = true := hso.2.1
  obtain ⟨n1, hn1, hw1⟩ := xwld_get (ad := G.2.1) (cA := G.2.2.2) μ hq
  rw [xcell_obj ho] at hw1
  rcases h with ⟨hk, h⟩ | ⟨r1, hk, h⟩
  · have hkl : xt1 tg < (xfs G.2.1 (μ q) 0 fs).length := by rw [xfs_len]; exact (List.getElem?_eq_some_iff.mp hk).1
    have key : ∀ (ty : FieldType), (T (xt1 tg)).2.2.2 = false → parseFieldDescriptor (T (xt1 tg)).2.2.1 = some ty → narrow ty (.int x) = .int x → fits ty (.int x) = true → k r lv s1 (xst μ q (xt1 tg) x) → W p G.1 e (xrm (d + 1)) s m args below meth c H locs 0 0 (MQ below (xQc G Q) args s 0 0 (xA G.2.1)) (F0 m pc ls ((vI x :: vR q :: s1).map (xrv G.2.1))) := by
      intro ty h1 h2 h3 h4 h5
      refine va_put (D := G.2.2.1) (v := .int x) (ty := ty) hx hb hts (fun w hw => List.mem_cons_of_mem _ (xin_gw (hu w hw))) ty0 hty hnm hown hK hP hD hS n1 hw1 hc1 _ hkN (htw _ hlink) (fun _ h9 => h9) h1 h2 h3 h4 hkl hdec (fun H1 locs1 hP1 hD1 hS1 => ?_)
      rw [xwld_put hn1 ho hk] at hP1
      exact kN _ _ _ h5 hG hC H1 locs1 ls hP1 hS1 hl hlo hso.2.2
    rcases cst with v | v
    · obtain ⟨h1, h2⟩ := hkZ e4
      have h : (x = 0 ∨ x = 1) ∧ k r lv s1 (xst μ q (xt1 tg) x) := h
      refine key .boolean h1 (by rw [h2]; decide +kernel) ?_ ?_ h.2 <;> rcases h.1 with rfl | rfl <;> rfl
    · obtain ⟨h1, h2⟩ := hkI e4
      exact key .int h1 (by rw [h2]; decide +kernel) rfl rfl h
  · exact h.elim
set_option maxHeartbeats 1000000 in
theorem xso_arraylength {G : xG} {E : xE} {d : Nat} {Q : xP} {pc len : Nat} {tg : List Nat} {cst : xV} {r : List xT} {lv st : List xV} {μ : xM} {k : xK} {p : Program} {e : Env} {s : State} {m : MethodId} {args : Array Value} {below : List Frame} {meth : Method} {c : Code} (hE : xEok E)
    (kN : ∀ lv st μ, k r lv st μ → WS G E (d + 1) (p, e, s, m, args, below, meth, c) Q (pc + len) lv st μ)
    (kJ : ∀ t e' r', E.2.2.1.drop t = e' :: r' → ∀ lv st μ, k (E.2.2.1.drop t) lv st μ → WS G E (d + 1) (p, e, s, m, args, below, meth, c) Q e'.1 lv st μ)
    (hdec : decode E.2.1.2.1 pc = .ok ((.arraylength), len)) (hch : xchk E (pc, (.arraylength), len, tg, cst) = true)
    (h : xstep (MW G d) E Q (pc, (.arraylength), len, tg, cst) r lv st μ k) : WS G E (d + 1) (p, e, s, m, args, below, meth, c) Q pc lv st μ := by
  intro hG hC H locs ls hP hS hl hlo hso
  obtain ⟨hx, hb, hr, hml, hown, hts, hK, hlocks⟩ := id hC
  have hD := xD_wld hG μ
  have htw : ∀ w, xin w → w.before args s = true := fun w hw => hts w (List.mem_cons_of_mem _ (xin_gw hw))
  simp only [xchk, decide_eq_true_eq] at hch
  subst hch
  obtain ⟨q, s1, rfl, hh⟩ := xpR_ex (show xpR st _ from h)
  clear h
  have h := hh
  clear hh
  obtain ⟨t, ty, x, hcl, htys, h⟩ := xal_ex (ad := G.2.1) (cA := G.2.2.2) (μ := μ) h
  have hq : xok q = true := hso.1
  obtain ⟨n1, hn1, hw1⟩ := xwld_get (ad := G.2.1) (cA := G.2.2.2) μ hq
  rw [hcl] at hw1
  exact va_alen hx hb hK hP n1 t hw1 htys rfl hdec (kN _ _ _ h hG hC H locs ls hP hS hl hlo ⟨trivial, hso.2⟩)
set_option maxHeartbeats 1000000 in
theorem xso_iaload {G : xG} {E : xE} {d : Nat} {Q : xP} {pc len : Nat} {tg : List Nat} {cst : xV} {r : List xT} {lv st : List xV} {μ : xM} {k : xK} {p : Program} {e : Env} {s : State} {m : MethodId} {args : Array Value} {below : List Frame} {meth : Method} {c : Code} (hE : xEok E)
    (kN : ∀ lv st μ, k r lv st μ → WS G E (d + 1) (p, e, s, m, args, below, meth, c) Q (pc + len) lv st μ)
    (kJ : ∀ t e' r', E.2.2.1.drop t = e' :: r' → ∀ lv st μ, k (E.2.2.1.drop t) lv st μ → WS G E (d + 1) (p, e, s, m, args, below, meth, c) Q e'.1 lv st μ)
    (hdec : decode E.2.1.2.1 pc = .ok ((.iaload), len)) (hch : xchk E (pc, (.iaload), len, tg, cst) = true)
    (h : xstep (MW G d) E Q (pc, (.iaload), len, tg, cst) r lv st μ k) : WS G E (d + 1) (p, e, s, m, args, below, meth, c) Q pc lv st μ := by
  intro hG hC H locs ls hP hS hl hlo hso
  obtain ⟨hx, hb, hr, hml, hown, hts, hK, hlocks⟩ := id hC
  have hD := xD_wld hG μ
  have htw : ∀ w, xin w → w.before args s = true := fun w hw => hts w (List.mem_cons_of_mem _ (xin_gw hw))
  simp only [xchk, decide_eq_true_eq] at hch
  subst hch
  obtain ⟨j, s1, rfl, hh⟩ := xpI_ex (show xpI st _ from h)
  clear h
  have h := hh
  clear hh
  obtain ⟨q, s2, rfl, hh⟩ := xpR_ex h
  clear h
  have h := hh
  clear hh
  obtain ⟨n, ha, hin, h⟩ := xax_ex h
  have hq : xok q = true := hso.2.1
  obtain ⟨n1, hn1, hw1⟩ := xwld_get (ad := G.2.1) (cA := G.2.2.2) μ hq
  rw [xcell_arr ha] at hw1
  exact va_iald hx hb hK hP n1 0 hw1 rfl hin hdec (kN _ _ _ h hG hC H locs ls hP hS hl hlo ⟨trivial, hso.2.2⟩)
set_option maxHeartbeats 1000000 in
theorem xso_baload {G : xG} {E : xE} {d : Nat} {Q : xP} {pc len : Nat} {tg : List Nat} {cst : xV} {r : List xT} {lv st : List xV} {μ : xM} {k : xK} {p : Program} {e : Env} {s : State} {m : MethodId} {args : Array Value} {below : List Frame} {meth : Method} {c : Code} (hE : xEok E)
    (kN : ∀ lv st μ, k r lv st μ → WS G E (d + 1) (p, e, s, m, args, below, meth, c) Q (pc + len) lv st μ)
    (kJ : ∀ t e' r', E.2.2.1.drop t = e' :: r' → ∀ lv st μ, k (E.2.2.1.drop t) lv st μ → WS G E (d + 1) (p, e, s, m, args, below, meth, c) Q e'.1 lv st μ)
    (hdec : decode E.2.1.2.1 pc = .ok ((.baload), len)) (hch : xchk E (pc, (.baload), len, tg, cst) = true)
    (h : xstep (MW G d) E Q (pc, (.baload), len, tg, cst) r lv st μ k) : WS G E (d + 1) (p, e, s, m, args, below, meth, c) Q pc lv st μ := by
  intro hG hC H locs ls hP hS hl hlo hso
  obtain ⟨hx, hb, hr, hml, hown, hts, hK, hlocks⟩ := id hC
  have hD := xD_wld hG μ
  have htw : ∀ w, xin w → w.before args s = true := fun w hw => hts w (List.mem_cons_of_mem _ (xin_gw hw))
  simp only [xchk, decide_eq_true_eq] at hch
  subst hch
  obtain ⟨j, s1, rfl, hh⟩ := xpI_ex (show xpI st _ from h)
  clear h
  have h := hh
  clear hh
  obtain ⟨q, s2, rfl, hh⟩ := xpR_ex h
  clear h
  have h := hh
  clear hh
  obtain ⟨n, ha, hin, h⟩ := xax_ex h
  have hq : xok q = true := hso.2.1
  obtain ⟨n1, hn1, hw1⟩ := xwld_get (ad := G.2.1) (cA := G.2.2.2) μ hq
  rw [xcell_arr ha] at hw1
  exact va_zald hx hb hK hP n1 1 hw1 rfl hin hdec (kN _ _ _ h hG hC H locs ls hP hS hl hlo ⟨trivial, hso.2.2⟩)
set_option maxHeartbeats 1000000 in
theorem xso_caload {G : xG} {E : xE} {d : Nat} {Q : xP} {pc len : Nat} {tg : List Nat} {cst : xV} {r : List xT} {lv st : List xV} {μ : xM} {k : xK} {p : Program} {e : Env} {s : State} {m : MethodId} {args : Array Value} {below : List Frame} {meth : Method} {c : Code} (hE : xEok E)
    (kN : ∀ lv st μ, k r lv st μ → WS G E (d + 1) (p, e, s, m, args, below, meth, c) Q (pc + len) lv st μ)
    (kJ : ∀ t e' r', E.2.2.1.drop t = e' :: r' → ∀ lv st μ, k (E.2.2.1.drop t) lv st μ → WS G E (d + 1) (p, e, s, m, args, below, meth, c) Q e'.1 lv st μ)
    (hdec : decode E.2.1.2.1 pc = .ok ((.caload), len)) (hch : xchk E (pc, (.caload), len, tg, cst) = true)
    (h : xstep (MW G d) E Q (pc, (.caload), len, tg, cst) r lv st μ k) : WS G E (d + 1) (p, e, s, m, args, below, meth, c) Q pc lv st μ := by
  intro hG hC H locs ls hP hS hl hlo hso
  obtain ⟨hx, hb, hr, hml, hown, hts, hK, hlocks⟩ := id hC
  have hD := xD_wld hG μ
  have htw : ∀ w, xin w → w.before args s = true := fun w hw => hts w (List.mem_cons_of_mem _ (xin_gw hw))
  simp only [xchk, decide_eq_true_eq] at hch
  subst hch
  obtain ⟨j, s1, rfl, hh⟩ := xpI_ex (show xpI st _ from h)
  clear h
  have h := hh
  clear hh
  obtain ⟨q, s2, rfl, hh⟩ := xpR_ex h
  clear h
  have h := hh
  clear hh
  obtain ⟨n, ha, hin, h⟩ := xax_ex h
  have hq : xok q = true := hso.2.1
  obtain ⟨n1, hn1, hw1⟩ := xwld_get (ad := G.2.1) (cA := G.2.2.2) μ hq
  rw [xcell_arr ha] at hw1
  exact va_cald hx hb hK hP n1 2 hw1 rfl hin hdec (kN _ _ _ h hG hC H locs ls hP hS hl hlo ⟨trivial, hso.2.2⟩)
set_option maxHeartbeats 1000000 in
theorem xso_iastore {G : xG} {E : xE} {d : Nat} {Q : xP} {pc len : Nat} {tg : List Nat} {cst : xV} {r : List xT} {lv st : List xV} {μ : xM} {k : xK} {p : Program} {e : Env} {s : State} {m : MethodId} {args : Array Value} {below : List Frame} {meth : Method} {c : Code} (hE : xEok E)
    (kN : ∀ lv st μ, k r lv st μ → WS G E (d + 1) (p, e, s, m, args, below, meth, c) Q (pc + len) lv st μ)
    (kJ : ∀ t e' r', E.2.2.1.drop t = e' :: r' → ∀ lv st μ, k (E.2.2.1.drop t) lv st μ → WS G E (d + 1) (p, e, s, m, args, below, meth, c) Q e'.1 lv st μ)
    (hdec : decode E.2.1.2.1 pc = .ok ((.iastore), len)) (hch : xchk E (pc, (.iastore), len, tg, cst) = true)
    (h : xstep (MW G d) E Q (pc, (.iastore), len, tg, cst) r lv st μ k) : WS G E (d + 1) (p, e, s, m, args, below, meth, c) Q pc lv st μ := by
  intro hG hC H locs ls hP hS hl hlo hso
  obtain ⟨hx, hb, hr, hml, hown, hts, hK, hlocks⟩ := id hC
  have hD := xD_wld hG μ
  have htw : ∀ w, xin w → w.before args s = true := fun w hw => hts w (List.mem_cons_of_mem _ (xin_gw hw))
  simp only [xchk, decide_eq_true_eq] at hch
  subst hch
  obtain ⟨x, s0, rfl, hh⟩ := xpI_ex (show xpI st _ from h)
  clear h
  have h := hh
  clear hh
  obtain ⟨j, s1, rfl, hh⟩ := xpI_ex h
  clear h
  have h := hh
  clear hh
  obtain ⟨q, s2, rfl, hh⟩ := xpR_ex h
  clear h
  have h := hh
  clear hh
  obtain ⟨n, ha, hin, h⟩ := xax_ex h
  have hq : xok q = true := hso.2.2.1
  obtain ⟨n1, hn1, hw1⟩ := xwld_get (ad := G.2.1) (cA := G.2.2.2) μ hq
  rw [xcell_arr ha] at hw1
  refine va_iast hx hb hK hP hD hS n1 0 hw1 rfl hin hdec (fun H1 locs1 hP1 hD1 hS1 => ?_)
  rw [xwld_arr hn1 ha] at hP1
  exact kN _ _ _ h hG hC H1 locs1 ls hP1 hS1 hl hlo hso.2.2.2
set_option maxHeartbeats 1000000 in
theorem xso_bastore {G : xG} {E : xE} {d : Nat} {Q : xP} {pc len : Nat} {tg : List Nat} {cst : xV} {r : List xT} {lv st : List xV} {μ : xM} {k : xK} {p : Program} {e : Env} {s : State} {m : MethodId} {args : Array Value} {below : List Frame} {meth : Method} {c : Code} (hE : xEok E)
    (kN : ∀ lv st μ, k r lv st μ → WS G E (d + 1) (p, e, s, m, args, below, meth, c) Q (pc + len) lv st μ)
    (kJ : ∀ t e' r', E.2.2.1.drop t = e' :: r' → ∀ lv st μ, k (E.2.2.1.drop t) lv st μ → WS G E (d + 1) (p, e, s, m, args, below, meth, c) Q e'.1 lv st μ)
    (hdec : decode E.2.1.2.1 pc = .ok ((.bastore), len)) (hch : xchk E (pc, (.bastore), len, tg, cst) = true)
    (h : xstep (MW G d) E Q (pc, (.bastore), len, tg, cst) r lv st μ k) : WS G E (d + 1) (p, e, s, m, args, below, meth, c) Q pc lv st μ := by
  intro hG hC H locs ls hP hS hl hlo hso
  obtain ⟨hx, hb, hr, hml, hown, hts, hK, hlocks⟩ := id hC
  have hD := xD_wld hG μ
  have htw : ∀ w, xin w → w.before args s = true := fun w hw => hts w (List.mem_cons_of_mem _ (xin_gw hw))
  simp only [xchk, decide_eq_true_eq] at hch
  subst hch
  obtain ⟨x, s0, rfl, hh⟩ := xpI_ex (show xpI st _ from h)
  clear h
  have h := hh
  clear hh
  obtain ⟨j, s1, rfl, hh⟩ := xpI_ex h
  clear h
  have h := hh
  clear hh
  obtain ⟨q, s2, rfl, hh⟩ := xpR_ex h
  clear h
  have h := hh
  clear hh
  obtain ⟨n, ha, hin, h⟩ := xax_ex h
  have hq : xok q = true := hso.2.2.1
  obtain ⟨n1, hn1, hw1⟩ := xwld_get (ad := G.2.1) (cA := G.2.2.2) μ hq
  rw [xcell_arr ha] at hw1
  refine va_zast hx hb hK hP hD hS n1 1 hw1 rfl hin hdec (fun H1 locs1 hP1 hD1 hS1 => ?_)
  rw [xwld_arr hn1 ha] at hP1
  exact kN _ _ _ h hG hC H1 locs1 ls hP1 hS1 hl hlo hso.2.2.2
set_option maxHeartbeats 1000000 in
theorem xso_castore {G : xG} {E : xE} {d : Nat} {Q : xP} {pc len : Nat} {tg : List Nat} {cst : xV} {r : List xT} {lv st : List xV} {μ : xM} {k : xK} {p : Program} {e : Env} {s : State} {m : MethodId} {args : Array Value} {below : List Frame} {meth : Method} {c : Code} (hE : xEok E)
    (kN : ∀ lv st μ, k r lv st μ → WS G E (d + 1) (p, e, s, m, args, below, meth, c) Q (pc + len) lv st μ)
    (kJ : ∀ t e' r', E.2.2.1.drop t = e' :: r' → ∀ lv st μ, k (E.2.2.1.drop t) lv st μ → WS G E (d + 1) (p, e, s, m, args, below, meth, c) Q e'.1 lv st μ)
    (hdec : decode E.2.1.2.1 pc = .ok ((.castore), len)) (hch : xchk E (pc, (.castore), len, tg, cst) = true)
    (h : xstep (MW G d) E Q (pc, (.castore), len, tg, cst) r lv st μ k) : WS G E (d + 1) (p, e, s, m, args, below, meth, c) Q pc lv st μ := by
  intro hG hC H locs ls hP hS hl hlo hso
  obtain ⟨hx, hb, hr, hml, hown, hts, hK, hlocks⟩ := id hC
  have hD := xD_wld hG μ
  have htw : ∀ w, xin w → w.before args s = true := fun w hw => hts w (List.mem_cons_of_mem _ (xin_gw hw))
  simp only [xchk, decide_eq_true_eq] at hch
  subst hch
  obtain ⟨x, s0, rfl, hh⟩ := xpI_ex (show xpI st _ from h)
  clear h
  have h := hh
  clear hh
  obtain ⟨j, s1, rfl, hh⟩ := xpI_ex h
  clear h
  have h := hh
  clear hh
  obtain ⟨q, s2, rfl, hh⟩ := xpR_ex h
  clear h
  have h := hh
  clear hh
  obtain ⟨n, ha, hin, h⟩ := xax_ex h
  have hq : xok q = true := hso.2.2.1
  obtain ⟨n1, hn1, hw1⟩ := xwld_get (ad := G.2.1) (cA := G.2.2.2) μ hq
  rw [xcell_arr ha] at hw1
  refine va_cast hx hb hK hP hD hS n1 2 hw1 rfl hin hdec (fun H1 locs1 hP1 hD1 hS1 => ?_)
  rw [xwld_arr hn1 ha] at hP1
  exact kN _ _ _ h hG hC H1 locs1 ls hP1 hS1 hl hlo hso.2.2.2
set_option maxHeartbeats 1000000 in
theorem xso_aaload {G : xG} {E : xE} {d : Nat} {Q : xP} {pc len : Nat} {tg : List Nat} {cst : xV} {r : List xT} {lv st : List xV} {μ : xM} {k : xK} {p : Program} {e : Env} {s : State} {m : MethodId} {args : Array Value} {below : List Frame} {meth : Method} {c : Code} (hE : xEok E)
    (kN : ∀ lv st μ, k r lv st μ → WS G E (d + 1) (p, e, s, m, args, below, meth, c) Q (pc + len) lv st μ)
    (kJ : ∀ t e' r', E.2.2.1.drop t = e' :: r' → ∀ lv st μ, k (E.2.2.1.drop t) lv st μ → WS G E (d + 1) (p, e, s, m, args, below, meth, c) Q e'.1 lv st μ)
    (hdec : decode E.2.1.2.1 pc = .ok ((.aaload), len)) (hch : xchk E (pc, (.aaload), len, tg, cst) = true)
    (h : xstep (MW G d) E Q (pc, (.aaload), len, tg, cst) r lv st μ k) : WS G E (d + 1) (p, e, s, m, args, below, meth, c) Q pc lv st μ := by
  intro hG hC H locs ls hP hS hl hlo hso
  obtain ⟨hx, hb, hr, hml, hown, hts, hK, hlocks⟩ := id hC
  have hD := xD_wld hG μ
  have htw : ∀ w, xin w → w.before args s = true := fun w hw => hts w (List.mem_cons_of_mem _ (xin_gw hw))
  simp only [xchk, decide_eq_true_eq] at hch
  subst hch
  obtain ⟨j, s1, rfl, hh⟩ := xpI_ex (show xpI st _ from h)
  clear h
  have h := hh
  clear hh
  obtain ⟨q, s2, rfl, hh⟩ := xpR_ex h
  clear h
  have h := hh
  clear hh
  have hq : xok q = true := hso.2.1
  obtain ⟨k1, j1, c1⟩ := q
  have hk1 : k1 = 10 := by
    unfold xrg at h
    split at h
    · rename_i heq; cases heq; rfl
    · exact h.elim
  subst hk1
  have h : vp_in j 5 ∧ k r lv (vR (4, 2 + j.toNatClampNeg, 0) :: s2) μ := h
  obtain ⟨n1, hn1, hw1⟩ := xwld_get (ad := G.2.1) (cA := G.2.2.2) μ hq
  have hlt : j.toNatClampNeg < 5 := Nat.not_le.mp fun z => h.1 (Or.inr z)
  exact va_aldq hx hb hK hP n1 3 hw1 rfl h.1 hdec (kN _ _ _ h.2 hG hC H locs ls hP hS hl hlo ⟨by show xok _ = true; simp [xok]; omega, hso.2.2⟩)
set_option maxHeartbeats 1000000 in
theorem xso_invokevirtual {G : xG} {E : xE} {d : Nat} {Q : xP} {pc len : Nat} {tg : List Nat} {cst : xV} {r : List xT} {lv st : List xV} {μ : xM} {k : xK} {p : Program} {e : Env} {s : State} {m : MethodId} {args : Array Value} {below : List Frame} {meth : Method} {c : Code} (n : Nat) (hE : xEok E)
    (kN : ∀ lv st μ, k r lv st μ → WS G E (d + 1) (p, e, s, m, args, below, meth, c) Q (pc + len) lv st μ)
    (kJ : ∀ t e' r', E.2.2.1.drop t = e' :: r' → ∀ lv st μ, k (E.2.2.1.drop t) lv st μ → WS G E (d + 1) (p, e, s, m, args, below, meth, c) Q e'.1 lv st μ)
    (hdec : decode E.2.1.2.1 pc = .ok ((.invokevirtual n), len)) (hch : xchk E (pc, (.invokevirtual n), len, tg, cst) = true)
    (h : xstep (MW G d) E Q (pc, (.invokevirtual n), len, tg, cst) r lv st μ k) : WS G E (d + 1) (p, e, s, m, args, below, meth, c) Q pc lv st μ := by
  intro hG hC H locs ls hP hS hl hlo hso
  obtain ⟨hx, hb, hr, hml, hown, hts, hK, hlocks⟩ := id hC
  have hD := xD_wld hG μ
  have htw : ∀ w, xin w → w.before args s = true := fun w hw => hts w (List.mem_cons_of_mem _ (xin_gw hw))
  simp only [xchk, Bool.and_eq_true, decide_eq_true_eq] at hch
  obtain ⟨hlen, hc⟩ := hch
  subst hlen
  obtain ⟨qe, rr, hd1, h⟩ := xfind_ex (show xfind _ _ _ from h)
  have hc : qe.1 = n ∧ qe.2.1 = xt1 tg := by
    unfold xme at hc
    rw [hd1] at hc
    simpa using hc
  obtain ⟨B1, s1, rfl, hB1, hh⟩ := xargs_ex _ _ _ _ h
  clear h
  have h := hh
  clear hh
  obtain ⟨q, s2, rfl, hh⟩ := xpR_ex h
  clear h
  have h := hh
  clear hh
  obtain ⟨⟨fs, ho⟩, h⟩ := xro_ex h
  obtain ⟨h8, h⟩ := xif8_ex h
  obtain ⟨⟨T, N, hcl⟩, ⟨hml1, hcode, hini, hn1, hn2, hpar, h21⟩, hinst, hsel⟩ := hE.2.2.2.1.2.1 qe (xdrop_mem hd1)
  rw [hc.2] at hcl
  rw [hc.1] at hml1
  rw [List.append_nil] at h
  obtain ⟨hso1, hso2⟩ := xoks_app hso
  have hq : xok q = true := hso2.1
  have hM := h hG (fun v hv => by
    rcases List.mem_cons.mp hv with rfl | hv
    · exact hq
    · exact xoks_mem hso1 v (List.mem_reverse.mpr hv))
  obtain ⟨n2, hn2', hw2⟩ := xwld_get (ad := G.2.1) (cA := G.2.2.2) μ hq
  rw [xcell_obj ho] at hw2
  have hgood : GoodIn (xws E.2.1) (xws qe.2.2) := by
    intro w hw
    rcases List.mem_cons.mp hw with rfl | hw
    · exact ⟨List.mem_cons_of_mem _ (xin_gw hcode), xgood (xin_gw hcode)⟩
    · exact ⟨List.mem_cons_of_mem _ hw, xgood hw⟩
  refine xcall_go (va_runV (As := B1.map (xrv G.2.1)) (rest := s2.map (xrv G.2.1)) (b := G.2.1 q) ⟨hx, hb, hml, hown, hts⟩ hM ⟨callB_of qe.2.2.2.2.2.2 hts hgood rfl rfl rfl (htw _ hini) (htw _ hml1) ⟨hn1, hn2, hpar⟩ ⟨Nat.le_refl _, by show 8 + (qe.2.2.2.2.1 + 11) + 40 * d ≤ 40 * (d + 1); omega⟩, htw _ hinst, htw _ hsel⟩ ⟨xblind G _ μ, va_recv hK hP (ci := xt1 tg) (q0 := n2) hcl hw2, fun U hU hW => ⟨rfl, by rw [hU]; exact hP, va_K.moved hW.alike hK⟩⟩ rfl (by rw [List.length_map]; exact hB1) hl.1 (by simp [xrv]) (lv_room (by rw [xcats_eq]; exact h8)) hdec ⟨Nat.le_refl _, Nat.le_refl _⟩) hS (fun r1 μ' H1 locs1 hq1 hv1 hP1 hS1 => ?_)
  obtain ⟨st', hk', est, hok'⟩ := xret_ex (ad := G.2.1) hq1
  rw [est]
  exact kN _ _ _ hk' hG hC H1 locs1 ls hP1 hS1 hl hlo (hok' hso2.2 hv1)
set_option maxHeartbeats 1000000 in
theorem xso_invokestatic {G : xG} {E : xE} {d : Nat} {Q : xP} {pc len : Nat} {tg : List Nat} {cst : xV} {r : List xT} {lv st : List xV} {μ : xM} {k : xK} {p : Program} {e : Env} {s : State} {m : MethodId} {args : Array Value} {below : List Frame} {meth : Method} {c : Code} (n : Nat) (hE : xEok E)
    (kN : ∀ lv st μ, k r lv st μ → WS G E (d + 1) (p, e, s, m, args, below, meth, c) Q (pc + len) lv st μ)
    (kJ : ∀ t e' r', E.2.2.1.drop t = e' :: r' → ∀ lv st μ, k (E.2.2.1.drop t) lv st μ → WS G E (d + 1) (p, e, s, m, args, below, meth, c) Q e'.1 lv st μ)
    (hdec : decode E.2.1.2.1 pc = .ok ((.invokestatic n), len)) (hch : xchk E (pc, (.invokestatic n), len, tg, cst) = true)
    (h : xstep (MW G d) E Q (pc, (.invokestatic n), len, tg, cst) r lv st μ k) : WS G E (d + 1) (p, e, s, m, args, below, meth, c) Q pc lv st μ := by
  intro hG hC H locs ls hP hS hl hlo hso
  obtain ⟨hx, hb, hr, hml, hown, hts, hK, hlocks⟩ := id hC
  have hD := xD_wld hG μ
  have htw : ∀ w, xin w → w.before args s = true := fun w hw => hts w (List.mem_cons_of_mem _ (xin_gw hw))
  simp only [xchk, Bool.and_eq_true, decide_eq_true_eq] at hch
  obtain ⟨hlen, hc⟩ := hch
  subst hlen
  simp only [xstep] at h
  split at h
  · rename_i h0
    rw [h0] at hc
    obtain ⟨qe, rr, hd1, h⟩ := xfind_ex h
    have hc : qe.1 = n := by
      have hc : xme0 _ _ _ = true := hc
      unfold xme0 at hc
      rw [hd1] at hc
      simpa using hc
    obtain ⟨B1, s1, rfl, hB1, hh⟩ := xargs_ex _ _ _ _ h
    clear h
    have h := hh
    clear hh
    obtain ⟨h8, h⟩ := xif8_ex h
    obtain ⟨⟨hml1, hcode, hini, hn1, hn2, hpar, h21⟩, hstat⟩ := hE.2.2.2.1.2.2.1 qe (xdrop_mem hd1)
    rw [hc] at hml1
    rw [List.append_nil] at h
    obtain ⟨hso1, hso2⟩ := xoks_app hso
    have hM := h hG (fun v hv => xoks_mem hso1 v (List.mem_reverse.mpr hv))
    have hgood : GoodIn (xws E.2.1) (xws qe.2.2) := by
      intro w hw
      rcases List.mem_cons.mp hw with rfl | hw
      · exact ⟨List.mem_cons_of_mem _ (xin_gw hcode), xgood (xin_gw hcode)⟩
      · exact ⟨List.mem_cons_of_mem _ hw, xgood hw⟩
    refine xcall_go (va_runS (As := B1.map (xrv G.2.1)) (rest := s1.map (xrv G.2.1)) ⟨hx, hb, hml, hown, hts⟩ hM ⟨callB_of qe.2.2.2.2.2.2 hts hgood rfl rfl rfl (htw _ hini) (htw _ hml1) ⟨hn1, hn2, hpar⟩ ⟨Nat.le_refl _, by show 8 + (qe.2.2.2.2.1 + 11) + 40 * d ≤ 40 * (d + 1); omega⟩, htw _ hstat⟩ ⟨xblind G _ μ, fun U hU hW => ⟨rfl, by rw [hU]; exact hP, va_K.moved hW.alike hK⟩⟩ rfl (by rw [List.length_map]; exact hB1) hl.1 (by simp) (lv_room (by rw [xcats_eq]; exact h8)) hdec ⟨Nat.le_refl _, Nat.le_refl _⟩) hS (fun r1 μ' H1 locs1 hq1 hv1 hP1 hS1 => ?_)
    obtain ⟨st', hk', est, hok'⟩ := xret_ex (ad := G.2.1) hq1
    rw [est]
    exact kN _ _ _ hk' hG hC H1 locs1 ls hP1 hS1 hl hlo (hok' hso2 hv1)
  · rename_i h0
    rw [h0] at hc
    obtain ⟨q, hq, eq⟩ := List.any_eq_true.mp (show List.any _ _ = true from hc)
    have eq := of_decide_eq_true eq
    have hF := (hE.2.2.2.1.2.2.2.2 q hq).1 (by rw [eq])
    rw [eq] at hF
    obtain ⟨f1, f2, f3, f4⟩ := hF
    obtain ⟨y, s1, rfl, hh⟩ := xpI_ex h
    clear h
    have h := hh
    clear hh
    obtain ⟨x, s2, rfl, hh⟩ := xpI_ex h
    clear h
    have h := hh
    clear hh
    obtain ⟨h8, h⟩ := xif8_ex h
    exact va_mmin hx hb (hml.trans hl.1.symm) hown (htw _ f1) (htw _ f2) (htw _ f3) (htw _ f4) (Nat.le_add_left 1 d) (by rw [xcats_eq]; show xcats s2 + 13 ≤ 40 * (d + 1); omega) (Nat.le_refl _) (Nat.le_refl _) hdec (kN _ _ _ h hG hC H locs ls hP hS hl hlo ⟨trivial, hso.2.2⟩)
  · rename_i h0 h1
    have hc : List.any E.2.2.2.2.2.2.2.2 (fun q => decide (q = (n, 2))) = true := by
      split at hc
      · rename_i z; exact absurd z h0
      · rename_i z; exact absurd z h1
      · exact hc
    obtain ⟨q, hq, eq⟩ := List.any_eq_true.mp hc
    have eq := of_decide_eq_true eq
    have hF := (hE.2.2.2.1.2.2.2.2 q hq).2 (by rw [eq])
    rw [eq] at hF
    obtain ⟨f1, f2, f3, f4⟩ := hF
    obtain ⟨z, s1, rfl, hh⟩ := xpI_ex h
    clear h
    have h := hh
    clear hh
    obtain ⟨dp, s2, rfl, hh⟩ := xpI_ex h
    clear h
    have h := hh
    clear hh
    obtain ⟨qb, s3, rfl, hh⟩ := xpR_ex h
    clear h
    have h := hh
    clear hh
    obtain ⟨sp, s4, rfl, hh⟩ := xpI_ex h
    clear h
    have h := hh
    clear hh
    obtain ⟨qa, s5, rfl, hh⟩ := xpR_ex h
    clear h
    have h := hh
    clear hh
    obtain ⟨za, ha, h⟩ := xax_ex h
    obtain ⟨zb, hb1, h⟩ := xax_ex h
    rcases s5 with _ | ⟨v, s5⟩
    · obtain ⟨g1, g2, g3, g4, g5, h⟩ := (show _ ∧ _ ∧ _ ∧ _ ∧ _ ∧ _ from h)
      have hqb : xok qb = true := hso.2.2.1
      have hqa : xok qa = true := hso.2.2.2.2.1
      obtain ⟨na, hna, hwa⟩ := xwld_get (ad := G.2.1) (cA := G.2.2.2) μ hqa
      obtain ⟨nb, hnb, hwb⟩ := xwld_get (ad := G.2.1) (cA := G.2.2.2) μ hqb
      rw [xcell_arr ha] at hwa
      rw [xcell_arr hb1] at hwb
      refine va_copyi hx hb (hml.trans hl.1.symm) hown (htw _ f1) (htw _ f2) (htw _ f3) (htw _ f4) hK hP hD hS na nb 0 0 hwa hwb rfl rfl rfl g1 g2 g3 g4 g5 (fun _ _ => rfl) (Nat.le_add_left 1 d) (by rw [show (List.map (fun v => Value.category v) (List.map (xrv G.2.1) [])).sum = 0 from rfl]; show 0 + (nativeFrameWords "java/lang/System" "arraycopy" 5 + 11) ≤ 40 * (d + 1); exact Nat.le_trans xnat_le (by omega)) hdec (fun H1 locs1 hP1 hD1 hS1 => ?_)
      rw [xwld_cpy hnb hb1] at hP1
      exact kN _ _ _ h hG hC H1 locs1 ls hP1 hS1 hl hlo trivial
    · exact (show False from h).elim
set_option maxHeartbeats 1000000 in
theorem xso_ireturn {G : xG} {E : xE} {d : Nat} {Q : xP} {pc len : Nat} {tg : List Nat} {cst : xV} {r : List xT} {lv st : List xV} {μ : xM} {k : xK} {p : Program} {e : Env} {s : State} {m : MethodId} {args : Array Value} {below : List Frame} {meth : Method} {c : Code} (hE : xEok E)
    (kN : ∀ lv st μ, k r lv st μ → WS G E (d + 1) (p, e, s, m, args, below, meth, c) Q (pc + len) lv st μ)
    (kJ : ∀ t e' r', E.2.2.1.drop t = e' :: r' → ∀ lv st μ, k (E.2.2.1.drop t) lv st μ → WS G E (d + 1) (p, e, s, m, args, below, meth, c) Q e'.1 lv st μ)
    (hdec : decode E.2.1.2.1 pc = .ok ((.ireturn), len)) (hch : xchk E (pc, (.ireturn), len, tg, cst) = true)
    (h : xstep (MW G d) E Q (pc, (.ireturn), len, tg, cst) r lv st μ k) : WS G E (d + 1) (p, e, s, m, args, below, meth, c) Q pc lv st μ := by
  intro hG hC H locs ls hP hS hl hlo hso
  obtain ⟨hx, hb, hr, hml, hown, hts, hK, hlocks⟩ := id hC
  have hD := xD_wld hG μ
  have htw : ∀ w, xin w → w.before args s = true := fun w hw => hts w (List.mem_cons_of_mem _ (xin_gw hw))
  simp only [xchk, decide_eq_true_eq] at hch
  subst hch
  obtain ⟨x, s1, rfl, hh⟩ := xpI_ex (show xpI st _ from h)
  clear h
  have h := hh
  clear hh
  rcases s1 with _ | ⟨v, s1⟩
  · have h : xri E.2.1.2.2.2.1 x (Q (some (vI x)) μ) := h
    unfold xri at h
    split at h
    · rename_i hrt
      exact W.iret hx hb (hr.trans hrt) (fun t ht hW => ⟨⟨some (vI x), μ, h, rfl, fun v hv => by cases hv; exact trivial, by rw [xB, ht]; exact ⟨hP, va_K.moved hW.alike hK⟩⟩, hS.F ht⟩) hS.2.2 hdec hlocks
    · rename_i hrt
      exact W.zret hx hb (hr.trans hrt) (by rcases h.1 with rfl | rfl <;> rfl) (fun t ht hW => ⟨⟨some (vI x), μ, h.2, rfl, fun v hv => by cases hv; exact trivial, by rw [xB, ht]; exact ⟨hP, va_K.moved hW.alike hK⟩⟩, hS.F ht⟩) hS.2.2 hdec hlocks
    · exact h.elim
  · exact (show False from h).elim
set_option maxHeartbeats 1000000 in
theorem xso_lreturn {G : xG} {E : xE} {d : Nat} {Q : xP} {pc len : Nat} {tg : List Nat} {cst : xV} {r : List xT} {lv st : List xV} {μ : xM} {k : xK} {p : Program} {e : Env} {s : State} {m : MethodId} {args : Array Value} {below : List Frame} {meth : Method} {c : Code} (hE : xEok E)
    (kN : ∀ lv st μ, k r lv st μ → WS G E (d + 1) (p, e, s, m, args, below, meth, c) Q (pc + len) lv st μ)
    (kJ : ∀ t e' r', E.2.2.1.drop t = e' :: r' → ∀ lv st μ, k (E.2.2.1.drop t) lv st μ → WS G E (d + 1) (p, e, s, m, args, below, meth, c) Q e'.1 lv st μ)
    (hdec : decode E.2.1.2.1 pc = .ok ((.lreturn), len)) (hch : xchk E (pc, (.lreturn), len, tg, cst) = true)
    (h : xstep (MW G d) E Q (pc, (.lreturn), len, tg, cst) r lv st μ k) : WS G E (d + 1) (p, e, s, m, args, below, meth, c) Q pc lv st μ := by
  intro hG hC H locs ls hP hS hl hlo hso
  obtain ⟨hx, hb, hr, hml, hown, hts, hK, hlocks⟩ := id hC
  have hD := xD_wld hG μ
  have htw : ∀ w, xin w → w.before args s = true := fun w hw => hts w (List.mem_cons_of_mem _ (xin_gw hw))
  simp only [xchk, decide_eq_true_eq] at hch
  subst hch
  obtain ⟨x, s1, rfl, hh⟩ := xpL_ex (show xpL st _ from h)
  clear h
  have h := hh
  clear hh
  rcases s1 with _ | ⟨v, s1⟩
  · have h : xrl E.2.1.2.2.2.1 (Q (some (vL x)) μ) := h
    unfold xrl at h
    split at h
    · rename_i hrt
      exact W.lret hx hb (hr.trans hrt) (fun t ht hW => ⟨⟨some (vL x), μ, h, rfl, fun v hv => by cases hv; exact trivial, by rw [xB, ht]; exact ⟨hP, va_K.moved hW.alike hK⟩⟩, hS.F ht⟩) hS.2.2 hdec hlocks
    · exact h.elim
  · exact (show False from h).elim
set_option maxHeartbeats 1000000 in
theorem xso_areturn {G : xG} {E : xE} {d : Nat} {Q : xP} {pc len : Nat} {tg : List Nat} {cst : xV} {r : List xT} {lv st : List xV} {μ : xM} {k : xK} {p : Program} {e : Env} {s : State} {m : MethodId} {args : Array Value} {below : List Frame} {meth : Method} {c : Code} (hE : xEok E)
    (kN : ∀ lv st μ, k r lv st μ → WS G E (d + 1) (p, e, s, m, args, below, meth, c) Q (pc + len) lv st μ)
    (kJ : ∀ t e' r', E.2.2.1.drop t = e' :: r' → ∀ lv st μ, k (E.2.2.1.drop t) lv st μ → WS G E (d + 1) (p, e, s, m, args, below, meth, c) Q e'.1 lv st μ)
    (hdec : decode E.2.1.2.1 pc = .ok ((.areturn), len)) (hch : xchk E (pc, (.areturn), len, tg, cst) = true)
    (h : xstep (MW G d) E Q (pc, (.areturn), len, tg, cst) r lv st μ k) : WS G E (d + 1) (p, e, s, m, args, below, meth, c) Q pc lv st μ := by
  intro hG hC H locs ls hP hS hl hlo hso
  obtain ⟨hx, hb, hr, hml, hown, hts, hK, hlocks⟩ := id hC
  have hD := xD_wld hG μ
  have htw : ∀ w, xin w → w.before args s = true := fun w hw => hts w (List.mem_cons_of_mem _ (xin_gw hw))
  simp only [xchk, decide_eq_true_eq] at hch
  subst hch
  have key : ∀ q : Option xI, st = [.inr (.inr q)] → W p G.1 e (xrm (d + 1)) s m args below meth c H locs 0 0 (MQ below (xQc G Q) args s 0 0 (xA G.2.1)) (F0 m pc ls (st.map (xrv G.2.1))) := by
    intro q hq
    subst hq
    have h : xra E.2.1.2.2.2.1 (Q (some (.inr (.inr q))) μ) := h
    unfold xra at h
    split at h
    · rename_i nm hrt
      refine W.aret (v := xrv G.2.1 (.inr (.inr q))) hx hb (hr.trans hrt) (Or.inl ⟨_, rfl⟩) ?_ (fun t ht hW => ⟨⟨some (.inr (.inr q)), μ, h, rfl, fun v hv => by cases hv; exact hso.1, by rw [xB, ht]; exact ⟨hP, va_K.moved hW.alike hK⟩⟩, hS.F ht⟩) hS.2.2 hdec hlocks
      cases q with
      | none => exact Or.inl rfl
      | some q => exact Or.inr ⟨_, rfl⟩
    · exact h.elim
  rcases st with _ | ⟨x | x | q, _ | ⟨v, s1⟩⟩ <;> first | exact (show False from h).elim | exact key _ rfl
set_option maxHeartbeats 1000000 in
theorem xso_return_ {G : xG} {E : xE} {d : Nat} {Q : xP} {pc len : Nat} {tg : List Nat} {cst : xV} {r : List xT} {lv st : List xV} {μ : xM} {k : xK} {p : Program} {e : Env} {s : State} {m : MethodId} {args : Array Value} {below : List Frame} {meth : Method} {c : Code} (hE : xEok E)
    (kN : ∀ lv st μ, k r lv st μ → WS G E (d + 1) (p, e, s, m, args, below, meth, c) Q (pc + len) lv st μ)
    (kJ : ∀ t e' r', E.2.2.1.drop t = e' :: r' → ∀ lv st μ, k (E.2.2.1.drop t) lv st μ → WS G E (d + 1) (p, e, s, m, args, below, meth, c) Q e'.1 lv st μ)
    (hdec : decode E.2.1.2.1 pc = .ok ((.return_), len)) (hch : xchk E (pc, (.return_), len, tg, cst) = true)
    (h : xstep (MW G d) E Q (pc, (.return_), len, tg, cst) r lv st μ k) : WS G E (d + 1) (p, e, s, m, args, below, meth, c) Q pc lv st μ := by
  intro hG hC H locs ls hP hS hl hlo hso
  obtain ⟨hx, hb, hr, hml, hown, hts, hK, hlocks⟩ := id hC
  have hD := xD_wld hG μ
  have htw : ∀ w, xin w → w.before args s = true := fun w hw => hts w (List.mem_cons_of_mem _ (xin_gw hw))
  simp only [xchk, decide_eq_true_eq] at hch
  subst hch
  rcases st with _ | ⟨v, s1⟩
  · have h : xrn E.2.1.2.2.2.1 (Q none μ) := h
    unfold xrn at h
    split at h
    · rename_i hrt
      exact W.vret hx hb (hr.trans hrt) (fun t ht hW => ⟨⟨none, μ, h, rfl, fun v hv => (by cases hv), by rw [xB, ht]; exact ⟨hP, va_K.moved hW.alike hK⟩⟩, hS.F ht⟩) hS.2.2 hdec hlocks
    · exact h.elim
  · exact (show False from h).elim
end
section
theorem xstep_sound {G : xG} {E : xE} {d : Nat} {Z : xZ} {Q : xP} {pc : Nat} {i : Instr} {len : Nat} {tg : List Nat} {cst : xV} {r : List xT} {lv st : List xV} {μ : xM} {k : xK} (hE : xEok E) (hmem : (pc, i, len, tg, cst) ∈ E.2.2.1)
    (kN : ∀ lv st μ, k r lv st μ → WS G E (d + 1) Z Q (pc + len) lv st μ)
    (kJ : ∀ t e' r', E.2.2.1.drop t = e' :: r' → ∀ lv st μ, k (E.2.2.1.drop t) lv st μ → WS G E (d + 1) Z Q e'.1 lv st μ)
    (h : xstep (MW G d) E Q (pc, i, len, tg, cst) r lv st μ k) : WS G E (d + 1) Z Q pc lv st μ := by
  obtain ⟨p, e, s, m, args, below, meth, c⟩ := Z
  have hdec := hE.1 (pc, i, len, tg, cst) hmem
  have hch := List.all_eq_true.mp hE.2.1 (pc, i, len, tg, cst) hmem
  clear hmem
  cases i
  case iload_n n => exact xso_iload_n _ hE kN kJ hdec hch h
  case iload n => exact xso_iload _ hE kN kJ hdec hch h
  case lload_n n => exact xso_lload_n _ hE kN kJ hdec hch h
  case lload n => exact xso_lload _ hE kN kJ hdec hch h
  case aload_n n => exact xso_aload_n _ hE kN kJ hdec hch h
  case aload n => exact xso_aload _ hE kN kJ hdec hch h
  case istore_n n => exact xso_istore_n _ hE kN kJ hdec hch h
  case istore n => exact xso_istore _ hE kN kJ hdec hch h
  case lstore_n n => exact xso_lstore_n _ hE kN kJ hdec hch h
  case lstore n => exact xso_lstore _ hE kN kJ hdec hch h
  case astore_n n => exact xso_astore_n _ hE kN kJ hdec hch h
  case astore n => exact xso_astore _ hE kN kJ hdec hch h
  case iconst n => exact xso_iconst _ hE kN kJ hdec hch h
  case bipush n => exact xso_bipush _ hE kN kJ hdec hch h
  case sipush n => exact xso_sipush _ hE kN kJ hdec hch h
  case lconst n => exact xso_lconst _ hE kN kJ hdec hch h
  case ldc n => exact xso_ldc _ hE kN kJ hdec hch h
  case ldc_w n => exact xso_ldc_w _ hE kN kJ hdec hch h
  case ldc2_w n => exact xso_ldc2_w _ hE kN kJ hdec hch h
  case aconst_null => exact xso_aconst_null hE kN kJ hdec hch h
  case iadd => exact xso_iadd hE kN kJ hdec hch h
  case isub => exact xso_isub hE kN kJ hdec hch h
  case imul => exact xso_imul hE kN kJ hdec hch h
  case iand => exact xso_iand hE kN kJ hdec hch h
  case ior => exact xso_ior hE kN kJ hdec hch h
  case ixor => exact xso_ixor hE kN kJ hdec hch h
  case ishl => exact xso_ishl hE kN kJ hdec hch h
  case ishr => exact xso_ishr hE kN kJ hdec hch h
  case iushr => exact xso_iushr hE kN kJ hdec hch h
  case idiv => exact xso_idiv hE kN kJ hdec hch h
  case irem => exact xso_irem hE kN kJ hdec hch h
  case ladd => exact xso_ladd hE kN kJ hdec hch h
  case lsub => exact xso_lsub hE kN kJ hdec hch h
  case land => exact xso_land hE kN kJ hdec hch h
  case lor => exact xso_lor hE kN kJ hdec hch h
  case lcmp => exact xso_lcmp hE kN kJ hdec hch h
  case lshl => exact xso_lshl hE kN kJ hdec hch h
  case lshr => exact xso_lshr hE kN kJ hdec hch h
  case lushr => exact xso_lushr hE kN kJ hdec hch h
  case ineg => exact xso_ineg hE kN kJ hdec hch h
  case i2c => exact xso_i2c hE kN kJ hdec hch h
  case i2l => exact xso_i2l hE kN kJ hdec hch h
  case l2i => exact xso_l2i hE kN kJ hdec hch h
  case iinc n q => exact xso_iinc _ _ hE kN kJ hdec hch h
  case dup => exact xso_dup hE kN kJ hdec hch h
  case dup2 => exact xso_dup2 hE kN kJ hdec hch h
  case pop => exact xso_pop hE kN kJ hdec hch h
  case ifCond cnd o => exact xso_ifCond _ _ hE kN kJ hdec hch h
  case if_icmp cnd o => exact xso_if_icmp _ _ hE kN kJ hdec hch h
  case ifnull o => exact xso_ifnull _ hE kN kJ hdec hch h
  case goto o => exact xso_goto _ hE kN kJ hdec hch h
  case tableswitch dd lo hi offs => exact xso_tableswitch _ _ _ _ hE kN kJ hdec hch h
  case lookupswitch dd ps => exact xso_lookupswitch _ _ hE kN kJ hdec hch h
  case getfield n => exact xso_getfield _ hE kN kJ hdec hch h
  case putfield n => exact xso_putfield _ hE kN kJ hdec hch h
  case arraylength => exact xso_arraylength hE kN kJ hdec hch h
  case iaload => exact xso_iaload hE kN kJ hdec hch h
  case baload => exact xso_baload hE kN kJ hdec hch h
  case caload => exact xso_caload hE kN kJ hdec hch h
  case iastore => exact xso_iastore hE kN kJ hdec hch h
  case bastore => exact xso_bastore hE kN kJ hdec hch h
  case castore => exact xso_castore hE kN kJ hdec hch h
  case aaload => exact xso_aaload hE kN kJ hdec hch h
  case invokevirtual n => exact xso_invokevirtual _ hE kN kJ hdec hch h
  case invokestatic n => exact xso_invokestatic _ hE kN kJ hdec hch h
  case ireturn => exact xso_ireturn hE kN kJ hdec hch h
  case lreturn => exact xso_lreturn hE kN kJ hdec hch h
  case areturn => exact xso_areturn hE kN kJ hdec hch h
  case return_ => exact xso_return_ hE kN kJ hdec hch h
  all_goals exact (show False from h).elim
end
section
/-! many steps at once, up to the next heads; a method's contract from its first place -/
def wpC (G : xG) (E : xE) (d : Nat) (Z : xZ) (Q : xP) : Nat → xK
  | 0, _, _, _, _ => False
  | n + 1, rest, lv, st, μ => match rest with
    | [] => False
    | e :: r => match xlook E.2.2.2.1 e.1 with
      | some b => WS G E (d + 1) Z Q e.1 (xmask b lv) st μ
      | none => xstep (MW G d) E Q e r lv st μ (wpC G E d Z Q n)
def xfrom : List xT → Nat → List xT
  | [], _ => []
  | e :: l, n => match Nat.beq e.1 n with
    | true => e :: l
    | false => xfrom l n
def xgo (G : xG) (E : xE) (d : Nat) (Z : xZ) (Q : xP) (n pc : Nat) (lv st : List xV) (μ : xM) : Prop := match xfrom E.2.2.1 pc with
  | e :: r => xstep (MW G d) E Q e r lv st μ (wpC G E d Z Q n)
  | [] => False
theorem WS_mask {G : xG} {E : xE} {d : Nat} {Z : xZ} {Q : xP} {pc : Nat} {lv st : List xV} {μ : xM} (b : List Bool) (h : WS G E d Z Q pc (xmask b lv) st μ) : WS G E d Z Q pc lv st μ := by
  obtain ⟨p, e, s, m, args, below, meth, c⟩ := Z
  intro hG hC H locs ls hP hS hl hlo hso
  exact h hG hC H locs ls hP hS (xLv_mask b hl) (xlok_mask b hlo) hso
theorem xcont_suf : ∀ (a l : List xT), xcont (a ++ l) = true → xcont l = true
  | [], l, h => h
  | e :: a, l, h => by
    have h : (_ && xcont (a ++ l)) = true := h
    rw [Bool.and_eq_true] at h
    exact xcont_suf a l h.2
theorem xcont_next {tb : List xT} (h : xcont tb = true) {e e' : xT} {r : List xT} (hs : e :: e' :: r <:+ tb) : e'.1 = e.1 + e.2.2.1 := by
  obtain ⟨a, rfl⟩ := hs
  have h1 := xcont_suf a _ h
  have h2 : (decide (e'.1 = e.1 + e.2.2.1) && xcont (e' :: r)) = true := h1
  rw [Bool.and_eq_true] at h2
  exact of_decide_eq_true h2.1
theorem wpC_nil {G : xG} {E : xE} {d : Nat} {Z : xZ} {Q : xP} {n : Nat} {lv st : List xV} {μ : xM} (h : wpC G E d Z Q n [] lv st μ) : False := by
  cases n <;> exact h
theorem wpC_sound {G : xG} {E : xE} {d : Nat} {Z : xZ} {Q : xP} (hE : xEok E) : ∀ (n : Nat) (e : xT) (r : List xT) (lv st : List xV) (μ : xM), e :: r <:+ E.2.2.1 → wpC G E d Z Q n (e :: r) lv st μ → WS G E (d + 1) Z Q e.1 lv st μ := by
  intro n
  induction n with
  | zero => intro e r lv st μ _ h; exact h.elim
  | succ n ih =>
    intro e r lv st μ hs h
    have h : (match xlook E.2.2.2.1 e.1 with
      | some b => WS G E (d + 1) Z Q e.1 (xmask b lv) st μ
      | none => xstep (MW G d) E Q e r lv st μ (wpC G E d Z Q n)) := h
    split at h
    · rename_i b hb
      exact WS_mask b h
    · obtain ⟨pc, i, len, tg, cst⟩ := e
      refine xstep_sound hE (hs.subset List.mem_cons_self) (fun lv st μ hk => ?_) (fun t e' r' hd lv st μ hk => ?_) h
      · cases r with
        | nil => exact (wpC_nil hk).elim
        | cons e' r' =>
          have h1 := xcont_next hE.2.2.1 hs
          have h2 := ih e' r' lv st μ ((List.suffix_cons _ _).trans hs) hk
          rw [h1] at h2
          exact h2
      · rw [hd] at hk
        exact ih e' r' lv st μ (by rw [← hd]; exact List.drop_suffix t _) hk
theorem xfrom_suf : ∀ (tb : List xT) (pc : Nat) (e : xT) (r : List xT), xfrom tb pc = e :: r → e :: r <:+ tb ∧ e.1 = pc
  | [], pc, e, r, h => by cases h
  | a :: l, pc, e, r, h => by
    cases hb : Nat.beq a.1 pc with
    | true =>
      have h : (match Nat.beq a.1 pc with | true => a :: l | false => xfrom l pc) = e :: r := h
      rw [hb] at h
      cases h
      exact ⟨List.suffix_refl _, Nat.eq_of_beq_eq_true hb⟩
    | false =>
      have h : (match Nat.beq a.1 pc with | true => a :: l | false => xfrom l pc) = e :: r := h
      rw [hb] at h
      obtain ⟨h1, h2⟩ := xfrom_suf l pc e r h
      exact ⟨h1.trans (List.suffix_cons _ _), h2⟩
/-- a stretch of a method, computed -/
theorem WS.go {G : xG} {E : xE} {d : Nat} {Z : xZ} {Q : xP} {pc : Nat} {lv st : List xV} {μ : xM} (hE : xEok E) (n : Nat) (h : xgo G E d Z Q n pc lv st μ) : WS G E (d + 1) Z Q pc lv st μ := by
  unfold xgo at h
  split at h
  · rename_i e r he
    obtain ⟨hs, hp⟩ := xfrom_suf _ _ _ _ he
    obtain ⟨pc', i, len, tg, cst⟩ := e
    have hp : pc' = pc := hp
    subst hp
    refine xstep_sound hE (hs.subset List.mem_cons_self) (fun lv st μ hk => ?_) (fun t e' r' hd lv st μ hk => ?_) h
    · cases r with
      | nil => exact (wpC_nil hk).elim
      | cons e' r' =>
        have h1 := xcont_next hE.2.2.1 hs
        have h2 := wpC_sound hE n e' r' lv st μ ((List.suffix_cons _ _).trans hs) hk
        rw [h1] at h2
        exact h2
    · rw [hd] at hk
      exact wpC_sound hE n e' r' lv st μ (by rw [← hd]; exact List.drop_suffix t _) hk
  · exact h.elim
-- the entry
def xent : List xV → List xV
  | [] => []
  | .inr (.inl x) :: l => vL x :: vN :: xent l
  | v :: l => v :: xent l
def xpad : Nat → List xV → List xV
  | 0, _ => []
  | n + 1, v :: l => v :: xpad n l
  | n + 1, [] => vN :: xpad n []
theorem xnth_pad : ∀ (n : Nat) (l : List xV) (i : Nat), xnth (xpad n l) i ≠ vN → xnth (xpad n l) i = xnth l i
  | 0, l, i, h => absurd (by cases i <;> rfl) h
  | n + 1, v :: l, 0, h => rfl
  | n + 1, v :: l, i + 1, h => xnth_pad n l i h
  | n + 1, [], 0, h => rfl
  | n + 1, [], i + 1, h => by
    have := xnth_pad n [] i h
    show xnth (xpad n []) i = vN
    rw [this]
    cases i <;> rfl
theorem xent_args (ad : xI → Nat) : ∀ (args : List xV) (b i : Nat), xnth (xent args) i ≠ vN → (b + i, xrv ad (xnth (xent args) i)) ∈ lv_args b (args.map (xrv ad))
  | [], b, i, h => absurd (by cases i <;> rfl) h
  | .inr (.inl x) :: l, b, 0, h => List.mem_cons_self
  | .inr (.inl x) :: l, b, 1, h => absurd rfl h
  | .inr (.inl x) :: l, b, i + 2, h => by
    have h1 := xent_args ad l (b + 2) i h
    rw [show b + (i + 2) = b + 2 + i by omega]
    exact List.mem_cons_of_mem _ h1
  | .inl x :: l, b, 0, h => List.mem_cons_self
  | .inl x :: l, b, i + 1, h => by
    have h1 := xent_args ad l (b + 1) i h
    rw [show b + (i + 1) = b + 1 + i by omega]
    exact List.mem_cons_of_mem _ h1
  | .inr (.inr none) :: l, b, 0, h => absurd rfl h
  | .inr (.inr none) :: l, b, i + 1, h => by
    have h1 := xent_args ad l (b + 1) i h
    rw [show b + (i + 1) = b + 1 + i by omega]
    exact List.mem_cons_of_mem _ h1
  | .inr (.inr (some q)) :: l, b, 0, h => List.mem_cons_self
  | .inr (.inr (some q)) :: l, b, i + 1, h => by
    have h1 := xent_args ad l (b + 1) i h
    rw [show b + (i + 1) = b + 1 + i by omega]
    exact List.mem_cons_of_mem _ h1
theorem xent_ok : ∀ (args : List xV), (∀ v ∈ args, xvok v) → ∀ i, xvok (xnth (xent args) i)
  | [], h, i => by cases i <;> exact trivial
  | .inr (.inl x) :: l, h, 0 => trivial
  | .inr (.inl x) :: l, h, 1 => trivial
  | .inr (.inl x) :: l, h, i + 2 => xent_ok l (fun v hv => h v (List.mem_cons_of_mem _ hv)) i
  | .inl x :: l, h, 0 => trivial
  | .inl x :: l, h, i + 1 => xent_ok l (fun v hv => h v (List.mem_cons_of_mem _ hv)) i
  | .inr (.inr none) :: l, h, 0 => trivial
  | .inr (.inr none) :: l, h, i + 1 => xent_ok l (fun v hv => h v (List.mem_cons_of_mem _ hv)) i
  | .inr (.inr (some q)) :: l, h, 0 => h _ List.mem_cons_self
  | .inr (.inr (some q)) :: l, h, i + 1 => xent_ok l (fun v hv => h v (List.mem_cons_of_mem _ hv)) i
theorem xent_len (ad : xI → Nat) : ∀ (args : List xV), (lg_sl (args.map (xrv ad))).length = (xent args).length
  | [] => rfl
  | .inr (.inl x) :: l => by
    have := xent_len ad l
    simp only [lg_sl, List.map_cons, List.flatMap_cons, List.length_append] at this ⊢
    rw [this]
    simp [xent, xrv, Value.category]
    omega
  | .inl x :: l => by
    have := xent_len ad l
    simp only [lg_sl, List.map_cons, List.flatMap_cons, List.length_append] at this ⊢
    rw [this]
    simp [xent, xrv, Value.category]
    omega
  | .inr (.inr none) :: l => by
    have := xent_len ad l
    simp only [lg_sl, List.map_cons, List.flatMap_cons, List.length_append] at this ⊢
    rw [this]
    simp [xent, xrv, Value.category]
    omega
  | .inr (.inr (some q)) :: l => by
    have := xent_len ad l
    simp only [lg_sl, List.map_cons, List.flatMap_cons, List.length_append] at this ⊢
    rw [this]
    simp [xent, xrv, Value.category]
    omega
/-- a method's contract, from its first place -/
theorem MW.of {G : xG} {E : xE} {d : Nat} {args : List xV} {μ : xM} {Q : xP} (hE : xEok E) (hn : (xent args).length ≤ E.2.1.2.2.1) (h : ∀ Z, WS G E d Z Q 0 (xpad E.2.1.2.2.1 (xent args)) [] μ) : MW G d E.2.1 args μ Q := by
  intro hG hok
  refine Met.ofW (cc := E.2.1.2.1) (maxL := E.2.1.2.2.1) (ret := E.2.1.2.2.2.1) (ws' := xgw) hE.2.2.2.2.2 rfl ?_
  intro p e s m args' below meth c s₁ B hml hv
  obtain ⟨rfl, hP, hK⟩ := hv
  have hown : s.vm.findClass (xcn E.1) = some m.cls := by
    rw [← hE.2.2.2.2.1]
    exact findClass_of_methodNamed B.named
  rw [lg_entry_eq]
  have hl := lv_entry (args.map (xrv G.2.1)) (n := E.2.1.2.2.1) (by rw [xent_len]; exact hn)
  refine h (p, e, s, m, _, below, meth, c) hG ⟨B.exec, B.bytes, B.returns, hml, hown, atoms_spec (ws := xws E.2.1) B.pre, hK, B.notSynchronized⟩ s.heap [] _ hP va_S.rf ⟨hl.1, hl.2.1, fun i hi => ?_⟩ (fun i => ?_) trivial
  · have h1 := xnth_pad _ _ i hi
    rw [h1] at hi ⊢
    have h2 := xent_args G.2.1 args 0 i hi
    rw [Nat.zero_add] at h2
    exact hl.2.2 _ h2
  · by_cases hi : xnth (xpad E.2.1.2.2.1 (xent args)) i = vN
    · rw [hi]; exact trivial
    · rw [xnth_pad _ _ i hi]
      exact xent_ok args hok i
end
section
/-! THE METHODS: descriptors, the classes' tables, instructions; each is held against the bytecode-/
theorem xw {w : Cond} (i : Nat) (h : lw_tbl[i]? = some w) (g : goodWord w = true) : xin w := ⟨List.mem_of_getElem? h, g⟩
theorem xfn {α : Type} {P : α → Prop} : ∀ x ∈ ([] : List α), P x := fun x h => absurd h List.not_mem_nil
theorem xfc {α : Type} {P : α → Prop} {a : α} {l : List α} (h : P a) (k : ∀ x ∈ l, P x) : ∀ x ∈ a :: l, P x := List.forall_mem_cons.mpr ⟨h, k⟩
def xdF (D : xD) : Prop := xin (Cond.code D.1 D.2.1 D.2.2.1 D.2.2.2.1) ∧ xin (Cond.initialized D.1.cls) ∧ D.1.cls ≠ "java/lang/invoke/MethodHandle" ∧ D.1.cls ≠ "java/lang/invoke/VarHandle" ∧ (parseMethodDescriptor D.1.desc).map (fun d => d.parameters.length) = some D.2.2.2.2 ∧ D.2.2.1 ≤ 21
def mX0_add : xD := (yX0_add, cX0_add, 2, none, 1)
def mX0_firstError : xD := (yX0_firstError, cX0_firstError, 4, some .int, 0)
def mX0_beginsPart : xD := (yX0_beginsPart, cX0_beginsPart, 2, some .boolean, 1)
def mX0_continuesPart : xD := (yX0_continuesPart, cX0_continuesPart, 2, some .boolean, 1)
def mX1_build : xD := (yX1_build, cX1_build, 6, some .int, 2)
def mX1_push : xD := (yX1_push, cX1_push, 2, none, 1)
def mX1_makeAtEnd : xD := (yX1_makeAtEnd, cX1_makeAtEnd, 4, some .int, 3)
def mX1_negate : xD := (yX1_negate, cX1_negate, 4, some .int, 2)
def mX2_copyFrom : xD := (yX2_copyFrom, cX2_copyFrom, 2, none, 1)
def mX2_has : xD := (yX2_has, cX2_has, 2, some .boolean, 1)
def mX2_isOfKind : xD := (yX2_isOfKind, cX2_isOfKind, 3, some .boolean, 2)
def mX2_isPartOfDisjunction : xD := (yX2_isPartOfDisjunction, cX2_isPartOfDisjunction, 3, some .boolean, 2)
def mX2_takenOut : xD := (yX2_takenOut, cX2_takenOut, 4, some .int, 2)
def mX2_find : xD := (yX2_find, cX2_find, 5, some .int, 3)
def mX2_hasRoomFor : xD := (yX2_hasRoomFor, cX2_hasRoomFor, 4, some .boolean, 3)
def mX2_make : xD := (yX2_make, cX2_make, 5, some .int, 3)
def mX2_measure : xD := (yX2_measure, cX2_measure, 4, none, 1)
def mX2_codeAt : xD := (yX2_codeAt, cX2_codeAt, 8, some .int, 3)
def mX2_firstCode : xD := (yX2_firstCode, cX2_firstCode, 2, some .int, 1)
def mX2_evaluate : xD := (yX2_evaluate, cX2_evaluate, 4, none, 2)
def mX2_truthOf : xD := (yX2_truthOf, cX2_truthOf, 6, some .int, 3)
def mX2_truthOfAtom : xD := (yX2_truthOfAtom, cX2_truthOfAtom, 2, some .int, 2)
def mX3_at : xD := (yX3_at, cX3_at, 2, some (.object "BoxedProofs$State"), 1)
def mX3_record : xD := (yX3_record, cX3_record, 3, none, 1)
def mX3_takeBack : xD := (yX3_takeBack, cX3_takeBack, 4, none, 1)
def mX4_copyFrom : xD := (yX4_copyFrom, cX4_copyFrom, 2, none, 1)
def mX4_hasLine : xD := (yX4_hasLine, cX4_hasLine, 2, some .boolean, 1)
def mX4_hasBox : xD := (yX4_hasBox, cX4_hasBox, 2, some .boolean, 1)
def mX4_isFull : xD := (yX4_isFull, cX4_isFull, 1, some .boolean, 0)
def mX4_addLine : xD := (yX4_addLine, cX4_addLine, 7, some .int, 5)
def mX4_openBox : xD := (yX4_openBox, cX4_openBox, 3, some .int, 1)
def mX4_canCloseBox : xD := (yX4_canCloseBox, cX4_canCloseBox, 1, some .boolean, 0)
def mX4_closeBox : xD := (yX4_closeBox, cX4_closeBox, 2, some .int, 0)
def mX4_isNoneOrOpen : xD := (yX4_isNoneOrOpen, cX4_isNoneOrOpen, 2, some .boolean, 1)
def mX4_isLineAvailable : xD := (yX4_isLineAvailable, cX4_isLineAvailable, 2, some .boolean, 1)
def mX4_isBoxAvailable : xD := (yX4_isBoxAvailable, cX4_isBoxAvailable, 2, some .boolean, 1)
def mX4_assumptionOf : xD := (yX4_assumptionOf, cX4_assumptionOf, 2, some .int, 1)
def mX4_conclusionOf : xD := (yX4_conclusionOf, cX4_conclusionOf, 2, some .int, 1)
def mX4_nesting : xD := (yX4_nesting, cX4_nesting, 4, some .int, 1)
def mX4_referenceAt : xD := (yX4_referenceAt, cX4_referenceAt, 3, some .int, 2)
def mX4_countLineReferences : xD := (yX4_countLineReferences, cX4_countLineReferences, 2, some .int, 1)
def mX4_bit : xD := (yX4_bit, cX4_bit, 1, some .long, 1)
def mX4_contains : xD := (yX4_contains, cX4_contains, 3, some .boolean, 2)
def mX4_directNeeds : xD := (yX4_directNeeds, cX4_directNeeds, 7, some .long, 1)
def mX4_countUsers : xD := (yX4_countUsers, cX4_countUsers, 4, some .int, 1)
def mX4_assumptionsFrom : xD := (yX4_assumptionsFrom, cX4_assumptionsFrom, 6, some .long, 1)
def mX4_allNeeds : xD := (yX4_allNeeds, cX4_allNeeds, 5, some .long, 1)
def mX4_bypassOf : xD := (yX4_bypassOf, cX4_bypassOf, 4, some .int, 1)
def mX4_countDetours : xD := (yX4_countDetours, cX4_countDetours, 3, some .int, 0)
def mX4_bypassDetours : xD := (yX4_bypassDetours, cX4_bypassDetours, 4, some .int, 0)
def mX4_bypassIn : xD := (yX4_bypassIn, cX4_bypassIn, 6, some .int, 2)
def mX4_allowedValuations : xD := (yX4_allowedValuations, cX4_allowedValuations, 7, some .int, 2)
def mX4_keepOnly : xD := (yX4_keepOnly, cX4_keepOnly, 8, some .int, 1)
def mX4_renumbered : xD := (yX4_renumbered, cX4_renumbered, 3, some .int, 2)
def mX4_moveLine : xD := (yX4_moveLine, cX4_moveLine, 8, none, 4)
def mX4_keepBoxes : xD := (yX4_keepBoxes, cX4_keepBoxes, 7, some .long, 1)
def mX4_findEnds : xD := (yX4_findEnds, cX4_findEnds, 4, none, 0)
def mX5_get : xD := (yX5_get, cX5_get, 2, some .int, 1)
def mX5_set : xD := (yX5_set, cX5_set, 3, none, 2)
def mX5_copyFrom : xD := (yX5_copyFrom, cX5_copyFrom, 3, none, 1)
def mX6_ofKind : xD := (yX6_ofKind, cX6_ofKind, 1, some .int, 1)
def mX6_kindOf : xD := (yX6_kindOf, cX6_kindOf, 1, some .int, 1)
def mX7_copyFrom : xD := (yX7_copyFrom, cX7_copyFrom, 2, none, 1)
def mX8_atom : xD := (yX8_atom, cX8_atom, 2, some .int, 1)
def mX8_falsum : xD := (yX8_falsum, cX8_falsum, 1, some .int, 0)
def mX8_not : xD := (yX8_not, cX8_not, 2, some .int, 1)
def mX8_pair : xD := (yX8_pair, cX8_pair, 4, some .int, 3)
def mX8_makeFormula : xD := (yX8_makeFormula, cX8_makeFormula, 4, some .int, 3)
def mX8_formulas : xD := (yX8_formulas, cX8_formulas, 1, some .int, 0)
def mX8_part : xD := (yX8_part, cX8_part, 3, some .int, 2)
def mX8_length : xD := (yX8_length, cX8_length, 2, some .int, 1)
def mX8_character : xD := (yX8_character, cX8_character, 3, some .int, 2)
def mX8_isTrue : xD := (yX8_isTrue, cX8_isTrue, 3, some .int, 2)
def mX8_premise : xD := (yX8_premise, cX8_premise, 2, some .int, 1)
def mX8_open : xD := (yX8_open, cX8_open, 2, some .int, 1)
def mX8_close : xD := (yX8_close, cX8_close, 1, some .int, 0)
def mX8_repeat : xD := (yX8_repeat, cX8_repeat, 2, some .int, 1)
def mX8_fromTwo : xD := (yX8_fromTwo, cX8_fromTwo, 7, some .int, 3)
def mX8_fromOne : xD := (yX8_fromOne, cX8_fromOne, 4, some .int, 2)
def mX8_toFormula : xD := (yX8_toFormula, cX8_toFormula, 6, some .int, 3)
def mX8_fromBox : xD := (yX8_fromBox, cX8_fromBox, 5, some .int, 2)
def mX8_cases : xD := (yX8_cases, cX8_cases, 7, some .int, 3)
def mX8_write : xD := (yX8_write, cX8_write, 6, some .int, 5)
def mX8_writeMade : xD := (yX8_writeMade, cX8_writeMade, 8, some .int, 6)
def mX8_lines : xD := (yX8_lines, cX8_lines, 1, some .int, 0)
def mX8_line : xD := (yX8_line, cX8_line, 3, some .int, 2)
def mX8_reference : xD := (yX8_reference, cX8_reference, 4, some .int, 2)
def mX8_boxes : xD := (yX8_boxes, cX8_boxes, 1, some .int, 0)
def mX8_box : xD := (yX8_box, cX8_box, 3, some .int, 2)
def mX8_depth : xD := (yX8_depth, cX8_depth, 1, some .int, 0)
def mX8_needs : xD := (yX8_needs, cX8_needs, 2, some .long, 1)
def mX8_bypass : xD := (yX8_bypass, cX8_bypass, 2, some .int, 1)
def mX8_detours : xD := (yX8_detours, cX8_detours, 1, some .int, 0)
def mX8_failure : xD := (yX8_failure, cX8_failure, 2, some .int, 1)
def mX8_counterexample : xD := (yX8_counterexample, cX8_counterexample, 2, some .int, 1)
def mX8_lowestFailure : xD := (yX8_lowestFailure, cX8_lowestFailure, 5, some .int, 2)
def mX8_lowestBit : xD := (yX8_lowestBit, cX8_lowestBit, 1, some .int, 1)
def mX8_shorten : xD := (yX8_shorten, cX8_shorten, 1, some .int, 0)
def mX8_trim : xD := (yX8_trim, cX8_trim, 2, some .int, 1)
def mX8_append : xD := (yX8_append, cX8_append, 2, some .int, 1)
def mX8_clearText : xD := (yX8_clearText, cX8_clearText, 2, some .int, 0)
def mX8_errorPosition : xD := (yX8_errorPosition, cX8_errorPosition, 1, some .int, 0)
def mX8_read : xD := (yX8_read, cX8_read, 2, some .int, 0)
def mX8_undo : xD := (yX8_undo, cX8_undo, 1, some .int, 0)
def mX8_save : xD := (yX8_save, cX8_save, 1, some .int, 0)
def mX8_restore : xD := (yX8_restore, cX8_restore, 1, some .int, 0)
def mX9_in : xD := (yX9_in, cX9_in, 3, some .boolean, 3)
def mX9_record : xD := (yX9_record, cX9_record, 2, none, 0)
def mX9_undo : xD := (yX9_undo, cX9_undo, 2, some .int, 0)
def mX9_save : xD := (yX9_save, cX9_save, 2, some .int, 0)
def mX9_restore : xD := (yX9_restore, cX9_restore, 2, some .int, 0)
def mX9_isFormula : xD := (yX9_isFormula, cX9_isFormula, 2, some .boolean, 1)
def mX9_kind : xD := (yX9_kind, cX9_kind, 2, some .int, 1)
def mX9_left : xD := (yX9_left, cX9_left, 2, some .int, 1)
def mX9_right : xD := (yX9_right, cX9_right, 2, some .int, 1)
def mX9_find : xD := (yX9_find, cX9_find, 5, some .int, 3)
def mX9_hasRoom : xD := (yX9_hasRoom, cX9_hasRoom, 4, some .boolean, 3)
def mX9_make : xD := (yX9_make, cX9_make, 6, some .int, 3)
def mX9_makeOne : xD := (yX9_makeOne, cX9_makeOne, 4, some .int, 3)
def mX9_atom : xD := (yX9_atom, cX9_atom, 2, some .int, 1)
def mX9_falsum : xD := (yX9_falsum, cX9_falsum, 1, some .int, 0)
def mX9_not : xD := (yX9_not, cX9_not, 2, some .int, 1)
def mX9_pair : xD := (yX9_pair, cX9_pair, 4, some .int, 3)
def mX9_formulas : xD := (yX9_formulas, cX9_formulas, 1, some .int, 0)
def mX9_part : xD := (yX9_part, cX9_part, 3, some .int, 2)
def mX9_measure : xD := (yX9_measure, cX9_measure, 3, none, 0)
def mX9_length : xD := (yX9_length, cX9_length, 2, some .int, 1)
def mX9_character : xD := (yX9_character, cX9_character, 5, some .int, 2)
def mX9_evaluate : xD := (yX9_evaluate, cX9_evaluate, 5, none, 1)
def mX9_isTrue : xD := (yX9_isTrue, cX9_isTrue, 3, some .int, 2)
def mX9_isLine : xD := (yX9_isLine, cX9_isLine, 2, some .boolean, 1)
def mX9_isBox : xD := (yX9_isBox, cX9_isBox, 2, some .boolean, 1)
def mX9_formulaOf : xD := (yX9_formulaOf, cX9_formulaOf, 2, some .int, 1)
def mX9_ruleOf : xD := (yX9_ruleOf, cX9_ruleOf, 2, some .int, 1)
def mX9_refOf : xD := (yX9_refOf, cX9_refOf, 3, some .int, 2)
def mX9_boxOf : xD := (yX9_boxOf, cX9_boxOf, 2, some .int, 1)
def mX9_opens : xD := (yX9_opens, cX9_opens, 2, some .int, 1)
def mX9_ends : xD := (yX9_ends, cX9_ends, 2, some .int, 1)
def mX9_parent : xD := (yX9_parent, cX9_parent, 2, some .int, 1)
def mX9_latest : xD := (yX9_latest, cX9_latest, 3, some .int, 0)
def mX9_openBoxes : xD := (yX9_openBoxes, cX9_openBoxes, 3, some .int, 0)
def mX9_isShut : xD := (yX9_isShut, cX9_isShut, 4, some .boolean, 1)
def mX9_isAvailable : xD := (yX9_isAvailable, cX9_isAvailable, 2, some .boolean, 1)
def mX9_isBoxAvailable : xD := (yX9_isBoxAvailable, cX9_isBoxAvailable, 2, some .boolean, 1)
def mX9_liesIn : xD := (yX9_liesIn, cX9_liesIn, 4, some .boolean, 2)
def mX9_depthOf : xD := (yX9_depthOf, cX9_depthOf, 4, some .int, 1)
def mX9_write : xD := (yX9_write, cX9_write, 7, some .int, 5)
def mX9_isFull : xD := (yX9_isFull, cX9_isFull, 1, some .boolean, 0)
def mX9_writeOld : xD := (yX9_writeOld, cX9_writeOld, 6, some .int, 5)
def mX9_writeNew : xD := (yX9_writeNew, cX9_writeNew, 7, some .int, 6)
def mX9_premise : xD := (yX9_premise, cX9_premise, 2, some .int, 1)
def mX9_open : xD := (yX9_open, cX9_open, 4, some .int, 1)
def mX9_close : xD := (yX9_close, cX9_close, 2, some .int, 0)
def mX9_repeat : xD := (yX9_repeat, cX9_repeat, 2, some .int, 1)
def mX9_fromTwo : xD := (yX9_fromTwo, cX9_fromTwo, 6, some .int, 3)
def mX9_fromOne : xD := (yX9_fromOne, cX9_fromOne, 5, some .int, 2)
def mX9_toFormula : xD := (yX9_toFormula, cX9_toFormula, 6, some .int, 3)
def mX9_fromBox : xD := (yX9_fromBox, cX9_fromBox, 5, some .int, 2)
def mX9_cases : xD := (yX9_cases, cX9_cases, 6, some .int, 3)
def mX9_lines : xD := (yX9_lines, cX9_lines, 1, some .int, 0)
def mX9_isToBox : xD := (yX9_isToBox, cX9_isToBox, 4, some .boolean, 2)
def mX9_direct : xD := (yX9_direct, cX9_direct, 6, some .long, 1)
def mX9_neededBy : xD := (yX9_neededBy, cX9_neededBy, 4, some .int, 1)
def mX9_line : xD := (yX9_line, cX9_line, 3, some .int, 2)
def mX9_reference : xD := (yX9_reference, cX9_reference, 3, some .int, 2)
def mX9_boxes : xD := (yX9_boxes, cX9_boxes, 1, some .int, 0)
def mX9_box : xD := (yX9_box, cX9_box, 3, some .int, 2)
def mX9_depth : xD := (yX9_depth, cX9_depth, 1, some .int, 0)
def mX9_assumed : xD := (yX9_assumed, cX9_assumed, 5, some .long, 1)
def mX9_needed : xD := (yX9_needed, cX9_needed, 5, some .long, 1)
def mX9_needs : xD := (yX9_needs, cX9_needs, 2, some .long, 1)
def mX9_bypassOf : xD := (yX9_bypassOf, cX9_bypassOf, 4, some .int, 1)
def mX9_bypass : xD := (yX9_bypass, cX9_bypass, 2, some .int, 1)
def mX9_detours : xD := (yX9_detours, cX9_detours, 3, some .int, 0)
def mX9_areTrue : xD := (yX9_areTrue, cX9_areTrue, 5, some .boolean, 1)
def mX9_premises : xD := (yX9_premises, cX9_premises, 4, some .long, 0)
def mX9_fails : xD := (yX9_fails, cX9_fails, 5, some .int, 2)
def mX9_failure : xD := (yX9_failure, cX9_failure, 2, some .int, 1)
def mX9_counterexample : xD := (yX9_counterexample, cX9_counterexample, 5, some .int, 1)
def mX9_shorten : xD := (yX9_shorten, cX9_shorten, 6, some .int, 0)
def mX9_renamed : xD := (yX9_renamed, cX9_renamed, 4, some .int, 2)
def mX9_lastIn : xD := (yX9_lastIn, cX9_lastIn, 6, some .int, 2)
def mX9_trim : xD := (yX9_trim, cX9_trim, 8, some .int, 1)
def mX9_moveLines : xD := (yX9_moveLines, cX9_moveLines, 9, none, 1)
def mX9_moveBoxes : xD := (yX9_moveBoxes, cX9_moveBoxes, 6, none, 0)
def mX9_append : xD := (yX9_append, cX9_append, 2, some .int, 1)
def mX9_clearText : xD := (yX9_clearText, cX9_clearText, 2, some .int, 0)
def mX9_makes : xD := (yX9_makes, cX9_makes, 5, some .int, 4)
def mX9_isWhole : xD := (yX9_isWhole, cX9_isWhole, 4, none, 2)
def mX9_signOf : xD := (yX9_signOf, cX9_signOf, 1, some .int, 1)
def mX9_readOne : xD := (yX9_readOne, cX9_readOne, 4, some .boolean, 2)
def mX9_readBuffer : xD := (yX9_readBuffer, cX9_readBuffer, 3, some .int, 1)
def mX9_errorPosition : xD := (yX9_errorPosition, cX9_errorPosition, 1, some .int, 0)
def mX9_read : xD := (yX9_read, cX9_read, 3, some .int, 0)
def mJ6_bitCount_0f7a4 : xD := (yJ6_bitCount_0f7a4, cJ6_bitCount_0f7a4, 1, some .int, 1)
def mJ13_bitCount_95d88 : xD := (yJ13_bitCount_95d88, cJ13_bitCount_95d88, 2, some .int, 1)
theorem xdX0_add : xdF mX0_add := ⟨xw 689 (by decide +kernel) (by decide +kernel), xw 77 (by decide +kernel) (by decide +kernel), by decide, by decide, (by decide +kernel), by decide⟩
theorem xdX0_firstError : xdF mX0_firstError := ⟨xw 702 (by decide +kernel) (by decide +kernel), xw 77 (by decide +kernel) (by decide +kernel), by decide, by decide, (by decide +kernel), by decide⟩
theorem xdX0_beginsPart : xdF mX0_beginsPart := ⟨xw 714 (by decide +kernel) (by decide +kernel), xw 77 (by decide +kernel) (by decide +kernel), by decide, by decide, (by decide +kernel), by decide⟩
theorem xdX0_continuesPart : xdF mX0_continuesPart := ⟨xw 707 (by decide +kernel) (by decide +kernel), xw 77 (by decide +kernel) (by decide +kernel), by decide, by decide, (by decide +kernel), by decide⟩
theorem xdX1_build : xdF mX1_build := ⟨xw 723 (by decide +kernel) (by decide +kernel), xw 78 (by decide +kernel) (by decide +kernel), by decide, by decide, (by decide +kernel), by decide⟩
theorem xdX1_push : xdF mX1_push := ⟨xw 728 (by decide +kernel) (by decide +kernel), xw 78 (by decide +kernel) (by decide +kernel), by decide, by decide, (by decide +kernel), by decide⟩
theorem xdX1_makeAtEnd : xdF mX1_makeAtEnd := ⟨xw 734 (by decide +kernel) (by decide +kernel), xw 78 (by decide +kernel) (by decide +kernel), by decide, by decide, (by decide +kernel), by decide⟩
theorem xdX1_negate : xdF mX1_negate := ⟨xw 739 (by decide +kernel) (by decide +kernel), xw 78 (by decide +kernel) (by decide +kernel), by decide, by decide, (by decide +kernel), by decide⟩
theorem xdX2_copyFrom : xdF mX2_copyFrom := ⟨xw 330 (by decide +kernel) (by decide +kernel), xw 72 (by decide +kernel) (by decide +kernel), by decide, by decide, (by decide +kernel), by decide⟩
theorem xdX2_has : xdF mX2_has := ⟨xw 366 (by decide +kernel) (by decide +kernel), xw 72 (by decide +kernel) (by decide +kernel), by decide, by decide, (by decide +kernel), by decide⟩
theorem xdX2_isOfKind : xdF mX2_isOfKind := ⟨xw 503 (by decide +kernel) (by decide +kernel), xw 72 (by decide +kernel) (by decide +kernel), by decide, by decide, (by decide +kernel), by decide⟩
theorem xdX2_isPartOfDisjunction : xdF mX2_isPartOfDisjunction := ⟨xw 520 (by decide +kernel) (by decide +kernel), xw 72 (by decide +kernel) (by decide +kernel), by decide, by decide, (by decide +kernel), by decide⟩
theorem xdX2_takenOut : xdF mX2_takenOut := ⟨xw 511 (by decide +kernel) (by decide +kernel), xw 72 (by decide +kernel) (by decide +kernel), by decide, by decide, (by decide +kernel), by decide⟩
theorem xdX2_find : xdF mX2_find := ⟨xw 310 (by decide +kernel) (by decide +kernel), xw 72 (by decide +kernel) (by decide +kernel), by decide, by decide, (by decide +kernel), by decide⟩
theorem xdX2_hasRoomFor : xdF mX2_hasRoomFor := ⟨xw 306 (by decide +kernel) (by decide +kernel), xw 72 (by decide +kernel) (by decide +kernel), by decide, by decide, (by decide +kernel), by decide⟩
theorem xdX2_make : xdF mX2_make := ⟨xw 350 (by decide +kernel) (by decide +kernel), xw 72 (by decide +kernel) (by decide +kernel), by decide, by decide, (by decide +kernel), by decide⟩
theorem xdX2_measure : xdF mX2_measure := ⟨xw 387 (by decide +kernel) (by decide +kernel), xw 72 (by decide +kernel) (by decide +kernel), by decide, by decide, (by decide +kernel), by decide⟩
theorem xdX2_codeAt : xdF mX2_codeAt := ⟨xw 397 (by decide +kernel) (by decide +kernel), xw 72 (by decide +kernel) (by decide +kernel), by decide, by decide, (by decide +kernel), by decide⟩
theorem xdX2_firstCode : xdF mX2_firstCode := ⟨xw 401 (by decide +kernel) (by decide +kernel), xw 72 (by decide +kernel) (by decide +kernel), by decide, by decide, (by decide +kernel), by decide⟩
theorem xdX2_evaluate : xdF mX2_evaluate := ⟨xw 412 (by decide +kernel) (by decide +kernel), xw 72 (by decide +kernel) (by decide +kernel), by decide, by decide, (by decide +kernel), by decide⟩
theorem xdX2_truthOf : xdF mX2_truthOf := ⟨xw 416 (by decide +kernel) (by decide +kernel), xw 72 (by decide +kernel) (by decide +kernel), by decide, by decide, (by decide +kernel), by decide⟩
theorem xdX2_truthOfAtom : xdF mX2_truthOfAtom := ⟨xw 419 (by decide +kernel) (by decide +kernel), xw 72 (by decide +kernel) (by decide +kernel), by decide, by decide, (by decide +kernel), by decide⟩
theorem xdX3_at : xdF mX3_at := ⟨xw 322 (by decide +kernel) (by decide +kernel), xw 76 (by decide +kernel) (by decide +kernel), by decide, by decide, (by decide +kernel), by decide⟩
theorem xdX3_record : xdF mX3_record := ⟨xw 318 (by decide +kernel) (by decide +kernel), xw 76 (by decide +kernel) (by decide +kernel), by decide, by decide, (by decide +kernel), by decide⟩
theorem xdX3_takeBack : xdF mX3_takeBack := ⟨xw 747 (by decide +kernel) (by decide +kernel), xw 76 (by decide +kernel) (by decide +kernel), by decide, by decide, (by decide +kernel), by decide⟩
theorem xdX4_copyFrom : xdF mX4_copyFrom := ⟨xw 344 (by decide +kernel) (by decide +kernel), xw 75 (by decide +kernel) (by decide +kernel), by decide, by decide, (by decide +kernel), by decide⟩
theorem xdX4_hasLine : xdF mX4_hasLine := ⟨xw 483 (by decide +kernel) (by decide +kernel), xw 75 (by decide +kernel) (by decide +kernel), by decide, by decide, (by decide +kernel), by decide⟩
theorem xdX4_hasBox : xdF mX4_hasBox := ⟨xw 457 (by decide +kernel) (by decide +kernel), xw 75 (by decide +kernel) (by decide +kernel), by decide, by decide, (by decide +kernel), by decide⟩
theorem xdX4_isFull : xdF mX4_isFull := ⟨xw 436 (by decide +kernel) (by decide +kernel), xw 75 (by decide +kernel) (by decide +kernel), by decide, by decide, (by decide +kernel), by decide⟩
theorem xdX4_addLine : xdF mX4_addLine := ⟨xw 440 (by decide +kernel) (by decide +kernel), xw 75 (by decide +kernel) (by decide +kernel), by decide, by decide, (by decide +kernel), by decide⟩
theorem xdX4_openBox : xdF mX4_openBox := ⟨xw 462 (by decide +kernel) (by decide +kernel), xw 75 (by decide +kernel) (by decide +kernel), by decide, by decide, (by decide +kernel), by decide⟩
theorem xdX4_canCloseBox : xdF mX4_canCloseBox := ⟨xw 471 (by decide +kernel) (by decide +kernel), xw 75 (by decide +kernel) (by decide +kernel), by decide, by decide, (by decide +kernel), by decide⟩
theorem xdX4_closeBox : xdF mX4_closeBox := ⟨xw 475 (by decide +kernel) (by decide +kernel), xw 75 (by decide +kernel) (by decide +kernel), by decide, by decide, (by decide +kernel), by decide⟩
theorem xdX4_isNoneOrOpen : xdF mX4_isNoneOrOpen := ⟨xw 491 (by decide +kernel) (by decide +kernel), xw 75 (by decide +kernel) (by decide +kernel), by decide, by decide, (by decide +kernel), by decide⟩
theorem xdX4_isLineAvailable : xdF mX4_isLineAvailable := ⟨xw 487 (by decide +kernel) (by decide +kernel), xw 75 (by decide +kernel) (by decide +kernel), by decide, by decide, (by decide +kernel), by decide⟩
theorem xdX4_isBoxAvailable : xdF mX4_isBoxAvailable := ⟨xw 529 (by decide +kernel) (by decide +kernel), xw 75 (by decide +kernel) (by decide +kernel), by decide, by decide, (by decide +kernel), by decide⟩
theorem xdX4_assumptionOf : xdF mX4_assumptionOf := ⟨xw 533 (by decide +kernel) (by decide +kernel), xw 75 (by decide +kernel) (by decide +kernel), by decide, by decide, (by decide +kernel), by decide⟩
theorem xdX4_conclusionOf : xdF mX4_conclusionOf := ⟨xw 537 (by decide +kernel) (by decide +kernel), xw 75 (by decide +kernel) (by decide +kernel), by decide, by decide, (by decide +kernel), by decide⟩
theorem xdX4_nesting : xdF mX4_nesting := ⟨xw 453 (by decide +kernel) (by decide +kernel), xw 75 (by decide +kernel) (by decide +kernel), by decide, by decide, (by decide +kernel), by decide⟩
theorem xdX4_referenceAt : xdF mX4_referenceAt := ⟨xw 565 (by decide +kernel) (by decide +kernel), xw 75 (by decide +kernel) (by decide +kernel), by decide, by decide, (by decide +kernel), by decide⟩
theorem xdX4_countLineReferences : xdF mX4_countLineReferences := ⟨xw 561 (by decide +kernel) (by decide +kernel), xw 75 (by decide +kernel) (by decide +kernel), by decide, by decide, (by decide +kernel), by decide⟩
theorem xdX4_bit : xdF mX4_bit := ⟨xw 568 (by decide +kernel) (by decide +kernel), xw 75 (by decide +kernel) (by decide +kernel), by decide, by decide, (by decide +kernel), by decide⟩
theorem xdX4_contains : xdF mX4_contains := ⟨xw 571 (by decide +kernel) (by decide +kernel), xw 75 (by decide +kernel) (by decide +kernel), by decide, by decide, (by decide +kernel), by decide⟩
theorem xdX4_directNeeds : xdF mX4_directNeeds := ⟨xw 557 (by decide +kernel) (by decide +kernel), xw 75 (by decide +kernel) (by decide +kernel), by decide, by decide, (by decide +kernel), by decide⟩
theorem xdX4_countUsers : xdF mX4_countUsers := ⟨xw 553 (by decide +kernel) (by decide +kernel), xw 75 (by decide +kernel) (by decide +kernel), by decide, by decide, (by decide +kernel), by decide⟩
theorem xdX4_assumptionsFrom : xdF mX4_assumptionsFrom := ⟨xw 598 (by decide +kernel) (by decide +kernel), xw 75 (by decide +kernel) (by decide +kernel), by decide, by decide, (by decide +kernel), by decide⟩
theorem xdX4_allNeeds : xdF mX4_allNeeds := ⟨xw 594 (by decide +kernel) (by decide +kernel), xw 75 (by decide +kernel) (by decide +kernel), by decide, by decide, (by decide +kernel), by decide⟩
theorem xdX4_bypassOf : xdF mX4_bypassOf := ⟨xw 606 (by decide +kernel) (by decide +kernel), xw 75 (by decide +kernel) (by decide +kernel), by decide, by decide, (by decide +kernel), by decide⟩
theorem xdX4_countDetours : xdF mX4_countDetours := ⟨xw 614 (by decide +kernel) (by decide +kernel), xw 75 (by decide +kernel) (by decide +kernel), by decide, by decide, (by decide +kernel), by decide⟩
theorem xdX4_bypassDetours : xdF mX4_bypassDetours := ⟨xw 648 (by decide +kernel) (by decide +kernel), xw 75 (by decide +kernel) (by decide +kernel), by decide, by decide, (by decide +kernel), by decide⟩
theorem xdX4_bypassIn : xdF mX4_bypassIn := ⟨xw 652 (by decide +kernel) (by decide +kernel), xw 75 (by decide +kernel) (by decide +kernel), by decide, by decide, (by decide +kernel), by decide⟩
theorem xdX4_allowedValuations : xdF mX4_allowedValuations := ⟨xw 627 (by decide +kernel) (by decide +kernel), xw 75 (by decide +kernel) (by decide +kernel), by decide, by decide, (by decide +kernel), by decide⟩
theorem xdX4_keepOnly : xdF mX4_keepOnly := ⟨xw 660 (by decide +kernel) (by decide +kernel), xw 75 (by decide +kernel) (by decide +kernel), by decide, by decide, (by decide +kernel), by decide⟩
theorem xdX4_renumbered : xdF mX4_renumbered := ⟨xw 667 (by decide +kernel) (by decide +kernel), xw 75 (by decide +kernel) (by decide +kernel), by decide, by decide, (by decide +kernel), by decide⟩
theorem xdX4_moveLine : xdF mX4_moveLine := ⟨xw 677 (by decide +kernel) (by decide +kernel), xw 75 (by decide +kernel) (by decide +kernel), by decide, by decide, (by decide +kernel), by decide⟩
theorem xdX4_keepBoxes : xdF mX4_keepBoxes := ⟨xw 664 (by decide +kernel) (by decide +kernel), xw 75 (by decide +kernel) (by decide +kernel), by decide, by decide, (by decide +kernel), by decide⟩
theorem xdX4_findEnds : xdF mX4_findEnds := ⟨xw 681 (by decide +kernel) (by decide +kernel), xw 75 (by decide +kernel) (by decide +kernel), by decide, by decide, (by decide +kernel), by decide⟩
theorem xdX5_get : xdF mX5_get := ⟨xw 314 (by decide +kernel) (by decide +kernel), xw 73 (by decide +kernel) (by decide +kernel), by decide, by decide, (by decide +kernel), by decide⟩
theorem xdX5_set : xdF mX5_set := ⟨xw 354 (by decide +kernel) (by decide +kernel), xw 73 (by decide +kernel) (by decide +kernel), by decide, by decide, (by decide +kernel), by decide⟩
theorem xdX5_copyFrom : xdF mX5_copyFrom := ⟨xw 334 (by decide +kernel) (by decide +kernel), xw 73 (by decide +kernel) (by decide +kernel), by decide, by decide, (by decide +kernel), by decide⟩
theorem xdX6_ofKind : xdF mX6_ofKind := ⟨xw 404 (by decide +kernel) (by decide +kernel), xw 81 (by decide +kernel) (by decide +kernel), by decide, by decide, (by decide +kernel), by decide⟩
theorem xdX6_kindOf : xdF mX6_kindOf := ⟨xw 710 (by decide +kernel) (by decide +kernel), xw 81 (by decide +kernel) (by decide +kernel), by decide, by decide, (by decide +kernel), by decide⟩
theorem xdX7_copyFrom : xdF mX7_copyFrom := ⟨xw 326 (by decide +kernel) (by decide +kernel), xw 71 (by decide +kernel) (by decide +kernel), by decide, by decide, (by decide +kernel), by decide⟩
theorem xdX8_atom : xdF mX8_atom := ⟨xw 298 (by decide +kernel) (by decide +kernel), xw 70 (by decide +kernel) (by decide +kernel), by decide, by decide, (by decide +kernel), by decide⟩
theorem xdX8_falsum : xdF mX8_falsum := ⟨xw 358 (by decide +kernel) (by decide +kernel), xw 70 (by decide +kernel) (by decide +kernel), by decide, by decide, (by decide +kernel), by decide⟩
theorem xdX8_not : xdF mX8_not := ⟨xw 362 (by decide +kernel) (by decide +kernel), xw 70 (by decide +kernel) (by decide +kernel), by decide, by decide, (by decide +kernel), by decide⟩
theorem xdX8_pair : xdF mX8_pair := ⟨xw 370 (by decide +kernel) (by decide +kernel), xw 70 (by decide +kernel) (by decide +kernel), by decide, by decide, (by decide +kernel), by decide⟩
theorem xdX8_makeFormula : xdF mX8_makeFormula := ⟨xw 302 (by decide +kernel) (by decide +kernel), xw 70 (by decide +kernel) (by decide +kernel), by decide, by decide, (by decide +kernel), by decide⟩
theorem xdX8_formulas : xdF mX8_formulas := ⟨xw 374 (by decide +kernel) (by decide +kernel), xw 70 (by decide +kernel) (by decide +kernel), by decide, by decide, (by decide +kernel), by decide⟩
theorem xdX8_part : xdF mX8_part := ⟨xw 378 (by decide +kernel) (by decide +kernel), xw 70 (by decide +kernel) (by decide +kernel), by decide, by decide, (by decide +kernel), by decide⟩
theorem xdX8_length : xdF mX8_length := ⟨xw 383 (by decide +kernel) (by decide +kernel), xw 70 (by decide +kernel) (by decide +kernel), by decide, by decide, (by decide +kernel), by decide⟩
theorem xdX8_character : xdF mX8_character := ⟨xw 393 (by decide +kernel) (by decide +kernel), xw 70 (by decide +kernel) (by decide +kernel), by decide, by decide, (by decide +kernel), by decide⟩
theorem xdX8_isTrue : xdF mX8_isTrue := ⟨xw 408 (by decide +kernel) (by decide +kernel), xw 70 (by decide +kernel) (by decide +kernel), by decide, by decide, (by decide +kernel), by decide⟩
theorem xdX8_premise : xdF mX8_premise := ⟨xw 428 (by decide +kernel) (by decide +kernel), xw 70 (by decide +kernel) (by decide +kernel), by decide, by decide, (by decide +kernel), by decide⟩
theorem xdX8_open : xdF mX8_open := ⟨xw 445 (by decide +kernel) (by decide +kernel), xw 70 (by decide +kernel) (by decide +kernel), by decide, by decide, (by decide +kernel), by decide⟩
theorem xdX8_close : xdF mX8_close := ⟨xw 467 (by decide +kernel) (by decide +kernel), xw 70 (by decide +kernel) (by decide +kernel), by decide, by decide, (by decide +kernel), by decide⟩
theorem xdX8_repeat : xdF mX8_repeat := ⟨xw 479 (by decide +kernel) (by decide +kernel), xw 70 (by decide +kernel) (by decide +kernel), by decide, by decide, (by decide +kernel), by decide⟩
theorem xdX8_fromTwo : xdF mX8_fromTwo := ⟨xw 495 (by decide +kernel) (by decide +kernel), xw 70 (by decide +kernel) (by decide +kernel), by decide, by decide, (by decide +kernel), by decide⟩
theorem xdX8_fromOne : xdF mX8_fromOne := ⟨xw 507 (by decide +kernel) (by decide +kernel), xw 70 (by decide +kernel) (by decide +kernel), by decide, by decide, (by decide +kernel), by decide⟩
theorem xdX8_toFormula : xdF mX8_toFormula := ⟨xw 516 (by decide +kernel) (by decide +kernel), xw 70 (by decide +kernel) (by decide +kernel), by decide, by decide, (by decide +kernel), by decide⟩
theorem xdX8_fromBox : xdF mX8_fromBox := ⟨xw 524 (by decide +kernel) (by decide +kernel), xw 70 (by decide +kernel) (by decide +kernel), by decide, by decide, (by decide +kernel), by decide⟩
theorem xdX8_cases : xdF mX8_cases := ⟨xw 541 (by decide +kernel) (by decide +kernel), xw 70 (by decide +kernel) (by decide +kernel), by decide, by decide, (by decide +kernel), by decide⟩
theorem xdX8_write : xdF mX8_write := ⟨xw 432 (by decide +kernel) (by decide +kernel), xw 70 (by decide +kernel) (by decide +kernel), by decide, by decide, (by decide +kernel), by decide⟩
theorem xdX8_writeMade : xdF mX8_writeMade := ⟨xw 499 (by decide +kernel) (by decide +kernel), xw 70 (by decide +kernel) (by decide +kernel), by decide, by decide, (by decide +kernel), by decide⟩
theorem xdX8_lines : xdF mX8_lines := ⟨xw 545 (by decide +kernel) (by decide +kernel), xw 70 (by decide +kernel) (by decide +kernel), by decide, by decide, (by decide +kernel), by decide⟩
theorem xdX8_line : xdF mX8_line := ⟨xw 549 (by decide +kernel) (by decide +kernel), xw 70 (by decide +kernel) (by decide +kernel), by decide, by decide, (by decide +kernel), by decide⟩
theorem xdX8_reference : xdF mX8_reference := ⟨xw 575 (by decide +kernel) (by decide +kernel), xw 70 (by decide +kernel) (by decide +kernel), by decide, by decide, (by decide +kernel), by decide⟩
theorem xdX8_boxes : xdF mX8_boxes := ⟨xw 580 (by decide +kernel) (by decide +kernel), xw 70 (by decide +kernel) (by decide +kernel), by decide, by decide, (by decide +kernel), by decide⟩
theorem xdX8_box : xdF mX8_box := ⟨xw 584 (by decide +kernel) (by decide +kernel), xw 70 (by decide +kernel) (by decide +kernel), by decide, by decide, (by decide +kernel), by decide⟩
theorem xdX8_depth : xdF mX8_depth := ⟨xw 449 (by decide +kernel) (by decide +kernel), xw 70 (by decide +kernel) (by decide +kernel), by decide, by decide, (by decide +kernel), by decide⟩
theorem xdX8_needs : xdF mX8_needs := ⟨xw 589 (by decide +kernel) (by decide +kernel), xw 70 (by decide +kernel) (by decide +kernel), by decide, by decide, (by decide +kernel), by decide⟩
theorem xdX8_bypass : xdF mX8_bypass := ⟨xw 602 (by decide +kernel) (by decide +kernel), xw 70 (by decide +kernel) (by decide +kernel), by decide, by decide, (by decide +kernel), by decide⟩
theorem xdX8_detours : xdF mX8_detours := ⟨xw 610 (by decide +kernel) (by decide +kernel), xw 70 (by decide +kernel) (by decide +kernel), by decide, by decide, (by decide +kernel), by decide⟩
theorem xdX8_failure : xdF mX8_failure := ⟨xw 619 (by decide +kernel) (by decide +kernel), xw 70 (by decide +kernel) (by decide +kernel), by decide, by decide, (by decide +kernel), by decide⟩
theorem xdX8_counterexample : xdF mX8_counterexample := ⟨xw 640 (by decide +kernel) (by decide +kernel), xw 70 (by decide +kernel) (by decide +kernel), by decide, by decide, (by decide +kernel), by decide⟩
theorem xdX8_lowestFailure : xdF mX8_lowestFailure := ⟨xw 623 (by decide +kernel) (by decide +kernel), xw 70 (by decide +kernel) (by decide +kernel), by decide, by decide, (by decide +kernel), by decide⟩
theorem xdX8_lowestBit : xdF mX8_lowestBit := ⟨xw 630 (by decide +kernel) (by decide +kernel), xw 70 (by decide +kernel) (by decide +kernel), by decide, by decide, (by decide +kernel), by decide⟩
theorem xdX8_shorten : xdF mX8_shorten := ⟨xw 644 (by decide +kernel) (by decide +kernel), xw 70 (by decide +kernel) (by decide +kernel), by decide, by decide, (by decide +kernel), by decide⟩
theorem xdX8_trim : xdF mX8_trim := ⟨xw 656 (by decide +kernel) (by decide +kernel), xw 70 (by decide +kernel) (by decide +kernel), by decide, by decide, (by decide +kernel), by decide⟩
theorem xdX8_append : xdF mX8_append := ⟨xw 685 (by decide +kernel) (by decide +kernel), xw 70 (by decide +kernel) (by decide +kernel), by decide, by decide, (by decide +kernel), by decide⟩
theorem xdX8_clearText : xdF mX8_clearText := ⟨xw 694 (by decide +kernel) (by decide +kernel), xw 70 (by decide +kernel) (by decide +kernel), by decide, by decide, (by decide +kernel), by decide⟩
theorem xdX8_errorPosition : xdF mX8_errorPosition := ⟨xw 698 (by decide +kernel) (by decide +kernel), xw 70 (by decide +kernel) (by decide +kernel), by decide, by decide, (by decide +kernel), by decide⟩
theorem xdX8_read : xdF mX8_read := ⟨xw 718 (by decide +kernel) (by decide +kernel), xw 70 (by decide +kernel) (by decide +kernel), by decide, by decide, (by decide +kernel), by decide⟩
theorem xdX8_undo : xdF mX8_undo := ⟨xw 743 (by decide +kernel) (by decide +kernel), xw 70 (by decide +kernel) (by decide +kernel), by decide, by decide, (by decide +kernel), by decide⟩
theorem xdX8_save : xdF mX8_save := ⟨xw 751 (by decide +kernel) (by decide +kernel), xw 70 (by decide +kernel) (by decide +kernel), by decide, by decide, (by decide +kernel), by decide⟩
theorem xdX8_restore : xdF mX8_restore := ⟨xw 756 (by decide +kernel) (by decide +kernel), xw 70 (by decide +kernel) (by decide +kernel), by decide, by decide, (by decide +kernel), by decide⟩
theorem xdX9_in : xdF mX9_in := ⟨xw 842 (by decide +kernel) (by decide +kernel), xw 79 (by decide +kernel) (by decide +kernel), by decide, by decide, (by decide +kernel), by decide⟩
theorem xdX9_record : xdF mX9_record := ⟨xw 835 (by decide +kernel) (by decide +kernel), xw 79 (by decide +kernel) (by decide +kernel), by decide, by decide, (by decide +kernel), by decide⟩
theorem xdX9_undo : xdF mX9_undo := ⟨xw 823 (by decide +kernel) (by decide +kernel), xw 79 (by decide +kernel) (by decide +kernel), by decide, by decide, (by decide +kernel), by decide⟩
theorem xdX9_save : xdF mX9_save := ⟨xw 827 (by decide +kernel) (by decide +kernel), xw 79 (by decide +kernel) (by decide +kernel), by decide, by decide, (by decide +kernel), by decide⟩
theorem xdX9_restore : xdF mX9_restore := ⟨xw 831 (by decide +kernel) (by decide +kernel), xw 79 (by decide +kernel) (by decide +kernel), by decide, by decide, (by decide +kernel), by decide⟩
theorem xdX9_isFormula : xdF mX9_isFormula := ⟨xw 882 (by decide +kernel) (by decide +kernel), xw 79 (by decide +kernel) (by decide +kernel), by decide, by decide, (by decide +kernel), by decide⟩
theorem xdX9_kind : xdF mX9_kind := ⟨xw 858 (by decide +kernel) (by decide +kernel), xw 79 (by decide +kernel) (by decide +kernel), by decide, by decide, (by decide +kernel), by decide⟩
theorem xdX9_left : xdF mX9_left := ⟨xw 862 (by decide +kernel) (by decide +kernel), xw 79 (by decide +kernel) (by decide +kernel), by decide, by decide, (by decide +kernel), by decide⟩
theorem xdX9_right : xdF mX9_right := ⟨xw 866 (by decide +kernel) (by decide +kernel), xw 79 (by decide +kernel) (by decide +kernel), by decide, by decide, (by decide +kernel), by decide⟩
theorem xdX9_find : xdF mX9_find := ⟨xw 854 (by decide +kernel) (by decide +kernel), xw 79 (by decide +kernel) (by decide +kernel), by decide, by decide, (by decide +kernel), by decide⟩
theorem xdX9_hasRoom : xdF mX9_hasRoom := ⟨xw 850 (by decide +kernel) (by decide +kernel), xw 79 (by decide +kernel) (by decide +kernel), by decide, by decide, (by decide +kernel), by decide⟩
theorem xdX9_make : xdF mX9_make := ⟨xw 870 (by decide +kernel) (by decide +kernel), xw 79 (by decide +kernel) (by decide +kernel), by decide, by decide, (by decide +kernel), by decide⟩
theorem xdX9_makeOne : xdF mX9_makeOne := ⟨xw 846 (by decide +kernel) (by decide +kernel), xw 79 (by decide +kernel) (by decide +kernel), by decide, by decide, (by decide +kernel), by decide⟩
theorem xdX9_atom : xdF mX9_atom := ⟨xw 839 (by decide +kernel) (by decide +kernel), xw 79 (by decide +kernel) (by decide +kernel), by decide, by decide, (by decide +kernel), by decide⟩
theorem xdX9_falsum : xdF mX9_falsum := ⟨xw 874 (by decide +kernel) (by decide +kernel), xw 79 (by decide +kernel) (by decide +kernel), by decide, by decide, (by decide +kernel), by decide⟩
theorem xdX9_not : xdF mX9_not := ⟨xw 878 (by decide +kernel) (by decide +kernel), xw 79 (by decide +kernel) (by decide +kernel), by decide, by decide, (by decide +kernel), by decide⟩
theorem xdX9_pair : xdF mX9_pair := ⟨xw 886 (by decide +kernel) (by decide +kernel), xw 79 (by decide +kernel) (by decide +kernel), by decide, by decide, (by decide +kernel), by decide⟩
theorem xdX9_formulas : xdF mX9_formulas := ⟨xw 890 (by decide +kernel) (by decide +kernel), xw 79 (by decide +kernel) (by decide +kernel), by decide, by decide, (by decide +kernel), by decide⟩
theorem xdX9_part : xdF mX9_part := ⟨xw 894 (by decide +kernel) (by decide +kernel), xw 79 (by decide +kernel) (by decide +kernel), by decide, by decide, (by decide +kernel), by decide⟩
theorem xdX9_measure : xdF mX9_measure := ⟨xw 902 (by decide +kernel) (by decide +kernel), xw 79 (by decide +kernel) (by decide +kernel), by decide, by decide, (by decide +kernel), by decide⟩
theorem xdX9_length : xdF mX9_length := ⟨xw 898 (by decide +kernel) (by decide +kernel), xw 79 (by decide +kernel) (by decide +kernel), by decide, by decide, (by decide +kernel), by decide⟩
theorem xdX9_character : xdF mX9_character := ⟨xw 907 (by decide +kernel) (by decide +kernel), xw 79 (by decide +kernel) (by decide +kernel), by decide, by decide, (by decide +kernel), by decide⟩
theorem xdX9_evaluate : xdF mX9_evaluate := ⟨xw 915 (by decide +kernel) (by decide +kernel), xw 79 (by decide +kernel) (by decide +kernel), by decide, by decide, (by decide +kernel), by decide⟩
theorem xdX9_isTrue : xdF mX9_isTrue := ⟨xw 911 (by decide +kernel) (by decide +kernel), xw 79 (by decide +kernel) (by decide +kernel), by decide, by decide, (by decide +kernel), by decide⟩
theorem xdX9_isLine : xdF mX9_isLine := ⟨xw 963 (by decide +kernel) (by decide +kernel), xw 79 (by decide +kernel) (by decide +kernel), by decide, by decide, (by decide +kernel), by decide⟩
theorem xdX9_isBox : xdF mX9_isBox := ⟨xw 1003 (by decide +kernel) (by decide +kernel), xw 79 (by decide +kernel) (by decide +kernel), by decide, by decide, (by decide +kernel), by decide⟩
theorem xdX9_formulaOf : xdF mX9_formulaOf := ⟨xw 979 (by decide +kernel) (by decide +kernel), xw 79 (by decide +kernel) (by decide +kernel), by decide, by decide, (by decide +kernel), by decide⟩
theorem xdX9_ruleOf : xdF mX9_ruleOf := ⟨xw 1027 (by decide +kernel) (by decide +kernel), xw 79 (by decide +kernel) (by decide +kernel), by decide, by decide, (by decide +kernel), by decide⟩
theorem xdX9_refOf : xdF mX9_refOf := ⟨xw 1043 (by decide +kernel) (by decide +kernel), xw 79 (by decide +kernel) (by decide +kernel), by decide, by decide, (by decide +kernel), by decide⟩
theorem xdX9_boxOf : xdF mX9_boxOf := ⟨xw 955 (by decide +kernel) (by decide +kernel), xw 79 (by decide +kernel) (by decide +kernel), by decide, by decide, (by decide +kernel), by decide⟩
theorem xdX9_opens : xdF mX9_opens := ⟨xw 1011 (by decide +kernel) (by decide +kernel), xw 79 (by decide +kernel) (by decide +kernel), by decide, by decide, (by decide +kernel), by decide⟩
theorem xdX9_ends : xdF mX9_ends := ⟨xw 927 (by decide +kernel) (by decide +kernel), xw 79 (by decide +kernel) (by decide +kernel), by decide, by decide, (by decide +kernel), by decide⟩
theorem xdX9_parent : xdF mX9_parent := ⟨xw 975 (by decide +kernel) (by decide +kernel), xw 79 (by decide +kernel) (by decide +kernel), by decide, by decide, (by decide +kernel), by decide⟩
theorem xdX9_latest : xdF mX9_latest := ⟨xw 923 (by decide +kernel) (by decide +kernel), xw 79 (by decide +kernel) (by decide +kernel), by decide, by decide, (by decide +kernel), by decide⟩
theorem xdX9_openBoxes : xdF mX9_openBoxes := ⟨xw 947 (by decide +kernel) (by decide +kernel), xw 79 (by decide +kernel) (by decide +kernel), by decide, by decide, (by decide +kernel), by decide⟩
theorem xdX9_isShut : xdF mX9_isShut := ⟨xw 971 (by decide +kernel) (by decide +kernel), xw 79 (by decide +kernel) (by decide +kernel), by decide, by decide, (by decide +kernel), by decide⟩
theorem xdX9_isAvailable : xdF mX9_isAvailable := ⟨xw 967 (by decide +kernel) (by decide +kernel), xw 79 (by decide +kernel) (by decide +kernel), by decide, by decide, (by decide +kernel), by decide⟩
theorem xdX9_isBoxAvailable : xdF mX9_isBoxAvailable := ⟨xw 1007 (by decide +kernel) (by decide +kernel), xw 79 (by decide +kernel) (by decide +kernel), by decide, by decide, (by decide +kernel), by decide⟩
theorem xdX9_liesIn : xdF mX9_liesIn := ⟨xw 1124 (by decide +kernel) (by decide +kernel), xw 79 (by decide +kernel) (by decide +kernel), by decide, by decide, (by decide +kernel), by decide⟩
theorem xdX9_depthOf : xdF mX9_depthOf := ⟨xw 1031 (by decide +kernel) (by decide +kernel), xw 79 (by decide +kernel) (by decide +kernel), by decide, by decide, (by decide +kernel), by decide⟩
theorem xdX9_write : xdF mX9_write := ⟨xw 939 (by decide +kernel) (by decide +kernel), xw 79 (by decide +kernel) (by decide +kernel), by decide, by decide, (by decide +kernel), by decide⟩
theorem xdX9_isFull : xdF mX9_isFull := ⟨xw 935 (by decide +kernel) (by decide +kernel), xw 79 (by decide +kernel) (by decide +kernel), by decide, by decide, (by decide +kernel), by decide⟩
theorem xdX9_writeOld : xdF mX9_writeOld := ⟨xw 931 (by decide +kernel) (by decide +kernel), xw 79 (by decide +kernel) (by decide +kernel), by decide, by decide, (by decide +kernel), by decide⟩
theorem xdX9_writeNew : xdF mX9_writeNew := ⟨xw 987 (by decide +kernel) (by decide +kernel), xw 79 (by decide +kernel) (by decide +kernel), by decide, by decide, (by decide +kernel), by decide⟩
theorem xdX9_premise : xdF mX9_premise := ⟨xw 919 (by decide +kernel) (by decide +kernel), xw 79 (by decide +kernel) (by decide +kernel), by decide, by decide, (by decide +kernel), by decide⟩
theorem xdX9_open : xdF mX9_open := ⟨xw 943 (by decide +kernel) (by decide +kernel), xw 79 (by decide +kernel) (by decide +kernel), by decide, by decide, (by decide +kernel), by decide⟩
theorem xdX9_close : xdF mX9_close := ⟨xw 951 (by decide +kernel) (by decide +kernel), xw 79 (by decide +kernel) (by decide +kernel), by decide, by decide, (by decide +kernel), by decide⟩
theorem xdX9_repeat : xdF mX9_repeat := ⟨xw 959 (by decide +kernel) (by decide +kernel), xw 79 (by decide +kernel) (by decide +kernel), by decide, by decide, (by decide +kernel), by decide⟩
theorem xdX9_fromTwo : xdF mX9_fromTwo := ⟨xw 983 (by decide +kernel) (by decide +kernel), xw 79 (by decide +kernel) (by decide +kernel), by decide, by decide, (by decide +kernel), by decide⟩
theorem xdX9_fromOne : xdF mX9_fromOne := ⟨xw 991 (by decide +kernel) (by decide +kernel), xw 79 (by decide +kernel) (by decide +kernel), by decide, by decide, (by decide +kernel), by decide⟩
theorem xdX9_toFormula : xdF mX9_toFormula := ⟨xw 995 (by decide +kernel) (by decide +kernel), xw 79 (by decide +kernel) (by decide +kernel), by decide, by decide, (by decide +kernel), by decide⟩
theorem xdX9_fromBox : xdF mX9_fromBox := ⟨xw 999 (by decide +kernel) (by decide +kernel), xw 79 (by decide +kernel) (by decide +kernel), by decide, by decide, (by decide +kernel), by decide⟩
theorem xdX9_cases : xdF mX9_cases := ⟨xw 1015 (by decide +kernel) (by decide +kernel), xw 79 (by decide +kernel) (by decide +kernel), by decide, by decide, (by decide +kernel), by decide⟩
theorem xdX9_lines : xdF mX9_lines := ⟨xw 1019 (by decide +kernel) (by decide +kernel), xw 79 (by decide +kernel) (by decide +kernel), by decide, by decide, (by decide +kernel), by decide⟩
theorem xdX9_isToBox : xdF mX9_isToBox := ⟨xw 1047 (by decide +kernel) (by decide +kernel), xw 79 (by decide +kernel) (by decide +kernel), by decide, by decide, (by decide +kernel), by decide⟩
theorem xdX9_direct : xdF mX9_direct := ⟨xw 1039 (by decide +kernel) (by decide +kernel), xw 79 (by decide +kernel) (by decide +kernel), by decide, by decide, (by decide +kernel), by decide⟩
theorem xdX9_neededBy : xdF mX9_neededBy := ⟨xw 1035 (by decide +kernel) (by decide +kernel), xw 79 (by decide +kernel) (by decide +kernel), by decide, by decide, (by decide +kernel), by decide⟩
theorem xdX9_line : xdF mX9_line := ⟨xw 1023 (by decide +kernel) (by decide +kernel), xw 79 (by decide +kernel) (by decide +kernel), by decide, by decide, (by decide +kernel), by decide⟩
theorem xdX9_reference : xdF mX9_reference := ⟨xw 1051 (by decide +kernel) (by decide +kernel), xw 79 (by decide +kernel) (by decide +kernel), by decide, by decide, (by decide +kernel), by decide⟩
theorem xdX9_boxes : xdF mX9_boxes := ⟨xw 1055 (by decide +kernel) (by decide +kernel), xw 79 (by decide +kernel) (by decide +kernel), by decide, by decide, (by decide +kernel), by decide⟩
theorem xdX9_box : xdF mX9_box := ⟨xw 1059 (by decide +kernel) (by decide +kernel), xw 79 (by decide +kernel) (by decide +kernel), by decide, by decide, (by decide +kernel), by decide⟩
theorem xdX9_depth : xdF mX9_depth := ⟨xw 1063 (by decide +kernel) (by decide +kernel), xw 79 (by decide +kernel) (by decide +kernel), by decide, by decide, (by decide +kernel), by decide⟩
theorem xdX9_assumed : xdF mX9_assumed := ⟨xw 1075 (by decide +kernel) (by decide +kernel), xw 79 (by decide +kernel) (by decide +kernel), by decide, by decide, (by decide +kernel), by decide⟩
theorem xdX9_needed : xdF mX9_needed := ⟨xw 1071 (by decide +kernel) (by decide +kernel), xw 79 (by decide +kernel) (by decide +kernel), by decide, by decide, (by decide +kernel), by decide⟩
theorem xdX9_needs : xdF mX9_needs := ⟨xw 1067 (by decide +kernel) (by decide +kernel), xw 79 (by decide +kernel) (by decide +kernel), by decide, by decide, (by decide +kernel), by decide⟩
theorem xdX9_bypassOf : xdF mX9_bypassOf := ⟨xw 1084 (by decide +kernel) (by decide +kernel), xw 79 (by decide +kernel) (by decide +kernel), by decide, by decide, (by decide +kernel), by decide⟩
theorem xdX9_bypass : xdF mX9_bypass := ⟨xw 1080 (by decide +kernel) (by decide +kernel), xw 79 (by decide +kernel) (by decide +kernel), by decide, by decide, (by decide +kernel), by decide⟩
theorem xdX9_detours : xdF mX9_detours := ⟨xw 1088 (by decide +kernel) (by decide +kernel), xw 79 (by decide +kernel) (by decide +kernel), by decide, by decide, (by decide +kernel), by decide⟩
theorem xdX9_areTrue : xdF mX9_areTrue := ⟨xw 1104 (by decide +kernel) (by decide +kernel), xw 79 (by decide +kernel) (by decide +kernel), by decide, by decide, (by decide +kernel), by decide⟩
theorem xdX9_premises : xdF mX9_premises := ⟨xw 1096 (by decide +kernel) (by decide +kernel), xw 79 (by decide +kernel) (by decide +kernel), by decide, by decide, (by decide +kernel), by decide⟩
theorem xdX9_fails : xdF mX9_fails := ⟨xw 1100 (by decide +kernel) (by decide +kernel), xw 79 (by decide +kernel) (by decide +kernel), by decide, by decide, (by decide +kernel), by decide⟩
theorem xdX9_failure : xdF mX9_failure := ⟨xw 1092 (by decide +kernel) (by decide +kernel), xw 79 (by decide +kernel) (by decide +kernel), by decide, by decide, (by decide +kernel), by decide⟩
theorem xdX9_counterexample : xdF mX9_counterexample := ⟨xw 1108 (by decide +kernel) (by decide +kernel), xw 79 (by decide +kernel) (by decide +kernel), by decide, by decide, (by decide +kernel), by decide⟩
theorem xdX9_shorten : xdF mX9_shorten := ⟨xw 1112 (by decide +kernel) (by decide +kernel), xw 79 (by decide +kernel) (by decide +kernel), by decide, by decide, (by decide +kernel), by decide⟩
theorem xdX9_renamed : xdF mX9_renamed := ⟨xw 1132 (by decide +kernel) (by decide +kernel), xw 79 (by decide +kernel) (by decide +kernel), by decide, by decide, (by decide +kernel), by decide⟩
theorem xdX9_lastIn : xdF mX9_lastIn := ⟨xw 1120 (by decide +kernel) (by decide +kernel), xw 79 (by decide +kernel) (by decide +kernel), by decide, by decide, (by decide +kernel), by decide⟩
theorem xdX9_trim : xdF mX9_trim := ⟨xw 1116 (by decide +kernel) (by decide +kernel), xw 79 (by decide +kernel) (by decide +kernel), by decide, by decide, (by decide +kernel), by decide⟩
theorem xdX9_moveLines : xdF mX9_moveLines := ⟨xw 1128 (by decide +kernel) (by decide +kernel), xw 79 (by decide +kernel) (by decide +kernel), by decide, by decide, (by decide +kernel), by decide⟩
theorem xdX9_moveBoxes : xdF mX9_moveBoxes := ⟨xw 1136 (by decide +kernel) (by decide +kernel), xw 79 (by decide +kernel) (by decide +kernel), by decide, by decide, (by decide +kernel), by decide⟩
theorem xdX9_append : xdF mX9_append := ⟨xw 1140 (by decide +kernel) (by decide +kernel), xw 79 (by decide +kernel) (by decide +kernel), by decide, by decide, (by decide +kernel), by decide⟩
theorem xdX9_clearText : xdF mX9_clearText := ⟨xw 1144 (by decide +kernel) (by decide +kernel), xw 79 (by decide +kernel) (by decide +kernel), by decide, by decide, (by decide +kernel), by decide⟩
theorem xdX9_makes : xdF mX9_makes := ⟨xw 1160 (by decide +kernel) (by decide +kernel), xw 79 (by decide +kernel) (by decide +kernel), by decide, by decide, (by decide +kernel), by decide⟩
theorem xdX9_isWhole : xdF mX9_isWhole := ⟨xw 1164 (by decide +kernel) (by decide +kernel), xw 79 (by decide +kernel) (by decide +kernel), by decide, by decide, (by decide +kernel), by decide⟩
theorem xdX9_signOf : xdF mX9_signOf := ⟨xw 1167 (by decide +kernel) (by decide +kernel), xw 79 (by decide +kernel) (by decide +kernel), by decide, by decide, (by decide +kernel), by decide⟩
theorem xdX9_readOne : xdF mX9_readOne := ⟨xw 1156 (by decide +kernel) (by decide +kernel), xw 79 (by decide +kernel) (by decide +kernel), by decide, by decide, (by decide +kernel), by decide⟩
theorem xdX9_readBuffer : xdF mX9_readBuffer := ⟨xw 1152 (by decide +kernel) (by decide +kernel), xw 79 (by decide +kernel) (by decide +kernel), by decide, by decide, (by decide +kernel), by decide⟩
theorem xdX9_errorPosition : xdF mX9_errorPosition := ⟨xw 1148 (by decide +kernel) (by decide +kernel), xw 79 (by decide +kernel) (by decide +kernel), by decide, by decide, (by decide +kernel), by decide⟩
theorem xdX9_read : xdF mX9_read := ⟨xw 1171 (by decide +kernel) (by decide +kernel), xw 79 (by decide +kernel) (by decide +kernel), by decide, by decide, (by decide +kernel), by decide⟩
theorem xdJ6_bitCount_0f7a4 : xdF mJ6_bitCount_0f7a4 := ⟨xw 633 (by decide +kernel) (by decide +kernel), xw 82 (by decide +kernel) (by decide +kernel), by decide, by decide, (by decide +kernel), by decide⟩
theorem xdJ13_bitCount_95d88 : xdF mJ13_bitCount_95d88 := ⟨xw 670 (by decide +kernel) (by decide +kernel), xw 83 (by decide +kernel) (by decide +kernel), by decide, by decide, (by decide +kernel), by decide⟩
theorem xfX0_9 : xfF 0 (9, 0, 0, 1) := ⟨RX0, TX0, 5, rfl, by decide, xw 226 (by decide +kernel) (by decide +kernel), fun _ => ⟨rfl, rfl⟩, fun h => absurd h (by decide)⟩
theorem xfX0_20 : xfF 0 (20, 0, 1, 0) := ⟨RX0, TX0, 5, rfl, by decide, xw 229 (by decide +kernel) (by decide +kernel), fun h => absurd h (by decide), fun h => absurd h (by decide)⟩
theorem xfX0_24 : xfF 0 (24, 0, 2, 1) := ⟨RX0, TX0, 5, rfl, by decide, xw 231 (by decide +kernel) (by decide +kernel), fun _ => ⟨rfl, rfl⟩, fun h => absurd h (by decide)⟩
theorem xfX0_27 : xfF 0 (27, 0, 3, 1) := ⟨RX0, TX0, 5, rfl, by decide, xw 232 (by decide +kernel) (by decide +kernel), fun _ => ⟨rfl, rfl⟩, fun h => absurd h (by decide)⟩
theorem xfX0_30 : xfF 0 (30, 0, 4, 2) := ⟨RX0, TX0, 5, rfl, by decide, xw 233 (by decide +kernel) (by decide +kernel), fun h => absurd h (by decide), fun _ => ⟨rfl, rfl⟩⟩
theorem xvX0_34 : xvF 0 (34, 5, mX5_set) := ⟨⟨TX5, 1, rfl⟩, ⟨xw 690 (by decide +kernel) (by decide +kernel), xdX5_set⟩, xw 352 (by decide +kernel) (by decide +kernel), xw 353 (by decide +kernel) (by decide +kernel)⟩
theorem xvX0_38 : xvF 0 (38, 5, mX5_get) := ⟨⟨TX5, 1, rfl⟩, ⟨xw 703 (by decide +kernel) (by decide +kernel), xdX5_get⟩, xw 312 (by decide +kernel) (by decide +kernel), xw 313 (by decide +kernel) (by decide +kernel)⟩
theorem xvX0_42 : xvF 0 (42, 0, mX0_continuesPart) := ⟨⟨TX0, 5, rfl⟩, ⟨xw 704 (by decide +kernel) (by decide +kernel), xdX0_continuesPart⟩, xw 706 (by decide +kernel) (by decide +kernel), xw 16 (by decide +kernel) (by decide +kernel)⟩
theorem xvX0_46 : xvF 0 (46, 0, mX0_beginsPart) := ⟨⟨TX0, 5, rfl⟩, ⟨xw 711 (by decide +kernel) (by decide +kernel), xdX0_beginsPart⟩, xw 713 (by decide +kernel) (by decide +kernel), xw 17 (by decide +kernel) (by decide +kernel)⟩
theorem xsX0_49 : xsF 0 (49, 0, mX6_kindOf) := ⟨⟨xw 708 (by decide +kernel) (by decide +kernel), xdX6_kindOf⟩, xw 709 (by decide +kernel) (by decide +kernel)⟩
def ceX0 : xCE := ([(9, 0, 0, 1), (20, 0, 1, 0), (24, 0, 2, 1), (27, 0, 3, 1), (30, 0, 4, 2)], [(34, 5, mX5_set), (38, 5, mX5_get), (42, 0, mX0_continuesPart), (46, 0, mX0_beginsPart)], [(49, 0, mX6_kindOf)], [], [])
theorem ceX0_ok : xCEok 0 ceX0 := ⟨(xfc xfX0_9 (xfc xfX0_20 (xfc xfX0_24 (xfc xfX0_27 (xfc xfX0_30 xfn))))), (xfc xvX0_34 (xfc xvX0_38 (xfc xvX0_42 (xfc xvX0_46 xfn)))), (xfc xsX0_49 xfn), xfn, xfn⟩
theorem xfX1_9 : xfF 1 (9, 1, 0, 1) := ⟨RX1, TX1, 3, rfl, by decide, xw 253 (by decide +kernel) (by decide +kernel), fun _ => ⟨rfl, rfl⟩, fun h => absurd h (by decide)⟩
theorem xfX1_20 : xfF 1 (20, 1, 1, 0) := ⟨RX1, TX1, 3, rfl, by decide, xw 254 (by decide +kernel) (by decide +kernel), fun h => absurd h (by decide), fun h => absurd h (by decide)⟩
theorem xfX1_24 : xfF 1 (24, 1, 2, 0) := ⟨RX1, TX1, 3, rfl, by decide, xw 255 (by decide +kernel) (by decide +kernel), fun h => absurd h (by decide), fun h => absurd h (by decide)⟩
theorem xfX1_27 : xfF 1 (27, 0, 0, 1) := ⟨RX0, TX0, 5, rfl, by decide, xw 227 (by decide +kernel) (by decide +kernel), fun _ => ⟨rfl, rfl⟩, fun h => absurd h (by decide)⟩
theorem xfX1_32 : xfF 1 (32, 0, 1, 0) := ⟨RX0, TX0, 5, rfl, by decide, xw 230 (by decide +kernel) (by decide +kernel), fun h => absurd h (by decide), fun h => absurd h (by decide)⟩
theorem xvX1_35 : xvF 1 (35, 5, mX5_get) := ⟨⟨TX5, 1, rfl⟩, ⟨xw 724 (by decide +kernel) (by decide +kernel), xdX5_get⟩, xw 312 (by decide +kernel) (by decide +kernel), xw 313 (by decide +kernel) (by decide +kernel)⟩
theorem xvX1_39 : xvF 1 (39, 1, mX1_push) := ⟨⟨TX1, 3, rfl⟩, ⟨xw 725 (by decide +kernel) (by decide +kernel), xdX1_push⟩, xw 727 (by decide +kernel) (by decide +kernel), xw 18 (by decide +kernel) (by decide +kernel)⟩
theorem xvX1_47 : xvF 1 (47, 5, mX5_set) := ⟨⟨TX5, 1, rfl⟩, ⟨xw 729 (by decide +kernel) (by decide +kernel), xdX5_set⟩, xw 352 (by decide +kernel) (by decide +kernel), xw 353 (by decide +kernel) (by decide +kernel)⟩
theorem xvX1_51 : xvF 1 (51, 1, mX1_makeAtEnd) := ⟨⟨TX1, 3, rfl⟩, ⟨xw 731 (by decide +kernel) (by decide +kernel), xdX1_makeAtEnd⟩, xw 733 (by decide +kernel) (by decide +kernel), xw 19 (by decide +kernel) (by decide +kernel)⟩
theorem xvX1_55 : xvF 1 (55, 1, mX1_negate) := ⟨⟨TX1, 3, rfl⟩, ⟨xw 736 (by decide +kernel) (by decide +kernel), xdX1_negate⟩, xw 738 (by decide +kernel) (by decide +kernel), xw 20 (by decide +kernel) (by decide +kernel)⟩
theorem xvX1_59 : xvF 1 (59, 2, mX2_make) := ⟨⟨TX2, 4, rfl⟩, ⟨xw 735 (by decide +kernel) (by decide +kernel), xdX2_make⟩, xw 348 (by decide +kernel) (by decide +kernel), xw 349 (by decide +kernel) (by decide +kernel)⟩
theorem xsX1_42 : xsF 1 (42, 0, mX6_kindOf) := ⟨⟨xw 730 (by decide +kernel) (by decide +kernel), xdX6_kindOf⟩, xw 709 (by decide +kernel) (by decide +kernel)⟩
def ceX1 : xCE := ([(9, 1, 0, 1), (20, 1, 1, 0), (24, 1, 2, 0), (27, 0, 0, 1), (32, 0, 1, 0)], [(35, 5, mX5_get), (39, 1, mX1_push), (47, 5, mX5_set), (51, 1, mX1_makeAtEnd), (55, 1, mX1_negate), (59, 2, mX2_make)], [(42, 0, mX6_kindOf)], [], [])
theorem ceX1_ok : xCEok 1 ceX1 := ⟨(xfc xfX1_9 (xfc xfX1_20 (xfc xfX1_24 (xfc xfX1_27 (xfc xfX1_32 xfn))))), (xfc xvX1_35 (xfc xvX1_39 (xfc xvX1_47 (xfc xvX1_51 (xfc xvX1_55 (xfc xvX1_59 xfn)))))), (xfc xsX1_42 xfn), xfn, xfn⟩
theorem xfX2_9 : xfF 2 (9, 2, 0, 1) := ⟨RX2, TX2, 4, rfl, by decide, xw 118 (by decide +kernel) (by decide +kernel), fun _ => ⟨rfl, rfl⟩, fun h => absurd h (by decide)⟩
theorem xfX2_20 : xfF 2 (20, 2, 1, 0) := ⟨RX2, TX2, 4, rfl, by decide, xw 120 (by decide +kernel) (by decide +kernel), fun h => absurd h (by decide), fun h => absurd h (by decide)⟩
theorem xfX2_24 : xfF 2 (24, 2, 2, 0) := ⟨RX2, TX2, 4, rfl, by decide, xw 122 (by decide +kernel) (by decide +kernel), fun h => absurd h (by decide), fun h => absurd h (by decide)⟩
theorem xfX2_27 : xfF 2 (27, 2, 3, 0) := ⟨RX2, TX2, 4, rfl, by decide, xw 124 (by decide +kernel) (by decide +kernel), fun h => absurd h (by decide), fun h => absurd h (by decide)⟩
theorem xvX2_30 : xvF 2 (30, 5, mX5_copyFrom) := ⟨⟨TX5, 1, rfl⟩, ⟨xw 331 (by decide +kernel) (by decide +kernel), xdX5_copyFrom⟩, xw 332 (by decide +kernel) (by decide +kernel), xw 333 (by decide +kernel) (by decide +kernel)⟩
theorem xvX2_34 : xvF 2 (34, 5, mX5_get) := ⟨⟨TX5, 1, rfl⟩, ⟨xw 311 (by decide +kernel) (by decide +kernel), xdX5_get⟩, xw 312 (by decide +kernel) (by decide +kernel), xw 313 (by decide +kernel) (by decide +kernel)⟩
theorem xvX2_38 : xvF 2 (38, 2, mX2_isOfKind) := ⟨⟨TX2, 4, rfl⟩, ⟨xw 512 (by decide +kernel) (by decide +kernel), xdX2_isOfKind⟩, xw 501 (by decide +kernel) (by decide +kernel), xw 502 (by decide +kernel) (by decide +kernel)⟩
theorem xvX2_42 : xvF 2 (42, 2, mX2_find) := ⟨⟨TX2, 4, rfl⟩, ⟨xw 307 (by decide +kernel) (by decide +kernel), xdX2_find⟩, xw 309 (by decide +kernel) (by decide +kernel), xw 1 (by decide +kernel) (by decide +kernel)⟩
theorem xvX2_46 : xvF 2 (46, 5, mX5_set) := ⟨⟨TX5, 1, rfl⟩, ⟨xw 351 (by decide +kernel) (by decide +kernel), xdX5_set⟩, xw 352 (by decide +kernel) (by decide +kernel), xw 353 (by decide +kernel) (by decide +kernel)⟩
theorem xvX2_57 : xvF 2 (57, 2, mX2_firstCode) := ⟨⟨TX2, 4, rfl⟩, ⟨xw 398 (by decide +kernel) (by decide +kernel), xdX2_firstCode⟩, xw 400 (by decide +kernel) (by decide +kernel), xw 3 (by decide +kernel) (by decide +kernel)⟩
theorem xvX2_65 : xvF 2 (65, 2, mX2_truthOf) := ⟨⟨TX2, 4, rfl⟩, ⟨xw 413 (by decide +kernel) (by decide +kernel), xdX2_truthOf⟩, xw 415 (by decide +kernel) (by decide +kernel), xw 4 (by decide +kernel) (by decide +kernel)⟩
theorem xsX2_60 : xsF 2 (60, 0, mX6_ofKind) := ⟨⟨xw 402 (by decide +kernel) (by decide +kernel), xdX6_ofKind⟩, xw 403 (by decide +kernel) (by decide +kernel)⟩
theorem xsX2_69 : xsF 2 (69, 0, mX2_truthOfAtom) := ⟨⟨xw 417 (by decide +kernel) (by decide +kernel), xdX2_truthOfAtom⟩, xw 418 (by decide +kernel) (by decide +kernel)⟩
theorem xkX2_50 : xkF 2 (50, vI 1000000) := xw 388 (by decide +kernel) (by decide +kernel)
theorem xkX2_72 : xkF 2 (72, vI (-1431655766)) := xw 420 (by decide +kernel) (by decide +kernel)
theorem xkX2_73 : xkF 2 (73, vI (-858993460)) := xw 421 (by decide +kernel) (by decide +kernel)
theorem xkX2_74 : xkF 2 (74, vI (-252645136)) := xw 422 (by decide +kernel) (by decide +kernel)
theorem xkX2_75 : xkF 2 (75, vI (-16711936)) := xw 423 (by decide +kernel) (by decide +kernel)
theorem xkX2_76 : xkF 2 (76, vI (-65536)) := xw 424 (by decide +kernel) (by decide +kernel)
theorem xnX2_51 : xnF 2 (51, 1) := ⟨fun _ => ⟨xw 389 (by decide +kernel) (by decide +kernel), xw 336 (by decide +kernel) (by decide +kernel), xw 74 (by decide +kernel) (by decide +kernel), xw 337 (by decide +kernel) (by decide +kernel)⟩, fun h => absurd h (by decide)⟩
def ceX2 : xCE := ([(9, 2, 0, 1), (20, 2, 1, 0), (24, 2, 2, 0), (27, 2, 3, 0)], [(30, 5, mX5_copyFrom), (34, 5, mX5_get), (38, 2, mX2_isOfKind), (42, 2, mX2_find), (46, 5, mX5_set), (57, 2, mX2_firstCode), (65, 2, mX2_truthOf)], [(60, 0, mX6_ofKind), (69, 0, mX2_truthOfAtom)], [(50, vI 1000000), (72, vI (-1431655766)), (73, vI (-858993460)), (74, vI (-252645136)), (75, vI (-16711936)), (76, vI (-65536))], [(51, 1)])
theorem ceX2_ok : xCEok 2 ceX2 := ⟨(xfc xfX2_9 (xfc xfX2_20 (xfc xfX2_24 (xfc xfX2_27 xfn)))), (xfc xvX2_30 (xfc xvX2_34 (xfc xvX2_38 (xfc xvX2_42 (xfc xvX2_46 (xfc xvX2_57 (xfc xvX2_65 xfn))))))), (xfc xsX2_60 (xfc xsX2_69 xfn)), (xfc xkX2_50 (xfc xkX2_72 (xfc xkX2_73 (xfc xkX2_74 (xfc xkX2_75 (xfc xkX2_76 xfn)))))), (xfc xnX2_51 xfn)⟩
theorem xfX3_9 : xfF 3 (9, 3, 0, 1) := ⟨RX3, TX3, 3, rfl, by decide, xw 207 (by decide +kernel) (by decide +kernel), fun _ => ⟨rfl, rfl⟩, fun h => absurd h (by decide)⟩
theorem xfX3_15 : xfF 3 (15, 3, 1, 1) := ⟨RX3, TX3, 3, rfl, by decide, xw 209 (by decide +kernel) (by decide +kernel), fun _ => ⟨rfl, rfl⟩, fun h => absurd h (by decide)⟩
theorem xfX3_20 : xfF 3 (20, 3, 2, 0) := ⟨RX3, TX3, 3, rfl, by decide, xw 210 (by decide +kernel) (by decide +kernel), fun h => absurd h (by decide), fun h => absurd h (by decide)⟩
theorem xvX3_25 : xvF 3 (25, 3, mX3_at) := ⟨⟨TX3, 3, rfl⟩, ⟨xw 319 (by decide +kernel) (by decide +kernel), xdX3_at⟩, xw 321 (by decide +kernel) (by decide +kernel), xw 2 (by decide +kernel) (by decide +kernel)⟩
theorem xvX3_29 : xvF 3 (29, 6, mX7_copyFrom) := ⟨⟨TX7, 2, rfl⟩, ⟨xw 323 (by decide +kernel) (by decide +kernel), xdX7_copyFrom⟩, xw 324 (by decide +kernel) (by decide +kernel), xw 325 (by decide +kernel) (by decide +kernel)⟩
theorem xnX3_33 : xnF 3 (33, 1) := ⟨fun _ => ⟨xw 346 (by decide +kernel) (by decide +kernel), xw 336 (by decide +kernel) (by decide +kernel), xw 74 (by decide +kernel) (by decide +kernel), xw 337 (by decide +kernel) (by decide +kernel)⟩, fun h => absurd h (by decide)⟩
def ceX3 : xCE := ([(9, 3, 0, 1), (15, 3, 1, 1), (20, 3, 2, 0)], [(25, 3, mX3_at), (29, 6, mX7_copyFrom)], [], [], [(33, 1)])
theorem ceX3_ok : xCEok 3 ceX3 := ⟨(xfc xfX3_9 (xfc xfX3_15 (xfc xfX3_20 xfn))), (xfc xvX3_25 (xfc xvX3_29 xfn)), xfn, xfn, (xfc xnX3_33 xfn)⟩
theorem xfX4_9 : xfF 4 (9, 4, 0, 1) := ⟨RX4, TX4, 12, rfl, by decide, xw 143 (by decide +kernel) (by decide +kernel), fun _ => ⟨rfl, rfl⟩, fun h => absurd h (by decide)⟩
theorem xfX4_15 : xfF 4 (15, 4, 1, 1) := ⟨RX4, TX4, 12, rfl, by decide, xw 145 (by decide +kernel) (by decide +kernel), fun _ => ⟨rfl, rfl⟩, fun h => absurd h (by decide)⟩
theorem xfX4_18 : xfF 4 (18, 4, 2, 1) := ⟨RX4, TX4, 12, rfl, by decide, xw 147 (by decide +kernel) (by decide +kernel), fun _ => ⟨rfl, rfl⟩, fun h => absurd h (by decide)⟩
theorem xfX4_26 : xfF 4 (26, 4, 3, 0) := ⟨RX4, TX4, 12, rfl, by decide, xw 149 (by decide +kernel) (by decide +kernel), fun h => absurd h (by decide), fun h => absurd h (by decide)⟩
theorem xfX4_30 : xfF 4 (30, 4, 4, 0) := ⟨RX4, TX4, 12, rfl, by decide, xw 151 (by decide +kernel) (by decide +kernel), fun h => absurd h (by decide), fun h => absurd h (by decide)⟩
theorem xfX4_33 : xfF 4 (33, 4, 5, 0) := ⟨RX4, TX4, 12, rfl, by decide, xw 153 (by decide +kernel) (by decide +kernel), fun h => absurd h (by decide), fun h => absurd h (by decide)⟩
theorem xfX4_36 : xfF 4 (36, 4, 6, 0) := ⟨RX4, TX4, 12, rfl, by decide, xw 155 (by decide +kernel) (by decide +kernel), fun h => absurd h (by decide), fun h => absurd h (by decide)⟩
theorem xfX4_39 : xfF 4 (39, 4, 7, 0) := ⟨RX4, TX4, 12, rfl, by decide, xw 156 (by decide +kernel) (by decide +kernel), fun h => absurd h (by decide), fun h => absurd h (by decide)⟩
theorem xfX4_42 : xfF 4 (42, 4, 8, 0) := ⟨RX4, TX4, 12, rfl, by decide, xw 157 (by decide +kernel) (by decide +kernel), fun h => absurd h (by decide), fun h => absurd h (by decide)⟩
theorem xfX4_45 : xfF 4 (45, 4, 9, 0) := ⟨RX4, TX4, 12, rfl, by decide, xw 158 (by decide +kernel) (by decide +kernel), fun h => absurd h (by decide), fun h => absurd h (by decide)⟩
theorem xfX4_48 : xfF 4 (48, 4, 10, 0) := ⟨RX4, TX4, 12, rfl, by decide, xw 160 (by decide +kernel) (by decide +kernel), fun h => absurd h (by decide), fun h => absurd h (by decide)⟩
theorem xfX4_51 : xfF 4 (51, 4, 11, 0) := ⟨RX4, TX4, 12, rfl, by decide, xw 162 (by decide +kernel) (by decide +kernel), fun h => absurd h (by decide), fun h => absurd h (by decide)⟩
theorem xvX4_54 : xvF 4 (54, 5, mX5_copyFrom) := ⟨⟨TX5, 1, rfl⟩, ⟨xw 345 (by decide +kernel) (by decide +kernel), xdX5_copyFrom⟩, xw 332 (by decide +kernel) (by decide +kernel), xw 333 (by decide +kernel) (by decide +kernel)⟩
theorem xvX4_58 : xvF 4 (58, 5, mX5_set) := ⟨⟨TX5, 1, rfl⟩, ⟨xw 441 (by decide +kernel) (by decide +kernel), xdX5_set⟩, xw 352 (by decide +kernel) (by decide +kernel), xw 353 (by decide +kernel) (by decide +kernel)⟩
theorem xvX4_62 : xvF 4 (62, 4, mX4_addLine) := ⟨⟨TX4, 12, rfl⟩, ⟨xw 463 (by decide +kernel) (by decide +kernel), xdX4_addLine⟩, xw 438 (by decide +kernel) (by decide +kernel), xw 439 (by decide +kernel) (by decide +kernel)⟩
theorem xvX4_66 : xvF 4 (66, 5, mX5_get) := ⟨⟨TX5, 1, rfl⟩, ⟨xw 458 (by decide +kernel) (by decide +kernel), xdX5_get⟩, xw 312 (by decide +kernel) (by decide +kernel), xw 313 (by decide +kernel) (by decide +kernel)⟩
theorem xvX4_70 : xvF 4 (70, 4, mX4_hasBox) := ⟨⟨TX4, 12, rfl⟩, ⟨xw 454 (by decide +kernel) (by decide +kernel), xdX4_hasBox⟩, xw 455 (by decide +kernel) (by decide +kernel), xw 456 (by decide +kernel) (by decide +kernel)⟩
theorem xvX4_74 : xvF 4 (74, 4, mX4_isNoneOrOpen) := ⟨⟨TX4, 12, rfl⟩, ⟨xw 488 (by decide +kernel) (by decide +kernel), xdX4_isNoneOrOpen⟩, xw 490 (by decide +kernel) (by decide +kernel), xw 6 (by decide +kernel) (by decide +kernel)⟩
theorem xvX4_81 : xvF 4 (81, 4, mX4_countLineReferences) := ⟨⟨TX4, 12, rfl⟩, ⟨xw 558 (by decide +kernel) (by decide +kernel), xdX4_countLineReferences⟩, xw 560 (by decide +kernel) (by decide +kernel), xw 9 (by decide +kernel) (by decide +kernel)⟩
theorem xvX4_84 : xvF 4 (84, 4, mX4_referenceAt) := ⟨⟨TX4, 12, rfl⟩, ⟨xw 562 (by decide +kernel) (by decide +kernel), xdX4_referenceAt⟩, xw 563 (by decide +kernel) (by decide +kernel), xw 564 (by decide +kernel) (by decide +kernel)⟩
theorem xvX4_88 : xvF 4 (88, 4, mX4_directNeeds) := ⟨⟨TX4, 12, rfl⟩, ⟨xw 554 (by decide +kernel) (by decide +kernel), xdX4_directNeeds⟩, xw 556 (by decide +kernel) (by decide +kernel), xw 8 (by decide +kernel) (by decide +kernel)⟩
theorem xvX4_95 : xvF 4 (95, 4, mX4_assumptionsFrom) := ⟨⟨TX4, 12, rfl⟩, ⟨xw 595 (by decide +kernel) (by decide +kernel), xdX4_assumptionsFrom⟩, xw 597 (by decide +kernel) (by decide +kernel), xw 10 (by decide +kernel) (by decide +kernel)⟩
theorem xvX4_98 : xvF 4 (98, 4, mX4_bypassOf) := ⟨⟨TX4, 12, rfl⟩, ⟨xw 615 (by decide +kernel) (by decide +kernel), xdX4_bypassOf⟩, xw 604 (by decide +kernel) (by decide +kernel), xw 605 (by decide +kernel) (by decide +kernel)⟩
theorem xvX4_101 : xvF 4 (101, 4, mX4_bypassIn) := ⟨⟨TX4, 12, rfl⟩, ⟨xw 649 (by decide +kernel) (by decide +kernel), xdX4_bypassIn⟩, xw 651 (by decide +kernel) (by decide +kernel), xw 12 (by decide +kernel) (by decide +kernel)⟩
theorem xvX4_105 : xvF 4 (105, 4, mX4_keepBoxes) := ⟨⟨TX4, 12, rfl⟩, ⟨xw 661 (by decide +kernel) (by decide +kernel), xdX4_keepBoxes⟩, xw 663 (by decide +kernel) (by decide +kernel), xw 13 (by decide +kernel) (by decide +kernel)⟩
theorem xvX4_109 : xvF 4 (109, 4, mX4_moveLine) := ⟨⟨TX4, 12, rfl⟩, ⟨xw 674 (by decide +kernel) (by decide +kernel), xdX4_moveLine⟩, xw 676 (by decide +kernel) (by decide +kernel), xw 14 (by decide +kernel) (by decide +kernel)⟩
theorem xvX4_113 : xvF 4 (113, 4, mX4_findEnds) := ⟨⟨TX4, 12, rfl⟩, ⟨xw 678 (by decide +kernel) (by decide +kernel), xdX4_findEnds⟩, xw 680 (by decide +kernel) (by decide +kernel), xw 15 (by decide +kernel) (by decide +kernel)⟩
theorem xsX4_77 : xsF 4 (77, 0, mX4_bit) := ⟨⟨xw 566 (by decide +kernel) (by decide +kernel), xdX4_bit⟩, xw 567 (by decide +kernel) (by decide +kernel)⟩
theorem xsX4_91 : xsF 4 (91, 0, mX4_contains) := ⟨⟨xw 569 (by decide +kernel) (by decide +kernel), xdX4_contains⟩, xw 570 (by decide +kernel) (by decide +kernel)⟩
theorem xsX4_116 : xsF 4 (116, 0, mJ13_bitCount_95d88) := ⟨⟨xw 668 (by decide +kernel) (by decide +kernel), xdJ13_bitCount_95d88⟩, xw 669 (by decide +kernel) (by decide +kernel)⟩
theorem xsX4_122 : xsF 4 (122, 0, mX4_renumbered) := ⟨⟨xw 665 (by decide +kernel) (by decide +kernel), xdX4_renumbered⟩, xw 666 (by decide +kernel) (by decide +kernel)⟩
def ceX4 : xCE := ([(9, 4, 0, 1), (15, 4, 1, 1), (18, 4, 2, 1), (26, 4, 3, 0), (30, 4, 4, 0), (33, 4, 5, 0), (36, 4, 6, 0), (39, 4, 7, 0), (42, 4, 8, 0), (45, 4, 9, 0), (48, 4, 10, 0), (51, 4, 11, 0)], [(54, 5, mX5_copyFrom), (58, 5, mX5_set), (62, 4, mX4_addLine), (66, 5, mX5_get), (70, 4, mX4_hasBox), (74, 4, mX4_isNoneOrOpen), (81, 4, mX4_countLineReferences), (84, 4, mX4_referenceAt), (88, 4, mX4_directNeeds), (95, 4, mX4_assumptionsFrom), (98, 4, mX4_bypassOf), (101, 4, mX4_bypassIn), (105, 4, mX4_keepBoxes), (109, 4, mX4_moveLine), (113, 4, mX4_findEnds)], [(77, 0, mX4_bit), (91, 0, mX4_contains), (116, 0, mJ13_bitCount_95d88), (122, 0, mX4_renumbered)], [], [])
theorem ceX4_ok : xCEok 4 ceX4 := ⟨(xfc xfX4_9 (xfc xfX4_15 (xfc xfX4_18 (xfc xfX4_26 (xfc xfX4_30 (xfc xfX4_33 (xfc xfX4_36 (xfc xfX4_39 (xfc xfX4_42 (xfc xfX4_45 (xfc xfX4_48 (xfc xfX4_51 xfn)))))))))))), (xfc xvX4_54 (xfc xvX4_58 (xfc xvX4_62 (xfc xvX4_66 (xfc xvX4_70 (xfc xvX4_74 (xfc xvX4_81 (xfc xvX4_84 (xfc xvX4_88 (xfc xvX4_95 (xfc xvX4_98 (xfc xvX4_101 (xfc xvX4_105 (xfc xvX4_109 (xfc xvX4_113 xfn))))))))))))))), (xfc xsX4_77 (xfc xsX4_91 (xfc xsX4_116 (xfc xsX4_122 xfn)))), xfn, xfn⟩
theorem xfX5_15 : xfF 5 (15, 5, 0, 0) := ⟨RX5, TX5, 1, rfl, by decide, xw 113 (by decide +kernel) (by decide +kernel), fun h => absurd h (by decide), fun h => absurd h (by decide)⟩
theorem xnX5_21 : xnF 5 (21, 1) := ⟨fun _ => ⟨xw 335 (by decide +kernel) (by decide +kernel), xw 336 (by decide +kernel) (by decide +kernel), xw 74 (by decide +kernel) (by decide +kernel), xw 337 (by decide +kernel) (by decide +kernel)⟩, fun h => absurd h (by decide)⟩
theorem xnX5_24 : xnF 5 (24, 2) := ⟨fun h => absurd h (by decide), fun _ => ⟨xw 338 (by decide +kernel) (by decide +kernel), xw 340 (by decide +kernel) (by decide +kernel), xw 339 (by decide +kernel) (by decide +kernel), xw 80 (by decide +kernel) (by decide +kernel)⟩⟩
def ceX5 : xCE := ([(15, 5, 0, 0)], [], [], [], [(21, 1), (24, 2)])
theorem ceX5_ok : xCEok 5 ceX5 := ⟨(xfc xfX5_15 xfn), xfn, xfn, xfn, (xfc xnX5_21 (xfc xnX5_24 xfn))⟩
def ceX6 : xCE := ([], [], [], [], [])
theorem ceX6_ok : xCEok 6 ceX6 := ⟨xfn, xfn, xfn, xfn, xfn⟩
theorem xfX7_10 : xfF 7 (10, 6, 0, 0) := ⟨RX7, TX7, 2, rfl, by decide, xw 189 (by decide +kernel) (by decide +kernel), fun h => absurd h (by decide), fun h => absurd h (by decide)⟩
theorem xfX7_19 : xfF 7 (19, 6, 1, 0) := ⟨RX7, TX7, 2, rfl, by decide, xw 191 (by decide +kernel) (by decide +kernel), fun h => absurd h (by decide), fun h => absurd h (by decide)⟩
theorem xvX7_23 : xvF 7 (23, 2, mX2_copyFrom) := ⟨⟨TX2, 4, rfl⟩, ⟨xw 327 (by decide +kernel) (by decide +kernel), xdX2_copyFrom⟩, xw 328 (by decide +kernel) (by decide +kernel), xw 329 (by decide +kernel) (by decide +kernel)⟩
theorem xvX7_27 : xvF 7 (27, 4, mX4_copyFrom) := ⟨⟨TX4, 12, rfl⟩, ⟨xw 341 (by decide +kernel) (by decide +kernel), xdX4_copyFrom⟩, xw 342 (by decide +kernel) (by decide +kernel), xw 343 (by decide +kernel) (by decide +kernel)⟩
def ceX7 : xCE := ([(10, 6, 0, 0), (19, 6, 1, 0)], [(23, 2, mX2_copyFrom), (27, 4, mX4_copyFrom)], [], [], [])
theorem ceX7_ok : xCEok 7 ceX7 := ⟨(xfc xfX7_10 (xfc xfX7_19 xfn)), (xfc xvX7_23 (xfc xvX7_27 xfn)), xfn, xfn, xfn⟩
theorem xfX8_10 : xfF 8 (10, 7, 0, 0) := ⟨RX8, TX8, 9, rfl, by decide, xw 267 (by decide +kernel) (by decide +kernel), fun h => absurd h (by decide), fun h => absurd h (by decide)⟩
theorem xfX8_16 : xfF 8 (16, 7, 1, 0) := ⟨RX8, TX8, 9, rfl, by decide, xw 268 (by decide +kernel) (by decide +kernel), fun h => absurd h (by decide), fun h => absurd h (by decide)⟩
theorem xfX8_22 : xfF 8 (22, 7, 2, 0) := ⟨RX8, TX8, 9, rfl, by decide, xw 269 (by decide +kernel) (by decide +kernel), fun h => absurd h (by decide), fun h => absurd h (by decide)⟩
theorem xfX8_29 : xfF 8 (29, 7, 3, 0) := ⟨RX8, TX8, 9, rfl, by decide, xw 270 (by decide +kernel) (by decide +kernel), fun h => absurd h (by decide), fun h => absurd h (by decide)⟩
theorem xfX8_36 : xfF 8 (36, 7, 4, 0) := ⟨RX8, TX8, 9, rfl, by decide, xw 271 (by decide +kernel) (by decide +kernel), fun h => absurd h (by decide), fun h => absurd h (by decide)⟩
theorem xfX8_43 : xfF 8 (43, 7, 5, 0) := ⟨RX8, TX8, 9, rfl, by decide, xw 272 (by decide +kernel) (by decide +kernel), fun h => absurd h (by decide), fun h => absurd h (by decide)⟩
theorem xfX8_52 : xfF 8 (52, 7, 6, 0) := ⟨RX8, TX8, 9, rfl, by decide, xw 273 (by decide +kernel) (by decide +kernel), fun h => absurd h (by decide), fun h => absurd h (by decide)⟩
theorem xfX8_56 : xfF 8 (56, 7, 7, 0) := ⟨RX8, TX8, 9, rfl, by decide, xw 274 (by decide +kernel) (by decide +kernel), fun h => absurd h (by decide), fun h => absurd h (by decide)⟩
theorem xfX8_59 : xfF 8 (59, 7, 8, 2) := ⟨RX8, TX8, 9, rfl, by decide, xw 275 (by decide +kernel) (by decide +kernel), fun h => absurd h (by decide), fun _ => ⟨rfl, rfl⟩⟩
theorem xfX8_67 : xfF 8 (67, 6, 0, 0) := ⟨RX7, TX7, 2, rfl, by decide, xw 190 (by decide +kernel) (by decide +kernel), fun h => absurd h (by decide), fun h => absurd h (by decide)⟩
theorem xfX8_85 : xfF 8 (85, 2, 0, 1) := ⟨RX2, TX2, 4, rfl, by decide, xw 119 (by decide +kernel) (by decide +kernel), fun _ => ⟨rfl, rfl⟩, fun h => absurd h (by decide)⟩
theorem xfX8_89 : xfF 8 (89, 2, 1, 0) := ⟨RX2, TX2, 4, rfl, by decide, xw 121 (by decide +kernel) (by decide +kernel), fun h => absurd h (by decide), fun h => absurd h (by decide)⟩
theorem xfX8_96 : xfF 8 (96, 2, 2, 0) := ⟨RX2, TX2, 4, rfl, by decide, xw 123 (by decide +kernel) (by decide +kernel), fun h => absurd h (by decide), fun h => absurd h (by decide)⟩
theorem xfX8_99 : xfF 8 (99, 2, 3, 0) := ⟨RX2, TX2, 4, rfl, by decide, xw 125 (by decide +kernel) (by decide +kernel), fun h => absurd h (by decide), fun h => absurd h (by decide)⟩
theorem xfX8_114 : xfF 8 (114, 6, 1, 0) := ⟨RX7, TX7, 2, rfl, by decide, xw 192 (by decide +kernel) (by decide +kernel), fun h => absurd h (by decide), fun h => absurd h (by decide)⟩
theorem xfX8_118 : xfF 8 (118, 4, 2, 1) := ⟨RX4, TX4, 12, rfl, by decide, xw 148 (by decide +kernel) (by decide +kernel), fun _ => ⟨rfl, rfl⟩, fun h => absurd h (by decide)⟩
theorem xfX8_150 : xfF 8 (150, 4, 3, 0) := ⟨RX4, TX4, 12, rfl, by decide, xw 150 (by decide +kernel) (by decide +kernel), fun h => absurd h (by decide), fun h => absurd h (by decide)⟩
theorem xfX8_183 : xfF 8 (183, 4, 0, 1) := ⟨RX4, TX4, 12, rfl, by decide, xw 144 (by decide +kernel) (by decide +kernel), fun _ => ⟨rfl, rfl⟩, fun h => absurd h (by decide)⟩
theorem xfX8_186 : xfF 8 (186, 4, 4, 0) := ⟨RX4, TX4, 12, rfl, by decide, xw 152 (by decide +kernel) (by decide +kernel), fun h => absurd h (by decide), fun h => absurd h (by decide)⟩
theorem xfX8_189 : xfF 8 (189, 4, 5, 0) := ⟨RX4, TX4, 12, rfl, by decide, xw 154 (by decide +kernel) (by decide +kernel), fun h => absurd h (by decide), fun h => absurd h (by decide)⟩
theorem xfX8_201 : xfF 8 (201, 4, 1, 1) := ⟨RX4, TX4, 12, rfl, by decide, xw 146 (by decide +kernel) (by decide +kernel), fun _ => ⟨rfl, rfl⟩, fun h => absurd h (by decide)⟩
theorem xfX8_204 : xfF 8 (204, 4, 9, 0) := ⟨RX4, TX4, 12, rfl, by decide, xw 159 (by decide +kernel) (by decide +kernel), fun h => absurd h (by decide), fun h => absurd h (by decide)⟩
theorem xfX8_207 : xfF 8 (207, 4, 10, 0) := ⟨RX4, TX4, 12, rfl, by decide, xw 161 (by decide +kernel) (by decide +kernel), fun h => absurd h (by decide), fun h => absurd h (by decide)⟩
theorem xfX8_210 : xfF 8 (210, 4, 11, 0) := ⟨RX4, TX4, 12, rfl, by decide, xw 163 (by decide +kernel) (by decide +kernel), fun h => absurd h (by decide), fun h => absurd h (by decide)⟩
theorem xfX8_247 : xfF 8 (247, 0, 0, 1) := ⟨RX0, TX0, 5, rfl, by decide, xw 228 (by decide +kernel) (by decide +kernel), fun _ => ⟨rfl, rfl⟩, fun h => absurd h (by decide)⟩
theorem xfX8_262 : xfF 8 (262, 3, 0, 1) := ⟨RX3, TX3, 3, rfl, by decide, xw 208 (by decide +kernel) (by decide +kernel), fun _ => ⟨rfl, rfl⟩, fun h => absurd h (by decide)⟩
theorem xvX8_63 : xvF 8 (63, 7, mX8_makeFormula) := ⟨⟨TX8, 9, rfl⟩, ⟨xw 299 (by decide +kernel) (by decide +kernel), xdX8_makeFormula⟩, xw 301 (by decide +kernel) (by decide +kernel), xw 0 (by decide +kernel) (by decide +kernel)⟩
theorem xvX8_70 : xvF 8 (70, 2, mX2_has) := ⟨⟨TX2, 4, rfl⟩, ⟨xw 363 (by decide +kernel) (by decide +kernel), xdX2_has⟩, xw 364 (by decide +kernel) (by decide +kernel), xw 365 (by decide +kernel) (by decide +kernel)⟩
theorem xvX8_74 : xvF 8 (74, 2, mX2_hasRoomFor) := ⟨⟨TX2, 4, rfl⟩, ⟨xw 303 (by decide +kernel) (by decide +kernel), xdX2_hasRoomFor⟩, xw 304 (by decide +kernel) (by decide +kernel), xw 305 (by decide +kernel) (by decide +kernel)⟩
theorem xvX8_78 : xvF 8 (78, 3, mX3_record) := ⟨⟨TX3, 3, rfl⟩, ⟨xw 315 (by decide +kernel) (by decide +kernel), xdX3_record⟩, xw 316 (by decide +kernel) (by decide +kernel), xw 317 (by decide +kernel) (by decide +kernel)⟩
theorem xvX8_82 : xvF 8 (82, 2, mX2_make) := ⟨⟨TX2, 4, rfl⟩, ⟨xw 347 (by decide +kernel) (by decide +kernel), xdX2_make⟩, xw 348 (by decide +kernel) (by decide +kernel), xw 349 (by decide +kernel) (by decide +kernel)⟩
theorem xvX8_92 : xvF 8 (92, 5, mX5_get) := ⟨⟨TX5, 1, rfl⟩, ⟨xw 379 (by decide +kernel) (by decide +kernel), xdX5_get⟩, xw 312 (by decide +kernel) (by decide +kernel), xw 313 (by decide +kernel) (by decide +kernel)⟩
theorem xvX8_102 : xvF 8 (102, 2, mX2_measure) := ⟨⟨TX2, 4, rfl⟩, ⟨xw 384 (by decide +kernel) (by decide +kernel), xdX2_measure⟩, xw 385 (by decide +kernel) (by decide +kernel), xw 386 (by decide +kernel) (by decide +kernel)⟩
theorem xvX8_106 : xvF 8 (106, 2, mX2_codeAt) := ⟨⟨TX2, 4, rfl⟩, ⟨xw 394 (by decide +kernel) (by decide +kernel), xdX2_codeAt⟩, xw 395 (by decide +kernel) (by decide +kernel), xw 396 (by decide +kernel) (by decide +kernel)⟩
theorem xvX8_110 : xvF 8 (110, 2, mX2_evaluate) := ⟨⟨TX2, 4, rfl⟩, ⟨xw 409 (by decide +kernel) (by decide +kernel), xdX2_evaluate⟩, xw 410 (by decide +kernel) (by decide +kernel), xw 411 (by decide +kernel) (by decide +kernel)⟩
theorem xvX8_123 : xvF 8 (123, 7, mX8_write) := ⟨⟨TX8, 9, rfl⟩, ⟨xw 429 (by decide +kernel) (by decide +kernel), xdX8_write⟩, xw 431 (by decide +kernel) (by decide +kernel), xw 5 (by decide +kernel) (by decide +kernel)⟩
theorem xvX8_127 : xvF 8 (127, 4, mX4_isFull) := ⟨⟨TX4, 12, rfl⟩, ⟨xw 433 (by decide +kernel) (by decide +kernel), xdX4_isFull⟩, xw 434 (by decide +kernel) (by decide +kernel), xw 435 (by decide +kernel) (by decide +kernel)⟩
theorem xvX8_131 : xvF 8 (131, 7, mX8_depth) := ⟨⟨TX8, 9, rfl⟩, ⟨xw 446 (by decide +kernel) (by decide +kernel), xdX8_depth⟩, xw 447 (by decide +kernel) (by decide +kernel), xw 448 (by decide +kernel) (by decide +kernel)⟩
theorem xvX8_135 : xvF 8 (135, 4, mX4_openBox) := ⟨⟨TX4, 12, rfl⟩, ⟨xw 459 (by decide +kernel) (by decide +kernel), xdX4_openBox⟩, xw 460 (by decide +kernel) (by decide +kernel), xw 461 (by decide +kernel) (by decide +kernel)⟩
theorem xvX8_138 : xvF 8 (138, 4, mX4_canCloseBox) := ⟨⟨TX4, 12, rfl⟩, ⟨xw 468 (by decide +kernel) (by decide +kernel), xdX4_canCloseBox⟩, xw 469 (by decide +kernel) (by decide +kernel), xw 470 (by decide +kernel) (by decide +kernel)⟩
theorem xvX8_141 : xvF 8 (141, 4, mX4_closeBox) := ⟨⟨TX4, 12, rfl⟩, ⟨xw 472 (by decide +kernel) (by decide +kernel), xdX4_closeBox⟩, xw 473 (by decide +kernel) (by decide +kernel), xw 474 (by decide +kernel) (by decide +kernel)⟩
theorem xvX8_144 : xvF 8 (144, 4, mX4_hasLine) := ⟨⟨TX4, 12, rfl⟩, ⟨xw 480 (by decide +kernel) (by decide +kernel), xdX4_hasLine⟩, xw 481 (by decide +kernel) (by decide +kernel), xw 482 (by decide +kernel) (by decide +kernel)⟩
theorem xvX8_147 : xvF 8 (147, 4, mX4_isLineAvailable) := ⟨⟨TX4, 12, rfl⟩, ⟨xw 484 (by decide +kernel) (by decide +kernel), xdX4_isLineAvailable⟩, xw 485 (by decide +kernel) (by decide +kernel), xw 486 (by decide +kernel) (by decide +kernel)⟩
theorem xvX8_153 : xvF 8 (153, 7, mX8_writeMade) := ⟨⟨TX8, 9, rfl⟩, ⟨xw 496 (by decide +kernel) (by decide +kernel), xdX8_writeMade⟩, xw 498 (by decide +kernel) (by decide +kernel), xw 7 (by decide +kernel) (by decide +kernel)⟩
theorem xvX8_157 : xvF 8 (157, 2, mX2_isOfKind) := ⟨⟨TX2, 4, rfl⟩, ⟨xw 500 (by decide +kernel) (by decide +kernel), xdX2_isOfKind⟩, xw 501 (by decide +kernel) (by decide +kernel), xw 502 (by decide +kernel) (by decide +kernel)⟩
theorem xvX8_161 : xvF 8 (161, 2, mX2_takenOut) := ⟨⟨TX2, 4, rfl⟩, ⟨xw 508 (by decide +kernel) (by decide +kernel), xdX2_takenOut⟩, xw 509 (by decide +kernel) (by decide +kernel), xw 510 (by decide +kernel) (by decide +kernel)⟩
theorem xvX8_165 : xvF 8 (165, 2, mX2_isPartOfDisjunction) := ⟨⟨TX2, 4, rfl⟩, ⟨xw 517 (by decide +kernel) (by decide +kernel), xdX2_isPartOfDisjunction⟩, xw 518 (by decide +kernel) (by decide +kernel), xw 519 (by decide +kernel) (by decide +kernel)⟩
theorem xvX8_168 : xvF 8 (168, 4, mX4_hasBox) := ⟨⟨TX4, 12, rfl⟩, ⟨xw 525 (by decide +kernel) (by decide +kernel), xdX4_hasBox⟩, xw 455 (by decide +kernel) (by decide +kernel), xw 456 (by decide +kernel) (by decide +kernel)⟩
theorem xvX8_171 : xvF 8 (171, 4, mX4_isBoxAvailable) := ⟨⟨TX4, 12, rfl⟩, ⟨xw 526 (by decide +kernel) (by decide +kernel), xdX4_isBoxAvailable⟩, xw 527 (by decide +kernel) (by decide +kernel), xw 528 (by decide +kernel) (by decide +kernel)⟩
theorem xvX8_174 : xvF 8 (174, 4, mX4_assumptionOf) := ⟨⟨TX4, 12, rfl⟩, ⟨xw 530 (by decide +kernel) (by decide +kernel), xdX4_assumptionOf⟩, xw 531 (by decide +kernel) (by decide +kernel), xw 532 (by decide +kernel) (by decide +kernel)⟩
theorem xvX8_177 : xvF 8 (177, 4, mX4_conclusionOf) := ⟨⟨TX4, 12, rfl⟩, ⟨xw 534 (by decide +kernel) (by decide +kernel), xdX4_conclusionOf⟩, xw 535 (by decide +kernel) (by decide +kernel), xw 536 (by decide +kernel) (by decide +kernel)⟩
theorem xvX8_180 : xvF 8 (180, 4, mX4_addLine) := ⟨⟨TX4, 12, rfl⟩, ⟨xw 437 (by decide +kernel) (by decide +kernel), xdX4_addLine⟩, xw 438 (by decide +kernel) (by decide +kernel), xw 439 (by decide +kernel) (by decide +kernel)⟩
theorem xvX8_192 : xvF 8 (192, 4, mX4_nesting) := ⟨⟨TX4, 12, rfl⟩, ⟨xw 450 (by decide +kernel) (by decide +kernel), xdX4_nesting⟩, xw 451 (by decide +kernel) (by decide +kernel), xw 452 (by decide +kernel) (by decide +kernel)⟩
theorem xvX8_195 : xvF 8 (195, 4, mX4_countUsers) := ⟨⟨TX4, 12, rfl⟩, ⟨xw 550 (by decide +kernel) (by decide +kernel), xdX4_countUsers⟩, xw 551 (by decide +kernel) (by decide +kernel), xw 552 (by decide +kernel) (by decide +kernel)⟩
theorem xvX8_198 : xvF 8 (198, 4, mX4_referenceAt) := ⟨⟨TX4, 12, rfl⟩, ⟨xw 576 (by decide +kernel) (by decide +kernel), xdX4_referenceAt⟩, xw 563 (by decide +kernel) (by decide +kernel), xw 564 (by decide +kernel) (by decide +kernel)⟩
theorem xvX8_215 : xvF 8 (215, 4, mX4_allNeeds) := ⟨⟨TX4, 12, rfl⟩, ⟨xw 591 (by decide +kernel) (by decide +kernel), xdX4_allNeeds⟩, xw 592 (by decide +kernel) (by decide +kernel), xw 593 (by decide +kernel) (by decide +kernel)⟩
theorem xvX8_219 : xvF 8 (219, 4, mX4_bypassOf) := ⟨⟨TX4, 12, rfl⟩, ⟨xw 603 (by decide +kernel) (by decide +kernel), xdX4_bypassOf⟩, xw 604 (by decide +kernel) (by decide +kernel), xw 605 (by decide +kernel) (by decide +kernel)⟩
theorem xvX8_222 : xvF 8 (222, 4, mX4_countDetours) := ⟨⟨TX4, 12, rfl⟩, ⟨xw 611 (by decide +kernel) (by decide +kernel), xdX4_countDetours⟩, xw 612 (by decide +kernel) (by decide +kernel), xw 613 (by decide +kernel) (by decide +kernel)⟩
theorem xvX8_225 : xvF 8 (225, 7, mX8_lowestFailure) := ⟨⟨TX8, 9, rfl⟩, ⟨xw 620 (by decide +kernel) (by decide +kernel), xdX8_lowestFailure⟩, xw 622 (by decide +kernel) (by decide +kernel), xw 11 (by decide +kernel) (by decide +kernel)⟩
theorem xvX8_228 : xvF 8 (228, 4, mX4_allowedValuations) := ⟨⟨TX4, 12, rfl⟩, ⟨xw 624 (by decide +kernel) (by decide +kernel), xdX4_allowedValuations⟩, xw 625 (by decide +kernel) (by decide +kernel), xw 626 (by decide +kernel) (by decide +kernel)⟩
theorem xvX8_240 : xvF 8 (240, 4, mX4_bypassDetours) := ⟨⟨TX4, 12, rfl⟩, ⟨xw 645 (by decide +kernel) (by decide +kernel), xdX4_bypassDetours⟩, xw 646 (by decide +kernel) (by decide +kernel), xw 647 (by decide +kernel) (by decide +kernel)⟩
theorem xvX8_243 : xvF 8 (243, 4, mX4_keepOnly) := ⟨⟨TX4, 12, rfl⟩, ⟨xw 657 (by decide +kernel) (by decide +kernel), xdX4_keepOnly⟩, xw 658 (by decide +kernel) (by decide +kernel), xw 659 (by decide +kernel) (by decide +kernel)⟩
theorem xvX8_248 : xvF 8 (248, 0, mX0_add) := ⟨⟨TX0, 5, rfl⟩, ⟨xw 686 (by decide +kernel) (by decide +kernel), xdX0_add⟩, xw 687 (by decide +kernel) (by decide +kernel), xw 688 (by decide +kernel) (by decide +kernel)⟩
theorem xvX8_251 : xvF 8 (251, 0, mX0_firstError) := ⟨⟨TX0, 5, rfl⟩, ⟨xw 699 (by decide +kernel) (by decide +kernel), xdX0_firstError⟩, xw 700 (by decide +kernel) (by decide +kernel), xw 701 (by decide +kernel) (by decide +kernel)⟩
theorem xvX8_254 : xvF 8 (254, 2, mX2_copyFrom) := ⟨⟨TX2, 4, rfl⟩, ⟨xw 719 (by decide +kernel) (by decide +kernel), xdX2_copyFrom⟩, xw 328 (by decide +kernel) (by decide +kernel), xw 329 (by decide +kernel) (by decide +kernel)⟩
theorem xvX8_258 : xvF 8 (258, 1, mX1_build) := ⟨⟨TX1, 3, rfl⟩, ⟨xw 720 (by decide +kernel) (by decide +kernel), xdX1_build⟩, xw 721 (by decide +kernel) (by decide +kernel), xw 722 (by decide +kernel) (by decide +kernel)⟩
theorem xvX8_263 : xvF 8 (263, 3, mX3_takeBack) := ⟨⟨TX3, 3, rfl⟩, ⟨xw 744 (by decide +kernel) (by decide +kernel), xdX3_takeBack⟩, xw 745 (by decide +kernel) (by decide +kernel), xw 746 (by decide +kernel) (by decide +kernel)⟩
theorem xvX8_266 : xvF 8 (266, 6, mX7_copyFrom) := ⟨⟨TX7, 2, rfl⟩, ⟨xw 752 (by decide +kernel) (by decide +kernel), xdX7_copyFrom⟩, xw 324 (by decide +kernel) (by decide +kernel), xw 325 (by decide +kernel) (by decide +kernel)⟩
theorem xsX8_232 : xsF 8 (232, 0, mX8_lowestBit) := ⟨⟨xw 628 (by decide +kernel) (by decide +kernel), xdX8_lowestBit⟩, xw 629 (by decide +kernel) (by decide +kernel)⟩
theorem xsX8_235 : xsF 8 (235, 0, mJ6_bitCount_0f7a4) := ⟨⟨xw 631 (by decide +kernel) (by decide +kernel), xdJ6_bitCount_0f7a4⟩, xw 632 (by decide +kernel) (by decide +kernel)⟩
theorem xkX8_213 : xkF 8 (213, vL (-1)) := xw 590 (by decide +kernel) (by decide +kernel)
def ceX8 : xCE := ([(10, 7, 0, 0), (16, 7, 1, 0), (22, 7, 2, 0), (29, 7, 3, 0), (36, 7, 4, 0), (43, 7, 5, 0), (52, 7, 6, 0), (56, 7, 7, 0), (59, 7, 8, 2), (67, 6, 0, 0), (85, 2, 0, 1), (89, 2, 1, 0), (96, 2, 2, 0), (99, 2, 3, 0), (114, 6, 1, 0), (118, 4, 2, 1), (150, 4, 3, 0), (183, 4, 0, 1), (186, 4, 4, 0), (189, 4, 5, 0), (201, 4, 1, 1), (204, 4, 9, 0), (207, 4, 10, 0), (210, 4, 11, 0), (247, 0, 0, 1), (262, 3, 0, 1)], [(63, 7, mX8_makeFormula), (70, 2, mX2_has), (74, 2, mX2_hasRoomFor), (78, 3, mX3_record), (82, 2, mX2_make), (92, 5, mX5_get), (102, 2, mX2_measure), (106, 2, mX2_codeAt), (110, 2, mX2_evaluate), (123, 7, mX8_write), (127, 4, mX4_isFull), (131, 7, mX8_depth), (135, 4, mX4_openBox), (138, 4, mX4_canCloseBox), (141, 4, mX4_closeBox), (144, 4, mX4_hasLine), (147, 4, mX4_isLineAvailable), (153, 7, mX8_writeMade), (157, 2, mX2_isOfKind), (161, 2, mX2_takenOut), (165, 2, mX2_isPartOfDisjunction), (168, 4, mX4_hasBox), (171, 4, mX4_isBoxAvailable), (174, 4, mX4_assumptionOf), (177, 4, mX4_conclusionOf), (180, 4, mX4_addLine), (192, 4, mX4_nesting), (195, 4, mX4_countUsers), (198, 4, mX4_referenceAt), (215, 4, mX4_allNeeds), (219, 4, mX4_bypassOf), (222, 4, mX4_countDetours), (225, 7, mX8_lowestFailure), (228, 4, mX4_allowedValuations), (240, 4, mX4_bypassDetours), (243, 4, mX4_keepOnly), (248, 0, mX0_add), (251, 0, mX0_firstError), (254, 2, mX2_copyFrom), (258, 1, mX1_build), (263, 3, mX3_takeBack), (266, 6, mX7_copyFrom)], [(232, 0, mX8_lowestBit), (235, 0, mJ6_bitCount_0f7a4)], [(213, vL (-1))], [])
theorem ceX8_ok : xCEok 8 ceX8 := ⟨(xfc xfX8_10 (xfc xfX8_16 (xfc xfX8_22 (xfc xfX8_29 (xfc xfX8_36 (xfc xfX8_43 (xfc xfX8_52 (xfc xfX8_56 (xfc xfX8_59 (xfc xfX8_67 (xfc xfX8_85 (xfc xfX8_89 (xfc xfX8_96 (xfc xfX8_99 (xfc xfX8_114 (xfc xfX8_118 (xfc xfX8_150 (xfc xfX8_183 (xfc xfX8_186 (xfc xfX8_189 (xfc xfX8_201 (xfc xfX8_204 (xfc xfX8_207 (xfc xfX8_210 (xfc xfX8_247 (xfc xfX8_262 xfn)))))))))))))))))))))))))), (xfc xvX8_63 (xfc xvX8_70 (xfc xvX8_74 (xfc xvX8_78 (xfc xvX8_82 (xfc xvX8_92 (xfc xvX8_102 (xfc xvX8_106 (xfc xvX8_110 (xfc xvX8_123 (xfc xvX8_127 (xfc xvX8_131 (xfc xvX8_135 (xfc xvX8_138 (xfc xvX8_141 (xfc xvX8_144 (xfc xvX8_147 (xfc xvX8_153 (xfc xvX8_157 (xfc xvX8_161 (xfc xvX8_165 (xfc xvX8_168 (xfc xvX8_171 (xfc xvX8_174 (xfc xvX8_177 (xfc xvX8_180 (xfc xvX8_192 (xfc xvX8_195 (xfc xvX8_198 (xfc xvX8_215 (xfc xvX8_219 (xfc xvX8_222 (xfc xvX8_225 (xfc xvX8_228 (xfc xvX8_240 (xfc xvX8_243 (xfc xvX8_248 (xfc xvX8_251 (xfc xvX8_254 (xfc xvX8_258 (xfc xvX8_263 (xfc xvX8_266 xfn)))))))))))))))))))))))))))))))))))))))))), (xfc xsX8_232 (xfc xsX8_235 xfn)), (xfc xkX8_213 xfn), xfn⟩
theorem xfX9_7 : xfF 9 (7, 8, 0, 0) := ⟨RX9, TX9, 18, rfl, by decide, xw 763 (by decide +kernel) (by decide +kernel), fun h => absurd h (by decide), fun h => absurd h (by decide)⟩
theorem xfX9_13 : xfF 9 (13, 8, 1, 0) := ⟨RX9, TX9, 18, rfl, by decide, xw 764 (by decide +kernel) (by decide +kernel), fun h => absurd h (by decide), fun h => absurd h (by decide)⟩
theorem xfX9_16 : xfF 9 (16, 8, 3, 0) := ⟨RX9, TX9, 18, rfl, by decide, xw 766 (by decide +kernel) (by decide +kernel), fun h => absurd h (by decide), fun h => absurd h (by decide)⟩
theorem xfX9_19 : xfF 9 (19, 8, 5, 0) := ⟨RX9, TX9, 18, rfl, by decide, xw 768 (by decide +kernel) (by decide +kernel), fun h => absurd h (by decide), fun h => absurd h (by decide)⟩
theorem xfX9_23 : xfF 9 (23, 8, 7, 0) := ⟨RX9, TX9, 18, rfl, by decide, xw 770 (by decide +kernel) (by decide +kernel), fun h => absurd h (by decide), fun h => absurd h (by decide)⟩
theorem xfX9_26 : xfF 9 (26, 8, 8, 0) := ⟨RX9, TX9, 18, rfl, by decide, xw 771 (by decide +kernel) (by decide +kernel), fun h => absurd h (by decide), fun h => absurd h (by decide)⟩
theorem xfX9_30 : xfF 9 (30, 8, 9, 0) := ⟨RX9, TX9, 18, rfl, by decide, xw 772 (by decide +kernel) (by decide +kernel), fun h => absurd h (by decide), fun h => absurd h (by decide)⟩
theorem xfX9_33 : xfF 9 (33, 8, 10, 0) := ⟨RX9, TX9, 18, rfl, by decide, xw 773 (by decide +kernel) (by decide +kernel), fun h => absurd h (by decide), fun h => absurd h (by decide)⟩
theorem xfX9_36 : xfF 9 (36, 8, 11, 0) := ⟨RX9, TX9, 18, rfl, by decide, xw 774 (by decide +kernel) (by decide +kernel), fun h => absurd h (by decide), fun h => absurd h (by decide)⟩
theorem xfX9_39 : xfF 9 (39, 8, 12, 0) := ⟨RX9, TX9, 18, rfl, by decide, xw 775 (by decide +kernel) (by decide +kernel), fun h => absurd h (by decide), fun h => absurd h (by decide)⟩
theorem xfX9_42 : xfF 9 (42, 8, 13, 0) := ⟨RX9, TX9, 18, rfl, by decide, xw 776 (by decide +kernel) (by decide +kernel), fun h => absurd h (by decide), fun h => absurd h (by decide)⟩
theorem xfX9_45 : xfF 9 (45, 8, 2, 1) := ⟨RX9, TX9, 18, rfl, by decide, xw 765 (by decide +kernel) (by decide +kernel), fun _ => ⟨rfl, rfl⟩, fun h => absurd h (by decide)⟩
theorem xfX9_49 : xfF 9 (49, 8, 4, 2) := ⟨RX9, TX9, 18, rfl, by decide, xw 767 (by decide +kernel) (by decide +kernel), fun h => absurd h (by decide), fun _ => ⟨rfl, rfl⟩⟩
theorem xfX9_208 : xfF 9 (208, 8, 6, 1) := ⟨RX9, TX9, 18, rfl, by decide, xw 769 (by decide +kernel) (by decide +kernel), fun _ => ⟨rfl, rfl⟩, fun h => absurd h (by decide)⟩
theorem xfX9_211 : xfF 9 (211, 8, 17, 2) := ⟨RX9, TX9, 18, rfl, by decide, xw 780 (by decide +kernel) (by decide +kernel), fun h => absurd h (by decide), fun _ => ⟨rfl, rfl⟩⟩
theorem xfX9_214 : xfF 9 (214, 8, 16, 1) := ⟨RX9, TX9, 18, rfl, by decide, xw 779 (by decide +kernel) (by decide +kernel), fun _ => ⟨rfl, rfl⟩, fun h => absurd h (by decide)⟩
theorem xfX9_217 : xfF 9 (217, 8, 14, 1) := ⟨RX9, TX9, 18, rfl, by decide, xw 777 (by decide +kernel) (by decide +kernel), fun _ => ⟨rfl, rfl⟩, fun h => absurd h (by decide)⟩
theorem xfX9_224 : xfF 9 (224, 8, 15, 2) := ⟨RX9, TX9, 18, rfl, by decide, xw 778 (by decide +kernel) (by decide +kernel), fun h => absurd h (by decide), fun _ => ⟨rfl, rfl⟩⟩
theorem xvX9_53 : xvF 9 (53, 8, mX9_record) := ⟨⟨TX9, 18, rfl⟩, ⟨xw 832 (by decide +kernel) (by decide +kernel), xdX9_record⟩, xw 834 (by decide +kernel) (by decide +kernel), xw 21 (by decide +kernel) (by decide +kernel)⟩
theorem xvX9_56 : xvF 9 (56, 8, mX9_kind) := ⟨⟨TX9, 18, rfl⟩, ⟨xw 855 (by decide +kernel) (by decide +kernel), xdX9_kind⟩, xw 857 (by decide +kernel) (by decide +kernel), xw 25 (by decide +kernel) (by decide +kernel)⟩
theorem xvX9_60 : xvF 9 (60, 8, mX9_left) := ⟨⟨TX9, 18, rfl⟩, ⟨xw 859 (by decide +kernel) (by decide +kernel), xdX9_left⟩, xw 861 (by decide +kernel) (by decide +kernel), xw 26 (by decide +kernel) (by decide +kernel)⟩
theorem xvX9_63 : xvF 9 (63, 8, mX9_right) := ⟨⟨TX9, 18, rfl⟩, ⟨xw 863 (by decide +kernel) (by decide +kernel), xdX9_right⟩, xw 865 (by decide +kernel) (by decide +kernel), xw 27 (by decide +kernel) (by decide +kernel)⟩
theorem xvX9_66 : xvF 9 (66, 8, mX9_find) := ⟨⟨TX9, 18, rfl⟩, ⟨xw 851 (by decide +kernel) (by decide +kernel), xdX9_find⟩, xw 853 (by decide +kernel) (by decide +kernel), xw 24 (by decide +kernel) (by decide +kernel)⟩
theorem xvX9_70 : xvF 9 (70, 8, mX9_hasRoom) := ⟨⟨TX9, 18, rfl⟩, ⟨xw 847 (by decide +kernel) (by decide +kernel), xdX9_hasRoom⟩, xw 849 (by decide +kernel) (by decide +kernel), xw 23 (by decide +kernel) (by decide +kernel)⟩
theorem xvX9_74 : xvF 9 (74, 8, mX9_make) := ⟨⟨TX9, 18, rfl⟩, ⟨xw 867 (by decide +kernel) (by decide +kernel), xdX9_make⟩, xw 869 (by decide +kernel) (by decide +kernel), xw 28 (by decide +kernel) (by decide +kernel)⟩
theorem xvX9_80 : xvF 9 (80, 8, mX9_makeOne) := ⟨⟨TX9, 18, rfl⟩, ⟨xw 843 (by decide +kernel) (by decide +kernel), xdX9_makeOne⟩, xw 845 (by decide +kernel) (by decide +kernel), xw 22 (by decide +kernel) (by decide +kernel)⟩
theorem xvX9_83 : xvF 9 (83, 8, mX9_isFormula) := ⟨⟨TX9, 18, rfl⟩, ⟨xw 879 (by decide +kernel) (by decide +kernel), xdX9_isFormula⟩, xw 881 (by decide +kernel) (by decide +kernel), xw 29 (by decide +kernel) (by decide +kernel)⟩
theorem xvX9_88 : xvF 9 (88, 8, mX9_measure) := ⟨⟨TX9, 18, rfl⟩, ⟨xw 899 (by decide +kernel) (by decide +kernel), xdX9_measure⟩, xw 901 (by decide +kernel) (by decide +kernel), xw 30 (by decide +kernel) (by decide +kernel)⟩
theorem xvX9_91 : xvF 9 (91, 8, mX9_evaluate) := ⟨⟨TX9, 18, rfl⟩, ⟨xw 912 (by decide +kernel) (by decide +kernel), xdX9_evaluate⟩, xw 914 (by decide +kernel) (by decide +kernel), xw 31 (by decide +kernel) (by decide +kernel)⟩
theorem xvX9_95 : xvF 9 (95, 8, mX9_ends) := ⟨⟨TX9, 18, rfl⟩, ⟨xw 924 (by decide +kernel) (by decide +kernel), xdX9_ends⟩, xw 926 (by decide +kernel) (by decide +kernel), xw 33 (by decide +kernel) (by decide +kernel)⟩
theorem xvX9_98 : xvF 9 (98, 8, mX9_parent) := ⟨⟨TX9, 18, rfl⟩, ⟨xw 972 (by decide +kernel) (by decide +kernel), xdX9_parent⟩, xw 974 (by decide +kernel) (by decide +kernel), xw 42 (by decide +kernel) (by decide +kernel)⟩
theorem xvX9_101 : xvF 9 (101, 8, mX9_boxOf) := ⟨⟨TX9, 18, rfl⟩, ⟨xw 952 (by decide +kernel) (by decide +kernel), xdX9_boxOf⟩, xw 954 (by decide +kernel) (by decide +kernel), xw 38 (by decide +kernel) (by decide +kernel)⟩
theorem xvX9_104 : xvF 9 (104, 8, mX9_isShut) := ⟨⟨TX9, 18, rfl⟩, ⟨xw 968 (by decide +kernel) (by decide +kernel), xdX9_isShut⟩, xw 970 (by decide +kernel) (by decide +kernel), xw 41 (by decide +kernel) (by decide +kernel)⟩
theorem xvX9_107 : xvF 9 (107, 8, mX9_latest) := ⟨⟨TX9, 18, rfl⟩, ⟨xw 920 (by decide +kernel) (by decide +kernel), xdX9_latest⟩, xw 922 (by decide +kernel) (by decide +kernel), xw 32 (by decide +kernel) (by decide +kernel)⟩
theorem xvX9_111 : xvF 9 (111, 8, mX9_isFull) := ⟨⟨TX9, 18, rfl⟩, ⟨xw 932 (by decide +kernel) (by decide +kernel), xdX9_isFull⟩, xw 934 (by decide +kernel) (by decide +kernel), xw 35 (by decide +kernel) (by decide +kernel)⟩
theorem xvX9_115 : xvF 9 (115, 8, mX9_write) := ⟨⟨TX9, 18, rfl⟩, ⟨xw 936 (by decide +kernel) (by decide +kernel), xdX9_write⟩, xw 938 (by decide +kernel) (by decide +kernel), xw 36 (by decide +kernel) (by decide +kernel)⟩
theorem xvX9_119 : xvF 9 (119, 8, mX9_writeOld) := ⟨⟨TX9, 18, rfl⟩, ⟨xw 928 (by decide +kernel) (by decide +kernel), xdX9_writeOld⟩, xw 930 (by decide +kernel) (by decide +kernel), xw 34 (by decide +kernel) (by decide +kernel)⟩
theorem xvX9_122 : xvF 9 (122, 8, mX9_openBoxes) := ⟨⟨TX9, 18, rfl⟩, ⟨xw 944 (by decide +kernel) (by decide +kernel), xdX9_openBoxes⟩, xw 946 (by decide +kernel) (by decide +kernel), xw 37 (by decide +kernel) (by decide +kernel)⟩
theorem xvX9_125 : xvF 9 (125, 8, mX9_isLine) := ⟨⟨TX9, 18, rfl⟩, ⟨xw 960 (by decide +kernel) (by decide +kernel), xdX9_isLine⟩, xw 962 (by decide +kernel) (by decide +kernel), xw 39 (by decide +kernel) (by decide +kernel)⟩
theorem xvX9_128 : xvF 9 (128, 8, mX9_isAvailable) := ⟨⟨TX9, 18, rfl⟩, ⟨xw 964 (by decide +kernel) (by decide +kernel), xdX9_isAvailable⟩, xw 966 (by decide +kernel) (by decide +kernel), xw 40 (by decide +kernel) (by decide +kernel)⟩
theorem xvX9_131 : xvF 9 (131, 8, mX9_formulaOf) := ⟨⟨TX9, 18, rfl⟩, ⟨xw 976 (by decide +kernel) (by decide +kernel), xdX9_formulaOf⟩, xw 978 (by decide +kernel) (by decide +kernel), xw 43 (by decide +kernel) (by decide +kernel)⟩
theorem xvX9_134 : xvF 9 (134, 8, mX9_writeNew) := ⟨⟨TX9, 18, rfl⟩, ⟨xw 984 (by decide +kernel) (by decide +kernel), xdX9_writeNew⟩, xw 986 (by decide +kernel) (by decide +kernel), xw 44 (by decide +kernel) (by decide +kernel)⟩
theorem xvX9_138 : xvF 9 (138, 8, mX9_isBox) := ⟨⟨TX9, 18, rfl⟩, ⟨xw 1000 (by decide +kernel) (by decide +kernel), xdX9_isBox⟩, xw 1002 (by decide +kernel) (by decide +kernel), xw 45 (by decide +kernel) (by decide +kernel)⟩
theorem xvX9_141 : xvF 9 (141, 8, mX9_isBoxAvailable) := ⟨⟨TX9, 18, rfl⟩, ⟨xw 1004 (by decide +kernel) (by decide +kernel), xdX9_isBoxAvailable⟩, xw 1006 (by decide +kernel) (by decide +kernel), xw 46 (by decide +kernel) (by decide +kernel)⟩
theorem xvX9_144 : xvF 9 (144, 8, mX9_opens) := ⟨⟨TX9, 18, rfl⟩, ⟨xw 1008 (by decide +kernel) (by decide +kernel), xdX9_opens⟩, xw 1010 (by decide +kernel) (by decide +kernel), xw 47 (by decide +kernel) (by decide +kernel)⟩
theorem xvX9_147 : xvF 9 (147, 8, mX9_ruleOf) := ⟨⟨TX9, 18, rfl⟩, ⟨xw 1024 (by decide +kernel) (by decide +kernel), xdX9_ruleOf⟩, xw 1026 (by decide +kernel) (by decide +kernel), xw 48 (by decide +kernel) (by decide +kernel)⟩
theorem xvX9_150 : xvF 9 (150, 8, mX9_refOf) := ⟨⟨TX9, 18, rfl⟩, ⟨xw 1040 (by decide +kernel) (by decide +kernel), xdX9_refOf⟩, xw 1042 (by decide +kernel) (by decide +kernel), xw 52 (by decide +kernel) (by decide +kernel)⟩
theorem xvX9_154 : xvF 9 (154, 8, mX9_isToBox) := ⟨⟨TX9, 18, rfl⟩, ⟨xw 1044 (by decide +kernel) (by decide +kernel), xdX9_isToBox⟩, xw 1046 (by decide +kernel) (by decide +kernel), xw 53 (by decide +kernel) (by decide +kernel)⟩
theorem xvX9_158 : xvF 9 (158, 8, mX9_direct) := ⟨⟨TX9, 18, rfl⟩, ⟨xw 1036 (by decide +kernel) (by decide +kernel), xdX9_direct⟩, xw 1038 (by decide +kernel) (by decide +kernel), xw 51 (by decide +kernel) (by decide +kernel)⟩
theorem xvX9_162 : xvF 9 (162, 8, mX9_depthOf) := ⟨⟨TX9, 18, rfl⟩, ⟨xw 1028 (by decide +kernel) (by decide +kernel), xdX9_depthOf⟩, xw 1030 (by decide +kernel) (by decide +kernel), xw 49 (by decide +kernel) (by decide +kernel)⟩
theorem xvX9_165 : xvF 9 (165, 8, mX9_neededBy) := ⟨⟨TX9, 18, rfl⟩, ⟨xw 1032 (by decide +kernel) (by decide +kernel), xdX9_neededBy⟩, xw 1034 (by decide +kernel) (by decide +kernel), xw 50 (by decide +kernel) (by decide +kernel)⟩
theorem xvX9_168 : xvF 9 (168, 8, mX9_assumed) := ⟨⟨TX9, 18, rfl⟩, ⟨xw 1072 (by decide +kernel) (by decide +kernel), xdX9_assumed⟩, xw 1074 (by decide +kernel) (by decide +kernel), xw 55 (by decide +kernel) (by decide +kernel)⟩
theorem xvX9_171 : xvF 9 (171, 8, mX9_needed) := ⟨⟨TX9, 18, rfl⟩, ⟨xw 1068 (by decide +kernel) (by decide +kernel), xdX9_needed⟩, xw 1070 (by decide +kernel) (by decide +kernel), xw 54 (by decide +kernel) (by decide +kernel)⟩
theorem xvX9_176 : xvF 9 (176, 8, mX9_bypassOf) := ⟨⟨TX9, 18, rfl⟩, ⟨xw 1081 (by decide +kernel) (by decide +kernel), xdX9_bypassOf⟩, xw 1083 (by decide +kernel) (by decide +kernel), xw 56 (by decide +kernel) (by decide +kernel)⟩
theorem xvX9_179 : xvF 9 (179, 8, mX9_areTrue) := ⟨⟨TX9, 18, rfl⟩, ⟨xw 1101 (by decide +kernel) (by decide +kernel), xdX9_areTrue⟩, xw 1103 (by decide +kernel) (by decide +kernel), xw 59 (by decide +kernel) (by decide +kernel)⟩
theorem xvX9_183 : xvF 9 (183, 8, mX9_premises) := ⟨⟨TX9, 18, rfl⟩, ⟨xw 1093 (by decide +kernel) (by decide +kernel), xdX9_premises⟩, xw 1095 (by decide +kernel) (by decide +kernel), xw 57 (by decide +kernel) (by decide +kernel)⟩
theorem xvX9_187 : xvF 9 (187, 8, mX9_fails) := ⟨⟨TX9, 18, rfl⟩, ⟨xw 1097 (by decide +kernel) (by decide +kernel), xdX9_fails⟩, xw 1099 (by decide +kernel) (by decide +kernel), xw 58 (by decide +kernel) (by decide +kernel)⟩
theorem xvX9_191 : xvF 9 (191, 8, mX9_liesIn) := ⟨⟨TX9, 18, rfl⟩, ⟨xw 1121 (by decide +kernel) (by decide +kernel), xdX9_liesIn⟩, xw 1123 (by decide +kernel) (by decide +kernel), xw 61 (by decide +kernel) (by decide +kernel)⟩
theorem xvX9_194 : xvF 9 (194, 8, mX9_lastIn) := ⟨⟨TX9, 18, rfl⟩, ⟨xw 1117 (by decide +kernel) (by decide +kernel), xdX9_lastIn⟩, xw 1119 (by decide +kernel) (by decide +kernel), xw 60 (by decide +kernel) (by decide +kernel)⟩
theorem xvX9_198 : xvF 9 (198, 8, mX9_moveLines) := ⟨⟨TX9, 18, rfl⟩, ⟨xw 1125 (by decide +kernel) (by decide +kernel), xdX9_moveLines⟩, xw 1127 (by decide +kernel) (by decide +kernel), xw 62 (by decide +kernel) (by decide +kernel)⟩
theorem xvX9_202 : xvF 9 (202, 8, mX9_moveBoxes) := ⟨⟨TX9, 18, rfl⟩, ⟨xw 1133 (by decide +kernel) (by decide +kernel), xdX9_moveBoxes⟩, xw 1135 (by decide +kernel) (by decide +kernel), xw 64 (by decide +kernel) (by decide +kernel)⟩
theorem xvX9_205 : xvF 9 (205, 8, mX9_renamed) := ⟨⟨TX9, 18, rfl⟩, ⟨xw 1129 (by decide +kernel) (by decide +kernel), xdX9_renamed⟩, xw 1131 (by decide +kernel) (by decide +kernel), xw 63 (by decide +kernel) (by decide +kernel)⟩
theorem xvX9_220 : xvF 9 (220, 8, mX9_makes) := ⟨⟨TX9, 18, rfl⟩, ⟨xw 1157 (by decide +kernel) (by decide +kernel), xdX9_makes⟩, xw 1159 (by decide +kernel) (by decide +kernel), xw 67 (by decide +kernel) (by decide +kernel)⟩
theorem xvX9_227 : xvF 9 (227, 8, mX9_isWhole) := ⟨⟨TX9, 18, rfl⟩, ⟨xw 1161 (by decide +kernel) (by decide +kernel), xdX9_isWhole⟩, xw 1163 (by decide +kernel) (by decide +kernel), xw 68 (by decide +kernel) (by decide +kernel)⟩
theorem xvX9_234 : xvF 9 (234, 8, mX9_readOne) := ⟨⟨TX9, 18, rfl⟩, ⟨xw 1153 (by decide +kernel) (by decide +kernel), xdX9_readOne⟩, xw 1155 (by decide +kernel) (by decide +kernel), xw 66 (by decide +kernel) (by decide +kernel)⟩
theorem xvX9_238 : xvF 9 (238, 8, mX9_readBuffer) := ⟨⟨TX9, 18, rfl⟩, ⟨xw 1149 (by decide +kernel) (by decide +kernel), xdX9_readBuffer⟩, xw 1151 (by decide +kernel) (by decide +kernel), xw 65 (by decide +kernel) (by decide +kernel)⟩
theorem xsX9_77 : xsF 9 (77, 0, mX9_in) := ⟨⟨xw 840 (by decide +kernel) (by decide +kernel), xdX9_in⟩, xw 841 (by decide +kernel) (by decide +kernel)⟩
theorem xsX9_231 : xsF 9 (231, 0, mX9_signOf) := ⟨⟨xw 1165 (by decide +kernel) (by decide +kernel), xdX9_signOf⟩, xw 1166 (by decide +kernel) (by decide +kernel)⟩
theorem xkX9_87 : xkF 9 (87, vI 1000000) := xw 903 (by decide +kernel) (by decide +kernel)
theorem xkX9_174 : xkF 9 (174, vL (-1)) := xw 1076 (by decide +kernel) (by decide +kernel)
def ceX9 : xCE := ([(7, 8, 0, 0), (13, 8, 1, 0), (16, 8, 3, 0), (19, 8, 5, 0), (23, 8, 7, 0), (26, 8, 8, 0), (30, 8, 9, 0), (33, 8, 10, 0), (36, 8, 11, 0), (39, 8, 12, 0), (42, 8, 13, 0), (45, 8, 2, 1), (49, 8, 4, 2), (208, 8, 6, 1), (211, 8, 17, 2), (214, 8, 16, 1), (217, 8, 14, 1), (224, 8, 15, 2)], [(53, 8, mX9_record), (56, 8, mX9_kind), (60, 8, mX9_left), (63, 8, mX9_right), (66, 8, mX9_find), (70, 8, mX9_hasRoom), (74, 8, mX9_make), (80, 8, mX9_makeOne), (83, 8, mX9_isFormula), (88, 8, mX9_measure), (91, 8, mX9_evaluate), (95, 8, mX9_ends), (98, 8, mX9_parent), (101, 8, mX9_boxOf), (104, 8, mX9_isShut), (107, 8, mX9_latest), (111, 8, mX9_isFull), (115, 8, mX9_write), (119, 8, mX9_writeOld), (122, 8, mX9_openBoxes), (125, 8, mX9_isLine), (128, 8, mX9_isAvailable), (131, 8, mX9_formulaOf), (134, 8, mX9_writeNew), (138, 8, mX9_isBox), (141, 8, mX9_isBoxAvailable), (144, 8, mX9_opens), (147, 8, mX9_ruleOf), (150, 8, mX9_refOf), (154, 8, mX9_isToBox), (158, 8, mX9_direct), (162, 8, mX9_depthOf), (165, 8, mX9_neededBy), (168, 8, mX9_assumed), (171, 8, mX9_needed), (176, 8, mX9_bypassOf), (179, 8, mX9_areTrue), (183, 8, mX9_premises), (187, 8, mX9_fails), (191, 8, mX9_liesIn), (194, 8, mX9_lastIn), (198, 8, mX9_moveLines), (202, 8, mX9_moveBoxes), (205, 8, mX9_renamed), (220, 8, mX9_makes), (227, 8, mX9_isWhole), (234, 8, mX9_readOne), (238, 8, mX9_readBuffer)], [(77, 0, mX9_in), (231, 0, mX9_signOf)], [(87, vI 1000000), (174, vL (-1))], [])
theorem ceX9_ok : xCEok 9 ceX9 := ⟨(xfc xfX9_7 (xfc xfX9_13 (xfc xfX9_16 (xfc xfX9_19 (xfc xfX9_23 (xfc xfX9_26 (xfc xfX9_30 (xfc xfX9_33 (xfc xfX9_36 (xfc xfX9_39 (xfc xfX9_42 (xfc xfX9_45 (xfc xfX9_49 (xfc xfX9_208 (xfc xfX9_211 (xfc xfX9_214 (xfc xfX9_217 (xfc xfX9_224 xfn)))))))))))))))))), (xfc xvX9_53 (xfc xvX9_56 (xfc xvX9_60 (xfc xvX9_63 (xfc xvX9_66 (xfc xvX9_70 (xfc xvX9_74 (xfc xvX9_80 (xfc xvX9_83 (xfc xvX9_88 (xfc xvX9_91 (xfc xvX9_95 (xfc xvX9_98 (xfc xvX9_101 (xfc xvX9_104 (xfc xvX9_107 (xfc xvX9_111 (xfc xvX9_115 (xfc xvX9_119 (xfc xvX9_122 (xfc xvX9_125 (xfc xvX9_128 (xfc xvX9_131 (xfc xvX9_134 (xfc xvX9_138 (xfc xvX9_141 (xfc xvX9_144 (xfc xvX9_147 (xfc xvX9_150 (xfc xvX9_154 (xfc xvX9_158 (xfc xvX9_162 (xfc xvX9_165 (xfc xvX9_168 (xfc xvX9_171 (xfc xvX9_176 (xfc xvX9_179 (xfc xvX9_183 (xfc xvX9_187 (xfc xvX9_191 (xfc xvX9_194 (xfc xvX9_198 (xfc xvX9_202 (xfc xvX9_205 (xfc xvX9_220 (xfc xvX9_227 (xfc xvX9_234 (xfc xvX9_238 xfn)))))))))))))))))))))))))))))))))))))))))))))))), (xfc xsX9_77 (xfc xsX9_231 xfn)), (xfc xkX9_87 (xfc xkX9_174 xfn)), xfn⟩
theorem xkJ6_265 : xkF 10 (265, vI 1431655765) := xw 634 (by decide +kernel) (by decide +kernel)
theorem xkJ6_266 : xkF 10 (266, vI 858993459) := xw 635 (by decide +kernel) (by decide +kernel)
theorem xkJ6_267 : xkF 10 (267, vI 252645135) := xw 636 (by decide +kernel) (by decide +kernel)
def ceJ6 : xCE := ([], [], [], [(265, vI 1431655765), (266, vI 858993459), (267, vI 252645135)], [])
theorem ceJ6_ok : xCEok 10 ceJ6 := ⟨xfn, xfn, xfn, (xfc xkJ6_265 (xfc xkJ6_266 (xfc xkJ6_267 xfn))), xfn⟩
theorem xkJ13_314 : xkF 11 (314, vL 6148914691236517205) := xw 671 (by decide +kernel) (by decide +kernel)
theorem xkJ13_316 : xkF 11 (316, vL 3689348814741910323) := xw 672 (by decide +kernel) (by decide +kernel)
theorem xkJ13_318 : xkF 11 (318, vL 1085102592571150095) := xw 673 (by decide +kernel) (by decide +kernel)
def ceJ13 : xCE := ([], [], [], [(314, vL 6148914691236517205), (316, vL 3689348814741910323), (318, vL 1085102592571150095)], [])
theorem ceJ13_ok : xCEok 11 ceJ13 := ⟨xfn, xfn, xfn, (xfc xkJ13_314 (xfc xkJ13_316 (xfc xkJ13_318 xfn))), xfn⟩
end
section
def tX0_add : List xT := [(0, .aload_n 0, 1, [0], vN), (1, .getfield 20, 3, [0, 1], vN), (4, .aload_n 0, 1, [0], vN), (5, .getfield 9, 3, [0, 0], vN), (8, .iload_n 1, 1, [1], vN), (9, .invokevirtual 34, 3, [0, 5], vN), (12, .aload_n 0, 1, [0], vN), (13, .dup, 1, [], vN), (14, .getfield 9, 3, [0, 0], vN), (17, .iconst 1, 1, [], vI 1), (18, .iadd, 1, [], vN), (19, .putfield 9, 3, [0, 0], vN), (22, .return_, 1, [], vN)]
def hX0_add : List (Nat × List Bool) := []
def eX0_add : xE := (0, mX0_add, tX0_add, hX0_add, ceX0)
theorem okX0_add : xEok eX0_add := ⟨by decide +kernel, by decide +kernel, by decide +kernel, ceX0_ok, rfl, by decide +kernel⟩
def tX0_firstError : List xT := [(0, .aload_n 0, 1, [0], vN), (1, .iconst 0, 1, [], vI 0), (2, .putfield 24, 3, [0, 2], vN), (5, .aload_n 0, 1, [0], vN), (6, .iconst 0, 1, [], vI 0), (7, .putfield 27, 3, [0, 3], vN), (10, .aload_n 0, 1, [0], vN), (11, .iconst 0, 1, [], vI 0), (12, .putfield 30, 3, [0, 4], vI 0), (15, .iconst 0, 1, [], vI 0), (16, .istore_n 1, 1, [1], vN), (17, .iload_n 1, 1, [1], vN), (18, .aload_n 0, 1, [0], vN), (19, .getfield 9, 3, [0, 0], vN), (22, .if_icmp .ge 45, 3, [37], vN), (25, .aload_n 0, 1, [0], vN), (26, .getfield 20, 3, [0, 1], vN), (29, .iload_n 1, 1, [1], vN), (30, .invokevirtual 38, 3, [1, 5], vN), (33, .istore_n 2, 1, [2], vN), (34, .aload_n 0, 1, [0], vN), (35, .getfield 30, 3, [0, 4], vN), (38, .ifCond .eq 11, 3, [27], vN), (41, .aload_n 0, 1, [0], vN), (42, .iload_n 2, 1, [2], vN), (43, .invokevirtual 42, 3, [2, 0], vN), (46, .goto 8, 3, [30], vN), (49, .aload_n 0, 1, [0], vN), (50, .iload_n 2, 1, [2], vN), (51, .invokevirtual 46, 3, [3, 0], vN), (54, .istore_n 3, 1, [3], vN), (55, .iload_n 3, 1, [3], vN), (56, .ifCond .ne 5, 3, [35], vN), (59, .iload_n 1, 1, [1], vN), (60, .ireturn, 1, [], vN), (61, .iinc 1 1, 3, [1], vI 1), (64, .goto (-47), 3, [11], vN), (67, .aload_n 0, 1, [0], vN), (68, .getfield 30, 3, [0, 4], vN), (71, .ifCond .eq 15, 3, [45], vN), (74, .aload_n 0, 1, [0], vN), (75, .getfield 24, 3, [0, 2], vN), (78, .ifCond .ne 8, 3, [45], vN), (81, .bipush (-6), 2, [], vI (-6)), (83, .goto 7, 3, [47], vN), (86, .aload_n 0, 1, [0], vN), (87, .getfield 9, 3, [0, 0], vN), (90, .ireturn, 1, [], vN)]
def hX0_firstError : List (Nat × List Bool) := [(17, [true, true, false, false])]
def eX0_firstError : xE := (0, mX0_firstError, tX0_firstError, hX0_firstError, ceX0)
theorem okX0_firstError : xEok eX0_firstError := ⟨by decide +kernel, by decide +kernel, by decide +kernel, ceX0_ok, rfl, by decide +kernel⟩
def tX0_beginsPart : List xT := [(0, .iload_n 1, 1, [1], vN), (1, .bipush 126, 2, [], vI 126), (3, .if_icmp .ne 5, 3, [5], vN), (6, .iconst 1, 1, [], vI 1), (7, .ireturn, 1, [], vN), (8, .iload_n 1, 1, [1], vN), (9, .bipush 40, 2, [], vI 40), (11, .if_icmp .ne 45, 3, [33], vN), (14, .aload_n 0, 1, [0], vN), (15, .dup, 1, [], vN), (16, .getfield 24, 3, [0, 2], vN), (19, .iconst 1, 1, [], vI 1), (20, .iadd, 1, [], vN), (21, .putfield 24, 3, [0, 2], vN), (24, .aload_n 0, 1, [0], vN), (25, .dup, 1, [], vN), (26, .getfield 27, 3, [0, 3], vN), (29, .iconst 1, 1, [], vI 1), (30, .aload_n 0, 1, [0], vN), (31, .getfield 24, 3, [0, 2], vN), (34, .ishl, 1, [], vN), (35, .iconst (-1), 1, [], vI (-1)), (36, .ixor, 1, [], vN), (37, .iand, 1, [], vN), (38, .putfield 27, 3, [0, 3], vN), (41, .aload_n 0, 1, [0], vN), (42, .getfield 24, 3, [0, 2], vN), (45, .bipush 10, 2, [], vI 10), (47, .if_icmp .gt 7, 3, [31], vN), (50, .iconst 1, 1, [], vI 1), (51, .goto 4, 3, [32], vN), (54, .iconst 0, 1, [], vI 0), (55, .ireturn, 1, [], vN), (56, .aload_n 0, 1, [0], vN), (57, .iload_n 1, 1, [1], vN), (58, .bipush 35, 2, [], vI 35), (60, .if_icmp .eq 15, 3, [43], vN), (63, .iload_n 1, 1, [1], vN), (64, .bipush 97, 2, [], vI 97), (66, .if_icmp .lt 13, 3, [45], vN), (69, .iload_n 1, 1, [1], vN), (70, .bipush 105, 2, [], vI 105), (72, .if_icmp .ge 7, 3, [45], vN), (75, .iconst 1, 1, [], vI 1), (76, .goto 4, 3, [46], vN), (79, .iconst 0, 1, [], vI 0), (80, .putfield 30, 3, [0, 4], vI 0), (83, .aload_n 0, 1, [0], vN), (84, .getfield 30, 3, [0, 4], vN), (87, .ireturn, 1, [], vN)]
def hX0_beginsPart : List (Nat × List Bool) := []
def eX0_beginsPart : xE := (0, mX0_beginsPart, tX0_beginsPart, hX0_beginsPart, ceX0)
theorem okX0_beginsPart : xEok eX0_beginsPart := ⟨by decide +kernel, by decide +kernel, by decide +kernel, ceX0_ok, rfl, by decide +kernel⟩
def tX0_continuesPart : List xT := [(0, .aload_n 0, 1, [0], vN), (1, .getfield 24, 3, [0, 2], vN), (4, .ifCond .ne 5, 3, [5], vN), (7, .iconst 0, 1, [], vI 0), (8, .ireturn, 1, [], vN), (9, .aload_n 0, 1, [0], vN), (10, .getfield 27, 3, [0, 3], vN), (13, .iconst 1, 1, [], vI 1), (14, .aload_n 0, 1, [0], vN), (15, .getfield 24, 3, [0, 2], vN), (18, .ishl, 1, [], vN), (19, .iand, 1, [], vN), (20, .ifCond .eq 25, 3, [26], vN), (23, .aload_n 0, 1, [0], vN), (24, .dup, 1, [], vN), (25, .getfield 24, 3, [0, 2], vN), (28, .iconst 1, 1, [], vI 1), (29, .isub, 1, [], vN), (30, .putfield 24, 3, [0, 2], vN), (33, .iload_n 1, 1, [1], vN), (34, .bipush 41, 2, [], vI 41), (36, .if_icmp .ne 7, 3, [24], vN), (39, .iconst 1, 1, [], vI 1), (40, .goto 4, 3, [25], vN), (43, .iconst 0, 1, [], vI 0), (44, .ireturn, 1, [], vN), (45, .aload_n 0, 1, [0], vN), (46, .dup, 1, [], vN), (47, .getfield 27, 3, [0, 3], vN), (50, .iconst 1, 1, [], vI 1), (51, .aload_n 0, 1, [0], vN), (52, .getfield 24, 3, [0, 2], vN), (55, .ishl, 1, [], vN), (56, .ior, 1, [], vN), (57, .putfield 27, 3, [0, 3], vN), (60, .aload_n 0, 1, [0], vN), (61, .iconst 0, 1, [], vI 0), (62, .putfield 30, 3, [0, 4], vI 0), (65, .iload_n 1, 1, [1], vN), (66, .invokestatic 49, 3, [0, 0], vN), (69, .bipush (-6), 2, [], vI (-6)), (71, .if_icmp .eq 7, 3, [44], vN), (74, .iconst 1, 1, [], vI 1), (75, .goto 4, 3, [45], vN), (78, .iconst 0, 1, [], vI 0), (79, .ireturn, 1, [], vN)]
def hX0_continuesPart : List (Nat × List Bool) := []
def eX0_continuesPart : xE := (0, mX0_continuesPart, tX0_continuesPart, hX0_continuesPart, ceX0)
theorem okX0_continuesPart : xEok eX0_continuesPart := ⟨by decide +kernel, by decide +kernel, by decide +kernel, ceX0_ok, rfl, by decide +kernel⟩
def tX1_build : List xT := [(0, .bipush (-6), 2, [], vI (-6)), (2, .istore_n 3, 1, [3], vN), (3, .aload_n 0, 1, [0], vN), (4, .iconst 0, 1, [], vI 0), (5, .putfield 9, 3, [1, 0], vN), (8, .iconst 0, 1, [], vI 0), (9, .istore 4, 2, [4], vN), (11, .iload 4, 2, [4], vN), (13, .aload_n 1, 1, [1], vN), (14, .getfield 27, 3, [0, 0], vN), (17, .if_icmp .ge 111, 3, [64], vN), (20, .aload_n 1, 1, [1], vN), (21, .getfield 32, 3, [0, 1], vN), (24, .iload 4, 2, [4], vN), (26, .invokevirtual 35, 3, [0, 5], vN), (29, .istore 5, 2, [5], vN), (31, .iload 5, 2, [5], vN), (33, .bipush 126, 2, [], vI 126), (35, .if_icmp .eq 10, 3, [22], vN), (38, .iload 5, 2, [5], vN), (40, .bipush 40, 2, [], vI 40), (42, .if_icmp .ne 12, 3, [26], vN), (45, .aload_n 0, 1, [0], vN), (46, .iload 5, 2, [5], vN), (48, .invokevirtual 39, 3, [1, 1], vN), (51, .goto 71, 3, [62], vN), (54, .iload 5, 2, [5], vN), (56, .invokestatic 42, 3, [0, 0], vN), (59, .bipush (-6), 2, [], vI (-6)), (61, .if_icmp .eq 38, 3, [48], vN), (64, .aload_n 0, 1, [0], vN), (65, .getfield 20, 3, [1, 1], vN), (68, .aload_n 0, 1, [0], vN), (69, .getfield 9, 3, [1, 0], vN), (72, .iconst 1, 1, [], vI 1), (73, .isub, 1, [], vN), (74, .iload 5, 2, [5], vN), (76, .invokestatic 42, 3, [0, 0], vN), (79, .invokevirtual 47, 3, [2, 5], vN), (82, .aload_n 0, 1, [0], vN), (83, .getfield 24, 3, [1, 2], vN), (86, .aload_n 0, 1, [0], vN), (87, .getfield 9, 3, [1, 0], vN), (90, .iconst 1, 1, [], vI 1), (91, .isub, 1, [], vN), (92, .iload_n 3, 1, [3], vN), (93, .invokevirtual 47, 3, [2, 5], vN), (96, .goto 26, 3, [62], vN), (99, .aload_n 0, 1, [0], vN), (100, .aload_n 0, 1, [0], vN), (101, .iload 5, 2, [5], vN), (103, .iload_n 3, 1, [3], vN), (104, .aload_n 2, 1, [2], vN), (105, .invokevirtual 51, 3, [3, 1], vN), (108, .aload_n 2, 1, [2], vN), (109, .invokevirtual 55, 3, [4, 1], vN), (112, .istore_n 3, 1, [3], vN), (113, .iload_n 3, 1, [3], vN), (114, .bipush (-4), 2, [], vI (-4)), (116, .if_icmp .ne 6, 3, [62], vN), (119, .bipush (-4), 2, [], vI (-4)), (121, .ireturn, 1, [], vN), (122, .iinc 4 1, 3, [4], vI 1), (125, .goto (-114), 3, [7], vN), (128, .iload_n 3, 1, [3], vN), (129, .ireturn, 1, [], vN)]
def hX1_build : List (Nat × List Bool) := [(11, [true, true, true, true, true, false])]
def eX1_build : xE := (1, mX1_build, tX1_build, hX1_build, ceX1)
theorem okX1_build : xEok eX1_build := ⟨by decide +kernel, by decide +kernel, by decide +kernel, ceX1_ok, rfl, by decide +kernel⟩
def tX1_push : List xT := [(0, .aload_n 0, 1, [0], vN), (1, .getfield 20, 3, [1, 1], vN), (4, .aload_n 0, 1, [0], vN), (5, .getfield 9, 3, [1, 0], vN), (8, .iload_n 1, 1, [1], vN), (9, .invokevirtual 47, 3, [2, 5], vN), (12, .aload_n 0, 1, [0], vN), (13, .dup, 1, [], vN), (14, .getfield 9, 3, [1, 0], vN), (17, .iconst 1, 1, [], vI 1), (18, .iadd, 1, [], vN), (19, .putfield 9, 3, [1, 0], vN), (22, .return_, 1, [], vN)]
def hX1_push : List (Nat × List Bool) := []
def eX1_push : xE := (1, mX1_push, tX1_push, hX1_push, ceX1)
theorem okX1_push : xEok eX1_push := ⟨by decide +kernel, by decide +kernel, by decide +kernel, ceX1_ok, rfl, by decide +kernel⟩
def tX1_makeAtEnd : List xT := [(0, .iload_n 1, 1, [1], vN), (1, .bipush 35, 2, [], vI 35), (3, .if_icmp .ne 13, 3, [9], vN), (6, .aload_n 3, 1, [3], vN), (7, .iconst 1, 1, [], vI 1), (8, .bipush (-6), 2, [], vI (-6)), (10, .bipush (-6), 2, [], vI (-6)), (12, .invokevirtual 59, 3, [5, 2], vN), (15, .ireturn, 1, [], vN), (16, .iload_n 1, 1, [1], vN), (17, .bipush 41, 2, [], vI 41), (19, .if_icmp .eq 15, 3, [20], vN), (22, .aload_n 3, 1, [3], vN), (23, .iconst 0, 1, [], vI 0), (24, .iload_n 1, 1, [1], vN), (25, .bipush 97, 2, [], vI 97), (27, .isub, 1, [], vN), (28, .bipush (-6), 2, [], vI (-6)), (30, .invokevirtual 59, 3, [5, 2], vN), (33, .ireturn, 1, [], vN), (34, .aload_n 0, 1, [0], vN), (35, .dup, 1, [], vN), (36, .getfield 9, 3, [1, 0], vN), (39, .iconst 1, 1, [], vI 1), (40, .isub, 1, [], vN), (41, .putfield 9, 3, [1, 0], vN), (44, .aload_n 3, 1, [3], vN), (45, .aload_n 0, 1, [0], vN), (46, .getfield 20, 3, [1, 1], vN), (49, .aload_n 0, 1, [0], vN), (50, .getfield 9, 3, [1, 0], vN), (53, .invokevirtual 35, 3, [0, 5], vN), (56, .aload_n 0, 1, [0], vN), (57, .getfield 24, 3, [1, 2], vN), (60, .aload_n 0, 1, [0], vN), (61, .getfield 9, 3, [1, 0], vN), (64, .invokevirtual 35, 3, [0, 5], vN), (67, .iload_n 2, 1, [2], vN), (68, .invokevirtual 59, 3, [5, 2], vN), (71, .ireturn, 1, [], vN)]
def hX1_makeAtEnd : List (Nat × List Bool) := []
def eX1_makeAtEnd : xE := (1, mX1_makeAtEnd, tX1_makeAtEnd, hX1_makeAtEnd, ceX1)
theorem okX1_makeAtEnd : xEok eX1_makeAtEnd := ⟨by decide +kernel, by decide +kernel, by decide +kernel, ceX1_ok, rfl, by decide +kernel⟩
def tX1_negate : List xT := [(0, .iload_n 1, 1, [1], vN), (1, .istore_n 3, 1, [3], vN), (2, .iload_n 3, 1, [3], vN), (3, .bipush (-4), 2, [], vI (-4)), (5, .if_icmp .eq 50, 3, [30], vN), (8, .aload_n 0, 1, [0], vN), (9, .getfield 9, 3, [1, 0], vN), (12, .ifCond .le 43, 3, [30], vN), (15, .aload_n 0, 1, [0], vN), (16, .getfield 20, 3, [1, 1], vN), (19, .aload_n 0, 1, [0], vN), (20, .getfield 9, 3, [1, 0], vN), (23, .iconst 1, 1, [], vI 1), (24, .isub, 1, [], vN), (25, .invokevirtual 35, 3, [0, 5], vN), (28, .bipush 126, 2, [], vI 126), (30, .if_icmp .ne 25, 3, [30], vN), (33, .aload_n 2, 1, [2], vN), (34, .iconst 2, 1, [], vI 2), (35, .iload_n 3, 1, [3], vN), (36, .bipush (-6), 2, [], vI (-6)), (38, .invokevirtual 59, 3, [5, 2], vN), (41, .istore_n 3, 1, [3], vN), (42, .aload_n 0, 1, [0], vN), (43, .dup, 1, [], vN), (44, .getfield 9, 3, [1, 0], vN), (47, .iconst 1, 1, [], vI 1), (48, .isub, 1, [], vN), (49, .putfield 9, 3, [1, 0], vN), (52, .goto (-50), 3, [2], vN), (55, .iload_n 3, 1, [3], vN), (56, .ireturn, 1, [], vN)]
def hX1_negate : List (Nat × List Bool) := [(2, [true, false, true, true])]
def eX1_negate : xE := (1, mX1_negate, tX1_negate, hX1_negate, ceX1)
theorem okX1_negate : xEok eX1_negate := ⟨by decide +kernel, by decide +kernel, by decide +kernel, ceX1_ok, rfl, by decide +kernel⟩
def tX2_copyFrom : List xT := [(0, .aload_n 0, 1, [0], vN), (1, .aload_n 1, 1, [1], vN), (2, .getfield 9, 3, [2, 0], vN), (5, .putfield 9, 3, [2, 0], vN), (8, .aload_n 0, 1, [0], vN), (9, .getfield 20, 3, [2, 1], vN), (12, .aload_n 1, 1, [1], vN), (13, .getfield 20, 3, [2, 1], vN), (16, .invokevirtual 30, 3, [0, 5], vN), (19, .aload_n 0, 1, [0], vN), (20, .getfield 24, 3, [2, 2], vN), (23, .aload_n 1, 1, [1], vN), (24, .getfield 24, 3, [2, 2], vN), (27, .invokevirtual 30, 3, [0, 5], vN), (30, .aload_n 0, 1, [0], vN), (31, .getfield 27, 3, [2, 3], vN), (34, .aload_n 1, 1, [1], vN), (35, .getfield 27, 3, [2, 3], vN), (38, .invokevirtual 30, 3, [0, 5], vN), (41, .return_, 1, [], vN)]
def hX2_copyFrom : List (Nat × List Bool) := []
def eX2_copyFrom : xE := (2, mX2_copyFrom, tX2_copyFrom, hX2_copyFrom, ceX2)
theorem okX2_copyFrom : xEok eX2_copyFrom := ⟨by decide +kernel, by decide +kernel, by decide +kernel, ceX2_ok, rfl, by decide +kernel⟩
def tX2_has : List xT := [(0, .iload_n 1, 1, [1], vN), (1, .ifCond .lt 15, 3, [8], vN), (4, .iload_n 1, 1, [1], vN), (5, .aload_n 0, 1, [0], vN), (6, .getfield 9, 3, [2, 0], vN), (9, .if_icmp .ge 7, 3, [8], vN), (12, .iconst 1, 1, [], vI 1), (13, .goto 4, 3, [9], vN), (16, .iconst 0, 1, [], vI 0), (17, .ireturn, 1, [], vN)]
def hX2_has : List (Nat × List Bool) := []
def eX2_has : xE := (2, mX2_has, tX2_has, hX2_has, ceX2)
theorem okX2_has : xEok eX2_has := ⟨by decide +kernel, by decide +kernel, by decide +kernel, ceX2_ok, rfl, by decide +kernel⟩
def tX2_isOfKind : List xT := [(0, .aload_n 0, 1, [0], vN), (1, .getfield 20, 3, [2, 1], vN), (4, .iload_n 1, 1, [1], vN), (5, .invokevirtual 34, 3, [1, 5], vN), (8, .iload_n 2, 1, [2], vN), (9, .if_icmp .ne 7, 3, [8], vN), (12, .iconst 1, 1, [], vI 1), (13, .goto 4, 3, [9], vN), (16, .iconst 0, 1, [], vI 0), (17, .ireturn, 1, [], vN)]
def hX2_isOfKind : List (Nat × List Bool) := []
def eX2_isOfKind : xE := (2, mX2_isOfKind, tX2_isOfKind, hX2_isOfKind, ceX2)
theorem okX2_isOfKind : xEok eX2_isOfKind := ⟨by decide +kernel, by decide +kernel, by decide +kernel, ceX2_ok, rfl, by decide +kernel⟩
def tX2_isPartOfDisjunction : List xT := [(0, .aload_n 0, 1, [0], vN), (1, .iload_n 2, 1, [2], vN), (2, .iconst 4, 1, [], vI 4), (3, .invokevirtual 38, 3, [2, 2], vN), (6, .ifCond .eq 31, 3, [19], vN), (9, .aload_n 0, 1, [0], vN), (10, .getfield 24, 3, [2, 2], vN), (13, .iload_n 2, 1, [2], vN), (14, .invokevirtual 34, 3, [1, 5], vN), (17, .iload_n 1, 1, [1], vN), (18, .if_icmp .eq 15, 3, [17], vN), (21, .aload_n 0, 1, [0], vN), (22, .getfield 27, 3, [2, 3], vN), (25, .iload_n 2, 1, [2], vN), (26, .invokevirtual 34, 3, [1, 5], vN), (29, .iload_n 1, 1, [1], vN), (30, .if_icmp .ne 7, 3, [19], vN), (33, .iconst 1, 1, [], vI 1), (34, .goto 4, 3, [20], vN), (37, .iconst 0, 1, [], vI 0), (38, .ireturn, 1, [], vN)]
def hX2_isPartOfDisjunction : List (Nat × List Bool) := []
def eX2_isPartOfDisjunction : xE := (2, mX2_isPartOfDisjunction, tX2_isPartOfDisjunction, hX2_isPartOfDisjunction, ceX2)
theorem okX2_isPartOfDisjunction : xEok eX2_isPartOfDisjunction := ⟨by decide +kernel, by decide +kernel, by decide +kernel, ceX2_ok, rfl, by decide +kernel⟩
def tX2_takenOut : List xT := [(0, .iload_n 1, 1, [1], vN), (1, .bipush 13, 2, [], vI 13), (3, .if_icmp .ne 49, 3, [27], vN), (6, .aload_n 0, 1, [0], vN), (7, .iload_n 2, 1, [2], vN), (8, .iconst 2, 1, [], vI 2), (9, .invokevirtual 38, 3, [2, 2], vN), (12, .ifCond .eq 14, 3, [13], vN), (15, .aload_n 0, 1, [0], vN), (16, .getfield 24, 3, [2, 2], vN), (19, .iload_n 2, 1, [2], vN), (20, .invokevirtual 34, 3, [1, 5], vN), (23, .goto 5, 3, [14], vN), (26, .bipush (-6), 2, [], vI (-6)), (28, .istore_n 3, 1, [3], vN), (29, .aload_n 0, 1, [0], vN), (30, .iload_n 3, 1, [3], vN), (31, .iconst 2, 1, [], vI 2), (32, .invokevirtual 38, 3, [2, 2], vN), (35, .ifCond .eq 14, 3, [25], vN), (38, .aload_n 0, 1, [0], vN), (39, .getfield 24, 3, [2, 2], vN), (42, .iload_n 3, 1, [3], vN), (43, .invokevirtual 34, 3, [1, 5], vN), (46, .goto 5, 3, [26], vN), (49, .bipush (-6), 2, [], vI (-6)), (51, .ireturn, 1, [], vN), (52, .aload_n 0, 1, [0], vN), (53, .iload_n 2, 1, [2], vN), (54, .iconst 3, 1, [], vI 3), (55, .invokevirtual 38, 3, [2, 2], vN), (58, .ifCond .ne 6, 3, [34], vN), (61, .bipush (-6), 2, [], vI (-6)), (63, .ireturn, 1, [], vN), (64, .iload_n 1, 1, [1], vN), (65, .iconst 4, 1, [], vI 4), (66, .if_icmp .ne 14, 3, [42], vN), (69, .aload_n 0, 1, [0], vN), (70, .getfield 24, 3, [2, 2], vN), (73, .iload_n 2, 1, [2], vN), (74, .invokevirtual 34, 3, [1, 5], vN), (77, .goto 11, 3, [46], vN), (80, .aload_n 0, 1, [0], vN), (81, .getfield 27, 3, [2, 3], vN), (84, .iload_n 2, 1, [2], vN), (85, .invokevirtual 34, 3, [1, 5], vN), (88, .ireturn, 1, [], vN)]
def hX2_takenOut : List (Nat × List Bool) := []
def eX2_takenOut : xE := (2, mX2_takenOut, tX2_takenOut, hX2_takenOut, ceX2)
theorem okX2_takenOut : xEok eX2_takenOut := ⟨by decide +kernel, by decide +kernel, by decide +kernel, ceX2_ok, rfl, by decide +kernel⟩
def tX2_find : List xT := [(0, .iconst 0, 1, [], vI 0), (1, .istore 4, 2, [4], vN), (3, .iload 4, 2, [4], vN), (5, .aload_n 0, 1, [0], vN), (6, .getfield 9, 3, [2, 0], vN), (9, .if_icmp .ge 51, 3, [28], vN), (12, .aload_n 0, 1, [0], vN), (13, .getfield 20, 3, [2, 1], vN), (16, .iload 4, 2, [4], vN), (18, .invokevirtual 34, 3, [1, 5], vN), (21, .iload_n 1, 1, [1], vN), (22, .if_icmp .ne 32, 3, [26], vN), (25, .aload_n 0, 1, [0], vN), (26, .getfield 24, 3, [2, 2], vN), (29, .iload 4, 2, [4], vN), (31, .invokevirtual 34, 3, [1, 5], vN), (34, .iload_n 2, 1, [2], vN), (35, .if_icmp .ne 19, 3, [26], vN), (38, .aload_n 0, 1, [0], vN), (39, .getfield 27, 3, [2, 3], vN), (42, .iload 4, 2, [4], vN), (44, .invokevirtual 34, 3, [1, 5], vN), (47, .iload_n 3, 1, [3], vN), (48, .if_icmp .ne 6, 3, [26], vN), (51, .iload 4, 2, [4], vN), (53, .ireturn, 1, [], vN), (54, .iinc 4 1, 3, [4], vI 1), (57, .goto (-54), 3, [2], vN), (60, .bipush (-6), 2, [], vI (-6)), (62, .ireturn, 1, [], vN)]
def hX2_find : List (Nat × List Bool) := [(3, [true, true, true, true, true])]
def eX2_find : xE := (2, mX2_find, tX2_find, hX2_find, ceX2)
theorem okX2_find : xEok eX2_find := ⟨by decide +kernel, by decide +kernel, by decide +kernel, ceX2_ok, rfl, by decide +kernel⟩
def tX2_hasRoomFor : List xT := [(0, .aload_n 0, 1, [0], vN), (1, .getfield 9, 3, [2, 0], vN), (4, .bipush 60, 2, [], vI 60), (6, .if_icmp .lt 15, 3, [11], vN), (9, .aload_n 0, 1, [0], vN), (10, .iload_n 1, 1, [1], vN), (11, .iload_n 2, 1, [2], vN), (12, .iload_n 3, 1, [3], vN), (13, .invokevirtual 42, 3, [3, 2], vN), (16, .bipush (-6), 2, [], vI (-6)), (18, .if_icmp .eq 7, 3, [13], vN), (21, .iconst 1, 1, [], vI 1), (22, .goto 4, 3, [14], vN), (25, .iconst 0, 1, [], vI 0), (26, .ireturn, 1, [], vN)]
def hX2_hasRoomFor : List (Nat × List Bool) := []
def eX2_hasRoomFor : xE := (2, mX2_hasRoomFor, tX2_hasRoomFor, hX2_hasRoomFor, ceX2)
theorem okX2_hasRoomFor : xEok eX2_hasRoomFor := ⟨by decide +kernel, by decide +kernel, by decide +kernel, ceX2_ok, rfl, by decide +kernel⟩
def tX2_make : List xT := [(0, .aload_n 0, 1, [0], vN), (1, .iload_n 1, 1, [1], vN), (2, .iload_n 2, 1, [2], vN), (3, .iload_n 3, 1, [3], vN), (4, .invokevirtual 42, 3, [3, 2], vN), (7, .istore 4, 2, [4], vN), (9, .iload 4, 2, [4], vN), (11, .bipush (-6), 2, [], vI (-6)), (13, .if_icmp .eq 6, 3, [11], vN), (16, .iload 4, 2, [4], vN), (18, .ireturn, 1, [], vN), (19, .aload_n 0, 1, [0], vN), (20, .getfield 9, 3, [2, 0], vN), (23, .bipush 60, 2, [], vI 60), (25, .if_icmp .lt 6, 3, [17], vN), (28, .bipush (-4), 2, [], vI (-4)), (30, .ireturn, 1, [], vN), (31, .aload_n 0, 1, [0], vN), (32, .getfield 9, 3, [2, 0], vN), (35, .istore 4, 2, [4], vN), (37, .aload_n 0, 1, [0], vN), (38, .getfield 20, 3, [2, 1], vN), (41, .iload 4, 2, [4], vN), (43, .iload_n 1, 1, [1], vN), (44, .invokevirtual 46, 3, [4, 5], vN), (47, .aload_n 0, 1, [0], vN), (48, .getfield 24, 3, [2, 2], vN), (51, .iload 4, 2, [4], vN), (53, .iload_n 2, 1, [2], vN), (54, .invokevirtual 46, 3, [4, 5], vN), (57, .aload_n 0, 1, [0], vN), (58, .getfield 27, 3, [2, 3], vN), (61, .iload 4, 2, [4], vN), (63, .iload_n 3, 1, [3], vN), (64, .invokevirtual 46, 3, [4, 5], vN), (67, .aload_n 0, 1, [0], vN), (68, .dup, 1, [], vN), (69, .getfield 9, 3, [2, 0], vN), (72, .iconst 1, 1, [], vI 1), (73, .iadd, 1, [], vN), (74, .putfield 9, 3, [2, 0], vN), (77, .iload 4, 2, [4], vN), (79, .ireturn, 1, [], vN)]
def hX2_make : List (Nat × List Bool) := []
def eX2_make : xE := (2, mX2_make, tX2_make, hX2_make, ceX2)
theorem okX2_make : xEok eX2_make := ⟨by decide +kernel, by decide +kernel, by decide +kernel, ceX2_ok, rfl, by decide +kernel⟩
def tX2_measure : List xT := [(0, .iconst 0, 1, [], vI 0), (1, .istore_n 2, 1, [2], vN), (2, .iload_n 2, 1, [2], vN), (3, .aload_n 0, 1, [0], vN), (4, .getfield 9, 3, [2, 0], vN), (7, .if_icmp .ge 78, 3, [48], vN), (10, .iconst 1, 1, [], vI 1), (11, .istore_n 3, 1, [3], vN), (12, .aload_n 0, 1, [0], vN), (13, .getfield 20, 3, [2, 1], vN), (16, .iload_n 2, 1, [2], vN), (17, .invokevirtual 34, 3, [1, 5], vN), (20, .iconst 2, 1, [], vI 2), (21, .if_icmp .lt 18, 3, [23], vN), (24, .iload_n 3, 1, [3], vN), (25, .aload_n 1, 1, [1], vN), (26, .aload_n 0, 1, [0], vN), (27, .getfield 24, 3, [2, 2], vN), (30, .iload_n 2, 1, [2], vN), (31, .invokevirtual 34, 3, [1, 5], vN), (34, .invokevirtual 34, 3, [1, 5], vN), (37, .iadd, 1, [], vN), (38, .istore_n 3, 1, [3], vN), (39, .aload_n 0, 1, [0], vN), (40, .getfield 20, 3, [2, 1], vN), (43, .iload_n 2, 1, [2], vN), (44, .invokevirtual 34, 3, [1, 5], vN), (47, .iconst 3, 1, [], vI 3), (48, .if_icmp .lt 20, 3, [40], vN), (51, .iload_n 3, 1, [3], vN), (52, .iconst 2, 1, [], vI 2), (53, .aload_n 1, 1, [1], vN), (54, .aload_n 0, 1, [0], vN), (55, .getfield 27, 3, [2, 3], vN), (58, .iload_n 2, 1, [2], vN), (59, .invokevirtual 34, 3, [1, 5], vN), (62, .invokevirtual 34, 3, [1, 5], vN), (65, .iadd, 1, [], vN), (66, .iadd, 1, [], vN), (67, .istore_n 3, 1, [3], vN), (68, .aload_n 1, 1, [1], vN), (69, .iload_n 2, 1, [2], vN), (70, .iload_n 3, 1, [3], vN), (71, .ldc 50, 2, [], vI 1000000), (73, .invokestatic 51, 3, [0, 1], vN), (76, .invokevirtual 46, 3, [4, 5], vN), (79, .iinc 2 1, 3, [2], vI 1), (82, .goto (-80), 3, [2], vN), (85, .return_, 1, [], vN)]
def hX2_measure : List (Nat × List Bool) := [(2, [true, true, true, false])]
def eX2_measure : xE := (2, mX2_measure, tX2_measure, hX2_measure, ceX2)
theorem okX2_measure : xEok eX2_measure := ⟨by decide +kernel, by decide +kernel, by decide +kernel, ceX2_ok, rfl, by decide +kernel⟩
def tX2_codeAt : List xT := [(0, .iload_n 1, 1, [1], vN), (1, .istore 4, 2, [4], vN), (3, .iload_n 2, 1, [2], vN), (4, .istore 5, 2, [5], vN), (6, .iconst 0, 1, [], vI 0), (7, .istore 6, 2, [6], vN), (9, .iload 6, 2, [6], vN), (11, .bipush 60, 2, [], vI 60), (13, .if_icmp .ge 116, 3, [63], vN), (16, .iload 5, 2, [5], vN), (18, .ifCond .ne 10, 3, [15], vN), (21, .aload_n 0, 1, [0], vN), (22, .iload 4, 2, [4], vN), (24, .invokevirtual 57, 3, [5, 2], vN), (27, .ireturn, 1, [], vN), (28, .aload_n 3, 1, [3], vN), (29, .aload_n 0, 1, [0], vN), (30, .getfield 24, 3, [2, 2], vN), (33, .iload 4, 2, [4], vN), (35, .invokevirtual 34, 3, [1, 5], vN), (38, .invokevirtual 34, 3, [1, 5], vN), (41, .istore 7, 2, [7], vN), (43, .iload 5, 2, [5], vN), (45, .iload 7, 2, [7], vN), (47, .iconst 1, 1, [], vI 1), (48, .iadd, 1, [], vN), (49, .if_icmp .ne 16, 3, [33], vN), (52, .aload_n 0, 1, [0], vN), (53, .getfield 20, 3, [2, 1], vN), (56, .iload 4, 2, [4], vN), (58, .invokevirtual 34, 3, [1, 5], vN), (61, .invokestatic 60, 3, [0, 0], vN), (64, .ireturn, 1, [], vN), (65, .iload 5, 2, [5], vN), (67, .iload 7, 2, [7], vN), (69, .if_icmp .gt 20, 3, [43], vN), (72, .iinc 5 (-1), 3, [5], vI (-1)), (75, .aload_n 0, 1, [0], vN), (76, .getfield 24, 3, [2, 2], vN), (79, .iload 4, 2, [4], vN), (81, .invokevirtual 34, 3, [1, 5], vN), (84, .istore 4, 2, [4], vN), (86, .goto 37, 3, [61], vN), (89, .iload 5, 2, [5], vN), (91, .iload 7, 2, [7], vN), (93, .iconst 2, 1, [], vI 2), (94, .iadd, 1, [], vN), (95, .isub, 1, [], vN), (96, .istore 5, 2, [5], vN), (98, .aload_n 0, 1, [0], vN), (99, .getfield 27, 3, [2, 3], vN), (102, .iload 4, 2, [4], vN), (104, .invokevirtual 34, 3, [1, 5], vN), (107, .istore 4, 2, [4], vN), (109, .iload 5, 2, [5], vN), (111, .aload_n 3, 1, [3], vN), (112, .iload 4, 2, [4], vN), (114, .invokevirtual 34, 3, [1, 5], vN), (117, .if_icmp .ne 6, 3, [61], vN), (120, .bipush 41, 2, [], vI 41), (122, .ireturn, 1, [], vN), (123, .iinc 6 1, 3, [6], vI 1), (126, .goto (-117), 3, [6], vN), (129, .iconst (-1), 1, [], vI (-1)), (130, .ireturn, 1, [], vN)]
def hX2_codeAt : List (Nat × List Bool) := [(9, [true, false, false, true, true, true, true, false])]
def eX2_codeAt : xE := (2, mX2_codeAt, tX2_codeAt, hX2_codeAt, ceX2)
theorem okX2_codeAt : xEok eX2_codeAt := ⟨by decide +kernel, by decide +kernel, by decide +kernel, ceX2_ok, rfl, by decide +kernel⟩
def tX2_firstCode : List xT := [(0, .aload_n 0, 1, [0], vN), (1, .getfield 20, 3, [2, 1], vN), (4, .iload_n 1, 1, [1], vN), (5, .invokevirtual 34, 3, [1, 5], vN), (8, .tableswitch 46 0 2 #[28, 40, 43], 28, [16, 5, 12, 14], vN), (36, .bipush 97, 2, [], vI 97), (38, .aload_n 0, 1, [0], vN), (39, .getfield 24, 3, [2, 2], vN), (42, .iload_n 1, 1, [1], vN), (43, .invokevirtual 34, 3, [1, 5], vN), (46, .iadd, 1, [], vN), (47, .ireturn, 1, [], vN), (48, .bipush 35, 2, [], vI 35), (50, .ireturn, 1, [], vN), (51, .bipush 126, 2, [], vI 126), (53, .ireturn, 1, [], vN), (54, .bipush 40, 2, [], vI 40), (56, .ireturn, 1, [], vN)]
def hX2_firstCode : List (Nat × List Bool) := []
def eX2_firstCode : xE := (2, mX2_firstCode, tX2_firstCode, hX2_firstCode, ceX2)
theorem okX2_firstCode : xEok eX2_firstCode := ⟨by decide +kernel, by decide +kernel, by decide +kernel, ceX2_ok, rfl, by decide +kernel⟩
def tX2_evaluate : List xT := [(0, .iconst 0, 1, [], vI 0), (1, .istore_n 3, 1, [3], vN), (2, .iload_n 3, 1, [3], vN), (3, .aload_n 0, 1, [0], vN), (4, .getfield 9, 3, [2, 0], vN), (7, .if_icmp .ge 21, 3, [16], vN), (10, .aload_n 2, 1, [2], vN), (11, .iload_n 3, 1, [3], vN), (12, .aload_n 0, 1, [0], vN), (13, .iload_n 3, 1, [3], vN), (14, .iload_n 1, 1, [1], vN), (15, .aload_n 2, 1, [2], vN), (16, .invokevirtual 65, 3, [6, 2], vN), (19, .invokevirtual 46, 3, [4, 5], vN), (22, .iinc 3 1, 3, [3], vI 1), (25, .goto (-23), 3, [2], vN), (28, .return_, 1, [], vN)]
def hX2_evaluate : List (Nat × List Bool) := [(2, [true, true, true, true])]
def eX2_evaluate : xE := (2, mX2_evaluate, tX2_evaluate, hX2_evaluate, ceX2)
theorem okX2_evaluate : xEok eX2_evaluate := ⟨by decide +kernel, by decide +kernel, by decide +kernel, ceX2_ok, rfl, by decide +kernel⟩
def tX2_truthOf : List xT := [(0, .aload_n 0, 1, [0], vN), (1, .getfield 24, 3, [2, 2], vN), (4, .iload_n 1, 1, [1], vN), (5, .invokevirtual 34, 3, [1, 5], vN), (8, .istore 4, 2, [4], vN), (10, .aload_n 0, 1, [0], vN), (11, .getfield 27, 3, [2, 3], vN), (14, .iload_n 1, 1, [1], vN), (15, .invokevirtual 34, 3, [1, 5], vN), (18, .istore 5, 2, [5], vN), (20, .aload_n 0, 1, [0], vN), (21, .getfield 20, 3, [2, 1], vN), (24, .iload_n 1, 1, [1], vN), (25, .invokevirtual 34, 3, [1, 5], vN), (28, .tableswitch 100 0 5 #[40, 100, 47, 56, 70, 84], 40, [51, 15, 51, 19, 25, 33, 41], vN), (68, .iload 4, 2, [4], vN), (70, .iload_n 2, 1, [2], vN), (71, .invokestatic 69, 3, [1, 0], vN), (74, .ireturn, 1, [], vN), (75, .aload_n 3, 1, [3], vN), (76, .iload 4, 2, [4], vN), (78, .invokevirtual 34, 3, [1, 5], vN), (81, .iconst (-1), 1, [], vI (-1)), (82, .ixor, 1, [], vN), (83, .ireturn, 1, [], vN), (84, .aload_n 3, 1, [3], vN), (85, .iload 4, 2, [4], vN), (87, .invokevirtual 34, 3, [1, 5], vN), (90, .aload_n 3, 1, [3], vN), (91, .iload 5, 2, [5], vN), (93, .invokevirtual 34, 3, [1, 5], vN), (96, .iand, 1, [], vN), (97, .ireturn, 1, [], vN), (98, .aload_n 3, 1, [3], vN), (99, .iload 4, 2, [4], vN), (101, .invokevirtual 34, 3, [1, 5], vN), (104, .aload_n 3, 1, [3], vN), (105, .iload 5, 2, [5], vN), (107, .invokevirtual 34, 3, [1, 5], vN), (110, .ior, 1, [], vN), (111, .ireturn, 1, [], vN), (112, .aload_n 3, 1, [3], vN), (113, .iload 4, 2, [4], vN), (115, .invokevirtual 34, 3, [1, 5], vN), (118, .iconst (-1), 1, [], vI (-1)), (119, .ixor, 1, [], vN), (120, .aload_n 3, 1, [3], vN), (121, .iload 5, 2, [5], vN), (123, .invokevirtual 34, 3, [1, 5], vN), (126, .ior, 1, [], vN), (127, .ireturn, 1, [], vN), (128, .iconst 0, 1, [], vI 0), (129, .ireturn, 1, [], vN)]
def hX2_truthOf : List (Nat × List Bool) := []
def eX2_truthOf : xE := (2, mX2_truthOf, tX2_truthOf, hX2_truthOf, ceX2)
theorem okX2_truthOf : xEok eX2_truthOf := ⟨by decide +kernel, by decide +kernel, by decide +kernel, ceX2_ok, rfl, by decide +kernel⟩
def tX2_truthOfAtom : List xT := [(0, .iload_n 0, 1, [0], vN), (1, .tableswitch 50 0 4 #[35, 38, 41, 44, 47], 35, [12, 2, 4, 6, 8, 10], vN), (36, .ldc 72, 2, [], vI (-1431655766)), (38, .ireturn, 1, [], vN), (39, .ldc 73, 2, [], vI (-858993460)), (41, .ireturn, 1, [], vN), (42, .ldc 74, 2, [], vI (-252645136)), (44, .ireturn, 1, [], vN), (45, .ldc 75, 2, [], vI (-16711936)), (47, .ireturn, 1, [], vN), (48, .ldc 76, 2, [], vI (-65536)), (50, .ireturn, 1, [], vN), (51, .iload_n 1, 1, [1], vN), (52, .iload_n 0, 1, [0], vN), (53, .iconst 5, 1, [], vI 5), (54, .isub, 1, [], vN), (55, .ishr, 1, [], vN), (56, .iconst 1, 1, [], vI 1), (57, .iand, 1, [], vN), (58, .ifCond .ne 7, 3, [22], vN), (61, .iconst 0, 1, [], vI 0), (62, .goto 4, 3, [23], vN), (65, .iconst (-1), 1, [], vI (-1)), (66, .ireturn, 1, [], vN)]
def hX2_truthOfAtom : List (Nat × List Bool) := []
def eX2_truthOfAtom : xE := (2, mX2_truthOfAtom, tX2_truthOfAtom, hX2_truthOfAtom, ceX2)
theorem okX2_truthOfAtom : xEok eX2_truthOfAtom := ⟨by decide +kernel, by decide +kernel, by decide +kernel, ceX2_ok, rfl, by decide +kernel⟩
def tX3_at : List xT := [(0, .iload_n 1, 1, [1], vN), (1, .ifCond .lt 21, 3, [12], vN), (4, .iload_n 1, 1, [1], vN), (5, .aload_n 0, 1, [0], vN), (6, .getfield 20, 3, [3, 2], vN), (9, .arraylength, 1, [], vN), (10, .if_icmp .ge 12, 3, [12], vN), (13, .aload_n 0, 1, [0], vN), (14, .getfield 20, 3, [3, 2], vN), (17, .iload_n 1, 1, [1], vN), (18, .aaload, 1, [], vN), (19, .goto 4, 3, [13], vN), (22, .aconst_null, 1, [], vN), (23, .areturn, 1, [], vN)]
def hX3_at : List (Nat × List Bool) := []
def eX3_at : xE := (3, mX3_at, tX3_at, hX3_at, ceX3)
theorem okX3_at : xEok eX3_at := ⟨by decide +kernel, by decide +kernel, by decide +kernel, ceX3_ok, rfl, by decide +kernel⟩
def tX3_record : List xT := [(0, .aload_n 0, 1, [0], vN), (1, .aload_n 0, 1, [0], vN), (2, .getfield 15, 3, [3, 1], vN), (5, .invokevirtual 25, 3, [0, 3], vN), (8, .astore_n 2, 1, [2], vN), (9, .aload_n 2, 1, [2], vN), (10, .ifnull 46, 3, [], vN), (13, .aload_n 2, 1, [2], vN), (14, .aload_n 1, 1, [1], vN), (15, .invokevirtual 29, 3, [1, 6], vN), (18, .aload_n 0, 1, [0], vN), (19, .aload_n 0, 1, [0], vN), (20, .getfield 15, 3, [3, 1], vN), (23, .iconst 1, 1, [], vI 1), (24, .iadd, 1, [], vN), (25, .iconst 5, 1, [], vI 5), (26, .if_icmp .ge 12, 3, [22], vN), (29, .aload_n 0, 1, [0], vN), (30, .getfield 15, 3, [3, 1], vN), (33, .iconst 1, 1, [], vI 1), (34, .iadd, 1, [], vN), (35, .goto 4, 3, [23], vN), (38, .iconst 0, 1, [], vI 0), (39, .putfield 15, 3, [3, 1], vN), (42, .aload_n 0, 1, [0], vN), (43, .aload_n 0, 1, [0], vN), (44, .getfield 9, 3, [3, 0], vN), (47, .iconst 1, 1, [], vI 1), (48, .iadd, 1, [], vN), (49, .iconst 5, 1, [], vI 5), (50, .invokestatic 33, 3, [0, 1], vN), (53, .putfield 9, 3, [3, 0], vN), (56, .return_, 1, [], vN)]
def hX3_record : List (Nat × List Bool) := []
def eX3_record : xE := (3, mX3_record, tX3_record, hX3_record, ceX3)
theorem okX3_record : xEok eX3_record := ⟨by decide +kernel, by decide +kernel, by decide +kernel, ceX3_ok, rfl, by decide +kernel⟩
def tX3_takeBack : List xT := [(0, .aload_n 0, 1, [0], vN), (1, .getfield 15, 3, [3, 1], vN), (4, .ifCond .le 12, 3, [8], vN), (7, .aload_n 0, 1, [0], vN), (8, .getfield 15, 3, [3, 1], vN), (11, .iconst 1, 1, [], vI 1), (12, .isub, 1, [], vN), (13, .goto 4, 3, [9], vN), (16, .iconst 4, 1, [], vI 4), (17, .istore_n 2, 1, [2], vN), (18, .aload_n 0, 1, [0], vN), (19, .iload_n 2, 1, [2], vN), (20, .invokevirtual 25, 3, [0, 3], vN), (23, .astore_n 3, 1, [3], vN), (24, .aload_n 3, 1, [3], vN), (25, .ifnull 30, 3, [], vN), (28, .aload_n 0, 1, [0], vN), (29, .getfield 9, 3, [3, 0], vN), (32, .ifCond .le 23, 3, [31], vN), (35, .aload_n 1, 1, [1], vN), (36, .aload_n 3, 1, [3], vN), (37, .invokevirtual 29, 3, [1, 6], vN), (40, .aload_n 0, 1, [0], vN), (41, .iload_n 2, 1, [2], vN), (42, .putfield 15, 3, [3, 1], vN), (45, .aload_n 0, 1, [0], vN), (46, .dup, 1, [], vN), (47, .getfield 9, 3, [3, 0], vN), (50, .iconst 1, 1, [], vI 1), (51, .isub, 1, [], vN), (52, .putfield 9, 3, [3, 0], vN), (55, .return_, 1, [], vN)]
def hX3_takeBack : List (Nat × List Bool) := []
def eX3_takeBack : xE := (3, mX3_takeBack, tX3_takeBack, hX3_takeBack, ceX3)
theorem okX3_takeBack : xEok eX3_takeBack := ⟨by decide +kernel, by decide +kernel, by decide +kernel, ceX3_ok, rfl, by decide +kernel⟩
def tX4_copyFrom : List xT := [(0, .aload_n 0, 1, [0], vN), (1, .aload_n 1, 1, [1], vN), (2, .getfield 9, 3, [4, 0], vN), (5, .putfield 9, 3, [4, 0], vN), (8, .aload_n 0, 1, [0], vN), (9, .aload_n 1, 1, [1], vN), (10, .getfield 15, 3, [4, 1], vN), (13, .putfield 15, 3, [4, 1], vN), (16, .aload_n 0, 1, [0], vN), (17, .aload_n 1, 1, [1], vN), (18, .getfield 18, 3, [4, 2], vN), (21, .putfield 18, 3, [4, 2], vN), (24, .aload_n 0, 1, [0], vN), (25, .getfield 26, 3, [4, 3], vN), (28, .aload_n 1, 1, [1], vN), (29, .getfield 26, 3, [4, 3], vN), (32, .invokevirtual 54, 3, [0, 5], vN), (35, .aload_n 0, 1, [0], vN), (36, .getfield 30, 3, [4, 4], vN), (39, .aload_n 1, 1, [1], vN), (40, .getfield 30, 3, [4, 4], vN), (43, .invokevirtual 54, 3, [0, 5], vN), (46, .aload_n 0, 1, [0], vN), (47, .getfield 33, 3, [4, 5], vN), (50, .aload_n 1, 1, [1], vN), (51, .getfield 33, 3, [4, 5], vN), (54, .invokevirtual 54, 3, [0, 5], vN), (57, .aload_n 0, 1, [0], vN), (58, .getfield 36, 3, [4, 6], vN), (61, .aload_n 1, 1, [1], vN), (62, .getfield 36, 3, [4, 6], vN), (65, .invokevirtual 54, 3, [0, 5], vN), (68, .aload_n 0, 1, [0], vN), (69, .getfield 39, 3, [4, 7], vN), (72, .aload_n 1, 1, [1], vN), (73, .getfield 39, 3, [4, 7], vN), (76, .invokevirtual 54, 3, [0, 5], vN), (79, .aload_n 0, 1, [0], vN), (80, .getfield 42, 3, [4, 8], vN), (83, .aload_n 1, 1, [1], vN), (84, .getfield 42, 3, [4, 8], vN), (87, .invokevirtual 54, 3, [0, 5], vN), (90, .aload_n 0, 1, [0], vN), (91, .getfield 45, 3, [4, 9], vN), (94, .aload_n 1, 1, [1], vN), (95, .getfield 45, 3, [4, 9], vN), (98, .invokevirtual 54, 3, [0, 5], vN), (101, .aload_n 0, 1, [0], vN), (102, .getfield 48, 3, [4, 10], vN), (105, .aload_n 1, 1, [1], vN), (106, .getfield 48, 3, [4, 10], vN), (109, .invokevirtual 54, 3, [0, 5], vN), (112, .aload_n 0, 1, [0], vN), (113, .getfield 51, 3, [4, 11], vN), (116, .aload_n 1, 1, [1], vN), (117, .getfield 51, 3, [4, 11], vN), (120, .invokevirtual 54, 3, [0, 5], vN), (123, .return_, 1, [], vN)]
def hX4_copyFrom : List (Nat × List Bool) := []
def eX4_copyFrom : xE := (4, mX4_copyFrom, tX4_copyFrom, hX4_copyFrom, ceX4)
theorem okX4_copyFrom : xEok eX4_copyFrom := ⟨by decide +kernel, by decide +kernel, by decide +kernel, ceX4_ok, rfl, by decide +kernel⟩
def tX4_hasLine : List xT := [(0, .iload_n 1, 1, [1], vN), (1, .ifCond .lt 15, 3, [8], vN), (4, .iload_n 1, 1, [1], vN), (5, .aload_n 0, 1, [0], vN), (6, .getfield 9, 3, [4, 0], vN), (9, .if_icmp .ge 7, 3, [8], vN), (12, .iconst 1, 1, [], vI 1), (13, .goto 4, 3, [9], vN), (16, .iconst 0, 1, [], vI 0), (17, .ireturn, 1, [], vN)]
def hX4_hasLine : List (Nat × List Bool) := []
def eX4_hasLine : xE := (4, mX4_hasLine, tX4_hasLine, hX4_hasLine, ceX4)
theorem okX4_hasLine : xEok eX4_hasLine := ⟨by decide +kernel, by decide +kernel, by decide +kernel, ceX4_ok, rfl, by decide +kernel⟩
def tX4_hasBox : List xT := [(0, .iload_n 1, 1, [1], vN), (1, .ifCond .lt 15, 3, [8], vN), (4, .iload_n 1, 1, [1], vN), (5, .aload_n 0, 1, [0], vN), (6, .getfield 15, 3, [4, 1], vN), (9, .if_icmp .ge 7, 3, [8], vN), (12, .iconst 1, 1, [], vI 1), (13, .goto 4, 3, [9], vN), (16, .iconst 0, 1, [], vI 0), (17, .ireturn, 1, [], vN)]
def hX4_hasBox : List (Nat × List Bool) := []
def eX4_hasBox : xE := (4, mX4_hasBox, tX4_hasBox, hX4_hasBox, ceX4)
theorem okX4_hasBox : xEok eX4_hasBox := ⟨by decide +kernel, by decide +kernel, by decide +kernel, ceX4_ok, rfl, by decide +kernel⟩
def tX4_isFull : List xT := [(0, .aload_n 0, 1, [0], vN), (1, .getfield 9, 3, [4, 0], vN), (4, .bipush 48, 2, [], vI 48), (6, .if_icmp .lt 7, 3, [6], vN), (9, .iconst 1, 1, [], vI 1), (10, .goto 4, 3, [7], vN), (13, .iconst 0, 1, [], vI 0), (14, .ireturn, 1, [], vN)]
def hX4_isFull : List (Nat × List Bool) := []
def eX4_isFull : xE := (4, mX4_isFull, tX4_isFull, hX4_isFull, ceX4)
theorem okX4_isFull : xEok eX4_isFull := ⟨by decide +kernel, by decide +kernel, by decide +kernel, ceX4_ok, rfl, by decide +kernel⟩
def tX4_addLine : List xT := [(0, .aload_n 0, 1, [0], vN), (1, .getfield 9, 3, [4, 0], vN), (4, .istore 6, 2, [6], vN), (6, .aload_n 0, 1, [0], vN), (7, .getfield 26, 3, [4, 3], vN), (10, .iload 6, 2, [6], vN), (12, .iload_n 2, 1, [2], vN), (13, .invokevirtual 58, 3, [1, 5], vN), (16, .aload_n 0, 1, [0], vN), (17, .getfield 30, 3, [4, 4], vN), (20, .iload 6, 2, [6], vN), (22, .iload_n 1, 1, [1], vN), (23, .invokevirtual 58, 3, [1, 5], vN), (26, .aload_n 0, 1, [0], vN), (27, .getfield 33, 3, [4, 5], vN), (30, .iload 6, 2, [6], vN), (32, .aload_n 0, 1, [0], vN), (33, .getfield 18, 3, [4, 2], vN), (36, .invokevirtual 58, 3, [1, 5], vN), (39, .aload_n 0, 1, [0], vN), (40, .getfield 36, 3, [4, 6], vN), (43, .iload 6, 2, [6], vN), (45, .iload_n 3, 1, [3], vN), (46, .invokevirtual 58, 3, [1, 5], vN), (49, .aload_n 0, 1, [0], vN), (50, .getfield 39, 3, [4, 7], vN), (53, .iload 6, 2, [6], vN), (55, .iload 4, 2, [4], vN), (57, .invokevirtual 58, 3, [1, 5], vN), (60, .aload_n 0, 1, [0], vN), (61, .getfield 42, 3, [4, 8], vN), (64, .iload 6, 2, [6], vN), (66, .iload 5, 2, [5], vN), (68, .invokevirtual 58, 3, [1, 5], vN), (71, .aload_n 0, 1, [0], vN), (72, .dup, 1, [], vN), (73, .getfield 9, 3, [4, 0], vN), (76, .iconst 1, 1, [], vI 1), (77, .iadd, 1, [], vN), (78, .putfield 9, 3, [4, 0], vN), (81, .iload 6, 2, [6], vN), (83, .ireturn, 1, [], vN)]
def hX4_addLine : List (Nat × List Bool) := []
def eX4_addLine : xE := (4, mX4_addLine, tX4_addLine, hX4_addLine, ceX4)
theorem okX4_addLine : xEok eX4_addLine := ⟨by decide +kernel, by decide +kernel, by decide +kernel, ceX4_ok, rfl, by decide +kernel⟩
def tX4_openBox : List xT := [(0, .aload_n 0, 1, [0], vN), (1, .getfield 15, 3, [4, 1], vN), (4, .istore_n 2, 1, [2], vN), (5, .aload_n 0, 1, [0], vN), (6, .getfield 45, 3, [4, 9], vN), (9, .iload_n 2, 1, [2], vN), (10, .aload_n 0, 1, [0], vN), (11, .getfield 9, 3, [4, 0], vN), (14, .invokevirtual 58, 3, [1, 5], vN), (17, .aload_n 0, 1, [0], vN), (18, .getfield 48, 3, [4, 10], vN), (21, .iload_n 2, 1, [2], vN), (22, .bipush (-6), 2, [], vI (-6)), (24, .invokevirtual 58, 3, [1, 5], vN), (27, .aload_n 0, 1, [0], vN), (28, .getfield 51, 3, [4, 11], vN), (31, .iload_n 2, 1, [2], vN), (32, .aload_n 0, 1, [0], vN), (33, .getfield 18, 3, [4, 2], vN), (36, .invokevirtual 58, 3, [1, 5], vN), (39, .aload_n 0, 1, [0], vN), (40, .dup, 1, [], vN), (41, .getfield 15, 3, [4, 1], vN), (44, .iconst 1, 1, [], vI 1), (45, .iadd, 1, [], vN), (46, .putfield 15, 3, [4, 1], vN), (49, .aload_n 0, 1, [0], vN), (50, .iload_n 2, 1, [2], vN), (51, .putfield 18, 3, [4, 2], vN), (54, .aload_n 0, 1, [0], vN), (55, .iconst 1, 1, [], vI 1), (56, .iload_n 1, 1, [1], vN), (57, .bipush (-6), 2, [], vI (-6)), (59, .bipush (-6), 2, [], vI (-6)), (61, .bipush (-6), 2, [], vI (-6)), (63, .invokevirtual 62, 3, [2, 4], vN), (66, .ireturn, 1, [], vN)]
def hX4_openBox : List (Nat × List Bool) := []
def eX4_openBox : xE := (4, mX4_openBox, tX4_openBox, hX4_openBox, ceX4)
theorem okX4_openBox : xEok eX4_openBox := ⟨by decide +kernel, by decide +kernel, by decide +kernel, ceX4_ok, rfl, by decide +kernel⟩
def tX4_canCloseBox : List xT := [(0, .aload_n 0, 1, [0], vN), (1, .getfield 18, 3, [4, 2], vN), (4, .bipush (-6), 2, [], vI (-6)), (6, .if_icmp .eq 27, 3, [16], vN), (9, .aload_n 0, 1, [0], vN), (10, .getfield 33, 3, [4, 5], vN), (13, .aload_n 0, 1, [0], vN), (14, .getfield 9, 3, [4, 0], vN), (17, .iconst 1, 1, [], vI 1), (18, .isub, 1, [], vN), (19, .invokevirtual 66, 3, [3, 5], vN), (22, .aload_n 0, 1, [0], vN), (23, .getfield 18, 3, [4, 2], vN), (26, .if_icmp .ne 7, 3, [16], vN), (29, .iconst 1, 1, [], vI 1), (30, .goto 4, 3, [17], vN), (33, .iconst 0, 1, [], vI 0), (34, .ireturn, 1, [], vN)]
def hX4_canCloseBox : List (Nat × List Bool) := []
def eX4_canCloseBox : xE := (4, mX4_canCloseBox, tX4_canCloseBox, hX4_canCloseBox, ceX4)
theorem okX4_canCloseBox : xEok eX4_canCloseBox := ⟨by decide +kernel, by decide +kernel, by decide +kernel, ceX4_ok, rfl, by decide +kernel⟩
def tX4_closeBox : List xT := [(0, .aload_n 0, 1, [0], vN), (1, .getfield 18, 3, [4, 2], vN), (4, .istore_n 1, 1, [1], vN), (5, .aload_n 0, 1, [0], vN), (6, .getfield 48, 3, [4, 10], vN), (9, .iload_n 1, 1, [1], vN), (10, .aload_n 0, 1, [0], vN), (11, .getfield 9, 3, [4, 0], vN), (14, .iconst 1, 1, [], vI 1), (15, .isub, 1, [], vN), (16, .invokevirtual 58, 3, [1, 5], vN), (19, .aload_n 0, 1, [0], vN), (20, .aload_n 0, 1, [0], vN), (21, .getfield 51, 3, [4, 11], vN), (24, .iload_n 1, 1, [1], vN), (25, .invokevirtual 66, 3, [3, 5], vN), (28, .putfield 18, 3, [4, 2], vN), (31, .iload_n 1, 1, [1], vN), (32, .ireturn, 1, [], vN)]
def hX4_closeBox : List (Nat × List Bool) := []
def eX4_closeBox : xE := (4, mX4_closeBox, tX4_closeBox, hX4_closeBox, ceX4)
theorem okX4_closeBox : xEok eX4_closeBox := ⟨by decide +kernel, by decide +kernel, by decide +kernel, ceX4_ok, rfl, by decide +kernel⟩
def tX4_isNoneOrOpen : List xT := [(0, .aload_n 0, 1, [0], vN), (1, .iload_n 1, 1, [1], vN), (2, .invokevirtual 70, 3, [4, 4], vN), (5, .ifCond .eq 16, 3, [10], vN), (8, .aload_n 0, 1, [0], vN), (9, .getfield 48, 3, [4, 10], vN), (12, .iload_n 1, 1, [1], vN), (13, .invokevirtual 66, 3, [3, 5], vN), (16, .bipush (-6), 2, [], vI (-6)), (18, .if_icmp .ne 7, 3, [12], vN), (21, .iconst 1, 1, [], vI 1), (22, .goto 4, 3, [13], vN), (25, .iconst 0, 1, [], vI 0), (26, .ireturn, 1, [], vN)]
def hX4_isNoneOrOpen : List (Nat × List Bool) := []
def eX4_isNoneOrOpen : xE := (4, mX4_isNoneOrOpen, tX4_isNoneOrOpen, hX4_isNoneOrOpen, ceX4)
theorem okX4_isNoneOrOpen : xEok eX4_isNoneOrOpen := ⟨by decide +kernel, by decide +kernel, by decide +kernel, ceX4_ok, rfl, by decide +kernel⟩
def tX4_isLineAvailable : List xT := [(0, .aload_n 0, 1, [0], vN), (1, .aload_n 0, 1, [0], vN), (2, .getfield 33, 3, [4, 5], vN), (5, .iload_n 1, 1, [1], vN), (6, .invokevirtual 66, 3, [3, 5], vN), (9, .invokevirtual 74, 3, [5, 4], vN), (12, .ireturn, 1, [], vN)]
def hX4_isLineAvailable : List (Nat × List Bool) := []
def eX4_isLineAvailable : xE := (4, mX4_isLineAvailable, tX4_isLineAvailable, hX4_isLineAvailable, ceX4)
theorem okX4_isLineAvailable : xEok eX4_isLineAvailable := ⟨by decide +kernel, by decide +kernel, by decide +kernel, ceX4_ok, rfl, by decide +kernel⟩
def tX4_isBoxAvailable : List xT := [(0, .aload_n 0, 1, [0], vN), (1, .getfield 48, 3, [4, 10], vN), (4, .iload_n 1, 1, [1], vN), (5, .invokevirtual 66, 3, [3, 5], vN), (8, .bipush (-6), 2, [], vI (-6)), (10, .if_icmp .eq 22, 3, [15], vN), (13, .aload_n 0, 1, [0], vN), (14, .aload_n 0, 1, [0], vN), (15, .getfield 51, 3, [4, 11], vN), (18, .iload_n 1, 1, [1], vN), (19, .invokevirtual 66, 3, [3, 5], vN), (22, .invokevirtual 74, 3, [5, 4], vN), (25, .ifCond .eq 7, 3, [15], vN), (28, .iconst 1, 1, [], vI 1), (29, .goto 4, 3, [16], vN), (32, .iconst 0, 1, [], vI 0), (33, .ireturn, 1, [], vN)]
def hX4_isBoxAvailable : List (Nat × List Bool) := []
def eX4_isBoxAvailable : xE := (4, mX4_isBoxAvailable, tX4_isBoxAvailable, hX4_isBoxAvailable, ceX4)
theorem okX4_isBoxAvailable : xEok eX4_isBoxAvailable := ⟨by decide +kernel, by decide +kernel, by decide +kernel, ceX4_ok, rfl, by decide +kernel⟩
def tX4_assumptionOf : List xT := [(0, .aload_n 0, 1, [0], vN), (1, .getfield 26, 3, [4, 3], vN), (4, .aload_n 0, 1, [0], vN), (5, .getfield 45, 3, [4, 9], vN), (8, .iload_n 1, 1, [1], vN), (9, .invokevirtual 66, 3, [3, 5], vN), (12, .invokevirtual 66, 3, [3, 5], vN), (15, .ireturn, 1, [], vN)]
def hX4_assumptionOf : List (Nat × List Bool) := []
def eX4_assumptionOf : xE := (4, mX4_assumptionOf, tX4_assumptionOf, hX4_assumptionOf, ceX4)
theorem okX4_assumptionOf : xEok eX4_assumptionOf := ⟨by decide +kernel, by decide +kernel, by decide +kernel, ceX4_ok, rfl, by decide +kernel⟩
def tX4_conclusionOf : List xT := [(0, .aload_n 0, 1, [0], vN), (1, .getfield 26, 3, [4, 3], vN), (4, .aload_n 0, 1, [0], vN), (5, .getfield 48, 3, [4, 10], vN), (8, .iload_n 1, 1, [1], vN), (9, .invokevirtual 66, 3, [3, 5], vN), (12, .invokevirtual 66, 3, [3, 5], vN), (15, .ireturn, 1, [], vN)]
def hX4_conclusionOf : List (Nat × List Bool) := []
def eX4_conclusionOf : xE := (4, mX4_conclusionOf, tX4_conclusionOf, hX4_conclusionOf, ceX4)
theorem okX4_conclusionOf : xEok eX4_conclusionOf := ⟨by decide +kernel, by decide +kernel, by decide +kernel, ceX4_ok, rfl, by decide +kernel⟩
def tX4_nesting : List xT := [(0, .iload_n 1, 1, [1], vN), (1, .istore_n 2, 1, [2], vN), (2, .iconst 0, 1, [], vI 0), (3, .istore_n 3, 1, [3], vN), (4, .aload_n 0, 1, [0], vN), (5, .iload_n 2, 1, [2], vN), (6, .invokevirtual 70, 3, [4, 4], vN), (9, .ifCond .eq 23, 3, [18], vN), (12, .iload_n 3, 1, [3], vN), (13, .iconst 5, 1, [], vI 5), (14, .if_icmp .ge 18, 3, [18], vN), (17, .aload_n 0, 1, [0], vN), (18, .getfield 51, 3, [4, 11], vN), (21, .iload_n 2, 1, [2], vN), (22, .invokevirtual 66, 3, [3, 5], vN), (25, .istore_n 2, 1, [2], vN), (26, .iinc 3 1, 3, [3], vI 1), (29, .goto (-25), 3, [4], vN), (32, .iload_n 3, 1, [3], vN), (33, .ireturn, 1, [], vN)]
def hX4_nesting : List (Nat × List Bool) := [(4, [true, false, true, true])]
def eX4_nesting : xE := (4, mX4_nesting, tX4_nesting, hX4_nesting, ceX4)
theorem okX4_nesting : xEok eX4_nesting := ⟨by decide +kernel, by decide +kernel, by decide +kernel, ceX4_ok, rfl, by decide +kernel⟩
def tX4_referenceAt : List xT := [(0, .iload_n 2, 1, [2], vN), (1, .tableswitch 54 0 2 #[27, 36, 45], 27, [17, 2, 7, 12], vN), (28, .aload_n 0, 1, [0], vN), (29, .getfield 36, 3, [4, 6], vN), (32, .iload_n 1, 1, [1], vN), (33, .invokevirtual 66, 3, [3, 5], vN), (36, .ireturn, 1, [], vN), (37, .aload_n 0, 1, [0], vN), (38, .getfield 39, 3, [4, 7], vN), (41, .iload_n 1, 1, [1], vN), (42, .invokevirtual 66, 3, [3, 5], vN), (45, .ireturn, 1, [], vN), (46, .aload_n 0, 1, [0], vN), (47, .getfield 42, 3, [4, 8], vN), (50, .iload_n 1, 1, [1], vN), (51, .invokevirtual 66, 3, [3, 5], vN), (54, .ireturn, 1, [], vN), (55, .bipush (-6), 2, [], vI (-6)), (57, .ireturn, 1, [], vN)]
def hX4_referenceAt : List (Nat × List Bool) := []
def eX4_referenceAt : xE := (4, mX4_referenceAt, tX4_referenceAt, hX4_referenceAt, ceX4)
theorem okX4_referenceAt : xEok eX4_referenceAt := ⟨by decide +kernel, by decide +kernel, by decide +kernel, ceX4_ok, rfl, by decide +kernel⟩
def tX4_countLineReferences : List xT := [(0, .aload_n 0, 1, [0], vN), (1, .getfield 30, 3, [4, 4], vN), (4, .iload_n 1, 1, [1], vN), (5, .invokevirtual 66, 3, [3, 5], vN), (8, .tableswitch 68 2 13 #[66, 64, 66, 66, 66, 66, 68, 64, 68, 64, 66, 66], 64, [9, 7, 5, 7, 7, 7, 7, 9, 5, 9, 5, 7, 7], vN), (72, .iconst 2, 1, [], vI 2), (73, .ireturn, 1, [], vN), (74, .iconst 1, 1, [], vI 1), (75, .ireturn, 1, [], vN), (76, .iconst 0, 1, [], vI 0), (77, .ireturn, 1, [], vN)]
def hX4_countLineReferences : List (Nat × List Bool) := []
def eX4_countLineReferences : xE := (4, mX4_countLineReferences, tX4_countLineReferences, hX4_countLineReferences, ceX4)
theorem okX4_countLineReferences : xEok eX4_countLineReferences := ⟨by decide +kernel, by decide +kernel, by decide +kernel, ceX4_ok, rfl, by decide +kernel⟩
def tX4_bit : List xT := [(0, .iload_n 0, 1, [0], vN), (1, .ifCond .ge 7, 3, [4], vN), (4, .lconst 0, 1, [], vL 0), (5, .goto 6, 3, [7], vN), (8, .lconst 1, 1, [], vL 1), (9, .iload_n 0, 1, [0], vN), (10, .lshl, 1, [], vN), (11, .lreturn, 1, [], vN)]
def hX4_bit : List (Nat × List Bool) := []
def eX4_bit : xE := (4, mX4_bit, tX4_bit, hX4_bit, ceX4)
theorem okX4_bit : xEok eX4_bit := ⟨by decide +kernel, by decide +kernel, by decide +kernel, ceX4_ok, rfl, by decide +kernel⟩
def tX4_contains : List xT := [(0, .lload_n 0, 1, [0], vN), (1, .iload_n 2, 1, [2], vN), (2, .invokestatic 77, 3, [0, 0], vN), (5, .land, 1, [], vN), (6, .lconst 0, 1, [], vL 0), (7, .lcmp, 1, [], vN), (8, .ifCond .eq 7, 3, [9], vN), (11, .iconst 1, 1, [], vI 1), (12, .goto 4, 3, [10], vN), (15, .iconst 0, 1, [], vI 0), (16, .ireturn, 1, [], vN)]
def hX4_contains : List (Nat × List Bool) := []
def eX4_contains : xE := (4, mX4_contains, tX4_contains, hX4_contains, ceX4)
theorem okX4_contains : xEok eX4_contains := ⟨by decide +kernel, by decide +kernel, by decide +kernel, ceX4_ok, rfl, by decide +kernel⟩
def tX4_directNeeds : List xT := [(0, .aload_n 0, 1, [0], vN), (1, .iload_n 1, 1, [1], vN), (2, .invokevirtual 81, 3, [6, 4], vN), (5, .istore_n 2, 1, [2], vN), (6, .lconst 0, 1, [], vL 0), (7, .lstore_n 3, 1, [3], vN), (8, .iconst 0, 1, [], vI 0), (9, .istore 5, 2, [5], vN), (11, .iload 5, 2, [5], vN), (13, .iconst 3, 1, [], vI 3), (14, .if_icmp .ge 63, 3, [41], vN), (17, .aload_n 0, 1, [0], vN), (18, .iload_n 1, 1, [1], vN), (19, .iload 5, 2, [5], vN), (21, .invokevirtual 84, 3, [7, 4], vN), (24, .istore 6, 2, [6], vN), (26, .iload 5, 2, [5], vN), (28, .iload_n 2, 1, [2], vN), (29, .if_icmp .ge 14, 3, [25], vN), (32, .lload_n 3, 1, [3], vN), (33, .iload 6, 2, [6], vN), (35, .invokestatic 77, 3, [0, 0], vN), (38, .lor, 1, [], vN), (39, .lstore_n 3, 1, [3], vN), (40, .goto 31, 3, [39], vN), (43, .lload_n 3, 1, [3], vN), (44, .aload_n 0, 1, [0], vN), (45, .getfield 45, 3, [4, 9], vN), (48, .iload 6, 2, [6], vN), (50, .invokevirtual 66, 3, [3, 5], vN), (53, .invokestatic 77, 3, [0, 0], vN), (56, .aload_n 0, 1, [0], vN), (57, .getfield 48, 3, [4, 10], vN), (60, .iload 6, 2, [6], vN), (62, .invokevirtual 66, 3, [3, 5], vN), (65, .invokestatic 77, 3, [0, 0], vN), (68, .lor, 1, [], vN), (69, .lor, 1, [], vN), (70, .lstore_n 3, 1, [3], vN), (71, .iinc 5 1, 3, [5], vI 1), (74, .goto (-63), 3, [8], vN), (77, .lload_n 3, 1, [3], vN), (78, .lreturn, 1, [], vN)]
def hX4_directNeeds : List (Nat × List Bool) := [(11, [true, true, true, true, false, true, false])]
def eX4_directNeeds : xE := (4, mX4_directNeeds, tX4_directNeeds, hX4_directNeeds, ceX4)
theorem okX4_directNeeds : xEok eX4_directNeeds := ⟨by decide +kernel, by decide +kernel, by decide +kernel, ceX4_ok, rfl, by decide +kernel⟩
def tX4_countUsers : List xT := [(0, .iconst 0, 1, [], vI 0), (1, .istore_n 2, 1, [2], vN), (2, .iconst 0, 1, [], vI 0), (3, .istore_n 3, 1, [3], vN), (4, .iload_n 3, 1, [3], vN), (5, .aload_n 0, 1, [0], vN), (6, .getfield 9, 3, [4, 0], vN), (9, .if_icmp .ge 24, 3, [17], vN), (12, .aload_n 0, 1, [0], vN), (13, .iload_n 3, 1, [3], vN), (14, .invokevirtual 88, 3, [8, 4], vN), (17, .iload_n 1, 1, [1], vN), (18, .invokestatic 91, 3, [1, 0], vN), (21, .ifCond .eq 6, 3, [15], vN), (24, .iinc 2 1, 3, [2], vI 1), (27, .iinc 3 1, 3, [3], vI 1), (30, .goto (-26), 3, [4], vN), (33, .iload_n 2, 1, [2], vN), (34, .ireturn, 1, [], vN)]
def hX4_countUsers : List (Nat × List Bool) := [(4, [true, true, true, true])]
def eX4_countUsers : xE := (4, mX4_countUsers, tX4_countUsers, hX4_countUsers, ceX4)
theorem okX4_countUsers : xEok eX4_countUsers := ⟨by decide +kernel, by decide +kernel, by decide +kernel, ceX4_ok, rfl, by decide +kernel⟩
def tX4_assumptionsFrom : List xT := [(0, .lconst 0, 1, [], vL 0), (1, .lstore_n 2, 1, [2], vN), (2, .iload_n 1, 1, [1], vN), (3, .istore 4, 2, [4], vN), (5, .iconst 0, 1, [], vI 0), (6, .istore 5, 2, [5], vN), (8, .iload 5, 2, [5], vN), (10, .iconst 5, 1, [], vI 5), (11, .if_icmp .ge 35, 3, [24], vN), (14, .lload_n 2, 1, [2], vN), (15, .aload_n 0, 1, [0], vN), (16, .getfield 45, 3, [4, 9], vN), (19, .iload 4, 2, [4], vN), (21, .invokevirtual 66, 3, [3, 5], vN), (24, .invokestatic 77, 3, [0, 0], vN), (27, .lor, 1, [], vN), (28, .lstore_n 2, 1, [2], vN), (29, .aload_n 0, 1, [0], vN), (30, .getfield 51, 3, [4, 11], vN), (33, .iload 4, 2, [4], vN), (35, .invokevirtual 66, 3, [3, 5], vN), (38, .istore 4, 2, [4], vN), (40, .iinc 5 1, 3, [5], vI 1), (43, .goto (-35), 3, [6], vN), (46, .lload_n 2, 1, [2], vN), (47, .lreturn, 1, [], vN)]
def hX4_assumptionsFrom : List (Nat × List Bool) := [(8, [true, false, true, false, true, true])]
def eX4_assumptionsFrom : xE := (4, mX4_assumptionsFrom, tX4_assumptionsFrom, hX4_assumptionsFrom, ceX4)
theorem okX4_assumptionsFrom : xEok eX4_assumptionsFrom := ⟨by decide +kernel, by decide +kernel, by decide +kernel, ceX4_ok, rfl, by decide +kernel⟩
def tX4_allNeeds : List xT := [(0, .iload_n 1, 1, [1], vN), (1, .invokestatic 77, 3, [0, 0], vN), (4, .lstore_n 2, 1, [2], vN), (5, .iload_n 1, 1, [1], vN), (6, .istore 4, 2, [4], vN), (8, .iload 4, 2, [4], vN), (10, .ifCond .lt 41, 3, [26], vN), (13, .lload_n 2, 1, [2], vN), (14, .iload 4, 2, [4], vN), (16, .invokestatic 91, 3, [1, 0], vN), (19, .ifCond .eq 26, 3, [24], vN), (22, .lload_n 2, 1, [2], vN), (23, .aload_n 0, 1, [0], vN), (24, .iload 4, 2, [4], vN), (26, .invokevirtual 88, 3, [8, 4], vN), (29, .aload_n 0, 1, [0], vN), (30, .aload_n 0, 1, [0], vN), (31, .getfield 33, 3, [4, 5], vN), (34, .iload 4, 2, [4], vN), (36, .invokevirtual 66, 3, [3, 5], vN), (39, .invokevirtual 95, 3, [9, 4], vN), (42, .lor, 1, [], vN), (43, .lor, 1, [], vN), (44, .lstore_n 2, 1, [2], vN), (45, .iinc 4 (-1), 3, [4], vI (-1)), (48, .goto (-40), 3, [5], vN), (51, .lload_n 2, 1, [2], vN), (52, .lreturn, 1, [], vN)]
def hX4_allNeeds : List (Nat × List Bool) := [(8, [true, false, true, false, true])]
def eX4_allNeeds : xE := (4, mX4_allNeeds, tX4_allNeeds, hX4_allNeeds, ceX4)
theorem okX4_allNeeds : xEok eX4_allNeeds := ⟨by decide +kernel, by decide +kernel, by decide +kernel, ceX4_ok, rfl, by decide +kernel⟩
def tX4_bypassOf : List xT := [(0, .aload_n 0, 1, [0], vN), (1, .getfield 30, 3, [4, 4], vN), (4, .iload_n 1, 1, [1], vN), (5, .invokevirtual 66, 3, [3, 5], vN), (8, .istore_n 2, 1, [2], vN), (9, .aload_n 0, 1, [0], vN), (10, .getfield 36, 3, [4, 6], vN), (13, .iload_n 1, 1, [1], vN), (14, .invokevirtual 66, 3, [3, 5], vN), (17, .istore_n 3, 1, [3], vN), (18, .iload_n 2, 1, [2], vN), (19, .iconst 2, 1, [], vI 2), (20, .if_icmp .ne 5, 3, [15], vN), (23, .iload_n 3, 1, [3], vN), (24, .ireturn, 1, [], vN), (25, .iload_n 2, 1, [2], vN), (26, .iconst 4, 1, [], vI 4), (27, .if_icmp .ne 24, 3, [29], vN), (30, .aload_n 0, 1, [0], vN), (31, .getfield 30, 3, [4, 4], vN), (34, .iload_n 3, 1, [3], vN), (35, .invokevirtual 66, 3, [3, 5], vN), (38, .iconst 3, 1, [], vI 3), (39, .if_icmp .ne 12, 3, [29], vN), (42, .aload_n 0, 1, [0], vN), (43, .getfield 36, 3, [4, 6], vN), (46, .iload_n 3, 1, [3], vN), (47, .invokevirtual 66, 3, [3, 5], vN), (50, .ireturn, 1, [], vN), (51, .iload_n 2, 1, [2], vN), (52, .iconst 5, 1, [], vI 5), (53, .if_icmp .ne 24, 3, [43], vN), (56, .aload_n 0, 1, [0], vN), (57, .getfield 30, 3, [4, 4], vN), (60, .iload_n 3, 1, [3], vN), (61, .invokevirtual 66, 3, [3, 5], vN), (64, .iconst 3, 1, [], vI 3), (65, .if_icmp .ne 12, 3, [43], vN), (68, .aload_n 0, 1, [0], vN), (69, .getfield 39, 3, [4, 7], vN), (72, .iload_n 3, 1, [3], vN), (73, .invokevirtual 66, 3, [3, 5], vN), (76, .ireturn, 1, [], vN), (77, .bipush (-6), 2, [], vI (-6)), (79, .ireturn, 1, [], vN)]
def hX4_bypassOf : List (Nat × List Bool) := []
def eX4_bypassOf : xE := (4, mX4_bypassOf, tX4_bypassOf, hX4_bypassOf, ceX4)
theorem okX4_bypassOf : xEok eX4_bypassOf := ⟨by decide +kernel, by decide +kernel, by decide +kernel, ceX4_ok, rfl, by decide +kernel⟩
def tX4_countDetours : List xT := [(0, .iconst 0, 1, [], vI 0), (1, .istore_n 1, 1, [1], vN), (2, .iconst 0, 1, [], vI 0), (3, .istore_n 2, 1, [2], vN), (4, .iload_n 2, 1, [2], vN), (5, .aload_n 0, 1, [0], vN), (6, .getfield 9, 3, [4, 0], vN), (9, .if_icmp .ge 22, 3, [16], vN), (12, .aload_n 0, 1, [0], vN), (13, .iload_n 2, 1, [2], vN), (14, .invokevirtual 98, 3, [10, 4], vN), (17, .bipush (-6), 2, [], vI (-6)), (19, .if_icmp .eq 6, 3, [14], vN), (22, .iinc 1 1, 3, [1], vI 1), (25, .iinc 2 1, 3, [2], vI 1), (28, .goto (-24), 3, [4], vN), (31, .iload_n 1, 1, [1], vN), (32, .ireturn, 1, [], vN)]
def hX4_countDetours : List (Nat × List Bool) := [(4, [true, true, true])]
def eX4_countDetours : xE := (4, mX4_countDetours, tX4_countDetours, hX4_countDetours, ceX4)
theorem okX4_countDetours : xEok eX4_countDetours := ⟨by decide +kernel, by decide +kernel, by decide +kernel, ceX4_ok, rfl, by decide +kernel⟩
def tX4_bypassDetours : List xT := [(0, .iconst 0, 1, [], vI 0), (1, .istore_n 1, 1, [1], vN), (2, .iconst 0, 1, [], vI 0), (3, .istore_n 2, 1, [2], vN), (4, .iload_n 2, 1, [2], vN), (5, .aload_n 0, 1, [0], vN), (6, .getfield 9, 3, [4, 0], vN), (9, .if_icmp .ge 48, 3, [35], vN), (12, .aload_n 0, 1, [0], vN), (13, .iload_n 2, 1, [2], vN), (14, .invokevirtual 81, 3, [6, 4], vN), (17, .istore_n 3, 1, [3], vN), (18, .iload_n 3, 1, [3], vN), (19, .ifCond .le 15, 3, [22], vN), (22, .iload_n 1, 1, [1], vN), (23, .aload_n 0, 1, [0], vN), (24, .aload_n 0, 1, [0], vN), (25, .getfield 36, 3, [4, 6], vN), (28, .iload_n 2, 1, [2], vN), (29, .invokevirtual 101, 3, [11, 4], vN), (32, .iadd, 1, [], vN), (33, .istore_n 1, 1, [1], vN), (34, .iload_n 3, 1, [3], vN), (35, .iconst 1, 1, [], vI 1), (36, .if_icmp .le 15, 3, [33], vN), (39, .iload_n 1, 1, [1], vN), (40, .aload_n 0, 1, [0], vN), (41, .aload_n 0, 1, [0], vN), (42, .getfield 39, 3, [4, 7], vN), (45, .iload_n 2, 1, [2], vN), (46, .invokevirtual 101, 3, [11, 4], vN), (49, .iadd, 1, [], vN), (50, .istore_n 1, 1, [1], vN), (51, .iinc 2 1, 3, [2], vI 1), (54, .goto (-50), 3, [4], vN), (57, .iload_n 1, 1, [1], vN), (58, .ireturn, 1, [], vN)]
def hX4_bypassDetours : List (Nat × List Bool) := [(4, [true, true, true, false])]
def eX4_bypassDetours : xE := (4, mX4_bypassDetours, tX4_bypassDetours, hX4_bypassDetours, ceX4)
theorem okX4_bypassDetours : xEok eX4_bypassDetours := ⟨by decide +kernel, by decide +kernel, by decide +kernel, ceX4_ok, rfl, by decide +kernel⟩
def tX4_bypassIn : List xT := [(0, .aload_n 1, 1, [1], vN), (1, .iload_n 2, 1, [2], vN), (2, .invokevirtual 66, 3, [3, 5], vN), (5, .istore_n 3, 1, [3], vN), (6, .iload_n 3, 1, [3], vN), (7, .istore 4, 2, [4], vN), (9, .iconst 0, 1, [], vI 0), (10, .istore 5, 2, [5], vN), (12, .iload 5, 2, [5], vN), (14, .bipush 48, 2, [], vI 48), (16, .if_icmp .ge 28, 3, [22], vN), (19, .aload_n 0, 1, [0], vN), (20, .iload 4, 2, [4], vN), (22, .invokevirtual 98, 3, [10, 4], vN), (25, .bipush (-6), 2, [], vI (-6)), (27, .if_icmp .eq 17, 3, [22], vN), (30, .aload_n 0, 1, [0], vN), (31, .iload 4, 2, [4], vN), (33, .invokevirtual 98, 3, [10, 4], vN), (36, .istore 4, 2, [4], vN), (38, .iinc 5 1, 3, [5], vI 1), (41, .goto (-29), 3, [8], vN), (44, .aload_n 1, 1, [1], vN), (45, .iload_n 2, 1, [2], vN), (46, .iload 4, 2, [4], vN), (48, .invokevirtual 58, 3, [1, 5], vN), (51, .iload 4, 2, [4], vN), (53, .iload_n 3, 1, [3], vN), (54, .if_icmp .ne 7, 3, [31], vN), (57, .iconst 0, 1, [], vI 0), (58, .goto 4, 3, [32], vN), (61, .iconst 1, 1, [], vI 1), (62, .ireturn, 1, [], vN)]
def hX4_bypassIn : List (Nat × List Bool) := [(12, [true, true, true, true, true, true])]
def eX4_bypassIn : xE := (4, mX4_bypassIn, tX4_bypassIn, hX4_bypassIn, ceX4)
theorem okX4_bypassIn : xEok eX4_bypassIn := ⟨by decide +kernel, by decide +kernel, by decide +kernel, ceX4_ok, rfl, by decide +kernel⟩
def tX4_allowedValuations : List xT := [(0, .aload_n 0, 1, [0], vN), (1, .iload_n 1, 1, [1], vN), (2, .invokevirtual 95, 3, [9, 4], vN), (5, .lstore_n 3, 1, [3], vN), (6, .iconst (-1), 1, [], vI (-1)), (7, .istore 5, 2, [5], vN), (9, .iconst 0, 1, [], vI 0), (10, .istore 6, 2, [6], vN), (12, .iload 6, 2, [6], vN), (14, .aload_n 0, 1, [0], vN), (15, .getfield 9, 3, [4, 0], vN), (18, .if_icmp .ge 48, 3, [32], vN), (21, .aload_n 0, 1, [0], vN), (22, .getfield 30, 3, [4, 4], vN), (25, .iload 6, 2, [6], vN), (27, .invokevirtual 66, 3, [3, 5], vN), (30, .ifCond .eq 12, 3, [21], vN), (33, .lload_n 3, 1, [3], vN), (34, .iload 6, 2, [6], vN), (36, .invokestatic 91, 3, [1, 0], vN), (39, .ifCond .eq 21, 3, [30], vN), (42, .iload 5, 2, [5], vN), (44, .aload_n 2, 1, [2], vN), (45, .aload_n 0, 1, [0], vN), (46, .getfield 26, 3, [4, 3], vN), (49, .iload 6, 2, [6], vN), (51, .invokevirtual 66, 3, [3, 5], vN), (54, .invokevirtual 66, 3, [3, 5], vN), (57, .iand, 1, [], vN), (58, .istore 5, 2, [5], vN), (60, .iinc 6 1, 3, [6], vI 1), (63, .goto (-51), 3, [8], vN), (66, .iload 5, 2, [5], vN), (68, .ireturn, 1, [], vN)]
def hX4_allowedValuations : List (Nat × List Bool) := [(12, [true, false, true, true, false, true, true])]
def eX4_allowedValuations : xE := (4, mX4_allowedValuations, tX4_allowedValuations, hX4_allowedValuations, ceX4)
theorem okX4_allowedValuations : xEok eX4_allowedValuations := ⟨by decide +kernel, by decide +kernel, by decide +kernel, ceX4_ok, rfl, by decide +kernel⟩
def tX4_keepOnly : List xT := [(0, .aload_n 0, 1, [0], vN), (1, .getfield 9, 3, [4, 0], vN), (4, .istore_n 3, 1, [3], vN), (5, .aload_n 0, 1, [0], vN), (6, .lload_n 1, 1, [1], vN), (7, .invokevirtual 105, 3, [12, 4], vN), (10, .lstore 4, 2, [4], vN), (12, .iconst 0, 1, [], vI 0), (13, .istore 6, 2, [6], vN), (15, .iconst 0, 1, [], vI 0), (16, .istore 7, 2, [7], vN), (18, .iload 7, 2, [7], vN), (20, .iload_n 3, 1, [3], vN), (21, .if_icmp .ge 32, 3, [27], vN), (24, .lload_n 1, 1, [1], vN), (25, .iload 7, 2, [7], vN), (27, .invokestatic 91, 3, [1, 0], vN), (30, .ifCond .eq 17, 3, [25], vN), (33, .aload_n 0, 1, [0], vN), (34, .iload 7, 2, [7], vN), (36, .iload 6, 2, [6], vN), (38, .lload_n 1, 1, [1], vN), (39, .lload 4, 2, [4], vN), (41, .invokevirtual 109, 3, [13, 4], vN), (44, .iinc 6 1, 3, [6], vI 1), (47, .iinc 7 1, 3, [7], vI 1), (50, .goto (-32), 3, [11], vN), (53, .aload_n 0, 1, [0], vN), (54, .iload 6, 2, [6], vN), (56, .putfield 9, 3, [4, 0], vN), (59, .aload_n 0, 1, [0], vN), (60, .invokevirtual 113, 3, [14, 4], vN), (63, .iload_n 3, 1, [3], vN), (64, .aload_n 0, 1, [0], vN), (65, .getfield 9, 3, [4, 0], vN), (68, .isub, 1, [], vN), (69, .ireturn, 1, [], vN)]
def hX4_keepOnly : List (Nat × List Bool) := [(18, [true, true, false, true, true, false, true, true])]
def eX4_keepOnly : xE := (4, mX4_keepOnly, tX4_keepOnly, hX4_keepOnly, ceX4)
theorem okX4_keepOnly : xEok eX4_keepOnly := ⟨by decide +kernel, by decide +kernel, by decide +kernel, ceX4_ok, rfl, by decide +kernel⟩
def tX4_renumbered : List xT := [(0, .iload_n 0, 1, [0], vN), (1, .ifCond .ge 8, 3, [4], vN), (4, .bipush (-6), 2, [], vI (-6)), (6, .goto 14, 3, [11], vN), (9, .lload_n 1, 1, [1], vN), (10, .iload_n 0, 1, [0], vN), (11, .invokestatic 77, 3, [0, 0], vN), (14, .lconst 1, 1, [], vL 1), (15, .lsub, 1, [], vN), (16, .land, 1, [], vN), (17, .invokestatic 116, 3, [2, 0], vN), (20, .ireturn, 1, [], vN)]
def hX4_renumbered : List (Nat × List Bool) := []
def eX4_renumbered : xE := (4, mX4_renumbered, tX4_renumbered, hX4_renumbered, ceX4)
theorem okX4_renumbered : xEok eX4_renumbered := ⟨by decide +kernel, by decide +kernel, by decide +kernel, ceX4_ok, rfl, by decide +kernel⟩
def tX4_moveLine : List xT := [(0, .aload_n 0, 1, [0], vN), (1, .iload_n 1, 1, [1], vN), (2, .invokevirtual 81, 3, [6, 4], vN), (5, .istore 7, 2, [7], vN), (7, .aload_n 0, 1, [0], vN), (8, .getfield 26, 3, [4, 3], vN), (11, .iload_n 2, 1, [2], vN), (12, .aload_n 0, 1, [0], vN), (13, .getfield 26, 3, [4, 3], vN), (16, .iload_n 1, 1, [1], vN), (17, .invokevirtual 66, 3, [3, 5], vN), (20, .invokevirtual 58, 3, [1, 5], vN), (23, .aload_n 0, 1, [0], vN), (24, .getfield 36, 3, [4, 6], vN), (27, .iload_n 2, 1, [2], vN), (28, .aload_n 0, 1, [0], vN), (29, .getfield 36, 3, [4, 6], vN), (32, .iload_n 1, 1, [1], vN), (33, .invokevirtual 66, 3, [3, 5], vN), (36, .iload 7, 2, [7], vN), (38, .ifCond .le 7, 3, [23], vN), (41, .lload_n 3, 1, [3], vN), (42, .goto 5, 3, [24], vN), (45, .lload 5, 2, [5], vN), (47, .invokestatic 122, 3, [3, 0], vN), (50, .invokevirtual 58, 3, [1, 5], vN), (53, .aload_n 0, 1, [0], vN), (54, .getfield 39, 3, [4, 7], vN), (57, .iload_n 2, 1, [2], vN), (58, .aload_n 0, 1, [0], vN), (59, .getfield 39, 3, [4, 7], vN), (62, .iload_n 1, 1, [1], vN), (63, .invokevirtual 66, 3, [3, 5], vN), (66, .iload 7, 2, [7], vN), (68, .iconst 1, 1, [], vI 1), (69, .if_icmp .le 7, 3, [38], vN), (72, .lload_n 3, 1, [3], vN), (73, .goto 5, 3, [39], vN), (76, .lload 5, 2, [5], vN), (78, .invokestatic 122, 3, [3, 0], vN), (81, .invokevirtual 58, 3, [1, 5], vN), (84, .aload_n 0, 1, [0], vN), (85, .getfield 42, 3, [4, 8], vN), (88, .iload_n 2, 1, [2], vN), (89, .aload_n 0, 1, [0], vN), (90, .getfield 42, 3, [4, 8], vN), (93, .iload_n 1, 1, [1], vN), (94, .invokevirtual 66, 3, [3, 5], vN), (97, .lload 5, 2, [5], vN), (99, .invokestatic 122, 3, [3, 0], vN), (102, .invokevirtual 58, 3, [1, 5], vN), (105, .aload_n 0, 1, [0], vN), (106, .getfield 33, 3, [4, 5], vN), (109, .iload_n 2, 1, [2], vN), (110, .aload_n 0, 1, [0], vN), (111, .getfield 33, 3, [4, 5], vN), (114, .iload_n 1, 1, [1], vN), (115, .invokevirtual 66, 3, [3, 5], vN), (118, .lload 5, 2, [5], vN), (120, .invokestatic 122, 3, [3, 0], vN), (123, .invokevirtual 58, 3, [1, 5], vN), (126, .aload_n 0, 1, [0], vN), (127, .getfield 30, 3, [4, 4], vN), (130, .iload_n 2, 1, [2], vN), (131, .aload_n 0, 1, [0], vN), (132, .getfield 30, 3, [4, 4], vN), (135, .iload_n 1, 1, [1], vN), (136, .invokevirtual 66, 3, [3, 5], vN), (139, .invokevirtual 58, 3, [1, 5], vN), (142, .return_, 1, [], vN)]
def hX4_moveLine : List (Nat × List Bool) := []
def eX4_moveLine : xE := (4, mX4_moveLine, tX4_moveLine, hX4_moveLine, ceX4)
theorem okX4_moveLine : xEok eX4_moveLine := ⟨by decide +kernel, by decide +kernel, by decide +kernel, ceX4_ok, rfl, by decide +kernel⟩
def tX4_keepBoxes : List xT := [(0, .lconst 0, 1, [], vL 0), (1, .lstore_n 3, 1, [3], vN), (2, .iconst 0, 1, [], vI 0), (3, .istore 5, 2, [5], vN), (5, .iconst 0, 1, [], vI 0), (6, .istore 6, 2, [6], vN), (8, .iload 6, 2, [6], vN), (10, .aload_n 0, 1, [0], vN), (11, .getfield 15, 3, [4, 1], vN), (14, .if_icmp .ge 80, 3, [45], vN), (17, .lload_n 1, 1, [1], vN), (18, .aload_n 0, 1, [0], vN), (19, .getfield 45, 3, [4, 9], vN), (22, .iload 6, 2, [6], vN), (24, .invokevirtual 66, 3, [3, 5], vN), (27, .invokestatic 91, 3, [1, 0], vN), (30, .ifCond .eq 58, 3, [43], vN), (33, .lload_n 3, 1, [3], vN), (34, .iload 6, 2, [6], vN), (36, .invokestatic 77, 3, [0, 0], vN), (39, .lor, 1, [], vN), (40, .lstore_n 3, 1, [3], vN), (41, .aload_n 0, 1, [0], vN), (42, .getfield 45, 3, [4, 9], vN), (45, .iload 5, 2, [5], vN), (47, .aload_n 0, 1, [0], vN), (48, .getfield 45, 3, [4, 9], vN), (51, .iload 6, 2, [6], vN), (53, .invokevirtual 66, 3, [3, 5], vN), (56, .lload_n 1, 1, [1], vN), (57, .invokestatic 122, 3, [3, 0], vN), (60, .invokevirtual 58, 3, [1, 5], vN), (63, .aload_n 0, 1, [0], vN), (64, .getfield 51, 3, [4, 11], vN), (67, .iload 5, 2, [5], vN), (69, .aload_n 0, 1, [0], vN), (70, .getfield 51, 3, [4, 11], vN), (73, .iload 6, 2, [6], vN), (75, .invokevirtual 66, 3, [3, 5], vN), (78, .lload_n 3, 1, [3], vN), (79, .invokestatic 122, 3, [3, 0], vN), (82, .invokevirtual 58, 3, [1, 5], vN), (85, .iinc 5 1, 3, [5], vI 1), (88, .iinc 6 1, 3, [6], vI 1), (91, .goto (-83), 3, [6], vN), (94, .aload_n 0, 1, [0], vN), (95, .iload 5, 2, [5], vN), (97, .putfield 15, 3, [4, 1], vN), (100, .lload_n 3, 1, [3], vN), (101, .lreturn, 1, [], vN)]
def hX4_keepBoxes : List (Nat × List Bool) := [(8, [true, true, false, true, false, true, true])]
def eX4_keepBoxes : xE := (4, mX4_keepBoxes, tX4_keepBoxes, hX4_keepBoxes, ceX4)
theorem okX4_keepBoxes : xEok eX4_keepBoxes := ⟨by decide +kernel, by decide +kernel, by decide +kernel, ceX4_ok, rfl, by decide +kernel⟩
def tX4_findEnds : List xT := [(0, .iconst 0, 1, [], vI 0), (1, .istore_n 1, 1, [1], vN), (2, .iload_n 1, 1, [1], vN), (3, .aload_n 0, 1, [0], vN), (4, .getfield 9, 3, [4, 0], vN), (7, .if_icmp .ge 57, 3, [34], vN), (10, .aload_n 0, 1, [0], vN), (11, .getfield 33, 3, [4, 5], vN), (14, .iload_n 1, 1, [1], vN), (15, .invokevirtual 66, 3, [3, 5], vN), (18, .istore_n 2, 1, [2], vN), (19, .iconst 0, 1, [], vI 0), (20, .istore_n 3, 1, [3], vN), (21, .iload_n 3, 1, [3], vN), (22, .iconst 5, 1, [], vI 5), (23, .if_icmp .ge 35, 3, [32], vN), (26, .aload_n 0, 1, [0], vN), (27, .iload_n 2, 1, [2], vN), (28, .invokevirtual 70, 3, [4, 4], vN), (31, .ifCond .eq 27, 3, [32], vN), (34, .aload_n 0, 1, [0], vN), (35, .getfield 48, 3, [4, 10], vN), (38, .iload_n 2, 1, [2], vN), (39, .iload_n 1, 1, [1], vN), (40, .invokevirtual 58, 3, [1, 5], vN), (43, .aload_n 0, 1, [0], vN), (44, .getfield 51, 3, [4, 11], vN), (47, .iload_n 2, 1, [2], vN), (48, .invokevirtual 66, 3, [3, 5], vN), (51, .istore_n 2, 1, [2], vN), (52, .iinc 3 1, 3, [3], vI 1), (55, .goto (-34), 3, [13], vN), (58, .iinc 1 1, 3, [1], vI 1), (61, .goto (-59), 3, [2], vN), (64, .return_, 1, [], vN)]
def hX4_findEnds : List (Nat × List Bool) := [(2, [true, true, false, false]), (21, [true, true, true, true])]
def eX4_findEnds : xE := (4, mX4_findEnds, tX4_findEnds, hX4_findEnds, ceX4)
theorem okX4_findEnds : xEok eX4_findEnds := ⟨by decide +kernel, by decide +kernel, by decide +kernel, ceX4_ok, rfl, by decide +kernel⟩
def tX5_get : List xT := [(0, .iload_n 1, 1, [1], vN), (1, .ifCond .lt 21, 3, [12], vN), (4, .iload_n 1, 1, [1], vN), (5, .aload_n 0, 1, [0], vN), (6, .getfield 15, 3, [5, 0], vN), (9, .arraylength, 1, [], vN), (10, .if_icmp .ge 12, 3, [12], vN), (13, .aload_n 0, 1, [0], vN), (14, .getfield 15, 3, [5, 0], vN), (17, .iload_n 1, 1, [1], vN), (18, .iaload, 1, [], vN), (19, .goto 5, 3, [13], vN), (22, .bipush (-6), 2, [], vI (-6)), (24, .ireturn, 1, [], vN)]
def hX5_get : List (Nat × List Bool) := []
def eX5_get : xE := (5, mX5_get, tX5_get, hX5_get, ceX5)
theorem okX5_get : xEok eX5_get := ⟨by decide +kernel, by decide +kernel, by decide +kernel, ceX5_ok, rfl, by decide +kernel⟩
def tX5_set : List xT := [(0, .iload_n 1, 1, [1], vN), (1, .ifCond .lt 19, 3, [12], vN), (4, .iload_n 1, 1, [1], vN), (5, .aload_n 0, 1, [0], vN), (6, .getfield 15, 3, [5, 0], vN), (9, .arraylength, 1, [], vN), (10, .if_icmp .ge 10, 3, [12], vN), (13, .aload_n 0, 1, [0], vN), (14, .getfield 15, 3, [5, 0], vN), (17, .iload_n 1, 1, [1], vN), (18, .iload_n 2, 1, [2], vN), (19, .iastore, 1, [], vN), (20, .return_, 1, [], vN)]
def hX5_set : List (Nat × List Bool) := []
def eX5_set : xE := (5, mX5_set, tX5_set, hX5_set, ceX5)
theorem okX5_set : xEok eX5_set := ⟨by decide +kernel, by decide +kernel, by decide +kernel, ceX5_ok, rfl, by decide +kernel⟩
def tX5_copyFrom : List xT := [(0, .aload_n 0, 1, [0], vN), (1, .getfield 15, 3, [5, 0], vN), (4, .arraylength, 1, [], vN), (5, .aload_n 1, 1, [1], vN), (6, .getfield 15, 3, [5, 0], vN), (9, .arraylength, 1, [], vN), (10, .invokestatic 21, 3, [0, 1], vN), (13, .istore_n 2, 1, [2], vN), (14, .aload_n 1, 1, [1], vN), (15, .getfield 15, 3, [5, 0], vN), (18, .iconst 0, 1, [], vI 0), (19, .aload_n 0, 1, [0], vN), (20, .getfield 15, 3, [5, 0], vN), (23, .iconst 0, 1, [], vI 0), (24, .iload_n 2, 1, [2], vN), (25, .invokestatic 24, 3, [0, 2], vN), (28, .return_, 1, [], vN)]
def hX5_copyFrom : List (Nat × List Bool) := []
def eX5_copyFrom : xE := (5, mX5_copyFrom, tX5_copyFrom, hX5_copyFrom, ceX5)
theorem okX5_copyFrom : xEok eX5_copyFrom := ⟨by decide +kernel, by decide +kernel, by decide +kernel, ceX5_ok, rfl, by decide +kernel⟩
def tX6_ofKind : List xT := [(0, .iload_n 0, 1, [0], vN), (1, .lookupswitch 33 #[(3, 27), (4, 30)], 27, [6, 2, 4], vN), (28, .bipush 38, 2, [], vI 38), (30, .ireturn, 1, [], vN), (31, .bipush 124, 2, [], vI 124), (33, .ireturn, 1, [], vN), (34, .bipush 62, 2, [], vI 62), (36, .ireturn, 1, [], vN)]
def hX6_ofKind : List (Nat × List Bool) := []
def eX6_ofKind : xE := (6, mX6_ofKind, tX6_ofKind, hX6_ofKind, ceX6)
theorem okX6_ofKind : xEok eX6_ofKind := ⟨by decide +kernel, by decide +kernel, by decide +kernel, ceX6_ok, rfl, by decide +kernel⟩
def tX6_kindOf : List xT := [(0, .iload_n 0, 1, [0], vN), (1, .lookupswitch 41 #[(38, 35), (62, 39), (124, 37)], 35, [8, 2, 6, 4], vN), (36, .iconst 3, 1, [], vI 3), (37, .ireturn, 1, [], vN), (38, .iconst 4, 1, [], vI 4), (39, .ireturn, 1, [], vN), (40, .iconst 5, 1, [], vI 5), (41, .ireturn, 1, [], vN), (42, .bipush (-6), 2, [], vI (-6)), (44, .ireturn, 1, [], vN)]
def hX6_kindOf : List (Nat × List Bool) := []
def eX6_kindOf : xE := (6, mX6_kindOf, tX6_kindOf, hX6_kindOf, ceX6)
theorem okX6_kindOf : xEok eX6_kindOf := ⟨by decide +kernel, by decide +kernel, by decide +kernel, ceX6_ok, rfl, by decide +kernel⟩
def tX7_copyFrom : List xT := [(0, .aload_n 0, 1, [0], vN), (1, .getfield 10, 3, [6, 0], vN), (4, .aload_n 1, 1, [1], vN), (5, .getfield 10, 3, [6, 0], vN), (8, .invokevirtual 23, 3, [0, 2], vN), (11, .aload_n 0, 1, [0], vN), (12, .getfield 19, 3, [6, 1], vN), (15, .aload_n 1, 1, [1], vN), (16, .getfield 19, 3, [6, 1], vN), (19, .invokevirtual 27, 3, [1, 4], vN), (22, .return_, 1, [], vN)]
def hX7_copyFrom : List (Nat × List Bool) := []
def eX7_copyFrom : xE := (7, mX7_copyFrom, tX7_copyFrom, hX7_copyFrom, ceX7)
theorem okX7_copyFrom : xEok eX7_copyFrom := ⟨by decide +kernel, by decide +kernel, by decide +kernel, ceX7_ok, rfl, by decide +kernel⟩
def tX8_atom : List xT := [(0, .iload_n 1, 1, [1], vN), (1, .ifCond .lt 9, 3, [5], vN), (4, .iload_n 1, 1, [1], vN), (5, .bipush 8, 2, [], vI 8), (7, .if_icmp .lt 5, 3, [7], vN), (10, .iconst (-1), 1, [], vI (-1)), (11, .ireturn, 1, [], vN), (12, .aload_n 0, 1, [0], vN), (13, .iconst 0, 1, [], vI 0), (14, .iload_n 1, 1, [1], vN), (15, .bipush (-6), 2, [], vI (-6)), (17, .invokevirtual 63, 3, [0, 7], vN), (20, .ireturn, 1, [], vN)]
def hX8_atom : List (Nat × List Bool) := []
def eX8_atom : xE := (8, mX8_atom, tX8_atom, hX8_atom, ceX8)
theorem okX8_atom : xEok eX8_atom := ⟨by decide +kernel, by decide +kernel, by decide +kernel, ceX8_ok, rfl, by decide +kernel⟩
def tX8_falsum : List xT := [(0, .aload_n 0, 1, [0], vN), (1, .iconst 1, 1, [], vI 1), (2, .bipush (-6), 2, [], vI (-6)), (4, .bipush (-6), 2, [], vI (-6)), (6, .invokevirtual 63, 3, [0, 7], vN), (9, .ireturn, 1, [], vN)]
def hX8_falsum : List (Nat × List Bool) := []
def eX8_falsum : xE := (8, mX8_falsum, tX8_falsum, hX8_falsum, ceX8)
theorem okX8_falsum : xEok eX8_falsum := ⟨by decide +kernel, by decide +kernel, by decide +kernel, ceX8_ok, rfl, by decide +kernel⟩
def tX8_not : List xT := [(0, .aload_n 0, 1, [0], vN), (1, .getfield 10, 3, [7, 0], vN), (4, .getfield 67, 3, [6, 0], vN), (7, .iload_n 1, 1, [1], vN), (8, .invokevirtual 70, 3, [1, 2], vN), (11, .ifCond .ne 5, 3, [8], vN), (14, .iconst (-1), 1, [], vI (-1)), (15, .ireturn, 1, [], vN), (16, .aload_n 0, 1, [0], vN), (17, .iconst 2, 1, [], vI 2), (18, .iload_n 1, 1, [1], vN), (19, .bipush (-6), 2, [], vI (-6)), (21, .invokevirtual 63, 3, [0, 7], vN), (24, .ireturn, 1, [], vN)]
def hX8_not : List (Nat × List Bool) := []
def eX8_not : xE := (8, mX8_not, tX8_not, hX8_not, ceX8)
theorem okX8_not : xEok eX8_not := ⟨by decide +kernel, by decide +kernel, by decide +kernel, ceX8_ok, rfl, by decide +kernel⟩
def tX8_pair : List xT := [(0, .aload_n 0, 1, [0], vN), (1, .getfield 10, 3, [7, 0], vN), (4, .getfield 67, 3, [6, 0], vN), (7, .iload_n 2, 1, [2], vN), (8, .invokevirtual 70, 3, [1, 2], vN), (11, .ifCond .eq 17, 3, [12], vN), (14, .aload_n 0, 1, [0], vN), (15, .getfield 10, 3, [7, 0], vN), (18, .getfield 67, 3, [6, 0], vN), (21, .iload_n 3, 1, [3], vN), (22, .invokevirtual 70, 3, [1, 2], vN), (25, .ifCond .ne 5, 3, [14], vN), (28, .iconst (-1), 1, [], vI (-1)), (29, .ireturn, 1, [], vN), (30, .iload_n 1, 1, [1], vN), (31, .iconst 3, 1, [], vI 3), (32, .if_icmp .lt 8, 3, [20], vN), (35, .iload_n 1, 1, [1], vN), (36, .iconst 5, 1, [], vI 5), (37, .if_icmp .le 6, 3, [22], vN), (40, .bipush (-2), 2, [], vI (-2)), (42, .ireturn, 1, [], vN), (43, .aload_n 0, 1, [0], vN), (44, .iload_n 1, 1, [1], vN), (45, .iload_n 2, 1, [2], vN), (46, .iload_n 3, 1, [3], vN), (47, .invokevirtual 63, 3, [0, 7], vN), (50, .ireturn, 1, [], vN)]
def hX8_pair : List (Nat × List Bool) := []
def eX8_pair : xE := (8, mX8_pair, tX8_pair, hX8_pair, ceX8)
theorem okX8_pair : xEok eX8_pair := ⟨by decide +kernel, by decide +kernel, by decide +kernel, ceX8_ok, rfl, by decide +kernel⟩
def tX8_makeFormula : List xT := [(0, .aload_n 0, 1, [0], vN), (1, .getfield 10, 3, [7, 0], vN), (4, .getfield 67, 3, [6, 0], vN), (7, .iload_n 1, 1, [1], vN), (8, .iload_n 2, 1, [2], vN), (9, .iload_n 3, 1, [3], vN), (10, .invokevirtual 74, 3, [2, 2], vN), (13, .ifCond .ne 6, 3, [10], vN), (16, .bipush (-4), 2, [], vI (-4)), (18, .ireturn, 1, [], vN), (19, .aload_n 0, 1, [0], vN), (20, .getfield 22, 3, [7, 2], vN), (23, .aload_n 0, 1, [0], vN), (24, .getfield 10, 3, [7, 0], vN), (27, .invokevirtual 78, 3, [3, 3], vN), (30, .aload_n 0, 1, [0], vN), (31, .getfield 10, 3, [7, 0], vN), (34, .getfield 67, 3, [6, 0], vN), (37, .iload_n 1, 1, [1], vN), (38, .iload_n 2, 1, [2], vN), (39, .iload_n 3, 1, [3], vN), (40, .invokevirtual 82, 3, [4, 2], vN), (43, .ireturn, 1, [], vN)]
def hX8_makeFormula : List (Nat × List Bool) := []
def eX8_makeFormula : xE := (8, mX8_makeFormula, tX8_makeFormula, hX8_makeFormula, ceX8)
theorem okX8_makeFormula : xEok eX8_makeFormula := ⟨by decide +kernel, by decide +kernel, by decide +kernel, ceX8_ok, rfl, by decide +kernel⟩
def tX8_formulas : List xT := [(0, .aload_n 0, 1, [0], vN), (1, .getfield 10, 3, [7, 0], vN), (4, .getfield 67, 3, [6, 0], vN), (7, .getfield 85, 3, [2, 0], vN), (10, .ireturn, 1, [], vN)]
def hX8_formulas : List (Nat × List Bool) := []
def eX8_formulas : xE := (8, mX8_formulas, tX8_formulas, hX8_formulas, ceX8)
theorem okX8_formulas : xEok eX8_formulas := ⟨by decide +kernel, by decide +kernel, by decide +kernel, ceX8_ok, rfl, by decide +kernel⟩
def tX8_part : List xT := [(0, .aload_n 0, 1, [0], vN), (1, .getfield 10, 3, [7, 0], vN), (4, .getfield 67, 3, [6, 0], vN), (7, .iload_n 1, 1, [1], vN), (8, .invokevirtual 70, 3, [1, 2], vN), (11, .ifCond .ne 5, 3, [8], vN), (14, .iconst (-1), 1, [], vI (-1)), (15, .ireturn, 1, [], vN), (16, .iload_n 2, 1, [2], vN), (17, .tableswitch 72 0 2 #[27, 42, 57], 27, [31, 10, 17, 24], vN), (44, .aload_n 0, 1, [0], vN), (45, .getfield 10, 3, [7, 0], vN), (48, .getfield 67, 3, [6, 0], vN), (51, .getfield 89, 3, [2, 1], vN), (54, .iload_n 1, 1, [1], vN), (55, .invokevirtual 92, 3, [5, 5], vN), (58, .ireturn, 1, [], vN), (59, .aload_n 0, 1, [0], vN), (60, .getfield 10, 3, [7, 0], vN), (63, .getfield 67, 3, [6, 0], vN), (66, .getfield 96, 3, [2, 2], vN), (69, .iload_n 1, 1, [1], vN), (70, .invokevirtual 92, 3, [5, 5], vN), (73, .ireturn, 1, [], vN), (74, .aload_n 0, 1, [0], vN), (75, .getfield 10, 3, [7, 0], vN), (78, .getfield 67, 3, [6, 0], vN), (81, .getfield 99, 3, [2, 3], vN), (84, .iload_n 1, 1, [1], vN), (85, .invokevirtual 92, 3, [5, 5], vN), (88, .ireturn, 1, [], vN), (89, .bipush (-2), 2, [], vI (-2)), (91, .ireturn, 1, [], vN)]
def hX8_part : List (Nat × List Bool) := []
def eX8_part : xE := (8, mX8_part, tX8_part, hX8_part, ceX8)
theorem okX8_part : xEok eX8_part := ⟨by decide +kernel, by decide +kernel, by decide +kernel, ceX8_ok, rfl, by decide +kernel⟩
def tX8_length : List xT := [(0, .aload_n 0, 1, [0], vN), (1, .getfield 10, 3, [7, 0], vN), (4, .getfield 67, 3, [6, 0], vN), (7, .iload_n 1, 1, [1], vN), (8, .invokevirtual 70, 3, [1, 2], vN), (11, .ifCond .ne 5, 3, [8], vN), (14, .iconst (-1), 1, [], vI (-1)), (15, .ireturn, 1, [], vN), (16, .aload_n 0, 1, [0], vN), (17, .getfield 10, 3, [7, 0], vN), (20, .getfield 67, 3, [6, 0], vN), (23, .aload_n 0, 1, [0], vN), (24, .getfield 52, 3, [7, 6], vN), (27, .invokevirtual 102, 3, [6, 2], vN), (30, .aload_n 0, 1, [0], vN), (31, .getfield 52, 3, [7, 6], vN), (34, .iload_n 1, 1, [1], vN), (35, .invokevirtual 92, 3, [5, 5], vN), (38, .ireturn, 1, [], vN)]
def hX8_length : List (Nat × List Bool) := []
def eX8_length : xE := (8, mX8_length, tX8_length, hX8_length, ceX8)
theorem okX8_length : xEok eX8_length := ⟨by decide +kernel, by decide +kernel, by decide +kernel, ceX8_ok, rfl, by decide +kernel⟩
def tX8_character : List xT := [(0, .aload_n 0, 1, [0], vN), (1, .getfield 10, 3, [7, 0], vN), (4, .getfield 67, 3, [6, 0], vN), (7, .iload_n 1, 1, [1], vN), (8, .invokevirtual 70, 3, [1, 2], vN), (11, .ifCond .ne 5, 3, [8], vN), (14, .iconst (-1), 1, [], vI (-1)), (15, .ireturn, 1, [], vN), (16, .aload_n 0, 1, [0], vN), (17, .getfield 10, 3, [7, 0], vN), (20, .getfield 67, 3, [6, 0], vN), (23, .aload_n 0, 1, [0], vN), (24, .getfield 52, 3, [7, 6], vN), (27, .invokevirtual 102, 3, [6, 2], vN), (30, .iload_n 2, 1, [2], vN), (31, .ifCond .lt 15, 3, [22], vN), (34, .iload_n 2, 1, [2], vN), (35, .aload_n 0, 1, [0], vN), (36, .getfield 52, 3, [7, 6], vN), (39, .iload_n 1, 1, [1], vN), (40, .invokevirtual 92, 3, [5, 5], vN), (43, .if_icmp .lt 5, 3, [24], vN), (46, .iconst (-1), 1, [], vI (-1)), (47, .ireturn, 1, [], vN), (48, .aload_n 0, 1, [0], vN), (49, .getfield 10, 3, [7, 0], vN), (52, .getfield 67, 3, [6, 0], vN), (55, .iload_n 1, 1, [1], vN), (56, .iload_n 2, 1, [2], vN), (57, .aload_n 0, 1, [0], vN), (58, .getfield 52, 3, [7, 6], vN), (61, .invokevirtual 106, 3, [7, 2], vN), (64, .ireturn, 1, [], vN)]
def hX8_character : List (Nat × List Bool) := []
def eX8_character : xE := (8, mX8_character, tX8_character, hX8_character, ceX8)
theorem okX8_character : xEok eX8_character := ⟨by decide +kernel, by decide +kernel, by decide +kernel, ceX8_ok, rfl, by decide +kernel⟩
def tX8_isTrue : List xT := [(0, .aload_n 0, 1, [0], vN), (1, .getfield 10, 3, [7, 0], vN), (4, .getfield 67, 3, [6, 0], vN), (7, .iload_n 1, 1, [1], vN), (8, .invokevirtual 70, 3, [1, 2], vN), (11, .ifCond .ne 5, 3, [8], vN), (14, .iconst (-1), 1, [], vI (-1)), (15, .ireturn, 1, [], vN), (16, .iload_n 2, 1, [2], vN), (17, .ifCond .lt 10, 3, [13], vN), (20, .iload_n 2, 1, [2], vN), (21, .sipush 256, 3, [], vI 256), (24, .if_icmp .lt 6, 3, [15], vN), (27, .bipush (-2), 2, [], vI (-2)), (29, .ireturn, 1, [], vN), (30, .aload_n 0, 1, [0], vN), (31, .getfield 10, 3, [7, 0], vN), (34, .getfield 67, 3, [6, 0], vN), (37, .iload_n 2, 1, [2], vN), (38, .bipush 32, 2, [], vI 32), (40, .idiv, 1, [], vN), (41, .aload_n 0, 1, [0], vN), (42, .getfield 56, 3, [7, 7], vN), (45, .invokevirtual 110, 3, [8, 2], vN), (48, .aload_n 0, 1, [0], vN), (49, .getfield 56, 3, [7, 7], vN), (52, .iload_n 1, 1, [1], vN), (53, .invokevirtual 92, 3, [5, 5], vN), (56, .iload_n 2, 1, [2], vN), (57, .bipush 32, 2, [], vI 32), (59, .irem, 1, [], vN), (60, .iushr, 1, [], vN), (61, .iconst 1, 1, [], vI 1), (62, .iand, 1, [], vN), (63, .ireturn, 1, [], vN)]
def hX8_isTrue : List (Nat × List Bool) := []
def eX8_isTrue : xE := (8, mX8_isTrue, tX8_isTrue, hX8_isTrue, ceX8)
theorem okX8_isTrue : xEok eX8_isTrue := ⟨by decide +kernel, by decide +kernel, by decide +kernel, ceX8_ok, rfl, by decide +kernel⟩
def tX8_premise : List xT := [(0, .aload_n 0, 1, [0], vN), (1, .getfield 10, 3, [7, 0], vN), (4, .getfield 67, 3, [6, 0], vN), (7, .iload_n 1, 1, [1], vN), (8, .invokevirtual 70, 3, [1, 2], vN), (11, .ifCond .ne 5, 3, [8], vN), (14, .iconst (-1), 1, [], vI (-1)), (15, .ireturn, 1, [], vN), (16, .aload_n 0, 1, [0], vN), (17, .getfield 10, 3, [7, 0], vN), (20, .getfield 114, 3, [6, 1], vN), (23, .getfield 118, 3, [4, 2], vN), (26, .bipush (-6), 2, [], vI (-6)), (28, .if_icmp .eq 6, 3, [16], vN), (31, .bipush (-3), 2, [], vI (-3)), (33, .ireturn, 1, [], vN), (34, .aload_n 0, 1, [0], vN), (35, .iconst 0, 1, [], vI 0), (36, .iload_n 1, 1, [1], vN), (37, .bipush (-6), 2, [], vI (-6)), (39, .bipush (-6), 2, [], vI (-6)), (41, .bipush (-6), 2, [], vI (-6)), (43, .invokevirtual 123, 3, [9, 7], vN), (46, .ireturn, 1, [], vN)]
def hX8_premise : List (Nat × List Bool) := []
def eX8_premise : xE := (8, mX8_premise, tX8_premise, hX8_premise, ceX8)
theorem okX8_premise : xEok eX8_premise := ⟨by decide +kernel, by decide +kernel, by decide +kernel, ceX8_ok, rfl, by decide +kernel⟩
def tX8_open : List xT := [(0, .aload_n 0, 1, [0], vN), (1, .getfield 10, 3, [7, 0], vN), (4, .getfield 67, 3, [6, 0], vN), (7, .iload_n 1, 1, [1], vN), (8, .invokevirtual 70, 3, [1, 2], vN), (11, .ifCond .ne 5, 3, [8], vN), (14, .iconst (-1), 1, [], vI (-1)), (15, .ireturn, 1, [], vN), (16, .aload_n 0, 1, [0], vN), (17, .getfield 10, 3, [7, 0], vN), (20, .getfield 114, 3, [6, 1], vN), (23, .invokevirtual 127, 3, [10, 4], vN), (26, .ifCond .ne 11, 3, [17], vN), (29, .aload_n 0, 1, [0], vN), (30, .invokevirtual 131, 3, [11, 7], vN), (33, .iconst 5, 1, [], vI 5), (34, .if_icmp .lt 6, 3, [19], vN), (37, .bipush (-4), 2, [], vI (-4)), (39, .ireturn, 1, [], vN), (40, .aload_n 0, 1, [0], vN), (41, .getfield 22, 3, [7, 2], vN), (44, .aload_n 0, 1, [0], vN), (45, .getfield 10, 3, [7, 0], vN), (48, .invokevirtual 78, 3, [3, 3], vN), (51, .aload_n 0, 1, [0], vN), (52, .getfield 10, 3, [7, 0], vN), (55, .getfield 114, 3, [6, 1], vN), (58, .iload_n 1, 1, [1], vN), (59, .invokevirtual 135, 3, [12, 4], vN), (62, .ireturn, 1, [], vN)]
def hX8_open : List (Nat × List Bool) := []
def eX8_open : xE := (8, mX8_open, tX8_open, hX8_open, ceX8)
theorem okX8_open : xEok eX8_open := ⟨by decide +kernel, by decide +kernel, by decide +kernel, ceX8_ok, rfl, by decide +kernel⟩
def tX8_close : List xT := [(0, .aload_n 0, 1, [0], vN), (1, .getfield 10, 3, [7, 0], vN), (4, .getfield 114, 3, [6, 1], vN), (7, .invokevirtual 138, 3, [13, 4], vN), (10, .ifCond .ne 6, 3, [7], vN), (13, .bipush (-3), 2, [], vI (-3)), (15, .ireturn, 1, [], vN), (16, .aload_n 0, 1, [0], vN), (17, .getfield 22, 3, [7, 2], vN), (20, .aload_n 0, 1, [0], vN), (21, .getfield 10, 3, [7, 0], vN), (24, .invokevirtual 78, 3, [3, 3], vN), (27, .aload_n 0, 1, [0], vN), (28, .getfield 10, 3, [7, 0], vN), (31, .getfield 114, 3, [6, 1], vN), (34, .invokevirtual 141, 3, [14, 4], vN), (37, .ireturn, 1, [], vN)]
def hX8_close : List (Nat × List Bool) := []
def eX8_close : xE := (8, mX8_close, tX8_close, hX8_close, ceX8)
theorem okX8_close : xEok eX8_close := ⟨by decide +kernel, by decide +kernel, by decide +kernel, ceX8_ok, rfl, by decide +kernel⟩
def tX8_repeat : List xT := [(0, .aload_n 0, 1, [0], vN), (1, .getfield 10, 3, [7, 0], vN), (4, .getfield 114, 3, [6, 1], vN), (7, .iload_n 1, 1, [1], vN), (8, .invokevirtual 144, 3, [15, 4], vN), (11, .ifCond .ne 5, 3, [8], vN), (14, .iconst (-1), 1, [], vI (-1)), (15, .ireturn, 1, [], vN), (16, .aload_n 0, 1, [0], vN), (17, .getfield 10, 3, [7, 0], vN), (20, .getfield 114, 3, [6, 1], vN), (23, .iload_n 1, 1, [1], vN), (24, .invokevirtual 147, 3, [16, 4], vN), (27, .ifCond .ne 6, 3, [16], vN), (30, .bipush (-3), 2, [], vI (-3)), (32, .ireturn, 1, [], vN), (33, .aload_n 0, 1, [0], vN), (34, .iconst 2, 1, [], vI 2), (35, .aload_n 0, 1, [0], vN), (36, .getfield 10, 3, [7, 0], vN), (39, .getfield 114, 3, [6, 1], vN), (42, .getfield 150, 3, [4, 3], vN), (45, .iload_n 1, 1, [1], vN), (46, .invokevirtual 92, 3, [5, 5], vN), (49, .iload_n 1, 1, [1], vN), (50, .bipush (-6), 2, [], vI (-6)), (52, .bipush (-6), 2, [], vI (-6)), (54, .invokevirtual 123, 3, [9, 7], vN), (57, .ireturn, 1, [], vN)]
def hX8_repeat : List (Nat × List Bool) := []
def eX8_repeat : xE := (8, mX8_repeat, tX8_repeat, hX8_repeat, ceX8)
theorem okX8_repeat : xEok eX8_repeat := ⟨by decide +kernel, by decide +kernel, by decide +kernel, ceX8_ok, rfl, by decide +kernel⟩
def tX8_fromTwo : List xT := [(0, .aload_n 0, 1, [0], vN), (1, .getfield 10, 3, [7, 0], vN), (4, .getfield 114, 3, [6, 1], vN), (7, .iload_n 2, 1, [2], vN), (8, .invokevirtual 144, 3, [15, 4], vN), (11, .ifCond .eq 17, 3, [12], vN), (14, .aload_n 0, 1, [0], vN), (15, .getfield 10, 3, [7, 0], vN), (18, .getfield 114, 3, [6, 1], vN), (21, .iload_n 3, 1, [3], vN), (22, .invokevirtual 144, 3, [15, 4], vN), (25, .ifCond .ne 5, 3, [14], vN), (28, .iconst (-1), 1, [], vI (-1)), (29, .ireturn, 1, [], vN), (30, .iload_n 1, 1, [1], vN), (31, .iconst 3, 1, [], vI 3), (32, .if_icmp .eq 18, 3, [25], vN), (35, .iload_n 1, 1, [1], vN), (36, .bipush 9, 2, [], vI 9), (38, .if_icmp .eq 12, 3, [25], vN), (41, .iload_n 1, 1, [1], vN), (42, .bipush 11, 2, [], vI 11), (44, .if_icmp .eq 6, 3, [25], vN), (47, .bipush (-2), 2, [], vI (-2)), (49, .ireturn, 1, [], vN), (50, .aload_n 0, 1, [0], vN), (51, .getfield 10, 3, [7, 0], vN), (54, .getfield 114, 3, [6, 1], vN), (57, .iload_n 2, 1, [2], vN), (58, .invokevirtual 147, 3, [16, 4], vN), (61, .ifCond .eq 17, 3, [37], vN), (64, .aload_n 0, 1, [0], vN), (65, .getfield 10, 3, [7, 0], vN), (68, .getfield 114, 3, [6, 1], vN), (71, .iload_n 3, 1, [3], vN), (72, .invokevirtual 147, 3, [16, 4], vN), (75, .ifCond .ne 6, 3, [39], vN), (78, .bipush (-3), 2, [], vI (-3)), (80, .ireturn, 1, [], vN), (81, .aload_n 0, 1, [0], vN), (82, .getfield 10, 3, [7, 0], vN), (85, .getfield 114, 3, [6, 1], vN), (88, .getfield 150, 3, [4, 3], vN), (91, .iload_n 2, 1, [2], vN), (92, .invokevirtual 92, 3, [5, 5], vN), (95, .istore 4, 2, [4], vN), (97, .aload_n 0, 1, [0], vN), (98, .getfield 10, 3, [7, 0], vN), (101, .getfield 114, 3, [6, 1], vN), (104, .getfield 150, 3, [4, 3], vN), (107, .iload_n 3, 1, [3], vN), (108, .invokevirtual 92, 3, [5, 5], vN), (111, .istore 5, 2, [5], vN), (113, .iload_n 1, 1, [1], vN), (114, .iconst 3, 1, [], vI 3), (115, .if_icmp .ne 16, 3, [65], vN), (118, .aload_n 0, 1, [0], vN), (119, .iconst 3, 1, [], vI 3), (120, .iconst 3, 1, [], vI 3), (121, .iload 4, 2, [4], vN), (123, .iload 5, 2, [5], vN), (125, .iload_n 2, 1, [2], vN), (126, .iload_n 3, 1, [3], vN), (127, .invokevirtual 153, 3, [17, 7], vN), (130, .ireturn, 1, [], vN), (131, .iload_n 1, 1, [1], vN), (132, .bipush 9, 2, [], vI 9), (134, .if_icmp .ne 7, 3, [70], vN), (137, .iconst 5, 1, [], vI 5), (138, .goto 4, 3, [71], vN), (141, .iconst 2, 1, [], vI 2), (142, .istore 6, 2, [6], vN), (144, .aload_n 0, 1, [0], vN), (145, .getfield 10, 3, [7, 0], vN), (148, .getfield 67, 3, [6, 0], vN), (151, .iload 4, 2, [4], vN), (153, .iload 6, 2, [6], vN), (155, .invokevirtual 157, 3, [18, 2], vN), (158, .ifCond .eq 23, 3, [87], vN), (161, .aload_n 0, 1, [0], vN), (162, .getfield 10, 3, [7, 0], vN), (165, .getfield 67, 3, [6, 0], vN), (168, .getfield 96, 3, [2, 2], vN), (171, .iload 4, 2, [4], vN), (173, .invokevirtual 92, 3, [5, 5], vN), (176, .iload 5, 2, [5], vN), (178, .if_icmp .eq 6, 3, [89], vN), (181, .bipush (-3), 2, [], vI (-3)), (183, .ireturn, 1, [], vN), (184, .iload_n 1, 1, [1], vN), (185, .bipush 9, 2, [], vI 9), (187, .if_icmp .ne 29, 3, [105], vN), (190, .aload_n 0, 1, [0], vN), (191, .bipush 9, 2, [], vI 9), (193, .aload_n 0, 1, [0], vN), (194, .getfield 10, 3, [7, 0], vN), (197, .getfield 67, 3, [6, 0], vN), (200, .getfield 99, 3, [2, 3], vN), (203, .iload 4, 2, [4], vN), (205, .invokevirtual 92, 3, [5, 5], vN), (208, .iload_n 2, 1, [2], vN), (209, .iload_n 3, 1, [3], vN), (210, .bipush (-6), 2, [], vI (-6)), (212, .invokevirtual 123, 3, [9, 7], vN), (215, .ireturn, 1, [], vN), (216, .aload_n 0, 1, [0], vN), (217, .bipush 11, 2, [], vI 11), (219, .iconst 1, 1, [], vI 1), (220, .bipush (-6), 2, [], vI (-6)), (222, .bipush (-6), 2, [], vI (-6)), (224, .iload_n 2, 1, [2], vN), (225, .iload_n 3, 1, [3], vN), (226, .invokevirtual 153, 3, [17, 7], vN), (229, .ireturn, 1, [], vN)]
def hX8_fromTwo : List (Nat × List Bool) := [(50, [true, true, true, true, false, false, false]), (142, [true, true, true, true, true, true, false])]
def eX8_fromTwo : xE := (8, mX8_fromTwo, tX8_fromTwo, hX8_fromTwo, ceX8)
theorem okX8_fromTwo : xEok eX8_fromTwo := ⟨by decide +kernel, by decide +kernel, by decide +kernel, ceX8_ok, rfl, by decide +kernel⟩
def tX8_fromOne : List xT := [(0, .aload_n 0, 1, [0], vN), (1, .getfield 10, 3, [7, 0], vN), (4, .getfield 114, 3, [6, 1], vN), (7, .iload_n 2, 1, [2], vN), (8, .invokevirtual 144, 3, [15, 4], vN), (11, .ifCond .ne 5, 3, [8], vN), (14, .iconst (-1), 1, [], vI (-1)), (15, .ireturn, 1, [], vN), (16, .iload_n 1, 1, [1], vN), (17, .iconst 4, 1, [], vI 4), (18, .if_icmp .eq 17, 3, [19], vN), (21, .iload_n 1, 1, [1], vN), (22, .iconst 5, 1, [], vI 5), (23, .if_icmp .eq 12, 3, [19], vN), (26, .iload_n 1, 1, [1], vN), (27, .bipush 13, 2, [], vI 13), (29, .if_icmp .eq 6, 3, [19], vN), (32, .bipush (-2), 2, [], vI (-2)), (34, .ireturn, 1, [], vN), (35, .aload_n 0, 1, [0], vN), (36, .getfield 10, 3, [7, 0], vN), (39, .getfield 114, 3, [6, 1], vN), (42, .iload_n 2, 1, [2], vN), (43, .invokevirtual 147, 3, [16, 4], vN), (46, .ifCond .ne 6, 3, [27], vN), (49, .bipush (-3), 2, [], vI (-3)), (51, .ireturn, 1, [], vN), (52, .aload_n 0, 1, [0], vN), (53, .getfield 10, 3, [7, 0], vN), (56, .getfield 67, 3, [6, 0], vN), (59, .iload_n 1, 1, [1], vN), (60, .aload_n 0, 1, [0], vN), (61, .getfield 10, 3, [7, 0], vN), (64, .getfield 114, 3, [6, 1], vN), (67, .getfield 150, 3, [4, 3], vN), (70, .iload_n 2, 1, [2], vN), (71, .invokevirtual 92, 3, [5, 5], vN), (74, .invokevirtual 161, 3, [19, 2], vN), (77, .istore_n 3, 1, [3], vN), (78, .iload_n 3, 1, [3], vN), (79, .bipush (-6), 2, [], vI (-6)), (81, .if_icmp .ne 6, 3, [44], vN), (84, .bipush (-3), 2, [], vI (-3)), (86, .ireturn, 1, [], vN), (87, .aload_n 0, 1, [0], vN), (88, .iload_n 1, 1, [1], vN), (89, .iload_n 3, 1, [3], vN), (90, .iload_n 2, 1, [2], vN), (91, .bipush (-6), 2, [], vI (-6)), (93, .bipush (-6), 2, [], vI (-6)), (95, .invokevirtual 123, 3, [9, 7], vN), (98, .ireturn, 1, [], vN)]
def hX8_fromOne : List (Nat × List Bool) := [(35, [true, true, true, false])]
def eX8_fromOne : xE := (8, mX8_fromOne, tX8_fromOne, hX8_fromOne, ceX8)
theorem okX8_fromOne : xEok eX8_fromOne := ⟨by decide +kernel, by decide +kernel, by decide +kernel, ceX8_ok, rfl, by decide +kernel⟩
def tX8_toFormula : List xT := [(0, .aload_n 0, 1, [0], vN), (1, .getfield 10, 3, [7, 0], vN), (4, .getfield 114, 3, [6, 1], vN), (7, .iload_n 2, 1, [2], vN), (8, .invokevirtual 144, 3, [15, 4], vN), (11, .ifCond .eq 17, 3, [12], vN), (14, .aload_n 0, 1, [0], vN), (15, .getfield 10, 3, [7, 0], vN), (18, .getfield 67, 3, [6, 0], vN), (21, .iload_n 3, 1, [3], vN), (22, .invokevirtual 70, 3, [1, 2], vN), (25, .ifCond .ne 5, 3, [14], vN), (28, .iconst (-1), 1, [], vI (-1)), (29, .ireturn, 1, [], vN), (30, .iload_n 1, 1, [1], vN), (31, .bipush 6, 2, [], vI 6), (33, .if_icmp .eq 12, 3, [22], vN), (36, .iload_n 1, 1, [1], vN), (37, .bipush 12, 2, [], vI 12), (39, .if_icmp .eq 6, 3, [22], vN), (42, .bipush (-2), 2, [], vI (-2)), (44, .ireturn, 1, [], vN), (45, .aload_n 0, 1, [0], vN), (46, .getfield 10, 3, [7, 0], vN), (49, .getfield 114, 3, [6, 1], vN), (52, .iload_n 2, 1, [2], vN), (53, .invokevirtual 147, 3, [16, 4], vN), (56, .ifCond .ne 6, 3, [30], vN), (59, .bipush (-3), 2, [], vI (-3)), (61, .ireturn, 1, [], vN), (62, .aload_n 0, 1, [0], vN), (63, .getfield 10, 3, [7, 0], vN), (66, .getfield 114, 3, [6, 1], vN), (69, .getfield 150, 3, [4, 3], vN), (72, .iload_n 2, 1, [2], vN), (73, .invokevirtual 92, 3, [5, 5], vN), (76, .istore 4, 2, [4], vN), (78, .iload_n 1, 1, [1], vN), (79, .bipush 6, 2, [], vI 6), (81, .if_icmp .ne 19, 3, [47], vN), (84, .aload_n 0, 1, [0], vN), (85, .getfield 10, 3, [7, 0], vN), (88, .getfield 67, 3, [6, 0], vN), (91, .iload 4, 2, [4], vN), (93, .iload_n 3, 1, [3], vN), (94, .invokevirtual 165, 3, [20, 2], vN), (97, .goto 16, 3, [53], vN), (100, .aload_n 0, 1, [0], vN), (101, .getfield 10, 3, [7, 0], vN), (104, .getfield 67, 3, [6, 0], vN), (107, .iload 4, 2, [4], vN), (109, .iconst 1, 1, [], vI 1), (110, .invokevirtual 157, 3, [18, 2], vN), (113, .istore 5, 2, [5], vN), (115, .iload 5, 2, [5], vN), (117, .ifCond .ne 6, 3, [58], vN), (120, .bipush (-3), 2, [], vI (-3)), (122, .ireturn, 1, [], vN), (123, .aload_n 0, 1, [0], vN), (124, .iload_n 1, 1, [1], vN), (125, .iload_n 3, 1, [3], vN), (126, .iload_n 2, 1, [2], vN), (127, .bipush (-6), 2, [], vI (-6)), (129, .bipush (-6), 2, [], vI (-6)), (131, .invokevirtual 123, 3, [9, 7], vN), (134, .ireturn, 1, [], vN)]
def hX8_toFormula : List (Nat × List Bool) := [(45, [true, true, true, true, false, false]), (113, [true, true, true, true, false, false])]
def eX8_toFormula : xE := (8, mX8_toFormula, tX8_toFormula, hX8_toFormula, ceX8)
theorem okX8_toFormula : xEok eX8_toFormula := ⟨by decide +kernel, by decide +kernel, by decide +kernel, ceX8_ok, rfl, by decide +kernel⟩
def tX8_fromBox : List xT := [(0, .aload_n 0, 1, [0], vN), (1, .getfield 10, 3, [7, 0], vN), (4, .getfield 114, 3, [6, 1], vN), (7, .iload_n 2, 1, [2], vN), (8, .invokevirtual 168, 3, [21, 4], vN), (11, .ifCond .ne 5, 3, [8], vN), (14, .iconst (-1), 1, [], vI (-1)), (15, .ireturn, 1, [], vN), (16, .iload_n 1, 1, [1], vN), (17, .bipush 8, 2, [], vI 8), (19, .if_icmp .eq 12, 3, [16], vN), (22, .iload_n 1, 1, [1], vN), (23, .bipush 10, 2, [], vI 10), (25, .if_icmp .eq 6, 3, [16], vN), (28, .bipush (-2), 2, [], vI (-2)), (30, .ireturn, 1, [], vN), (31, .aload_n 0, 1, [0], vN), (32, .getfield 10, 3, [7, 0], vN), (35, .getfield 114, 3, [6, 1], vN), (38, .iload_n 2, 1, [2], vN), (39, .invokevirtual 171, 3, [22, 4], vN), (42, .ifCond .ne 6, 3, [24], vN), (45, .bipush (-3), 2, [], vI (-3)), (47, .ireturn, 1, [], vN), (48, .aload_n 0, 1, [0], vN), (49, .getfield 10, 3, [7, 0], vN), (52, .getfield 114, 3, [6, 1], vN), (55, .iload_n 2, 1, [2], vN), (56, .invokevirtual 174, 3, [23, 4], vN), (59, .istore_n 3, 1, [3], vN), (60, .aload_n 0, 1, [0], vN), (61, .getfield 10, 3, [7, 0], vN), (64, .getfield 114, 3, [6, 1], vN), (67, .iload_n 2, 1, [2], vN), (68, .invokevirtual 177, 3, [24, 4], vN), (71, .istore 4, 2, [4], vN), (73, .iload_n 1, 1, [1], vN), (74, .bipush 8, 2, [], vI 8), (76, .if_icmp .ne 17, 3, [48], vN), (79, .aload_n 0, 1, [0], vN), (80, .bipush 8, 2, [], vI 8), (82, .iconst 5, 1, [], vI 5), (83, .iload_n 3, 1, [3], vN), (84, .iload 4, 2, [4], vN), (86, .iload_n 2, 1, [2], vN), (87, .bipush (-6), 2, [], vI (-6)), (89, .invokevirtual 153, 3, [17, 7], vN), (92, .ireturn, 1, [], vN), (93, .aload_n 0, 1, [0], vN), (94, .getfield 10, 3, [7, 0], vN), (97, .getfield 67, 3, [6, 0], vN), (100, .iload 4, 2, [4], vN), (102, .iconst 1, 1, [], vI 1), (103, .invokevirtual 157, 3, [18, 2], vN), (106, .ifCond .ne 6, 3, [57], vN), (109, .bipush (-3), 2, [], vI (-3)), (111, .ireturn, 1, [], vN), (112, .aload_n 0, 1, [0], vN), (113, .bipush 10, 2, [], vI 10), (115, .iconst 2, 1, [], vI 2), (116, .iload_n 3, 1, [3], vN), (117, .bipush (-6), 2, [], vI (-6)), (119, .iload_n 2, 1, [2], vN), (120, .bipush (-6), 2, [], vI (-6)), (122, .invokevirtual 153, 3, [17, 7], vN), (125, .ireturn, 1, [], vN)]
def hX8_fromBox : List (Nat × List Bool) := [(31, [true, true, true, false, false])]
def eX8_fromBox : xE := (8, mX8_fromBox, tX8_fromBox, hX8_fromBox, ceX8)
theorem okX8_fromBox : xEok eX8_fromBox := ⟨by decide +kernel, by decide +kernel, by decide +kernel, ceX8_ok, rfl, by decide +kernel⟩
def tX8_cases : List xT := [(0, .aload_n 0, 1, [0], vN), (1, .getfield 10, 3, [7, 0], vN), (4, .getfield 114, 3, [6, 1], vN), (7, .iload_n 1, 1, [1], vN), (8, .invokevirtual 144, 3, [15, 4], vN), (11, .ifCond .eq 31, 3, [18], vN), (14, .aload_n 0, 1, [0], vN), (15, .getfield 10, 3, [7, 0], vN), (18, .getfield 114, 3, [6, 1], vN), (21, .iload_n 2, 1, [2], vN), (22, .invokevirtual 168, 3, [21, 4], vN), (25, .ifCond .eq 17, 3, [18], vN), (28, .aload_n 0, 1, [0], vN), (29, .getfield 10, 3, [7, 0], vN), (32, .getfield 114, 3, [6, 1], vN), (35, .iload_n 3, 1, [3], vN), (36, .invokevirtual 168, 3, [21, 4], vN), (39, .ifCond .ne 5, 3, [20], vN), (42, .iconst (-1), 1, [], vI (-1)), (43, .ireturn, 1, [], vN), (44, .aload_n 0, 1, [0], vN), (45, .getfield 10, 3, [7, 0], vN), (48, .getfield 114, 3, [6, 1], vN), (51, .iload_n 1, 1, [1], vN), (52, .invokevirtual 147, 3, [16, 4], vN), (55, .ifCond .eq 31, 3, [38], vN), (58, .aload_n 0, 1, [0], vN), (59, .getfield 10, 3, [7, 0], vN), (62, .getfield 114, 3, [6, 1], vN), (65, .iload_n 2, 1, [2], vN), (66, .invokevirtual 171, 3, [22, 4], vN), (69, .ifCond .eq 17, 3, [38], vN), (72, .aload_n 0, 1, [0], vN), (73, .getfield 10, 3, [7, 0], vN), (76, .getfield 114, 3, [6, 1], vN), (79, .iload_n 3, 1, [3], vN), (80, .invokevirtual 171, 3, [22, 4], vN), (83, .ifCond .ne 6, 3, [40], vN), (86, .bipush (-3), 2, [], vI (-3)), (88, .ireturn, 1, [], vN), (89, .aload_n 0, 1, [0], vN), (90, .getfield 10, 3, [7, 0], vN), (93, .getfield 114, 3, [6, 1], vN), (96, .getfield 150, 3, [4, 3], vN), (99, .iload_n 1, 1, [1], vN), (100, .invokevirtual 92, 3, [5, 5], vN), (103, .istore 4, 2, [4], vN), (105, .aload_n 0, 1, [0], vN), (106, .getfield 10, 3, [7, 0], vN), (109, .getfield 114, 3, [6, 1], vN), (112, .iload_n 2, 1, [2], vN), (113, .invokevirtual 177, 3, [24, 4], vN), (116, .istore 5, 2, [5], vN), (118, .aload_n 0, 1, [0], vN), (119, .getfield 10, 3, [7, 0], vN), (122, .getfield 67, 3, [6, 0], vN), (125, .iload 4, 2, [4], vN), (127, .iconst 4, 1, [], vI 4), (128, .invokevirtual 157, 3, [18, 2], vN), (131, .ifCond .eq 81, 3, [93], vN), (134, .aload_n 0, 1, [0], vN), (135, .getfield 10, 3, [7, 0], vN), (138, .getfield 67, 3, [6, 0], vN), (141, .getfield 96, 3, [2, 2], vN), (144, .iload 4, 2, [4], vN), (146, .invokevirtual 92, 3, [5, 5], vN), (149, .aload_n 0, 1, [0], vN), (150, .getfield 10, 3, [7, 0], vN), (153, .getfield 114, 3, [6, 1], vN), (156, .iload_n 2, 1, [2], vN), (157, .invokevirtual 174, 3, [23, 4], vN), (160, .if_icmp .ne 52, 3, [93], vN), (163, .aload_n 0, 1, [0], vN), (164, .getfield 10, 3, [7, 0], vN), (167, .getfield 67, 3, [6, 0], vN), (170, .getfield 99, 3, [2, 3], vN), (173, .iload 4, 2, [4], vN), (175, .invokevirtual 92, 3, [5, 5], vN), (178, .aload_n 0, 1, [0], vN), (179, .getfield 10, 3, [7, 0], vN), (182, .getfield 114, 3, [6, 1], vN), (185, .iload_n 3, 1, [3], vN), (186, .invokevirtual 174, 3, [23, 4], vN), (189, .if_icmp .ne 23, 3, [93], vN), (192, .iload 5, 2, [5], vN), (194, .aload_n 0, 1, [0], vN), (195, .getfield 10, 3, [7, 0], vN), (198, .getfield 114, 3, [6, 1], vN), (201, .iload_n 3, 1, [3], vN), (202, .invokevirtual 177, 3, [24, 4], vN), (205, .if_icmp .ne 7, 3, [93], vN), (208, .iconst 1, 1, [], vI 1), (209, .goto 4, 3, [94], vN), (212, .iconst 0, 1, [], vI 0), (213, .istore 6, 2, [6], vN), (215, .iload 6, 2, [6], vN), (217, .ifCond .ne 6, 3, [99], vN), (220, .bipush (-3), 2, [], vI (-3)), (222, .ireturn, 1, [], vN), (223, .aload_n 0, 1, [0], vN), (224, .bipush 7, 2, [], vI 7), (226, .iload 5, 2, [5], vN), (228, .iload_n 1, 1, [1], vN), (229, .iload_n 2, 1, [2], vN), (230, .iload_n 3, 1, [3], vN), (231, .invokevirtual 123, 3, [9, 7], vN), (234, .ireturn, 1, [], vN)]
def hX8_cases : List (Nat × List Bool) := [(212, [true, true, true, true, false, true, false]), (213, [true, true, true, true, false, true, false])]
def eX8_cases : xE := (8, mX8_cases, tX8_cases, hX8_cases, ceX8)
theorem okX8_cases : xEok eX8_cases := ⟨by decide +kernel, by decide +kernel, by decide +kernel, ceX8_ok, rfl, by decide +kernel⟩
def tX8_write : List xT := [(0, .aload_n 0, 1, [0], vN), (1, .getfield 10, 3, [7, 0], vN), (4, .getfield 114, 3, [6, 1], vN), (7, .invokevirtual 127, 3, [10, 4], vN), (10, .ifCond .eq 6, 3, [7], vN), (13, .bipush (-4), 2, [], vI (-4)), (15, .ireturn, 1, [], vN), (16, .aload_n 0, 1, [0], vN), (17, .getfield 22, 3, [7, 2], vN), (20, .aload_n 0, 1, [0], vN), (21, .getfield 10, 3, [7, 0], vN), (24, .invokevirtual 78, 3, [3, 3], vN), (27, .aload_n 0, 1, [0], vN), (28, .getfield 10, 3, [7, 0], vN), (31, .getfield 114, 3, [6, 1], vN), (34, .iload_n 1, 1, [1], vN), (35, .iload_n 2, 1, [2], vN), (36, .iload_n 3, 1, [3], vN), (37, .iload 4, 2, [4], vN), (39, .iload 5, 2, [5], vN), (41, .invokevirtual 180, 3, [25, 4], vN), (44, .ireturn, 1, [], vN)]
def hX8_write : List (Nat × List Bool) := []
def eX8_write : xE := (8, mX8_write, tX8_write, hX8_write, ceX8)
theorem okX8_write : xEok eX8_write := ⟨by decide +kernel, by decide +kernel, by decide +kernel, ceX8_ok, rfl, by decide +kernel⟩
def tX8_writeMade : List xT := [(0, .aload_n 0, 1, [0], vN), (1, .getfield 10, 3, [7, 0], vN), (4, .getfield 114, 3, [6, 1], vN), (7, .invokevirtual 127, 3, [10, 4], vN), (10, .ifCond .ne 20, 3, [13], vN), (13, .aload_n 0, 1, [0], vN), (14, .getfield 10, 3, [7, 0], vN), (17, .getfield 67, 3, [6, 0], vN), (20, .iload_n 2, 1, [2], vN), (21, .iload_n 3, 1, [3], vN), (22, .iload 4, 2, [4], vN), (24, .invokevirtual 74, 3, [2, 2], vN), (27, .ifCond .ne 6, 3, [15], vN), (30, .bipush (-4), 2, [], vI (-4)), (32, .ireturn, 1, [], vN), (33, .aload_n 0, 1, [0], vN), (34, .getfield 22, 3, [7, 2], vN), (37, .aload_n 0, 1, [0], vN), (38, .getfield 10, 3, [7, 0], vN), (41, .invokevirtual 78, 3, [3, 3], vN), (44, .aload_n 0, 1, [0], vN), (45, .getfield 10, 3, [7, 0], vN), (48, .getfield 67, 3, [6, 0], vN), (51, .iload_n 2, 1, [2], vN), (52, .iload_n 3, 1, [3], vN), (53, .iload 4, 2, [4], vN), (55, .invokevirtual 82, 3, [4, 2], vN), (58, .istore 7, 2, [7], vN), (60, .aload_n 0, 1, [0], vN), (61, .getfield 10, 3, [7, 0], vN), (64, .getfield 114, 3, [6, 1], vN), (67, .iload_n 1, 1, [1], vN), (68, .iload 7, 2, [7], vN), (70, .iload 5, 2, [5], vN), (72, .iload 6, 2, [6], vN), (74, .bipush (-6), 2, [], vI (-6)), (76, .invokevirtual 180, 3, [25, 4], vN), (79, .ireturn, 1, [], vN)]
def hX8_writeMade : List (Nat × List Bool) := []
def eX8_writeMade : xE := (8, mX8_writeMade, tX8_writeMade, hX8_writeMade, ceX8)
theorem okX8_writeMade : xEok eX8_writeMade := ⟨by decide +kernel, by decide +kernel, by decide +kernel, ceX8_ok, rfl, by decide +kernel⟩
def tX8_lines : List xT := [(0, .aload_n 0, 1, [0], vN), (1, .getfield 10, 3, [7, 0], vN), (4, .getfield 114, 3, [6, 1], vN), (7, .getfield 183, 3, [4, 0], vN), (10, .ireturn, 1, [], vN)]
def hX8_lines : List (Nat × List Bool) := []
def eX8_lines : xE := (8, mX8_lines, tX8_lines, hX8_lines, ceX8)
theorem okX8_lines : xEok eX8_lines := ⟨by decide +kernel, by decide +kernel, by decide +kernel, ceX8_ok, rfl, by decide +kernel⟩
def tX8_line : List xT := [(0, .aload_n 0, 1, [0], vN), (1, .getfield 10, 3, [7, 0], vN), (4, .getfield 114, 3, [6, 1], vN), (7, .iload_n 1, 1, [1], vN), (8, .invokevirtual 144, 3, [15, 4], vN), (11, .ifCond .ne 5, 3, [8], vN), (14, .iconst (-1), 1, [], vI (-1)), (15, .ireturn, 1, [], vN), (16, .iload_n 2, 1, [2], vN), (17, .tableswitch 141 0 5 #[39, 54, 69, 84, 109, 129], 39, [58, 10, 17, 24, 31, 42, 52], vN), (56, .aload_n 0, 1, [0], vN), (57, .getfield 10, 3, [7, 0], vN), (60, .getfield 114, 3, [6, 1], vN), (63, .getfield 150, 3, [4, 3], vN), (66, .iload_n 1, 1, [1], vN), (67, .invokevirtual 92, 3, [5, 5], vN), (70, .ireturn, 1, [], vN), (71, .aload_n 0, 1, [0], vN), (72, .getfield 10, 3, [7, 0], vN), (75, .getfield 114, 3, [6, 1], vN), (78, .getfield 186, 3, [4, 4], vN), (81, .iload_n 1, 1, [1], vN), (82, .invokevirtual 92, 3, [5, 5], vN), (85, .ireturn, 1, [], vN), (86, .aload_n 0, 1, [0], vN), (87, .getfield 10, 3, [7, 0], vN), (90, .getfield 114, 3, [6, 1], vN), (93, .getfield 189, 3, [4, 5], vN), (96, .iload_n 1, 1, [1], vN), (97, .invokevirtual 92, 3, [5, 5], vN), (100, .ireturn, 1, [], vN), (101, .aload_n 0, 1, [0], vN), (102, .getfield 10, 3, [7, 0], vN), (105, .getfield 114, 3, [6, 1], vN), (108, .aload_n 0, 1, [0], vN), (109, .getfield 10, 3, [7, 0], vN), (112, .getfield 114, 3, [6, 1], vN), (115, .getfield 189, 3, [4, 5], vN), (118, .iload_n 1, 1, [1], vN), (119, .invokevirtual 92, 3, [5, 5], vN), (122, .invokevirtual 192, 3, [26, 4], vN), (125, .ireturn, 1, [], vN), (126, .aload_n 0, 1, [0], vN), (127, .getfield 10, 3, [7, 0], vN), (130, .getfield 114, 3, [6, 1], vN), (133, .iload_n 1, 1, [1], vN), (134, .invokevirtual 147, 3, [16, 4], vN), (137, .ifCond .eq 7, 3, [50], vN), (140, .iconst 1, 1, [], vI 1), (141, .goto 4, 3, [51], vN), (144, .iconst 0, 1, [], vI 0), (145, .ireturn, 1, [], vN), (146, .aload_n 0, 1, [0], vN), (147, .getfield 10, 3, [7, 0], vN), (150, .getfield 114, 3, [6, 1], vN), (153, .iload_n 1, 1, [1], vN), (154, .invokevirtual 195, 3, [27, 4], vN), (157, .ireturn, 1, [], vN), (158, .bipush (-2), 2, [], vI (-2)), (160, .ireturn, 1, [], vN)]
def hX8_line : List (Nat × List Bool) := []
def eX8_line : xE := (8, mX8_line, tX8_line, hX8_line, ceX8)
theorem okX8_line : xEok eX8_line := ⟨by decide +kernel, by decide +kernel, by decide +kernel, ceX8_ok, rfl, by decide +kernel⟩
def tX8_reference : List xT := [(0, .aload_n 0, 1, [0], vN), (1, .getfield 10, 3, [7, 0], vN), (4, .getfield 114, 3, [6, 1], vN), (7, .iload_n 1, 1, [1], vN), (8, .invokevirtual 144, 3, [15, 4], vN), (11, .ifCond .ne 5, 3, [8], vN), (14, .iconst (-1), 1, [], vI (-1)), (15, .ireturn, 1, [], vN), (16, .aload_n 0, 1, [0], vN), (17, .getfield 10, 3, [7, 0], vN), (20, .getfield 114, 3, [6, 1], vN), (23, .iload_n 1, 1, [1], vN), (24, .iload_n 2, 1, [2], vN), (25, .invokevirtual 198, 3, [28, 4], vN), (28, .istore_n 3, 1, [3], vN), (29, .iload_n 3, 1, [3], vN), (30, .bipush (-6), 2, [], vI (-6)), (32, .if_icmp .ne 7, 3, [20], vN), (35, .iconst (-1), 1, [], vI (-1)), (36, .goto 4, 3, [21], vN), (39, .iload_n 3, 1, [3], vN), (40, .ireturn, 1, [], vN)]
def hX8_reference : List (Nat × List Bool) := []
def eX8_reference : xE := (8, mX8_reference, tX8_reference, hX8_reference, ceX8)
theorem okX8_reference : xEok eX8_reference := ⟨by decide +kernel, by decide +kernel, by decide +kernel, ceX8_ok, rfl, by decide +kernel⟩
def tX8_boxes : List xT := [(0, .aload_n 0, 1, [0], vN), (1, .getfield 10, 3, [7, 0], vN), (4, .getfield 114, 3, [6, 1], vN), (7, .getfield 201, 3, [4, 1], vN), (10, .ireturn, 1, [], vN)]
def hX8_boxes : List (Nat × List Bool) := []
def eX8_boxes : xE := (8, mX8_boxes, tX8_boxes, hX8_boxes, ceX8)
theorem okX8_boxes : xEok eX8_boxes := ⟨by decide +kernel, by decide +kernel, by decide +kernel, ceX8_ok, rfl, by decide +kernel⟩
def tX8_box : List xT := [(0, .aload_n 0, 1, [0], vN), (1, .getfield 10, 3, [7, 0], vN), (4, .getfield 114, 3, [6, 1], vN), (7, .iload_n 1, 1, [1], vN), (8, .invokevirtual 168, 3, [21, 4], vN), (11, .ifCond .ne 5, 3, [8], vN), (14, .iconst (-1), 1, [], vI (-1)), (15, .ireturn, 1, [], vN), (16, .iload_n 2, 1, [2], vN), (17, .tableswitch 96 0 3 #[31, 46, 61, 76], 31, [41, 10, 17, 24, 31], vN), (48, .aload_n 0, 1, [0], vN), (49, .getfield 10, 3, [7, 0], vN), (52, .getfield 114, 3, [6, 1], vN), (55, .getfield 204, 3, [4, 9], vN), (58, .iload_n 1, 1, [1], vN), (59, .invokevirtual 92, 3, [5, 5], vN), (62, .ireturn, 1, [], vN), (63, .aload_n 0, 1, [0], vN), (64, .getfield 10, 3, [7, 0], vN), (67, .getfield 114, 3, [6, 1], vN), (70, .getfield 207, 3, [4, 10], vN), (73, .iload_n 1, 1, [1], vN), (74, .invokevirtual 92, 3, [5, 5], vN), (77, .ireturn, 1, [], vN), (78, .aload_n 0, 1, [0], vN), (79, .getfield 10, 3, [7, 0], vN), (82, .getfield 114, 3, [6, 1], vN), (85, .getfield 210, 3, [4, 11], vN), (88, .iload_n 1, 1, [1], vN), (89, .invokevirtual 92, 3, [5, 5], vN), (92, .ireturn, 1, [], vN), (93, .aload_n 0, 1, [0], vN), (94, .getfield 10, 3, [7, 0], vN), (97, .getfield 114, 3, [6, 1], vN), (100, .iload_n 1, 1, [1], vN), (101, .invokevirtual 171, 3, [22, 4], vN), (104, .ifCond .eq 7, 3, [39], vN), (107, .iconst 1, 1, [], vI 1), (108, .goto 4, 3, [40], vN), (111, .iconst 0, 1, [], vI 0), (112, .ireturn, 1, [], vN), (113, .bipush (-2), 2, [], vI (-2)), (115, .ireturn, 1, [], vN)]
def hX8_box : List (Nat × List Bool) := []
def eX8_box : xE := (8, mX8_box, tX8_box, hX8_box, ceX8)
theorem okX8_box : xEok eX8_box := ⟨by decide +kernel, by decide +kernel, by decide +kernel, ceX8_ok, rfl, by decide +kernel⟩
def tX8_depth : List xT := [(0, .aload_n 0, 1, [0], vN), (1, .getfield 10, 3, [7, 0], vN), (4, .getfield 114, 3, [6, 1], vN), (7, .aload_n 0, 1, [0], vN), (8, .getfield 10, 3, [7, 0], vN), (11, .getfield 114, 3, [6, 1], vN), (14, .getfield 118, 3, [4, 2], vN), (17, .invokevirtual 192, 3, [26, 4], vN), (20, .ireturn, 1, [], vN)]
def hX8_depth : List (Nat × List Bool) := []
def eX8_depth : xE := (8, mX8_depth, tX8_depth, hX8_depth, ceX8)
theorem okX8_depth : xEok eX8_depth := ⟨by decide +kernel, by decide +kernel, by decide +kernel, ceX8_ok, rfl, by decide +kernel⟩
def tX8_needs : List xT := [(0, .aload_n 0, 1, [0], vN), (1, .getfield 10, 3, [7, 0], vN), (4, .getfield 114, 3, [6, 1], vN), (7, .iload_n 1, 1, [1], vN), (8, .invokevirtual 144, 3, [15, 4], vN), (11, .ifCond .ne 7, 3, [8], vN), (14, .ldc2_w 213, 3, [], vL (-1)), (17, .lreturn, 1, [], vN), (18, .aload_n 0, 1, [0], vN), (19, .getfield 10, 3, [7, 0], vN), (22, .getfield 114, 3, [6, 1], vN), (25, .iload_n 1, 1, [1], vN), (26, .invokevirtual 215, 3, [29, 4], vN), (29, .lreturn, 1, [], vN)]
def hX8_needs : List (Nat × List Bool) := []
def eX8_needs : xE := (8, mX8_needs, tX8_needs, hX8_needs, ceX8)
theorem okX8_needs : xEok eX8_needs := ⟨by decide +kernel, by decide +kernel, by decide +kernel, ceX8_ok, rfl, by decide +kernel⟩
def tX8_bypass : List xT := [(0, .aload_n 0, 1, [0], vN), (1, .getfield 10, 3, [7, 0], vN), (4, .getfield 114, 3, [6, 1], vN), (7, .iload_n 1, 1, [1], vN), (8, .invokevirtual 144, 3, [15, 4], vN), (11, .ifCond .ne 5, 3, [8], vN), (14, .iconst (-1), 1, [], vI (-1)), (15, .ireturn, 1, [], vN), (16, .aload_n 0, 1, [0], vN), (17, .getfield 10, 3, [7, 0], vN), (20, .getfield 114, 3, [6, 1], vN), (23, .iload_n 1, 1, [1], vN), (24, .invokevirtual 219, 3, [30, 4], vN), (27, .ireturn, 1, [], vN)]
def hX8_bypass : List (Nat × List Bool) := []
def eX8_bypass : xE := (8, mX8_bypass, tX8_bypass, hX8_bypass, ceX8)
theorem okX8_bypass : xEok eX8_bypass := ⟨by decide +kernel, by decide +kernel, by decide +kernel, ceX8_ok, rfl, by decide +kernel⟩
def tX8_detours : List xT := [(0, .aload_n 0, 1, [0], vN), (1, .getfield 10, 3, [7, 0], vN), (4, .getfield 114, 3, [6, 1], vN), (7, .invokevirtual 222, 3, [31, 4], vN), (10, .ireturn, 1, [], vN)]
def hX8_detours : List (Nat × List Bool) := []
def eX8_detours : xE := (8, mX8_detours, tX8_detours, hX8_detours, ceX8)
theorem okX8_detours : xEok eX8_detours := ⟨by decide +kernel, by decide +kernel, by decide +kernel, ceX8_ok, rfl, by decide +kernel⟩
def tX8_failure : List xT := [(0, .aload_n 0, 1, [0], vN), (1, .getfield 10, 3, [7, 0], vN), (4, .getfield 114, 3, [6, 1], vN), (7, .iload_n 1, 1, [1], vN), (8, .invokevirtual 144, 3, [15, 4], vN), (11, .ifCond .ne 5, 3, [8], vN), (14, .iconst (-1), 1, [], vI (-1)), (15, .ireturn, 1, [], vN), (16, .aload_n 0, 1, [0], vN), (17, .aload_n 0, 1, [0], vN), (18, .getfield 10, 3, [7, 0], vN), (21, .getfield 114, 3, [6, 1], vN), (24, .getfield 189, 3, [4, 5], vN), (27, .iload_n 1, 1, [1], vN), (28, .invokevirtual 92, 3, [5, 5], vN), (31, .aload_n 0, 1, [0], vN), (32, .getfield 10, 3, [7, 0], vN), (35, .getfield 114, 3, [6, 1], vN), (38, .getfield 150, 3, [4, 3], vN), (41, .iload_n 1, 1, [1], vN), (42, .invokevirtual 92, 3, [5, 5], vN), (45, .invokevirtual 225, 3, [32, 7], vN), (48, .ireturn, 1, [], vN)]
def hX8_failure : List (Nat × List Bool) := []
def eX8_failure : xE := (8, mX8_failure, tX8_failure, hX8_failure, ceX8)
theorem okX8_failure : xEok eX8_failure := ⟨by decide +kernel, by decide +kernel, by decide +kernel, ceX8_ok, rfl, by decide +kernel⟩
def tX8_counterexample : List xT := [(0, .aload_n 0, 1, [0], vN), (1, .getfield 10, 3, [7, 0], vN), (4, .getfield 67, 3, [6, 0], vN), (7, .iload_n 1, 1, [1], vN), (8, .invokevirtual 70, 3, [1, 2], vN), (11, .ifCond .ne 5, 3, [8], vN), (14, .iconst (-1), 1, [], vI (-1)), (15, .ireturn, 1, [], vN), (16, .aload_n 0, 1, [0], vN), (17, .aload_n 0, 1, [0], vN), (18, .getfield 10, 3, [7, 0], vN), (21, .getfield 114, 3, [6, 1], vN), (24, .getfield 118, 3, [4, 2], vN), (27, .iload_n 1, 1, [1], vN), (28, .invokevirtual 225, 3, [32, 7], vN), (31, .ireturn, 1, [], vN)]
def hX8_counterexample : List (Nat × List Bool) := []
def eX8_counterexample : xE := (8, mX8_counterexample, tX8_counterexample, hX8_counterexample, ceX8)
theorem okX8_counterexample : xEok eX8_counterexample := ⟨by decide +kernel, by decide +kernel, by decide +kernel, ceX8_ok, rfl, by decide +kernel⟩
def tX8_lowestFailure : List xT := [(0, .iconst 0, 1, [], vI 0), (1, .istore_n 3, 1, [3], vN), (2, .iload_n 3, 1, [3], vN), (3, .bipush 8, 2, [], vI 8), (5, .if_icmp .ge 68, 3, [38], vN), (8, .aload_n 0, 1, [0], vN), (9, .getfield 10, 3, [7, 0], vN), (12, .getfield 67, 3, [6, 0], vN), (15, .iload_n 3, 1, [3], vN), (16, .aload_n 0, 1, [0], vN), (17, .getfield 56, 3, [7, 7], vN), (20, .invokevirtual 110, 3, [8, 2], vN), (23, .aload_n 0, 1, [0], vN), (24, .getfield 10, 3, [7, 0], vN), (27, .getfield 114, 3, [6, 1], vN), (30, .iload_n 1, 1, [1], vN), (31, .aload_n 0, 1, [0], vN), (32, .getfield 56, 3, [7, 7], vN), (35, .invokevirtual 228, 3, [33, 4], vN), (38, .aload_n 0, 1, [0], vN), (39, .getfield 56, 3, [7, 7], vN), (42, .iload_n 2, 1, [2], vN), (43, .invokevirtual 92, 3, [5, 5], vN), (46, .iconst (-1), 1, [], vI (-1)), (47, .ixor, 1, [], vN), (48, .iand, 1, [], vN), (49, .istore 4, 2, [4], vN), (51, .iload 4, 2, [4], vN), (53, .ifCond .eq 14, 3, [36], vN), (56, .iload_n 3, 1, [3], vN), (57, .bipush 32, 2, [], vI 32), (59, .imul, 1, [], vN), (60, .iload 4, 2, [4], vN), (62, .invokestatic 232, 3, [0, 0], vN), (65, .iadd, 1, [], vN), (66, .ireturn, 1, [], vN), (67, .iinc 3 1, 3, [3], vI 1), (70, .goto (-68), 3, [2], vN), (73, .bipush (-6), 2, [], vI (-6)), (75, .ireturn, 1, [], vN)]
def hX8_lowestFailure : List (Nat × List Bool) := [(2, [true, true, true, true, false])]
def eX8_lowestFailure : xE := (8, mX8_lowestFailure, tX8_lowestFailure, hX8_lowestFailure, ceX8)
theorem okX8_lowestFailure : xEok eX8_lowestFailure := ⟨by decide +kernel, by decide +kernel, by decide +kernel, ceX8_ok, rfl, by decide +kernel⟩
def tX8_lowestBit : List xT := [(0, .iload_n 0, 1, [0], vN), (1, .iload_n 0, 1, [0], vN), (2, .ineg, 1, [], vN), (3, .iand, 1, [], vN), (4, .iconst 1, 1, [], vI 1), (5, .isub, 1, [], vN), (6, .invokestatic 235, 3, [1, 0], vN), (9, .ireturn, 1, [], vN)]
def hX8_lowestBit : List (Nat × List Bool) := []
def eX8_lowestBit : xE := (8, mX8_lowestBit, tX8_lowestBit, hX8_lowestBit, ceX8)
theorem okX8_lowestBit : xEok eX8_lowestBit := ⟨by decide +kernel, by decide +kernel, by decide +kernel, ceX8_ok, rfl, by decide +kernel⟩
def tX8_shorten : List xT := [(0, .aload_n 0, 1, [0], vN), (1, .getfield 22, 3, [7, 2], vN), (4, .aload_n 0, 1, [0], vN), (5, .getfield 10, 3, [7, 0], vN), (8, .invokevirtual 78, 3, [3, 3], vN), (11, .aload_n 0, 1, [0], vN), (12, .getfield 10, 3, [7, 0], vN), (15, .getfield 114, 3, [6, 1], vN), (18, .invokevirtual 240, 3, [34, 4], vN), (21, .ireturn, 1, [], vN)]
def hX8_shorten : List (Nat × List Bool) := []
def eX8_shorten : xE := (8, mX8_shorten, tX8_shorten, hX8_shorten, ceX8)
theorem okX8_shorten : xEok eX8_shorten := ⟨by decide +kernel, by decide +kernel, by decide +kernel, ceX8_ok, rfl, by decide +kernel⟩
end
section
def tX8_trim : List xT := [(0, .aload_n 0, 1, [0], vN), (1, .getfield 10, 3, [7, 0], vN), (4, .getfield 114, 3, [6, 1], vN), (7, .iload_n 1, 1, [1], vN), (8, .invokevirtual 144, 3, [15, 4], vN), (11, .ifCond .ne 5, 3, [8], vN), (14, .iconst (-1), 1, [], vI (-1)), (15, .ireturn, 1, [], vN), (16, .aload_n 0, 1, [0], vN), (17, .getfield 10, 3, [7, 0], vN), (20, .getfield 114, 3, [6, 1], vN), (23, .getfield 118, 3, [4, 2], vN), (26, .bipush (-6), 2, [], vI (-6)), (28, .if_icmp .ne 22, 3, [22], vN), (31, .aload_n 0, 1, [0], vN), (32, .getfield 10, 3, [7, 0], vN), (35, .getfield 114, 3, [6, 1], vN), (38, .getfield 189, 3, [4, 5], vN), (41, .iload_n 1, 1, [1], vN), (42, .invokevirtual 92, 3, [5, 5], vN), (45, .bipush (-6), 2, [], vI (-6)), (47, .if_icmp .eq 6, 3, [24], vN), (50, .bipush (-3), 2, [], vI (-3)), (52, .ireturn, 1, [], vN), (53, .aload_n 0, 1, [0], vN), (54, .getfield 22, 3, [7, 2], vN), (57, .aload_n 0, 1, [0], vN), (58, .getfield 10, 3, [7, 0], vN), (61, .invokevirtual 78, 3, [3, 3], vN), (64, .aload_n 0, 1, [0], vN), (65, .getfield 10, 3, [7, 0], vN), (68, .getfield 114, 3, [6, 1], vN), (71, .aload_n 0, 1, [0], vN), (72, .getfield 10, 3, [7, 0], vN), (75, .getfield 114, 3, [6, 1], vN), (78, .iload_n 1, 1, [1], vN), (79, .invokevirtual 215, 3, [29, 4], vN), (82, .invokevirtual 243, 3, [35, 4], vN), (85, .ireturn, 1, [], vN)]
def hX8_trim : List (Nat × List Bool) := []
def eX8_trim : xE := (8, mX8_trim, tX8_trim, hX8_trim, ceX8)
theorem okX8_trim : xEok eX8_trim := ⟨by decide +kernel, by decide +kernel, by decide +kernel, ceX8_ok, rfl, by decide +kernel⟩
def tX8_append : List xT := [(0, .iload_n 1, 1, [1], vN), (1, .bipush 33, 2, [], vI 33), (3, .if_icmp .lt 9, 3, [6], vN), (6, .iload_n 1, 1, [1], vN), (7, .bipush 126, 2, [], vI 126), (9, .if_icmp .le 6, 3, [8], vN), (12, .bipush (-2), 2, [], vI (-2)), (14, .ireturn, 1, [], vN), (15, .aload_n 0, 1, [0], vN), (16, .getfield 29, 3, [7, 3], vN), (19, .getfield 247, 3, [0, 0], vN), (22, .bipush 70, 2, [], vI 70), (24, .if_icmp .lt 6, 3, [15], vN), (27, .bipush (-4), 2, [], vI (-4)), (29, .ireturn, 1, [], vN), (30, .aload_n 0, 1, [0], vN), (31, .getfield 29, 3, [7, 3], vN), (34, .iload_n 1, 1, [1], vN), (35, .invokevirtual 248, 3, [36, 0], vN), (38, .aload_n 0, 1, [0], vN), (39, .getfield 29, 3, [7, 3], vN), (42, .getfield 247, 3, [0, 0], vN), (45, .ireturn, 1, [], vN)]
def hX8_append : List (Nat × List Bool) := []
def eX8_append : xE := (8, mX8_append, tX8_append, hX8_append, ceX8)
theorem okX8_append : xEok eX8_append := ⟨by decide +kernel, by decide +kernel, by decide +kernel, ceX8_ok, rfl, by decide +kernel⟩
def tX8_clearText : List xT := [(0, .aload_n 0, 1, [0], vN), (1, .getfield 29, 3, [7, 3], vN), (4, .getfield 247, 3, [0, 0], vN), (7, .istore_n 1, 1, [1], vN), (8, .aload_n 0, 1, [0], vN), (9, .getfield 29, 3, [7, 3], vN), (12, .iconst 0, 1, [], vI 0), (13, .putfield 247, 3, [0, 0], vN), (16, .iload_n 1, 1, [1], vN), (17, .ireturn, 1, [], vN)]
def hX8_clearText : List (Nat × List Bool) := []
def eX8_clearText : xE := (8, mX8_clearText, tX8_clearText, hX8_clearText, ceX8)
theorem okX8_clearText : xEok eX8_clearText := ⟨by decide +kernel, by decide +kernel, by decide +kernel, ceX8_ok, rfl, by decide +kernel⟩
def tX8_errorPosition : List xT := [(0, .aload_n 0, 1, [0], vN), (1, .getfield 29, 3, [7, 3], vN), (4, .invokevirtual 251, 3, [37, 0], vN), (7, .ireturn, 1, [], vN)]
def hX8_errorPosition : List (Nat × List Bool) := []
def eX8_errorPosition : xE := (8, mX8_errorPosition, tX8_errorPosition, hX8_errorPosition, ceX8)
theorem okX8_errorPosition : xEok eX8_errorPosition := ⟨by decide +kernel, by decide +kernel, by decide +kernel, ceX8_ok, rfl, by decide +kernel⟩
def tX8_read : List xT := [(0, .aload_n 0, 1, [0], vN), (1, .getfield 29, 3, [7, 3], vN), (4, .invokevirtual 251, 3, [37, 0], vN), (7, .bipush (-6), 2, [], vI (-6)), (9, .if_icmp .eq 6, 3, [7], vN), (12, .bipush (-5), 2, [], vI (-5)), (14, .ireturn, 1, [], vN), (15, .aload_n 0, 1, [0], vN), (16, .getfield 43, 3, [7, 5], vN), (19, .aload_n 0, 1, [0], vN), (20, .getfield 10, 3, [7, 0], vN), (23, .getfield 67, 3, [6, 0], vN), (26, .invokevirtual 254, 3, [38, 2], vN), (29, .aload_n 0, 1, [0], vN), (30, .getfield 36, 3, [7, 4], vN), (33, .aload_n 0, 1, [0], vN), (34, .getfield 29, 3, [7, 3], vN), (37, .aload_n 0, 1, [0], vN), (38, .getfield 43, 3, [7, 5], vN), (41, .invokevirtual 258, 3, [39, 1], vN), (44, .istore_n 1, 1, [1], vN), (45, .iload_n 1, 1, [1], vN), (46, .ifCond .ge 6, 3, [25], vN), (49, .bipush (-4), 2, [], vI (-4)), (51, .ireturn, 1, [], vN), (52, .aload_n 0, 1, [0], vN), (53, .getfield 22, 3, [7, 2], vN), (56, .aload_n 0, 1, [0], vN), (57, .getfield 10, 3, [7, 0], vN), (60, .invokevirtual 78, 3, [3, 3], vN), (63, .aload_n 0, 1, [0], vN), (64, .getfield 10, 3, [7, 0], vN), (67, .getfield 67, 3, [6, 0], vN), (70, .aload_n 0, 1, [0], vN), (71, .getfield 43, 3, [7, 5], vN), (74, .invokevirtual 254, 3, [38, 2], vN), (77, .aload_n 0, 1, [0], vN), (78, .getfield 29, 3, [7, 3], vN), (81, .iconst 0, 1, [], vI 0), (82, .putfield 247, 3, [0, 0], vN), (85, .iload_n 1, 1, [1], vN), (86, .ireturn, 1, [], vN)]
def hX8_read : List (Nat × List Bool) := []
def eX8_read : xE := (8, mX8_read, tX8_read, hX8_read, ceX8)
theorem okX8_read : xEok eX8_read := ⟨by decide +kernel, by decide +kernel, by decide +kernel, ceX8_ok, rfl, by decide +kernel⟩
def tX8_undo : List xT := [(0, .aload_n 0, 1, [0], vN), (1, .getfield 22, 3, [7, 2], vN), (4, .getfield 262, 3, [3, 0], vN), (7, .ifCond .ne 6, 3, [6], vN), (10, .bipush (-3), 2, [], vI (-3)), (12, .ireturn, 1, [], vN), (13, .aload_n 0, 1, [0], vN), (14, .getfield 22, 3, [7, 2], vN), (17, .aload_n 0, 1, [0], vN), (18, .getfield 10, 3, [7, 0], vN), (21, .invokevirtual 263, 3, [40, 3], vN), (24, .aload_n 0, 1, [0], vN), (25, .getfield 22, 3, [7, 2], vN), (28, .getfield 262, 3, [3, 0], vN), (31, .ireturn, 1, [], vN)]
def hX8_undo : List (Nat × List Bool) := []
def eX8_undo : xE := (8, mX8_undo, tX8_undo, hX8_undo, ceX8)
theorem okX8_undo : xEok eX8_undo := ⟨by decide +kernel, by decide +kernel, by decide +kernel, ceX8_ok, rfl, by decide +kernel⟩
def tX8_save : List xT := [(0, .aload_n 0, 1, [0], vN), (1, .getfield 16, 3, [7, 1], vN), (4, .aload_n 0, 1, [0], vN), (5, .getfield 10, 3, [7, 0], vN), (8, .invokevirtual 266, 3, [41, 6], vN), (11, .aload_n 0, 1, [0], vN), (12, .iconst 1, 1, [], vI 1), (13, .putfield 59, 3, [7, 8], vI 0), (16, .aload_n 0, 1, [0], vN), (17, .getfield 10, 3, [7, 0], vN), (20, .getfield 114, 3, [6, 1], vN), (23, .getfield 183, 3, [4, 0], vN), (26, .ireturn, 1, [], vN)]
def hX8_save : List (Nat × List Bool) := []
def eX8_save : xE := (8, mX8_save, tX8_save, hX8_save, ceX8)
theorem okX8_save : xEok eX8_save := ⟨by decide +kernel, by decide +kernel, by decide +kernel, ceX8_ok, rfl, by decide +kernel⟩
def tX8_restore : List xT := [(0, .aload_n 0, 1, [0], vN), (1, .getfield 59, 3, [7, 8], vN), (4, .ifCond .ne 6, 3, [5], vN), (7, .bipush (-3), 2, [], vI (-3)), (9, .ireturn, 1, [], vN), (10, .aload_n 0, 1, [0], vN), (11, .getfield 22, 3, [7, 2], vN), (14, .aload_n 0, 1, [0], vN), (15, .getfield 10, 3, [7, 0], vN), (18, .invokevirtual 78, 3, [3, 3], vN), (21, .aload_n 0, 1, [0], vN), (22, .getfield 10, 3, [7, 0], vN), (25, .aload_n 0, 1, [0], vN), (26, .getfield 16, 3, [7, 1], vN), (29, .invokevirtual 266, 3, [41, 6], vN), (32, .aload_n 0, 1, [0], vN), (33, .getfield 10, 3, [7, 0], vN), (36, .getfield 114, 3, [6, 1], vN), (39, .getfield 183, 3, [4, 0], vN), (42, .ireturn, 1, [], vN)]
def hX8_restore : List (Nat × List Bool) := []
def eX8_restore : xE := (8, mX8_restore, tX8_restore, hX8_restore, ceX8)
theorem okX8_restore : xEok eX8_restore := ⟨by decide +kernel, by decide +kernel, by decide +kernel, ceX8_ok, rfl, by decide +kernel⟩
def tX9_in : List xT := [(0, .iload_n 0, 1, [0], vN), (1, .iload_n 1, 1, [1], vN), (2, .if_icmp .lt 12, 3, [8], vN), (5, .iload_n 0, 1, [0], vN), (6, .iload_n 2, 1, [2], vN), (7, .if_icmp .gt 7, 3, [8], vN), (10, .iconst 1, 1, [], vI 1), (11, .goto 4, 3, [9], vN), (14, .iconst 0, 1, [], vI 0), (15, .ireturn, 1, [], vN)]
def hX9_in : List (Nat × List Bool) := []
def eX9_in : xE := (9, mX9_in, tX9_in, hX9_in, ceX9)
theorem okX9_in : xEok eX9_in := ⟨by decide +kernel, by decide +kernel, by decide +kernel, ceX9_ok, rfl, by decide +kernel⟩
def tX9_record : List xT := [(0, .aload_n 0, 1, [0], vN), (1, .getfield 45, 3, [8, 2], vN), (4, .iconst 5, 1, [], vI 5), (5, .if_icmp .ne 44, 3, [27], vN), (8, .iconst 0, 1, [], vI 0), (9, .istore_n 1, 1, [1], vN), (10, .iload_n 1, 1, [1], vN), (11, .sipush 2460, 3, [], vI 2460), (14, .if_icmp .ge 25, 3, [21], vN), (17, .aload_n 0, 1, [0], vN), (18, .getfield 13, 3, [8, 1], vN), (21, .iload_n 1, 1, [1], vN), (22, .aload_n 0, 1, [0], vN), (23, .getfield 13, 3, [8, 1], vN), (26, .iload_n 1, 1, [1], vN), (27, .sipush 615, 3, [], vI 615), (30, .iadd, 1, [], vN), (31, .iaload, 1, [], vN), (32, .iastore, 1, [], vN), (33, .iinc 1 1, 3, [1], vI 1), (36, .goto (-26), 3, [6], vN), (39, .aload_n 0, 1, [0], vN), (40, .dup, 1, [], vN), (41, .getfield 45, 3, [8, 2], vN), (44, .iconst 1, 1, [], vI 1), (45, .isub, 1, [], vN), (46, .putfield 45, 3, [8, 2], vN), (49, .iconst 0, 1, [], vI 0), (50, .istore_n 1, 1, [1], vN), (51, .iload_n 1, 1, [1], vN), (52, .sipush 615, 3, [], vI 615), (55, .if_icmp .ge 30, 3, [47], vN), (58, .aload_n 0, 1, [0], vN), (59, .getfield 13, 3, [8, 1], vN), (62, .aload_n 0, 1, [0], vN), (63, .getfield 45, 3, [8, 2], vN), (66, .sipush 615, 3, [], vI 615), (69, .imul, 1, [], vN), (70, .iload_n 1, 1, [1], vN), (71, .iadd, 1, [], vN), (72, .aload_n 0, 1, [0], vN), (73, .getfield 7, 3, [8, 0], vN), (76, .iload_n 1, 1, [1], vN), (77, .iaload, 1, [], vN), (78, .iastore, 1, [], vN), (79, .iinc 1 1, 3, [1], vI 1), (82, .goto (-31), 3, [29], vN), (85, .aload_n 0, 1, [0], vN), (86, .dup, 1, [], vN), (87, .getfield 45, 3, [8, 2], vN), (90, .iconst 1, 1, [], vI 1), (91, .iadd, 1, [], vN), (92, .putfield 45, 3, [8, 2], vN), (95, .return_, 1, [], vN)]
def hX9_record : List (Nat × List Bool) := [(10, [true, true]), (51, [true, true])]
def eX9_record : xE := (9, mX9_record, tX9_record, hX9_record, ceX9)
theorem okX9_record : xEok eX9_record := ⟨by decide +kernel, by decide +kernel, by decide +kernel, ceX9_ok, rfl, by decide +kernel⟩
def tX9_undo : List xT := [(0, .aload_n 0, 1, [0], vN), (1, .getfield 45, 3, [8, 2], vN), (4, .ifCond .ne 6, 3, [5], vN), (7, .bipush (-3), 2, [], vI (-3)), (9, .ireturn, 1, [], vN), (10, .aload_n 0, 1, [0], vN), (11, .dup, 1, [], vN), (12, .getfield 45, 3, [8, 2], vN), (15, .iconst 1, 1, [], vI 1), (16, .isub, 1, [], vN), (17, .putfield 45, 3, [8, 2], vN), (20, .iconst 0, 1, [], vI 0), (21, .istore_n 1, 1, [1], vN), (22, .iload_n 1, 1, [1], vN), (23, .sipush 615, 3, [], vI 615), (26, .if_icmp .ge 30, 3, [31], vN), (29, .aload_n 0, 1, [0], vN), (30, .getfield 7, 3, [8, 0], vN), (33, .iload_n 1, 1, [1], vN), (34, .aload_n 0, 1, [0], vN), (35, .getfield 13, 3, [8, 1], vN), (38, .aload_n 0, 1, [0], vN), (39, .getfield 45, 3, [8, 2], vN), (42, .sipush 615, 3, [], vI 615), (45, .imul, 1, [], vN), (46, .iload_n 1, 1, [1], vN), (47, .iadd, 1, [], vN), (48, .iaload, 1, [], vN), (49, .iastore, 1, [], vN), (50, .iinc 1 1, 3, [1], vI 1), (53, .goto (-31), 3, [13], vN), (56, .aload_n 0, 1, [0], vN), (57, .getfield 45, 3, [8, 2], vN), (60, .ireturn, 1, [], vN)]
def hX9_undo : List (Nat × List Bool) := [(22, [true, true])]
def eX9_undo : xE := (9, mX9_undo, tX9_undo, hX9_undo, ceX9)
theorem okX9_undo : xEok eX9_undo := ⟨by decide +kernel, by decide +kernel, by decide +kernel, ceX9_ok, rfl, by decide +kernel⟩
def tX9_save : List xT := [(0, .aload_n 0, 1, [0], vN), (1, .iconst 1, 1, [], vI 1), (2, .putfield 49, 3, [8, 4], vI 0), (5, .iconst 0, 1, [], vI 0), (6, .istore_n 1, 1, [1], vN), (7, .iload_n 1, 1, [1], vN), (8, .sipush 615, 3, [], vI 615), (11, .if_icmp .ge 21, 3, [18], vN), (14, .aload_n 0, 1, [0], vN), (15, .getfield 16, 3, [8, 3], vN), (18, .iload_n 1, 1, [1], vN), (19, .aload_n 0, 1, [0], vN), (20, .getfield 7, 3, [8, 0], vN), (23, .iload_n 1, 1, [1], vN), (24, .iaload, 1, [], vN), (25, .iastore, 1, [], vN), (26, .iinc 1 1, 3, [1], vI 1), (29, .goto (-22), 3, [5], vN), (32, .aload_n 0, 1, [0], vN), (33, .getfield 7, 3, [8, 0], vN), (36, .iconst 1, 1, [], vI 1), (37, .iaload, 1, [], vN), (38, .ireturn, 1, [], vN)]
def hX9_save : List (Nat × List Bool) := [(7, [true, true])]
def eX9_save : xE := (9, mX9_save, tX9_save, hX9_save, ceX9)
theorem okX9_save : xEok eX9_save := ⟨by decide +kernel, by decide +kernel, by decide +kernel, ceX9_ok, rfl, by decide +kernel⟩
def tX9_restore : List xT := [(0, .aload_n 0, 1, [0], vN), (1, .getfield 49, 3, [8, 4], vN), (4, .ifCond .ne 6, 3, [5], vN), (7, .bipush (-3), 2, [], vI (-3)), (9, .ireturn, 1, [], vN), (10, .aload_n 0, 1, [0], vN), (11, .invokevirtual 53, 3, [0, 8], vN), (14, .iconst 0, 1, [], vI 0), (15, .istore_n 1, 1, [1], vN), (16, .iload_n 1, 1, [1], vN), (17, .sipush 615, 3, [], vI 615), (20, .if_icmp .ge 21, 3, [22], vN), (23, .aload_n 0, 1, [0], vN), (24, .getfield 7, 3, [8, 0], vN), (27, .iload_n 1, 1, [1], vN), (28, .aload_n 0, 1, [0], vN), (29, .getfield 16, 3, [8, 3], vN), (32, .iload_n 1, 1, [1], vN), (33, .iaload, 1, [], vN), (34, .iastore, 1, [], vN), (35, .iinc 1 1, 3, [1], vI 1), (38, .goto (-22), 3, [9], vN), (41, .aload_n 0, 1, [0], vN), (42, .getfield 7, 3, [8, 0], vN), (45, .iconst 1, 1, [], vI 1), (46, .iaload, 1, [], vN), (47, .ireturn, 1, [], vN)]
def hX9_restore : List (Nat × List Bool) := [(16, [true, true])]
def eX9_restore : xE := (9, mX9_restore, tX9_restore, hX9_restore, ceX9)
theorem okX9_restore : xEok eX9_restore := ⟨by decide +kernel, by decide +kernel, by decide +kernel, ceX9_ok, rfl, by decide +kernel⟩
def tX9_isFormula : List xT := [(0, .iload_n 1, 1, [1], vN), (1, .ifCond .lt 17, 3, [10], vN), (4, .iload_n 1, 1, [1], vN), (5, .aload_n 0, 1, [0], vN), (6, .getfield 7, 3, [8, 0], vN), (9, .iconst 0, 1, [], vI 0), (10, .iaload, 1, [], vN), (11, .if_icmp .ge 7, 3, [10], vN), (14, .iconst 1, 1, [], vI 1), (15, .goto 4, 3, [11], vN), (18, .iconst 0, 1, [], vI 0), (19, .ireturn, 1, [], vN)]
def hX9_isFormula : List (Nat × List Bool) := []
def eX9_isFormula : xE := (9, mX9_isFormula, tX9_isFormula, hX9_isFormula, ceX9)
theorem okX9_isFormula : xEok eX9_isFormula := ⟨by decide +kernel, by decide +kernel, by decide +kernel, ceX9_ok, rfl, by decide +kernel⟩
def tX9_kind : List xT := [(0, .aload_n 0, 1, [0], vN), (1, .getfield 7, 3, [8, 0], vN), (4, .iconst 3, 1, [], vI 3), (5, .iconst 3, 1, [], vI 3), (6, .iload_n 1, 1, [1], vN), (7, .imul, 1, [], vN), (8, .iadd, 1, [], vN), (9, .iaload, 1, [], vN), (10, .ireturn, 1, [], vN)]
def hX9_kind : List (Nat × List Bool) := []
def eX9_kind : xE := (9, mX9_kind, tX9_kind, hX9_kind, ceX9)
theorem okX9_kind : xEok eX9_kind := ⟨by decide +kernel, by decide +kernel, by decide +kernel, ceX9_ok, rfl, by decide +kernel⟩
def tX9_left : List xT := [(0, .aload_n 0, 1, [0], vN), (1, .getfield 7, 3, [8, 0], vN), (4, .iconst 3, 1, [], vI 3), (5, .iconst 3, 1, [], vI 3), (6, .iload_n 1, 1, [1], vN), (7, .imul, 1, [], vN), (8, .iadd, 1, [], vN), (9, .iconst 1, 1, [], vI 1), (10, .iadd, 1, [], vN), (11, .iaload, 1, [], vN), (12, .ireturn, 1, [], vN)]
def hX9_left : List (Nat × List Bool) := []
def eX9_left : xE := (9, mX9_left, tX9_left, hX9_left, ceX9)
theorem okX9_left : xEok eX9_left := ⟨by decide +kernel, by decide +kernel, by decide +kernel, ceX9_ok, rfl, by decide +kernel⟩
def tX9_right : List xT := [(0, .aload_n 0, 1, [0], vN), (1, .getfield 7, 3, [8, 0], vN), (4, .iconst 3, 1, [], vI 3), (5, .iconst 3, 1, [], vI 3), (6, .iload_n 1, 1, [1], vN), (7, .imul, 1, [], vN), (8, .iadd, 1, [], vN), (9, .iconst 2, 1, [], vI 2), (10, .iadd, 1, [], vN), (11, .iaload, 1, [], vN), (12, .ireturn, 1, [], vN)]
def hX9_right : List (Nat × List Bool) := []
def eX9_right : xE := (9, mX9_right, tX9_right, hX9_right, ceX9)
theorem okX9_right : xEok eX9_right := ⟨by decide +kernel, by decide +kernel, by decide +kernel, ceX9_ok, rfl, by decide +kernel⟩
def tX9_find : List xT := [(0, .iconst 0, 1, [], vI 0), (1, .istore 4, 2, [4], vN), (3, .iload 4, 2, [4], vN), (5, .aload_n 0, 1, [0], vN), (6, .getfield 7, 3, [8, 0], vN), (9, .iconst 0, 1, [], vI 0), (10, .iaload, 1, [], vN), (11, .if_icmp .ge 42, 3, [27], vN), (14, .aload_n 0, 1, [0], vN), (15, .iload 4, 2, [4], vN), (17, .invokevirtual 56, 3, [1, 8], vN), (20, .iload_n 1, 1, [1], vN), (21, .if_icmp .ne 26, 3, [25], vN), (24, .aload_n 0, 1, [0], vN), (25, .iload 4, 2, [4], vN), (27, .invokevirtual 60, 3, [2, 8], vN), (30, .iload_n 2, 1, [2], vN), (31, .if_icmp .ne 16, 3, [25], vN), (34, .aload_n 0, 1, [0], vN), (35, .iload 4, 2, [4], vN), (37, .invokevirtual 63, 3, [3, 8], vN), (40, .iload_n 3, 1, [3], vN), (41, .if_icmp .ne 6, 3, [25], vN), (44, .iload 4, 2, [4], vN), (46, .ireturn, 1, [], vN), (47, .iinc 4 1, 3, [4], vI 1), (50, .goto (-47), 3, [2], vN), (53, .bipush (-6), 2, [], vI (-6)), (55, .ireturn, 1, [], vN)]
def hX9_find : List (Nat × List Bool) := [(3, [true, true, true, true, true])]
def eX9_find : xE := (9, mX9_find, tX9_find, hX9_find, ceX9)
theorem okX9_find : xEok eX9_find := ⟨by decide +kernel, by decide +kernel, by decide +kernel, ceX9_ok, rfl, by decide +kernel⟩
def tX9_hasRoom : List xT := [(0, .aload_n 0, 1, [0], vN), (1, .getfield 7, 3, [8, 0], vN), (4, .iconst 0, 1, [], vI 0), (5, .iaload, 1, [], vN), (6, .bipush 60, 2, [], vI 60), (8, .if_icmp .lt 15, 3, [13], vN), (11, .aload_n 0, 1, [0], vN), (12, .iload_n 1, 1, [1], vN), (13, .iload_n 2, 1, [2], vN), (14, .iload_n 3, 1, [3], vN), (15, .invokevirtual 66, 3, [4, 8], vN), (18, .bipush (-6), 2, [], vI (-6)), (20, .if_icmp .eq 7, 3, [15], vN), (23, .iconst 1, 1, [], vI 1), (24, .goto 4, 3, [16], vN), (27, .iconst 0, 1, [], vI 0), (28, .ireturn, 1, [], vN)]
def hX9_hasRoom : List (Nat × List Bool) := []
def eX9_hasRoom : xE := (9, mX9_hasRoom, tX9_hasRoom, hX9_hasRoom, ceX9)
theorem okX9_hasRoom : xEok eX9_hasRoom := ⟨by decide +kernel, by decide +kernel, by decide +kernel, ceX9_ok, rfl, by decide +kernel⟩
def tX9_make : List xT := [(0, .aload_n 0, 1, [0], vN), (1, .iload_n 1, 1, [1], vN), (2, .iload_n 2, 1, [2], vN), (3, .iload_n 3, 1, [3], vN), (4, .invokevirtual 66, 3, [4, 8], vN), (7, .istore 4, 2, [4], vN), (9, .iload 4, 2, [4], vN), (11, .bipush (-6), 2, [], vI (-6)), (13, .if_icmp .eq 6, 3, [11], vN), (16, .iload 4, 2, [4], vN), (18, .ireturn, 1, [], vN), (19, .iconst 3, 1, [], vI 3), (20, .iconst 3, 1, [], vI 3), (21, .aload_n 0, 1, [0], vN), (22, .getfield 7, 3, [8, 0], vN), (25, .iconst 0, 1, [], vI 0), (26, .iaload, 1, [], vN), (27, .imul, 1, [], vN), (28, .iadd, 1, [], vN), (29, .istore 5, 2, [5], vN), (31, .aload_n 0, 1, [0], vN), (32, .getfield 7, 3, [8, 0], vN), (35, .iload 5, 2, [5], vN), (37, .iload_n 1, 1, [1], vN), (38, .iastore, 1, [], vN), (39, .aload_n 0, 1, [0], vN), (40, .getfield 7, 3, [8, 0], vN), (43, .iload 5, 2, [5], vN), (45, .iconst 1, 1, [], vI 1), (46, .iadd, 1, [], vN), (47, .iload_n 2, 1, [2], vN), (48, .iastore, 1, [], vN), (49, .aload_n 0, 1, [0], vN), (50, .getfield 7, 3, [8, 0], vN), (53, .iload 5, 2, [5], vN), (55, .iconst 2, 1, [], vI 2), (56, .iadd, 1, [], vN), (57, .iload_n 3, 1, [3], vN), (58, .iastore, 1, [], vN), (59, .aload_n 0, 1, [0], vN), (60, .getfield 7, 3, [8, 0], vN), (63, .iconst 0, 1, [], vI 0), (64, .dup2, 1, [], vN), (65, .iaload, 1, [], vN), (66, .iconst 1, 1, [], vI 1), (67, .iadd, 1, [], vN), (68, .iastore, 1, [], vN), (69, .aload_n 0, 1, [0], vN), (70, .getfield 7, 3, [8, 0], vN), (73, .iconst 0, 1, [], vI 0), (74, .iaload, 1, [], vN), (75, .iconst 1, 1, [], vI 1), (76, .isub, 1, [], vN), (77, .ireturn, 1, [], vN)]
def hX9_make : List (Nat × List Bool) := []
def eX9_make : xE := (9, mX9_make, tX9_make, hX9_make, ceX9)
theorem okX9_make : xEok eX9_make := ⟨by decide +kernel, by decide +kernel, by decide +kernel, ceX9_ok, rfl, by decide +kernel⟩
def tX9_makeOne : List xT := [(0, .aload_n 0, 1, [0], vN), (1, .iload_n 1, 1, [1], vN), (2, .iload_n 2, 1, [2], vN), (3, .iload_n 3, 1, [3], vN), (4, .invokevirtual 70, 3, [5, 8], vN), (7, .ifCond .ne 6, 3, [8], vN), (10, .bipush (-4), 2, [], vI (-4)), (12, .ireturn, 1, [], vN), (13, .aload_n 0, 1, [0], vN), (14, .invokevirtual 53, 3, [0, 8], vN), (17, .aload_n 0, 1, [0], vN), (18, .iload_n 1, 1, [1], vN), (19, .iload_n 2, 1, [2], vN), (20, .iload_n 3, 1, [3], vN), (21, .invokevirtual 74, 3, [6, 8], vN), (24, .ireturn, 1, [], vN)]
def hX9_makeOne : List (Nat × List Bool) := []
def eX9_makeOne : xE := (9, mX9_makeOne, tX9_makeOne, hX9_makeOne, ceX9)
theorem okX9_makeOne : xEok eX9_makeOne := ⟨by decide +kernel, by decide +kernel, by decide +kernel, ceX9_ok, rfl, by decide +kernel⟩
def tX9_atom : List xT := [(0, .iload_n 1, 1, [1], vN), (1, .iconst 0, 1, [], vI 0), (2, .bipush 7, 2, [], vI 7), (4, .invokestatic 77, 3, [0, 0], vN), (7, .ifCond .eq 14, 3, [11], vN), (10, .aload_n 0, 1, [0], vN), (11, .iconst 0, 1, [], vI 0), (12, .iload_n 1, 1, [1], vN), (13, .bipush (-6), 2, [], vI (-6)), (15, .invokevirtual 80, 3, [7, 8], vN), (18, .goto 4, 3, [12], vN), (21, .iconst (-1), 1, [], vI (-1)), (22, .ireturn, 1, [], vN)]
def hX9_atom : List (Nat × List Bool) := []
def eX9_atom : xE := (9, mX9_atom, tX9_atom, hX9_atom, ceX9)
theorem okX9_atom : xEok eX9_atom := ⟨by decide +kernel, by decide +kernel, by decide +kernel, ceX9_ok, rfl, by decide +kernel⟩
def tX9_falsum : List xT := [(0, .aload_n 0, 1, [0], vN), (1, .iconst 1, 1, [], vI 1), (2, .bipush (-6), 2, [], vI (-6)), (4, .bipush (-6), 2, [], vI (-6)), (6, .invokevirtual 80, 3, [7, 8], vN), (9, .ireturn, 1, [], vN)]
def hX9_falsum : List (Nat × List Bool) := []
def eX9_falsum : xE := (9, mX9_falsum, tX9_falsum, hX9_falsum, ceX9)
theorem okX9_falsum : xEok eX9_falsum := ⟨by decide +kernel, by decide +kernel, by decide +kernel, ceX9_ok, rfl, by decide +kernel⟩
def tX9_not : List xT := [(0, .aload_n 0, 1, [0], vN), (1, .iload_n 1, 1, [1], vN), (2, .invokevirtual 83, 3, [8, 8], vN), (5, .ifCond .eq 14, 3, [10], vN), (8, .aload_n 0, 1, [0], vN), (9, .iconst 2, 1, [], vI 2), (10, .iload_n 1, 1, [1], vN), (11, .bipush (-6), 2, [], vI (-6)), (13, .invokevirtual 80, 3, [7, 8], vN), (16, .goto 4, 3, [11], vN), (19, .iconst (-1), 1, [], vI (-1)), (20, .ireturn, 1, [], vN)]
def hX9_not : List (Nat × List Bool) := []
def eX9_not : xE := (9, mX9_not, tX9_not, hX9_not, ceX9)
theorem okX9_not : xEok eX9_not := ⟨by decide +kernel, by decide +kernel, by decide +kernel, ceX9_ok, rfl, by decide +kernel⟩
def tX9_pair : List xT := [(0, .aload_n 0, 1, [0], vN), (1, .iload_n 2, 1, [2], vN), (2, .invokevirtual 83, 3, [8, 8], vN), (5, .ifCond .eq 11, 3, [8], vN), (8, .aload_n 0, 1, [0], vN), (9, .iload_n 3, 1, [3], vN), (10, .invokevirtual 83, 3, [8, 8], vN), (13, .ifCond .ne 5, 3, [10], vN), (16, .iconst (-1), 1, [], vI (-1)), (17, .ireturn, 1, [], vN), (18, .iload_n 1, 1, [1], vN), (19, .iconst 3, 1, [], vI 3), (20, .iconst 5, 1, [], vI 5), (21, .invokestatic 77, 3, [0, 0], vN), (24, .ifCond .eq 13, 3, [21], vN), (27, .aload_n 0, 1, [0], vN), (28, .iload_n 1, 1, [1], vN), (29, .iload_n 2, 1, [2], vN), (30, .iload_n 3, 1, [3], vN), (31, .invokevirtual 80, 3, [7, 8], vN), (34, .goto 5, 3, [22], vN), (37, .bipush (-2), 2, [], vI (-2)), (39, .ireturn, 1, [], vN)]
def hX9_pair : List (Nat × List Bool) := []
def eX9_pair : xE := (9, mX9_pair, tX9_pair, hX9_pair, ceX9)
theorem okX9_pair : xEok eX9_pair := ⟨by decide +kernel, by decide +kernel, by decide +kernel, ceX9_ok, rfl, by decide +kernel⟩
def tX9_formulas : List xT := [(0, .aload_n 0, 1, [0], vN), (1, .getfield 7, 3, [8, 0], vN), (4, .iconst 0, 1, [], vI 0), (5, .iaload, 1, [], vN), (6, .ireturn, 1, [], vN)]
def hX9_formulas : List (Nat × List Bool) := []
def eX9_formulas : xE := (9, mX9_formulas, tX9_formulas, hX9_formulas, ceX9)
theorem okX9_formulas : xEok eX9_formulas := ⟨by decide +kernel, by decide +kernel, by decide +kernel, ceX9_ok, rfl, by decide +kernel⟩
def tX9_part : List xT := [(0, .aload_n 0, 1, [0], vN), (1, .iload_n 1, 1, [1], vN), (2, .invokevirtual 83, 3, [8, 8], vN), (5, .ifCond .ne 5, 3, [6], vN), (8, .iconst (-1), 1, [], vI (-1)), (9, .ireturn, 1, [], vN), (10, .iload_n 2, 1, [2], vN), (11, .iconst 0, 1, [], vI 0), (12, .iconst 2, 1, [], vI 2), (13, .invokestatic 77, 3, [0, 0], vN), (16, .ifCond .eq 18, 3, [22], vN), (19, .aload_n 0, 1, [0], vN), (20, .getfield 7, 3, [8, 0], vN), (23, .iconst 3, 1, [], vI 3), (24, .iconst 3, 1, [], vI 3), (25, .iload_n 1, 1, [1], vN), (26, .imul, 1, [], vN), (27, .iadd, 1, [], vN), (28, .iload_n 2, 1, [2], vN), (29, .iadd, 1, [], vN), (30, .iaload, 1, [], vN), (31, .goto 5, 3, [23], vN), (34, .bipush (-2), 2, [], vI (-2)), (36, .ireturn, 1, [], vN)]
def hX9_part : List (Nat × List Bool) := []
def eX9_part : xE := (9, mX9_part, tX9_part, hX9_part, ceX9)
theorem okX9_part : xEok eX9_part := ⟨by decide +kernel, by decide +kernel, by decide +kernel, ceX9_ok, rfl, by decide +kernel⟩
def tX9_measure : List xT := [(0, .iconst 0, 1, [], vI 0), (1, .istore_n 1, 1, [1], vN), (2, .iload_n 1, 1, [1], vN), (3, .aload_n 0, 1, [0], vN), (4, .getfield 7, 3, [8, 0], vN), (7, .iconst 0, 1, [], vI 0), (8, .iaload, 1, [], vN), (9, .if_icmp .ge 88, 3, [57], vN), (12, .aload_n 0, 1, [0], vN), (13, .iload_n 1, 1, [1], vN), (14, .invokevirtual 56, 3, [1, 8], vN), (17, .iconst 2, 1, [], vI 2), (18, .if_icmp .ge 7, 3, [15], vN), (21, .iconst 1, 1, [], vI 1), (22, .goto 50, 3, [44], vN), (25, .aload_n 0, 1, [0], vN), (26, .iload_n 1, 1, [1], vN), (27, .invokevirtual 56, 3, [1, 8], vN), (30, .iconst 2, 1, [], vI 2), (31, .if_icmp .ne 18, 3, [29], vN), (34, .iconst 1, 1, [], vI 1), (35, .aload_n 0, 1, [0], vN), (36, .getfield 23, 3, [8, 7], vN), (39, .aload_n 0, 1, [0], vN), (40, .iload_n 1, 1, [1], vN), (41, .invokevirtual 60, 3, [2, 8], vN), (44, .iaload, 1, [], vN), (45, .iadd, 1, [], vN), (46, .goto 26, 3, [44], vN), (49, .iconst 3, 1, [], vI 3), (50, .aload_n 0, 1, [0], vN), (51, .getfield 23, 3, [8, 7], vN), (54, .aload_n 0, 1, [0], vN), (55, .iload_n 1, 1, [1], vN), (56, .invokevirtual 60, 3, [2, 8], vN), (59, .iaload, 1, [], vN), (60, .iadd, 1, [], vN), (61, .aload_n 0, 1, [0], vN), (62, .getfield 23, 3, [8, 7], vN), (65, .aload_n 0, 1, [0], vN), (66, .iload_n 1, 1, [1], vN), (67, .invokevirtual 63, 3, [3, 8], vN), (70, .iaload, 1, [], vN), (71, .iadd, 1, [], vN), (72, .istore_n 2, 1, [2], vN), (73, .aload_n 0, 1, [0], vN), (74, .getfield 23, 3, [8, 7], vN), (77, .iload_n 1, 1, [1], vN), (78, .iload_n 2, 1, [2], vN), (79, .ldc 87, 2, [], vI 1000000), (81, .if_icmp .le 8, 3, [53], vN), (84, .ldc 87, 2, [], vI 1000000), (86, .goto 4, 3, [54], vN), (89, .iload_n 2, 1, [2], vN), (90, .iastore, 1, [], vN), (91, .iinc 1 1, 3, [1], vI 1), (94, .goto (-92), 3, [2], vN), (97, .return_, 1, [], vN)]
def hX9_measure : List (Nat × List Bool) := [(2, [true, true, false])]
def eX9_measure : xE := (9, mX9_measure, tX9_measure, hX9_measure, ceX9)
theorem okX9_measure : xEok eX9_measure := ⟨by decide +kernel, by decide +kernel, by decide +kernel, ceX9_ok, rfl, by decide +kernel⟩
def tX9_length : List xT := [(0, .aload_n 0, 1, [0], vN), (1, .iload_n 1, 1, [1], vN), (2, .invokevirtual 83, 3, [8, 8], vN), (5, .ifCond .ne 5, 3, [6], vN), (8, .iconst (-1), 1, [], vI (-1)), (9, .ireturn, 1, [], vN), (10, .aload_n 0, 1, [0], vN), (11, .invokevirtual 88, 3, [9, 8], vN), (14, .aload_n 0, 1, [0], vN), (15, .getfield 23, 3, [8, 7], vN), (18, .iload_n 1, 1, [1], vN), (19, .iaload, 1, [], vN), (20, .ireturn, 1, [], vN)]
def hX9_length : List (Nat × List Bool) := []
def eX9_length : xE := (9, mX9_length, tX9_length, hX9_length, ceX9)
theorem okX9_length : xEok eX9_length := ⟨by decide +kernel, by decide +kernel, by decide +kernel, ceX9_ok, rfl, by decide +kernel⟩
def tX9_character : List xT := [(0, .aload_n 0, 1, [0], vN), (1, .iload_n 1, 1, [1], vN), (2, .invokevirtual 83, 3, [8, 8], vN), (5, .ifCond .ne 5, 3, [6], vN), (8, .iconst (-1), 1, [], vI (-1)), (9, .ireturn, 1, [], vN), (10, .aload_n 0, 1, [0], vN), (11, .invokevirtual 88, 3, [9, 8], vN), (14, .iload_n 2, 1, [2], vN), (15, .iconst 0, 1, [], vI 0), (16, .aload_n 0, 1, [0], vN), (17, .getfield 23, 3, [8, 7], vN), (20, .iload_n 1, 1, [1], vN), (21, .iaload, 1, [], vN), (22, .iconst 1, 1, [], vI 1), (23, .isub, 1, [], vN), (24, .invokestatic 77, 3, [0, 0], vN), (27, .ifCond .ne 5, 3, [20], vN), (30, .iconst (-1), 1, [], vI (-1)), (31, .ireturn, 1, [], vN), (32, .iload_n 1, 1, [1], vN), (33, .istore_n 3, 1, [3], vN), (34, .iload_n 2, 1, [2], vN), (35, .istore 4, 2, [4], vN), (37, .iload 4, 2, [4], vN), (39, .ifCond .le 134, 3, [96], vN), (42, .aload_n 0, 1, [0], vN), (43, .iload_n 3, 1, [3], vN), (44, .invokevirtual 56, 3, [1, 8], vN), (47, .iconst 2, 1, [], vI 2), (48, .if_icmp .ne 15, 3, [37], vN), (51, .aload_n 0, 1, [0], vN), (52, .iload_n 3, 1, [3], vN), (53, .invokevirtual 60, 3, [2, 8], vN), (56, .istore_n 3, 1, [3], vN), (57, .iinc 4 (-1), 3, [4], vI (-1)), (60, .goto (-23), 3, [24], vN), (63, .iload 4, 2, [4], vN), (65, .aload_n 0, 1, [0], vN), (66, .getfield 23, 3, [8, 7], vN), (69, .aload_n 0, 1, [0], vN), (70, .iload_n 3, 1, [3], vN), (71, .invokevirtual 60, 3, [2, 8], vN), (74, .iaload, 1, [], vN), (75, .if_icmp .gt 15, 3, [51], vN), (78, .iinc 4 (-1), 3, [4], vI (-1)), (81, .aload_n 0, 1, [0], vN), (82, .iload_n 3, 1, [3], vN), (83, .invokevirtual 60, 3, [2, 8], vN), (86, .istore_n 3, 1, [3], vN), (87, .goto (-50), 3, [24], vN), (90, .iload 4, 2, [4], vN), (92, .iconst 1, 1, [], vI 1), (93, .aload_n 0, 1, [0], vN), (94, .getfield 23, 3, [8, 7], vN), (97, .aload_n 0, 1, [0], vN), (98, .iload_n 3, 1, [3], vN), (99, .invokevirtual 60, 3, [2, 8], vN), (102, .iaload, 1, [], vN), (103, .iadd, 1, [], vN), (104, .isub, 1, [], vN), (105, .istore 4, 2, [4], vN), (107, .iload 4, 2, [4], vN), (109, .ifCond .ne 34, 3, [80], vN), (112, .aload_n 0, 1, [0], vN), (113, .iload_n 3, 1, [3], vN), (114, .invokevirtual 56, 3, [1, 8], vN), (117, .iconst 3, 1, [], vI 3), (118, .if_icmp .ne 8, 3, [71], vN), (121, .bipush 38, 2, [], vI 38), (123, .goto 19, 3, [79], vN), (126, .aload_n 0, 1, [0], vN), (127, .iload_n 3, 1, [3], vN), (128, .invokevirtual 56, 3, [1, 8], vN), (131, .iconst 4, 1, [], vI 4), (132, .if_icmp .ne 8, 3, [78], vN), (135, .bipush 124, 2, [], vI 124), (137, .goto 5, 3, [79], vN), (140, .bipush 62, 2, [], vI 62), (142, .ireturn, 1, [], vN), (143, .iinc 4 (-1), 3, [4], vI (-1)), (146, .iload 4, 2, [4], vN), (148, .aload_n 0, 1, [0], vN), (149, .getfield 23, 3, [8, 7], vN), (152, .aload_n 0, 1, [0], vN), (153, .iload_n 3, 1, [3], vN), (154, .invokevirtual 63, 3, [3, 8], vN), (157, .iaload, 1, [], vN), (158, .if_icmp .ne 6, 3, [91], vN), (161, .bipush 41, 2, [], vI 41), (163, .ireturn, 1, [], vN), (164, .aload_n 0, 1, [0], vN), (165, .iload_n 3, 1, [3], vN), (166, .invokevirtual 63, 3, [3, 8], vN), (169, .istore_n 3, 1, [3], vN), (170, .goto (-133), 3, [24], vN), (173, .aload_n 0, 1, [0], vN), (174, .iload_n 3, 1, [3], vN), (175, .invokevirtual 56, 3, [1, 8], vN), (178, .ifCond .ne 14, 3, [106], vN), (181, .bipush 97, 2, [], vI 97), (183, .aload_n 0, 1, [0], vN), (184, .iload_n 3, 1, [3], vN), (185, .invokevirtual 60, 3, [2, 8], vN), (188, .iadd, 1, [], vN), (189, .goto 33, 3, [121], vN), (192, .aload_n 0, 1, [0], vN), (193, .iload_n 3, 1, [3], vN), (194, .invokevirtual 56, 3, [1, 8], vN), (197, .iconst 1, 1, [], vI 1), (198, .if_icmp .ne 8, 3, [113], vN), (201, .bipush 35, 2, [], vI 35), (203, .goto 19, 3, [121], vN), (206, .aload_n 0, 1, [0], vN), (207, .iload_n 3, 1, [3], vN), (208, .invokevirtual 56, 3, [1, 8], vN), (211, .iconst 2, 1, [], vI 2), (212, .if_icmp .ne 8, 3, [120], vN), (215, .bipush 126, 2, [], vI 126), (217, .goto 5, 3, [121], vN), (220, .bipush 40, 2, [], vI 40), (222, .ireturn, 1, [], vN)]
def hX9_character : List (Nat × List Bool) := [(37, [true, false, false, true, true])]
def eX9_character : xE := (9, mX9_character, tX9_character, hX9_character, ceX9)
theorem okX9_character : xEok eX9_character := ⟨by decide +kernel, by decide +kernel, by decide +kernel, ceX9_ok, rfl, by decide +kernel⟩
def tX9_evaluate : List xT := [(0, .iconst 0, 1, [], vI 0), (1, .istore_n 2, 1, [2], vN), (2, .iload_n 2, 1, [2], vN), (3, .aload_n 0, 1, [0], vN), (4, .getfield 7, 3, [8, 0], vN), (7, .iconst 0, 1, [], vI 0), (8, .iaload, 1, [], vN), (9, .if_icmp .ge 213, 3, [109], vN), (12, .aload_n 0, 1, [0], vN), (13, .iload_n 2, 1, [2], vN), (14, .invokevirtual 60, 3, [2, 8], vN), (17, .istore_n 3, 1, [3], vN), (18, .aload_n 0, 1, [0], vN), (19, .iload_n 2, 1, [2], vN), (20, .invokevirtual 63, 3, [3, 8], vN), (23, .istore 4, 2, [4], vN), (25, .aload_n 0, 1, [0], vN), (26, .iload_n 2, 1, [2], vN), (27, .invokevirtual 56, 3, [1, 8], vN), (30, .tableswitch 156 0 4 #[34, 57, 67, 90, 123], 34, [90, 20, 35, 41, 54, 72], vN), (64, .aload_n 0, 1, [0], vN), (65, .getfield 26, 3, [8, 8], vN), (68, .iload_n 2, 1, [2], vN), (69, .iload_n 1, 1, [1], vN), (70, .iload_n 3, 1, [3], vN), (71, .ishr, 1, [], vN), (72, .iconst 1, 1, [], vI 1), (73, .iand, 1, [], vN), (74, .iconst 1, 1, [], vI 1), (75, .if_icmp .ne 7, 3, [32], vN), (78, .iconst 1, 1, [], vI 1), (79, .goto 4, 3, [33], vN), (82, .iconst 0, 1, [], vI 0), (83, .bastore, 1, [], vN), (84, .goto 132, 3, [107], vN), (87, .aload_n 0, 1, [0], vN), (88, .getfield 26, 3, [8, 8], vN), (91, .iload_n 2, 1, [2], vN), (92, .iconst 0, 1, [], vI 0), (93, .bastore, 1, [], vN), (94, .goto 122, 3, [107], vN), (97, .aload_n 0, 1, [0], vN), (98, .getfield 26, 3, [8, 8], vN), (101, .iload_n 2, 1, [2], vN), (102, .aload_n 0, 1, [0], vN), (103, .getfield 26, 3, [8, 8], vN), (106, .iload_n 3, 1, [3], vN), (107, .baload, 1, [], vN), (108, .ifCond .ne 7, 3, [51], vN), (111, .iconst 1, 1, [], vI 1), (112, .goto 4, 3, [52], vN), (115, .iconst 0, 1, [], vI 0), (116, .bastore, 1, [], vN), (117, .goto 99, 3, [107], vN), (120, .aload_n 0, 1, [0], vN), (121, .getfield 26, 3, [8, 8], vN), (124, .iload_n 2, 1, [2], vN), (125, .aload_n 0, 1, [0], vN), (126, .getfield 26, 3, [8, 8], vN), (129, .iload_n 3, 1, [3], vN), (130, .baload, 1, [], vN), (131, .ifCond .eq 17, 3, [69], vN), (134, .aload_n 0, 1, [0], vN), (135, .getfield 26, 3, [8, 8], vN), (138, .iload 4, 2, [4], vN), (140, .baload, 1, [], vN), (141, .ifCond .eq 7, 3, [69], vN), (144, .iconst 1, 1, [], vI 1), (145, .goto 4, 3, [70], vN), (148, .iconst 0, 1, [], vI 0), (149, .bastore, 1, [], vN), (150, .goto 66, 3, [107], vN), (153, .aload_n 0, 1, [0], vN), (154, .getfield 26, 3, [8, 8], vN), (157, .iload_n 2, 1, [2], vN), (158, .aload_n 0, 1, [0], vN), (159, .getfield 26, 3, [8, 8], vN), (162, .iload_n 3, 1, [3], vN), (163, .baload, 1, [], vN), (164, .ifCond .ne 13, 3, [85], vN), (167, .aload_n 0, 1, [0], vN), (168, .getfield 26, 3, [8, 8], vN), (171, .iload 4, 2, [4], vN), (173, .baload, 1, [], vN), (174, .ifCond .eq 7, 3, [87], vN), (177, .iconst 1, 1, [], vI 1), (178, .goto 4, 3, [88], vN), (181, .iconst 0, 1, [], vI 0), (182, .bastore, 1, [], vN), (183, .goto 33, 3, [107], vN), (186, .aload_n 0, 1, [0], vN), (187, .getfield 26, 3, [8, 8], vN), (190, .iload_n 2, 1, [2], vN), (191, .aload_n 0, 1, [0], vN), (192, .getfield 26, 3, [8, 8], vN), (195, .iload_n 3, 1, [3], vN), (196, .baload, 1, [], vN), (197, .ifCond .eq 13, 3, [103], vN), (200, .aload_n 0, 1, [0], vN), (201, .getfield 26, 3, [8, 8], vN), (204, .iload 4, 2, [4], vN), (206, .baload, 1, [], vN), (207, .ifCond .eq 7, 3, [105], vN), (210, .iconst 1, 1, [], vI 1), (211, .goto 4, 3, [106], vN), (214, .iconst 0, 1, [], vI 0), (215, .bastore, 1, [], vN), (216, .iinc 2 1, 3, [2], vI 1), (219, .goto (-217), 3, [2], vN), (222, .return_, 1, [], vN)]
def hX9_evaluate : List (Nat × List Bool) := [(2, [true, true, true, false, false])]
def eX9_evaluate : xE := (9, mX9_evaluate, tX9_evaluate, hX9_evaluate, ceX9)
theorem okX9_evaluate : xEok eX9_evaluate := ⟨by decide +kernel, by decide +kernel, by decide +kernel, ceX9_ok, rfl, by decide +kernel⟩
def tX9_isTrue : List xT := [(0, .aload_n 0, 1, [0], vN), (1, .iload_n 1, 1, [1], vN), (2, .invokevirtual 83, 3, [8, 8], vN), (5, .ifCond .ne 5, 3, [6], vN), (8, .iconst (-1), 1, [], vI (-1)), (9, .ireturn, 1, [], vN), (10, .iload_n 2, 1, [2], vN), (11, .iconst 0, 1, [], vI 0), (12, .sipush 255, 3, [], vI 255), (15, .invokestatic 77, 3, [0, 0], vN), (18, .ifCond .ne 6, 3, [13], vN), (21, .bipush (-2), 2, [], vI (-2)), (23, .ireturn, 1, [], vN), (24, .aload_n 0, 1, [0], vN), (25, .iload_n 2, 1, [2], vN), (26, .invokevirtual 91, 3, [10, 8], vN), (29, .aload_n 0, 1, [0], vN), (30, .getfield 26, 3, [8, 8], vN), (33, .iload_n 1, 1, [1], vN), (34, .baload, 1, [], vN), (35, .ifCond .eq 7, 3, [23], vN), (38, .iconst 1, 1, [], vI 1), (39, .goto 4, 3, [24], vN), (42, .iconst 0, 1, [], vI 0), (43, .ireturn, 1, [], vN)]
def hX9_isTrue : List (Nat × List Bool) := []
def eX9_isTrue : xE := (9, mX9_isTrue, tX9_isTrue, hX9_isTrue, ceX9)
theorem okX9_isTrue : xEok eX9_isTrue := ⟨by decide +kernel, by decide +kernel, by decide +kernel, ceX9_ok, rfl, by decide +kernel⟩
def tX9_isLine : List xT := [(0, .iload_n 1, 1, [1], vN), (1, .ifCond .lt 17, 3, [10], vN), (4, .iload_n 1, 1, [1], vN), (5, .aload_n 0, 1, [0], vN), (6, .getfield 7, 3, [8, 0], vN), (9, .iconst 1, 1, [], vI 1), (10, .iaload, 1, [], vN), (11, .if_icmp .ge 7, 3, [10], vN), (14, .iconst 1, 1, [], vI 1), (15, .goto 4, 3, [11], vN), (18, .iconst 0, 1, [], vI 0), (19, .ireturn, 1, [], vN)]
def hX9_isLine : List (Nat × List Bool) := []
def eX9_isLine : xE := (9, mX9_isLine, tX9_isLine, hX9_isLine, ceX9)
theorem okX9_isLine : xEok eX9_isLine := ⟨by decide +kernel, by decide +kernel, by decide +kernel, ceX9_ok, rfl, by decide +kernel⟩
def tX9_isBox : List xT := [(0, .iload_n 1, 1, [1], vN), (1, .ifCond .lt 17, 3, [10], vN), (4, .iload_n 1, 1, [1], vN), (5, .aload_n 0, 1, [0], vN), (6, .getfield 7, 3, [8, 0], vN), (9, .iconst 2, 1, [], vI 2), (10, .iaload, 1, [], vN), (11, .if_icmp .ge 7, 3, [10], vN), (14, .iconst 1, 1, [], vI 1), (15, .goto 4, 3, [11], vN), (18, .iconst 0, 1, [], vI 0), (19, .ireturn, 1, [], vN)]
def hX9_isBox : List (Nat × List Bool) := []
def eX9_isBox : xE := (9, mX9_isBox, tX9_isBox, hX9_isBox, ceX9)
theorem okX9_isBox : xEok eX9_isBox := ⟨by decide +kernel, by decide +kernel, by decide +kernel, ceX9_ok, rfl, by decide +kernel⟩
def tX9_formulaOf : List xT := [(0, .aload_n 0, 1, [0], vN), (1, .getfield 7, 3, [8, 0], vN), (4, .sipush 183, 3, [], vI 183), (7, .bipush 6, 2, [], vI 6), (9, .iload_n 1, 1, [1], vN), (10, .imul, 1, [], vN), (11, .iadd, 1, [], vN), (12, .iaload, 1, [], vN), (13, .ireturn, 1, [], vN)]
def hX9_formulaOf : List (Nat × List Bool) := []
def eX9_formulaOf : xE := (9, mX9_formulaOf, tX9_formulaOf, hX9_formulaOf, ceX9)
theorem okX9_formulaOf : xEok eX9_formulaOf := ⟨by decide +kernel, by decide +kernel, by decide +kernel, ceX9_ok, rfl, by decide +kernel⟩
def tX9_ruleOf : List xT := [(0, .aload_n 0, 1, [0], vN), (1, .getfield 7, 3, [8, 0], vN), (4, .sipush 183, 3, [], vI 183), (7, .bipush 6, 2, [], vI 6), (9, .iload_n 1, 1, [1], vN), (10, .imul, 1, [], vN), (11, .iadd, 1, [], vN), (12, .iconst 1, 1, [], vI 1), (13, .iadd, 1, [], vN), (14, .iaload, 1, [], vN), (15, .ireturn, 1, [], vN)]
def hX9_ruleOf : List (Nat × List Bool) := []
def eX9_ruleOf : xE := (9, mX9_ruleOf, tX9_ruleOf, hX9_ruleOf, ceX9)
theorem okX9_ruleOf : xEok eX9_ruleOf := ⟨by decide +kernel, by decide +kernel, by decide +kernel, ceX9_ok, rfl, by decide +kernel⟩
def tX9_refOf : List xT := [(0, .aload_n 0, 1, [0], vN), (1, .getfield 7, 3, [8, 0], vN), (4, .sipush 183, 3, [], vI 183), (7, .bipush 6, 2, [], vI 6), (9, .iload_n 1, 1, [1], vN), (10, .imul, 1, [], vN), (11, .iadd, 1, [], vN), (12, .iconst 2, 1, [], vI 2), (13, .iadd, 1, [], vN), (14, .iload_n 2, 1, [2], vN), (15, .iadd, 1, [], vN), (16, .iaload, 1, [], vN), (17, .ireturn, 1, [], vN)]
def hX9_refOf : List (Nat × List Bool) := []
def eX9_refOf : xE := (9, mX9_refOf, tX9_refOf, hX9_refOf, ceX9)
theorem okX9_refOf : xEok eX9_refOf := ⟨by decide +kernel, by decide +kernel, by decide +kernel, ceX9_ok, rfl, by decide +kernel⟩
def tX9_boxOf : List xT := [(0, .aload_n 0, 1, [0], vN), (1, .getfield 7, 3, [8, 0], vN), (4, .sipush 183, 3, [], vI 183), (7, .bipush 6, 2, [], vI 6), (9, .iload_n 1, 1, [1], vN), (10, .imul, 1, [], vN), (11, .iadd, 1, [], vN), (12, .iconst 5, 1, [], vI 5), (13, .iadd, 1, [], vN), (14, .iaload, 1, [], vN), (15, .ireturn, 1, [], vN)]
def hX9_boxOf : List (Nat × List Bool) := []
def eX9_boxOf : xE := (9, mX9_boxOf, tX9_boxOf, hX9_boxOf, ceX9)
theorem okX9_boxOf : xEok eX9_boxOf := ⟨by decide +kernel, by decide +kernel, by decide +kernel, ceX9_ok, rfl, by decide +kernel⟩
def tX9_opens : List xT := [(0, .aload_n 0, 1, [0], vN), (1, .getfield 7, 3, [8, 0], vN), (4, .sipush 471, 3, [], vI 471), (7, .iconst 3, 1, [], vI 3), (8, .iload_n 1, 1, [1], vN), (9, .imul, 1, [], vN), (10, .iadd, 1, [], vN), (11, .iaload, 1, [], vN), (12, .ireturn, 1, [], vN)]
def hX9_opens : List (Nat × List Bool) := []
def eX9_opens : xE := (9, mX9_opens, tX9_opens, hX9_opens, ceX9)
theorem okX9_opens : xEok eX9_opens := ⟨by decide +kernel, by decide +kernel, by decide +kernel, ceX9_ok, rfl, by decide +kernel⟩
def tX9_ends : List xT := [(0, .aload_n 0, 1, [0], vN), (1, .getfield 7, 3, [8, 0], vN), (4, .sipush 471, 3, [], vI 471), (7, .iconst 3, 1, [], vI 3), (8, .iload_n 1, 1, [1], vN), (9, .imul, 1, [], vN), (10, .iadd, 1, [], vN), (11, .iconst 1, 1, [], vI 1), (12, .iadd, 1, [], vN), (13, .iaload, 1, [], vN), (14, .ireturn, 1, [], vN)]
def hX9_ends : List (Nat × List Bool) := []
def eX9_ends : xE := (9, mX9_ends, tX9_ends, hX9_ends, ceX9)
theorem okX9_ends : xEok eX9_ends := ⟨by decide +kernel, by decide +kernel, by decide +kernel, ceX9_ok, rfl, by decide +kernel⟩
def tX9_parent : List xT := [(0, .aload_n 0, 1, [0], vN), (1, .getfield 7, 3, [8, 0], vN), (4, .sipush 471, 3, [], vI 471), (7, .iconst 3, 1, [], vI 3), (8, .iload_n 1, 1, [1], vN), (9, .imul, 1, [], vN), (10, .iadd, 1, [], vN), (11, .iconst 2, 1, [], vI 2), (12, .iadd, 1, [], vN), (13, .iaload, 1, [], vN), (14, .ireturn, 1, [], vN)]
def hX9_parent : List (Nat × List Bool) := []
def eX9_parent : xE := (9, mX9_parent, tX9_parent, hX9_parent, ceX9)
theorem okX9_parent : xEok eX9_parent := ⟨by decide +kernel, by decide +kernel, by decide +kernel, ceX9_ok, rfl, by decide +kernel⟩
def tX9_latest : List xT := [(0, .bipush (-6), 2, [], vI (-6)), (2, .istore_n 1, 1, [1], vN), (3, .iconst 0, 1, [], vI 0), (4, .istore_n 2, 1, [2], vN), (5, .iload_n 2, 1, [2], vN), (6, .aload_n 0, 1, [0], vN), (7, .getfield 7, 3, [8, 0], vN), (10, .iconst 2, 1, [], vI 2), (11, .iaload, 1, [], vN), (12, .if_icmp .ge 25, 3, [21], vN), (15, .aload_n 0, 1, [0], vN), (16, .iload_n 2, 1, [2], vN), (17, .invokevirtual 95, 3, [11, 8], vN), (20, .bipush (-6), 2, [], vI (-6)), (22, .if_icmp .ne 7, 3, [17], vN), (25, .iload_n 2, 1, [2], vN), (26, .goto 4, 3, [18], vN), (29, .iload_n 1, 1, [1], vN), (30, .istore_n 1, 1, [1], vN), (31, .iinc 2 1, 3, [2], vI 1), (34, .goto (-29), 3, [4], vN), (37, .iload_n 1, 1, [1], vN), (38, .ireturn, 1, [], vN)]
def hX9_latest : List (Nat × List Bool) := [(5, [true, true, true])]
def eX9_latest : xE := (9, mX9_latest, tX9_latest, hX9_latest, ceX9)
theorem okX9_latest : xEok eX9_latest := ⟨by decide +kernel, by decide +kernel, by decide +kernel, ceX9_ok, rfl, by decide +kernel⟩
def tX9_openBoxes : List xT := [(0, .iconst 0, 1, [], vI 0), (1, .istore_n 1, 1, [1], vN), (2, .iconst 0, 1, [], vI 0), (3, .istore_n 2, 1, [2], vN), (4, .iload_n 2, 1, [2], vN), (5, .aload_n 0, 1, [0], vN), (6, .getfield 7, 3, [8, 0], vN), (9, .iconst 2, 1, [], vI 2), (10, .iaload, 1, [], vN), (11, .if_icmp .ge 27, 3, [23], vN), (14, .iload_n 1, 1, [1], vN), (15, .aload_n 0, 1, [0], vN), (16, .iload_n 2, 1, [2], vN), (17, .invokevirtual 95, 3, [11, 8], vN), (20, .bipush (-6), 2, [], vI (-6)), (22, .if_icmp .ne 7, 3, [18], vN), (25, .iconst 1, 1, [], vI 1), (26, .goto 4, 3, [19], vN), (29, .iconst 0, 1, [], vI 0), (30, .iadd, 1, [], vN), (31, .istore_n 1, 1, [1], vN), (32, .iinc 2 1, 3, [2], vI 1), (35, .goto (-31), 3, [4], vN), (38, .iload_n 1, 1, [1], vN), (39, .ireturn, 1, [], vN)]
def hX9_openBoxes : List (Nat × List Bool) := [(4, [true, true, true])]
def eX9_openBoxes : xE := (9, mX9_openBoxes, tX9_openBoxes, hX9_openBoxes, ceX9)
theorem okX9_openBoxes : xEok eX9_openBoxes := ⟨by decide +kernel, by decide +kernel, by decide +kernel, ceX9_ok, rfl, by decide +kernel⟩
def tX9_isShut : List xT := [(0, .iconst 0, 1, [], vI 0), (1, .istore_n 2, 1, [2], vN), (2, .iload_n 1, 1, [1], vN), (3, .istore_n 3, 1, [3], vN), (4, .iload_n 3, 1, [3], vN), (5, .bipush (-6), 2, [], vI (-6)), (7, .if_icmp .eq 32, 3, [23], vN), (10, .iload_n 2, 1, [2], vN), (11, .ifCond .ne 28, 3, [23], vN), (14, .aload_n 0, 1, [0], vN), (15, .iload_n 3, 1, [3], vN), (16, .invokevirtual 95, 3, [11, 8], vN), (19, .bipush (-6), 2, [], vI (-6)), (21, .if_icmp .eq 7, 3, [16], vN), (24, .iconst 1, 1, [], vI 1), (25, .goto 4, 3, [17], vN), (28, .iconst 0, 1, [], vI 0), (29, .istore_n 2, 1, [2], vN), (30, .aload_n 0, 1, [0], vN), (31, .iload_n 3, 1, [3], vN), (32, .invokevirtual 98, 3, [12, 8], vN), (35, .istore_n 3, 1, [3], vN), (36, .goto (-32), 3, [4], vN), (39, .iload_n 2, 1, [2], vN), (40, .ireturn, 1, [], vN)]
def hX9_isShut : List (Nat × List Bool) := [(4, [true, false, true, true])]
def eX9_isShut : xE := (9, mX9_isShut, tX9_isShut, hX9_isShut, ceX9)
theorem okX9_isShut : xEok eX9_isShut := ⟨by decide +kernel, by decide +kernel, by decide +kernel, ceX9_ok, rfl, by decide +kernel⟩
def tX9_isAvailable : List xT := [(0, .aload_n 0, 1, [0], vN), (1, .aload_n 0, 1, [0], vN), (2, .iload_n 1, 1, [1], vN), (3, .invokevirtual 101, 3, [13, 8], vN), (6, .invokevirtual 104, 3, [14, 8], vN), (9, .ifCond .ne 7, 3, [8], vN), (12, .iconst 1, 1, [], vI 1), (13, .goto 4, 3, [9], vN), (16, .iconst 0, 1, [], vI 0), (17, .ireturn, 1, [], vN)]
def hX9_isAvailable : List (Nat × List Bool) := []
def eX9_isAvailable : xE := (9, mX9_isAvailable, tX9_isAvailable, hX9_isAvailable, ceX9)
theorem okX9_isAvailable : xEok eX9_isAvailable := ⟨by decide +kernel, by decide +kernel, by decide +kernel, ceX9_ok, rfl, by decide +kernel⟩
def tX9_isBoxAvailable : List xT := [(0, .aload_n 0, 1, [0], vN), (1, .iload_n 1, 1, [1], vN), (2, .invokevirtual 95, 3, [11, 8], vN), (5, .bipush (-6), 2, [], vI (-6)), (7, .if_icmp .eq 19, 3, [13], vN), (10, .aload_n 0, 1, [0], vN), (11, .aload_n 0, 1, [0], vN), (12, .iload_n 1, 1, [1], vN), (13, .invokevirtual 98, 3, [12, 8], vN), (16, .invokevirtual 104, 3, [14, 8], vN), (19, .ifCond .ne 7, 3, [13], vN), (22, .iconst 1, 1, [], vI 1), (23, .goto 4, 3, [14], vN), (26, .iconst 0, 1, [], vI 0), (27, .ireturn, 1, [], vN)]
def hX9_isBoxAvailable : List (Nat × List Bool) := []
def eX9_isBoxAvailable : xE := (9, mX9_isBoxAvailable, tX9_isBoxAvailable, hX9_isBoxAvailable, ceX9)
theorem okX9_isBoxAvailable : xEok eX9_isBoxAvailable := ⟨by decide +kernel, by decide +kernel, by decide +kernel, ceX9_ok, rfl, by decide +kernel⟩
def tX9_liesIn : List xT := [(0, .aload_n 0, 1, [0], vN), (1, .iload_n 1, 1, [1], vN), (2, .invokevirtual 101, 3, [13, 8], vN), (5, .istore_n 3, 1, [3], vN), (6, .iload_n 3, 1, [3], vN), (7, .bipush (-6), 2, [], vI (-6)), (9, .if_icmp .eq 17, 3, [15], vN), (12, .iload_n 3, 1, [3], vN), (13, .iload_n 2, 1, [2], vN), (14, .if_icmp .eq 12, 3, [15], vN), (17, .aload_n 0, 1, [0], vN), (18, .iload_n 3, 1, [3], vN), (19, .invokevirtual 98, 3, [12, 8], vN), (22, .istore_n 3, 1, [3], vN), (23, .goto (-17), 3, [4], vN), (26, .iload_n 3, 1, [3], vN), (27, .iload_n 2, 1, [2], vN), (28, .if_icmp .ne 7, 3, [20], vN), (31, .iconst 1, 1, [], vI 1), (32, .goto 4, 3, [21], vN), (35, .iconst 0, 1, [], vI 0), (36, .ireturn, 1, [], vN)]
def hX9_liesIn : List (Nat × List Bool) := [(6, [true, false, true, true])]
def eX9_liesIn : xE := (9, mX9_liesIn, tX9_liesIn, hX9_liesIn, ceX9)
theorem okX9_liesIn : xEok eX9_liesIn := ⟨by decide +kernel, by decide +kernel, by decide +kernel, ceX9_ok, rfl, by decide +kernel⟩
def tX9_depthOf : List xT := [(0, .iconst 0, 1, [], vI 0), (1, .istore_n 2, 1, [2], vN), (2, .aload_n 0, 1, [0], vN), (3, .iload_n 1, 1, [1], vN), (4, .invokevirtual 101, 3, [13, 8], vN), (7, .istore_n 3, 1, [3], vN), (8, .iload_n 3, 1, [3], vN), (9, .bipush (-6), 2, [], vI (-6)), (11, .if_icmp .eq 15, 3, [15], vN), (14, .iinc 2 1, 3, [2], vI 1), (17, .aload_n 0, 1, [0], vN), (18, .iload_n 3, 1, [3], vN), (19, .invokevirtual 98, 3, [12, 8], vN), (22, .istore_n 3, 1, [3], vN), (23, .goto (-15), 3, [6], vN), (26, .iload_n 2, 1, [2], vN), (27, .ireturn, 1, [], vN)]
def hX9_depthOf : List (Nat × List Bool) := [(8, [true, false, true, true])]
def eX9_depthOf : xE := (9, mX9_depthOf, tX9_depthOf, hX9_depthOf, ceX9)
theorem okX9_depthOf : xEok eX9_depthOf := ⟨by decide +kernel, by decide +kernel, by decide +kernel, ceX9_ok, rfl, by decide +kernel⟩
def tX9_write : List xT := [(0, .sipush 183, 3, [], vI 183), (3, .bipush 6, 2, [], vI 6), (5, .aload_n 0, 1, [0], vN), (6, .getfield 7, 3, [8, 0], vN), (9, .iconst 1, 1, [], vI 1), (10, .iaload, 1, [], vN), (11, .imul, 1, [], vN), (12, .iadd, 1, [], vN), (13, .istore 6, 2, [6], vN), (15, .aload_n 0, 1, [0], vN), (16, .getfield 7, 3, [8, 0], vN), (19, .iload 6, 2, [6], vN), (21, .iload_n 1, 1, [1], vN), (22, .iastore, 1, [], vN), (23, .aload_n 0, 1, [0], vN), (24, .getfield 7, 3, [8, 0], vN), (27, .iload 6, 2, [6], vN), (29, .iconst 1, 1, [], vI 1), (30, .iadd, 1, [], vN), (31, .iload_n 2, 1, [2], vN), (32, .iastore, 1, [], vN), (33, .aload_n 0, 1, [0], vN), (34, .getfield 7, 3, [8, 0], vN), (37, .iload 6, 2, [6], vN), (39, .iconst 2, 1, [], vI 2), (40, .iadd, 1, [], vN), (41, .iload_n 3, 1, [3], vN), (42, .iastore, 1, [], vN), (43, .aload_n 0, 1, [0], vN), (44, .getfield 7, 3, [8, 0], vN), (47, .iload 6, 2, [6], vN), (49, .iconst 3, 1, [], vI 3), (50, .iadd, 1, [], vN), (51, .iload 4, 2, [4], vN), (53, .iastore, 1, [], vN), (54, .aload_n 0, 1, [0], vN), (55, .getfield 7, 3, [8, 0], vN), (58, .iload 6, 2, [6], vN), (60, .iconst 4, 1, [], vI 4), (61, .iadd, 1, [], vN), (62, .iload 5, 2, [5], vN), (64, .iastore, 1, [], vN), (65, .aload_n 0, 1, [0], vN), (66, .getfield 7, 3, [8, 0], vN), (69, .iload 6, 2, [6], vN), (71, .iconst 5, 1, [], vI 5), (72, .iadd, 1, [], vN), (73, .aload_n 0, 1, [0], vN), (74, .invokevirtual 107, 3, [15, 8], vN), (77, .iastore, 1, [], vN), (78, .aload_n 0, 1, [0], vN), (79, .getfield 7, 3, [8, 0], vN), (82, .iconst 1, 1, [], vI 1), (83, .dup2, 1, [], vN), (84, .iaload, 1, [], vN), (85, .iconst 1, 1, [], vI 1), (86, .iadd, 1, [], vN), (87, .iastore, 1, [], vN), (88, .aload_n 0, 1, [0], vN), (89, .getfield 7, 3, [8, 0], vN), (92, .iconst 1, 1, [], vI 1), (93, .iaload, 1, [], vN), (94, .iconst 1, 1, [], vI 1), (95, .isub, 1, [], vN), (96, .ireturn, 1, [], vN)]
def hX9_write : List (Nat × List Bool) := []
def eX9_write : xE := (9, mX9_write, tX9_write, hX9_write, ceX9)
theorem okX9_write : xEok eX9_write := ⟨by decide +kernel, by decide +kernel, by decide +kernel, ceX9_ok, rfl, by decide +kernel⟩
def tX9_isFull : List xT := [(0, .aload_n 0, 1, [0], vN), (1, .getfield 7, 3, [8, 0], vN), (4, .iconst 1, 1, [], vI 1), (5, .iaload, 1, [], vN), (6, .bipush 48, 2, [], vI 48), (8, .if_icmp .ne 7, 3, [8], vN), (11, .iconst 1, 1, [], vI 1), (12, .goto 4, 3, [9], vN), (15, .iconst 0, 1, [], vI 0), (16, .ireturn, 1, [], vN)]
def hX9_isFull : List (Nat × List Bool) := []
def eX9_isFull : xE := (9, mX9_isFull, tX9_isFull, hX9_isFull, ceX9)
theorem okX9_isFull : xEok eX9_isFull := ⟨by decide +kernel, by decide +kernel, by decide +kernel, ceX9_ok, rfl, by decide +kernel⟩
def tX9_writeOld : List xT := [(0, .aload_n 0, 1, [0], vN), (1, .invokevirtual 111, 3, [16, 8], vN), (4, .ifCond .eq 6, 3, [5], vN), (7, .bipush (-4), 2, [], vI (-4)), (9, .ireturn, 1, [], vN), (10, .aload_n 0, 1, [0], vN), (11, .invokevirtual 53, 3, [0, 8], vN), (14, .aload_n 0, 1, [0], vN), (15, .iload_n 1, 1, [1], vN), (16, .iload_n 2, 1, [2], vN), (17, .iload_n 3, 1, [3], vN), (18, .iload 4, 2, [4], vN), (20, .iload 5, 2, [5], vN), (22, .invokevirtual 115, 3, [17, 8], vN), (25, .ireturn, 1, [], vN)]
def hX9_writeOld : List (Nat × List Bool) := []
def eX9_writeOld : xE := (9, mX9_writeOld, tX9_writeOld, hX9_writeOld, ceX9)
theorem okX9_writeOld : xEok eX9_writeOld := ⟨by decide +kernel, by decide +kernel, by decide +kernel, ceX9_ok, rfl, by decide +kernel⟩
def tX9_writeNew : List xT := [(0, .aload_n 0, 1, [0], vN), (1, .invokevirtual 111, 3, [16, 8], vN), (4, .ifCond .ne 13, 3, [9], vN), (7, .aload_n 0, 1, [0], vN), (8, .iload_n 1, 1, [1], vN), (9, .iload_n 2, 1, [2], vN), (10, .iload_n 3, 1, [3], vN), (11, .invokevirtual 70, 3, [5, 8], vN), (14, .ifCond .ne 6, 3, [11], vN), (17, .bipush (-4), 2, [], vI (-4)), (19, .ireturn, 1, [], vN), (20, .aload_n 0, 1, [0], vN), (21, .invokevirtual 53, 3, [0, 8], vN), (24, .aload_n 0, 1, [0], vN), (25, .aload_n 0, 1, [0], vN), (26, .iload_n 1, 1, [1], vN), (27, .iload_n 2, 1, [2], vN), (28, .iload_n 3, 1, [3], vN), (29, .invokevirtual 74, 3, [6, 8], vN), (32, .iload 4, 2, [4], vN), (34, .iload 5, 2, [5], vN), (36, .iload 6, 2, [6], vN), (38, .bipush (-6), 2, [], vI (-6)), (40, .invokevirtual 115, 3, [17, 8], vN), (43, .ireturn, 1, [], vN)]
def hX9_writeNew : List (Nat × List Bool) := []
def eX9_writeNew : xE := (9, mX9_writeNew, tX9_writeNew, hX9_writeNew, ceX9)
theorem okX9_writeNew : xEok eX9_writeNew := ⟨by decide +kernel, by decide +kernel, by decide +kernel, ceX9_ok, rfl, by decide +kernel⟩
def tX9_premise : List xT := [(0, .aload_n 0, 1, [0], vN), (1, .iload_n 1, 1, [1], vN), (2, .invokevirtual 83, 3, [8, 8], vN), (5, .ifCond .ne 5, 3, [6], vN), (8, .iconst (-1), 1, [], vI (-1)), (9, .ireturn, 1, [], vN), (10, .aload_n 0, 1, [0], vN), (11, .invokevirtual 107, 3, [15, 8], vN), (14, .bipush (-6), 2, [], vI (-6)), (16, .if_icmp .eq 8, 3, [12], vN), (19, .bipush (-3), 2, [], vI (-3)), (21, .goto 15, 3, [19], vN), (24, .aload_n 0, 1, [0], vN), (25, .iload_n 1, 1, [1], vN), (26, .iconst 0, 1, [], vI 0), (27, .bipush (-6), 2, [], vI (-6)), (29, .bipush (-6), 2, [], vI (-6)), (31, .bipush (-6), 2, [], vI (-6)), (33, .invokevirtual 119, 3, [18, 8], vN), (36, .ireturn, 1, [], vN)]
def hX9_premise : List (Nat × List Bool) := []
def eX9_premise : xE := (9, mX9_premise, tX9_premise, hX9_premise, ceX9)
theorem okX9_premise : xEok eX9_premise := ⟨by decide +kernel, by decide +kernel, by decide +kernel, ceX9_ok, rfl, by decide +kernel⟩
def tX9_open : List xT := [(0, .aload_n 0, 1, [0], vN), (1, .iload_n 1, 1, [1], vN), (2, .invokevirtual 83, 3, [8, 8], vN), (5, .ifCond .ne 5, 3, [6], vN), (8, .iconst (-1), 1, [], vI (-1)), (9, .ireturn, 1, [], vN), (10, .aload_n 0, 1, [0], vN), (11, .invokevirtual 111, 3, [16, 8], vN), (14, .ifCond .ne 11, 3, [13], vN), (17, .aload_n 0, 1, [0], vN), (18, .invokevirtual 122, 3, [19, 8], vN), (21, .iconst 5, 1, [], vI 5), (22, .if_icmp .ne 6, 3, [15], vN), (25, .bipush (-4), 2, [], vI (-4)), (27, .ireturn, 1, [], vN), (28, .aload_n 0, 1, [0], vN), (29, .invokevirtual 53, 3, [0, 8], vN), (32, .sipush 471, 3, [], vI 471), (35, .iconst 3, 1, [], vI 3), (36, .aload_n 0, 1, [0], vN), (37, .getfield 7, 3, [8, 0], vN), (40, .iconst 2, 1, [], vI 2), (41, .iaload, 1, [], vN), (42, .imul, 1, [], vN), (43, .iadd, 1, [], vN), (44, .istore_n 2, 1, [2], vN), (45, .aload_n 0, 1, [0], vN), (46, .invokevirtual 107, 3, [15, 8], vN), (49, .istore_n 3, 1, [3], vN), (50, .aload_n 0, 1, [0], vN), (51, .getfield 7, 3, [8, 0], vN), (54, .iload_n 2, 1, [2], vN), (55, .aload_n 0, 1, [0], vN), (56, .getfield 7, 3, [8, 0], vN), (59, .iconst 1, 1, [], vI 1), (60, .iaload, 1, [], vN), (61, .iastore, 1, [], vN), (62, .aload_n 0, 1, [0], vN), (63, .getfield 7, 3, [8, 0], vN), (66, .iload_n 2, 1, [2], vN), (67, .iconst 1, 1, [], vI 1), (68, .iadd, 1, [], vN), (69, .bipush (-6), 2, [], vI (-6)), (71, .iastore, 1, [], vN), (72, .aload_n 0, 1, [0], vN), (73, .getfield 7, 3, [8, 0], vN), (76, .iload_n 2, 1, [2], vN), (77, .iconst 2, 1, [], vI 2), (78, .iadd, 1, [], vN), (79, .iload_n 3, 1, [3], vN), (80, .iastore, 1, [], vN), (81, .aload_n 0, 1, [0], vN), (82, .getfield 7, 3, [8, 0], vN), (85, .iconst 2, 1, [], vI 2), (86, .dup2, 1, [], vN), (87, .iaload, 1, [], vN), (88, .iconst 1, 1, [], vI 1), (89, .iadd, 1, [], vN), (90, .iastore, 1, [], vN), (91, .aload_n 0, 1, [0], vN), (92, .iload_n 1, 1, [1], vN), (93, .iconst 1, 1, [], vI 1), (94, .bipush (-6), 2, [], vI (-6)), (96, .bipush (-6), 2, [], vI (-6)), (98, .bipush (-6), 2, [], vI (-6)), (100, .invokevirtual 115, 3, [17, 8], vN), (103, .ireturn, 1, [], vN)]
def hX9_open : List (Nat × List Bool) := []
def eX9_open : xE := (9, mX9_open, tX9_open, hX9_open, ceX9)
theorem okX9_open : xEok eX9_open := ⟨by decide +kernel, by decide +kernel, by decide +kernel, ceX9_ok, rfl, by decide +kernel⟩
def tX9_close : List xT := [(0, .aload_n 0, 1, [0], vN), (1, .invokevirtual 107, 3, [15, 8], vN), (4, .istore_n 1, 1, [1], vN), (5, .iload_n 1, 1, [1], vN), (6, .bipush (-6), 2, [], vI (-6)), (8, .if_icmp .eq 19, 3, [16], vN), (11, .aload_n 0, 1, [0], vN), (12, .aload_n 0, 1, [0], vN), (13, .getfield 7, 3, [8, 0], vN), (16, .iconst 1, 1, [], vI 1), (17, .iaload, 1, [], vN), (18, .iconst 1, 1, [], vI 1), (19, .isub, 1, [], vN), (20, .invokevirtual 101, 3, [13, 8], vN), (23, .iload_n 1, 1, [1], vN), (24, .if_icmp .eq 6, 3, [18], vN), (27, .bipush (-3), 2, [], vI (-3)), (29, .ireturn, 1, [], vN), (30, .aload_n 0, 1, [0], vN), (31, .invokevirtual 53, 3, [0, 8], vN), (34, .aload_n 0, 1, [0], vN), (35, .getfield 7, 3, [8, 0], vN), (38, .sipush 471, 3, [], vI 471), (41, .iconst 3, 1, [], vI 3), (42, .iload_n 1, 1, [1], vN), (43, .imul, 1, [], vN), (44, .iadd, 1, [], vN), (45, .iconst 1, 1, [], vI 1), (46, .iadd, 1, [], vN), (47, .aload_n 0, 1, [0], vN), (48, .getfield 7, 3, [8, 0], vN), (51, .iconst 1, 1, [], vI 1), (52, .iaload, 1, [], vN), (53, .iconst 1, 1, [], vI 1), (54, .isub, 1, [], vN), (55, .iastore, 1, [], vN), (56, .iload_n 1, 1, [1], vN), (57, .ireturn, 1, [], vN)]
def hX9_close : List (Nat × List Bool) := []
def eX9_close : xE := (9, mX9_close, tX9_close, hX9_close, ceX9)
theorem okX9_close : xEok eX9_close := ⟨by decide +kernel, by decide +kernel, by decide +kernel, ceX9_ok, rfl, by decide +kernel⟩
def tX9_repeat : List xT := [(0, .aload_n 0, 1, [0], vN), (1, .iload_n 1, 1, [1], vN), (2, .invokevirtual 125, 3, [20, 8], vN), (5, .ifCond .ne 5, 3, [6], vN), (8, .iconst (-1), 1, [], vI (-1)), (9, .ireturn, 1, [], vN), (10, .aload_n 0, 1, [0], vN), (11, .iload_n 1, 1, [1], vN), (12, .invokevirtual 128, 3, [21, 8], vN), (15, .ifCond .eq 21, 3, [20], vN), (18, .aload_n 0, 1, [0], vN), (19, .aload_n 0, 1, [0], vN), (20, .iload_n 1, 1, [1], vN), (21, .invokevirtual 131, 3, [22, 8], vN), (24, .iconst 2, 1, [], vI 2), (25, .iload_n 1, 1, [1], vN), (26, .bipush (-6), 2, [], vI (-6)), (28, .bipush (-6), 2, [], vI (-6)), (30, .invokevirtual 119, 3, [18, 8], vN), (33, .goto 5, 3, [21], vN), (36, .bipush (-3), 2, [], vI (-3)), (38, .ireturn, 1, [], vN)]
def hX9_repeat : List (Nat × List Bool) := []
def eX9_repeat : xE := (9, mX9_repeat, tX9_repeat, hX9_repeat, ceX9)
theorem okX9_repeat : xEok eX9_repeat := ⟨by decide +kernel, by decide +kernel, by decide +kernel, ceX9_ok, rfl, by decide +kernel⟩
def tX9_fromTwo : List xT := [(0, .aload_n 0, 1, [0], vN), (1, .iload_n 2, 1, [2], vN), (2, .invokevirtual 125, 3, [20, 8], vN), (5, .ifCond .eq 11, 3, [8], vN), (8, .aload_n 0, 1, [0], vN), (9, .iload_n 3, 1, [3], vN), (10, .invokevirtual 125, 3, [20, 8], vN), (13, .ifCond .ne 5, 3, [10], vN), (16, .iconst (-1), 1, [], vI (-1)), (17, .ireturn, 1, [], vN), (18, .iload_n 1, 1, [1], vN), (19, .iconst 3, 1, [], vI 3), (20, .if_icmp .eq 18, 3, [21], vN), (23, .iload_n 1, 1, [1], vN), (24, .bipush 9, 2, [], vI 9), (26, .if_icmp .eq 12, 3, [21], vN), (29, .iload_n 1, 1, [1], vN), (30, .bipush 11, 2, [], vI 11), (32, .if_icmp .eq 6, 3, [21], vN), (35, .bipush (-2), 2, [], vI (-2)), (37, .ireturn, 1, [], vN), (38, .aload_n 0, 1, [0], vN), (39, .iload_n 2, 1, [2], vN), (40, .invokevirtual 128, 3, [21, 8], vN), (43, .ifCond .eq 11, 3, [29], vN), (46, .aload_n 0, 1, [0], vN), (47, .iload_n 3, 1, [3], vN), (48, .invokevirtual 128, 3, [21, 8], vN), (51, .ifCond .ne 6, 3, [31], vN), (54, .bipush (-3), 2, [], vI (-3)), (56, .ireturn, 1, [], vN), (57, .aload_n 0, 1, [0], vN), (58, .iload_n 2, 1, [2], vN), (59, .invokevirtual 131, 3, [22, 8], vN), (62, .istore 4, 2, [4], vN), (64, .aload_n 0, 1, [0], vN), (65, .iload_n 3, 1, [3], vN), (66, .invokevirtual 131, 3, [22, 8], vN), (69, .istore 5, 2, [5], vN), (71, .iload_n 1, 1, [1], vN), (72, .iconst 3, 1, [], vI 3), (73, .if_icmp .ne 16, 3, [51], vN), (76, .aload_n 0, 1, [0], vN), (77, .iconst 3, 1, [], vI 3), (78, .iload 4, 2, [4], vN), (80, .iload 5, 2, [5], vN), (82, .iconst 3, 1, [], vI 3), (83, .iload_n 2, 1, [2], vN), (84, .iload_n 3, 1, [3], vN), (85, .invokevirtual 134, 3, [23, 8], vN), (88, .ireturn, 1, [], vN), (89, .aload_n 0, 1, [0], vN), (90, .iload 4, 2, [4], vN), (92, .invokevirtual 56, 3, [1, 8], vN), (95, .iload_n 1, 1, [1], vN), (96, .bipush 9, 2, [], vI 9), (98, .if_icmp .ne 7, 3, [59], vN), (101, .iconst 5, 1, [], vI 5), (102, .goto 4, 3, [60], vN), (105, .iconst 2, 1, [], vI 2), (106, .if_icmp .ne 14, 3, [66], vN), (109, .aload_n 0, 1, [0], vN), (110, .iload 4, 2, [4], vN), (112, .invokevirtual 60, 3, [2, 8], vN), (115, .iload 5, 2, [5], vN), (117, .if_icmp .eq 6, 3, [68], vN), (120, .bipush (-3), 2, [], vI (-3)), (122, .ireturn, 1, [], vN), (123, .iload_n 1, 1, [1], vN), (124, .bipush 9, 2, [], vI 9), (126, .if_icmp .ne 22, 3, [81], vN), (129, .aload_n 0, 1, [0], vN), (130, .aload_n 0, 1, [0], vN), (131, .iload 4, 2, [4], vN), (133, .invokevirtual 63, 3, [3, 8], vN), (136, .bipush 9, 2, [], vI 9), (138, .iload_n 2, 1, [2], vN), (139, .iload_n 3, 1, [3], vN), (140, .bipush (-6), 2, [], vI (-6)), (142, .invokevirtual 119, 3, [18, 8], vN), (145, .goto 16, 3, [89], vN), (148, .aload_n 0, 1, [0], vN), (149, .iconst 1, 1, [], vI 1), (150, .bipush (-6), 2, [], vI (-6)), (152, .bipush (-6), 2, [], vI (-6)), (154, .bipush 11, 2, [], vI 11), (156, .iload_n 2, 1, [2], vN), (157, .iload_n 3, 1, [3], vN), (158, .invokevirtual 134, 3, [23, 8], vN), (161, .ireturn, 1, [], vN)]
def hX9_fromTwo : List (Nat × List Bool) := [(38, [true, true, true, true, false, false]), (106, [true, true, true, true, true, true])]
def eX9_fromTwo : xE := (9, mX9_fromTwo, tX9_fromTwo, hX9_fromTwo, ceX9)
theorem okX9_fromTwo : xEok eX9_fromTwo := ⟨by decide +kernel, by decide +kernel, by decide +kernel, ceX9_ok, rfl, by decide +kernel⟩
def tX9_fromOne : List xT := [(0, .aload_n 0, 1, [0], vN), (1, .iload_n 2, 1, [2], vN), (2, .invokevirtual 125, 3, [20, 8], vN), (5, .ifCond .ne 5, 3, [6], vN), (8, .iconst (-1), 1, [], vI (-1)), (9, .ireturn, 1, [], vN), (10, .iload_n 1, 1, [1], vN), (11, .iconst 4, 1, [], vI 4), (12, .if_icmp .eq 17, 3, [17], vN), (15, .iload_n 1, 1, [1], vN), (16, .iconst 5, 1, [], vI 5), (17, .if_icmp .eq 12, 3, [17], vN), (20, .iload_n 1, 1, [1], vN), (21, .bipush 13, 2, [], vI 13), (23, .if_icmp .eq 6, 3, [17], vN), (26, .bipush (-2), 2, [], vI (-2)), (28, .ireturn, 1, [], vN), (29, .aload_n 0, 1, [0], vN), (30, .iload_n 2, 1, [2], vN), (31, .invokevirtual 131, 3, [22, 8], vN), (34, .istore_n 3, 1, [3], vN), (35, .iload_n 1, 1, [1], vN), (36, .bipush 13, 2, [], vI 13), (38, .if_icmp .ne 33, 3, [40], vN), (41, .aload_n 0, 1, [0], vN), (42, .iload_n 3, 1, [3], vN), (43, .invokevirtual 56, 3, [1, 8], vN), (46, .iconst 2, 1, [], vI 2), (47, .if_icmp .ne 20, 3, [38], vN), (50, .aload_n 0, 1, [0], vN), (51, .aload_n 0, 1, [0], vN), (52, .iload_n 3, 1, [3], vN), (53, .invokevirtual 60, 3, [2, 8], vN), (56, .invokevirtual 56, 3, [1, 8], vN), (59, .iconst 2, 1, [], vI 2), (60, .if_icmp .ne 7, 3, [38], vN), (63, .iconst 1, 1, [], vI 1), (64, .goto 21, 3, [48], vN), (67, .iconst 0, 1, [], vI 0), (68, .goto 17, 3, [48], vN), (71, .aload_n 0, 1, [0], vN), (72, .iload_n 3, 1, [3], vN), (73, .invokevirtual 56, 3, [1, 8], vN), (76, .iconst 3, 1, [], vI 3), (77, .if_icmp .ne 7, 3, [47], vN), (80, .iconst 1, 1, [], vI 1), (81, .goto 4, 3, [48], vN), (84, .iconst 0, 1, [], vI 0), (85, .istore 4, 2, [4], vN), (87, .iload 4, 2, [4], vN), (89, .ifCond .eq 11, 3, [55], vN), (92, .aload_n 0, 1, [0], vN), (93, .iload_n 2, 1, [2], vN), (94, .invokevirtual 128, 3, [21, 8], vN), (97, .ifCond .ne 6, 3, [57], vN), (100, .bipush (-3), 2, [], vI (-3)), (102, .ireturn, 1, [], vN), (103, .aload_n 0, 1, [0], vN), (104, .iload_n 1, 1, [1], vN), (105, .iconst 4, 1, [], vI 4), (106, .if_icmp .ne 11, 3, [65], vN), (109, .aload_n 0, 1, [0], vN), (110, .iload_n 3, 1, [3], vN), (111, .invokevirtual 60, 3, [2, 8], vN), (114, .goto 25, 3, [77], vN), (117, .iload_n 1, 1, [1], vN), (118, .iconst 5, 1, [], vI 5), (119, .if_icmp .ne 11, 3, [72], vN), (122, .aload_n 0, 1, [0], vN), (123, .iload_n 3, 1, [3], vN), (124, .invokevirtual 63, 3, [3, 8], vN), (127, .goto 12, 3, [77], vN), (130, .aload_n 0, 1, [0], vN), (131, .aload_n 0, 1, [0], vN), (132, .iload_n 3, 1, [3], vN), (133, .invokevirtual 60, 3, [2, 8], vN), (136, .invokevirtual 60, 3, [2, 8], vN), (139, .iload_n 1, 1, [1], vN), (140, .iload_n 2, 1, [2], vN), (141, .bipush (-6), 2, [], vI (-6)), (143, .bipush (-6), 2, [], vI (-6)), (145, .invokevirtual 119, 3, [18, 8], vN), (148, .ireturn, 1, [], vN)]
def hX9_fromOne : List (Nat × List Bool) := [(29, [true, true, true, false, false]), (67, [true, true, true, true, false]), (85, [true, true, true, true, false]), (139, [false, true, true, false, false])]
def eX9_fromOne : xE := (9, mX9_fromOne, tX9_fromOne, hX9_fromOne, ceX9)
theorem okX9_fromOne : xEok eX9_fromOne := ⟨by decide +kernel, by decide +kernel, by decide +kernel, ceX9_ok, rfl, by decide +kernel⟩
def tX9_toFormula : List xT := [(0, .aload_n 0, 1, [0], vN), (1, .iload_n 2, 1, [2], vN), (2, .invokevirtual 125, 3, [20, 8], vN), (5, .ifCond .eq 11, 3, [8], vN), (8, .aload_n 0, 1, [0], vN), (9, .iload_n 3, 1, [3], vN), (10, .invokevirtual 83, 3, [8, 8], vN), (13, .ifCond .ne 5, 3, [10], vN), (16, .iconst (-1), 1, [], vI (-1)), (17, .ireturn, 1, [], vN), (18, .iload_n 1, 1, [1], vN), (19, .bipush 6, 2, [], vI 6), (21, .if_icmp .eq 12, 3, [18], vN), (24, .iload_n 1, 1, [1], vN), (25, .bipush 12, 2, [], vI 12), (27, .if_icmp .eq 6, 3, [18], vN), (30, .bipush (-2), 2, [], vI (-2)), (32, .ireturn, 1, [], vN), (33, .aload_n 0, 1, [0], vN), (34, .iload_n 2, 1, [2], vN), (35, .invokevirtual 131, 3, [22, 8], vN), (38, .istore 4, 2, [4], vN), (40, .iload_n 1, 1, [1], vN), (41, .bipush 12, 2, [], vI 12), (43, .if_icmp .ne 21, 3, [34], vN), (46, .aload_n 0, 1, [0], vN), (47, .iload 4, 2, [4], vN), (49, .invokevirtual 56, 3, [1, 8], vN), (52, .iconst 1, 1, [], vI 1), (53, .if_icmp .ne 7, 3, [32], vN), (56, .iconst 1, 1, [], vI 1), (57, .goto 41, 3, [52], vN), (60, .iconst 0, 1, [], vI 0), (61, .goto 37, 3, [52], vN), (64, .aload_n 0, 1, [0], vN), (65, .iload_n 3, 1, [3], vN), (66, .invokevirtual 56, 3, [1, 8], vN), (69, .iconst 4, 1, [], vI 4), (70, .if_icmp .ne 27, 3, [51], vN), (73, .aload_n 0, 1, [0], vN), (74, .iload_n 3, 1, [3], vN), (75, .invokevirtual 60, 3, [2, 8], vN), (78, .iload 4, 2, [4], vN), (80, .if_icmp .eq 13, 3, [49], vN), (83, .aload_n 0, 1, [0], vN), (84, .iload_n 3, 1, [3], vN), (85, .invokevirtual 63, 3, [3, 8], vN), (88, .iload 4, 2, [4], vN), (90, .if_icmp .ne 7, 3, [51], vN), (93, .iconst 1, 1, [], vI 1), (94, .goto 4, 3, [52], vN), (97, .iconst 0, 1, [], vI 0), (98, .istore 5, 2, [5], vN), (100, .iload 5, 2, [5], vN), (102, .ifCond .eq 25, 3, [67], vN), (105, .aload_n 0, 1, [0], vN), (106, .iload_n 2, 1, [2], vN), (107, .invokevirtual 128, 3, [21, 8], vN), (110, .ifCond .eq 17, 3, [67], vN), (113, .aload_n 0, 1, [0], vN), (114, .iload_n 3, 1, [3], vN), (115, .iload_n 1, 1, [1], vN), (116, .iload_n 2, 1, [2], vN), (117, .bipush (-6), 2, [], vI (-6)), (119, .bipush (-6), 2, [], vI (-6)), (121, .invokevirtual 119, 3, [18, 8], vN), (124, .goto 5, 3, [68], vN), (127, .bipush (-3), 2, [], vI (-3)), (129, .ireturn, 1, [], vN)]
def hX9_toFormula : List (Nat × List Bool) := [(33, [true, true, true, true, false, false]), (93, [true, true, true, true, false, false]), (97, [true, true, true, true, false, false]), (98, [true, true, true, true, false, false])]
def eX9_toFormula : xE := (9, mX9_toFormula, tX9_toFormula, hX9_toFormula, ceX9)
theorem okX9_toFormula : xEok eX9_toFormula := ⟨by decide +kernel, by decide +kernel, by decide +kernel, ceX9_ok, rfl, by decide +kernel⟩
def tX9_fromBox : List xT := [(0, .aload_n 0, 1, [0], vN), (1, .iload_n 2, 1, [2], vN), (2, .invokevirtual 138, 3, [24, 8], vN), (5, .ifCond .ne 5, 3, [6], vN), (8, .iconst (-1), 1, [], vI (-1)), (9, .ireturn, 1, [], vN), (10, .iload_n 1, 1, [1], vN), (11, .bipush 8, 2, [], vI 8), (13, .if_icmp .eq 12, 3, [14], vN), (16, .iload_n 1, 1, [1], vN), (17, .bipush 10, 2, [], vI 10), (19, .if_icmp .eq 6, 3, [14], vN), (22, .bipush (-2), 2, [], vI (-2)), (24, .ireturn, 1, [], vN), (25, .aload_n 0, 1, [0], vN), (26, .iload_n 2, 1, [2], vN), (27, .invokevirtual 141, 3, [25, 8], vN), (30, .ifCond .ne 6, 3, [20], vN), (33, .bipush (-3), 2, [], vI (-3)), (35, .ireturn, 1, [], vN), (36, .aload_n 0, 1, [0], vN), (37, .aload_n 0, 1, [0], vN), (38, .iload_n 2, 1, [2], vN), (39, .invokevirtual 144, 3, [26, 8], vN), (42, .invokevirtual 131, 3, [22, 8], vN), (45, .istore_n 3, 1, [3], vN), (46, .aload_n 0, 1, [0], vN), (47, .aload_n 0, 1, [0], vN), (48, .iload_n 2, 1, [2], vN), (49, .invokevirtual 95, 3, [11, 8], vN), (52, .invokevirtual 131, 3, [22, 8], vN), (55, .istore 4, 2, [4], vN), (57, .iload_n 1, 1, [1], vN), (58, .bipush 8, 2, [], vI 8), (60, .if_icmp .ne 17, 3, [44], vN), (63, .aload_n 0, 1, [0], vN), (64, .iconst 5, 1, [], vI 5), (65, .iload_n 3, 1, [3], vN), (66, .iload 4, 2, [4], vN), (68, .bipush 8, 2, [], vI 8), (70, .iload_n 2, 1, [2], vN), (71, .bipush (-6), 2, [], vI (-6)), (73, .invokevirtual 134, 3, [23, 8], vN), (76, .ireturn, 1, [], vN), (77, .aload_n 0, 1, [0], vN), (78, .iload 4, 2, [4], vN), (80, .invokevirtual 56, 3, [1, 8], vN), (83, .iconst 1, 1, [], vI 1), (84, .if_icmp .ne 19, 3, [58], vN), (87, .aload_n 0, 1, [0], vN), (88, .iconst 2, 1, [], vI 2), (89, .iload_n 3, 1, [3], vN), (90, .bipush (-6), 2, [], vI (-6)), (92, .bipush 10, 2, [], vI 10), (94, .iload_n 2, 1, [2], vN), (95, .bipush (-6), 2, [], vI (-6)), (97, .invokevirtual 134, 3, [23, 8], vN), (100, .goto 5, 3, [59], vN), (103, .bipush (-3), 2, [], vI (-3)), (105, .ireturn, 1, [], vN)]
def hX9_fromBox : List (Nat × List Bool) := [(25, [true, true, true, false, false])]
def eX9_fromBox : xE := (9, mX9_fromBox, tX9_fromBox, hX9_fromBox, ceX9)
theorem okX9_fromBox : xEok eX9_fromBox := ⟨by decide +kernel, by decide +kernel, by decide +kernel, ceX9_ok, rfl, by decide +kernel⟩
def tX9_cases : List xT := [(0, .aload_n 0, 1, [0], vN), (1, .iload_n 1, 1, [1], vN), (2, .invokevirtual 125, 3, [20, 8], vN), (5, .ifCond .eq 19, 3, [12], vN), (8, .aload_n 0, 1, [0], vN), (9, .iload_n 2, 1, [2], vN), (10, .invokevirtual 138, 3, [24, 8], vN), (13, .ifCond .eq 11, 3, [12], vN), (16, .aload_n 0, 1, [0], vN), (17, .iload_n 3, 1, [3], vN), (18, .invokevirtual 138, 3, [24, 8], vN), (21, .ifCond .ne 5, 3, [14], vN), (24, .iconst (-1), 1, [], vI (-1)), (25, .ireturn, 1, [], vN), (26, .aload_n 0, 1, [0], vN), (27, .iload_n 1, 1, [1], vN), (28, .invokevirtual 131, 3, [22, 8], vN), (31, .istore 4, 2, [4], vN), (33, .aload_n 0, 1, [0], vN), (34, .iload_n 1, 1, [1], vN), (35, .invokevirtual 128, 3, [21, 8], vN), (38, .ifCond .eq 29, 3, [35], vN), (41, .aload_n 0, 1, [0], vN), (42, .iload_n 2, 1, [2], vN), (43, .invokevirtual 141, 3, [25, 8], vN), (46, .ifCond .eq 21, 3, [35], vN), (49, .aload_n 0, 1, [0], vN), (50, .iload_n 3, 1, [3], vN), (51, .invokevirtual 141, 3, [25, 8], vN), (54, .ifCond .eq 13, 3, [35], vN), (57, .aload_n 0, 1, [0], vN), (58, .iload 4, 2, [4], vN), (60, .invokevirtual 56, 3, [1, 8], vN), (63, .iconst 4, 1, [], vI 4), (64, .if_icmp .eq 6, 3, [37], vN), (67, .bipush (-3), 2, [], vI (-3)), (69, .ireturn, 1, [], vN), (70, .aload_n 0, 1, [0], vN), (71, .aload_n 0, 1, [0], vN), (72, .iload_n 2, 1, [2], vN), (73, .invokevirtual 144, 3, [26, 8], vN), (76, .invokevirtual 131, 3, [22, 8], vN), (79, .aload_n 0, 1, [0], vN), (80, .iload 4, 2, [4], vN), (82, .invokevirtual 60, 3, [2, 8], vN), (85, .if_icmp .ne 46, 3, [68], vN), (88, .aload_n 0, 1, [0], vN), (89, .aload_n 0, 1, [0], vN), (90, .iload_n 3, 1, [3], vN), (91, .invokevirtual 144, 3, [26, 8], vN), (94, .invokevirtual 131, 3, [22, 8], vN), (97, .aload_n 0, 1, [0], vN), (98, .iload 4, 2, [4], vN), (100, .invokevirtual 63, 3, [3, 8], vN), (103, .if_icmp .ne 28, 3, [68], vN), (106, .aload_n 0, 1, [0], vN), (107, .aload_n 0, 1, [0], vN), (108, .iload_n 2, 1, [2], vN), (109, .invokevirtual 95, 3, [11, 8], vN), (112, .invokevirtual 131, 3, [22, 8], vN), (115, .aload_n 0, 1, [0], vN), (116, .aload_n 0, 1, [0], vN), (117, .iload_n 3, 1, [3], vN), (118, .invokevirtual 95, 3, [11, 8], vN), (121, .invokevirtual 131, 3, [22, 8], vN), (124, .if_icmp .ne 7, 3, [68], vN), (127, .iconst 1, 1, [], vI 1), (128, .goto 4, 3, [69], vN), (131, .iconst 0, 1, [], vI 0), (132, .istore 5, 2, [5], vN), (134, .iload 5, 2, [5], vN), (136, .ifCond .eq 24, 3, [84], vN), (139, .aload_n 0, 1, [0], vN), (140, .aload_n 0, 1, [0], vN), (141, .aload_n 0, 1, [0], vN), (142, .iload_n 2, 1, [2], vN), (143, .invokevirtual 95, 3, [11, 8], vN), (146, .invokevirtual 131, 3, [22, 8], vN), (149, .bipush 7, 2, [], vI 7), (151, .iload_n 1, 1, [1], vN), (152, .iload_n 2, 1, [2], vN), (153, .iload_n 3, 1, [3], vN), (154, .invokevirtual 119, 3, [18, 8], vN), (157, .goto 5, 3, [85], vN), (160, .bipush (-3), 2, [], vI (-3)), (162, .ireturn, 1, [], vN)]
def hX9_cases : List (Nat × List Bool) := [(131, [true, true, true, true, false, false]), (132, [true, true, true, true, false, false])]
def eX9_cases : xE := (9, mX9_cases, tX9_cases, hX9_cases, ceX9)
theorem okX9_cases : xEok eX9_cases := ⟨by decide +kernel, by decide +kernel, by decide +kernel, ceX9_ok, rfl, by decide +kernel⟩
def tX9_lines : List xT := [(0, .aload_n 0, 1, [0], vN), (1, .getfield 7, 3, [8, 0], vN), (4, .iconst 1, 1, [], vI 1), (5, .iaload, 1, [], vN), (6, .ireturn, 1, [], vN)]
def hX9_lines : List (Nat × List Bool) := []
def eX9_lines : xE := (9, mX9_lines, tX9_lines, hX9_lines, ceX9)
theorem okX9_lines : xEok eX9_lines := ⟨by decide +kernel, by decide +kernel, by decide +kernel, ceX9_ok, rfl, by decide +kernel⟩
def tX9_isToBox : List xT := [(0, .aload_n 0, 1, [0], vN), (1, .iload_n 1, 1, [1], vN), (2, .invokevirtual 147, 3, [27, 8], vN), (5, .istore_n 3, 1, [3], vN), (6, .iload_n 3, 1, [3], vN), (7, .bipush 8, 2, [], vI 8), (9, .if_icmp .eq 19, 3, [15], vN), (12, .iload_n 3, 1, [3], vN), (13, .bipush 10, 2, [], vI 10), (15, .if_icmp .eq 13, 3, [15], vN), (18, .iload_n 3, 1, [3], vN), (19, .bipush 7, 2, [], vI 7), (21, .if_icmp .ne 11, 3, [17], vN), (24, .iload_n 2, 1, [2], vN), (25, .ifCond .le 7, 3, [17], vN), (28, .iconst 1, 1, [], vI 1), (29, .goto 4, 3, [18], vN), (32, .iconst 0, 1, [], vI 0), (33, .ireturn, 1, [], vN)]
def hX9_isToBox : List (Nat × List Bool) := []
def eX9_isToBox : xE := (9, mX9_isToBox, tX9_isToBox, hX9_isToBox, ceX9)
theorem okX9_isToBox : xEok eX9_isToBox := ⟨by decide +kernel, by decide +kernel, by decide +kernel, ceX9_ok, rfl, by decide +kernel⟩
def tX9_direct : List xT := [(0, .lconst 0, 1, [], vL 0), (1, .lstore_n 2, 1, [2], vN), (2, .iconst 0, 1, [], vI 0), (3, .istore 4, 2, [4], vN), (5, .iload 4, 2, [4], vN), (7, .iconst 3, 1, [], vI 3), (8, .if_icmp .ge 62, 3, [40], vN), (11, .aload_n 0, 1, [0], vN), (12, .iload_n 1, 1, [1], vN), (13, .iload 4, 2, [4], vN), (15, .invokevirtual 150, 3, [28, 8], vN), (18, .istore 5, 2, [5], vN), (20, .iload 5, 2, [5], vN), (22, .bipush (-6), 2, [], vI (-6)), (24, .if_icmp .eq 40, 3, [38], vN), (27, .lload_n 2, 1, [2], vN), (28, .aload_n 0, 1, [0], vN), (29, .iload_n 1, 1, [1], vN), (30, .iload 4, 2, [4], vN), (32, .invokevirtual 154, 3, [29, 8], vN), (35, .ifCond .eq 23, 3, [33], vN), (38, .lconst 1, 1, [], vL 1), (39, .aload_n 0, 1, [0], vN), (40, .iload 5, 2, [5], vN), (42, .invokevirtual 144, 3, [26, 8], vN), (45, .lshl, 1, [], vN), (46, .lconst 1, 1, [], vL 1), (47, .aload_n 0, 1, [0], vN), (48, .iload 5, 2, [5], vN), (50, .invokevirtual 95, 3, [11, 8], vN), (53, .lshl, 1, [], vN), (54, .lor, 1, [], vN), (55, .goto 7, 3, [36], vN), (58, .lconst 1, 1, [], vL 1), (59, .iload 5, 2, [5], vN), (61, .lshl, 1, [], vN), (62, .lor, 1, [], vN), (63, .lstore_n 2, 1, [2], vN), (64, .iinc 4 1, 3, [4], vI 1), (67, .goto (-62), 3, [4], vN), (70, .lload_n 2, 1, [2], vN), (71, .lreturn, 1, [], vN)]
def hX9_direct : List (Nat × List Bool) := [(5, [true, true, true, false, true, false])]
def eX9_direct : xE := (9, mX9_direct, tX9_direct, hX9_direct, ceX9)
theorem okX9_direct : xEok eX9_direct := ⟨by decide +kernel, by decide +kernel, by decide +kernel, ceX9_ok, rfl, by decide +kernel⟩
def tX9_neededBy : List xT := [(0, .iconst 0, 1, [], vI 0), (1, .istore_n 2, 1, [2], vN), (2, .iconst 0, 1, [], vI 0), (3, .istore_n 3, 1, [3], vN), (4, .iload_n 3, 1, [3], vN), (5, .aload_n 0, 1, [0], vN), (6, .getfield 7, 3, [8, 0], vN), (9, .iconst 1, 1, [], vI 1), (10, .iaload, 1, [], vN), (11, .if_icmp .ge 31, 3, [28], vN), (14, .iload_n 2, 1, [2], vN), (15, .aload_n 0, 1, [0], vN), (16, .iload_n 3, 1, [3], vN), (17, .invokevirtual 158, 3, [30, 8], vN), (20, .iload_n 1, 1, [1], vN), (21, .lshr, 1, [], vN), (22, .lconst 1, 1, [], vL 1), (23, .land, 1, [], vN), (24, .lconst 1, 1, [], vL 1), (25, .lcmp, 1, [], vN), (26, .ifCond .ne 7, 3, [23], vN), (29, .iconst 1, 1, [], vI 1), (30, .goto 4, 3, [24], vN), (33, .iconst 0, 1, [], vI 0), (34, .iadd, 1, [], vN), (35, .istore_n 2, 1, [2], vN), (36, .iinc 3 1, 3, [3], vI 1), (39, .goto (-35), 3, [4], vN), (42, .iload_n 2, 1, [2], vN), (43, .ireturn, 1, [], vN)]
def hX9_neededBy : List (Nat × List Bool) := [(4, [true, true, true, true])]
def eX9_neededBy : xE := (9, mX9_neededBy, tX9_neededBy, hX9_neededBy, ceX9)
theorem okX9_neededBy : xEok eX9_neededBy := ⟨by decide +kernel, by decide +kernel, by decide +kernel, ceX9_ok, rfl, by decide +kernel⟩
def tX9_line : List xT := [(0, .aload_n 0, 1, [0], vN), (1, .iload_n 1, 1, [1], vN), (2, .invokevirtual 125, 3, [20, 8], vN), (5, .ifCond .ne 5, 3, [6], vN), (8, .iconst (-1), 1, [], vI (-1)), (9, .ireturn, 1, [], vN), (10, .iload_n 2, 1, [2], vN), (11, .tableswitch 81 0 5 #[37, 43, 49, 55, 61, 75], 37, [36, 8, 12, 16, 20, 24, 32], vN), (48, .aload_n 0, 1, [0], vN), (49, .iload_n 1, 1, [1], vN), (50, .invokevirtual 131, 3, [22, 8], vN), (53, .ireturn, 1, [], vN), (54, .aload_n 0, 1, [0], vN), (55, .iload_n 1, 1, [1], vN), (56, .invokevirtual 147, 3, [27, 8], vN), (59, .ireturn, 1, [], vN), (60, .aload_n 0, 1, [0], vN), (61, .iload_n 1, 1, [1], vN), (62, .invokevirtual 101, 3, [13, 8], vN), (65, .ireturn, 1, [], vN), (66, .aload_n 0, 1, [0], vN), (67, .iload_n 1, 1, [1], vN), (68, .invokevirtual 162, 3, [31, 8], vN), (71, .ireturn, 1, [], vN), (72, .aload_n 0, 1, [0], vN), (73, .iload_n 1, 1, [1], vN), (74, .invokevirtual 128, 3, [21, 8], vN), (77, .ifCond .eq 7, 3, [30], vN), (80, .iconst 1, 1, [], vI 1), (81, .goto 4, 3, [31], vN), (84, .iconst 0, 1, [], vI 0), (85, .ireturn, 1, [], vN), (86, .aload_n 0, 1, [0], vN), (87, .iload_n 1, 1, [1], vN), (88, .invokevirtual 165, 3, [32, 8], vN), (91, .ireturn, 1, [], vN), (92, .bipush (-2), 2, [], vI (-2)), (94, .ireturn, 1, [], vN)]
def hX9_line : List (Nat × List Bool) := []
def eX9_line : xE := (9, mX9_line, tX9_line, hX9_line, ceX9)
theorem okX9_line : xEok eX9_line := ⟨by decide +kernel, by decide +kernel, by decide +kernel, ceX9_ok, rfl, by decide +kernel⟩
def tX9_reference : List xT := [(0, .aload_n 0, 1, [0], vN), (1, .iload_n 1, 1, [1], vN), (2, .invokevirtual 125, 3, [20, 8], vN), (5, .ifCond .eq 23, 3, [15], vN), (8, .iload_n 2, 1, [2], vN), (9, .iconst 0, 1, [], vI 0), (10, .iconst 2, 1, [], vI 2), (11, .invokestatic 77, 3, [0, 0], vN), (14, .ifCond .eq 14, 3, [15], vN), (17, .aload_n 0, 1, [0], vN), (18, .iload_n 1, 1, [1], vN), (19, .iload_n 2, 1, [2], vN), (20, .invokevirtual 150, 3, [28, 8], vN), (23, .bipush (-6), 2, [], vI (-6)), (25, .if_icmp .ne 5, 3, [17], vN), (28, .iconst (-1), 1, [], vI (-1)), (29, .ireturn, 1, [], vN), (30, .aload_n 0, 1, [0], vN), (31, .iload_n 1, 1, [1], vN), (32, .iload_n 2, 1, [2], vN), (33, .invokevirtual 150, 3, [28, 8], vN), (36, .ireturn, 1, [], vN)]
def hX9_reference : List (Nat × List Bool) := []
def eX9_reference : xE := (9, mX9_reference, tX9_reference, hX9_reference, ceX9)
theorem okX9_reference : xEok eX9_reference := ⟨by decide +kernel, by decide +kernel, by decide +kernel, ceX9_ok, rfl, by decide +kernel⟩
def tX9_boxes : List xT := [(0, .aload_n 0, 1, [0], vN), (1, .getfield 7, 3, [8, 0], vN), (4, .iconst 2, 1, [], vI 2), (5, .iaload, 1, [], vN), (6, .ireturn, 1, [], vN)]
def hX9_boxes : List (Nat × List Bool) := []
def eX9_boxes : xE := (9, mX9_boxes, tX9_boxes, hX9_boxes, ceX9)
theorem okX9_boxes : xEok eX9_boxes := ⟨by decide +kernel, by decide +kernel, by decide +kernel, ceX9_ok, rfl, by decide +kernel⟩
def tX9_box : List xT := [(0, .aload_n 0, 1, [0], vN), (1, .iload_n 1, 1, [1], vN), (2, .invokevirtual 138, 3, [24, 8], vN), (5, .ifCond .ne 5, 3, [6], vN), (8, .iconst (-1), 1, [], vI (-1)), (9, .ireturn, 1, [], vN), (10, .iload_n 2, 1, [2], vN), (11, .tableswitch 61 0 3 #[29, 35, 41, 47], 29, [28, 8, 12, 16, 20], vN), (40, .aload_n 0, 1, [0], vN), (41, .iload_n 1, 1, [1], vN), (42, .invokevirtual 144, 3, [26, 8], vN), (45, .ireturn, 1, [], vN), (46, .aload_n 0, 1, [0], vN), (47, .iload_n 1, 1, [1], vN), (48, .invokevirtual 95, 3, [11, 8], vN), (51, .ireturn, 1, [], vN), (52, .aload_n 0, 1, [0], vN), (53, .iload_n 1, 1, [1], vN), (54, .invokevirtual 98, 3, [12, 8], vN), (57, .ireturn, 1, [], vN), (58, .aload_n 0, 1, [0], vN), (59, .iload_n 1, 1, [1], vN), (60, .invokevirtual 141, 3, [25, 8], vN), (63, .ifCond .eq 7, 3, [26], vN), (66, .iconst 1, 1, [], vI 1), (67, .goto 4, 3, [27], vN), (70, .iconst 0, 1, [], vI 0), (71, .ireturn, 1, [], vN), (72, .bipush (-2), 2, [], vI (-2)), (74, .ireturn, 1, [], vN)]
def hX9_box : List (Nat × List Bool) := []
def eX9_box : xE := (9, mX9_box, tX9_box, hX9_box, ceX9)
theorem okX9_box : xEok eX9_box := ⟨by decide +kernel, by decide +kernel, by decide +kernel, ceX9_ok, rfl, by decide +kernel⟩
def tX9_depth : List xT := [(0, .aload_n 0, 1, [0], vN), (1, .invokevirtual 122, 3, [19, 8], vN), (4, .ireturn, 1, [], vN)]
def hX9_depth : List (Nat × List Bool) := []
def eX9_depth : xE := (9, mX9_depth, tX9_depth, hX9_depth, ceX9)
theorem okX9_depth : xEok eX9_depth := ⟨by decide +kernel, by decide +kernel, by decide +kernel, ceX9_ok, rfl, by decide +kernel⟩
def tX9_assumed : List xT := [(0, .lconst 0, 1, [], vL 0), (1, .lstore_n 2, 1, [2], vN), (2, .aload_n 0, 1, [0], vN), (3, .iload_n 1, 1, [1], vN), (4, .invokevirtual 101, 3, [13, 8], vN), (7, .istore 4, 2, [4], vN), (9, .iload 4, 2, [4], vN), (11, .bipush (-6), 2, [], vI (-6)), (13, .if_icmp .eq 25, 3, [22], vN), (16, .lload_n 2, 1, [2], vN), (17, .lconst 1, 1, [], vL 1), (18, .aload_n 0, 1, [0], vN), (19, .iload 4, 2, [4], vN), (21, .invokevirtual 144, 3, [26, 8], vN), (24, .lshl, 1, [], vN), (25, .lor, 1, [], vN), (26, .lstore_n 2, 1, [2], vN), (27, .aload_n 0, 1, [0], vN), (28, .iload 4, 2, [4], vN), (30, .invokevirtual 98, 3, [12, 8], vN), (33, .istore 4, 2, [4], vN), (35, .goto (-26), 3, [6], vN), (38, .lload_n 2, 1, [2], vN), (39, .lreturn, 1, [], vN)]
def hX9_assumed : List (Nat × List Bool) := [(9, [true, false, true, false, true])]
def eX9_assumed : xE := (9, mX9_assumed, tX9_assumed, hX9_assumed, ceX9)
theorem okX9_assumed : xEok eX9_assumed := ⟨by decide +kernel, by decide +kernel, by decide +kernel, ceX9_ok, rfl, by decide +kernel⟩
def tX9_needed : List xT := [(0, .lconst 1, 1, [], vL 1), (1, .iload_n 1, 1, [1], vN), (2, .lshl, 1, [], vN), (3, .lstore_n 2, 1, [2], vN), (4, .iload_n 1, 1, [1], vN), (5, .istore 4, 2, [4], vN), (7, .iload 4, 2, [4], vN), (9, .ifCond .lt 36, 3, [28], vN), (12, .lload_n 2, 1, [2], vN), (13, .iload 4, 2, [4], vN), (15, .lshr, 1, [], vN), (16, .lconst 1, 1, [], vL 1), (17, .land, 1, [], vN), (18, .lconst 1, 1, [], vL 1), (19, .lcmp, 1, [], vN), (20, .ifCond .ne 19, 3, [26], vN), (23, .lload_n 2, 1, [2], vN), (24, .aload_n 0, 1, [0], vN), (25, .iload 4, 2, [4], vN), (27, .invokevirtual 158, 3, [30, 8], vN), (30, .aload_n 0, 1, [0], vN), (31, .iload 4, 2, [4], vN), (33, .invokevirtual 168, 3, [33, 8], vN), (36, .lor, 1, [], vN), (37, .lor, 1, [], vN), (38, .lstore_n 2, 1, [2], vN), (39, .iinc 4 (-1), 3, [4], vI (-1)), (42, .goto (-35), 3, [6], vN), (45, .lload_n 2, 1, [2], vN), (46, .lreturn, 1, [], vN)]
def hX9_needed : List (Nat × List Bool) := [(7, [true, false, true, false, true])]
def eX9_needed : xE := (9, mX9_needed, tX9_needed, hX9_needed, ceX9)
theorem okX9_needed : xEok eX9_needed := ⟨by decide +kernel, by decide +kernel, by decide +kernel, ceX9_ok, rfl, by decide +kernel⟩
def tX9_needs : List xT := [(0, .aload_n 0, 1, [0], vN), (1, .iload_n 1, 1, [1], vN), (2, .invokevirtual 125, 3, [20, 8], vN), (5, .ifCond .eq 11, 3, [8], vN), (8, .aload_n 0, 1, [0], vN), (9, .iload_n 1, 1, [1], vN), (10, .invokevirtual 171, 3, [34, 8], vN), (13, .goto 6, 3, [9], vN), (16, .ldc2_w 174, 3, [], vL (-1)), (19, .lreturn, 1, [], vN)]
def hX9_needs : List (Nat × List Bool) := []
def eX9_needs : xE := (9, mX9_needs, tX9_needs, hX9_needs, ceX9)
theorem okX9_needs : xEok eX9_needs := ⟨by decide +kernel, by decide +kernel, by decide +kernel, ceX9_ok, rfl, by decide +kernel⟩
def tX9_bypassOf : List xT := [(0, .aload_n 0, 1, [0], vN), (1, .iload_n 1, 1, [1], vN), (2, .invokevirtual 147, 3, [27, 8], vN), (5, .istore_n 2, 1, [2], vN), (6, .aload_n 0, 1, [0], vN), (7, .iload_n 1, 1, [1], vN), (8, .iconst 0, 1, [], vI 0), (9, .invokevirtual 150, 3, [28, 8], vN), (12, .istore_n 3, 1, [3], vN), (13, .iload_n 2, 1, [2], vN), (14, .iconst 2, 1, [], vI 2), (15, .if_icmp .ne 5, 3, [14], vN), (18, .iload_n 3, 1, [3], vN), (19, .ireturn, 1, [], vN), (20, .iload_n 2, 1, [2], vN), (21, .iconst 4, 1, [], vI 4), (22, .if_icmp .eq 8, 3, [20], vN), (25, .iload_n 2, 1, [2], vN), (26, .iconst 5, 1, [], vI 5), (27, .if_icmp .ne 28, 3, [35], vN), (30, .aload_n 0, 1, [0], vN), (31, .iload_n 3, 1, [3], vN), (32, .invokevirtual 147, 3, [27, 8], vN), (35, .iconst 3, 1, [], vI 3), (36, .if_icmp .ne 19, 3, [35], vN), (39, .aload_n 0, 1, [0], vN), (40, .iload_n 3, 1, [3], vN), (41, .iload_n 2, 1, [2], vN), (42, .iconst 4, 1, [], vI 4), (43, .if_icmp .ne 7, 3, [32], vN), (46, .iconst 0, 1, [], vI 0), (47, .goto 4, 3, [33], vN), (50, .iconst 1, 1, [], vI 1), (51, .invokevirtual 150, 3, [28, 8], vN), (54, .ireturn, 1, [], vN), (55, .bipush (-6), 2, [], vI (-6)), (57, .ireturn, 1, [], vN)]
def hX9_bypassOf : List (Nat × List Bool) := []
def eX9_bypassOf : xE := (9, mX9_bypassOf, tX9_bypassOf, hX9_bypassOf, ceX9)
theorem okX9_bypassOf : xEok eX9_bypassOf := ⟨by decide +kernel, by decide +kernel, by decide +kernel, ceX9_ok, rfl, by decide +kernel⟩
def tX9_bypass : List xT := [(0, .aload_n 0, 1, [0], vN), (1, .iload_n 1, 1, [1], vN), (2, .invokevirtual 125, 3, [20, 8], vN), (5, .ifCond .eq 11, 3, [8], vN), (8, .aload_n 0, 1, [0], vN), (9, .iload_n 1, 1, [1], vN), (10, .invokevirtual 176, 3, [35, 8], vN), (13, .goto 4, 3, [9], vN), (16, .iconst (-1), 1, [], vI (-1)), (17, .ireturn, 1, [], vN)]
def hX9_bypass : List (Nat × List Bool) := []
def eX9_bypass : xE := (9, mX9_bypass, tX9_bypass, hX9_bypass, ceX9)
theorem okX9_bypass : xEok eX9_bypass := ⟨by decide +kernel, by decide +kernel, by decide +kernel, ceX9_ok, rfl, by decide +kernel⟩
def tX9_detours : List xT := [(0, .iconst 0, 1, [], vI 0), (1, .istore_n 1, 1, [1], vN), (2, .iconst 0, 1, [], vI 0), (3, .istore_n 2, 1, [2], vN), (4, .iload_n 2, 1, [2], vN), (5, .aload_n 0, 1, [0], vN), (6, .getfield 7, 3, [8, 0], vN), (9, .iconst 1, 1, [], vI 1), (10, .iaload, 1, [], vN), (11, .if_icmp .ge 27, 3, [23], vN), (14, .iload_n 1, 1, [1], vN), (15, .aload_n 0, 1, [0], vN), (16, .iload_n 2, 1, [2], vN), (17, .invokevirtual 176, 3, [35, 8], vN), (20, .bipush (-6), 2, [], vI (-6)), (22, .if_icmp .ne 7, 3, [18], vN), (25, .iconst 0, 1, [], vI 0), (26, .goto 4, 3, [19], vN), (29, .iconst 1, 1, [], vI 1), (30, .iadd, 1, [], vN), (31, .istore_n 1, 1, [1], vN), (32, .iinc 2 1, 3, [2], vI 1), (35, .goto (-31), 3, [4], vN), (38, .iload_n 1, 1, [1], vN), (39, .ireturn, 1, [], vN)]
def hX9_detours : List (Nat × List Bool) := [(4, [true, true, true])]
def eX9_detours : xE := (9, mX9_detours, tX9_detours, hX9_detours, ceX9)
theorem okX9_detours : xEok eX9_detours := ⟨by decide +kernel, by decide +kernel, by decide +kernel, ceX9_ok, rfl, by decide +kernel⟩
def tX9_areTrue : List xT := [(0, .iconst 1, 1, [], vI 1), (1, .istore_n 3, 1, [3], vN), (2, .iconst 0, 1, [], vI 0), (3, .istore 4, 2, [4], vN), (5, .iload 4, 2, [4], vN), (7, .aload_n 0, 1, [0], vN), (8, .getfield 7, 3, [8, 0], vN), (11, .iconst 1, 1, [], vI 1), (12, .iaload, 1, [], vN), (13, .if_icmp .ge 44, 3, [33], vN), (16, .iload_n 3, 1, [3], vN), (17, .ifCond .eq 32, 3, [29], vN), (20, .lload_n 1, 1, [1], vN), (21, .iload 4, 2, [4], vN), (23, .lshr, 1, [], vN), (24, .lconst 1, 1, [], vL 1), (25, .land, 1, [], vN), (26, .lconst 0, 1, [], vL 0), (27, .lcmp, 1, [], vN), (28, .ifCond .eq 17, 3, [27], vN), (31, .aload_n 0, 1, [0], vN), (32, .getfield 26, 3, [8, 8], vN), (35, .aload_n 0, 1, [0], vN), (36, .iload 4, 2, [4], vN), (38, .invokevirtual 131, 3, [22, 8], vN), (41, .baload, 1, [], vN), (42, .ifCond .eq 7, 3, [29], vN), (45, .iconst 1, 1, [], vI 1), (46, .goto 4, 3, [30], vN), (49, .iconst 0, 1, [], vI 0), (50, .istore_n 3, 1, [3], vN), (51, .iinc 4 1, 3, [4], vI 1), (54, .goto (-49), 3, [4], vN), (57, .iload_n 3, 1, [3], vN), (58, .ireturn, 1, [], vN)]
def hX9_areTrue : List (Nat × List Bool) := [(5, [true, true, false, true, true])]
def eX9_areTrue : xE := (9, mX9_areTrue, tX9_areTrue, hX9_areTrue, ceX9)
theorem okX9_areTrue : xEok eX9_areTrue := ⟨by decide +kernel, by decide +kernel, by decide +kernel, ceX9_ok, rfl, by decide +kernel⟩
def tX9_premises : List xT := [(0, .lconst 0, 1, [], vL 0), (1, .lstore_n 1, 1, [1], vN), (2, .iconst 0, 1, [], vI 0), (3, .istore_n 3, 1, [3], vN), (4, .iload_n 3, 1, [3], vN), (5, .aload_n 0, 1, [0], vN), (6, .getfield 7, 3, [8, 0], vN), (9, .iconst 1, 1, [], vI 1), (10, .iaload, 1, [], vN), (11, .if_icmp .ge 27, 3, [24], vN), (14, .lload_n 1, 1, [1], vN), (15, .aload_n 0, 1, [0], vN), (16, .iload_n 3, 1, [3], vN), (17, .invokevirtual 147, 3, [27, 8], vN), (20, .ifCond .ne 9, 3, [19], vN), (23, .lconst 1, 1, [], vL 1), (24, .iload_n 3, 1, [3], vN), (25, .lshl, 1, [], vN), (26, .goto 4, 3, [20], vN), (29, .lconst 0, 1, [], vL 0), (30, .lor, 1, [], vN), (31, .lstore_n 1, 1, [1], vN), (32, .iinc 3 1, 3, [3], vI 1), (35, .goto (-31), 3, [4], vN), (38, .lload_n 1, 1, [1], vN), (39, .lreturn, 1, [], vN)]
def hX9_premises : List (Nat × List Bool) := [(4, [true, true, false, true])]
def eX9_premises : xE := (9, mX9_premises, tX9_premises, hX9_premises, ceX9)
theorem okX9_premises : xEok eX9_premises := ⟨by decide +kernel, by decide +kernel, by decide +kernel, ceX9_ok, rfl, by decide +kernel⟩
def tX9_fails : List xT := [(0, .iconst 0, 1, [], vI 0), (1, .istore 4, 2, [4], vN), (3, .iload 4, 2, [4], vN), (5, .sipush 256, 3, [], vI 256), (8, .if_icmp .ge 35, 3, [21], vN), (11, .aload_n 0, 1, [0], vN), (12, .iload 4, 2, [4], vN), (14, .invokevirtual 91, 3, [10, 8], vN), (17, .aload_n 0, 1, [0], vN), (18, .getfield 26, 3, [8, 8], vN), (21, .iload_n 3, 1, [3], vN), (22, .baload, 1, [], vN), (23, .ifCond .ne 14, 3, [19], vN), (26, .aload_n 0, 1, [0], vN), (27, .lload_n 1, 1, [1], vN), (28, .invokevirtual 179, 3, [36, 8], vN), (31, .ifCond .eq 6, 3, [19], vN), (34, .iload 4, 2, [4], vN), (36, .ireturn, 1, [], vN), (37, .iinc 4 1, 3, [4], vI 1), (40, .goto (-37), 3, [2], vN), (43, .bipush (-6), 2, [], vI (-6)), (45, .ireturn, 1, [], vN)]
def hX9_fails : List (Nat × List Bool) := [(3, [true, true, false, true, true])]
def eX9_fails : xE := (9, mX9_fails, tX9_fails, hX9_fails, ceX9)
theorem okX9_fails : xEok eX9_fails := ⟨by decide +kernel, by decide +kernel, by decide +kernel, ceX9_ok, rfl, by decide +kernel⟩
def tX9_failure : List xT := [(0, .aload_n 0, 1, [0], vN), (1, .iload_n 1, 1, [1], vN), (2, .invokevirtual 125, 3, [20, 8], vN), (5, .ifCond .eq 25, 3, [16], vN), (8, .aload_n 0, 1, [0], vN), (9, .aload_n 0, 1, [0], vN), (10, .invokevirtual 183, 3, [37, 8], vN), (13, .aload_n 0, 1, [0], vN), (14, .iload_n 1, 1, [1], vN), (15, .invokevirtual 168, 3, [33, 8], vN), (18, .lor, 1, [], vN), (19, .aload_n 0, 1, [0], vN), (20, .iload_n 1, 1, [1], vN), (21, .invokevirtual 131, 3, [22, 8], vN), (24, .invokevirtual 187, 3, [38, 8], vN), (27, .goto 4, 3, [17], vN), (30, .iconst (-1), 1, [], vI (-1)), (31, .ireturn, 1, [], vN)]
def hX9_failure : List (Nat × List Bool) := []
def eX9_failure : xE := (9, mX9_failure, tX9_failure, hX9_failure, ceX9)
theorem okX9_failure : xEok eX9_failure := ⟨by decide +kernel, by decide +kernel, by decide +kernel, ceX9_ok, rfl, by decide +kernel⟩
def tX9_counterexample : List xT := [(0, .aload_n 0, 1, [0], vN), (1, .iload_n 1, 1, [1], vN), (2, .invokevirtual 83, 3, [8, 8], vN), (5, .ifCond .ne 5, 3, [6], vN), (8, .iconst (-1), 1, [], vI (-1)), (9, .ireturn, 1, [], vN), (10, .aload_n 0, 1, [0], vN), (11, .invokevirtual 183, 3, [37, 8], vN), (14, .lstore_n 2, 1, [2], vN), (15, .iconst 0, 1, [], vI 0), (16, .istore 4, 2, [4], vN), (18, .iload 4, 2, [4], vN), (20, .aload_n 0, 1, [0], vN), (21, .getfield 7, 3, [8, 0], vN), (24, .iconst 2, 1, [], vI 2), (25, .iaload, 1, [], vN), (26, .if_icmp .ge 35, 3, [34], vN), (29, .lload_n 2, 1, [2], vN), (30, .aload_n 0, 1, [0], vN), (31, .iload 4, 2, [4], vN), (33, .invokevirtual 95, 3, [11, 8], vN), (36, .bipush (-6), 2, [], vI (-6)), (38, .if_icmp .ne 14, 3, [29], vN), (41, .lconst 1, 1, [], vL 1), (42, .aload_n 0, 1, [0], vN), (43, .iload 4, 2, [4], vN), (45, .invokevirtual 144, 3, [26, 8], vN), (48, .lshl, 1, [], vN), (49, .goto 4, 3, [30], vN), (52, .lconst 0, 1, [], vL 0), (53, .lor, 1, [], vN), (54, .lstore_n 2, 1, [2], vN), (55, .iinc 4 1, 3, [4], vI 1), (58, .goto (-40), 3, [11], vN), (61, .aload_n 0, 1, [0], vN), (62, .lload_n 2, 1, [2], vN), (63, .iload_n 1, 1, [1], vN), (64, .invokevirtual 187, 3, [38, 8], vN), (67, .ireturn, 1, [], vN)]
def hX9_counterexample : List (Nat × List Bool) := [(18, [true, true, true, false, true])]
def eX9_counterexample : xE := (9, mX9_counterexample, tX9_counterexample, hX9_counterexample, ceX9)
theorem okX9_counterexample : xEok eX9_counterexample := ⟨by decide +kernel, by decide +kernel, by decide +kernel, ceX9_ok, rfl, by decide +kernel⟩
def tX9_shorten : List xT := [(0, .aload_n 0, 1, [0], vN), (1, .invokevirtual 53, 3, [0, 8], vN), (4, .iconst 0, 1, [], vI 0), (5, .istore_n 1, 1, [1], vN), (6, .iconst 0, 1, [], vI 0), (7, .istore_n 2, 1, [2], vN), (8, .iload_n 2, 1, [2], vN), (9, .aload_n 0, 1, [0], vN), (10, .getfield 7, 3, [8, 0], vN), (13, .iconst 1, 1, [], vI 1), (14, .iaload, 1, [], vN), (15, .if_icmp .ge 106, 3, [68], vN), (18, .iconst 0, 1, [], vI 0), (19, .istore_n 3, 1, [3], vN), (20, .iload_n 3, 1, [3], vN), (21, .iconst 3, 1, [], vI 3), (22, .if_icmp .ge 93, 3, [66], vN), (25, .aload_n 0, 1, [0], vN), (26, .iload_n 2, 1, [2], vN), (27, .iload_n 3, 1, [3], vN), (28, .invokevirtual 150, 3, [28, 8], vN), (31, .istore 4, 2, [4], vN), (33, .iload 4, 2, [4], vN), (35, .bipush (-6), 2, [], vI (-6)), (37, .if_icmp .eq 72, 3, [64], vN), (40, .aload_n 0, 1, [0], vN), (41, .iload_n 2, 1, [2], vN), (42, .iload_n 3, 1, [3], vN), (43, .invokevirtual 154, 3, [29, 8], vN), (46, .ifCond .ne 63, 3, [64], vN), (49, .iload 4, 2, [4], vN), (51, .istore 5, 2, [5], vN), (53, .aload_n 0, 1, [0], vN), (54, .iload 5, 2, [5], vN), (56, .invokevirtual 176, 3, [35, 8], vN), (59, .bipush (-6), 2, [], vI (-6)), (61, .if_icmp .eq 14, 3, [42], vN), (64, .aload_n 0, 1, [0], vN), (65, .iload 5, 2, [5], vN), (67, .invokevirtual 176, 3, [35, 8], vN), (70, .istore 5, 2, [5], vN), (72, .goto (-19), 3, [32], vN), (75, .iload_n 1, 1, [1], vN), (76, .iload 5, 2, [5], vN), (78, .iload 4, 2, [4], vN), (80, .if_icmp .ne 7, 3, [48], vN), (83, .iconst 0, 1, [], vI 0), (84, .goto 4, 3, [49], vN), (87, .iconst 1, 1, [], vI 1), (88, .iadd, 1, [], vN), (89, .istore_n 1, 1, [1], vN), (90, .aload_n 0, 1, [0], vN), (91, .getfield 7, 3, [8, 0], vN), (94, .sipush 183, 3, [], vI 183), (97, .bipush 6, 2, [], vI 6), (99, .iload_n 2, 1, [2], vN), (100, .imul, 1, [], vN), (101, .iadd, 1, [], vN), (102, .iconst 2, 1, [], vI 2), (103, .iadd, 1, [], vN), (104, .iload_n 3, 1, [3], vN), (105, .iadd, 1, [], vN), (106, .iload 5, 2, [5], vN), (108, .iastore, 1, [], vN), (109, .iinc 3 1, 3, [3], vI 1), (112, .goto (-92), 3, [14], vN), (115, .iinc 2 1, 3, [2], vI 1), (118, .goto (-110), 3, [6], vN), (121, .iload_n 1, 1, [1], vN), (122, .ireturn, 1, [], vN)]
def hX9_shorten : List (Nat × List Bool) := [(8, [true, true, true, false, false, false]), (20, [true, true, true, true, false, false]), (53, [true, true, true, true, true, true])]
def eX9_shorten : xE := (9, mX9_shorten, tX9_shorten, hX9_shorten, ceX9)
theorem okX9_shorten : xEok eX9_shorten := ⟨by decide +kernel, by decide +kernel, by decide +kernel, ceX9_ok, rfl, by decide +kernel⟩
def tX9_renamed : List xT := [(0, .aload_n 0, 1, [0], vN), (1, .iload_n 1, 1, [1], vN), (2, .iload_n 2, 1, [2], vN), (3, .invokevirtual 150, 3, [28, 8], vN), (6, .istore_n 3, 1, [3], vN), (7, .iload_n 3, 1, [3], vN), (8, .bipush (-6), 2, [], vI (-6)), (10, .if_icmp .ne 8, 3, [10], vN), (13, .bipush (-6), 2, [], vI (-6)), (15, .goto 27, 3, [24], vN), (18, .aload_n 0, 1, [0], vN), (19, .iload_n 1, 1, [1], vN), (20, .iload_n 2, 1, [2], vN), (21, .invokevirtual 154, 3, [29, 8], vN), (24, .ifCond .eq 12, 3, [20], vN), (27, .aload_n 0, 1, [0], vN), (28, .getfield 33, 3, [8, 10], vN), (31, .iload_n 3, 1, [3], vN), (32, .iaload, 1, [], vN), (33, .goto 9, 3, [24], vN), (36, .aload_n 0, 1, [0], vN), (37, .getfield 30, 3, [8, 9], vN), (40, .iload_n 3, 1, [3], vN), (41, .iaload, 1, [], vN), (42, .ireturn, 1, [], vN)]
def hX9_renamed : List (Nat × List Bool) := []
def eX9_renamed : xE := (9, mX9_renamed, tX9_renamed, hX9_renamed, ceX9)
theorem okX9_renamed : xEok eX9_renamed := ⟨by decide +kernel, by decide +kernel, by decide +kernel, ceX9_ok, rfl, by decide +kernel⟩
def tX9_lastIn : List xT := [(0, .bipush (-6), 2, [], vI (-6)), (2, .istore 4, 2, [4], vN), (4, .iconst 0, 1, [], vI 0), (5, .istore 5, 2, [5], vN), (7, .iload 5, 2, [5], vN), (9, .aload_n 0, 1, [0], vN), (10, .getfield 7, 3, [8, 0], vN), (13, .iconst 1, 1, [], vI 1), (14, .iaload, 1, [], vN), (15, .if_icmp .ge 39, 3, [29], vN), (18, .lload_n 2, 1, [2], vN), (19, .iload 5, 2, [5], vN), (21, .lshr, 1, [], vN), (22, .lconst 1, 1, [], vL 1), (23, .land, 1, [], vN), (24, .lconst 1, 1, [], vL 1), (25, .lcmp, 1, [], vN), (26, .ifCond .ne 18, 3, [25], vN), (29, .aload_n 0, 1, [0], vN), (30, .iload 5, 2, [5], vN), (32, .iload_n 1, 1, [1], vN), (33, .invokevirtual 191, 3, [39, 8], vN), (36, .ifCond .eq 8, 3, [25], vN), (39, .iload 5, 2, [5], vN), (41, .goto 5, 3, [26], vN), (44, .iload 4, 2, [4], vN), (46, .istore 4, 2, [4], vN), (48, .iinc 5 1, 3, [5], vI 1), (51, .goto (-44), 3, [4], vN), (54, .iload 4, 2, [4], vN), (56, .ireturn, 1, [], vN)]
def hX9_lastIn : List (Nat × List Bool) := [(7, [true, true, true, false, true, true])]
def eX9_lastIn : xE := (9, mX9_lastIn, tX9_lastIn, hX9_lastIn, ceX9)
theorem okX9_lastIn : xEok eX9_lastIn := ⟨by decide +kernel, by decide +kernel, by decide +kernel, ceX9_ok, rfl, by decide +kernel⟩
def tX9_trim : List xT := [(0, .aload_n 0, 1, [0], vN), (1, .iload_n 1, 1, [1], vN), (2, .invokevirtual 125, 3, [20, 8], vN), (5, .ifCond .ne 5, 3, [6], vN), (8, .iconst (-1), 1, [], vI (-1)), (9, .ireturn, 1, [], vN), (10, .aload_n 0, 1, [0], vN), (11, .invokevirtual 107, 3, [15, 8], vN), (14, .bipush (-6), 2, [], vI (-6)), (16, .if_icmp .ne 13, 3, [15], vN), (19, .aload_n 0, 1, [0], vN), (20, .iload_n 1, 1, [1], vN), (21, .invokevirtual 101, 3, [13, 8], vN), (24, .bipush (-6), 2, [], vI (-6)), (26, .if_icmp .eq 6, 3, [17], vN), (29, .bipush (-3), 2, [], vI (-3)), (31, .ireturn, 1, [], vN), (32, .aload_n 0, 1, [0], vN), (33, .invokevirtual 53, 3, [0, 8], vN), (36, .aload_n 0, 1, [0], vN), (37, .iload_n 1, 1, [1], vN), (38, .invokevirtual 171, 3, [34, 8], vN), (41, .lstore_n 2, 1, [2], vN), (42, .iconst 0, 1, [], vI 0), (43, .istore 4, 2, [4], vN), (45, .iconst 0, 1, [], vI 0), (46, .istore 5, 2, [5], vN), (48, .iload 5, 2, [5], vN), (50, .aload_n 0, 1, [0], vN), (51, .getfield 7, 3, [8, 0], vN), (54, .iconst 1, 1, [], vI 1), (55, .iaload, 1, [], vN), (56, .if_icmp .ge 39, 3, [54], vN), (59, .aload_n 0, 1, [0], vN), (60, .getfield 30, 3, [8, 9], vN), (63, .iload 5, 2, [5], vN), (65, .iload 4, 2, [4], vN), (67, .iastore, 1, [], vN), (68, .iload 4, 2, [4], vN), (70, .lload_n 2, 1, [2], vN), (71, .iload 5, 2, [5], vN), (73, .lshr, 1, [], vN), (74, .lconst 1, 1, [], vL 1), (75, .land, 1, [], vN), (76, .lconst 1, 1, [], vL 1), (77, .lcmp, 1, [], vN), (78, .ifCond .ne 7, 3, [49], vN), (81, .iconst 1, 1, [], vI 1), (82, .goto 4, 3, [50], vN), (85, .iconst 0, 1, [], vI 0), (86, .iadd, 1, [], vN), (87, .istore 4, 2, [4], vN), (89, .iinc 5 1, 3, [5], vI 1), (92, .goto (-44), 3, [27], vN), (95, .iconst 0, 1, [], vI 0), (96, .istore 5, 2, [5], vN), (98, .iconst 0, 1, [], vI 0), (99, .istore 6, 2, [6], vN), (101, .iload 6, 2, [6], vN), (103, .aload_n 0, 1, [0], vN), (104, .getfield 7, 3, [8, 0], vN), (107, .iconst 2, 1, [], vI 2), (108, .iaload, 1, [], vN), (109, .if_icmp .ge 101, 3, [117], vN), (112, .lload_n 2, 1, [2], vN), (113, .aload_n 0, 1, [0], vN), (114, .iload 6, 2, [6], vN), (116, .invokevirtual 144, 3, [26, 8], vN), (119, .lshr, 1, [], vN), (120, .lconst 1, 1, [], vL 1), (121, .land, 1, [], vN), (122, .lconst 1, 1, [], vL 1), (123, .lcmp, 1, [], vN), (124, .ifCond .ne 7, 3, [76], vN), (127, .iconst 1, 1, [], vI 1), (128, .goto 4, 3, [77], vN), (131, .iconst 0, 1, [], vI 0), (132, .istore 7, 2, [7], vN), (134, .aload_n 0, 1, [0], vN), (135, .getfield 33, 3, [8, 10], vN), (138, .iload 6, 2, [6], vN), (140, .iload 7, 2, [7], vN), (142, .ifCond .eq 8, 3, [85], vN), (145, .iload 5, 2, [5], vN), (147, .goto 5, 3, [86], vN), (150, .bipush (-6), 2, [], vI (-6)), (152, .iastore, 1, [], vN), (153, .aload_n 0, 1, [0], vN), (154, .getfield 7, 3, [8, 0], vN), (157, .sipush 471, 3, [], vI 471), (160, .iconst 3, 1, [], vI 3), (161, .iload 6, 2, [6], vN), (163, .imul, 1, [], vN), (164, .iadd, 1, [], vN), (165, .iconst 1, 1, [], vI 1), (166, .iadd, 1, [], vN), (167, .iload 7, 2, [7], vN), (169, .ifCond .eq 13, 3, [103], vN), (172, .aload_n 0, 1, [0], vN), (173, .iload 6, 2, [6], vN), (175, .lload_n 2, 1, [2], vN), (176, .invokevirtual 194, 3, [40, 8], vN), (179, .goto 9, 3, [106], vN), (182, .aload_n 0, 1, [0], vN), (183, .iload 6, 2, [6], vN), (185, .invokevirtual 95, 3, [11, 8], vN), (188, .iastore, 1, [], vN), (189, .iload 5, 2, [5], vN), (191, .iload 7, 2, [7], vN), (193, .ifCond .eq 7, 3, [112], vN), (196, .iconst 1, 1, [], vI 1), (197, .goto 4, 3, [113], vN), (200, .iconst 0, 1, [], vI 0), (201, .iadd, 1, [], vN), (202, .istore 5, 2, [5], vN), (204, .iinc 6 1, 3, [6], vI 1), (207, .goto (-106), 3, [58], vN), (210, .aload_n 0, 1, [0], vN), (211, .getfield 7, 3, [8, 0], vN), (214, .iconst 1, 1, [], vI 1), (215, .iaload, 1, [], vN), (216, .iload 4, 2, [4], vN), (218, .isub, 1, [], vN), (219, .istore 6, 2, [6], vN), (221, .aload_n 0, 1, [0], vN), (222, .lload_n 2, 1, [2], vN), (223, .invokevirtual 198, 3, [41, 8], vN), (226, .aload_n 0, 1, [0], vN), (227, .invokevirtual 202, 3, [42, 8], vN), (230, .aload_n 0, 1, [0], vN), (231, .getfield 7, 3, [8, 0], vN), (234, .iconst 1, 1, [], vI 1), (235, .iload 4, 2, [4], vN), (237, .iastore, 1, [], vN), (238, .aload_n 0, 1, [0], vN), (239, .getfield 7, 3, [8, 0], vN), (242, .iconst 2, 1, [], vI 2), (243, .iload 5, 2, [5], vN), (245, .iastore, 1, [], vN), (246, .iload 6, 2, [6], vN), (248, .ireturn, 1, [], vN)]
def hX9_trim : List (Nat × List Bool) := [(48, [true, false, true, false, true, true, false, false]), (86, [true, false, true, false, false, true, false, false]), (101, [true, false, true, false, true, true, true, false]), (132, [true, false, true, false, true, true, true, false]), (152, [true, false, true, false, true, true, true, true]), (188, [true, false, true, false, true, true, true, true]), (201, [true, false, true, false, true, false, true, false])]
def eX9_trim : xE := (9, mX9_trim, tX9_trim, hX9_trim, ceX9)
theorem okX9_trim : xEok eX9_trim := ⟨by decide +kernel, by decide +kernel, by decide +kernel, ceX9_ok, rfl, by decide +kernel⟩
def tX9_moveLines : List xT := [(0, .iconst 0, 1, [], vI 0), (1, .istore_n 3, 1, [3], vN), (2, .iload_n 3, 1, [3], vN), (3, .aload_n 0, 1, [0], vN), (4, .getfield 7, 3, [8, 0], vN), (7, .iconst 1, 1, [], vI 1), (8, .iaload, 1, [], vN), (9, .if_icmp .ge 155, 3, [100], vN), (12, .lload_n 1, 1, [1], vN), (13, .iload_n 3, 1, [3], vN), (14, .lshr, 1, [], vN), (15, .lconst 1, 1, [], vL 1), (16, .land, 1, [], vN), (17, .lconst 1, 1, [], vL 1), (18, .lcmp, 1, [], vN), (19, .ifCond .ne 139, 3, [98], vN), (22, .sipush 183, 3, [], vI 183), (25, .bipush 6, 2, [], vI 6), (27, .aload_n 0, 1, [0], vN), (28, .getfield 30, 3, [8, 9], vN), (31, .iload_n 3, 1, [3], vN), (32, .iaload, 1, [], vN), (33, .imul, 1, [], vN), (34, .iadd, 1, [], vN), (35, .istore 4, 2, [4], vN), (37, .aload_n 0, 1, [0], vN), (38, .iload_n 3, 1, [3], vN), (39, .iconst 0, 1, [], vI 0), (40, .invokevirtual 205, 3, [43, 8], vN), (43, .istore 5, 2, [5], vN), (45, .aload_n 0, 1, [0], vN), (46, .iload_n 3, 1, [3], vN), (47, .iconst 1, 1, [], vI 1), (48, .invokevirtual 205, 3, [43, 8], vN), (51, .istore 6, 2, [6], vN), (53, .aload_n 0, 1, [0], vN), (54, .iload_n 3, 1, [3], vN), (55, .iconst 2, 1, [], vI 2), (56, .invokevirtual 205, 3, [43, 8], vN), (59, .istore 7, 2, [7], vN), (61, .aload_n 0, 1, [0], vN), (62, .iload_n 3, 1, [3], vN), (63, .invokevirtual 101, 3, [13, 8], vN), (66, .bipush (-6), 2, [], vI (-6)), (68, .if_icmp .ne 8, 3, [47], vN), (71, .bipush (-6), 2, [], vI (-6)), (73, .goto 13, 3, [53], vN), (76, .aload_n 0, 1, [0], vN), (77, .getfield 33, 3, [8, 10], vN), (80, .aload_n 0, 1, [0], vN), (81, .iload_n 3, 1, [3], vN), (82, .invokevirtual 101, 3, [13, 8], vN), (85, .iaload, 1, [], vN), (86, .istore 8, 2, [8], vN), (88, .aload_n 0, 1, [0], vN), (89, .getfield 7, 3, [8, 0], vN), (92, .iload 4, 2, [4], vN), (94, .aload_n 0, 1, [0], vN), (95, .iload_n 3, 1, [3], vN), (96, .invokevirtual 131, 3, [22, 8], vN), (99, .iastore, 1, [], vN), (100, .aload_n 0, 1, [0], vN), (101, .getfield 7, 3, [8, 0], vN), (104, .iload 4, 2, [4], vN), (106, .iconst 1, 1, [], vI 1), (107, .iadd, 1, [], vN), (108, .aload_n 0, 1, [0], vN), (109, .iload_n 3, 1, [3], vN), (110, .invokevirtual 147, 3, [27, 8], vN), (113, .iastore, 1, [], vN), (114, .aload_n 0, 1, [0], vN), (115, .getfield 7, 3, [8, 0], vN), (118, .iload 4, 2, [4], vN), (120, .iconst 2, 1, [], vI 2), (121, .iadd, 1, [], vN), (122, .iload 5, 2, [5], vN), (124, .iastore, 1, [], vN), (125, .aload_n 0, 1, [0], vN), (126, .getfield 7, 3, [8, 0], vN), (129, .iload 4, 2, [4], vN), (131, .iconst 3, 1, [], vI 3), (132, .iadd, 1, [], vN), (133, .iload 6, 2, [6], vN), (135, .iastore, 1, [], vN), (136, .aload_n 0, 1, [0], vN), (137, .getfield 7, 3, [8, 0], vN), (140, .iload 4, 2, [4], vN), (142, .iconst 4, 1, [], vI 4), (143, .iadd, 1, [], vN), (144, .iload 7, 2, [7], vN), (146, .iastore, 1, [], vN), (147, .aload_n 0, 1, [0], vN), (148, .getfield 7, 3, [8, 0], vN), (151, .iload 4, 2, [4], vN), (153, .iconst 5, 1, [], vI 5), (154, .iadd, 1, [], vN), (155, .iload 8, 2, [8], vN), (157, .iastore, 1, [], vN), (158, .iinc 3 1, 3, [3], vI 1), (161, .goto (-159), 3, [2], vN), (164, .return_, 1, [], vN)]
def hX9_moveLines : List (Nat × List Bool) := [(2, [true, true, false, true, false, false, false, false, false])]
def eX9_moveLines : xE := (9, mX9_moveLines, tX9_moveLines, hX9_moveLines, ceX9)
theorem okX9_moveLines : xEok eX9_moveLines := ⟨by decide +kernel, by decide +kernel, by decide +kernel, ceX9_ok, rfl, by decide +kernel⟩
def tX9_moveBoxes : List xT := [(0, .iconst 0, 1, [], vI 0), (1, .istore_n 1, 1, [1], vN), (2, .iload_n 1, 1, [1], vN), (3, .aload_n 0, 1, [0], vN), (4, .getfield 7, 3, [8, 0], vN), (7, .iconst 2, 1, [], vI 2), (8, .iaload, 1, [], vN), (9, .if_icmp .ge 110, 3, [72], vN), (12, .aload_n 0, 1, [0], vN), (13, .getfield 33, 3, [8, 10], vN), (16, .iload_n 1, 1, [1], vN), (17, .iaload, 1, [], vN), (18, .bipush (-6), 2, [], vI (-6)), (20, .if_icmp .eq 93, 3, [70], vN), (23, .sipush 471, 3, [], vI 471), (26, .iconst 3, 1, [], vI 3), (27, .aload_n 0, 1, [0], vN), (28, .getfield 33, 3, [8, 10], vN), (31, .iload_n 1, 1, [1], vN), (32, .iaload, 1, [], vN), (33, .imul, 1, [], vN), (34, .iadd, 1, [], vN), (35, .istore_n 2, 1, [2], vN), (36, .aload_n 0, 1, [0], vN), (37, .getfield 30, 3, [8, 9], vN), (40, .aload_n 0, 1, [0], vN), (41, .iload_n 1, 1, [1], vN), (42, .invokevirtual 144, 3, [26, 8], vN), (45, .iaload, 1, [], vN), (46, .istore_n 3, 1, [3], vN), (47, .aload_n 0, 1, [0], vN), (48, .getfield 30, 3, [8, 9], vN), (51, .aload_n 0, 1, [0], vN), (52, .iload_n 1, 1, [1], vN), (53, .invokevirtual 95, 3, [11, 8], vN), (56, .iaload, 1, [], vN), (57, .istore 4, 2, [4], vN), (59, .aload_n 0, 1, [0], vN), (60, .iload_n 1, 1, [1], vN), (61, .invokevirtual 98, 3, [12, 8], vN), (64, .bipush (-6), 2, [], vI (-6)), (66, .if_icmp .ne 8, 3, [44], vN), (69, .bipush (-6), 2, [], vI (-6)), (71, .goto 13, 3, [50], vN), (74, .aload_n 0, 1, [0], vN), (75, .getfield 33, 3, [8, 10], vN), (78, .aload_n 0, 1, [0], vN), (79, .iload_n 1, 1, [1], vN), (80, .invokevirtual 98, 3, [12, 8], vN), (83, .iaload, 1, [], vN), (84, .istore 5, 2, [5], vN), (86, .aload_n 0, 1, [0], vN), (87, .getfield 7, 3, [8, 0], vN), (90, .iload_n 2, 1, [2], vN), (91, .iload_n 3, 1, [3], vN), (92, .iastore, 1, [], vN), (93, .aload_n 0, 1, [0], vN), (94, .getfield 7, 3, [8, 0], vN), (97, .iload_n 2, 1, [2], vN), (98, .iconst 1, 1, [], vI 1), (99, .iadd, 1, [], vN), (100, .iload 4, 2, [4], vN), (102, .iastore, 1, [], vN), (103, .aload_n 0, 1, [0], vN), (104, .getfield 7, 3, [8, 0], vN), (107, .iload_n 2, 1, [2], vN), (108, .iconst 2, 1, [], vI 2), (109, .iadd, 1, [], vN), (110, .iload 5, 2, [5], vN), (112, .iastore, 1, [], vN), (113, .iinc 1 1, 3, [1], vI 1), (116, .goto (-114), 3, [2], vN), (119, .return_, 1, [], vN)]
def hX9_moveBoxes : List (Nat × List Bool) := [(2, [true, true, false, false, false, false])]
def eX9_moveBoxes : xE := (9, mX9_moveBoxes, tX9_moveBoxes, hX9_moveBoxes, ceX9)
theorem okX9_moveBoxes : xEok eX9_moveBoxes := ⟨by decide +kernel, by decide +kernel, by decide +kernel, ceX9_ok, rfl, by decide +kernel⟩
def tX9_append : List xT := [(0, .iload_n 1, 1, [1], vN), (1, .bipush 33, 2, [], vI 33), (3, .bipush 126, 2, [], vI 126), (5, .invokestatic 77, 3, [0, 0], vN), (8, .ifCond .ne 6, 3, [7], vN), (11, .bipush (-2), 2, [], vI (-2)), (13, .ireturn, 1, [], vN), (14, .aload_n 0, 1, [0], vN), (15, .getfield 208, 3, [8, 6], vN), (18, .bipush 70, 2, [], vI 70), (20, .if_icmp .ne 6, 3, [13], vN), (23, .bipush (-4), 2, [], vI (-4)), (25, .ireturn, 1, [], vN), (26, .aload_n 0, 1, [0], vN), (27, .getfield 19, 3, [8, 5], vN), (30, .aload_n 0, 1, [0], vN), (31, .getfield 208, 3, [8, 6], vN), (34, .iload_n 1, 1, [1], vN), (35, .i2c, 1, [], vN), (36, .castore, 1, [], vN), (37, .aload_n 0, 1, [0], vN), (38, .dup, 1, [], vN), (39, .getfield 208, 3, [8, 6], vN), (42, .iconst 1, 1, [], vI 1), (43, .iadd, 1, [], vN), (44, .putfield 208, 3, [8, 6], vN), (47, .aload_n 0, 1, [0], vN), (48, .getfield 208, 3, [8, 6], vN), (51, .ireturn, 1, [], vN)]
def hX9_append : List (Nat × List Bool) := []
def eX9_append : xE := (9, mX9_append, tX9_append, hX9_append, ceX9)
theorem okX9_append : xEok eX9_append := ⟨by decide +kernel, by decide +kernel, by decide +kernel, ceX9_ok, rfl, by decide +kernel⟩
def tX9_clearText : List xT := [(0, .aload_n 0, 1, [0], vN), (1, .getfield 208, 3, [8, 6], vN), (4, .istore_n 1, 1, [1], vN), (5, .aload_n 0, 1, [0], vN), (6, .iconst 0, 1, [], vI 0), (7, .putfield 208, 3, [8, 6], vN), (10, .iload_n 1, 1, [1], vN), (11, .ireturn, 1, [], vN)]
def hX9_clearText : List (Nat × List Bool) := []
def eX9_clearText : xE := (9, mX9_clearText, tX9_clearText, hX9_clearText, ceX9)
theorem okX9_clearText : xEok eX9_clearText := ⟨by decide +kernel, by decide +kernel, by decide +kernel, ceX9_ok, rfl, by decide +kernel⟩
def tX9_makes : List xT := [(0, .iload_n 1, 1, [1], vN), (1, .ifCond .eq 10, 3, [5], vN), (4, .aload_n 0, 1, [0], vN), (5, .getfield 211, 3, [8, 17], vN), (8, .ifCond .eq 5, 3, [7], vN), (11, .iconst 0, 1, [], vI 0), (12, .ireturn, 1, [], vN), (13, .aload_n 0, 1, [0], vN), (14, .aload_n 0, 1, [0], vN), (15, .iload_n 2, 1, [2], vN), (16, .iload_n 3, 1, [3], vN), (17, .iload 4, 2, [4], vN), (19, .invokevirtual 70, 3, [5, 8], vN), (22, .ifCond .ne 7, 3, [16], vN), (25, .iconst 1, 1, [], vI 1), (26, .goto 4, 3, [17], vN), (29, .iconst 0, 1, [], vI 0), (30, .putfield 211, 3, [8, 17], vI 0), (33, .aload_n 0, 1, [0], vN), (34, .getfield 211, 3, [8, 17], vN), (37, .ifCond .eq 7, 3, [23], vN), (40, .iconst 0, 1, [], vI 0), (41, .goto 11, 3, [28], vN), (44, .aload_n 0, 1, [0], vN), (45, .iload_n 2, 1, [2], vN), (46, .iload_n 3, 1, [3], vN), (47, .iload 4, 2, [4], vN), (49, .invokevirtual 74, 3, [6, 8], vN), (52, .ireturn, 1, [], vN)]
def hX9_makes : List (Nat × List Bool) := []
def eX9_makes : xE := (9, mX9_makes, tX9_makes, hX9_makes, ceX9)
theorem okX9_makes : xEok eX9_makes := ⟨by decide +kernel, by decide +kernel, by decide +kernel, ceX9_ok, rfl, by decide +kernel⟩
def tX9_isWhole : List xT := [(0, .aload_n 0, 1, [0], vN), (1, .iload_n 2, 1, [2], vN), (2, .putfield 214, 3, [8, 16], vN), (5, .iconst 0, 1, [], vI 0), (6, .istore_n 3, 1, [3], vN), (7, .iload_n 3, 1, [3], vN), (8, .aload_n 0, 1, [0], vN), (9, .getfield 36, 3, [8, 11], vN), (12, .aload_n 0, 1, [0], vN), (13, .getfield 217, 3, [8, 14], vN), (16, .iaload, 1, [], vN), (17, .if_icmp .ge 25, 3, [23], vN), (20, .aload_n 0, 1, [0], vN), (21, .aload_n 0, 1, [0], vN), (22, .iload_n 1, 1, [1], vN), (23, .iconst 2, 1, [], vI 2), (24, .aload_n 0, 1, [0], vN), (25, .getfield 214, 3, [8, 16], vN), (28, .bipush (-6), 2, [], vI (-6)), (30, .invokevirtual 220, 3, [44, 8], vN), (33, .putfield 214, 3, [8, 16], vN), (36, .iinc 3 1, 3, [3], vI 1), (39, .goto (-32), 3, [5], vN), (42, .aload_n 0, 1, [0], vN), (43, .getfield 36, 3, [8, 11], vN), (46, .aload_n 0, 1, [0], vN), (47, .getfield 217, 3, [8, 14], vN), (50, .iconst 0, 1, [], vI 0), (51, .iastore, 1, [], vN), (52, .aload_n 0, 1, [0], vN), (53, .iconst 0, 1, [], vI 0), (54, .putfield 224, 3, [8, 15], vI 0), (57, .return_, 1, [], vN)]
def hX9_isWhole : List (Nat × List Bool) := [(7, [true, true, false, true])]
def eX9_isWhole : xE := (9, mX9_isWhole, tX9_isWhole, hX9_isWhole, ceX9)
theorem okX9_isWhole : xEok eX9_isWhole := ⟨by decide +kernel, by decide +kernel, by decide +kernel, ceX9_ok, rfl, by decide +kernel⟩
def tX9_signOf : List xT := [(0, .iload_n 0, 1, [0], vN), (1, .bipush 38, 2, [], vI 38), (3, .if_icmp .ne 7, 3, [5], vN), (6, .iconst 3, 1, [], vI 3), (7, .goto 25, 3, [16], vN), (10, .iload_n 0, 1, [0], vN), (11, .bipush 124, 2, [], vI 124), (13, .if_icmp .ne 7, 3, [10], vN), (16, .iconst 4, 1, [], vI 4), (17, .goto 15, 3, [16], vN), (20, .iload_n 0, 1, [0], vN), (21, .bipush 62, 2, [], vI 62), (23, .if_icmp .ne 7, 3, [15], vN), (26, .iconst 5, 1, [], vI 5), (27, .goto 5, 3, [16], vN), (30, .bipush (-6), 2, [], vI (-6)), (32, .ireturn, 1, [], vN)]
def hX9_signOf : List (Nat × List Bool) := []
def eX9_signOf : xE := (9, mX9_signOf, tX9_signOf, hX9_signOf, ceX9)
theorem okX9_signOf : xEok eX9_signOf := ⟨by decide +kernel, by decide +kernel, by decide +kernel, ceX9_ok, rfl, by decide +kernel⟩
def tX9_readOne : List xT := [(0, .aload_n 0, 1, [0], vN), (1, .getfield 224, 3, [8, 15], vN), (4, .ifCond .eq 133, 3, [76], vN), (7, .iload_n 2, 1, [2], vN), (8, .bipush 97, 2, [], vI 97), (10, .bipush 104, 2, [], vI 104), (12, .invokestatic 77, 3, [0, 0], vN), (15, .ifCond .eq 23, 3, [20], vN), (18, .aload_n 0, 1, [0], vN), (19, .iload_n 1, 1, [1], vN), (20, .aload_n 0, 1, [0], vN), (21, .iload_n 1, 1, [1], vN), (22, .iconst 0, 1, [], vI 0), (23, .iload_n 2, 1, [2], vN), (24, .bipush 97, 2, [], vI 97), (26, .isub, 1, [], vN), (27, .bipush (-6), 2, [], vI (-6)), (29, .invokevirtual 220, 3, [44, 8], vN), (32, .invokevirtual 227, 3, [45, 8], vN), (35, .goto 100, 3, [74], vN), (38, .iload_n 2, 1, [2], vN), (39, .bipush 35, 2, [], vI 35), (41, .if_icmp .ne 21, 3, [33], vN), (44, .aload_n 0, 1, [0], vN), (45, .iload_n 1, 1, [1], vN), (46, .aload_n 0, 1, [0], vN), (47, .iload_n 1, 1, [1], vN), (48, .iconst 1, 1, [], vI 1), (49, .bipush (-6), 2, [], vI (-6)), (51, .bipush (-6), 2, [], vI (-6)), (53, .invokevirtual 220, 3, [44, 8], vN), (56, .invokevirtual 227, 3, [45, 8], vN), (59, .goto 76, 3, [74], vN), (62, .iload_n 2, 1, [2], vN), (63, .bipush 126, 2, [], vI 126), (65, .if_icmp .ne 19, 3, [46], vN), (68, .aload_n 0, 1, [0], vN), (69, .getfield 36, 3, [8, 11], vN), (72, .aload_n 0, 1, [0], vN), (73, .getfield 217, 3, [8, 14], vN), (76, .dup2, 1, [], vN), (77, .iaload, 1, [], vN), (78, .iconst 1, 1, [], vI 1), (79, .iadd, 1, [], vN), (80, .iastore, 1, [], vN), (81, .goto 54, 3, [74], vN), (84, .iload_n 2, 1, [2], vN), (85, .bipush 40, 2, [], vI 40), (87, .if_icmp .ne 46, 3, [72], vN), (90, .aload_n 0, 1, [0], vN), (91, .getfield 217, 3, [8, 14], vN), (94, .bipush 10, 2, [], vI 10), (96, .if_icmp .ge 37, 3, [72], vN), (99, .aload_n 0, 1, [0], vN), (100, .dup, 1, [], vN), (101, .getfield 217, 3, [8, 14], vN), (104, .iconst 1, 1, [], vI 1), (105, .iadd, 1, [], vN), (106, .putfield 217, 3, [8, 14], vN), (109, .aload_n 0, 1, [0], vN), (110, .getfield 36, 3, [8, 11], vN), (113, .aload_n 0, 1, [0], vN), (114, .getfield 217, 3, [8, 14], vN), (117, .iconst 0, 1, [], vI 0), (118, .iastore, 1, [], vN), (119, .aload_n 0, 1, [0], vN), (120, .getfield 42, 3, [8, 13], vN), (123, .aload_n 0, 1, [0], vN), (124, .getfield 217, 3, [8, 14], vN), (127, .bipush (-6), 2, [], vI (-6)), (129, .iastore, 1, [], vN), (130, .goto 5, 3, [74], vN), (133, .iconst 0, 1, [], vI 0), (134, .ireturn, 1, [], vN), (135, .iconst 1, 1, [], vI 1), (136, .ireturn, 1, [], vN), (137, .aload_n 0, 1, [0], vN), (138, .getfield 217, 3, [8, 14], vN), (141, .ifCond .ne 5, 3, [81], vN), (144, .iconst 0, 1, [], vI 0), (145, .ireturn, 1, [], vN), (146, .aload_n 0, 1, [0], vN), (147, .getfield 42, 3, [8, 13], vN), (150, .aload_n 0, 1, [0], vN), (151, .getfield 217, 3, [8, 14], vN), (154, .iaload, 1, [], vN), (155, .bipush (-6), 2, [], vI (-6)), (157, .if_icmp .ne 54, 3, [116], vN), (160, .aload_n 0, 1, [0], vN), (161, .getfield 42, 3, [8, 13], vN), (164, .aload_n 0, 1, [0], vN), (165, .getfield 217, 3, [8, 14], vN), (168, .iload_n 2, 1, [2], vN), (169, .invokestatic 231, 3, [1, 0], vN), (172, .iastore, 1, [], vN), (173, .aload_n 0, 1, [0], vN), (174, .getfield 39, 3, [8, 12], vN), (177, .aload_n 0, 1, [0], vN), (178, .getfield 217, 3, [8, 14], vN), (181, .aload_n 0, 1, [0], vN), (182, .getfield 214, 3, [8, 16], vN), (185, .iastore, 1, [], vN), (186, .aload_n 0, 1, [0], vN), (187, .iconst 1, 1, [], vI 1), (188, .putfield 224, 3, [8, 15], vI 0), (191, .aload_n 0, 1, [0], vN), (192, .getfield 42, 3, [8, 13], vN), (195, .aload_n 0, 1, [0], vN), (196, .getfield 217, 3, [8, 14], vN), (199, .iaload, 1, [], vN), (200, .bipush (-6), 2, [], vI (-6)), (202, .if_icmp .eq 7, 3, [114], vN), (205, .iconst 1, 1, [], vI 1), (206, .goto 4, 3, [115], vN), (209, .iconst 0, 1, [], vI 0), (210, .ireturn, 1, [], vN), (211, .iload_n 2, 1, [2], vN), (212, .bipush 41, 2, [], vI 41), (214, .if_icmp .eq 5, 3, [121], vN), (217, .iconst 0, 1, [], vI 0), (218, .ireturn, 1, [], vN), (219, .aload_n 0, 1, [0], vN), (220, .iload_n 1, 1, [1], vN), (221, .aload_n 0, 1, [0], vN), (222, .getfield 42, 3, [8, 13], vN), (225, .aload_n 0, 1, [0], vN), (226, .getfield 217, 3, [8, 14], vN), (229, .iaload, 1, [], vN), (230, .aload_n 0, 1, [0], vN), (231, .getfield 39, 3, [8, 12], vN), (234, .aload_n 0, 1, [0], vN), (235, .getfield 217, 3, [8, 14], vN), (238, .iaload, 1, [], vN), (239, .aload_n 0, 1, [0], vN), (240, .getfield 214, 3, [8, 16], vN), (243, .invokevirtual 220, 3, [44, 8], vN), (246, .istore_n 3, 1, [3], vN), (247, .aload_n 0, 1, [0], vN), (248, .dup, 1, [], vN), (249, .getfield 217, 3, [8, 14], vN), (252, .iconst 1, 1, [], vI 1), (253, .isub, 1, [], vN), (254, .putfield 217, 3, [8, 14], vN), (257, .aload_n 0, 1, [0], vN), (258, .iload_n 1, 1, [1], vN), (259, .iload_n 3, 1, [3], vN), (260, .invokevirtual 227, 3, [45, 8], vN), (263, .iconst 1, 1, [], vI 1), (264, .ireturn, 1, [], vN)]
def hX9_readOne : List (Nat × List Bool) := []
def eX9_readOne : xE := (9, mX9_readOne, tX9_readOne, hX9_readOne, ceX9)
theorem okX9_readOne : xEok eX9_readOne := ⟨by decide +kernel, by decide +kernel, by decide +kernel, ceX9_ok, rfl, by decide +kernel⟩
def tX9_readBuffer : List xT := [(0, .aload_n 0, 1, [0], vN), (1, .iconst 0, 1, [], vI 0), (2, .putfield 217, 3, [8, 14], vN), (5, .aload_n 0, 1, [0], vN), (6, .getfield 36, 3, [8, 11], vN), (9, .iconst 0, 1, [], vI 0), (10, .iconst 0, 1, [], vI 0), (11, .iastore, 1, [], vN), (12, .aload_n 0, 1, [0], vN), (13, .iconst 1, 1, [], vI 1), (14, .putfield 224, 3, [8, 15], vI 0), (17, .aload_n 0, 1, [0], vN), (18, .iconst 0, 1, [], vI 0), (19, .putfield 211, 3, [8, 17], vI 0), (22, .iconst 0, 1, [], vI 0), (23, .istore_n 2, 1, [2], vN), (24, .iload_n 2, 1, [2], vN), (25, .aload_n 0, 1, [0], vN), (26, .getfield 208, 3, [8, 6], vN), (29, .if_icmp .ge 25, 3, [32], vN), (32, .aload_n 0, 1, [0], vN), (33, .iload_n 1, 1, [1], vN), (34, .aload_n 0, 1, [0], vN), (35, .getfield 19, 3, [8, 5], vN), (38, .iload_n 2, 1, [2], vN), (39, .caload, 1, [], vN), (40, .invokevirtual 234, 3, [46, 8], vN), (43, .ifCond .ne 5, 3, [30], vN), (46, .iload_n 2, 1, [2], vN), (47, .ireturn, 1, [], vN), (48, .iinc 2 1, 3, [2], vI 1), (51, .goto (-27), 3, [16], vN), (54, .aload_n 0, 1, [0], vN), (55, .getfield 224, 3, [8, 15], vN), (58, .ifCond .ne 10, 3, [38], vN), (61, .aload_n 0, 1, [0], vN), (62, .getfield 217, 3, [8, 14], vN), (65, .ifCond .le 10, 3, [41], vN), (68, .aload_n 0, 1, [0], vN), (69, .getfield 208, 3, [8, 6], vN), (72, .goto 5, 3, [42], vN), (75, .bipush (-6), 2, [], vI (-6)), (77, .ireturn, 1, [], vN)]
def hX9_readBuffer : List (Nat × List Bool) := [(24, [true, true, true])]
def eX9_readBuffer : xE := (9, mX9_readBuffer, tX9_readBuffer, hX9_readBuffer, ceX9)
theorem okX9_readBuffer : xEok eX9_readBuffer := ⟨by decide +kernel, by decide +kernel, by decide +kernel, ceX9_ok, rfl, by decide +kernel⟩
def tX9_errorPosition : List xT := [(0, .aload_n 0, 1, [0], vN), (1, .iconst 0, 1, [], vI 0), (2, .invokevirtual 238, 3, [47, 8], vN), (5, .ireturn, 1, [], vN)]
def hX9_errorPosition : List (Nat × List Bool) := []
def eX9_errorPosition : xE := (9, mX9_errorPosition, tX9_errorPosition, hX9_errorPosition, ceX9)
theorem okX9_errorPosition : xEok eX9_errorPosition := ⟨by decide +kernel, by decide +kernel, by decide +kernel, ceX9_ok, rfl, by decide +kernel⟩
def tX9_read : List xT := [(0, .aload_n 0, 1, [0], vN), (1, .iconst 0, 1, [], vI 0), (2, .invokevirtual 238, 3, [47, 8], vN), (5, .bipush (-6), 2, [], vI (-6)), (7, .if_icmp .eq 6, 3, [7], vN), (10, .bipush (-5), 2, [], vI (-5)), (12, .ireturn, 1, [], vN), (13, .aload_n 0, 1, [0], vN), (14, .getfield 7, 3, [8, 0], vN), (17, .iconst 0, 1, [], vI 0), (18, .iaload, 1, [], vN), (19, .istore_n 1, 1, [1], vN), (20, .aload_n 0, 1, [0], vN), (21, .iconst 1, 1, [], vI 1), (22, .invokevirtual 238, 3, [47, 8], vN), (25, .pop, 1, [], vN), (26, .aload_n 0, 1, [0], vN), (27, .getfield 7, 3, [8, 0], vN), (30, .iconst 0, 1, [], vI 0), (31, .iaload, 1, [], vN), (32, .istore_n 2, 1, [2], vN), (33, .aload_n 0, 1, [0], vN), (34, .getfield 7, 3, [8, 0], vN), (37, .iconst 0, 1, [], vI 0), (38, .iload_n 1, 1, [1], vN), (39, .iastore, 1, [], vN), (40, .aload_n 0, 1, [0], vN), (41, .getfield 211, 3, [8, 17], vN), (44, .ifCond .eq 6, 3, [31], vN), (47, .bipush (-4), 2, [], vI (-4)), (49, .ireturn, 1, [], vN), (50, .aload_n 0, 1, [0], vN), (51, .invokevirtual 53, 3, [0, 8], vN), (54, .aload_n 0, 1, [0], vN), (55, .getfield 7, 3, [8, 0], vN), (58, .iconst 0, 1, [], vI 0), (59, .iload_n 2, 1, [2], vN), (60, .iastore, 1, [], vN), (61, .aload_n 0, 1, [0], vN), (62, .iconst 0, 1, [], vI 0), (63, .putfield 208, 3, [8, 6], vN), (66, .aload_n 0, 1, [0], vN), (67, .getfield 214, 3, [8, 16], vN), (70, .ireturn, 1, [], vN)]
def hX9_read : List (Nat × List Bool) := []
def eX9_read : xE := (9, mX9_read, tX9_read, hX9_read, ceX9)
theorem okX9_read : xEok eX9_read := ⟨by decide +kernel, by decide +kernel, by decide +kernel, ceX9_ok, rfl, by decide +kernel⟩
def tJ6_bitCount_0f7a4 : List xT := [(0, .iload_n 0, 1, [0], vN), (1, .iload_n 0, 1, [0], vN), (2, .iconst 1, 1, [], vI 1), (3, .iushr, 1, [], vN), (4, .ldc_w 265, 3, [], vI 1431655765), (7, .iand, 1, [], vN), (8, .isub, 1, [], vN), (9, .istore_n 0, 1, [0], vN), (10, .iload_n 0, 1, [0], vN), (11, .ldc_w 266, 3, [], vI 858993459), (14, .iand, 1, [], vN), (15, .iload_n 0, 1, [0], vN), (16, .iconst 2, 1, [], vI 2), (17, .iushr, 1, [], vN), (18, .ldc_w 266, 3, [], vI 858993459), (21, .iand, 1, [], vN), (22, .iadd, 1, [], vN), (23, .istore_n 0, 1, [0], vN), (24, .iload_n 0, 1, [0], vN), (25, .iload_n 0, 1, [0], vN), (26, .iconst 4, 1, [], vI 4), (27, .iushr, 1, [], vN), (28, .iadd, 1, [], vN), (29, .ldc_w 267, 3, [], vI 252645135), (32, .iand, 1, [], vN), (33, .istore_n 0, 1, [0], vN), (34, .iload_n 0, 1, [0], vN), (35, .iload_n 0, 1, [0], vN), (36, .bipush 8, 2, [], vI 8), (38, .iushr, 1, [], vN), (39, .iadd, 1, [], vN), (40, .istore_n 0, 1, [0], vN), (41, .iload_n 0, 1, [0], vN), (42, .iload_n 0, 1, [0], vN), (43, .bipush 16, 2, [], vI 16), (45, .iushr, 1, [], vN), (46, .iadd, 1, [], vN), (47, .istore_n 0, 1, [0], vN), (48, .iload_n 0, 1, [0], vN), (49, .bipush 63, 2, [], vI 63), (51, .iand, 1, [], vN), (52, .ireturn, 1, [], vN)]
def hJ6_bitCount_0f7a4 : List (Nat × List Bool) := []
def eJ6_bitCount_0f7a4 : xE := (10, mJ6_bitCount_0f7a4, tJ6_bitCount_0f7a4, hJ6_bitCount_0f7a4, ceJ6)
theorem okJ6_bitCount_0f7a4 : xEok eJ6_bitCount_0f7a4 := ⟨by decide +kernel, by decide +kernel, by decide +kernel, ceJ6_ok, rfl, by decide +kernel⟩
def tJ13_bitCount_95d88 : List xT := [(0, .lload_n 0, 1, [0], vN), (1, .lload_n 0, 1, [0], vN), (2, .iconst 1, 1, [], vI 1), (3, .lushr, 1, [], vN), (4, .ldc2_w 314, 3, [], vL 6148914691236517205), (7, .land, 1, [], vN), (8, .lsub, 1, [], vN), (9, .lstore_n 0, 1, [0], vN), (10, .lload_n 0, 1, [0], vN), (11, .ldc2_w 316, 3, [], vL 3689348814741910323), (14, .land, 1, [], vN), (15, .lload_n 0, 1, [0], vN), (16, .iconst 2, 1, [], vI 2), (17, .lushr, 1, [], vN), (18, .ldc2_w 316, 3, [], vL 3689348814741910323), (21, .land, 1, [], vN), (22, .ladd, 1, [], vN), (23, .lstore_n 0, 1, [0], vN), (24, .lload_n 0, 1, [0], vN), (25, .lload_n 0, 1, [0], vN), (26, .iconst 4, 1, [], vI 4), (27, .lushr, 1, [], vN), (28, .ladd, 1, [], vN), (29, .ldc2_w 318, 3, [], vL 1085102592571150095), (32, .land, 1, [], vN), (33, .lstore_n 0, 1, [0], vN), (34, .lload_n 0, 1, [0], vN), (35, .lload_n 0, 1, [0], vN), (36, .bipush 8, 2, [], vI 8), (38, .lushr, 1, [], vN), (39, .ladd, 1, [], vN), (40, .lstore_n 0, 1, [0], vN), (41, .lload_n 0, 1, [0], vN), (42, .lload_n 0, 1, [0], vN), (43, .bipush 16, 2, [], vI 16), (45, .lushr, 1, [], vN), (46, .ladd, 1, [], vN), (47, .lstore_n 0, 1, [0], vN), (48, .lload_n 0, 1, [0], vN), (49, .lload_n 0, 1, [0], vN), (50, .bipush 32, 2, [], vI 32), (52, .lushr, 1, [], vN), (53, .ladd, 1, [], vN), (54, .lstore_n 0, 1, [0], vN), (55, .lload_n 0, 1, [0], vN), (56, .l2i, 1, [], vN), (57, .bipush 127, 2, [], vI 127), (59, .iand, 1, [], vN), (60, .ireturn, 1, [], vN)]
def hJ13_bitCount_95d88 : List (Nat × List Bool) := []
def eJ13_bitCount_95d88 : xE := (11, mJ13_bitCount_95d88, tJ13_bitCount_95d88, hJ13_bitCount_95d88, ceJ13)
theorem okJ13_bitCount_95d88 : xEok eJ13_bitCount_95d88 := ⟨by decide +kernel, by decide +kernel, by decide +kernel, ceJ13_ok, rfl, by decide +kernel⟩
end
section
/-! THE METHODS AS CONDITIONS, by program: each held against the small machine -/
abbrev xiu (x y : Int32) : Int32 := (x.toUInt32 >>> (y.toUInt32 &&& Int32.toUInt32 31)).toInt32
abbrev xi2c (x : Int32) : Int32 := (x.toUInt32 % 65536).toInt32
abbrev xls (x : Int64) (y : Int32) : Int64 := x <<< (y.toInt64 &&& 63)
abbrev xlr (x : Int64) (y : Int32) : Int64 := x >>> (y.toInt64 &&& 63)
abbrev xlu (x : Int64) (y : Int32) : Int64 := (x.toUInt64 >>> (y.toInt64.toUInt64 &&& Int64.toUInt64 63)).toInt64
set_option maxRecDepth 100000 in
set_option maxHeartbeats 4000000 in
theorem wX0_add {G : xG} {d : Nat} {a0 : Int32} {μ : xM} {Q : xP} (h : MW G d mX5_set [vR (0, 0, 14), vI (μ (6, 0, 0) 0), vI a0] μ (xrV fun μ1 => Q none (xst μ1 (6, 0, 0) 0 (((μ1 (6, 0, 0) 0) + (1 : Int32)))))) : MW G (d + 1) mX0_add [vR (6, 0, 0), vI a0] μ Q := MW.of (E := eX0_add) okX0_add (Nat.le_of_ble_eq_true rfl) fun Z => WS.go okX0_add 18 h
set_option maxRecDepth 100000 in
set_option maxHeartbeats 4000000 in
theorem wX0_firstError {G : xG} {d : Nat} {μ : xM} {Q : xP} (h : ∀ Z : xZ, ((0 : Int32) = 0 ∨ (0 : Int32) = 1) ∧ WS G eX0_firstError (d + 1) Z Q 17 [vR (6, 0, 0), vI (0 : Int32), vN, vN] [] (xst (xst (xst μ (6, 0, 0) 2 (0 : Int32)) (6, 0, 0) 3 (0 : Int32)) (6, 0, 0) 4 (0 : Int32))) : MW G (d + 1) mX0_firstError [vR (6, 0, 0)] μ Q := MW.of (E := eX0_firstError) okX0_firstError (Nat.le_of_ble_eq_true rfl) fun Z => WS.go okX0_firstError 53 (h Z)
set_option maxRecDepth 100000 in
set_option maxHeartbeats 4000000 in
theorem wX0_firstError_17 {G : xG} {d : Nat} {Z : xZ} {v1 : Int32} {μ : xM} {Q : xP} (h : xif ((μ (6, 0, 0) 0) ≤ v1) (xif ((μ (6, 0, 0) 4) = 0) (Q (some (vI ((μ (6, 0, 0) 0)))) μ) (xif ((μ (6, 0, 0) 2) = 0) (Q (some (vI (-6 : Int32))) μ) (Q (some (vI ((μ (6, 0, 0) 0)))) μ))) (MW G d mX5_get [vR (0, 0, 14), vI v1] μ (xrI fun x2 μ1 => xif ((μ1 (6, 0, 0) 4) = 0) (MW G d mX0_beginsPart [vR (6, 0, 0), vI x2] μ1 (xrI fun x4 μ3 => xif (x4 = 0) (Q (some (vI v1)) μ3) (WS G eX0_firstError (d + 1) Z Q 17 [vR (6, 0, 0), vI (v1 + (1 : Int32)), vN, vN] [] μ3))) (MW G d mX0_continuesPart [vR (6, 0, 0), vI x2] μ1 (xrI fun x6 μ5 => xif (x6 = 0) (Q (some (vI v1)) μ5) (WS G eX0_firstError (d + 1) Z Q 17 [vR (6, 0, 0), vI (v1 + (1 : Int32)), vN, vN] [] μ5)))))) : WS G eX0_firstError (d + 1) Z Q 17 [vR (6, 0, 0), vI v1, vN, vN] [] μ := WS.go okX0_firstError 53 h
set_option maxRecDepth 100000 in
set_option maxHeartbeats 4000000 in
theorem wX0_beginsPart {G : xG} {d : Nat} {a0 : Int32} {μ : xM} {Q : xP} (h : xif (a0 = (126 : Int32)) (((1 : Int32) = 0 ∨ (1 : Int32) = 1) ∧ Q (some (vI (1 : Int32))) μ) (xif (a0 = (40 : Int32)) (xif ((10 : Int32) < ((xst (xst μ (6, 0, 0) 2 (((μ (6, 0, 0) 2) + (1 : Int32)))) (6, 0, 0) 3 ((((xst μ (6, 0, 0) 2 (((μ (6, 0, 0) 2) + (1 : Int32)))) (6, 0, 0) 3) &&& (((1 : Int32) <<< (((xst μ (6, 0, 0) 2 (((μ (6, 0, 0) 2) + (1 : Int32)))) (6, 0, 0) 2) &&& 31)) ^^^ (-1 : Int32))))) (6, 0, 0) 2)) (((0 : Int32) = 0 ∨ (0 : Int32) = 1) ∧ Q (some (vI (0 : Int32))) (xst (xst μ (6, 0, 0) 2 (((μ (6, 0, 0) 2) + (1 : Int32)))) (6, 0, 0) 3 ((((xst μ (6, 0, 0) 2 (((μ (6, 0, 0) 2) + (1 : Int32)))) (6, 0, 0) 3) &&& (((1 : Int32) <<< (((xst μ (6, 0, 0) 2 (((μ (6, 0, 0) 2) + (1 : Int32)))) (6, 0, 0) 2) &&& 31)) ^^^ (-1 : Int32)))))) (((1 : Int32) = 0 ∨ (1 : Int32) = 1) ∧ Q (some (vI (1 : Int32))) (xst (xst μ (6, 0, 0) 2 (((μ (6, 0, 0) 2) + (1 : Int32)))) (6, 0, 0) 3 ((((xst μ (6, 0, 0) 2 (((μ (6, 0, 0) 2) + (1 : Int32)))) (6, 0, 0) 3) &&& (((1 : Int32) <<< (((xst μ (6, 0, 0) 2 (((μ (6, 0, 0) 2) + (1 : Int32)))) (6, 0, 0) 2) &&& 31)) ^^^ (-1 : Int32))))))) (xif (a0 = (35 : Int32)) (((1 : Int32) = 0 ∨ (1 : Int32) = 1) ∧ (((xst μ (6, 0, 0) 4 (1 : Int32)) (6, 0, 0) 4) = 0 ∨ ((xst μ (6, 0, 0) 4 (1 : Int32)) (6, 0, 0) 4) = 1) ∧ Q (some (vI (((xst μ (6, 0, 0) 4 (1 : Int32)) (6, 0, 0) 4)))) (xst μ (6, 0, 0) 4 (1 : Int32))) (xif (a0 < (97 : Int32)) (((0 : Int32) = 0 ∨ (0 : Int32) = 1) ∧ (((xst μ (6, 0, 0) 4 (0 : Int32)) (6, 0, 0) 4) = 0 ∨ ((xst μ (6, 0, 0) 4 (0 : Int32)) (6, 0, 0) 4) = 1) ∧ Q (some (vI (((xst μ (6, 0, 0) 4 (0 : Int32)) (6, 0, 0) 4)))) (xst μ (6, 0, 0) 4 (0 : Int32))) (xif ((105 : Int32) ≤ a0) (((0 : Int32) = 0 ∨ (0 : Int32) = 1) ∧ (((xst μ (6, 0, 0) 4 (0 : Int32)) (6, 0, 0) 4) = 0 ∨ ((xst μ (6, 0, 0) 4 (0 : Int32)) (6, 0, 0) 4) = 1) ∧ Q (some (vI (((xst μ (6, 0, 0) 4 (0 : Int32)) (6, 0, 0) 4)))) (xst μ (6, 0, 0) 4 (0 : Int32))) (((1 : Int32) = 0 ∨ (1 : Int32) = 1) ∧ (((xst μ (6, 0, 0) 4 (1 : Int32)) (6, 0, 0) 4) = 0 ∨ ((xst μ (6, 0, 0) 4 (1 : Int32)) (6, 0, 0) 4) = 1) ∧ Q (some (vI (((xst μ (6, 0, 0) 4 (1 : Int32)) (6, 0, 0) 4)))) (xst μ (6, 0, 0) 4 (1 : Int32)))))))) : MW G (d + 1) mX0_beginsPart [vR (6, 0, 0), vI a0] μ Q := MW.of (E := eX0_beginsPart) okX0_beginsPart (Nat.le_of_ble_eq_true rfl) fun Z => WS.go okX0_beginsPart 55 h
set_option maxRecDepth 100000 in
set_option maxHeartbeats 4000000 in
theorem wX0_continuesPart {G : xG} {d : Nat} {a0 : Int32} {μ : xM} {Q : xP} (h : xif ((μ (6, 0, 0) 2) = 0) (((0 : Int32) = 0 ∨ (0 : Int32) = 1) ∧ Q (some (vI (0 : Int32))) μ) (xif (((μ (6, 0, 0) 3) &&& ((1 : Int32) <<< ((μ (6, 0, 0) 2) &&& 31))) = 0) (((0 : Int32) = 0 ∨ (0 : Int32) = 1) ∧ MW G d mX6_kindOf [vI a0] (xst (xst μ (6, 0, 0) 3 (((μ (6, 0, 0) 3) ||| ((1 : Int32) <<< ((μ (6, 0, 0) 2) &&& 31))))) (6, 0, 0) 4 (0 : Int32)) (xrI fun x2 μ1 => xif (x2 = (-6 : Int32)) (((0 : Int32) = 0 ∨ (0 : Int32) = 1) ∧ Q (some (vI (0 : Int32))) μ1) (((1 : Int32) = 0 ∨ (1 : Int32) = 1) ∧ Q (some (vI (1 : Int32))) μ1))) (xif (a0 = (41 : Int32)) (((1 : Int32) = 0 ∨ (1 : Int32) = 1) ∧ Q (some (vI (1 : Int32))) (xst μ (6, 0, 0) 2 (((μ (6, 0, 0) 2) - (1 : Int32))))) (((0 : Int32) = 0 ∨ (0 : Int32) = 1) ∧ Q (some (vI (0 : Int32))) (xst μ (6, 0, 0) 2 (((μ (6, 0, 0) 2) - (1 : Int32)))))))) : MW G (d + 1) mX0_continuesPart [vR (6, 0, 0), vI a0] μ Q := MW.of (E := eX0_continuesPart) okX0_continuesPart (Nat.le_of_ble_eq_true rfl) fun Z => WS.go okX0_continuesPart 51 h
set_option maxRecDepth 100000 in
set_option maxHeartbeats 4000000 in
theorem wX1_build {G : xG} {d : Nat} {j1 : Nat} {μ : xM} {Q : xP} (h : ∀ Z : xZ, WS G eX1_build (d + 1) Z Q 11 [vR (7, 0, 0), vR (6, 0, 0), vR (2, j1, 0), vI (-6 : Int32), vI (0 : Int32), vN] [] (xst μ (7, 0, 0) 0 (0 : Int32))) : MW G (d + 1) mX1_build [vR (7, 0, 0), vR (6, 0, 0), vR (2, j1, 0)] μ Q := MW.of (E := eX1_build) okX1_build (Nat.le_of_ble_eq_true rfl) fun Z => WS.go okX1_build 71 (h Z)
set_option maxRecDepth 100000 in
set_option maxHeartbeats 4000000 in
theorem wX1_build_11 {G : xG} {d : Nat} {Z : xZ} {j1 : Nat} {v3 : Int32} {v4 : Int32} {μ : xM} {Q : xP} (h : xif ((μ (6, 0, 0) 0) ≤ v4) (Q (some (vI v3)) μ) (MW G d mX5_get [vR (0, 0, 14), vI v4] μ (xrI fun x2 μ1 => xif (x2 = (126 : Int32)) (MW G d mX1_push [vR (7, 0, 0), vI x2] μ1 (xrV fun μ3 => WS G eX1_build (d + 1) Z Q 11 [vR (7, 0, 0), vR (6, 0, 0), vR (2, j1, 0), vI v3, vI (v4 + (1 : Int32)), vN] [] μ3)) (xif (x2 = (40 : Int32)) (MW G d mX1_push [vR (7, 0, 0), vI x2] μ1 (xrV fun μ4 => WS G eX1_build (d + 1) Z Q 11 [vR (7, 0, 0), vR (6, 0, 0), vR (2, j1, 0), vI v3, vI (v4 + (1 : Int32)), vN] [] μ4)) (MW G d mX6_kindOf [vI x2] μ1 (xrI fun x6 μ5 => xif (x6 = (-6 : Int32)) (MW G d mX1_makeAtEnd [vR (7, 0, 0), vI x2, vI v3, vR (2, j1, 0)] μ5 (xrI fun x8 μ7 => MW G d mX1_negate [vR (7, 0, 0), vI x8, vR (2, j1, 0)] μ7 (xrI fun x10 μ9 => xif (x10 = (-4 : Int32)) (Q (some (vI (-4 : Int32))) μ9) (WS G eX1_build (d + 1) Z Q 11 [vR (7, 0, 0), vR (6, 0, 0), vR (2, j1, 0), vI x10, vI (v4 + (1 : Int32)), vN] [] μ9)))) (MW G d mX6_kindOf [vI x2] μ5 (xrI fun x12 μ11 => MW G d mX5_set [vR (0, 0, 15), vI ((μ5 (7, 0, 0) 0) - (1 : Int32)), vI x12] μ11 (xrV fun μ13 => MW G d mX5_set [vR (0, 0, 16), vI ((μ13 (7, 0, 0) 0) - (1 : Int32)), vI v3] μ13 (xrV fun μ14 => WS G eX1_build (d + 1) Z Q 11 [vR (7, 0, 0), vR (6, 0, 0), vR (2, j1, 0), vI v3, vI (v4 + (1 : Int32)), vN] [] μ14)))))))))) : WS G eX1_build (d + 1) Z Q 11 [vR (7, 0, 0), vR (6, 0, 0), vR (2, j1, 0), vI v3, vI v4, vN] [] μ := WS.go okX1_build 71 h
set_option maxRecDepth 100000 in
set_option maxHeartbeats 4000000 in
theorem wX1_push {G : xG} {d : Nat} {a0 : Int32} {μ : xM} {Q : xP} (h : MW G d mX5_set [vR (0, 0, 15), vI (μ (7, 0, 0) 0), vI a0] μ (xrV fun μ1 => Q none (xst μ1 (7, 0, 0) 0 (((μ1 (7, 0, 0) 0) + (1 : Int32)))))) : MW G (d + 1) mX1_push [vR (7, 0, 0), vI a0] μ Q := MW.of (E := eX1_push) okX1_push (Nat.le_of_ble_eq_true rfl) fun Z => WS.go okX1_push 18 h
set_option maxRecDepth 100000 in
set_option maxHeartbeats 4000000 in
theorem wX1_makeAtEnd {G : xG} {d : Nat} {j2 : Nat} {a0 : Int32} {a1 : Int32} {μ : xM} {Q : xP} (h : xif (a0 = (35 : Int32)) (MW G d mX2_make [vR (2, j2, 0), vI (1 : Int32), vI (-6 : Int32), vI (-6 : Int32)] μ (xrI fun x2 μ1 => Q (some (vI x2)) μ1)) (xif (a0 = (41 : Int32)) (MW G d mX5_get [vR (0, 0, 15), vI ((xst μ (7, 0, 0) 0 (((μ (7, 0, 0) 0) - (1 : Int32)))) (7, 0, 0) 0)] (xst μ (7, 0, 0) 0 (((μ (7, 0, 0) 0) - (1 : Int32)))) (xrI fun x4 μ3 => MW G d mX5_get [vR (0, 0, 16), vI (μ3 (7, 0, 0) 0)] μ3 (xrI fun x6 μ5 => MW G d mX2_make [vR (2, j2, 0), vI x4, vI x6, vI a1] μ5 (xrI fun x8 μ7 => Q (some (vI x8)) μ7)))) (MW G d mX2_make [vR (2, j2, 0), vI (0 : Int32), vI (a0 - (97 : Int32)), vI (-6 : Int32)] μ (xrI fun x10 μ9 => Q (some (vI x10)) μ9)))) : MW G (d + 1) mX1_makeAtEnd [vR (7, 0, 0), vI a0, vI a1, vR (2, j2, 0)] μ Q := MW.of (E := eX1_makeAtEnd) okX1_makeAtEnd (Nat.le_of_ble_eq_true rfl) fun Z => WS.go okX1_makeAtEnd 45 h
set_option maxRecDepth 100000 in
set_option maxHeartbeats 4000000 in
theorem wX1_negate {G : xG} {d : Nat} {j1 : Nat} {a0 : Int32} {μ : xM} {Q : xP} (h : ∀ Z : xZ, WS G eX1_negate (d + 1) Z Q 2 [vR (7, 0, 0), vN, vR (2, j1, 0), vI a0] [] μ) : MW G (d + 1) mX1_negate [vR (7, 0, 0), vI a0, vR (2, j1, 0)] μ Q := MW.of (E := eX1_negate) okX1_negate (Nat.le_of_ble_eq_true rfl) fun Z => WS.go okX1_negate 37 (h Z)
set_option maxRecDepth 100000 in
set_option maxHeartbeats 4000000 in
theorem wX1_negate_2 {G : xG} {d : Nat} {Z : xZ} {j1 : Nat} {v3 : Int32} {μ : xM} {Q : xP} (h : xif (v3 = (-4 : Int32)) (Q (some (vI v3)) μ) (xif ((μ (7, 0, 0) 0) ≤ 0) (Q (some (vI v3)) μ) (MW G d mX5_get [vR (0, 0, 15), vI ((μ (7, 0, 0) 0) - (1 : Int32))] μ (xrI fun x2 μ1 => xif (x2 = (126 : Int32)) (MW G d mX2_make [vR (2, j1, 0), vI (2 : Int32), vI v3, vI (-6 : Int32)] μ1 (xrI fun x4 μ3 => WS G eX1_negate (d + 1) Z Q 2 [vR (7, 0, 0), vN, vR (2, j1, 0), vI x4] [] (xst μ3 (7, 0, 0) 0 (((μ3 (7, 0, 0) 0) - (1 : Int32)))))) (Q (some (vI v3)) μ1))))) : WS G eX1_negate (d + 1) Z Q 2 [vR (7, 0, 0), vN, vR (2, j1, 0), vI v3] [] μ := WS.go okX1_negate 37 h
set_option maxRecDepth 100000 in
set_option maxHeartbeats 4000000 in
theorem wX2_copyFrom {G : xG} {d : Nat} {j : Nat} {j0 : Nat} {μ : xM} {Q : xP} (h : MW G d mX5_copyFrom [vR (0, j, 0), vR (0, j0, 0)] (xst μ (2, j, 0) 0 ((μ (2, j0, 0) 0))) (xrV fun μ1 => MW G d mX5_copyFrom [vR (0, j, 1), vR (0, j0, 1)] μ1 (xrV fun μ2 => MW G d mX5_copyFrom [vR (0, j, 2), vR (0, j0, 2)] μ2 (xrV fun μ3 => Q none μ3)))) : MW G (d + 1) mX2_copyFrom [vR (2, j, 0), vR (2, j0, 0)] μ Q := MW.of (E := eX2_copyFrom) okX2_copyFrom (Nat.le_of_ble_eq_true rfl) fun Z => WS.go okX2_copyFrom 25 h
set_option maxRecDepth 100000 in
set_option maxHeartbeats 4000000 in
theorem wX2_has {G : xG} {d : Nat} {j : Nat} {a0 : Int32} {μ : xM} {Q : xP} (h : xif (a0 < 0) (((0 : Int32) = 0 ∨ (0 : Int32) = 1) ∧ Q (some (vI (0 : Int32))) μ) (xif ((μ (2, j, 0) 0) ≤ a0) (((0 : Int32) = 0 ∨ (0 : Int32) = 1) ∧ Q (some (vI (0 : Int32))) μ) (((1 : Int32) = 0 ∨ (1 : Int32) = 1) ∧ Q (some (vI (1 : Int32))) μ))) : MW G (d + 1) mX2_has [vR (2, j, 0), vI a0] μ Q := MW.of (E := eX2_has) okX2_has (Nat.le_of_ble_eq_true rfl) fun Z => WS.go okX2_has 15 h
set_option maxRecDepth 100000 in
set_option maxHeartbeats 4000000 in
theorem wX2_isOfKind {G : xG} {d : Nat} {j : Nat} {a0 : Int32} {a1 : Int32} {μ : xM} {Q : xP} (h : MW G d mX5_get [vR (0, j, 0), vI a0] μ (xrI fun x2 μ1 => xif (x2 = a1) (((1 : Int32) = 0 ∨ (1 : Int32) = 1) ∧ Q (some (vI (1 : Int32))) μ1) (((0 : Int32) = 0 ∨ (0 : Int32) = 1) ∧ Q (some (vI (0 : Int32))) μ1))) : MW G (d + 1) mX2_isOfKind [vR (2, j, 0), vI a0, vI a1] μ Q := MW.of (E := eX2_isOfKind) okX2_isOfKind (Nat.le_of_ble_eq_true rfl) fun Z => WS.go okX2_isOfKind 15 h
set_option maxRecDepth 100000 in
set_option maxHeartbeats 4000000 in
theorem wX2_isPartOfDisjunction {G : xG} {d : Nat} {j : Nat} {a0 : Int32} {a1 : Int32} {μ : xM} {Q : xP} (h : MW G d mX2_isOfKind [vR (2, j, 0), vI a1, vI (4 : Int32)] μ (xrI fun x2 μ1 => xif (x2 = 0) (((0 : Int32) = 0 ∨ (0 : Int32) = 1) ∧ Q (some (vI (0 : Int32))) μ1) (MW G d mX5_get [vR (0, j, 1), vI a1] μ1 (xrI fun x4 μ3 => xif (x4 = a0) (((1 : Int32) = 0 ∨ (1 : Int32) = 1) ∧ Q (some (vI (1 : Int32))) μ3) (MW G d mX5_get [vR (0, j, 2), vI a1] μ3 (xrI fun x6 μ5 => xif (x6 = a0) (((1 : Int32) = 0 ∨ (1 : Int32) = 1) ∧ Q (some (vI (1 : Int32))) μ5) (((0 : Int32) = 0 ∨ (0 : Int32) = 1) ∧ Q (some (vI (0 : Int32))) μ5))))))) : MW G (d + 1) mX2_isPartOfDisjunction [vR (2, j, 0), vI a0, vI a1] μ Q := MW.of (E := eX2_isPartOfDisjunction) okX2_isPartOfDisjunction (Nat.le_of_ble_eq_true rfl) fun Z => WS.go okX2_isPartOfDisjunction 26 h
set_option maxRecDepth 100000 in
set_option maxHeartbeats 4000000 in
theorem wX2_takenOut {G : xG} {d : Nat} {j : Nat} {a0 : Int32} {a1 : Int32} {μ : xM} {Q : xP} (h : xif (a0 = (13 : Int32)) (MW G d mX2_isOfKind [vR (2, j, 0), vI a1, vI (2 : Int32)] μ (xrI fun x2 μ1 => xif (x2 = 0) (MW G d mX2_isOfKind [vR (2, j, 0), vI (-6 : Int32), vI (2 : Int32)] μ1 (xrI fun x4 μ3 => xif (x4 = 0) (Q (some (vI (-6 : Int32))) μ3) (MW G d mX5_get [vR (0, j, 1), vI (-6 : Int32)] μ3 (xrI fun x6 μ5 => Q (some (vI x6)) μ5)))) (MW G d mX5_get [vR (0, j, 1), vI a1] μ1 (xrI fun x8 μ7 => MW G d mX2_isOfKind [vR (2, j, 0), vI x8, vI (2 : Int32)] μ7 (xrI fun x10 μ9 => xif (x10 = 0) (Q (some (vI (-6 : Int32))) μ9) (MW G d mX5_get [vR (0, j, 1), vI x8] μ9 (xrI fun x12 μ11 => Q (some (vI x12)) μ11))))))) (MW G d mX2_isOfKind [vR (2, j, 0), vI a1, vI (3 : Int32)] μ (xrI fun x14 μ13 => xif (x14 = 0) (Q (some (vI (-6 : Int32))) μ13) (xif (a0 = (4 : Int32)) (MW G d mX5_get [vR (0, j, 1), vI a1] μ13 (xrI fun x16 μ15 => Q (some (vI x16)) μ15)) (MW G d mX5_get [vR (0, j, 2), vI a1] μ13 (xrI fun x18 μ17 => Q (some (vI x18)) μ17)))))) : MW G (d + 1) mX2_takenOut [vR (2, j, 0), vI a0, vI a1] μ Q := MW.of (E := eX2_takenOut) okX2_takenOut (Nat.le_of_ble_eq_true rfl) fun Z => WS.go okX2_takenOut 52 h
set_option maxRecDepth 100000 in
set_option maxHeartbeats 4000000 in
theorem wX2_find {G : xG} {d : Nat} {j : Nat} {a0 : Int32} {a1 : Int32} {a2 : Int32} {μ : xM} {Q : xP} (h : ∀ Z : xZ, WS G eX2_find (d + 1) Z Q 3 [vR (2, j, 0), vI a0, vI a1, vI a2, vI (0 : Int32)] [] μ) : MW G (d + 1) mX2_find [vR (2, j, 0), vI a0, vI a1, vI a2] μ Q := MW.of (E := eX2_find) okX2_find (Nat.le_of_ble_eq_true rfl) fun Z => WS.go okX2_find 35 (h Z)
set_option maxRecDepth 100000 in
set_option maxHeartbeats 4000000 in
theorem wX2_find_3 {G : xG} {d : Nat} {Z : xZ} {j : Nat} {v1 : Int32} {v2 : Int32} {v3 : Int32} {v4 : Int32} {μ : xM} {Q : xP} (h : xif ((μ (2, j, 0) 0) ≤ v4) (Q (some (vI (-6 : Int32))) μ) (MW G d mX5_get [vR (0, j, 0), vI v4] μ (xrI fun x2 μ1 => xif (x2 = v1) (MW G d mX5_get [vR (0, j, 1), vI v4] μ1 (xrI fun x4 μ3 => xif (x4 = v2) (MW G d mX5_get [vR (0, j, 2), vI v4] μ3 (xrI fun x6 μ5 => xif (x6 = v3) (Q (some (vI v4)) μ5) (WS G eX2_find (d + 1) Z Q 3 [vR (2, j, 0), vI v1, vI v2, vI v3, vI (v4 + (1 : Int32))] [] μ5))) (WS G eX2_find (d + 1) Z Q 3 [vR (2, j, 0), vI v1, vI v2, vI v3, vI (v4 + (1 : Int32))] [] μ3))) (WS G eX2_find (d + 1) Z Q 3 [vR (2, j, 0), vI v1, vI v2, vI v3, vI (v4 + (1 : Int32))] [] μ1)))) : WS G eX2_find (d + 1) Z Q 3 [vR (2, j, 0), vI v1, vI v2, vI v3, vI v4] [] μ := WS.go okX2_find 35 h
set_option maxRecDepth 100000 in
set_option maxHeartbeats 4000000 in
theorem wX2_hasRoomFor {G : xG} {d : Nat} {j : Nat} {a0 : Int32} {a1 : Int32} {a2 : Int32} {μ : xM} {Q : xP} (h : xif ((μ (2, j, 0) 0) < (60 : Int32)) (((1 : Int32) = 0 ∨ (1 : Int32) = 1) ∧ Q (some (vI (1 : Int32))) μ) (MW G d mX2_find [vR (2, j, 0), vI a0, vI a1, vI a2] μ (xrI fun x2 μ1 => xif (x2 = (-6 : Int32)) (((0 : Int32) = 0 ∨ (0 : Int32) = 1) ∧ Q (some (vI (0 : Int32))) μ1) (((1 : Int32) = 0 ∨ (1 : Int32) = 1) ∧ Q (some (vI (1 : Int32))) μ1)))) : MW G (d + 1) mX2_hasRoomFor [vR (2, j, 0), vI a0, vI a1, vI a2] μ Q := MW.of (E := eX2_hasRoomFor) okX2_hasRoomFor (Nat.le_of_ble_eq_true rfl) fun Z => WS.go okX2_hasRoomFor 20 h
set_option maxRecDepth 100000 in
set_option maxHeartbeats 4000000 in
theorem wX2_make {G : xG} {d : Nat} {j : Nat} {a0 : Int32} {a1 : Int32} {a2 : Int32} {μ : xM} {Q : xP} (h : MW G d mX2_find [vR (2, j, 0), vI a0, vI a1, vI a2] μ (xrI fun x2 μ1 => xif (x2 = (-6 : Int32)) (xif ((μ1 (2, j, 0) 0) < (60 : Int32)) (MW G d mX5_set [vR (0, j, 0), vI (μ1 (2, j, 0) 0), vI a0] μ1 (xrV fun μ3 => MW G d mX5_set [vR (0, j, 1), vI (μ1 (2, j, 0) 0), vI a1] μ3 (xrV fun μ4 => MW G d mX5_set [vR (0, j, 2), vI (μ1 (2, j, 0) 0), vI a2] μ4 (xrV fun μ5 => Q (some (vI ((μ1 (2, j, 0) 0)))) (xst μ5 (2, j, 0) 0 (((μ5 (2, j, 0) 0) + (1 : Int32)))))))) (Q (some (vI (-4 : Int32))) μ1)) (Q (some (vI x2)) μ1))) : MW G (d + 1) mX2_make [vR (2, j, 0), vI a0, vI a1, vI a2] μ Q := MW.of (E := eX2_make) okX2_make (Nat.le_of_ble_eq_true rfl) fun Z => WS.go okX2_make 48 h
set_option maxRecDepth 100000 in
set_option maxHeartbeats 4000000 in
theorem wX2_measure {G : xG} {d : Nat} {j : Nat} {j0 : Nat} {c0 : Nat} {μ : xM} {Q : xP} (h : ∀ Z : xZ, WS G eX2_measure (d + 1) Z Q 2 [vR (2, j, 0), vR (0, j0, c0), vI (0 : Int32), vN] [] μ) : MW G (d + 1) mX2_measure [vR (2, j, 0), vR (0, j0, c0)] μ Q := MW.of (E := eX2_measure) okX2_measure (Nat.le_of_ble_eq_true rfl) fun Z => WS.go okX2_measure 54 (h Z)
set_option maxRecDepth 100000 in
set_option maxHeartbeats 4000000 in
theorem wX2_measure_2 {G : xG} {d : Nat} {Z : xZ} {j : Nat} {j0 : Nat} {c0 : Nat} {v2 : Int32} {μ : xM} {Q : xP} (h : xif ((μ (2, j, 0) 0) ≤ v2) (Q none μ) (MW G d mX5_get [vR (0, j, 0), vI v2] μ (xrI fun x2 μ1 => xif (x2 < (2 : Int32)) (MW G d mX5_get [vR (0, j, 0), vI v2] μ1 (xrI fun x4 μ3 => xif (x4 < (3 : Int32)) (MW G d mX5_set [vR (0, j0, c0), vI v2, vI (if (1000000 : Int32) < (1 : Int32) then (1000000 : Int32) else (1 : Int32))] μ3 (xrV fun μ5 => WS G eX2_measure (d + 1) Z Q 2 [vR (2, j, 0), vR (0, j0, c0), vI (v2 + (1 : Int32)), vN] [] μ5)) (MW G d mX5_get [vR (0, j, 2), vI v2] μ3 (xrI fun x7 μ6 => MW G d mX5_get [vR (0, j0, c0), vI x7] μ6 (xrI fun x9 μ8 => MW G d mX5_set [vR (0, j0, c0), vI v2, vI (if (1000000 : Int32) < ((1 : Int32) + ((2 : Int32) + x9)) then (1000000 : Int32) else ((1 : Int32) + ((2 : Int32) + x9)))] μ8 (xrV fun μ10 => WS G eX2_measure (d + 1) Z Q 2 [vR (2, j, 0), vR (0, j0, c0), vI (v2 + (1 : Int32)), vN] [] μ10)))))) (MW G d mX5_get [vR (0, j, 1), vI v2] μ1 (xrI fun x12 μ11 => MW G d mX5_get [vR (0, j0, c0), vI x12] μ11 (xrI fun x14 μ13 => MW G d mX5_get [vR (0, j, 0), vI v2] μ13 (xrI fun x16 μ15 => xif (x16 < (3 : Int32)) (MW G d mX5_set [vR (0, j0, c0), vI v2, vI (if (1000000 : Int32) < ((1 : Int32) + x14) then (1000000 : Int32) else ((1 : Int32) + x14))] μ15 (xrV fun μ17 => WS G eX2_measure (d + 1) Z Q 2 [vR (2, j, 0), vR (0, j0, c0), vI (v2 + (1 : Int32)), vN] [] μ17)) (MW G d mX5_get [vR (0, j, 2), vI v2] μ15 (xrI fun x19 μ18 => MW G d mX5_get [vR (0, j0, c0), vI x19] μ18 (xrI fun x21 μ20 => MW G d mX5_set [vR (0, j0, c0), vI v2, vI (if (1000000 : Int32) < (((1 : Int32) + x14) + ((2 : Int32) + x21)) then (1000000 : Int32) else (((1 : Int32) + x14) + ((2 : Int32) + x21)))] μ20 (xrV fun μ22 => WS G eX2_measure (d + 1) Z Q 2 [vR (2, j, 0), vR (0, j0, c0), vI (v2 + (1 : Int32)), vN] [] μ22))))))))))) : WS G eX2_measure (d + 1) Z Q 2 [vR (2, j, 0), vR (0, j0, c0), vI v2, vN] [] μ := WS.go okX2_measure 54 h
set_option maxRecDepth 100000 in
set_option maxHeartbeats 4000000 in
theorem wX2_codeAt {G : xG} {d : Nat} {j : Nat} {j2 : Nat} {c2 : Nat} {a0 : Int32} {a1 : Int32} {μ : xM} {Q : xP} (h : ∀ Z : xZ, WS G eX2_codeAt (d + 1) Z Q 9 [vR (2, j, 0), vN, vN, vR (0, j2, c2), vI a0, vI a1, vI (0 : Int32), vN] [] μ) : MW G (d + 1) mX2_codeAt [vR (2, j, 0), vI a0, vI a1, vR (0, j2, c2)] μ Q := MW.of (E := eX2_codeAt) okX2_codeAt (Nat.le_of_ble_eq_true rfl) fun Z => WS.go okX2_codeAt 70 (h Z)
set_option maxRecDepth 100000 in
set_option maxHeartbeats 4000000 in
theorem wX2_codeAt_9 {G : xG} {d : Nat} {Z : xZ} {j : Nat} {j2 : Nat} {c2 : Nat} {v4 : Int32} {v5 : Int32} {v6 : Int32} {μ : xM} {Q : xP} (h : xif ((60 : Int32) ≤ v6) (Q (some (vI (-1 : Int32))) μ) (xif (v5 = 0) (MW G d mX2_firstCode [vR (2, j, 0), vI v4] μ (xrI fun x2 μ1 => Q (some (vI x2)) μ1)) (MW G d mX5_get [vR (0, j, 1), vI v4] μ (xrI fun x4 μ3 => MW G d mX5_get [vR (0, j2, c2), vI x4] μ3 (xrI fun x6 μ5 => xif (v5 = (x6 + (1 : Int32))) (MW G d mX5_get [vR (0, j, 0), vI v4] μ5 (xrI fun x8 μ7 => MW G d mX6_ofKind [vI x8] μ7 (xrI fun x10 μ9 => Q (some (vI x10)) μ9))) (xif (x6 < v5) (MW G d mX5_get [vR (0, j, 2), vI v4] μ5 (xrI fun x12 μ11 => MW G d mX5_get [vR (0, j2, c2), vI x12] μ11 (xrI fun x14 μ13 => xif ((v5 - (x6 + (2 : Int32))) = x14) (Q (some (vI (41 : Int32))) μ13) (WS G eX2_codeAt (d + 1) Z Q 9 [vR (2, j, 0), vN, vN, vR (0, j2, c2), vI x12, vI (v5 - (x6 + (2 : Int32))), vI (v6 + (1 : Int32)), vN] [] μ13)))) (MW G d mX5_get [vR (0, j, 1), vI v4] μ5 (xrI fun x16 μ15 => WS G eX2_codeAt (d + 1) Z Q 9 [vR (2, j, 0), vN, vN, vR (0, j2, c2), vI x16, vI (v5 + (-1 : Int32)), vI (v6 + (1 : Int32)), vN] [] μ15)))))))) : WS G eX2_codeAt (d + 1) Z Q 9 [vR (2, j, 0), vN, vN, vR (0, j2, c2), vI v4, vI v5, vI v6, vN] [] μ := WS.go okX2_codeAt 70 h
set_option maxRecDepth 100000 in
set_option maxHeartbeats 4000000 in
theorem wX2_firstCode {G : xG} {d : Nat} {j : Nat} {a0 : Int32} {μ : xM} {Q : xP} (h : MW G d mX5_get [vR (0, j, 0), vI a0] μ (xrI fun x2 μ1 => (x2 = 0 → MW G d mX5_get [vR (0, j, 1), vI a0] μ1 (xrI fun x4 μ3 => Q (some (vI (((97 : Int32) + x4)))) μ3)) ∧ (¬ x2 = 0 → (x2 = 1 → Q (some (vI (35 : Int32))) μ1) ∧ (¬ x2 = 1 → (x2 = 2 → Q (some (vI (126 : Int32))) μ1) ∧ (¬ x2 = 2 → Q (some (vI (40 : Int32))) μ1))))) : MW G (d + 1) mX2_firstCode [vR (2, j, 0), vI a0] μ Q := MW.of (E := eX2_firstCode) okX2_firstCode (Nat.le_of_ble_eq_true rfl) fun Z => WS.go okX2_firstCode 23 h
set_option maxRecDepth 100000 in
set_option maxHeartbeats 4000000 in
theorem wX2_evaluate {G : xG} {d : Nat} {j : Nat} {j1 : Nat} {c1 : Nat} {a0 : Int32} {μ : xM} {Q : xP} (h : ∀ Z : xZ, WS G eX2_evaluate (d + 1) Z Q 2 [vR (2, j, 0), vI a0, vR (0, j1, c1), vI (0 : Int32)] [] μ) : MW G (d + 1) mX2_evaluate [vR (2, j, 0), vI a0, vR (0, j1, c1)] μ Q := MW.of (E := eX2_evaluate) okX2_evaluate (Nat.le_of_ble_eq_true rfl) fun Z => WS.go okX2_evaluate 22 (h Z)
set_option maxRecDepth 100000 in
set_option maxHeartbeats 4000000 in
theorem wX2_evaluate_2 {G : xG} {d : Nat} {Z : xZ} {j : Nat} {j1 : Nat} {c1 : Nat} {v1 : Int32} {v3 : Int32} {μ : xM} {Q : xP} (h : xif ((μ (2, j, 0) 0) ≤ v3) (Q none μ) (MW G d mX2_truthOf [vR (2, j, 0), vI v3, vI v1, vR (0, j1, c1)] μ (xrI fun x2 μ1 => MW G d mX5_set [vR (0, j1, c1), vI v3, vI x2] μ1 (xrV fun μ3 => WS G eX2_evaluate (d + 1) Z Q 2 [vR (2, j, 0), vI v1, vR (0, j1, c1), vI (v3 + (1 : Int32))] [] μ3)))) : WS G eX2_evaluate (d + 1) Z Q 2 [vR (2, j, 0), vI v1, vR (0, j1, c1), vI v3] [] μ := WS.go okX2_evaluate 22 h
set_option maxRecDepth 100000 in
set_option maxHeartbeats 4000000 in
theorem wX2_truthOf {G : xG} {d : Nat} {j : Nat} {j2 : Nat} {c2 : Nat} {a0 : Int32} {a1 : Int32} {μ : xM} {Q : xP} (h : MW G d mX5_get [vR (0, j, 1), vI a0] μ (xrI fun x2 μ1 => MW G d mX5_get [vR (0, j, 2), vI a0] μ1 (xrI fun x4 μ3 => MW G d mX5_get [vR (0, j, 0), vI a0] μ3 (xrI fun x6 μ5 => (x6 = 0 → MW G d mX2_truthOfAtom [vI x2, vI a1] μ5 (xrI fun x8 μ7 => Q (some (vI x8)) μ7)) ∧ (¬ x6 = 0 → (x6 = 1 → Q (some (vI (0 : Int32))) μ5) ∧ (¬ x6 = 1 → (x6 = 2 → MW G d mX5_get [vR (0, j2, c2), vI x2] μ5 (xrI fun x10 μ9 => Q (some (vI ((x10 ^^^ (-1 : Int32))))) μ9)) ∧ (¬ x6 = 2 → (x6 = 3 → MW G d mX5_get [vR (0, j2, c2), vI x2] μ5 (xrI fun x12 μ11 => MW G d mX5_get [vR (0, j2, c2), vI x4] μ11 (xrI fun x14 μ13 => Q (some (vI ((x12 &&& x14)))) μ13))) ∧ (¬ x6 = 3 → (x6 = 4 → MW G d mX5_get [vR (0, j2, c2), vI x2] μ5 (xrI fun x16 μ15 => MW G d mX5_get [vR (0, j2, c2), vI x4] μ15 (xrI fun x18 μ17 => Q (some (vI ((x16 ||| x18)))) μ17))) ∧ (¬ x6 = 4 → (x6 = 5 → MW G d mX5_get [vR (0, j2, c2), vI x2] μ5 (xrI fun x20 μ19 => MW G d mX5_get [vR (0, j2, c2), vI x4] μ19 (xrI fun x22 μ21 => Q (some (vI (((x20 ^^^ (-1 : Int32)) ||| x22)))) μ21))) ∧ (¬ x6 = 5 → Q (some (vI (0 : Int32))) μ5)))))))))) : MW G (d + 1) mX2_truthOf [vR (2, j, 0), vI a0, vI a1, vR (0, j2, c2)] μ Q := MW.of (E := eX2_truthOf) okX2_truthOf (Nat.le_of_ble_eq_true rfl) fun Z => WS.go okX2_truthOf 58 h
set_option maxRecDepth 100000 in
set_option maxHeartbeats 4000000 in
theorem wX2_truthOfAtom {G : xG} {d : Nat} {a0 : Int32} {a1 : Int32} {μ : xM} {Q : xP} (h : (a0 = 0 → Q (some (vI (-1431655766 : Int32))) μ) ∧ (¬ a0 = 0 → (a0 = 1 → Q (some (vI (-858993460 : Int32))) μ) ∧ (¬ a0 = 1 → (a0 = 2 → Q (some (vI (-252645136 : Int32))) μ) ∧ (¬ a0 = 2 → (a0 = 3 → Q (some (vI (-16711936 : Int32))) μ) ∧ (¬ a0 = 3 → (a0 = 4 → Q (some (vI (-65536 : Int32))) μ) ∧ (¬ a0 = 4 → xif (((a1 >>> ((a0 - (5 : Int32)) &&& 31)) &&& (1 : Int32)) = 0) (Q (some (vI (0 : Int32))) μ) (Q (some (vI (-1 : Int32))) μ))))))) : MW G (d + 1) mX2_truthOfAtom [vI a0, vI a1] μ Q := MW.of (E := eX2_truthOfAtom) okX2_truthOfAtom (Nat.le_of_ble_eq_true rfl) fun Z => WS.go okX2_truthOfAtom 29 h
set_option maxRecDepth 100000 in
set_option maxHeartbeats 4000000 in
theorem wX3_at {G : xG} {d : Nat} {a0 : Int32} {μ : xM} {Q : xP} (h : xif (a0 < 0) (Q (some vN) μ) (xif ((Int32.ofNat 5) ≤ a0) (Q (some vN) μ) (vp_in a0 5 ∧ Q (some (vR (4, 2 + a0.toNatClampNeg, 0))) μ))) : MW G (d + 1) mX3_at [vR (5, 0, 0), vI a0] μ Q := MW.of (E := eX3_at) okX3_at (Nat.le_of_ble_eq_true rfl) fun Z => WS.go okX3_at 19 h
set_option maxRecDepth 100000 in
set_option maxHeartbeats 4000000 in
theorem wX3_record {G : xG} {d : Nat} {j0 : Nat} {μ : xM} {Q : xP} (h : MW G d mX3_at [vR (5, 0, 0), vI (μ (5, 0, 0) 1)] μ (xrR fun q2 μ1 => xro q2 6 <| MW G d mX7_copyFrom [vR q2, vR (4, j0, 0)] μ1 (xrV fun μ3 => xif ((5 : Int32) ≤ ((μ3 (5, 0, 0) 1) + (1 : Int32))) (Q none (xst (xst μ3 (5, 0, 0) 1 (0 : Int32)) (5, 0, 0) 0 ((if (5 : Int32) < (((xst μ3 (5, 0, 0) 1 (0 : Int32)) (5, 0, 0) 0) + (1 : Int32)) then (5 : Int32) else (((xst μ3 (5, 0, 0) 1 (0 : Int32)) (5, 0, 0) 0) + (1 : Int32)))))) (Q none (xst (xst μ3 (5, 0, 0) 1 (((μ3 (5, 0, 0) 1) + (1 : Int32)))) (5, 0, 0) 0 ((if (5 : Int32) < (((xst μ3 (5, 0, 0) 1 (((μ3 (5, 0, 0) 1) + (1 : Int32)))) (5, 0, 0) 0) + (1 : Int32)) then (5 : Int32) else (((xst μ3 (5, 0, 0) 1 (((μ3 (5, 0, 0) 1) + (1 : Int32)))) (5, 0, 0) 0) + (1 : Int32))))))))) : MW G (d + 1) mX3_record [vR (5, 0, 0), vR (4, j0, 0)] μ Q := MW.of (E := eX3_record) okX3_record (Nat.le_of_ble_eq_true rfl) fun Z => WS.go okX3_record 38 h
set_option maxRecDepth 100000 in
set_option maxHeartbeats 4000000 in
theorem wX3_takeBack {G : xG} {d : Nat} {j0 : Nat} {μ : xM} {Q : xP} (h : xif ((μ (5, 0, 0) 1) ≤ 0) (MW G d mX3_at [vR (5, 0, 0), vI (4 : Int32)] μ (xrR fun q2 μ1 => xif ((μ1 (5, 0, 0) 0) ≤ 0) (Q none μ1) (MW G d mX7_copyFrom [vR (4, j0, 0), vR q2] μ1 (xrV fun μ3 => Q none (xst (xst μ3 (5, 0, 0) 1 (4 : Int32)) (5, 0, 0) 0 ((((xst μ3 (5, 0, 0) 1 (4 : Int32)) (5, 0, 0) 0) - (1 : Int32)))))))) (MW G d mX3_at [vR (5, 0, 0), vI ((μ (5, 0, 0) 1) - (1 : Int32))] μ (xrR fun q5 μ4 => xif ((μ4 (5, 0, 0) 0) ≤ 0) (Q none μ4) (MW G d mX7_copyFrom [vR (4, j0, 0), vR q5] μ4 (xrV fun μ6 => Q none (xst (xst μ6 (5, 0, 0) 1 (((μ (5, 0, 0) 1) - (1 : Int32)))) (5, 0, 0) 0 ((((xst μ6 (5, 0, 0) 1 (((μ (5, 0, 0) 1) - (1 : Int32)))) (5, 0, 0) 0) - (1 : Int32))))))))) : MW G (d + 1) mX3_takeBack [vR (5, 0, 0), vR (4, j0, 0)] μ Q := MW.of (E := eX3_takeBack) okX3_takeBack (Nat.le_of_ble_eq_true rfl) fun Z => WS.go okX3_takeBack 37 h
set_option maxRecDepth 100000 in
set_option maxHeartbeats 4000000 in
theorem wX4_copyFrom {G : xG} {d : Nat} {j : Nat} {j0 : Nat} {μ : xM} {Q : xP} (h : MW G d mX5_copyFrom [vR (0, j, 3), vR (0, j0, 3)] (xst (xst (xst μ (3, j, 0) 0 ((μ (3, j0, 0) 0))) (3, j, 0) 1 (((xst μ (3, j, 0) 0 ((μ (3, j0, 0) 0))) (3, j0, 0) 1))) (3, j, 0) 2 (((xst (xst μ (3, j, 0) 0 ((μ (3, j0, 0) 0))) (3, j, 0) 1 (((xst μ (3, j, 0) 0 ((μ (3, j0, 0) 0))) (3, j0, 0) 1))) (3, j0, 0) 2))) (xrV fun μ1 => MW G d mX5_copyFrom [vR (0, j, 4), vR (0, j0, 4)] μ1 (xrV fun μ2 => MW G d mX5_copyFrom [vR (0, j, 5), vR (0, j0, 5)] μ2 (xrV fun μ3 => MW G d mX5_copyFrom [vR (0, j, 6), vR (0, j0, 6)] μ3 (xrV fun μ4 => MW G d mX5_copyFrom [vR (0, j, 7), vR (0, j0, 7)] μ4 (xrV fun μ5 => MW G d mX5_copyFrom [vR (0, j, 8), vR (0, j0, 8)] μ5 (xrV fun μ6 => MW G d mX5_copyFrom [vR (0, j, 9), vR (0, j0, 9)] μ6 (xrV fun μ7 => MW G d mX5_copyFrom [vR (0, j, 10), vR (0, j0, 10)] μ7 (xrV fun μ8 => MW G d mX5_copyFrom [vR (0, j, 11), vR (0, j0, 11)] μ8 (xrV fun μ9 => Q none μ9)))))))))) : MW G (d + 1) mX4_copyFrom [vR (3, j, 0), vR (3, j0, 0)] μ Q := MW.of (E := eX4_copyFrom) okX4_copyFrom (Nat.le_of_ble_eq_true rfl) fun Z => WS.go okX4_copyFrom 63 h
set_option maxRecDepth 100000 in
set_option maxHeartbeats 4000000 in
theorem wX4_hasLine {G : xG} {d : Nat} {j : Nat} {a0 : Int32} {μ : xM} {Q : xP} (h : xif (a0 < 0) (((0 : Int32) = 0 ∨ (0 : Int32) = 1) ∧ Q (some (vI (0 : Int32))) μ) (xif ((μ (3, j, 0) 0) ≤ a0) (((0 : Int32) = 0 ∨ (0 : Int32) = 1) ∧ Q (some (vI (0 : Int32))) μ) (((1 : Int32) = 0 ∨ (1 : Int32) = 1) ∧ Q (some (vI (1 : Int32))) μ))) : MW G (d + 1) mX4_hasLine [vR (3, j, 0), vI a0] μ Q := MW.of (E := eX4_hasLine) okX4_hasLine (Nat.le_of_ble_eq_true rfl) fun Z => WS.go okX4_hasLine 15 h
set_option maxRecDepth 100000 in
set_option maxHeartbeats 4000000 in
theorem wX4_hasBox {G : xG} {d : Nat} {j : Nat} {a0 : Int32} {μ : xM} {Q : xP} (h : xif (a0 < 0) (((0 : Int32) = 0 ∨ (0 : Int32) = 1) ∧ Q (some (vI (0 : Int32))) μ) (xif ((μ (3, j, 0) 1) ≤ a0) (((0 : Int32) = 0 ∨ (0 : Int32) = 1) ∧ Q (some (vI (0 : Int32))) μ) (((1 : Int32) = 0 ∨ (1 : Int32) = 1) ∧ Q (some (vI (1 : Int32))) μ))) : MW G (d + 1) mX4_hasBox [vR (3, j, 0), vI a0] μ Q := MW.of (E := eX4_hasBox) okX4_hasBox (Nat.le_of_ble_eq_true rfl) fun Z => WS.go okX4_hasBox 15 h
set_option maxRecDepth 100000 in
set_option maxHeartbeats 4000000 in
theorem wX4_isFull {G : xG} {d : Nat} {j : Nat} {μ : xM} {Q : xP} (h : xif ((μ (3, j, 0) 0) < (48 : Int32)) (((0 : Int32) = 0 ∨ (0 : Int32) = 1) ∧ Q (some (vI (0 : Int32))) μ) (((1 : Int32) = 0 ∨ (1 : Int32) = 1) ∧ Q (some (vI (1 : Int32))) μ)) : MW G (d + 1) mX4_isFull [vR (3, j, 0)] μ Q := MW.of (E := eX4_isFull) okX4_isFull (Nat.le_of_ble_eq_true rfl) fun Z => WS.go okX4_isFull 13 h
set_option maxRecDepth 100000 in
set_option maxHeartbeats 4000000 in
theorem wX4_addLine {G : xG} {d : Nat} {j : Nat} {a0 : Int32} {a1 : Int32} {a2 : Int32} {a3 : Int32} {a4 : Int32} {μ : xM} {Q : xP} (h : MW G d mX5_set [vR (0, j, 3), vI (μ (3, j, 0) 0), vI a1] μ (xrV fun μ1 => MW G d mX5_set [vR (0, j, 4), vI (μ (3, j, 0) 0), vI a0] μ1 (xrV fun μ2 => MW G d mX5_set [vR (0, j, 5), vI (μ (3, j, 0) 0), vI (μ2 (3, j, 0) 2)] μ2 (xrV fun μ3 => MW G d mX5_set [vR (0, j, 6), vI (μ (3, j, 0) 0), vI a2] μ3 (xrV fun μ4 => MW G d mX5_set [vR (0, j, 7), vI (μ (3, j, 0) 0), vI a3] μ4 (xrV fun μ5 => MW G d mX5_set [vR (0, j, 8), vI (μ (3, j, 0) 0), vI a4] μ5 (xrV fun μ6 => Q (some (vI ((μ (3, j, 0) 0)))) (xst μ6 (3, j, 0) 0 (((μ6 (3, j, 0) 0) + (1 : Int32))))))))))) : MW G (d + 1) mX4_addLine [vR (3, j, 0), vI a0, vI a1, vI a2, vI a3, vI a4] μ Q := MW.of (E := eX4_addLine) okX4_addLine (Nat.le_of_ble_eq_true rfl) fun Z => WS.go okX4_addLine 47 h
set_option maxRecDepth 100000 in
set_option maxHeartbeats 4000000 in
theorem wX4_openBox {G : xG} {d : Nat} {j : Nat} {a0 : Int32} {μ : xM} {Q : xP} (h : MW G d mX5_set [vR (0, j, 9), vI (μ (3, j, 0) 1), vI (μ (3, j, 0) 0)] μ (xrV fun μ1 => MW G d mX5_set [vR (0, j, 10), vI (μ (3, j, 0) 1), vI (-6 : Int32)] μ1 (xrV fun μ2 => MW G d mX5_set [vR (0, j, 11), vI (μ (3, j, 0) 1), vI (μ2 (3, j, 0) 2)] μ2 (xrV fun μ3 => MW G d mX4_addLine [vR (3, j, 0), vI (1 : Int32), vI a0, vI (-6 : Int32), vI (-6 : Int32), vI (-6 : Int32)] (xst (xst μ3 (3, j, 0) 1 (((μ3 (3, j, 0) 1) + (1 : Int32)))) (3, j, 0) 2 ((μ (3, j, 0) 1))) (xrI fun x5 μ4 => Q (some (vI x5)) μ4))))) : MW G (d + 1) mX4_openBox [vR (3, j, 0), vI a0] μ Q := MW.of (E := eX4_openBox) okX4_openBox (Nat.le_of_ble_eq_true rfl) fun Z => WS.go okX4_openBox 42 h
set_option maxRecDepth 100000 in
set_option maxHeartbeats 4000000 in
theorem wX4_canCloseBox {G : xG} {d : Nat} {j : Nat} {μ : xM} {Q : xP} (h : xif ((μ (3, j, 0) 2) = (-6 : Int32)) (((0 : Int32) = 0 ∨ (0 : Int32) = 1) ∧ Q (some (vI (0 : Int32))) μ) (MW G d mX5_get [vR (0, j, 5), vI ((μ (3, j, 0) 0) - (1 : Int32))] μ (xrI fun x2 μ1 => xif (x2 = (μ1 (3, j, 0) 2)) (((1 : Int32) = 0 ∨ (1 : Int32) = 1) ∧ Q (some (vI (1 : Int32))) μ1) (((0 : Int32) = 0 ∨ (0 : Int32) = 1) ∧ Q (some (vI (0 : Int32))) μ1)))) : MW G (d + 1) mX4_canCloseBox [vR (3, j, 0)] μ Q := MW.of (E := eX4_canCloseBox) okX4_canCloseBox (Nat.le_of_ble_eq_true rfl) fun Z => WS.go okX4_canCloseBox 23 h
set_option maxRecDepth 100000 in
set_option maxHeartbeats 4000000 in
theorem wX4_closeBox {G : xG} {d : Nat} {j : Nat} {μ : xM} {Q : xP} (h : MW G d mX5_set [vR (0, j, 10), vI (μ (3, j, 0) 2), vI ((μ (3, j, 0) 0) - (1 : Int32))] μ (xrV fun μ1 => MW G d mX5_get [vR (0, j, 11), vI (μ (3, j, 0) 2)] μ1 (xrI fun x3 μ2 => Q (some (vI ((μ (3, j, 0) 2)))) (xst μ2 (3, j, 0) 2 x3)))) : MW G (d + 1) mX4_closeBox [vR (3, j, 0)] μ Q := MW.of (E := eX4_closeBox) okX4_closeBox (Nat.le_of_ble_eq_true rfl) fun Z => WS.go okX4_closeBox 24 h
set_option maxRecDepth 100000 in
set_option maxHeartbeats 4000000 in
theorem wX4_isNoneOrOpen {G : xG} {d : Nat} {j : Nat} {a0 : Int32} {μ : xM} {Q : xP} (h : MW G d mX4_hasBox [vR (3, j, 0), vI a0] μ (xrI fun x2 μ1 => xif (x2 = 0) (((1 : Int32) = 0 ∨ (1 : Int32) = 1) ∧ Q (some (vI (1 : Int32))) μ1) (MW G d mX5_get [vR (0, j, 10), vI a0] μ1 (xrI fun x4 μ3 => xif (x4 = (-6 : Int32)) (((1 : Int32) = 0 ∨ (1 : Int32) = 1) ∧ Q (some (vI (1 : Int32))) μ3) (((0 : Int32) = 0 ∨ (0 : Int32) = 1) ∧ Q (some (vI (0 : Int32))) μ3))))) : MW G (d + 1) mX4_isNoneOrOpen [vR (3, j, 0), vI a0] μ Q := MW.of (E := eX4_isNoneOrOpen) okX4_isNoneOrOpen (Nat.le_of_ble_eq_true rfl) fun Z => WS.go okX4_isNoneOrOpen 19 h
set_option maxRecDepth 100000 in
set_option maxHeartbeats 4000000 in
theorem wX4_isLineAvailable {G : xG} {d : Nat} {j : Nat} {a0 : Int32} {μ : xM} {Q : xP} (h : MW G d mX5_get [vR (0, j, 5), vI a0] μ (xrI fun x2 μ1 => MW G d mX4_isNoneOrOpen [vR (3, j, 0), vI x2] μ1 (xrI fun x4 μ3 => (x4 = 0 ∨ x4 = 1) ∧ Q (some (vI x4)) μ3))) : MW G (d + 1) mX4_isLineAvailable [vR (3, j, 0), vI a0] μ Q := MW.of (E := eX4_isLineAvailable) okX4_isLineAvailable (Nat.le_of_ble_eq_true rfl) fun Z => WS.go okX4_isLineAvailable 12 h
set_option maxRecDepth 100000 in
set_option maxHeartbeats 4000000 in
theorem wX4_isBoxAvailable {G : xG} {d : Nat} {j : Nat} {a0 : Int32} {μ : xM} {Q : xP} (h : MW G d mX5_get [vR (0, j, 10), vI a0] μ (xrI fun x2 μ1 => xif (x2 = (-6 : Int32)) (((0 : Int32) = 0 ∨ (0 : Int32) = 1) ∧ Q (some (vI (0 : Int32))) μ1) (MW G d mX5_get [vR (0, j, 11), vI a0] μ1 (xrI fun x4 μ3 => MW G d mX4_isNoneOrOpen [vR (3, j, 0), vI x4] μ3 (xrI fun x6 μ5 => xif (x6 = 0) (((0 : Int32) = 0 ∨ (0 : Int32) = 1) ∧ Q (some (vI (0 : Int32))) μ5) (((1 : Int32) = 0 ∨ (1 : Int32) = 1) ∧ Q (some (vI (1 : Int32))) μ5)))))) : MW G (d + 1) mX4_isBoxAvailable [vR (3, j, 0), vI a0] μ Q := MW.of (E := eX4_isBoxAvailable) okX4_isBoxAvailable (Nat.le_of_ble_eq_true rfl) fun Z => WS.go okX4_isBoxAvailable 22 h
set_option maxRecDepth 100000 in
set_option maxHeartbeats 4000000 in
theorem wX4_assumptionOf {G : xG} {d : Nat} {j : Nat} {a0 : Int32} {μ : xM} {Q : xP} (h : MW G d mX5_get [vR (0, j, 9), vI a0] μ (xrI fun x2 μ1 => MW G d mX5_get [vR (0, j, 3), vI x2] μ1 (xrI fun x4 μ3 => Q (some (vI x4)) μ3))) : MW G (d + 1) mX4_assumptionOf [vR (3, j, 0), vI a0] μ Q := MW.of (E := eX4_assumptionOf) okX4_assumptionOf (Nat.le_of_ble_eq_true rfl) fun Z => WS.go okX4_assumptionOf 13 h
set_option maxRecDepth 100000 in
set_option maxHeartbeats 4000000 in
theorem wX4_conclusionOf {G : xG} {d : Nat} {j : Nat} {a0 : Int32} {μ : xM} {Q : xP} (h : MW G d mX5_get [vR (0, j, 10), vI a0] μ (xrI fun x2 μ1 => MW G d mX5_get [vR (0, j, 3), vI x2] μ1 (xrI fun x4 μ3 => Q (some (vI x4)) μ3))) : MW G (d + 1) mX4_conclusionOf [vR (3, j, 0), vI a0] μ Q := MW.of (E := eX4_conclusionOf) okX4_conclusionOf (Nat.le_of_ble_eq_true rfl) fun Z => WS.go okX4_conclusionOf 13 h
set_option maxRecDepth 100000 in
set_option maxHeartbeats 4000000 in
theorem wX4_nesting {G : xG} {d : Nat} {j : Nat} {a0 : Int32} {μ : xM} {Q : xP} (h : ∀ Z : xZ, WS G eX4_nesting (d + 1) Z Q 4 [vR (3, j, 0), vN, vI a0, vI (0 : Int32)] [] μ) : MW G (d + 1) mX4_nesting [vR (3, j, 0), vI a0] μ Q := MW.of (E := eX4_nesting) okX4_nesting (Nat.le_of_ble_eq_true rfl) fun Z => WS.go okX4_nesting 25 (h Z)
set_option maxRecDepth 100000 in
set_option maxHeartbeats 4000000 in
theorem wX4_nesting_4 {G : xG} {d : Nat} {Z : xZ} {j : Nat} {v2 : Int32} {v3 : Int32} {μ : xM} {Q : xP} (h : MW G d mX4_hasBox [vR (3, j, 0), vI v2] μ (xrI fun x2 μ1 => xif (x2 = 0) (Q (some (vI v3)) μ1) (xif ((5 : Int32) ≤ v3) (Q (some (vI v3)) μ1) (MW G d mX5_get [vR (0, j, 11), vI v2] μ1 (xrI fun x4 μ3 => WS G eX4_nesting (d + 1) Z Q 4 [vR (3, j, 0), vN, vI x4, vI (v3 + (1 : Int32))] [] μ3))))) : WS G eX4_nesting (d + 1) Z Q 4 [vR (3, j, 0), vN, vI v2, vI v3] [] μ := WS.go okX4_nesting 25 h
set_option maxRecDepth 100000 in
set_option maxHeartbeats 4000000 in
theorem wX4_referenceAt {G : xG} {d : Nat} {j : Nat} {a0 : Int32} {a1 : Int32} {μ : xM} {Q : xP} (h : (a1 = 0 → MW G d mX5_get [vR (0, j, 6), vI a0] μ (xrI fun x2 μ1 => Q (some (vI x2)) μ1)) ∧ (¬ a1 = 0 → (a1 = 1 → MW G d mX5_get [vR (0, j, 7), vI a0] μ (xrI fun x4 μ3 => Q (some (vI x4)) μ3)) ∧ (¬ a1 = 1 → (a1 = 2 → MW G d mX5_get [vR (0, j, 8), vI a0] μ (xrI fun x6 μ5 => Q (some (vI x6)) μ5)) ∧ (¬ a1 = 2 → Q (some (vI (-6 : Int32))) μ)))) : MW G (d + 1) mX4_referenceAt [vR (3, j, 0), vI a0, vI a1] μ Q := MW.of (E := eX4_referenceAt) okX4_referenceAt (Nat.le_of_ble_eq_true rfl) fun Z => WS.go okX4_referenceAt 24 h
set_option maxRecDepth 100000 in
set_option maxHeartbeats 4000000 in
theorem wX4_countLineReferences {G : xG} {d : Nat} {j : Nat} {a0 : Int32} {μ : xM} {Q : xP} (h : MW G d mX5_get [vR (0, j, 4), vI a0] μ (xrI fun x2 μ1 => (x2 = 2 → Q (some (vI (1 : Int32))) μ1) ∧ (¬ x2 = 2 → (x2 = 3 → Q (some (vI (2 : Int32))) μ1) ∧ (¬ x2 = 3 → (x2 = 4 → Q (some (vI (1 : Int32))) μ1) ∧ (¬ x2 = 4 → (x2 = 5 → Q (some (vI (1 : Int32))) μ1) ∧ (¬ x2 = 5 → (x2 = 6 → Q (some (vI (1 : Int32))) μ1) ∧ (¬ x2 = 6 → (x2 = 7 → Q (some (vI (1 : Int32))) μ1) ∧ (¬ x2 = 7 → (x2 = 8 → Q (some (vI (0 : Int32))) μ1) ∧ (¬ x2 = 8 → (x2 = 9 → Q (some (vI (2 : Int32))) μ1) ∧ (¬ x2 = 9 → (x2 = 10 → Q (some (vI (0 : Int32))) μ1) ∧ (¬ x2 = 10 → (x2 = 11 → Q (some (vI (2 : Int32))) μ1) ∧ (¬ x2 = 11 → (x2 = 12 → Q (some (vI (1 : Int32))) μ1) ∧ (¬ x2 = 12 → (x2 = 13 → Q (some (vI (1 : Int32))) μ1) ∧ (¬ x2 = 13 → Q (some (vI (0 : Int32))) μ1)))))))))))))) : MW G (d + 1) mX4_countLineReferences [vR (3, j, 0), vI a0] μ Q := MW.of (E := eX4_countLineReferences) okX4_countLineReferences (Nat.le_of_ble_eq_true rfl) fun Z => WS.go okX4_countLineReferences 16 h
set_option maxRecDepth 100000 in
set_option maxHeartbeats 4000000 in
theorem wX4_bit {G : xG} {d : Nat} {a0 : Int32} {μ : xM} {Q : xP} (h : xif (0 ≤ a0) (Q (some (vL ((xls (1 : Int64) a0)))) μ) (Q (some (vL (0 : Int64))) μ)) : MW G (d + 1) mX4_bit [vI a0] μ Q := MW.of (E := eX4_bit) okX4_bit (Nat.le_of_ble_eq_true rfl) fun Z => WS.go okX4_bit 13 h
set_option maxRecDepth 100000 in
set_option maxHeartbeats 4000000 in
theorem wX4_contains {G : xG} {d : Nat} {a0 : Int64} {a1 : Int32} {μ : xM} {Q : xP} (h : MW G d mX4_bit [vI a1] μ (xrL fun y2 μ1 => xif ((lg_cmp ((a0 &&& y2)) (0 : Int64)) = 0) (((0 : Int32) = 0 ∨ (0 : Int32) = 1) ∧ Q (some (vI (0 : Int32))) μ1) (((1 : Int32) = 0 ∨ (1 : Int32) = 1) ∧ Q (some (vI (1 : Int32))) μ1))) : MW G (d + 1) mX4_contains [vL a0, vI a1] μ Q := MW.of (E := eX4_contains) okX4_contains (Nat.le_of_ble_eq_true rfl) fun Z => WS.go okX4_contains 16 h
set_option maxRecDepth 100000 in
set_option maxHeartbeats 4000000 in
theorem wX4_directNeeds {G : xG} {d : Nat} {j : Nat} {a0 : Int32} {μ : xM} {Q : xP} (h : ∀ Z : xZ, MW G d mX4_countLineReferences [vR (3, j, 0), vI a0] μ (xrI fun x2 μ1 => WS G eX4_directNeeds (d + 1) Z Q 11 [vR (3, j, 0), vI a0, vI x2, vL (0 : Int64), vN, vI (0 : Int32), vN] [] μ1)) : MW G (d + 1) mX4_directNeeds [vR (3, j, 0), vI a0] μ Q := MW.of (E := eX4_directNeeds) okX4_directNeeds (Nat.le_of_ble_eq_true rfl) fun Z => WS.go okX4_directNeeds 48 (h Z)
set_option maxRecDepth 100000 in
set_option maxHeartbeats 4000000 in
theorem wX4_directNeeds_11 {G : xG} {d : Nat} {Z : xZ} {j : Nat} {v1 : Int32} {v2 : Int32} {v3 : Int64} {v5 : Int32} {μ : xM} {Q : xP} (h : xif ((3 : Int32) ≤ v5) (Q (some (vL v3)) μ) (MW G d mX4_referenceAt [vR (3, j, 0), vI v1, vI v5] μ (xrI fun x2 μ1 => xif (v2 ≤ v5) (MW G d mX5_get [vR (0, j, 9), vI x2] μ1 (xrI fun x4 μ3 => MW G d mX4_bit [vI x4] μ3 (xrL fun y6 μ5 => MW G d mX5_get [vR (0, j, 10), vI x2] μ5 (xrI fun x8 μ7 => MW G d mX4_bit [vI x8] μ7 (xrL fun y10 μ9 => WS G eX4_directNeeds (d + 1) Z Q 11 [vR (3, j, 0), vI v1, vI v2, vL (v3 ||| (y6 ||| y10)), vN, vI (v5 + (1 : Int32)), vN] [] μ9))))) (MW G d mX4_bit [vI x2] μ1 (xrL fun y12 μ11 => WS G eX4_directNeeds (d + 1) Z Q 11 [vR (3, j, 0), vI v1, vI v2, vL (v3 ||| y12), vN, vI (v5 + (1 : Int32)), vN] [] μ11))))) : WS G eX4_directNeeds (d + 1) Z Q 11 [vR (3, j, 0), vI v1, vI v2, vL v3, vN, vI v5, vN] [] μ := WS.go okX4_directNeeds 48 h
set_option maxRecDepth 100000 in
set_option maxHeartbeats 4000000 in
theorem wX4_countUsers {G : xG} {d : Nat} {j : Nat} {a0 : Int32} {μ : xM} {Q : xP} (h : ∀ Z : xZ, WS G eX4_countUsers (d + 1) Z Q 4 [vR (3, j, 0), vI a0, vI (0 : Int32), vI (0 : Int32)] [] μ) : MW G (d + 1) mX4_countUsers [vR (3, j, 0), vI a0] μ Q := MW.of (E := eX4_countUsers) okX4_countUsers (Nat.le_of_ble_eq_true rfl) fun Z => WS.go okX4_countUsers 24 (h Z)
set_option maxRecDepth 100000 in
set_option maxHeartbeats 4000000 in
theorem wX4_countUsers_4 {G : xG} {d : Nat} {Z : xZ} {j : Nat} {v1 : Int32} {v2 : Int32} {v3 : Int32} {μ : xM} {Q : xP} (h : xif ((μ (3, j, 0) 0) ≤ v3) (Q (some (vI v2)) μ) (MW G d mX4_directNeeds [vR (3, j, 0), vI v3] μ (xrL fun y2 μ1 => MW G d mX4_contains [vL y2, vI v1] μ1 (xrI fun x4 μ3 => xif (x4 = 0) (WS G eX4_countUsers (d + 1) Z Q 4 [vR (3, j, 0), vI v1, vI v2, vI (v3 + (1 : Int32))] [] μ3) (WS G eX4_countUsers (d + 1) Z Q 4 [vR (3, j, 0), vI v1, vI (v2 + (1 : Int32)), vI (v3 + (1 : Int32))] [] μ3))))) : WS G eX4_countUsers (d + 1) Z Q 4 [vR (3, j, 0), vI v1, vI v2, vI v3] [] μ := WS.go okX4_countUsers 24 h
set_option maxRecDepth 100000 in
set_option maxHeartbeats 4000000 in
theorem wX4_assumptionsFrom {G : xG} {d : Nat} {j : Nat} {a0 : Int32} {μ : xM} {Q : xP} (h : ∀ Z : xZ, WS G eX4_assumptionsFrom (d + 1) Z Q 8 [vR (3, j, 0), vN, vL (0 : Int64), vN, vI a0, vI (0 : Int32)] [] μ) : MW G (d + 1) mX4_assumptionsFrom [vR (3, j, 0), vI a0] μ Q := MW.of (E := eX4_assumptionsFrom) okX4_assumptionsFrom (Nat.le_of_ble_eq_true rfl) fun Z => WS.go okX4_assumptionsFrom 31 (h Z)
set_option maxRecDepth 100000 in
set_option maxHeartbeats 4000000 in
theorem wX4_assumptionsFrom_8 {G : xG} {d : Nat} {Z : xZ} {j : Nat} {v2 : Int64} {v4 : Int32} {v5 : Int32} {μ : xM} {Q : xP} (h : xif ((5 : Int32) ≤ v5) (Q (some (vL v2)) μ) (MW G d mX5_get [vR (0, j, 9), vI v4] μ (xrI fun x2 μ1 => MW G d mX4_bit [vI x2] μ1 (xrL fun y4 μ3 => MW G d mX5_get [vR (0, j, 11), vI v4] μ3 (xrI fun x6 μ5 => WS G eX4_assumptionsFrom (d + 1) Z Q 8 [vR (3, j, 0), vN, vL (v2 ||| y4), vN, vI x6, vI (v5 + (1 : Int32))] [] μ5))))) : WS G eX4_assumptionsFrom (d + 1) Z Q 8 [vR (3, j, 0), vN, vL v2, vN, vI v4, vI v5] [] μ := WS.go okX4_assumptionsFrom 31 h
set_option maxRecDepth 100000 in
set_option maxHeartbeats 4000000 in
theorem wX4_allNeeds {G : xG} {d : Nat} {j : Nat} {a0 : Int32} {μ : xM} {Q : xP} (h : ∀ Z : xZ, MW G d mX4_bit [vI a0] μ (xrL fun y2 μ1 => WS G eX4_allNeeds (d + 1) Z Q 8 [vR (3, j, 0), vN, vL y2, vN, vI a0] [] μ1)) : MW G (d + 1) mX4_allNeeds [vR (3, j, 0), vI a0] μ Q := MW.of (E := eX4_allNeeds) okX4_allNeeds (Nat.le_of_ble_eq_true rfl) fun Z => WS.go okX4_allNeeds 33 (h Z)
set_option maxRecDepth 100000 in
set_option maxHeartbeats 4000000 in
theorem wX4_allNeeds_8 {G : xG} {d : Nat} {Z : xZ} {j : Nat} {v2 : Int64} {v4 : Int32} {μ : xM} {Q : xP} (h : xif (v4 < 0) (Q (some (vL v2)) μ) (MW G d mX4_contains [vL v2, vI v4] μ (xrI fun x2 μ1 => xif (x2 = 0) (WS G eX4_allNeeds (d + 1) Z Q 8 [vR (3, j, 0), vN, vL v2, vN, vI (v4 + (-1 : Int32))] [] μ1) (MW G d mX4_directNeeds [vR (3, j, 0), vI v4] μ1 (xrL fun y4 μ3 => MW G d mX5_get [vR (0, j, 5), vI v4] μ3 (xrI fun x6 μ5 => MW G d mX4_assumptionsFrom [vR (3, j, 0), vI x6] μ5 (xrL fun y8 μ7 => WS G eX4_allNeeds (d + 1) Z Q 8 [vR (3, j, 0), vN, vL (v2 ||| (y4 ||| y8)), vN, vI (v4 + (-1 : Int32))] [] μ7))))))) : WS G eX4_allNeeds (d + 1) Z Q 8 [vR (3, j, 0), vN, vL v2, vN, vI v4] [] μ := WS.go okX4_allNeeds 33 h
set_option maxRecDepth 100000 in
set_option maxHeartbeats 4000000 in
theorem wX4_bypassOf {G : xG} {d : Nat} {j : Nat} {a0 : Int32} {μ : xM} {Q : xP} (h : MW G d mX5_get [vR (0, j, 4), vI a0] μ (xrI fun x2 μ1 => MW G d mX5_get [vR (0, j, 6), vI a0] μ1 (xrI fun x4 μ3 => xif (x2 = (2 : Int32)) (Q (some (vI x4)) μ3) (xif (x2 = (4 : Int32)) (MW G d mX5_get [vR (0, j, 4), vI x4] μ3 (xrI fun x6 μ5 => xif (x6 = (3 : Int32)) (MW G d mX5_get [vR (0, j, 6), vI x4] μ5 (xrI fun x8 μ7 => Q (some (vI x8)) μ7)) (xif (x2 = (5 : Int32)) (MW G d mX5_get [vR (0, j, 4), vI x4] μ5 (xrI fun x10 μ9 => xif (x10 = (3 : Int32)) (MW G d mX5_get [vR (0, j, 7), vI x4] μ9 (xrI fun x12 μ11 => Q (some (vI x12)) μ11)) (Q (some (vI (-6 : Int32))) μ9))) (Q (some (vI (-6 : Int32))) μ5)))) (xif (x2 = (5 : Int32)) (MW G d mX5_get [vR (0, j, 4), vI x4] μ3 (xrI fun x14 μ13 => xif (x14 = (3 : Int32)) (MW G d mX5_get [vR (0, j, 7), vI x4] μ13 (xrI fun x16 μ15 => Q (some (vI x16)) μ15)) (Q (some (vI (-6 : Int32))) μ13))) (Q (some (vI (-6 : Int32))) μ3)))))) : MW G (d + 1) mX4_bypassOf [vR (3, j, 0), vI a0] μ Q := MW.of (E := eX4_bypassOf) okX4_bypassOf (Nat.le_of_ble_eq_true rfl) fun Z => WS.go okX4_bypassOf 50 h
set_option maxRecDepth 100000 in
set_option maxHeartbeats 4000000 in
theorem wX4_countDetours {G : xG} {d : Nat} {j : Nat} {μ : xM} {Q : xP} (h : ∀ Z : xZ, WS G eX4_countDetours (d + 1) Z Q 4 [vR (3, j, 0), vI (0 : Int32), vI (0 : Int32)] [] μ) : MW G (d + 1) mX4_countDetours [vR (3, j, 0)] μ Q := MW.of (E := eX4_countDetours) okX4_countDetours (Nat.le_of_ble_eq_true rfl) fun Z => WS.go okX4_countDetours 23 (h Z)
set_option maxRecDepth 100000 in
set_option maxHeartbeats 4000000 in
theorem wX4_countDetours_4 {G : xG} {d : Nat} {Z : xZ} {j : Nat} {v1 : Int32} {v2 : Int32} {μ : xM} {Q : xP} (h : xif ((μ (3, j, 0) 0) ≤ v2) (Q (some (vI v1)) μ) (MW G d mX4_bypassOf [vR (3, j, 0), vI v2] μ (xrI fun x2 μ1 => xif (x2 = (-6 : Int32)) (WS G eX4_countDetours (d + 1) Z Q 4 [vR (3, j, 0), vI v1, vI (v2 + (1 : Int32))] [] μ1) (WS G eX4_countDetours (d + 1) Z Q 4 [vR (3, j, 0), vI (v1 + (1 : Int32)), vI (v2 + (1 : Int32))] [] μ1)))) : WS G eX4_countDetours (d + 1) Z Q 4 [vR (3, j, 0), vI v1, vI v2] [] μ := WS.go okX4_countDetours 23 h
set_option maxRecDepth 100000 in
set_option maxHeartbeats 4000000 in
theorem wX4_bypassDetours {G : xG} {d : Nat} {j : Nat} {μ : xM} {Q : xP} (h : ∀ Z : xZ, WS G eX4_bypassDetours (d + 1) Z Q 4 [vR (3, j, 0), vI (0 : Int32), vI (0 : Int32), vN] [] μ) : MW G (d + 1) mX4_bypassDetours [vR (3, j, 0)] μ Q := MW.of (E := eX4_bypassDetours) okX4_bypassDetours (Nat.le_of_ble_eq_true rfl) fun Z => WS.go okX4_bypassDetours 42 (h Z)
set_option maxRecDepth 100000 in
set_option maxHeartbeats 4000000 in
theorem wX4_bypassDetours_4 {G : xG} {d : Nat} {Z : xZ} {j : Nat} {v1 : Int32} {v2 : Int32} {μ : xM} {Q : xP} (h : xif ((μ (3, j, 0) 0) ≤ v2) (Q (some (vI v1)) μ) (MW G d mX4_countLineReferences [vR (3, j, 0), vI v2] μ (xrI fun x2 μ1 => xif (x2 ≤ 0) (xif (x2 ≤ (1 : Int32)) (WS G eX4_bypassDetours (d + 1) Z Q 4 [vR (3, j, 0), vI v1, vI (v2 + (1 : Int32)), vN] [] μ1) (MW G d mX4_bypassIn [vR (3, j, 0), vR (0, j, 7), vI v2] μ1 (xrI fun x4 μ3 => WS G eX4_bypassDetours (d + 1) Z Q 4 [vR (3, j, 0), vI (v1 + x4), vI (v2 + (1 : Int32)), vN] [] μ3))) (MW G d mX4_bypassIn [vR (3, j, 0), vR (0, j, 6), vI v2] μ1 (xrI fun x6 μ5 => xif (x2 ≤ (1 : Int32)) (WS G eX4_bypassDetours (d + 1) Z Q 4 [vR (3, j, 0), vI (v1 + x6), vI (v2 + (1 : Int32)), vN] [] μ5) (MW G d mX4_bypassIn [vR (3, j, 0), vR (0, j, 7), vI v2] μ5 (xrI fun x8 μ7 => WS G eX4_bypassDetours (d + 1) Z Q 4 [vR (3, j, 0), vI ((v1 + x6) + x8), vI (v2 + (1 : Int32)), vN] [] μ7))))))) : WS G eX4_bypassDetours (d + 1) Z Q 4 [vR (3, j, 0), vI v1, vI v2, vN] [] μ := WS.go okX4_bypassDetours 42 h
set_option maxRecDepth 100000 in
set_option maxHeartbeats 4000000 in
theorem wX4_bypassIn {G : xG} {d : Nat} {j : Nat} {j0 : Nat} {c0 : Nat} {a1 : Int32} {μ : xM} {Q : xP} (h : ∀ Z : xZ, MW G d mX5_get [vR (0, j0, c0), vI a1] μ (xrI fun x2 μ1 => WS G eX4_bypassIn (d + 1) Z Q 12 [vR (3, j, 0), vR (0, j0, c0), vI a1, vI x2, vI x2, vI (0 : Int32)] [] μ1)) : MW G (d + 1) mX4_bypassIn [vR (3, j, 0), vR (0, j0, c0), vI a1] μ Q := MW.of (E := eX4_bypassIn) okX4_bypassIn (Nat.le_of_ble_eq_true rfl) fun Z => WS.go okX4_bypassIn 38 (h Z)
set_option maxRecDepth 100000 in
set_option maxHeartbeats 4000000 in
theorem wX4_bypassIn_12 {G : xG} {d : Nat} {Z : xZ} {j : Nat} {j0 : Nat} {c0 : Nat} {v2 : Int32} {v3 : Int32} {v4 : Int32} {v5 : Int32} {μ : xM} {Q : xP} (h : xif ((48 : Int32) ≤ v5) (MW G d mX5_set [vR (0, j0, c0), vI v2, vI v4] μ (xrV fun μ1 => xif (v4 = v3) (Q (some (vI (0 : Int32))) μ1) (Q (some (vI (1 : Int32))) μ1))) (MW G d mX4_bypassOf [vR (3, j, 0), vI v4] μ (xrI fun x3 μ2 => xif (x3 = (-6 : Int32)) (MW G d mX5_set [vR (0, j0, c0), vI v2, vI v4] μ2 (xrV fun μ4 => xif (v4 = v3) (Q (some (vI (0 : Int32))) μ4) (Q (some (vI (1 : Int32))) μ4))) (MW G d mX4_bypassOf [vR (3, j, 0), vI v4] μ2 (xrI fun x6 μ5 => WS G eX4_bypassIn (d + 1) Z Q 12 [vR (3, j, 0), vR (0, j0, c0), vI v2, vI v3, vI x6, vI (v5 + (1 : Int32))] [] μ5))))) : WS G eX4_bypassIn (d + 1) Z Q 12 [vR (3, j, 0), vR (0, j0, c0), vI v2, vI v3, vI v4, vI v5] [] μ := WS.go okX4_bypassIn 38 h
set_option maxRecDepth 100000 in
set_option maxHeartbeats 4000000 in
theorem wX4_allowedValuations {G : xG} {d : Nat} {j : Nat} {j1 : Nat} {c1 : Nat} {a0 : Int32} {μ : xM} {Q : xP} (h : ∀ Z : xZ, MW G d mX4_assumptionsFrom [vR (3, j, 0), vI a0] μ (xrL fun y2 μ1 => WS G eX4_allowedValuations (d + 1) Z Q 12 [vR (3, j, 0), vN, vR (0, j1, c1), vL y2, vN, vI (-1 : Int32), vI (0 : Int32)] [] μ1)) : MW G (d + 1) mX4_allowedValuations [vR (3, j, 0), vI a0, vR (0, j1, c1)] μ Q := MW.of (E := eX4_allowedValuations) okX4_allowedValuations (Nat.le_of_ble_eq_true rfl) fun Z => WS.go okX4_allowedValuations 39 (h Z)
set_option maxRecDepth 100000 in
set_option maxHeartbeats 4000000 in
theorem wX4_allowedValuations_12 {G : xG} {d : Nat} {Z : xZ} {j : Nat} {j1 : Nat} {c1 : Nat} {v3 : Int64} {v5 : Int32} {v6 : Int32} {μ : xM} {Q : xP} (h : xif ((μ (3, j, 0) 0) ≤ v6) (Q (some (vI v5)) μ) (MW G d mX5_get [vR (0, j, 4), vI v6] μ (xrI fun x2 μ1 => xif (x2 = 0) (MW G d mX5_get [vR (0, j, 3), vI v6] μ1 (xrI fun x4 μ3 => MW G d mX5_get [vR (0, j1, c1), vI x4] μ3 (xrI fun x6 μ5 => WS G eX4_allowedValuations (d + 1) Z Q 12 [vR (3, j, 0), vN, vR (0, j1, c1), vL v3, vN, vI (v5 &&& x6), vI (v6 + (1 : Int32))] [] μ5))) (MW G d mX4_contains [vL v3, vI v6] μ1 (xrI fun x8 μ7 => xif (x8 = 0) (WS G eX4_allowedValuations (d + 1) Z Q 12 [vR (3, j, 0), vN, vR (0, j1, c1), vL v3, vN, vI v5, vI (v6 + (1 : Int32))] [] μ7) (MW G d mX5_get [vR (0, j, 3), vI v6] μ7 (xrI fun x10 μ9 => MW G d mX5_get [vR (0, j1, c1), vI x10] μ9 (xrI fun x12 μ11 => WS G eX4_allowedValuations (d + 1) Z Q 12 [vR (3, j, 0), vN, vR (0, j1, c1), vL v3, vN, vI (v5 &&& x12), vI (v6 + (1 : Int32))] [] μ11)))))))) : WS G eX4_allowedValuations (d + 1) Z Q 12 [vR (3, j, 0), vN, vR (0, j1, c1), vL v3, vN, vI v5, vI v6] [] μ := WS.go okX4_allowedValuations 39 h
set_option maxRecDepth 100000 in
set_option maxHeartbeats 4000000 in
theorem wX4_keepOnly {G : xG} {d : Nat} {j : Nat} {a0 : Int64} {μ : xM} {Q : xP} (h : ∀ Z : xZ, MW G d mX4_keepBoxes [vR (3, j, 0), vL a0] μ (xrL fun y2 μ1 => WS G eX4_keepOnly (d + 1) Z Q 18 [vR (3, j, 0), vL a0, vN, vI (μ (3, j, 0) 0), vL y2, vN, vI (0 : Int32), vI (0 : Int32)] [] μ1)) : MW G (d + 1) mX4_keepOnly [vR (3, j, 0), vL a0] μ Q := MW.of (E := eX4_keepOnly) okX4_keepOnly (Nat.le_of_ble_eq_true rfl) fun Z => WS.go okX4_keepOnly 42 (h Z)
set_option maxRecDepth 100000 in
set_option maxHeartbeats 4000000 in
theorem wX4_keepOnly_18 {G : xG} {d : Nat} {Z : xZ} {j : Nat} {v1 : Int64} {v3 : Int32} {v4 : Int64} {v6 : Int32} {v7 : Int32} {μ : xM} {Q : xP} (h : xif (v3 ≤ v7) (MW G d mX4_findEnds [vR (3, j, 0)] (xst μ (3, j, 0) 0 v6) (xrV fun μ1 => Q (some (vI ((v3 - (μ1 (3, j, 0) 0))))) μ1)) (MW G d mX4_contains [vL v1, vI v7] μ (xrI fun x3 μ2 => xif (x3 = 0) (WS G eX4_keepOnly (d + 1) Z Q 18 [vR (3, j, 0), vL v1, vN, vI v3, vL v4, vN, vI v6, vI (v7 + (1 : Int32))] [] μ2) (MW G d mX4_moveLine [vR (3, j, 0), vI v7, vI v6, vL v1, vL v4] μ2 (xrV fun μ4 => WS G eX4_keepOnly (d + 1) Z Q 18 [vR (3, j, 0), vL v1, vN, vI v3, vL v4, vN, vI (v6 + (1 : Int32)), vI (v7 + (1 : Int32))] [] μ4))))) : WS G eX4_keepOnly (d + 1) Z Q 18 [vR (3, j, 0), vL v1, vN, vI v3, vL v4, vN, vI v6, vI v7] [] μ := WS.go okX4_keepOnly 42 h
set_option maxRecDepth 100000 in
set_option maxHeartbeats 4000000 in
theorem wX4_renumbered {G : xG} {d : Nat} {a0 : Int32} {a1 : Int64} {μ : xM} {Q : xP} (h : xif (0 ≤ a0) (MW G d mX4_bit [vI a0] μ (xrL fun y2 μ1 => MW G d mJ13_bitCount_95d88 [vL (a1 &&& (y2 - (1 : Int64)))] μ1 (xrI fun x4 μ3 => Q (some (vI x4)) μ3))) (Q (some (vI (-6 : Int32))) μ)) : MW G (d + 1) mX4_renumbered [vI a0, vL a1] μ Q := MW.of (E := eX4_renumbered) okX4_renumbered (Nat.le_of_ble_eq_true rfl) fun Z => WS.go okX4_renumbered 17 h
set_option maxRecDepth 100000 in
set_option maxHeartbeats 4000000 in
theorem wX4_moveLine {G : xG} {d : Nat} {j : Nat} {a0 : Int32} {a1 : Int32} {a2 : Int64} {a3 : Int64} {μ : xM} {Q : xP} (h : MW G d mX4_countLineReferences [vR (3, j, 0), vI a0] μ (xrI fun x2 μ1 => MW G d mX5_get [vR (0, j, 3), vI a0] μ1 (xrI fun x4 μ3 => MW G d mX5_set [vR (0, j, 3), vI a1, vI x4] μ3 (xrV fun μ5 => MW G d mX5_get [vR (0, j, 6), vI a0] μ5 (xrI fun x7 μ6 => xif (x2 ≤ 0) (MW G d mX4_renumbered [vI x7, vL a3] μ6 (xrI fun x9 μ8 => MW G d mX5_set [vR (0, j, 6), vI a1, vI x9] μ8 (xrV fun μ10 => MW G d mX5_get [vR (0, j, 7), vI a0] μ10 (xrI fun x12 μ11 => xif (x2 ≤ (1 : Int32)) (MW G d mX4_renumbered [vI x12, vL a3] μ11 (xrI fun x14 μ13 => MW G d mX5_set [vR (0, j, 7), vI a1, vI x14] μ13 (xrV fun μ15 => MW G d mX5_get [vR (0, j, 8), vI a0] μ15 (xrI fun x17 μ16 => MW G d mX4_renumbered [vI x17, vL a3] μ16 (xrI fun x19 μ18 => MW G d mX5_set [vR (0, j, 8), vI a1, vI x19] μ18 (xrV fun μ20 => MW G d mX5_get [vR (0, j, 5), vI a0] μ20 (xrI fun x22 μ21 => MW G d mX4_renumbered [vI x22, vL a3] μ21 (xrI fun x24 μ23 => MW G d mX5_set [vR (0, j, 5), vI a1, vI x24] μ23 (xrV fun μ25 => MW G d mX5_get [vR (0, j, 4), vI a0] μ25 (xrI fun x27 μ26 => MW G d mX5_set [vR (0, j, 4), vI a1, vI x27] μ26 (xrV fun μ28 => Q none μ28))))))))))) (MW G d mX4_renumbered [vI x12, vL a2] μ11 (xrI fun x30 μ29 => MW G d mX5_set [vR (0, j, 7), vI a1, vI x30] μ29 (xrV fun μ31 => MW G d mX5_get [vR (0, j, 8), vI a0] μ31 (xrI fun x33 μ32 => MW G d mX4_renumbered [vI x33, vL a3] μ32 (xrI fun x35 μ34 => MW G d mX5_set [vR (0, j, 8), vI a1, vI x35] μ34 (xrV fun μ36 => MW G d mX5_get [vR (0, j, 5), vI a0] μ36 (xrI fun x38 μ37 => MW G d mX4_renumbered [vI x38, vL a3] μ37 (xrI fun x40 μ39 => MW G d mX5_set [vR (0, j, 5), vI a1, vI x40] μ39 (xrV fun μ41 => MW G d mX5_get [vR (0, j, 4), vI a0] μ41 (xrI fun x43 μ42 => MW G d mX5_set [vR (0, j, 4), vI a1, vI x43] μ42 (xrV fun μ44 => Q none μ44))))))))))))))) (MW G d mX4_renumbered [vI x7, vL a2] μ6 (xrI fun x46 μ45 => MW G d mX5_set [vR (0, j, 6), vI a1, vI x46] μ45 (xrV fun μ47 => MW G d mX5_get [vR (0, j, 7), vI a0] μ47 (xrI fun x49 μ48 => xif (x2 ≤ (1 : Int32)) (MW G d mX4_renumbered [vI x49, vL a3] μ48 (xrI fun x51 μ50 => MW G d mX5_set [vR (0, j, 7), vI a1, vI x51] μ50 (xrV fun μ52 => MW G d mX5_get [vR (0, j, 8), vI a0] μ52 (xrI fun x54 μ53 => MW G d mX4_renumbered [vI x54, vL a3] μ53 (xrI fun x56 μ55 => MW G d mX5_set [vR (0, j, 8), vI a1, vI x56] μ55 (xrV fun μ57 => MW G d mX5_get [vR (0, j, 5), vI a0] μ57 (xrI fun x59 μ58 => MW G d mX4_renumbered [vI x59, vL a3] μ58 (xrI fun x61 μ60 => MW G d mX5_set [vR (0, j, 5), vI a1, vI x61] μ60 (xrV fun μ62 => MW G d mX5_get [vR (0, j, 4), vI a0] μ62 (xrI fun x64 μ63 => MW G d mX5_set [vR (0, j, 4), vI a1, vI x64] μ63 (xrV fun μ65 => Q none μ65))))))))))) (MW G d mX4_renumbered [vI x49, vL a2] μ48 (xrI fun x67 μ66 => MW G d mX5_set [vR (0, j, 7), vI a1, vI x67] μ66 (xrV fun μ68 => MW G d mX5_get [vR (0, j, 8), vI a0] μ68 (xrI fun x70 μ69 => MW G d mX4_renumbered [vI x70, vL a3] μ69 (xrI fun x72 μ71 => MW G d mX5_set [vR (0, j, 8), vI a1, vI x72] μ71 (xrV fun μ73 => MW G d mX5_get [vR (0, j, 5), vI a0] μ73 (xrI fun x75 μ74 => MW G d mX4_renumbered [vI x75, vL a3] μ74 (xrI fun x77 μ76 => MW G d mX5_set [vR (0, j, 5), vI a1, vI x77] μ76 (xrV fun μ78 => MW G d mX5_get [vR (0, j, 4), vI a0] μ78 (xrI fun x80 μ79 => MW G d mX5_set [vR (0, j, 4), vI a1, vI x80] μ79 (xrV fun μ81 => Q none μ81)))))))))))))))))))) : MW G (d + 1) mX4_moveLine [vR (3, j, 0), vI a0, vI a1, vL a2, vL a3] μ Q := MW.of (E := eX4_moveLine) okX4_moveLine (Nat.le_of_ble_eq_true rfl) fun Z => WS.go okX4_moveLine 75 h
set_option maxRecDepth 100000 in
set_option maxHeartbeats 4000000 in
theorem wX4_keepBoxes {G : xG} {d : Nat} {j : Nat} {a0 : Int64} {μ : xM} {Q : xP} (h : ∀ Z : xZ, WS G eX4_keepBoxes (d + 1) Z Q 8 [vR (3, j, 0), vL a0, vN, vL (0 : Int64), vN, vI (0 : Int32), vI (0 : Int32)] [] μ) : MW G (d + 1) mX4_keepBoxes [vR (3, j, 0), vL a0] μ Q := MW.of (E := eX4_keepBoxes) okX4_keepBoxes (Nat.le_of_ble_eq_true rfl) fun Z => WS.go okX4_keepBoxes 55 (h Z)
set_option maxRecDepth 100000 in
set_option maxHeartbeats 4000000 in
theorem wX4_keepBoxes_8 {G : xG} {d : Nat} {Z : xZ} {j : Nat} {v1 : Int64} {v3 : Int64} {v5 : Int32} {v6 : Int32} {μ : xM} {Q : xP} (h : xif ((μ (3, j, 0) 1) ≤ v6) (Q (some (vL v3)) (xst μ (3, j, 0) 1 v5)) (MW G d mX5_get [vR (0, j, 9), vI v6] μ (xrI fun x2 μ1 => MW G d mX4_contains [vL v1, vI x2] μ1 (xrI fun x4 μ3 => xif (x4 = 0) (WS G eX4_keepBoxes (d + 1) Z Q 8 [vR (3, j, 0), vL v1, vN, vL v3, vN, vI v5, vI (v6 + (1 : Int32))] [] μ3) (MW G d mX4_bit [vI v6] μ3 (xrL fun y6 μ5 => MW G d mX5_get [vR (0, j, 9), vI v6] μ5 (xrI fun x8 μ7 => MW G d mX4_renumbered [vI x8, vL v1] μ7 (xrI fun x10 μ9 => MW G d mX5_set [vR (0, j, 9), vI v5, vI x10] μ9 (xrV fun μ11 => MW G d mX5_get [vR (0, j, 11), vI v6] μ11 (xrI fun x13 μ12 => MW G d mX4_renumbered [vI x13, vL (v3 ||| y6)] μ12 (xrI fun x15 μ14 => MW G d mX5_set [vR (0, j, 11), vI v5, vI x15] μ14 (xrV fun μ16 => WS G eX4_keepBoxes (d + 1) Z Q 8 [vR (3, j, 0), vL v1, vN, vL (v3 ||| y6), vN, vI (v5 + (1 : Int32)), vI (v6 + (1 : Int32))] [] μ16)))))))))))) : WS G eX4_keepBoxes (d + 1) Z Q 8 [vR (3, j, 0), vL v1, vN, vL v3, vN, vI v5, vI v6] [] μ := WS.go okX4_keepBoxes 55 h
set_option maxRecDepth 100000 in
set_option maxHeartbeats 4000000 in
theorem wX4_findEnds {G : xG} {d : Nat} {j : Nat} {μ : xM} {Q : xP} (h : ∀ Z : xZ, WS G eX4_findEnds (d + 1) Z Q 2 [vR (3, j, 0), vI (0 : Int32), vN, vN] [] μ) : MW G (d + 1) mX4_findEnds [vR (3, j, 0)] μ Q := MW.of (E := eX4_findEnds) okX4_findEnds (Nat.le_of_ble_eq_true rfl) fun Z => WS.go okX4_findEnds 40 (h Z)
set_option maxRecDepth 100000 in
set_option maxHeartbeats 4000000 in
theorem wX4_findEnds_2 {G : xG} {d : Nat} {Z : xZ} {j : Nat} {v1 : Int32} {μ : xM} {Q : xP} (h : xif ((μ (3, j, 0) 0) ≤ v1) (Q none μ) (MW G d mX5_get [vR (0, j, 5), vI v1] μ (xrI fun x2 μ1 => WS G eX4_findEnds (d + 1) Z Q 21 [vR (3, j, 0), vI v1, vI x2, vI (0 : Int32)] [] μ1))) : WS G eX4_findEnds (d + 1) Z Q 2 [vR (3, j, 0), vI v1, vN, vN] [] μ := WS.go okX4_findEnds 40 h
set_option maxRecDepth 100000 in
set_option maxHeartbeats 4000000 in
theorem wX4_findEnds_21 {G : xG} {d : Nat} {Z : xZ} {j : Nat} {v1 : Int32} {v2 : Int32} {v3 : Int32} {μ : xM} {Q : xP} (h : xif ((5 : Int32) ≤ v3) (WS G eX4_findEnds (d + 1) Z Q 2 [vR (3, j, 0), vI (v1 + (1 : Int32)), vN, vN] [] μ) (MW G d mX4_hasBox [vR (3, j, 0), vI v2] μ (xrI fun x2 μ1 => xif (x2 = 0) (WS G eX4_findEnds (d + 1) Z Q 2 [vR (3, j, 0), vI (v1 + (1 : Int32)), vN, vN] [] μ1) (MW G d mX5_set [vR (0, j, 10), vI v2, vI v1] μ1 (xrV fun μ3 => MW G d mX5_get [vR (0, j, 11), vI v2] μ3 (xrI fun x5 μ4 => WS G eX4_findEnds (d + 1) Z Q 21 [vR (3, j, 0), vI v1, vI x5, vI (v3 + (1 : Int32))] [] μ4)))))) : WS G eX4_findEnds (d + 1) Z Q 21 [vR (3, j, 0), vI v1, vI v2, vI v3] [] μ := WS.go okX4_findEnds 40 h
set_option maxRecDepth 100000 in
set_option maxHeartbeats 4000000 in
theorem wX5_get {G : xG} {d : Nat} {j : Nat} {c : Nat} {a0 : Int32} {μ : xM} {Q : xP} (h : xif (a0 < 0) (Q (some (vI (-6 : Int32))) μ) (xif ((Int32.ofNat (xlenc c)) ≤ a0) (Q (some (vI (-6 : Int32))) μ) (vp_in a0 (xlenc c) ∧ Q (some (vI ((μ (1, j, c) a0.toNatClampNeg)))) μ))) : MW G (d + 1) mX5_get [vR (0, j, c), vI a0] μ Q := MW.of (E := eX5_get) okX5_get (Nat.le_of_ble_eq_true rfl) fun Z => WS.go okX5_get 19 h
set_option maxRecDepth 100000 in
set_option maxHeartbeats 4000000 in
theorem wX5_set {G : xG} {d : Nat} {j : Nat} {c : Nat} {a0 : Int32} {a1 : Int32} {μ : xM} {Q : xP} (h : xif (a0 < 0) (Q none μ) (xif ((Int32.ofNat (xlenc c)) ≤ a0) (Q none μ) (vp_in a0 (xlenc c) ∧ Q none (xst μ (1, j, c) a0.toNatClampNeg a1)))) : MW G (d + 1) mX5_set [vR (0, j, c), vI a0, vI a1] μ Q := MW.of (E := eX5_set) okX5_set (Nat.le_of_ble_eq_true rfl) fun Z => WS.go okX5_set 18 h
set_option maxRecDepth 100000 in
set_option maxHeartbeats 4000000 in
theorem wX5_copyFrom {G : xG} {d : Nat} {j : Nat} {c : Nat} {j0 : Nat} {c0 : Nat} {μ : xM} {Q : xP} (h : ¬ (0 : Int32) < 0 ∧ ¬ (0 : Int32) < 0 ∧ ¬ (if (Int32.ofNat (xlenc c0)) < (Int32.ofNat (xlenc c)) then (Int32.ofNat (xlenc c0)) else (Int32.ofNat (xlenc c))) < 0 ∧ (0 : Int32).toNatClampNeg + ((if (Int32.ofNat (xlenc c0)) < (Int32.ofNat (xlenc c)) then (Int32.ofNat (xlenc c0)) else (Int32.ofNat (xlenc c)))).toNatClampNeg ≤ (xlenc c0) ∧ (0 : Int32).toNatClampNeg + ((if (Int32.ofNat (xlenc c0)) < (Int32.ofNat (xlenc c)) then (Int32.ofNat (xlenc c0)) else (Int32.ofNat (xlenc c)))).toNatClampNeg ≤ (xlenc c) ∧ Q none (xcp μ (1, j0, c0) (1, j, c) ((0 : Int32).toNatClampNeg) ((0 : Int32).toNatClampNeg) (((if (Int32.ofNat (xlenc c0)) < (Int32.ofNat (xlenc c)) then (Int32.ofNat (xlenc c0)) else (Int32.ofNat (xlenc c)))).toNatClampNeg))) : MW G (d + 1) mX5_copyFrom [vR (0, j, c), vR (0, j0, c0)] μ Q := MW.of (E := eX5_copyFrom) okX5_copyFrom (Nat.le_of_ble_eq_true rfl) fun Z => WS.go okX5_copyFrom 22 h
set_option maxRecDepth 100000 in
set_option maxHeartbeats 4000000 in
theorem wX6_ofKind {G : xG} {d : Nat} {a0 : Int32} {μ : xM} {Q : xP} (h : (a0 = 3 → Q (some (vI (38 : Int32))) μ) ∧ (¬ a0 = 3 → (a0 = 4 → Q (some (vI (124 : Int32))) μ) ∧ (¬ a0 = 4 → Q (some (vI (62 : Int32))) μ))) : MW G (d + 1) mX6_ofKind [vI a0] μ Q := MW.of (E := eX6_ofKind) okX6_ofKind (Nat.le_of_ble_eq_true rfl) fun Z => WS.go okX6_ofKind 13 h
set_option maxRecDepth 100000 in
set_option maxHeartbeats 4000000 in
theorem wX6_kindOf {G : xG} {d : Nat} {a0 : Int32} {μ : xM} {Q : xP} (h : (a0 = 38 → Q (some (vI (3 : Int32))) μ) ∧ (¬ a0 = 38 → (a0 = 62 → Q (some (vI (5 : Int32))) μ) ∧ (¬ a0 = 62 → (a0 = 124 → Q (some (vI (4 : Int32))) μ) ∧ (¬ a0 = 124 → Q (some (vI (-6 : Int32))) μ)))) : MW G (d + 1) mX6_kindOf [vI a0] μ Q := MW.of (E := eX6_kindOf) okX6_kindOf (Nat.le_of_ble_eq_true rfl) fun Z => WS.go okX6_kindOf 15 h
set_option maxRecDepth 100000 in
set_option maxHeartbeats 4000000 in
theorem wX7_copyFrom {G : xG} {d : Nat} {j : Nat} {j0 : Nat} {μ : xM} {Q : xP} (h : MW G d mX2_copyFrom [vR (2, j, 0), vR (2, j0, 0)] μ (xrV fun μ1 => MW G d mX4_copyFrom [vR (3, j, 0), vR (3, j0, 0)] μ1 (xrV fun μ2 => Q none μ2))) : MW G (d + 1) mX7_copyFrom [vR (4, j, 0), vR (4, j0, 0)] μ Q := MW.of (E := eX7_copyFrom) okX7_copyFrom (Nat.le_of_ble_eq_true rfl) fun Z => WS.go okX7_copyFrom 16 h
set_option maxRecDepth 100000 in
set_option maxHeartbeats 4000000 in
theorem wX8_atom {G : xG} {d : Nat} {a0 : Int32} {μ : xM} {Q : xP} (h : xif (a0 < 0) (Q (some (vI (-1 : Int32))) μ) (xif (a0 < (8 : Int32)) (MW G d mX8_makeFormula [vR (8, 0, 0), vI (0 : Int32), vI a0, vI (-6 : Int32)] μ (xrI fun x2 μ1 => Q (some (vI x2)) μ1)) (Q (some (vI (-1 : Int32))) μ))) : MW G (d + 1) mX8_atom [vR (8, 0, 0), vI a0] μ Q := MW.of (E := eX8_atom) okX8_atom (Nat.le_of_ble_eq_true rfl) fun Z => WS.go okX8_atom 18 h
set_option maxRecDepth 100000 in
set_option maxHeartbeats 4000000 in
theorem wX8_falsum {G : xG} {d : Nat} {μ : xM} {Q : xP} (h : MW G d mX8_makeFormula [vR (8, 0, 0), vI (1 : Int32), vI (-6 : Int32), vI (-6 : Int32)] μ (xrI fun x2 μ1 => Q (some (vI x2)) μ1)) : MW G (d + 1) mX8_falsum [vR (8, 0, 0)] μ Q := MW.of (E := eX8_falsum) okX8_falsum (Nat.le_of_ble_eq_true rfl) fun Z => WS.go okX8_falsum 11 h
set_option maxRecDepth 100000 in
set_option maxHeartbeats 4000000 in
theorem wX8_not {G : xG} {d : Nat} {a0 : Int32} {μ : xM} {Q : xP} (h : MW G d mX2_has [vR (2, 0, 0), vI a0] μ (xrI fun x2 μ1 => xif (x2 = 0) (Q (some (vI (-1 : Int32))) μ1) (MW G d mX8_makeFormula [vR (8, 0, 0), vI (2 : Int32), vI a0, vI (-6 : Int32)] μ1 (xrI fun x4 μ3 => Q (some (vI x4)) μ3)))) : MW G (d + 1) mX8_not [vR (8, 0, 0), vI a0] μ Q := MW.of (E := eX8_not) okX8_not (Nat.le_of_ble_eq_true rfl) fun Z => WS.go okX8_not 19 h
set_option maxRecDepth 100000 in
set_option maxHeartbeats 4000000 in
theorem wX8_pair {G : xG} {d : Nat} {a0 : Int32} {a1 : Int32} {a2 : Int32} {μ : xM} {Q : xP} (h : MW G d mX2_has [vR (2, 0, 0), vI a1] μ (xrI fun x2 μ1 => xif (x2 = 0) (Q (some (vI (-1 : Int32))) μ1) (MW G d mX2_has [vR (2, 0, 0), vI a2] μ1 (xrI fun x4 μ3 => xif (x4 = 0) (Q (some (vI (-1 : Int32))) μ3) (xif (a0 < (3 : Int32)) (Q (some (vI (-2 : Int32))) μ3) (xif (a0 ≤ (5 : Int32)) (MW G d mX8_makeFormula [vR (8, 0, 0), vI a0, vI a1, vI a2] μ3 (xrI fun x6 μ5 => Q (some (vI x6)) μ5)) (Q (some (vI (-2 : Int32))) μ3))))))) : MW G (d + 1) mX8_pair [vR (8, 0, 0), vI a0, vI a1, vI a2] μ Q := MW.of (E := eX8_pair) okX8_pair (Nat.le_of_ble_eq_true rfl) fun Z => WS.go okX8_pair 33 h
set_option maxRecDepth 100000 in
set_option maxHeartbeats 4000000 in
theorem wX8_makeFormula {G : xG} {d : Nat} {a0 : Int32} {a1 : Int32} {a2 : Int32} {μ : xM} {Q : xP} (h : MW G d mX2_hasRoomFor [vR (2, 0, 0), vI a0, vI a1, vI a2] μ (xrI fun x2 μ1 => xif (x2 = 0) (Q (some (vI (-4 : Int32))) μ1) (MW G d mX3_record [vR (5, 0, 0), vR (4, 0, 0)] μ1 (xrV fun μ3 => MW G d mX2_make [vR (2, 0, 0), vI a0, vI a1, vI a2] μ3 (xrI fun x5 μ4 => Q (some (vI x5)) μ4))))) : MW G (d + 1) mX8_makeFormula [vR (8, 0, 0), vI a0, vI a1, vI a2] μ Q := MW.of (E := eX8_makeFormula) okX8_makeFormula (Nat.le_of_ble_eq_true rfl) fun Z => WS.go okX8_makeFormula 28 h
set_option maxRecDepth 100000 in
set_option maxHeartbeats 4000000 in
theorem wX8_formulas {G : xG} {d : Nat} {μ : xM} {Q : xP} (h : Q (some (vI ((μ (2, 0, 0) 0)))) μ) : MW G (d + 1) mX8_formulas [vR (8, 0, 0)] μ Q := MW.of (E := eX8_formulas) okX8_formulas (Nat.le_of_ble_eq_true rfl) fun Z => WS.go okX8_formulas 10 h
set_option maxRecDepth 100000 in
set_option maxHeartbeats 4000000 in
theorem wX8_part {G : xG} {d : Nat} {a0 : Int32} {a1 : Int32} {μ : xM} {Q : xP} (h : MW G d mX2_has [vR (2, 0, 0), vI a0] μ (xrI fun x2 μ1 => xif (x2 = 0) (Q (some (vI (-1 : Int32))) μ1) ((a1 = 0 → MW G d mX5_get [vR (0, 0, 0), vI a0] μ1 (xrI fun x4 μ3 => Q (some (vI x4)) μ3)) ∧ (¬ a1 = 0 → (a1 = 1 → MW G d mX5_get [vR (0, 0, 1), vI a0] μ1 (xrI fun x6 μ5 => Q (some (vI x6)) μ5)) ∧ (¬ a1 = 1 → (a1 = 2 → MW G d mX5_get [vR (0, 0, 2), vI a0] μ1 (xrI fun x8 μ7 => Q (some (vI x8)) μ7)) ∧ (¬ a1 = 2 → Q (some (vI (-2 : Int32))) μ1)))))) : MW G (d + 1) mX8_part [vR (8, 0, 0), vI a0, vI a1] μ Q := MW.of (E := eX8_part) okX8_part (Nat.le_of_ble_eq_true rfl) fun Z => WS.go okX8_part 38 h
set_option maxRecDepth 100000 in
set_option maxHeartbeats 4000000 in
theorem wX8_length {G : xG} {d : Nat} {a0 : Int32} {μ : xM} {Q : xP} (h : MW G d mX2_has [vR (2, 0, 0), vI a0] μ (xrI fun x2 μ1 => xif (x2 = 0) (Q (some (vI (-1 : Int32))) μ1) (MW G d mX2_measure [vR (2, 0, 0), vR (0, 0, 12)] μ1 (xrV fun μ3 => MW G d mX5_get [vR (0, 0, 12), vI a0] μ3 (xrI fun x5 μ4 => Q (some (vI x5)) μ4))))) : MW G (d + 1) mX8_length [vR (8, 0, 0), vI a0] μ Q := MW.of (E := eX8_length) okX8_length (Nat.le_of_ble_eq_true rfl) fun Z => WS.go okX8_length 24 h
set_option maxRecDepth 100000 in
set_option maxHeartbeats 4000000 in
theorem wX8_character {G : xG} {d : Nat} {a0 : Int32} {a1 : Int32} {μ : xM} {Q : xP} (h : MW G d mX2_has [vR (2, 0, 0), vI a0] μ (xrI fun x2 μ1 => xif (x2 = 0) (Q (some (vI (-1 : Int32))) μ1) (MW G d mX2_measure [vR (2, 0, 0), vR (0, 0, 12)] μ1 (xrV fun μ3 => xif (a1 < 0) (Q (some (vI (-1 : Int32))) μ3) (MW G d mX5_get [vR (0, 0, 12), vI a0] μ3 (xrI fun x5 μ4 => xif (a1 < x5) (MW G d mX2_codeAt [vR (2, 0, 0), vI a0, vI a1, vR (0, 0, 12)] μ4 (xrI fun x7 μ6 => Q (some (vI x7)) μ6)) (Q (some (vI (-1 : Int32))) μ4))))))) : MW G (d + 1) mX8_character [vR (8, 0, 0), vI a0, vI a1] μ Q := MW.of (E := eX8_character) okX8_character (Nat.le_of_ble_eq_true rfl) fun Z => WS.go okX8_character 38 h
set_option maxRecDepth 100000 in
set_option maxHeartbeats 4000000 in
theorem wX8_isTrue {G : xG} {d : Nat} {a0 : Int32} {a1 : Int32} {μ : xM} {Q : xP} (h : MW G d mX2_has [vR (2, 0, 0), vI a0] μ (xrI fun x2 μ1 => xif (x2 = 0) (Q (some (vI (-1 : Int32))) μ1) (xif (a1 < 0) (Q (some (vI (-2 : Int32))) μ1) (xif (a1 < (256 : Int32)) (¬ (32 : Int32) = (0 : Int32) ∧ MW G d mX2_evaluate [vR (2, 0, 0), vI (a1 / (32 : Int32)), vR (0, 0, 13)] μ1 (xrV fun μ3 => MW G d mX5_get [vR (0, 0, 13), vI a0] μ3 (xrI fun x5 μ4 => ¬ (32 : Int32) = (0 : Int32) ∧ Q (some (vI (((xiu x5 ((a1 - a1 / (32 : Int32) * (32 : Int32)))) &&& (1 : Int32))))) μ4))) (Q (some (vI (-2 : Int32))) μ1))))) : MW G (d + 1) mX8_isTrue [vR (8, 0, 0), vI a0, vI a1] μ Q := MW.of (E := eX8_isTrue) okX8_isTrue (Nat.le_of_ble_eq_true rfl) fun Z => WS.go okX8_isTrue 40 h
set_option maxRecDepth 100000 in
set_option maxHeartbeats 4000000 in
theorem wX8_premise {G : xG} {d : Nat} {a0 : Int32} {μ : xM} {Q : xP} (h : MW G d mX2_has [vR (2, 0, 0), vI a0] μ (xrI fun x2 μ1 => xif (x2 = 0) (Q (some (vI (-1 : Int32))) μ1) (xif ((μ1 (3, 0, 0) 2) = (-6 : Int32)) (MW G d mX8_write [vR (8, 0, 0), vI (0 : Int32), vI a0, vI (-6 : Int32), vI (-6 : Int32), vI (-6 : Int32)] μ1 (xrI fun x4 μ3 => Q (some (vI x4)) μ3)) (Q (some (vI (-3 : Int32))) μ1)))) : MW G (d + 1) mX8_premise [vR (8, 0, 0), vI a0] μ Q := MW.of (E := eX8_premise) okX8_premise (Nat.le_of_ble_eq_true rfl) fun Z => WS.go okX8_premise 29 h
set_option maxRecDepth 100000 in
set_option maxHeartbeats 4000000 in
theorem wX8_open {G : xG} {d : Nat} {a0 : Int32} {μ : xM} {Q : xP} (h : MW G d mX2_has [vR (2, 0, 0), vI a0] μ (xrI fun x2 μ1 => xif (x2 = 0) (Q (some (vI (-1 : Int32))) μ1) (MW G d mX4_isFull [vR (3, 0, 0)] μ1 (xrI fun x4 μ3 => xif (x4 = 0) (MW G d mX8_depth [vR (8, 0, 0)] μ3 (xrI fun x6 μ5 => xif (x6 < (5 : Int32)) (MW G d mX3_record [vR (5, 0, 0), vR (4, 0, 0)] μ5 (xrV fun μ7 => MW G d mX4_openBox [vR (3, 0, 0), vI a0] μ7 (xrI fun x9 μ8 => Q (some (vI x9)) μ8))) (Q (some (vI (-4 : Int32))) μ5))) (Q (some (vI (-4 : Int32))) μ3))))) : MW G (d + 1) mX8_open [vR (8, 0, 0), vI a0] μ Q := MW.of (E := eX8_open) okX8_open (Nat.le_of_ble_eq_true rfl) fun Z => WS.go okX8_open 35 h
set_option maxRecDepth 100000 in
set_option maxHeartbeats 4000000 in
theorem wX8_close {G : xG} {d : Nat} {μ : xM} {Q : xP} (h : MW G d mX4_canCloseBox [vR (3, 0, 0)] μ (xrI fun x2 μ1 => xif (x2 = 0) (Q (some (vI (-3 : Int32))) μ1) (MW G d mX3_record [vR (5, 0, 0), vR (4, 0, 0)] μ1 (xrV fun μ3 => MW G d mX4_closeBox [vR (3, 0, 0)] μ3 (xrI fun x5 μ4 => Q (some (vI x5)) μ4))))) : MW G (d + 1) mX8_close [vR (8, 0, 0)] μ Q := MW.of (E := eX8_close) okX8_close (Nat.le_of_ble_eq_true rfl) fun Z => WS.go okX8_close 22 h
set_option maxRecDepth 100000 in
set_option maxHeartbeats 4000000 in
theorem wX8_repeat {G : xG} {d : Nat} {a0 : Int32} {μ : xM} {Q : xP} (h : MW G d mX4_hasLine [vR (3, 0, 0), vI a0] μ (xrI fun x2 μ1 => xif (x2 = 0) (Q (some (vI (-1 : Int32))) μ1) (MW G d mX4_isLineAvailable [vR (3, 0, 0), vI a0] μ1 (xrI fun x4 μ3 => xif (x4 = 0) (Q (some (vI (-3 : Int32))) μ3) (MW G d mX5_get [vR (0, 0, 3), vI a0] μ3 (xrI fun x6 μ5 => MW G d mX8_write [vR (8, 0, 0), vI (2 : Int32), vI x6, vI a0, vI (-6 : Int32), vI (-6 : Int32)] μ5 (xrI fun x8 μ7 => Q (some (vI x8)) μ7))))))) : MW G (d + 1) mX8_repeat [vR (8, 0, 0), vI a0] μ Q := MW.of (E := eX8_repeat) okX8_repeat (Nat.le_of_ble_eq_true rfl) fun Z => WS.go okX8_repeat 34 h
set_option maxRecDepth 100000 in
set_option maxHeartbeats 4000000 in
theorem wX8_fromTwo {G : xG} {d : Nat} {a0 : Int32} {a1 : Int32} {a2 : Int32} {μ : xM} {Q : xP} (h : ∀ Z : xZ, MW G d mX4_hasLine [vR (3, 0, 0), vI a1] μ (xrI fun x2 μ1 => xif (x2 = 0) (Q (some (vI (-1 : Int32))) μ1) (MW G d mX4_hasLine [vR (3, 0, 0), vI a2] μ1 (xrI fun x4 μ3 => xif (x4 = 0) (Q (some (vI (-1 : Int32))) μ3) (xif (a0 = (3 : Int32)) (WS G eX8_fromTwo (d + 1) Z Q 50 [vR (8, 0, 0), vI a0, vI a1, vI a2, vN, vN, vN] [] μ3) (xif (a0 = (9 : Int32)) (WS G eX8_fromTwo (d + 1) Z Q 50 [vR (8, 0, 0), vI a0, vI a1, vI a2, vN, vN, vN] [] μ3) (xif (a0 = (11 : Int32)) (WS G eX8_fromTwo (d + 1) Z Q 50 [vR (8, 0, 0), vI a0, vI a1, vI a2, vN, vN, vN] [] μ3) (Q (some (vI (-2 : Int32))) μ3)))))))) : MW G (d + 1) mX8_fromTwo [vR (8, 0, 0), vI a0, vI a1, vI a2] μ Q := MW.of (E := eX8_fromTwo) okX8_fromTwo (Nat.le_of_ble_eq_true rfl) fun Z => WS.go okX8_fromTwo 119 (h Z)
set_option maxRecDepth 100000 in
set_option maxHeartbeats 4000000 in
theorem wX8_fromTwo_50 {G : xG} {d : Nat} {Z : xZ} {v1 : Int32} {v2 : Int32} {v3 : Int32} {μ : xM} {Q : xP} (h : MW G d mX4_isLineAvailable [vR (3, 0, 0), vI v2] μ (xrI fun x2 μ1 => xif (x2 = 0) (Q (some (vI (-3 : Int32))) μ1) (MW G d mX4_isLineAvailable [vR (3, 0, 0), vI v3] μ1 (xrI fun x4 μ3 => xif (x4 = 0) (Q (some (vI (-3 : Int32))) μ3) (MW G d mX5_get [vR (0, 0, 3), vI v2] μ3 (xrI fun x6 μ5 => MW G d mX5_get [vR (0, 0, 3), vI v3] μ5 (xrI fun x8 μ7 => xif (v1 = (3 : Int32)) (MW G d mX8_writeMade [vR (8, 0, 0), vI (3 : Int32), vI (3 : Int32), vI x6, vI x8, vI v2, vI v3] μ7 (xrI fun x10 μ9 => Q (some (vI x10)) μ9)) (xif (v1 = (9 : Int32)) (WS G eX8_fromTwo (d + 1) Z Q 142 [vR (8, 0, 0), vI v1, vI v2, vI v3, vI x6, vI x8, vN] [vI (5 : Int32)] μ7) (WS G eX8_fromTwo (d + 1) Z Q 142 [vR (8, 0, 0), vI v1, vI v2, vI v3, vI x6, vI x8, vN] [vI (2 : Int32)] μ7))))))))) : WS G eX8_fromTwo (d + 1) Z Q 50 [vR (8, 0, 0), vI v1, vI v2, vI v3, vN, vN, vN] [] μ := WS.go okX8_fromTwo 119 h
set_option maxRecDepth 100000 in
set_option maxHeartbeats 4000000 in
theorem wX8_fromTwo_142 {G : xG} {d : Nat} {Z : xZ} {v1 : Int32} {v2 : Int32} {v3 : Int32} {v4 : Int32} {v5 : Int32} {s0 : Int32} {μ : xM} {Q : xP} (h : MW G d mX2_isOfKind [vR (2, 0, 0), vI v4, vI s0] μ (xrI fun x2 μ1 => xif (x2 = 0) (Q (some (vI (-3 : Int32))) μ1) (MW G d mX5_get [vR (0, 0, 1), vI v4] μ1 (xrI fun x4 μ3 => xif (x4 = v5) (xif (v1 = (9 : Int32)) (MW G d mX5_get [vR (0, 0, 2), vI v4] μ3 (xrI fun x6 μ5 => MW G d mX8_write [vR (8, 0, 0), vI (9 : Int32), vI x6, vI v2, vI v3, vI (-6 : Int32)] μ5 (xrI fun x8 μ7 => Q (some (vI x8)) μ7))) (MW G d mX8_writeMade [vR (8, 0, 0), vI (11 : Int32), vI (1 : Int32), vI (-6 : Int32), vI (-6 : Int32), vI v2, vI v3] μ3 (xrI fun x10 μ9 => Q (some (vI x10)) μ9))) (Q (some (vI (-3 : Int32))) μ3))))) : WS G eX8_fromTwo (d + 1) Z Q 142 [vR (8, 0, 0), vI v1, vI v2, vI v3, vI v4, vI v5, vN] [vI s0] μ := WS.go okX8_fromTwo 119 h
set_option maxRecDepth 100000 in
set_option maxHeartbeats 4000000 in
theorem wX8_fromOne {G : xG} {d : Nat} {a0 : Int32} {a1 : Int32} {μ : xM} {Q : xP} (h : ∀ Z : xZ, MW G d mX4_hasLine [vR (3, 0, 0), vI a1] μ (xrI fun x2 μ1 => xif (x2 = 0) (Q (some (vI (-1 : Int32))) μ1) (xif (a0 = (4 : Int32)) (WS G eX8_fromOne (d + 1) Z Q 35 [vR (8, 0, 0), vI a0, vI a1, vN] [] μ1) (xif (a0 = (5 : Int32)) (WS G eX8_fromOne (d + 1) Z Q 35 [vR (8, 0, 0), vI a0, vI a1, vN] [] μ1) (xif (a0 = (13 : Int32)) (WS G eX8_fromOne (d + 1) Z Q 35 [vR (8, 0, 0), vI a0, vI a1, vN] [] μ1) (Q (some (vI (-2 : Int32))) μ1)))))) : MW G (d + 1) mX8_fromOne [vR (8, 0, 0), vI a0, vI a1] μ Q := MW.of (E := eX8_fromOne) okX8_fromOne (Nat.le_of_ble_eq_true rfl) fun Z => WS.go okX8_fromOne 57 (h Z)
set_option maxRecDepth 100000 in
set_option maxHeartbeats 4000000 in
theorem wX8_fromOne_35 {G : xG} {d : Nat} {Z : xZ} {v1 : Int32} {v2 : Int32} {μ : xM} {Q : xP} (h : MW G d mX4_isLineAvailable [vR (3, 0, 0), vI v2] μ (xrI fun x2 μ1 => xif (x2 = 0) (Q (some (vI (-3 : Int32))) μ1) (MW G d mX5_get [vR (0, 0, 3), vI v2] μ1 (xrI fun x4 μ3 => MW G d mX2_takenOut [vR (2, 0, 0), vI v1, vI x4] μ3 (xrI fun x6 μ5 => xif (x6 = (-6 : Int32)) (Q (some (vI (-3 : Int32))) μ5) (MW G d mX8_write [vR (8, 0, 0), vI v1, vI x6, vI v2, vI (-6 : Int32), vI (-6 : Int32)] μ5 (xrI fun x8 μ7 => Q (some (vI x8)) μ7))))))) : WS G eX8_fromOne (d + 1) Z Q 35 [vR (8, 0, 0), vI v1, vI v2, vN] [] μ := WS.go okX8_fromOne 57 h
set_option maxRecDepth 100000 in
set_option maxHeartbeats 4000000 in
theorem wX8_toFormula {G : xG} {d : Nat} {a0 : Int32} {a1 : Int32} {a2 : Int32} {μ : xM} {Q : xP} (h : ∀ Z : xZ, MW G d mX4_hasLine [vR (3, 0, 0), vI a1] μ (xrI fun x2 μ1 => xif (x2 = 0) (Q (some (vI (-1 : Int32))) μ1) (MW G d mX2_has [vR (2, 0, 0), vI a2] μ1 (xrI fun x4 μ3 => xif (x4 = 0) (Q (some (vI (-1 : Int32))) μ3) (xif (a0 = (6 : Int32)) (WS G eX8_toFormula (d + 1) Z Q 45 [vR (8, 0, 0), vI a0, vI a1, vI a2, vN, vN] [] μ3) (xif (a0 = (12 : Int32)) (WS G eX8_toFormula (d + 1) Z Q 45 [vR (8, 0, 0), vI a0, vI a1, vI a2, vN, vN] [] μ3) (Q (some (vI (-2 : Int32))) μ3))))))) : MW G (d + 1) mX8_toFormula [vR (8, 0, 0), vI a0, vI a1, vI a2] μ Q := MW.of (E := eX8_toFormula) okX8_toFormula (Nat.le_of_ble_eq_true rfl) fun Z => WS.go okX8_toFormula 71 (h Z)
set_option maxRecDepth 100000 in
set_option maxHeartbeats 4000000 in
theorem wX8_toFormula_45 {G : xG} {d : Nat} {Z : xZ} {v1 : Int32} {v2 : Int32} {v3 : Int32} {μ : xM} {Q : xP} (h : MW G d mX4_isLineAvailable [vR (3, 0, 0), vI v2] μ (xrI fun x2 μ1 => xif (x2 = 0) (Q (some (vI (-3 : Int32))) μ1) (MW G d mX5_get [vR (0, 0, 3), vI v2] μ1 (xrI fun x4 μ3 => xif (v1 = (6 : Int32)) (MW G d mX2_isPartOfDisjunction [vR (2, 0, 0), vI x4, vI v3] μ3 (xrI fun x6 μ5 => WS G eX8_toFormula (d + 1) Z Q 113 [vR (8, 0, 0), vI v1, vI v2, vI v3, vN, vN] [vI x6] μ5)) (MW G d mX2_isOfKind [vR (2, 0, 0), vI x4, vI (1 : Int32)] μ3 (xrI fun x8 μ7 => WS G eX8_toFormula (d + 1) Z Q 113 [vR (8, 0, 0), vI v1, vI v2, vI v3, vN, vN] [vI x8] μ7)))))) : WS G eX8_toFormula (d + 1) Z Q 45 [vR (8, 0, 0), vI v1, vI v2, vI v3, vN, vN] [] μ := WS.go okX8_toFormula 71 h
set_option maxRecDepth 100000 in
set_option maxHeartbeats 4000000 in
theorem wX8_toFormula_113 {G : xG} {d : Nat} {Z : xZ} {v1 : Int32} {v2 : Int32} {v3 : Int32} {s0 : Int32} {μ : xM} {Q : xP} (h : xif (s0 = 0) (Q (some (vI (-3 : Int32))) μ) (MW G d mX8_write [vR (8, 0, 0), vI v1, vI v3, vI v2, vI (-6 : Int32), vI (-6 : Int32)] μ (xrI fun x2 μ1 => Q (some (vI x2)) μ1))) : WS G eX8_toFormula (d + 1) Z Q 113 [vR (8, 0, 0), vI v1, vI v2, vI v3, vN, vN] [vI s0] μ := WS.go okX8_toFormula 71 h
set_option maxRecDepth 100000 in
set_option maxHeartbeats 4000000 in
theorem wX8_fromBox {G : xG} {d : Nat} {a0 : Int32} {a1 : Int32} {μ : xM} {Q : xP} (h : ∀ Z : xZ, MW G d mX4_hasBox [vR (3, 0, 0), vI a1] μ (xrI fun x2 μ1 => xif (x2 = 0) (Q (some (vI (-1 : Int32))) μ1) (xif (a0 = (8 : Int32)) (WS G eX8_fromBox (d + 1) Z Q 31 [vR (8, 0, 0), vI a0, vI a1, vN, vN] [] μ1) (xif (a0 = (10 : Int32)) (WS G eX8_fromBox (d + 1) Z Q 31 [vR (8, 0, 0), vI a0, vI a1, vN, vN] [] μ1) (Q (some (vI (-2 : Int32))) μ1))))) : MW G (d + 1) mX8_fromBox [vR (8, 0, 0), vI a0, vI a1] μ Q := MW.of (E := eX8_fromBox) okX8_fromBox (Nat.le_of_ble_eq_true rfl) fun Z => WS.go okX8_fromBox 71 (h Z)
set_option maxRecDepth 100000 in
set_option maxHeartbeats 4000000 in
theorem wX8_fromBox_31 {G : xG} {d : Nat} {Z : xZ} {v1 : Int32} {v2 : Int32} {μ : xM} {Q : xP} (h : MW G d mX4_isBoxAvailable [vR (3, 0, 0), vI v2] μ (xrI fun x2 μ1 => xif (x2 = 0) (Q (some (vI (-3 : Int32))) μ1) (MW G d mX4_assumptionOf [vR (3, 0, 0), vI v2] μ1 (xrI fun x4 μ3 => MW G d mX4_conclusionOf [vR (3, 0, 0), vI v2] μ3 (xrI fun x6 μ5 => xif (v1 = (8 : Int32)) (MW G d mX8_writeMade [vR (8, 0, 0), vI (8 : Int32), vI (5 : Int32), vI x4, vI x6, vI v2, vI (-6 : Int32)] μ5 (xrI fun x8 μ7 => Q (some (vI x8)) μ7)) (MW G d mX2_isOfKind [vR (2, 0, 0), vI x6, vI (1 : Int32)] μ5 (xrI fun x10 μ9 => xif (x10 = 0) (Q (some (vI (-3 : Int32))) μ9) (MW G d mX8_writeMade [vR (8, 0, 0), vI (10 : Int32), vI (2 : Int32), vI x4, vI (-6 : Int32), vI v2, vI (-6 : Int32)] μ9 (xrI fun x12 μ11 => Q (some (vI x12)) μ11))))))))) : WS G eX8_fromBox (d + 1) Z Q 31 [vR (8, 0, 0), vI v1, vI v2, vN, vN] [] μ := WS.go okX8_fromBox 71 h
set_option maxRecDepth 100000 in
set_option maxHeartbeats 4000000 in
theorem wX8_cases {G : xG} {d : Nat} {a0 : Int32} {a1 : Int32} {a2 : Int32} {μ : xM} {Q : xP} (h : ∀ Z : xZ, MW G d mX4_hasLine [vR (3, 0, 0), vI a0] μ (xrI fun x2 μ1 => xif (x2 = 0) (Q (some (vI (-1 : Int32))) μ1) (MW G d mX4_hasBox [vR (3, 0, 0), vI a1] μ1 (xrI fun x4 μ3 => xif (x4 = 0) (Q (some (vI (-1 : Int32))) μ3) (MW G d mX4_hasBox [vR (3, 0, 0), vI a2] μ3 (xrI fun x6 μ5 => xif (x6 = 0) (Q (some (vI (-1 : Int32))) μ5) (MW G d mX4_isLineAvailable [vR (3, 0, 0), vI a0] μ5 (xrI fun x8 μ7 => xif (x8 = 0) (Q (some (vI (-3 : Int32))) μ7) (MW G d mX4_isBoxAvailable [vR (3, 0, 0), vI a1] μ7 (xrI fun x10 μ9 => xif (x10 = 0) (Q (some (vI (-3 : Int32))) μ9) (MW G d mX4_isBoxAvailable [vR (3, 0, 0), vI a2] μ9 (xrI fun x12 μ11 => xif (x12 = 0) (Q (some (vI (-3 : Int32))) μ11) (MW G d mX5_get [vR (0, 0, 3), vI a0] μ11 (xrI fun x14 μ13 => MW G d mX4_conclusionOf [vR (3, 0, 0), vI a1] μ13 (xrI fun x16 μ15 => MW G d mX2_isOfKind [vR (2, 0, 0), vI x14, vI (4 : Int32)] μ15 (xrI fun x18 μ17 => xif (x18 = 0) (WS G eX8_cases (d + 1) Z Q 212 [vR (8, 0, 0), vI a0, vI a1, vI a2, vN, vI x16, vN] [] μ17) (MW G d mX5_get [vR (0, 0, 1), vI x14] μ17 (xrI fun x20 μ19 => MW G d mX4_assumptionOf [vR (3, 0, 0), vI a1] μ19 (xrI fun x22 μ21 => xif (x20 = x22) (MW G d mX5_get [vR (0, 0, 2), vI x14] μ21 (xrI fun x24 μ23 => MW G d mX4_assumptionOf [vR (3, 0, 0), vI a2] μ23 (xrI fun x26 μ25 => xif (x24 = x26) (MW G d mX4_conclusionOf [vR (3, 0, 0), vI a2] μ25 (xrI fun x28 μ27 => xif (x16 = x28) (WS G eX8_cases (d + 1) Z Q 213 [vR (8, 0, 0), vI a0, vI a1, vI a2, vN, vI x16, vN] [vI (1 : Int32)] μ27) (WS G eX8_cases (d + 1) Z Q 212 [vR (8, 0, 0), vI a0, vI a1, vI a2, vN, vI x16, vN] [] μ27))) (WS G eX8_cases (d + 1) Z Q 212 [vR (8, 0, 0), vI a0, vI a1, vI a2, vN, vI x16, vN] [] μ25)))) (WS G eX8_cases (d + 1) Z Q 212 [vR (8, 0, 0), vI a0, vI a1, vI a2, vN, vI x16, vN] [] μ21)))))))))))))))))))) : MW G (d + 1) mX8_cases [vR (8, 0, 0), vI a0, vI a1, vI a2] μ Q := MW.of (E := eX8_cases) okX8_cases (Nat.le_of_ble_eq_true rfl) fun Z => WS.go okX8_cases 112 (h Z)
set_option maxRecDepth 100000 in
set_option maxHeartbeats 4000000 in
theorem wX8_cases_212 {G : xG} {d : Nat} {Z : xZ} {v1 : Int32} {v2 : Int32} {v3 : Int32} {v5 : Int32} {μ : xM} {Q : xP} (h : WS G eX8_cases (d + 1) Z Q 213 [vR (8, 0, 0), vI v1, vI v2, vI v3, vN, vI v5, vN] [vI (0 : Int32)] μ) : WS G eX8_cases (d + 1) Z Q 212 [vR (8, 0, 0), vI v1, vI v2, vI v3, vN, vI v5, vN] [] μ := WS.go okX8_cases 112 h
set_option maxRecDepth 100000 in
set_option maxHeartbeats 4000000 in
theorem wX8_cases_213 {G : xG} {d : Nat} {Z : xZ} {v1 : Int32} {v2 : Int32} {v3 : Int32} {v5 : Int32} {s0 : Int32} {μ : xM} {Q : xP} (h : xif (s0 = 0) (Q (some (vI (-3 : Int32))) μ) (MW G d mX8_write [vR (8, 0, 0), vI (7 : Int32), vI v5, vI v1, vI v2, vI v3] μ (xrI fun x2 μ1 => Q (some (vI x2)) μ1))) : WS G eX8_cases (d + 1) Z Q 213 [vR (8, 0, 0), vI v1, vI v2, vI v3, vN, vI v5, vN] [vI s0] μ := WS.go okX8_cases 112 h
set_option maxRecDepth 100000 in
set_option maxHeartbeats 4000000 in
theorem wX8_write {G : xG} {d : Nat} {a0 : Int32} {a1 : Int32} {a2 : Int32} {a3 : Int32} {a4 : Int32} {μ : xM} {Q : xP} (h : MW G d mX4_isFull [vR (3, 0, 0)] μ (xrI fun x2 μ1 => xif (x2 = 0) (MW G d mX3_record [vR (5, 0, 0), vR (4, 0, 0)] μ1 (xrV fun μ3 => MW G d mX4_addLine [vR (3, 0, 0), vI a0, vI a1, vI a2, vI a3, vI a4] μ3 (xrI fun x5 μ4 => Q (some (vI x5)) μ4))) (Q (some (vI (-4 : Int32))) μ1))) : MW G (d + 1) mX8_write [vR (8, 0, 0), vI a0, vI a1, vI a2, vI a3, vI a4] μ Q := MW.of (E := eX8_write) okX8_write (Nat.le_of_ble_eq_true rfl) fun Z => WS.go okX8_write 27 h
set_option maxRecDepth 100000 in
set_option maxHeartbeats 4000000 in
theorem wX8_writeMade {G : xG} {d : Nat} {a0 : Int32} {a1 : Int32} {a2 : Int32} {a3 : Int32} {a4 : Int32} {a5 : Int32} {μ : xM} {Q : xP} (h : MW G d mX4_isFull [vR (3, 0, 0)] μ (xrI fun x2 μ1 => xif (x2 = 0) (MW G d mX2_hasRoomFor [vR (2, 0, 0), vI a1, vI a2, vI a3] μ1 (xrI fun x4 μ3 => xif (x4 = 0) (Q (some (vI (-4 : Int32))) μ3) (MW G d mX3_record [vR (5, 0, 0), vR (4, 0, 0)] μ3 (xrV fun μ5 => MW G d mX2_make [vR (2, 0, 0), vI a1, vI a2, vI a3] μ5 (xrI fun x7 μ6 => MW G d mX4_addLine [vR (3, 0, 0), vI a0, vI x7, vI a4, vI a5, vI (-6 : Int32)] μ6 (xrI fun x9 μ8 => Q (some (vI x9)) μ8)))))) (Q (some (vI (-4 : Int32))) μ1))) : MW G (d + 1) mX8_writeMade [vR (8, 0, 0), vI a0, vI a1, vI a2, vI a3, vI a4, vI a5] μ Q := MW.of (E := eX8_writeMade) okX8_writeMade (Nat.le_of_ble_eq_true rfl) fun Z => WS.go okX8_writeMade 43 h
set_option maxRecDepth 100000 in
set_option maxHeartbeats 4000000 in
theorem wX8_lines {G : xG} {d : Nat} {μ : xM} {Q : xP} (h : Q (some (vI ((μ (3, 0, 0) 0)))) μ) : MW G (d + 1) mX8_lines [vR (8, 0, 0)] μ Q := MW.of (E := eX8_lines) okX8_lines (Nat.le_of_ble_eq_true rfl) fun Z => WS.go okX8_lines 10 h
set_option maxRecDepth 100000 in
set_option maxHeartbeats 4000000 in
theorem wX8_line {G : xG} {d : Nat} {a0 : Int32} {a1 : Int32} {μ : xM} {Q : xP} (h : MW G d mX4_hasLine [vR (3, 0, 0), vI a0] μ (xrI fun x2 μ1 => xif (x2 = 0) (Q (some (vI (-1 : Int32))) μ1) ((a1 = 0 → MW G d mX5_get [vR (0, 0, 3), vI a0] μ1 (xrI fun x4 μ3 => Q (some (vI x4)) μ3)) ∧ (¬ a1 = 0 → (a1 = 1 → MW G d mX5_get [vR (0, 0, 4), vI a0] μ1 (xrI fun x6 μ5 => Q (some (vI x6)) μ5)) ∧ (¬ a1 = 1 → (a1 = 2 → MW G d mX5_get [vR (0, 0, 5), vI a0] μ1 (xrI fun x8 μ7 => Q (some (vI x8)) μ7)) ∧ (¬ a1 = 2 → (a1 = 3 → MW G d mX5_get [vR (0, 0, 5), vI a0] μ1 (xrI fun x10 μ9 => MW G d mX4_nesting [vR (3, 0, 0), vI x10] μ9 (xrI fun x12 μ11 => Q (some (vI x12)) μ11))) ∧ (¬ a1 = 3 → (a1 = 4 → MW G d mX4_isLineAvailable [vR (3, 0, 0), vI a0] μ1 (xrI fun x14 μ13 => xif (x14 = 0) (Q (some (vI (0 : Int32))) μ13) (Q (some (vI (1 : Int32))) μ13))) ∧ (¬ a1 = 4 → (a1 = 5 → MW G d mX4_countUsers [vR (3, 0, 0), vI a0] μ1 (xrI fun x16 μ15 => Q (some (vI x16)) μ15)) ∧ (¬ a1 = 5 → Q (some (vI (-2 : Int32))) μ1))))))))) : MW G (d + 1) mX8_line [vR (8, 0, 0), vI a0, vI a1] μ Q := MW.of (E := eX8_line) okX8_line (Nat.le_of_ble_eq_true rfl) fun Z => WS.go okX8_line 65 h
set_option maxRecDepth 100000 in
set_option maxHeartbeats 4000000 in
theorem wX8_reference {G : xG} {d : Nat} {a0 : Int32} {a1 : Int32} {μ : xM} {Q : xP} (h : MW G d mX4_hasLine [vR (3, 0, 0), vI a0] μ (xrI fun x2 μ1 => xif (x2 = 0) (Q (some (vI (-1 : Int32))) μ1) (MW G d mX4_referenceAt [vR (3, 0, 0), vI a0, vI a1] μ1 (xrI fun x4 μ3 => xif (x4 = (-6 : Int32)) (Q (some (vI (-1 : Int32))) μ3) (Q (some (vI x4)) μ3))))) : MW G (d + 1) mX8_reference [vR (8, 0, 0), vI a0, vI a1] μ Q := MW.of (E := eX8_reference) okX8_reference (Nat.le_of_ble_eq_true rfl) fun Z => WS.go okX8_reference 27 h
set_option maxRecDepth 100000 in
set_option maxHeartbeats 4000000 in
theorem wX8_boxes {G : xG} {d : Nat} {μ : xM} {Q : xP} (h : Q (some (vI ((μ (3, 0, 0) 1)))) μ) : MW G (d + 1) mX8_boxes [vR (8, 0, 0)] μ Q := MW.of (E := eX8_boxes) okX8_boxes (Nat.le_of_ble_eq_true rfl) fun Z => WS.go okX8_boxes 10 h
set_option maxRecDepth 100000 in
set_option maxHeartbeats 4000000 in
theorem wX8_box {G : xG} {d : Nat} {a0 : Int32} {a1 : Int32} {μ : xM} {Q : xP} (h : MW G d mX4_hasBox [vR (3, 0, 0), vI a0] μ (xrI fun x2 μ1 => xif (x2 = 0) (Q (some (vI (-1 : Int32))) μ1) ((a1 = 0 → MW G d mX5_get [vR (0, 0, 9), vI a0] μ1 (xrI fun x4 μ3 => Q (some (vI x4)) μ3)) ∧ (¬ a1 = 0 → (a1 = 1 → MW G d mX5_get [vR (0, 0, 10), vI a0] μ1 (xrI fun x6 μ5 => Q (some (vI x6)) μ5)) ∧ (¬ a1 = 1 → (a1 = 2 → MW G d mX5_get [vR (0, 0, 11), vI a0] μ1 (xrI fun x8 μ7 => Q (some (vI x8)) μ7)) ∧ (¬ a1 = 2 → (a1 = 3 → MW G d mX4_isBoxAvailable [vR (3, 0, 0), vI a0] μ1 (xrI fun x10 μ9 => xif (x10 = 0) (Q (some (vI (0 : Int32))) μ9) (Q (some (vI (1 : Int32))) μ9))) ∧ (¬ a1 = 3 → Q (some (vI (-2 : Int32))) μ1))))))) : MW G (d + 1) mX8_box [vR (8, 0, 0), vI a0, vI a1] μ Q := MW.of (E := eX8_box) okX8_box (Nat.le_of_ble_eq_true rfl) fun Z => WS.go okX8_box 48 h
set_option maxRecDepth 100000 in
set_option maxHeartbeats 4000000 in
theorem wX8_depth {G : xG} {d : Nat} {μ : xM} {Q : xP} (h : MW G d mX4_nesting [vR (3, 0, 0), vI (μ (3, 0, 0) 2)] μ (xrI fun x2 μ1 => Q (some (vI x2)) μ1)) : MW G (d + 1) mX8_depth [vR (8, 0, 0)] μ Q := MW.of (E := eX8_depth) okX8_depth (Nat.le_of_ble_eq_true rfl) fun Z => WS.go okX8_depth 14 h
set_option maxRecDepth 100000 in
set_option maxHeartbeats 4000000 in
theorem wX8_needs {G : xG} {d : Nat} {a0 : Int32} {μ : xM} {Q : xP} (h : MW G d mX4_hasLine [vR (3, 0, 0), vI a0] μ (xrI fun x2 μ1 => xif (x2 = 0) (Q (some (vL (-1 : Int64))) μ1) (MW G d mX4_allNeeds [vR (3, 0, 0), vI a0] μ1 (xrL fun y4 μ3 => Q (some (vL y4)) μ3)))) : MW G (d + 1) mX8_needs [vR (8, 0, 0), vI a0] μ Q := MW.of (E := eX8_needs) okX8_needs (Nat.le_of_ble_eq_true rfl) fun Z => WS.go okX8_needs 19 h
set_option maxRecDepth 100000 in
set_option maxHeartbeats 4000000 in
theorem wX8_bypass {G : xG} {d : Nat} {a0 : Int32} {μ : xM} {Q : xP} (h : MW G d mX4_hasLine [vR (3, 0, 0), vI a0] μ (xrI fun x2 μ1 => xif (x2 = 0) (Q (some (vI (-1 : Int32))) μ1) (MW G d mX4_bypassOf [vR (3, 0, 0), vI a0] μ1 (xrI fun x4 μ3 => Q (some (vI x4)) μ3)))) : MW G (d + 1) mX8_bypass [vR (8, 0, 0), vI a0] μ Q := MW.of (E := eX8_bypass) okX8_bypass (Nat.le_of_ble_eq_true rfl) fun Z => WS.go okX8_bypass 19 h
set_option maxRecDepth 100000 in
set_option maxHeartbeats 4000000 in
theorem wX8_detours {G : xG} {d : Nat} {μ : xM} {Q : xP} (h : MW G d mX4_countDetours [vR (3, 0, 0)] μ (xrI fun x2 μ1 => Q (some (vI x2)) μ1)) : MW G (d + 1) mX8_detours [vR (8, 0, 0)] μ Q := MW.of (E := eX8_detours) okX8_detours (Nat.le_of_ble_eq_true rfl) fun Z => WS.go okX8_detours 10 h
set_option maxRecDepth 100000 in
set_option maxHeartbeats 4000000 in
theorem wX8_failure {G : xG} {d : Nat} {a0 : Int32} {μ : xM} {Q : xP} (h : MW G d mX4_hasLine [vR (3, 0, 0), vI a0] μ (xrI fun x2 μ1 => xif (x2 = 0) (Q (some (vI (-1 : Int32))) μ1) (MW G d mX5_get [vR (0, 0, 5), vI a0] μ1 (xrI fun x4 μ3 => MW G d mX5_get [vR (0, 0, 3), vI a0] μ3 (xrI fun x6 μ5 => MW G d mX8_lowestFailure [vR (8, 0, 0), vI x4, vI x6] μ5 (xrI fun x8 μ7 => Q (some (vI x8)) μ7)))))) : MW G (d + 1) mX8_failure [vR (8, 0, 0), vI a0] μ Q := MW.of (E := eX8_failure) okX8_failure (Nat.le_of_ble_eq_true rfl) fun Z => WS.go okX8_failure 28 h
set_option maxRecDepth 100000 in
set_option maxHeartbeats 4000000 in
theorem wX8_counterexample {G : xG} {d : Nat} {a0 : Int32} {μ : xM} {Q : xP} (h : MW G d mX2_has [vR (2, 0, 0), vI a0] μ (xrI fun x2 μ1 => xif (x2 = 0) (Q (some (vI (-1 : Int32))) μ1) (MW G d mX8_lowestFailure [vR (8, 0, 0), vI (μ1 (3, 0, 0) 2), vI a0] μ1 (xrI fun x4 μ3 => Q (some (vI x4)) μ3)))) : MW G (d + 1) mX8_counterexample [vR (8, 0, 0), vI a0] μ Q := MW.of (E := eX8_counterexample) okX8_counterexample (Nat.le_of_ble_eq_true rfl) fun Z => WS.go okX8_counterexample 21 h
set_option maxRecDepth 100000 in
set_option maxHeartbeats 4000000 in
theorem wX8_lowestFailure {G : xG} {d : Nat} {a0 : Int32} {a1 : Int32} {μ : xM} {Q : xP} (h : ∀ Z : xZ, WS G eX8_lowestFailure (d + 1) Z Q 2 [vR (8, 0, 0), vI a0, vI a1, vI (0 : Int32), vN] [] μ) : MW G (d + 1) mX8_lowestFailure [vR (8, 0, 0), vI a0, vI a1] μ Q := MW.of (E := eX8_lowestFailure) okX8_lowestFailure (Nat.le_of_ble_eq_true rfl) fun Z => WS.go okX8_lowestFailure 45 (h Z)
set_option maxRecDepth 100000 in
set_option maxHeartbeats 4000000 in
theorem wX8_lowestFailure_2 {G : xG} {d : Nat} {Z : xZ} {v1 : Int32} {v2 : Int32} {v3 : Int32} {μ : xM} {Q : xP} (h : xif ((8 : Int32) ≤ v3) (Q (some (vI (-6 : Int32))) μ) (MW G d mX2_evaluate [vR (2, 0, 0), vI v3, vR (0, 0, 13)] μ (xrV fun μ1 => MW G d mX4_allowedValuations [vR (3, 0, 0), vI v1, vR (0, 0, 13)] μ1 (xrI fun x3 μ2 => MW G d mX5_get [vR (0, 0, 13), vI v2] μ2 (xrI fun x5 μ4 => xif ((x3 &&& (x5 ^^^ (-1 : Int32))) = 0) (WS G eX8_lowestFailure (d + 1) Z Q 2 [vR (8, 0, 0), vI v1, vI v2, vI (v3 + (1 : Int32)), vN] [] μ4) (MW G d mX8_lowestBit [vI (x3 &&& (x5 ^^^ (-1 : Int32)))] μ4 (xrI fun x7 μ6 => Q (some (vI (((v3 * (32 : Int32)) + x7)))) μ6))))))) : WS G eX8_lowestFailure (d + 1) Z Q 2 [vR (8, 0, 0), vI v1, vI v2, vI v3, vN] [] μ := WS.go okX8_lowestFailure 45 h
set_option maxRecDepth 100000 in
set_option maxHeartbeats 4000000 in
theorem wX8_lowestBit {G : xG} {d : Nat} {a0 : Int32} {μ : xM} {Q : xP} (h : MW G d mJ6_bitCount_0f7a4 [vI ((a0 &&& (-a0)) - (1 : Int32))] μ (xrI fun x2 μ1 => Q (some (vI x2)) μ1)) : MW G (d + 1) mX8_lowestBit [vI a0] μ Q := MW.of (E := eX8_lowestBit) okX8_lowestBit (Nat.le_of_ble_eq_true rfl) fun Z => WS.go okX8_lowestBit 13 h
set_option maxRecDepth 100000 in
set_option maxHeartbeats 4000000 in
theorem wX8_shorten {G : xG} {d : Nat} {μ : xM} {Q : xP} (h : MW G d mX3_record [vR (5, 0, 0), vR (4, 0, 0)] μ (xrV fun μ1 => MW G d mX4_bypassDetours [vR (3, 0, 0)] μ1 (xrI fun x3 μ2 => Q (some (vI x3)) μ2))) : MW G (d + 1) mX8_shorten [vR (8, 0, 0)] μ Q := MW.of (E := eX8_shorten) okX8_shorten (Nat.le_of_ble_eq_true rfl) fun Z => WS.go okX8_shorten 15 h
set_option maxRecDepth 100000 in
set_option maxHeartbeats 4000000 in
theorem wX8_trim {G : xG} {d : Nat} {a0 : Int32} {μ : xM} {Q : xP} (h : MW G d mX4_hasLine [vR (3, 0, 0), vI a0] μ (xrI fun x2 μ1 => xif (x2 = 0) (Q (some (vI (-1 : Int32))) μ1) (xif ((μ1 (3, 0, 0) 2) = (-6 : Int32)) (MW G d mX5_get [vR (0, 0, 5), vI a0] μ1 (xrI fun x4 μ3 => xif (x4 = (-6 : Int32)) (MW G d mX3_record [vR (5, 0, 0), vR (4, 0, 0)] μ3 (xrV fun μ5 => MW G d mX4_allNeeds [vR (3, 0, 0), vI a0] μ5 (xrL fun y7 μ6 => MW G d mX4_keepOnly [vR (3, 0, 0), vL y7] μ6 (xrI fun x9 μ8 => Q (some (vI x9)) μ8)))) (Q (some (vI (-3 : Int32))) μ3))) (Q (some (vI (-3 : Int32))) μ1)))) : MW G (d + 1) mX8_trim [vR (8, 0, 0), vI a0] μ Q := MW.of (E := eX8_trim) okX8_trim (Nat.le_of_ble_eq_true rfl) fun Z => WS.go okX8_trim 44 h
set_option maxRecDepth 100000 in
set_option maxHeartbeats 4000000 in
theorem wX8_append {G : xG} {d : Nat} {a0 : Int32} {μ : xM} {Q : xP} (h : xif (a0 < (33 : Int32)) (Q (some (vI (-2 : Int32))) μ) (xif (a0 ≤ (126 : Int32)) (xif ((μ (6, 0, 0) 0) < (70 : Int32)) (MW G d mX0_add [vR (6, 0, 0), vI a0] μ (xrV fun μ1 => Q (some (vI ((μ1 (6, 0, 0) 0)))) μ1)) (Q (some (vI (-4 : Int32))) μ)) (Q (some (vI (-2 : Int32))) μ))) : MW G (d + 1) mX8_append [vR (8, 0, 0), vI a0] μ Q := MW.of (E := eX8_append) okX8_append (Nat.le_of_ble_eq_true rfl) fun Z => WS.go okX8_append 28 h
set_option maxRecDepth 100000 in
set_option maxHeartbeats 4000000 in
theorem wX8_clearText {G : xG} {d : Nat} {μ : xM} {Q : xP} (h : Q (some (vI ((μ (6, 0, 0) 0)))) (xst μ (6, 0, 0) 0 (0 : Int32))) : MW G (d + 1) mX8_clearText [vR (8, 0, 0)] μ Q := MW.of (E := eX8_clearText) okX8_clearText (Nat.le_of_ble_eq_true rfl) fun Z => WS.go okX8_clearText 15 h
set_option maxRecDepth 100000 in
set_option maxHeartbeats 4000000 in
theorem wX8_errorPosition {G : xG} {d : Nat} {μ : xM} {Q : xP} (h : MW G d mX0_firstError [vR (6, 0, 0)] μ (xrI fun x2 μ1 => Q (some (vI x2)) μ1)) : MW G (d + 1) mX8_errorPosition [vR (8, 0, 0)] μ Q := MW.of (E := eX8_errorPosition) okX8_errorPosition (Nat.le_of_ble_eq_true rfl) fun Z => WS.go okX8_errorPosition 9 h
set_option maxRecDepth 100000 in
set_option maxHeartbeats 4000000 in
theorem wX8_read {G : xG} {d : Nat} {μ : xM} {Q : xP} (h : MW G d mX0_firstError [vR (6, 0, 0)] μ (xrI fun x2 μ1 => xif (x2 = (-6 : Int32)) (MW G d mX2_copyFrom [vR (2, 7, 0), vR (2, 0, 0)] μ1 (xrV fun μ3 => MW G d mX1_build [vR (7, 0, 0), vR (6, 0, 0), vR (2, 7, 0)] μ3 (xrI fun x5 μ4 => xif (0 ≤ x5) (MW G d mX3_record [vR (5, 0, 0), vR (4, 0, 0)] μ4 (xrV fun μ6 => MW G d mX2_copyFrom [vR (2, 0, 0), vR (2, 7, 0)] μ6 (xrV fun μ7 => Q (some (vI x5)) (xst μ7 (6, 0, 0) 0 (0 : Int32))))) (Q (some (vI (-4 : Int32))) μ4)))) (Q (some (vI (-5 : Int32))) μ1))) : MW G (d + 1) mX8_read [vR (8, 0, 0)] μ Q := MW.of (E := eX8_read) okX8_read (Nat.le_of_ble_eq_true rfl) fun Z => WS.go okX8_read 47 h
set_option maxRecDepth 100000 in
set_option maxHeartbeats 4000000 in
theorem wX8_undo {G : xG} {d : Nat} {μ : xM} {Q : xP} (h : xif ((μ (5, 0, 0) 0) = 0) (Q (some (vI (-3 : Int32))) μ) (MW G d mX3_takeBack [vR (5, 0, 0), vR (4, 0, 0)] μ (xrV fun μ1 => Q (some (vI ((μ1 (5, 0, 0) 0)))) μ1))) : MW G (d + 1) mX8_undo [vR (8, 0, 0)] μ Q := MW.of (E := eX8_undo) okX8_undo (Nat.le_of_ble_eq_true rfl) fun Z => WS.go okX8_undo 20 h
set_option maxRecDepth 100000 in
set_option maxHeartbeats 4000000 in
theorem wX8_save {G : xG} {d : Nat} {μ : xM} {Q : xP} (h : MW G d mX7_copyFrom [vR (4, 1, 0), vR (4, 0, 0)] μ (xrV fun μ1 => ((1 : Int32) = 0 ∨ (1 : Int32) = 1) ∧ Q (some (vI (((xst μ1 (8, 0, 0) 8 (1 : Int32)) (3, 0, 0) 0)))) (xst μ1 (8, 0, 0) 8 (1 : Int32)))) : MW G (d + 1) mX8_save [vR (8, 0, 0)] μ Q := MW.of (E := eX8_save) okX8_save (Nat.le_of_ble_eq_true rfl) fun Z => WS.go okX8_save 18 h
set_option maxRecDepth 100000 in
set_option maxHeartbeats 4000000 in
theorem wX8_restore {G : xG} {d : Nat} {μ : xM} {Q : xP} (h : xif ((μ (8, 0, 0) 8) = 0) (Q (some (vI (-3 : Int32))) μ) (MW G d mX3_record [vR (5, 0, 0), vR (4, 0, 0)] μ (xrV fun μ1 => MW G d mX7_copyFrom [vR (4, 0, 0), vR (4, 1, 0)] μ1 (xrV fun μ2 => Q (some (vI ((μ2 (3, 0, 0) 0)))) μ2)))) : MW G (d + 1) mX8_restore [vR (8, 0, 0)] μ Q := MW.of (E := eX8_restore) okX8_restore (Nat.le_of_ble_eq_true rfl) fun Z => WS.go okX8_restore 25 h
set_option maxRecDepth 100000 in
set_option maxHeartbeats 4000000 in
theorem wJ6_bitCount_0f7a4 {G : xG} {d : Nat} {a0 : Int32} {μ : xM} {Q : xP} (h : Q (some (vI (((((((((a0 - ((xiu a0 (1 : Int32)) &&& (1431655765 : Int32))) &&& (858993459 : Int32)) + ((xiu ((a0 - ((xiu a0 (1 : Int32)) &&& (1431655765 : Int32)))) (2 : Int32)) &&& (858993459 : Int32))) + (xiu ((((a0 - ((xiu a0 (1 : Int32)) &&& (1431655765 : Int32))) &&& (858993459 : Int32)) + ((xiu ((a0 - ((xiu a0 (1 : Int32)) &&& (1431655765 : Int32)))) (2 : Int32)) &&& (858993459 : Int32)))) (4 : Int32))) &&& (252645135 : Int32)) + (xiu ((((((a0 - ((xiu a0 (1 : Int32)) &&& (1431655765 : Int32))) &&& (858993459 : Int32)) + ((xiu ((a0 - ((xiu a0 (1 : Int32)) &&& (1431655765 : Int32)))) (2 : Int32)) &&& (858993459 : Int32))) + (xiu ((((a0 - ((xiu a0 (1 : Int32)) &&& (1431655765 : Int32))) &&& (858993459 : Int32)) + ((xiu ((a0 - ((xiu a0 (1 : Int32)) &&& (1431655765 : Int32)))) (2 : Int32)) &&& (858993459 : Int32)))) (4 : Int32))) &&& (252645135 : Int32))) (8 : Int32))) + (xiu (((((((a0 - ((xiu a0 (1 : Int32)) &&& (1431655765 : Int32))) &&& (858993459 : Int32)) + ((xiu ((a0 - ((xiu a0 (1 : Int32)) &&& (1431655765 : Int32)))) (2 : Int32)) &&& (858993459 : Int32))) + (xiu ((((a0 - ((xiu a0 (1 : Int32)) &&& (1431655765 : Int32))) &&& (858993459 : Int32)) + ((xiu ((a0 - ((xiu a0 (1 : Int32)) &&& (1431655765 : Int32)))) (2 : Int32)) &&& (858993459 : Int32)))) (4 : Int32))) &&& (252645135 : Int32)) + (xiu ((((((a0 - ((xiu a0 (1 : Int32)) &&& (1431655765 : Int32))) &&& (858993459 : Int32)) + ((xiu ((a0 - ((xiu a0 (1 : Int32)) &&& (1431655765 : Int32)))) (2 : Int32)) &&& (858993459 : Int32))) + (xiu ((((a0 - ((xiu a0 (1 : Int32)) &&& (1431655765 : Int32))) &&& (858993459 : Int32)) + ((xiu ((a0 - ((xiu a0 (1 : Int32)) &&& (1431655765 : Int32)))) (2 : Int32)) &&& (858993459 : Int32)))) (4 : Int32))) &&& (252645135 : Int32))) (8 : Int32)))) (16 : Int32))) &&& (63 : Int32))))) μ) : MW G (d + 1) mJ6_bitCount_0f7a4 [vI a0] μ Q := MW.of (E := eJ6_bitCount_0f7a4) okJ6_bitCount_0f7a4 (Nat.le_of_ble_eq_true rfl) fun Z => WS.go okJ6_bitCount_0f7a4 47 h
set_option maxRecDepth 100000 in
set_option maxHeartbeats 4000000 in
theorem wJ13_bitCount_95d88 {G : xG} {d : Nat} {a0 : Int64} {μ : xM} {Q : xP} (h : Q (some (vI (((Int64.toInt32 (((((((((a0 - ((xlu a0 (1 : Int32)) &&& (6148914691236517205 : Int64))) &&& (3689348814741910323 : Int64)) + ((xlu ((a0 - ((xlu a0 (1 : Int32)) &&& (6148914691236517205 : Int64)))) (2 : Int32)) &&& (3689348814741910323 : Int64))) + (xlu ((((a0 - ((xlu a0 (1 : Int32)) &&& (6148914691236517205 : Int64))) &&& (3689348814741910323 : Int64)) + ((xlu ((a0 - ((xlu a0 (1 : Int32)) &&& (6148914691236517205 : Int64)))) (2 : Int32)) &&& (3689348814741910323 : Int64)))) (4 : Int32))) &&& (1085102592571150095 : Int64)) + (xlu ((((((a0 - ((xlu a0 (1 : Int32)) &&& (6148914691236517205 : Int64))) &&& (3689348814741910323 : Int64)) + ((xlu ((a0 - ((xlu a0 (1 : Int32)) &&& (6148914691236517205 : Int64)))) (2 : Int32)) &&& (3689348814741910323 : Int64))) + (xlu ((((a0 - ((xlu a0 (1 : Int32)) &&& (6148914691236517205 : Int64))) &&& (3689348814741910323 : Int64)) + ((xlu ((a0 - ((xlu a0 (1 : Int32)) &&& (6148914691236517205 : Int64)))) (2 : Int32)) &&& (3689348814741910323 : Int64)))) (4 : Int32))) &&& (1085102592571150095 : Int64))) (8 : Int32))) + (xlu (((((((a0 - ((xlu a0 (1 : Int32)) &&& (6148914691236517205 : Int64))) &&& (3689348814741910323 : Int64)) + ((xlu ((a0 - ((xlu a0 (1 : Int32)) &&& (6148914691236517205 : Int64)))) (2 : Int32)) &&& (3689348814741910323 : Int64))) + (xlu ((((a0 - ((xlu a0 (1 : Int32)) &&& (6148914691236517205 : Int64))) &&& (3689348814741910323 : Int64)) + ((xlu ((a0 - ((xlu a0 (1 : Int32)) &&& (6148914691236517205 : Int64)))) (2 : Int32)) &&& (3689348814741910323 : Int64)))) (4 : Int32))) &&& (1085102592571150095 : Int64)) + (xlu ((((((a0 - ((xlu a0 (1 : Int32)) &&& (6148914691236517205 : Int64))) &&& (3689348814741910323 : Int64)) + ((xlu ((a0 - ((xlu a0 (1 : Int32)) &&& (6148914691236517205 : Int64)))) (2 : Int32)) &&& (3689348814741910323 : Int64))) + (xlu ((((a0 - ((xlu a0 (1 : Int32)) &&& (6148914691236517205 : Int64))) &&& (3689348814741910323 : Int64)) + ((xlu ((a0 - ((xlu a0 (1 : Int32)) &&& (6148914691236517205 : Int64)))) (2 : Int32)) &&& (3689348814741910323 : Int64)))) (4 : Int32))) &&& (1085102592571150095 : Int64))) (8 : Int32)))) (16 : Int32))) + (xlu ((((((((a0 - ((xlu a0 (1 : Int32)) &&& (6148914691236517205 : Int64))) &&& (3689348814741910323 : Int64)) + ((xlu ((a0 - ((xlu a0 (1 : Int32)) &&& (6148914691236517205 : Int64)))) (2 : Int32)) &&& (3689348814741910323 : Int64))) + (xlu ((((a0 - ((xlu a0 (1 : Int32)) &&& (6148914691236517205 : Int64))) &&& (3689348814741910323 : Int64)) + ((xlu ((a0 - ((xlu a0 (1 : Int32)) &&& (6148914691236517205 : Int64)))) (2 : Int32)) &&& (3689348814741910323 : Int64)))) (4 : Int32))) &&& (1085102592571150095 : Int64)) + (xlu ((((((a0 - ((xlu a0 (1 : Int32)) &&& (6148914691236517205 : Int64))) &&& (3689348814741910323 : Int64)) + ((xlu ((a0 - ((xlu a0 (1 : Int32)) &&& (6148914691236517205 : Int64)))) (2 : Int32)) &&& (3689348814741910323 : Int64))) + (xlu ((((a0 - ((xlu a0 (1 : Int32)) &&& (6148914691236517205 : Int64))) &&& (3689348814741910323 : Int64)) + ((xlu ((a0 - ((xlu a0 (1 : Int32)) &&& (6148914691236517205 : Int64)))) (2 : Int32)) &&& (3689348814741910323 : Int64)))) (4 : Int32))) &&& (1085102592571150095 : Int64))) (8 : Int32))) + (xlu (((((((a0 - ((xlu a0 (1 : Int32)) &&& (6148914691236517205 : Int64))) &&& (3689348814741910323 : Int64)) + ((xlu ((a0 - ((xlu a0 (1 : Int32)) &&& (6148914691236517205 : Int64)))) (2 : Int32)) &&& (3689348814741910323 : Int64))) + (xlu ((((a0 - ((xlu a0 (1 : Int32)) &&& (6148914691236517205 : Int64))) &&& (3689348814741910323 : Int64)) + ((xlu ((a0 - ((xlu a0 (1 : Int32)) &&& (6148914691236517205 : Int64)))) (2 : Int32)) &&& (3689348814741910323 : Int64)))) (4 : Int32))) &&& (1085102592571150095 : Int64)) + (xlu ((((((a0 - ((xlu a0 (1 : Int32)) &&& (6148914691236517205 : Int64))) &&& (3689348814741910323 : Int64)) + ((xlu ((a0 - ((xlu a0 (1 : Int32)) &&& (6148914691236517205 : Int64)))) (2 : Int32)) &&& (3689348814741910323 : Int64))) + (xlu ((((a0 - ((xlu a0 (1 : Int32)) &&& (6148914691236517205 : Int64))) &&& (3689348814741910323 : Int64)) + ((xlu ((a0 - ((xlu a0 (1 : Int32)) &&& (6148914691236517205 : Int64)))) (2 : Int32)) &&& (3689348814741910323 : Int64)))) (4 : Int32))) &&& (1085102592571150095 : Int64))) (8 : Int32)))) (16 : Int32)))) (32 : Int32))))) &&& (127 : Int32))))) μ) : MW G (d + 1) mJ13_bitCount_95d88 [vL a0] μ Q := MW.of (E := eJ13_bitCount_95d88) okJ13_bitCount_95d88 (Nat.le_of_ble_eq_true rfl) fun Z => WS.go okJ13_bitCount_95d88 54 h
end
section
/-! THE METHODS AS CONDITIONS, by program: each held against the small machine -/
set_option maxRecDepth 100000 in
set_option maxHeartbeats 4000000 in
theorem wX9_in {G : xG} {d : Nat} {a0 : Int32} {a1 : Int32} {a2 : Int32} {μ : xM} {Q : xP} (h : xif (a0 < a1) (((0 : Int32) = 0 ∨ (0 : Int32) = 1) ∧ Q (some (vI (0 : Int32))) μ) (xif (a2 < a0) (((0 : Int32) = 0 ∨ (0 : Int32) = 1) ∧ Q (some (vI (0 : Int32))) μ) (((1 : Int32) = 0 ∨ (1 : Int32) = 1) ∧ Q (some (vI (1 : Int32))) μ))) : MW G (d + 1) mX9_in [vI a0, vI a1, vI a2] μ Q := MW.of (E := eX9_in) okX9_in (Nat.le_of_ble_eq_true rfl) fun Z => WS.go okX9_in 15 h
set_option maxRecDepth 100000 in
set_option maxHeartbeats 4000000 in
theorem wX9_record {G : xG} {d : Nat} {μ : xM} {Q : xP} (h : ∀ Z : xZ, xif ((μ (9, 0, 0) 2) = (5 : Int32)) (WS G eX9_record (d + 1) Z Q 10 [vR (9, 0, 0), vI (0 : Int32)] [] μ) (WS G eX9_record (d + 1) Z Q 51 [vR (9, 0, 0), vI (0 : Int32)] [] μ)) : MW G (d + 1) mX9_record [vR (9, 0, 0)] μ Q := MW.of (E := eX9_record) okX9_record (Nat.le_of_ble_eq_true rfl) fun Z => WS.go okX9_record 59 (h Z)
set_option maxRecDepth 100000 in
set_option maxHeartbeats 4000000 in
theorem wX9_record_10 {G : xG} {d : Nat} {Z : xZ} {v1 : Int32} {μ : xM} {Q : xP} (h : xif ((2460 : Int32) ≤ v1) (WS G eX9_record (d + 1) Z Q 51 [vR (9, 0, 0), vI (0 : Int32)] [] (xst μ (9, 0, 0) 2 (((μ (9, 0, 0) 2) - (1 : Int32))))) (vp_in ((v1 + (615 : Int32))) 3075 ∧ vp_in v1 3075 ∧ WS G eX9_record (d + 1) Z Q 10 [vR (9, 0, 0), vI (v1 + (1 : Int32))] [] (xst μ (1, 0, 21) v1.toNatClampNeg ((μ (1, 0, 21) ((v1 + (615 : Int32))).toNatClampNeg))))) : WS G eX9_record (d + 1) Z Q 10 [vR (9, 0, 0), vI v1] [] μ := WS.go okX9_record 59 h
set_option maxRecDepth 100000 in
set_option maxHeartbeats 4000000 in
theorem wX9_record_51 {G : xG} {d : Nat} {Z : xZ} {v1 : Int32} {μ : xM} {Q : xP} (h : xif ((615 : Int32) ≤ v1) (Q none (xst μ (9, 0, 0) 2 (((μ (9, 0, 0) 2) + (1 : Int32))))) (vp_in v1 615 ∧ vp_in ((((μ (9, 0, 0) 2) * (615 : Int32)) + v1)) 3075 ∧ WS G eX9_record (d + 1) Z Q 51 [vR (9, 0, 0), vI (v1 + (1 : Int32))] [] (xst μ (1, 0, 21) ((((μ (9, 0, 0) 2) * (615 : Int32)) + v1)).toNatClampNeg ((μ (1, 0, 20) v1.toNatClampNeg))))) : WS G eX9_record (d + 1) Z Q 51 [vR (9, 0, 0), vI v1] [] μ := WS.go okX9_record 59 h
set_option maxRecDepth 100000 in
set_option maxHeartbeats 4000000 in
theorem wX9_undo {G : xG} {d : Nat} {μ : xM} {Q : xP} (h : ∀ Z : xZ, xif ((μ (9, 0, 0) 2) = 0) (Q (some (vI (-3 : Int32))) μ) (WS G eX9_undo (d + 1) Z Q 22 [vR (9, 0, 0), vI (0 : Int32)] [] (xst μ (9, 0, 0) 2 (((μ (9, 0, 0) 2) - (1 : Int32)))))) : MW G (d + 1) mX9_undo [vR (9, 0, 0)] μ Q := MW.of (E := eX9_undo) okX9_undo (Nat.le_of_ble_eq_true rfl) fun Z => WS.go okX9_undo 39 (h Z)
set_option maxRecDepth 100000 in
set_option maxHeartbeats 4000000 in
theorem wX9_undo_22 {G : xG} {d : Nat} {Z : xZ} {v1 : Int32} {μ : xM} {Q : xP} (h : xif ((615 : Int32) ≤ v1) (Q (some (vI ((μ (9, 0, 0) 2)))) μ) (vp_in ((((μ (9, 0, 0) 2) * (615 : Int32)) + v1)) 3075 ∧ vp_in v1 615 ∧ WS G eX9_undo (d + 1) Z Q 22 [vR (9, 0, 0), vI (v1 + (1 : Int32))] [] (xst μ (1, 0, 20) v1.toNatClampNeg ((μ (1, 0, 21) ((((μ (9, 0, 0) 2) * (615 : Int32)) + v1)).toNatClampNeg))))) : WS G eX9_undo (d + 1) Z Q 22 [vR (9, 0, 0), vI v1] [] μ := WS.go okX9_undo 39 h
set_option maxRecDepth 100000 in
set_option maxHeartbeats 4000000 in
theorem wX9_save {G : xG} {d : Nat} {μ : xM} {Q : xP} (h : ∀ Z : xZ, ((1 : Int32) = 0 ∨ (1 : Int32) = 1) ∧ WS G eX9_save (d + 1) Z Q 7 [vR (9, 0, 0), vI (0 : Int32)] [] (xst μ (9, 0, 0) 4 (1 : Int32))) : MW G (d + 1) mX9_save [vR (9, 0, 0)] μ Q := MW.of (E := eX9_save) okX9_save (Nat.le_of_ble_eq_true rfl) fun Z => WS.go okX9_save 28 (h Z)
set_option maxRecDepth 100000 in
set_option maxHeartbeats 4000000 in
theorem wX9_save_7 {G : xG} {d : Nat} {Z : xZ} {v1 : Int32} {μ : xM} {Q : xP} (h : xif ((615 : Int32) ≤ v1) (vp_in (1 : Int32) 615 ∧ Q (some (vI ((μ (1, 0, 20) (1 : Int32).toNatClampNeg)))) μ) (vp_in v1 615 ∧ vp_in v1 615 ∧ WS G eX9_save (d + 1) Z Q 7 [vR (9, 0, 0), vI (v1 + (1 : Int32))] [] (xst μ (1, 0, 22) v1.toNatClampNeg ((μ (1, 0, 20) v1.toNatClampNeg))))) : WS G eX9_save (d + 1) Z Q 7 [vR (9, 0, 0), vI v1] [] μ := WS.go okX9_save 28 h
set_option maxRecDepth 100000 in
set_option maxHeartbeats 4000000 in
theorem wX9_restore {G : xG} {d : Nat} {μ : xM} {Q : xP} (h : ∀ Z : xZ, xif ((μ (9, 0, 0) 4) = 0) (Q (some (vI (-3 : Int32))) μ) (MW G d mX9_record [vR (9, 0, 0)] μ (xrV fun μ1 => WS G eX9_restore (d + 1) Z Q 16 [vR (9, 0, 0), vI (0 : Int32)] [] μ1))) : MW G (d + 1) mX9_restore [vR (9, 0, 0)] μ Q := MW.of (E := eX9_restore) okX9_restore (Nat.le_of_ble_eq_true rfl) fun Z => WS.go okX9_restore 32 (h Z)
set_option maxRecDepth 100000 in
set_option maxHeartbeats 4000000 in
theorem wX9_restore_16 {G : xG} {d : Nat} {Z : xZ} {v1 : Int32} {μ : xM} {Q : xP} (h : xif ((615 : Int32) ≤ v1) (vp_in (1 : Int32) 615 ∧ Q (some (vI ((μ (1, 0, 20) (1 : Int32).toNatClampNeg)))) μ) (vp_in v1 615 ∧ vp_in v1 615 ∧ WS G eX9_restore (d + 1) Z Q 16 [vR (9, 0, 0), vI (v1 + (1 : Int32))] [] (xst μ (1, 0, 20) v1.toNatClampNeg ((μ (1, 0, 22) v1.toNatClampNeg))))) : WS G eX9_restore (d + 1) Z Q 16 [vR (9, 0, 0), vI v1] [] μ := WS.go okX9_restore 32 h
set_option maxRecDepth 100000 in
set_option maxHeartbeats 4000000 in
theorem wX9_isFormula {G : xG} {d : Nat} {a0 : Int32} {μ : xM} {Q : xP} (h : xif (a0 < 0) (((0 : Int32) = 0 ∨ (0 : Int32) = 1) ∧ Q (some (vI (0 : Int32))) μ) (vp_in (0 : Int32) 615 ∧ xif ((μ (1, 0, 20) (0 : Int32).toNatClampNeg) ≤ a0) (((0 : Int32) = 0 ∨ (0 : Int32) = 1) ∧ Q (some (vI (0 : Int32))) μ) (((1 : Int32) = 0 ∨ (1 : Int32) = 1) ∧ Q (some (vI (1 : Int32))) μ))) : MW G (d + 1) mX9_isFormula [vR (9, 0, 0), vI a0] μ Q := MW.of (E := eX9_isFormula) okX9_isFormula (Nat.le_of_ble_eq_true rfl) fun Z => WS.go okX9_isFormula 17 h
set_option maxRecDepth 100000 in
set_option maxHeartbeats 4000000 in
theorem wX9_kind {G : xG} {d : Nat} {a0 : Int32} {μ : xM} {Q : xP} (h : vp_in (((3 : Int32) + ((3 : Int32) * a0))) 615 ∧ Q (some (vI ((μ (1, 0, 20) (((3 : Int32) + ((3 : Int32) * a0))).toNatClampNeg)))) μ) : MW G (d + 1) mX9_kind [vR (9, 0, 0), vI a0] μ Q := MW.of (E := eX9_kind) okX9_kind (Nat.le_of_ble_eq_true rfl) fun Z => WS.go okX9_kind 14 h
set_option maxRecDepth 100000 in
set_option maxHeartbeats 4000000 in
theorem wX9_left {G : xG} {d : Nat} {a0 : Int32} {μ : xM} {Q : xP} (h : vp_in ((((3 : Int32) + ((3 : Int32) * a0)) + (1 : Int32))) 615 ∧ Q (some (vI ((μ (1, 0, 20) ((((3 : Int32) + ((3 : Int32) * a0)) + (1 : Int32))).toNatClampNeg)))) μ) : MW G (d + 1) mX9_left [vR (9, 0, 0), vI a0] μ Q := MW.of (E := eX9_left) okX9_left (Nat.le_of_ble_eq_true rfl) fun Z => WS.go okX9_left 16 h
set_option maxRecDepth 100000 in
set_option maxHeartbeats 4000000 in
theorem wX9_right {G : xG} {d : Nat} {a0 : Int32} {μ : xM} {Q : xP} (h : vp_in ((((3 : Int32) + ((3 : Int32) * a0)) + (2 : Int32))) 615 ∧ Q (some (vI ((μ (1, 0, 20) ((((3 : Int32) + ((3 : Int32) * a0)) + (2 : Int32))).toNatClampNeg)))) μ) : MW G (d + 1) mX9_right [vR (9, 0, 0), vI a0] μ Q := MW.of (E := eX9_right) okX9_right (Nat.le_of_ble_eq_true rfl) fun Z => WS.go okX9_right 16 h
set_option maxRecDepth 100000 in
set_option maxHeartbeats 4000000 in
theorem wX9_find {G : xG} {d : Nat} {a0 : Int32} {a1 : Int32} {a2 : Int32} {μ : xM} {Q : xP} (h : ∀ Z : xZ, WS G eX9_find (d + 1) Z Q 3 [vR (9, 0, 0), vI a0, vI a1, vI a2, vI (0 : Int32)] [] μ) : MW G (d + 1) mX9_find [vR (9, 0, 0), vI a0, vI a1, vI a2] μ Q := MW.of (E := eX9_find) okX9_find (Nat.le_of_ble_eq_true rfl) fun Z => WS.go okX9_find 34 (h Z)
set_option maxRecDepth 100000 in
set_option maxHeartbeats 4000000 in
theorem wX9_find_3 {G : xG} {d : Nat} {Z : xZ} {v1 : Int32} {v2 : Int32} {v3 : Int32} {v4 : Int32} {μ : xM} {Q : xP} (h : vp_in (0 : Int32) 615 ∧ xif ((μ (1, 0, 20) (0 : Int32).toNatClampNeg) ≤ v4) (Q (some (vI (-6 : Int32))) μ) (MW G d mX9_kind [vR (9, 0, 0), vI v4] μ (xrI fun x2 μ1 => xif (x2 = v1) (MW G d mX9_left [vR (9, 0, 0), vI v4] μ1 (xrI fun x4 μ3 => xif (x4 = v2) (MW G d mX9_right [vR (9, 0, 0), vI v4] μ3 (xrI fun x6 μ5 => xif (x6 = v3) (Q (some (vI v4)) μ5) (WS G eX9_find (d + 1) Z Q 3 [vR (9, 0, 0), vI v1, vI v2, vI v3, vI (v4 + (1 : Int32))] [] μ5))) (WS G eX9_find (d + 1) Z Q 3 [vR (9, 0, 0), vI v1, vI v2, vI v3, vI (v4 + (1 : Int32))] [] μ3))) (WS G eX9_find (d + 1) Z Q 3 [vR (9, 0, 0), vI v1, vI v2, vI v3, vI (v4 + (1 : Int32))] [] μ1)))) : WS G eX9_find (d + 1) Z Q 3 [vR (9, 0, 0), vI v1, vI v2, vI v3, vI v4] [] μ := WS.go okX9_find 34 h
set_option maxRecDepth 100000 in
set_option maxHeartbeats 4000000 in
theorem wX9_hasRoom {G : xG} {d : Nat} {a0 : Int32} {a1 : Int32} {a2 : Int32} {μ : xM} {Q : xP} (h : vp_in (0 : Int32) 615 ∧ xif ((μ (1, 0, 20) (0 : Int32).toNatClampNeg) < (60 : Int32)) (((1 : Int32) = 0 ∨ (1 : Int32) = 1) ∧ Q (some (vI (1 : Int32))) μ) (MW G d mX9_find [vR (9, 0, 0), vI a0, vI a1, vI a2] μ (xrI fun x2 μ1 => xif (x2 = (-6 : Int32)) (((0 : Int32) = 0 ∨ (0 : Int32) = 1) ∧ Q (some (vI (0 : Int32))) μ1) (((1 : Int32) = 0 ∨ (1 : Int32) = 1) ∧ Q (some (vI (1 : Int32))) μ1)))) : MW G (d + 1) mX9_hasRoom [vR (9, 0, 0), vI a0, vI a1, vI a2] μ Q := MW.of (E := eX9_hasRoom) okX9_hasRoom (Nat.le_of_ble_eq_true rfl) fun Z => WS.go okX9_hasRoom 22 h
set_option maxRecDepth 100000 in
set_option maxHeartbeats 4000000 in
theorem wX9_make {G : xG} {d : Nat} {a0 : Int32} {a1 : Int32} {a2 : Int32} {μ : xM} {Q : xP} (h : MW G d mX9_find [vR (9, 0, 0), vI a0, vI a1, vI a2] μ (xrI fun x2 μ1 => xif (x2 = (-6 : Int32)) (vp_in (0 : Int32) 615 ∧ vp_in (((3 : Int32) + ((3 : Int32) * (μ1 (1, 0, 20) (0 : Int32).toNatClampNeg)))) 615 ∧ vp_in ((((3 : Int32) + ((3 : Int32) * (μ1 (1, 0, 20) (0 : Int32).toNatClampNeg))) + (1 : Int32))) 615 ∧ vp_in ((((3 : Int32) + ((3 : Int32) * (μ1 (1, 0, 20) (0 : Int32).toNatClampNeg))) + (2 : Int32))) 615 ∧ vp_in (0 : Int32) 615 ∧ vp_in (0 : Int32) 615 ∧ vp_in (0 : Int32) 615 ∧ Q (some (vI ((((xst (xst (xst (xst μ1 (1, 0, 20) (((3 : Int32) + ((3 : Int32) * (μ1 (1, 0, 20) (0 : Int32).toNatClampNeg)))).toNatClampNeg a0) (1, 0, 20) ((((3 : Int32) + ((3 : Int32) * (μ1 (1, 0, 20) (0 : Int32).toNatClampNeg))) + (1 : Int32))).toNatClampNeg a1) (1, 0, 20) ((((3 : Int32) + ((3 : Int32) * (μ1 (1, 0, 20) (0 : Int32).toNatClampNeg))) + (2 : Int32))).toNatClampNeg a2) (1, 0, 20) (0 : Int32).toNatClampNeg ((((xst (xst (xst μ1 (1, 0, 20) (((3 : Int32) + ((3 : Int32) * (μ1 (1, 0, 20) (0 : Int32).toNatClampNeg)))).toNatClampNeg a0) (1, 0, 20) ((((3 : Int32) + ((3 : Int32) * (μ1 (1, 0, 20) (0 : Int32).toNatClampNeg))) + (1 : Int32))).toNatClampNeg a1) (1, 0, 20) ((((3 : Int32) + ((3 : Int32) * (μ1 (1, 0, 20) (0 : Int32).toNatClampNeg))) + (2 : Int32))).toNatClampNeg a2) (1, 0, 20) (0 : Int32).toNatClampNeg) + (1 : Int32)))) (1, 0, 20) (0 : Int32).toNatClampNeg) - (1 : Int32))))) (xst (xst (xst (xst μ1 (1, 0, 20) (((3 : Int32) + ((3 : Int32) * (μ1 (1, 0, 20) (0 : Int32).toNatClampNeg)))).toNatClampNeg a0) (1, 0, 20) ((((3 : Int32) + ((3 : Int32) * (μ1 (1, 0, 20) (0 : Int32).toNatClampNeg))) + (1 : Int32))).toNatClampNeg a1) (1, 0, 20) ((((3 : Int32) + ((3 : Int32) * (μ1 (1, 0, 20) (0 : Int32).toNatClampNeg))) + (2 : Int32))).toNatClampNeg a2) (1, 0, 20) (0 : Int32).toNatClampNeg ((((xst (xst (xst μ1 (1, 0, 20) (((3 : Int32) + ((3 : Int32) * (μ1 (1, 0, 20) (0 : Int32).toNatClampNeg)))).toNatClampNeg a0) (1, 0, 20) ((((3 : Int32) + ((3 : Int32) * (μ1 (1, 0, 20) (0 : Int32).toNatClampNeg))) + (1 : Int32))).toNatClampNeg a1) (1, 0, 20) ((((3 : Int32) + ((3 : Int32) * (μ1 (1, 0, 20) (0 : Int32).toNatClampNeg))) + (2 : Int32))).toNatClampNeg a2) (1, 0, 20) (0 : Int32).toNatClampNeg) + (1 : Int32))))) (Q (some (vI x2)) μ1))) : MW G (d + 1) mX9_make [vR (9, 0, 0), vI a0, vI a1, vI a2] μ Q := MW.of (E := eX9_make) okX9_make (Nat.le_of_ble_eq_true rfl) fun Z => WS.go okX9_make 59 h
set_option maxRecDepth 100000 in
set_option maxHeartbeats 4000000 in
theorem wX9_makeOne {G : xG} {d : Nat} {a0 : Int32} {a1 : Int32} {a2 : Int32} {μ : xM} {Q : xP} (h : MW G d mX9_hasRoom [vR (9, 0, 0), vI a0, vI a1, vI a2] μ (xrI fun x2 μ1 => xif (x2 = 0) (Q (some (vI (-4 : Int32))) μ1) (MW G d mX9_record [vR (9, 0, 0)] μ1 (xrV fun μ3 => MW G d mX9_make [vR (9, 0, 0), vI a0, vI a1, vI a2] μ3 (xrI fun x5 μ4 => Q (some (vI x5)) μ4))))) : MW G (d + 1) mX9_makeOne [vR (9, 0, 0), vI a0, vI a1, vI a2] μ Q := MW.of (E := eX9_makeOne) okX9_makeOne (Nat.le_of_ble_eq_true rfl) fun Z => WS.go okX9_makeOne 21 h
set_option maxRecDepth 100000 in
set_option maxHeartbeats 4000000 in
theorem wX9_atom {G : xG} {d : Nat} {a0 : Int32} {μ : xM} {Q : xP} (h : MW G d mX9_in [vI a0, vI (0 : Int32), vI (7 : Int32)] μ (xrI fun x2 μ1 => xif (x2 = 0) (Q (some (vI (-1 : Int32))) μ1) (MW G d mX9_makeOne [vR (9, 0, 0), vI (0 : Int32), vI a0, vI (-6 : Int32)] μ1 (xrI fun x4 μ3 => Q (some (vI x4)) μ3)))) : MW G (d + 1) mX9_atom [vR (9, 0, 0), vI a0] μ Q := MW.of (E := eX9_atom) okX9_atom (Nat.le_of_ble_eq_true rfl) fun Z => WS.go okX9_atom 18 h
set_option maxRecDepth 100000 in
set_option maxHeartbeats 4000000 in
theorem wX9_falsum {G : xG} {d : Nat} {μ : xM} {Q : xP} (h : MW G d mX9_makeOne [vR (9, 0, 0), vI (1 : Int32), vI (-6 : Int32), vI (-6 : Int32)] μ (xrI fun x2 μ1 => Q (some (vI x2)) μ1)) : MW G (d + 1) mX9_falsum [vR (9, 0, 0)] μ Q := MW.of (E := eX9_falsum) okX9_falsum (Nat.le_of_ble_eq_true rfl) fun Z => WS.go okX9_falsum 11 h
set_option maxRecDepth 100000 in
set_option maxHeartbeats 4000000 in
theorem wX9_not {G : xG} {d : Nat} {a0 : Int32} {μ : xM} {Q : xP} (h : MW G d mX9_isFormula [vR (9, 0, 0), vI a0] μ (xrI fun x2 μ1 => xif (x2 = 0) (Q (some (vI (-1 : Int32))) μ1) (MW G d mX9_makeOne [vR (9, 0, 0), vI (2 : Int32), vI a0, vI (-6 : Int32)] μ1 (xrI fun x4 μ3 => Q (some (vI x4)) μ3)))) : MW G (d + 1) mX9_not [vR (9, 0, 0), vI a0] μ Q := MW.of (E := eX9_not) okX9_not (Nat.le_of_ble_eq_true rfl) fun Z => WS.go okX9_not 17 h
set_option maxRecDepth 100000 in
set_option maxHeartbeats 4000000 in
theorem wX9_pair {G : xG} {d : Nat} {a0 : Int32} {a1 : Int32} {a2 : Int32} {μ : xM} {Q : xP} (h : MW G d mX9_isFormula [vR (9, 0, 0), vI a1] μ (xrI fun x2 μ1 => xif (x2 = 0) (Q (some (vI (-1 : Int32))) μ1) (MW G d mX9_isFormula [vR (9, 0, 0), vI a2] μ1 (xrI fun x4 μ3 => xif (x4 = 0) (Q (some (vI (-1 : Int32))) μ3) (MW G d mX9_in [vI a0, vI (3 : Int32), vI (5 : Int32)] μ3 (xrI fun x6 μ5 => xif (x6 = 0) (Q (some (vI (-2 : Int32))) μ5) (MW G d mX9_makeOne [vR (9, 0, 0), vI a0, vI a1, vI a2] μ5 (xrI fun x8 μ7 => Q (some (vI x8)) μ7)))))))) : MW G (d + 1) mX9_pair [vR (9, 0, 0), vI a0, vI a1, vI a2] μ Q := MW.of (E := eX9_pair) okX9_pair (Nat.le_of_ble_eq_true rfl) fun Z => WS.go okX9_pair 28 h
set_option maxRecDepth 100000 in
set_option maxHeartbeats 4000000 in
theorem wX9_formulas {G : xG} {d : Nat} {μ : xM} {Q : xP} (h : vp_in (0 : Int32) 615 ∧ Q (some (vI ((μ (1, 0, 20) (0 : Int32).toNatClampNeg)))) μ) : MW G (d + 1) mX9_formulas [vR (9, 0, 0)] μ Q := MW.of (E := eX9_formulas) okX9_formulas (Nat.le_of_ble_eq_true rfl) fun Z => WS.go okX9_formulas 10 h
set_option maxRecDepth 100000 in
set_option maxHeartbeats 4000000 in
theorem wX9_part {G : xG} {d : Nat} {a0 : Int32} {a1 : Int32} {μ : xM} {Q : xP} (h : MW G d mX9_isFormula [vR (9, 0, 0), vI a0] μ (xrI fun x2 μ1 => xif (x2 = 0) (Q (some (vI (-1 : Int32))) μ1) (MW G d mX9_in [vI a1, vI (0 : Int32), vI (2 : Int32)] μ1 (xrI fun x4 μ3 => xif (x4 = 0) (Q (some (vI (-2 : Int32))) μ3) (vp_in ((((3 : Int32) + ((3 : Int32) * a0)) + a1)) 615 ∧ Q (some (vI ((μ3 (1, 0, 20) ((((3 : Int32) + ((3 : Int32) * a0)) + a1)).toNatClampNeg)))) μ3))))) : MW G (d + 1) mX9_part [vR (9, 0, 0), vI a0, vI a1] μ Q := MW.of (E := eX9_part) okX9_part (Nat.le_of_ble_eq_true rfl) fun Z => WS.go okX9_part 29 h
set_option maxRecDepth 100000 in
set_option maxHeartbeats 4000000 in
theorem wX9_measure {G : xG} {d : Nat} {μ : xM} {Q : xP} (h : ∀ Z : xZ, WS G eX9_measure (d + 1) Z Q 2 [vR (9, 0, 0), vI (0 : Int32), vN] [] μ) : MW G (d + 1) mX9_measure [vR (9, 0, 0)] μ Q := MW.of (E := eX9_measure) okX9_measure (Nat.le_of_ble_eq_true rfl) fun Z => WS.go okX9_measure 63 (h Z)
set_option maxRecDepth 100000 in
set_option maxHeartbeats 4000000 in
theorem wX9_measure_2 {G : xG} {d : Nat} {Z : xZ} {v1 : Int32} {μ : xM} {Q : xP} (h : vp_in (0 : Int32) 615 ∧ xif ((μ (1, 0, 20) (0 : Int32).toNatClampNeg) ≤ v1) (Q none μ) (MW G d mX9_kind [vR (9, 0, 0), vI v1] μ (xrI fun x2 μ1 => xif ((2 : Int32) ≤ x2) (MW G d mX9_kind [vR (9, 0, 0), vI v1] μ1 (xrI fun x4 μ3 => xif (x4 = (2 : Int32)) (MW G d mX9_left [vR (9, 0, 0), vI v1] μ3 (xrI fun x6 μ5 => vp_in x6 60 ∧ xif (((1 : Int32) + (μ5 (1, 0, 23) x6.toNatClampNeg)) ≤ (1000000 : Int32)) (vp_in v1 60 ∧ WS G eX9_measure (d + 1) Z Q 2 [vR (9, 0, 0), vI (v1 + (1 : Int32)), vN] [] (xst μ5 (1, 0, 23) v1.toNatClampNeg (((1 : Int32) + (μ5 (1, 0, 23) x6.toNatClampNeg))))) (vp_in v1 60 ∧ WS G eX9_measure (d + 1) Z Q 2 [vR (9, 0, 0), vI (v1 + (1 : Int32)), vN] [] (xst μ5 (1, 0, 23) v1.toNatClampNeg (1000000 : Int32))))) (MW G d mX9_left [vR (9, 0, 0), vI v1] μ3 (xrI fun x8 μ7 => vp_in x8 60 ∧ MW G d mX9_right [vR (9, 0, 0), vI v1] μ7 (xrI fun x10 μ9 => vp_in x10 60 ∧ xif ((((3 : Int32) + (μ7 (1, 0, 23) x8.toNatClampNeg)) + (μ9 (1, 0, 23) x10.toNatClampNeg)) ≤ (1000000 : Int32)) (vp_in v1 60 ∧ WS G eX9_measure (d + 1) Z Q 2 [vR (9, 0, 0), vI (v1 + (1 : Int32)), vN] [] (xst μ9 (1, 0, 23) v1.toNatClampNeg ((((3 : Int32) + (μ7 (1, 0, 23) x8.toNatClampNeg)) + (μ9 (1, 0, 23) x10.toNatClampNeg))))) (vp_in v1 60 ∧ WS G eX9_measure (d + 1) Z Q 2 [vR (9, 0, 0), vI (v1 + (1 : Int32)), vN] [] (xst μ9 (1, 0, 23) v1.toNatClampNeg (1000000 : Int32)))))))) (xif ((1 : Int32) ≤ (1000000 : Int32)) (vp_in v1 60 ∧ WS G eX9_measure (d + 1) Z Q 2 [vR (9, 0, 0), vI (v1 + (1 : Int32)), vN] [] (xst μ1 (1, 0, 23) v1.toNatClampNeg (1 : Int32))) (vp_in v1 60 ∧ WS G eX9_measure (d + 1) Z Q 2 [vR (9, 0, 0), vI (v1 + (1 : Int32)), vN] [] (xst μ1 (1, 0, 23) v1.toNatClampNeg (1000000 : Int32))))))) : WS G eX9_measure (d + 1) Z Q 2 [vR (9, 0, 0), vI v1, vN] [] μ := WS.go okX9_measure 63 h
set_option maxRecDepth 100000 in
set_option maxHeartbeats 4000000 in
theorem wX9_length {G : xG} {d : Nat} {a0 : Int32} {μ : xM} {Q : xP} (h : MW G d mX9_isFormula [vR (9, 0, 0), vI a0] μ (xrI fun x2 μ1 => xif (x2 = 0) (Q (some (vI (-1 : Int32))) μ1) (MW G d mX9_measure [vR (9, 0, 0)] μ1 (xrV fun μ3 => vp_in a0 60 ∧ Q (some (vI ((μ3 (1, 0, 23) a0.toNatClampNeg)))) μ3)))) : MW G (d + 1) mX9_length [vR (9, 0, 0), vI a0] μ Q := MW.of (E := eX9_length) okX9_length (Nat.le_of_ble_eq_true rfl) fun Z => WS.go okX9_length 18 h
set_option maxRecDepth 100000 in
set_option maxHeartbeats 4000000 in
theorem wX9_character {G : xG} {d : Nat} {a0 : Int32} {a1 : Int32} {μ : xM} {Q : xP} (h : ∀ Z : xZ, MW G d mX9_isFormula [vR (9, 0, 0), vI a0] μ (xrI fun x2 μ1 => xif (x2 = 0) (Q (some (vI (-1 : Int32))) μ1) (MW G d mX9_measure [vR (9, 0, 0)] μ1 (xrV fun μ3 => vp_in a0 60 ∧ MW G d mX9_in [vI a1, vI (0 : Int32), vI ((μ3 (1, 0, 23) a0.toNatClampNeg) - (1 : Int32))] μ3 (xrI fun x5 μ4 => xif (x5 = 0) (Q (some (vI (-1 : Int32))) μ4) (WS G eX9_character (d + 1) Z Q 37 [vR (9, 0, 0), vN, vN, vI a0, vI a1] [] μ4)))))) : MW G (d + 1) mX9_character [vR (9, 0, 0), vI a0, vI a1] μ Q := MW.of (E := eX9_character) okX9_character (Nat.le_of_ble_eq_true rfl) fun Z => WS.go okX9_character 127 (h Z)
set_option maxRecDepth 100000 in
set_option maxHeartbeats 4000000 in
theorem wX9_character_37 {G : xG} {d : Nat} {Z : xZ} {v3 : Int32} {v4 : Int32} {μ : xM} {Q : xP} (h : xif (v4 ≤ 0) (MW G d mX9_kind [vR (9, 0, 0), vI v3] μ (xrI fun x2 μ1 => xif (x2 = 0) (MW G d mX9_left [vR (9, 0, 0), vI v3] μ1 (xrI fun x4 μ3 => Q (some (vI (((97 : Int32) + x4)))) μ3)) (MW G d mX9_kind [vR (9, 0, 0), vI v3] μ1 (xrI fun x6 μ5 => xif (x6 = (1 : Int32)) (Q (some (vI (35 : Int32))) μ5) (MW G d mX9_kind [vR (9, 0, 0), vI v3] μ5 (xrI fun x8 μ7 => xif (x8 = (2 : Int32)) (Q (some (vI (126 : Int32))) μ7) (Q (some (vI (40 : Int32))) μ7))))))) (MW G d mX9_kind [vR (9, 0, 0), vI v3] μ (xrI fun x10 μ9 => xif (x10 = (2 : Int32)) (MW G d mX9_left [vR (9, 0, 0), vI v3] μ9 (xrI fun x12 μ11 => WS G eX9_character (d + 1) Z Q 37 [vR (9, 0, 0), vN, vN, vI x12, vI (v4 + (-1 : Int32))] [] μ11)) (MW G d mX9_left [vR (9, 0, 0), vI v3] μ9 (xrI fun x14 μ13 => vp_in x14 60 ∧ xif ((μ13 (1, 0, 23) x14.toNatClampNeg) < v4) (MW G d mX9_left [vR (9, 0, 0), vI v3] μ13 (xrI fun x16 μ15 => vp_in x16 60 ∧ xif ((v4 - ((1 : Int32) + (μ15 (1, 0, 23) x16.toNatClampNeg))) = 0) (MW G d mX9_kind [vR (9, 0, 0), vI v3] μ15 (xrI fun x18 μ17 => xif (x18 = (3 : Int32)) (Q (some (vI (38 : Int32))) μ17) (MW G d mX9_kind [vR (9, 0, 0), vI v3] μ17 (xrI fun x20 μ19 => xif (x20 = (4 : Int32)) (Q (some (vI (124 : Int32))) μ19) (Q (some (vI (62 : Int32))) μ19))))) (MW G d mX9_right [vR (9, 0, 0), vI v3] μ15 (xrI fun x22 μ21 => vp_in x22 60 ∧ xif (((v4 - ((1 : Int32) + (μ15 (1, 0, 23) x16.toNatClampNeg))) + (-1 : Int32)) = (μ21 (1, 0, 23) x22.toNatClampNeg)) (Q (some (vI (41 : Int32))) μ21) (MW G d mX9_right [vR (9, 0, 0), vI v3] μ21 (xrI fun x24 μ23 => WS G eX9_character (d + 1) Z Q 37 [vR (9, 0, 0), vN, vN, vI x24, vI ((v4 - ((1 : Int32) + (μ15 (1, 0, 23) x16.toNatClampNeg))) + (-1 : Int32))] [] μ23)))))) (MW G d mX9_left [vR (9, 0, 0), vI v3] μ13 (xrI fun x26 μ25 => WS G eX9_character (d + 1) Z Q 37 [vR (9, 0, 0), vN, vN, vI x26, vI (v4 + (-1 : Int32))] [] μ25))))))) : WS G eX9_character (d + 1) Z Q 37 [vR (9, 0, 0), vN, vN, vI v3, vI v4] [] μ := WS.go okX9_character 127 h
set_option maxRecDepth 100000 in
set_option maxHeartbeats 4000000 in
theorem wX9_evaluate {G : xG} {d : Nat} {a0 : Int32} {μ : xM} {Q : xP} (h : ∀ Z : xZ, WS G eX9_evaluate (d + 1) Z Q 2 [vR (9, 0, 0), vI a0, vI (0 : Int32), vN, vN] [] μ) : MW G (d + 1) mX9_evaluate [vR (9, 0, 0), vI a0] μ Q := MW.of (E := eX9_evaluate) okX9_evaluate (Nat.le_of_ble_eq_true rfl) fun Z => WS.go okX9_evaluate 115 (h Z)
set_option maxRecDepth 100000 in
set_option maxHeartbeats 4000000 in
theorem wX9_evaluate_2 {G : xG} {d : Nat} {Z : xZ} {v1 : Int32} {v2 : Int32} {μ : xM} {Q : xP} (h : vp_in (0 : Int32) 615 ∧ xif ((μ (1, 0, 20) (0 : Int32).toNatClampNeg) ≤ v2) (Q none μ) (MW G d mX9_left [vR (9, 0, 0), vI v2] μ (xrI fun x2 μ1 => MW G d mX9_right [vR (9, 0, 0), vI v2] μ1 (xrI fun x4 μ3 => MW G d mX9_kind [vR (9, 0, 0), vI v2] μ3 (xrI fun x6 μ5 => (x6 = 0 → xif (((v1 >>> (x2 &&& 31)) &&& (1 : Int32)) = (1 : Int32)) (vp_in v2 60 ∧ WS G eX9_evaluate (d + 1) Z Q 2 [vR (9, 0, 0), vI v1, vI (v2 + (1 : Int32)), vN, vN] [] (xst μ5 (12, 0, 0) v2.toNatClampNeg (vp_nar .boolean (1 : Int32)))) (vp_in v2 60 ∧ WS G eX9_evaluate (d + 1) Z Q 2 [vR (9, 0, 0), vI v1, vI (v2 + (1 : Int32)), vN, vN] [] (xst μ5 (12, 0, 0) v2.toNatClampNeg (vp_nar .boolean (0 : Int32))))) ∧ (¬ x6 = 0 → (x6 = 1 → vp_in v2 60 ∧ WS G eX9_evaluate (d + 1) Z Q 2 [vR (9, 0, 0), vI v1, vI (v2 + (1 : Int32)), vN, vN] [] (xst μ5 (12, 0, 0) v2.toNatClampNeg (vp_nar .boolean (0 : Int32)))) ∧ (¬ x6 = 1 → (x6 = 2 → vp_in x2 60 ∧ xif ((μ5 (12, 0, 0) x2.toNatClampNeg) = 0) (vp_in v2 60 ∧ WS G eX9_evaluate (d + 1) Z Q 2 [vR (9, 0, 0), vI v1, vI (v2 + (1 : Int32)), vN, vN] [] (xst μ5 (12, 0, 0) v2.toNatClampNeg (vp_nar .boolean (1 : Int32)))) (vp_in v2 60 ∧ WS G eX9_evaluate (d + 1) Z Q 2 [vR (9, 0, 0), vI v1, vI (v2 + (1 : Int32)), vN, vN] [] (xst μ5 (12, 0, 0) v2.toNatClampNeg (vp_nar .boolean (0 : Int32))))) ∧ (¬ x6 = 2 → (x6 = 3 → vp_in x2 60 ∧ xif ((μ5 (12, 0, 0) x2.toNatClampNeg) = 0) (vp_in v2 60 ∧ WS G eX9_evaluate (d + 1) Z Q 2 [vR (9, 0, 0), vI v1, vI (v2 + (1 : Int32)), vN, vN] [] (xst μ5 (12, 0, 0) v2.toNatClampNeg (vp_nar .boolean (0 : Int32)))) (vp_in x4 60 ∧ xif ((μ5 (12, 0, 0) x4.toNatClampNeg) = 0) (vp_in v2 60 ∧ WS G eX9_evaluate (d + 1) Z Q 2 [vR (9, 0, 0), vI v1, vI (v2 + (1 : Int32)), vN, vN] [] (xst μ5 (12, 0, 0) v2.toNatClampNeg (vp_nar .boolean (0 : Int32)))) (vp_in v2 60 ∧ WS G eX9_evaluate (d + 1) Z Q 2 [vR (9, 0, 0), vI v1, vI (v2 + (1 : Int32)), vN, vN] [] (xst μ5 (12, 0, 0) v2.toNatClampNeg (vp_nar .boolean (1 : Int32)))))) ∧ (¬ x6 = 3 → (x6 = 4 → vp_in x2 60 ∧ xif ((μ5 (12, 0, 0) x2.toNatClampNeg) = 0) (vp_in x4 60 ∧ xif ((μ5 (12, 0, 0) x4.toNatClampNeg) = 0) (vp_in v2 60 ∧ WS G eX9_evaluate (d + 1) Z Q 2 [vR (9, 0, 0), vI v1, vI (v2 + (1 : Int32)), vN, vN] [] (xst μ5 (12, 0, 0) v2.toNatClampNeg (vp_nar .boolean (0 : Int32)))) (vp_in v2 60 ∧ WS G eX9_evaluate (d + 1) Z Q 2 [vR (9, 0, 0), vI v1, vI (v2 + (1 : Int32)), vN, vN] [] (xst μ5 (12, 0, 0) v2.toNatClampNeg (vp_nar .boolean (1 : Int32))))) (vp_in v2 60 ∧ WS G eX9_evaluate (d + 1) Z Q 2 [vR (9, 0, 0), vI v1, vI (v2 + (1 : Int32)), vN, vN] [] (xst μ5 (12, 0, 0) v2.toNatClampNeg (vp_nar .boolean (1 : Int32))))) ∧ (¬ x6 = 4 → vp_in x2 60 ∧ xif ((μ5 (12, 0, 0) x2.toNatClampNeg) = 0) (vp_in v2 60 ∧ WS G eX9_evaluate (d + 1) Z Q 2 [vR (9, 0, 0), vI v1, vI (v2 + (1 : Int32)), vN, vN] [] (xst μ5 (12, 0, 0) v2.toNatClampNeg (vp_nar .boolean (1 : Int32)))) (vp_in x4 60 ∧ xif ((μ5 (12, 0, 0) x4.toNatClampNeg) = 0) (vp_in v2 60 ∧ WS G eX9_evaluate (d + 1) Z Q 2 [vR (9, 0, 0), vI v1, vI (v2 + (1 : Int32)), vN, vN] [] (xst μ5 (12, 0, 0) v2.toNatClampNeg (vp_nar .boolean (0 : Int32)))) (vp_in v2 60 ∧ WS G eX9_evaluate (d + 1) Z Q 2 [vR (9, 0, 0), vI v1, vI (v2 + (1 : Int32)), vN, vN] [] (xst μ5 (12, 0, 0) v2.toNatClampNeg (vp_nar .boolean (1 : Int32))))))))))))))) : WS G eX9_evaluate (d + 1) Z Q 2 [vR (9, 0, 0), vI v1, vI v2, vN, vN] [] μ := WS.go okX9_evaluate 115 h
set_option maxRecDepth 100000 in
set_option maxHeartbeats 4000000 in
theorem wX9_isTrue {G : xG} {d : Nat} {a0 : Int32} {a1 : Int32} {μ : xM} {Q : xP} (h : MW G d mX9_isFormula [vR (9, 0, 0), vI a0] μ (xrI fun x2 μ1 => xif (x2 = 0) (Q (some (vI (-1 : Int32))) μ1) (MW G d mX9_in [vI a1, vI (0 : Int32), vI (255 : Int32)] μ1 (xrI fun x4 μ3 => xif (x4 = 0) (Q (some (vI (-2 : Int32))) μ3) (MW G d mX9_evaluate [vR (9, 0, 0), vI a1] μ3 (xrV fun μ5 => vp_in a0 60 ∧ xif ((μ5 (12, 0, 0) a0.toNatClampNeg) = 0) (Q (some (vI (0 : Int32))) μ5) (Q (some (vI (1 : Int32))) μ5))))))) : MW G (d + 1) mX9_isTrue [vR (9, 0, 0), vI a0, vI a1] μ Q := MW.of (E := eX9_isTrue) okX9_isTrue (Nat.le_of_ble_eq_true rfl) fun Z => WS.go okX9_isTrue 30 h
set_option maxRecDepth 100000 in
set_option maxHeartbeats 4000000 in
theorem wX9_isLine {G : xG} {d : Nat} {a0 : Int32} {μ : xM} {Q : xP} (h : xif (a0 < 0) (((0 : Int32) = 0 ∨ (0 : Int32) = 1) ∧ Q (some (vI (0 : Int32))) μ) (vp_in (1 : Int32) 615 ∧ xif ((μ (1, 0, 20) (1 : Int32).toNatClampNeg) ≤ a0) (((0 : Int32) = 0 ∨ (0 : Int32) = 1) ∧ Q (some (vI (0 : Int32))) μ) (((1 : Int32) = 0 ∨ (1 : Int32) = 1) ∧ Q (some (vI (1 : Int32))) μ))) : MW G (d + 1) mX9_isLine [vR (9, 0, 0), vI a0] μ Q := MW.of (E := eX9_isLine) okX9_isLine (Nat.le_of_ble_eq_true rfl) fun Z => WS.go okX9_isLine 17 h
set_option maxRecDepth 100000 in
set_option maxHeartbeats 4000000 in
theorem wX9_isBox {G : xG} {d : Nat} {a0 : Int32} {μ : xM} {Q : xP} (h : xif (a0 < 0) (((0 : Int32) = 0 ∨ (0 : Int32) = 1) ∧ Q (some (vI (0 : Int32))) μ) (vp_in (2 : Int32) 615 ∧ xif ((μ (1, 0, 20) (2 : Int32).toNatClampNeg) ≤ a0) (((0 : Int32) = 0 ∨ (0 : Int32) = 1) ∧ Q (some (vI (0 : Int32))) μ) (((1 : Int32) = 0 ∨ (1 : Int32) = 1) ∧ Q (some (vI (1 : Int32))) μ))) : MW G (d + 1) mX9_isBox [vR (9, 0, 0), vI a0] μ Q := MW.of (E := eX9_isBox) okX9_isBox (Nat.le_of_ble_eq_true rfl) fun Z => WS.go okX9_isBox 17 h
set_option maxRecDepth 100000 in
set_option maxHeartbeats 4000000 in
theorem wX9_formulaOf {G : xG} {d : Nat} {a0 : Int32} {μ : xM} {Q : xP} (h : vp_in (((183 : Int32) + ((6 : Int32) * a0))) 615 ∧ Q (some (vI ((μ (1, 0, 20) (((183 : Int32) + ((6 : Int32) * a0))).toNatClampNeg)))) μ) : MW G (d + 1) mX9_formulaOf [vR (9, 0, 0), vI a0] μ Q := MW.of (E := eX9_formulaOf) okX9_formulaOf (Nat.le_of_ble_eq_true rfl) fun Z => WS.go okX9_formulaOf 14 h
set_option maxRecDepth 100000 in
set_option maxHeartbeats 4000000 in
theorem wX9_ruleOf {G : xG} {d : Nat} {a0 : Int32} {μ : xM} {Q : xP} (h : vp_in ((((183 : Int32) + ((6 : Int32) * a0)) + (1 : Int32))) 615 ∧ Q (some (vI ((μ (1, 0, 20) ((((183 : Int32) + ((6 : Int32) * a0)) + (1 : Int32))).toNatClampNeg)))) μ) : MW G (d + 1) mX9_ruleOf [vR (9, 0, 0), vI a0] μ Q := MW.of (E := eX9_ruleOf) okX9_ruleOf (Nat.le_of_ble_eq_true rfl) fun Z => WS.go okX9_ruleOf 16 h
set_option maxRecDepth 100000 in
set_option maxHeartbeats 4000000 in
theorem wX9_refOf {G : xG} {d : Nat} {a0 : Int32} {a1 : Int32} {μ : xM} {Q : xP} (h : vp_in (((((183 : Int32) + ((6 : Int32) * a0)) + (2 : Int32)) + a1)) 615 ∧ Q (some (vI ((μ (1, 0, 20) (((((183 : Int32) + ((6 : Int32) * a0)) + (2 : Int32)) + a1)).toNatClampNeg)))) μ) : MW G (d + 1) mX9_refOf [vR (9, 0, 0), vI a0, vI a1] μ Q := MW.of (E := eX9_refOf) okX9_refOf (Nat.le_of_ble_eq_true rfl) fun Z => WS.go okX9_refOf 18 h
set_option maxRecDepth 100000 in
set_option maxHeartbeats 4000000 in
theorem wX9_boxOf {G : xG} {d : Nat} {a0 : Int32} {μ : xM} {Q : xP} (h : vp_in ((((183 : Int32) + ((6 : Int32) * a0)) + (5 : Int32))) 615 ∧ Q (some (vI ((μ (1, 0, 20) ((((183 : Int32) + ((6 : Int32) * a0)) + (5 : Int32))).toNatClampNeg)))) μ) : MW G (d + 1) mX9_boxOf [vR (9, 0, 0), vI a0] μ Q := MW.of (E := eX9_boxOf) okX9_boxOf (Nat.le_of_ble_eq_true rfl) fun Z => WS.go okX9_boxOf 16 h
set_option maxRecDepth 100000 in
set_option maxHeartbeats 4000000 in
theorem wX9_opens {G : xG} {d : Nat} {a0 : Int32} {μ : xM} {Q : xP} (h : vp_in (((471 : Int32) + ((3 : Int32) * a0))) 615 ∧ Q (some (vI ((μ (1, 0, 20) (((471 : Int32) + ((3 : Int32) * a0))).toNatClampNeg)))) μ) : MW G (d + 1) mX9_opens [vR (9, 0, 0), vI a0] μ Q := MW.of (E := eX9_opens) okX9_opens (Nat.le_of_ble_eq_true rfl) fun Z => WS.go okX9_opens 14 h
set_option maxRecDepth 100000 in
set_option maxHeartbeats 4000000 in
theorem wX9_ends {G : xG} {d : Nat} {a0 : Int32} {μ : xM} {Q : xP} (h : vp_in ((((471 : Int32) + ((3 : Int32) * a0)) + (1 : Int32))) 615 ∧ Q (some (vI ((μ (1, 0, 20) ((((471 : Int32) + ((3 : Int32) * a0)) + (1 : Int32))).toNatClampNeg)))) μ) : MW G (d + 1) mX9_ends [vR (9, 0, 0), vI a0] μ Q := MW.of (E := eX9_ends) okX9_ends (Nat.le_of_ble_eq_true rfl) fun Z => WS.go okX9_ends 16 h
set_option maxRecDepth 100000 in
set_option maxHeartbeats 4000000 in
theorem wX9_parent {G : xG} {d : Nat} {a0 : Int32} {μ : xM} {Q : xP} (h : vp_in ((((471 : Int32) + ((3 : Int32) * a0)) + (2 : Int32))) 615 ∧ Q (some (vI ((μ (1, 0, 20) ((((471 : Int32) + ((3 : Int32) * a0)) + (2 : Int32))).toNatClampNeg)))) μ) : MW G (d + 1) mX9_parent [vR (9, 0, 0), vI a0] μ Q := MW.of (E := eX9_parent) okX9_parent (Nat.le_of_ble_eq_true rfl) fun Z => WS.go okX9_parent 16 h
set_option maxRecDepth 100000 in
set_option maxHeartbeats 4000000 in
theorem wX9_latest {G : xG} {d : Nat} {μ : xM} {Q : xP} (h : ∀ Z : xZ, WS G eX9_latest (d + 1) Z Q 5 [vR (9, 0, 0), vI (-6 : Int32), vI (0 : Int32)] [] μ) : MW G (d + 1) mX9_latest [vR (9, 0, 0)] μ Q := MW.of (E := eX9_latest) okX9_latest (Nat.le_of_ble_eq_true rfl) fun Z => WS.go okX9_latest 28 (h Z)
set_option maxRecDepth 100000 in
set_option maxHeartbeats 4000000 in
theorem wX9_latest_5 {G : xG} {d : Nat} {Z : xZ} {v1 : Int32} {v2 : Int32} {μ : xM} {Q : xP} (h : vp_in (2 : Int32) 615 ∧ xif ((μ (1, 0, 20) (2 : Int32).toNatClampNeg) ≤ v2) (Q (some (vI v1)) μ) (MW G d mX9_ends [vR (9, 0, 0), vI v2] μ (xrI fun x2 μ1 => xif (x2 = (-6 : Int32)) (WS G eX9_latest (d + 1) Z Q 5 [vR (9, 0, 0), vI v2, vI (v2 + (1 : Int32))] [] μ1) (WS G eX9_latest (d + 1) Z Q 5 [vR (9, 0, 0), vI v1, vI (v2 + (1 : Int32))] [] μ1)))) : WS G eX9_latest (d + 1) Z Q 5 [vR (9, 0, 0), vI v1, vI v2] [] μ := WS.go okX9_latest 28 h
set_option maxRecDepth 100000 in
set_option maxHeartbeats 4000000 in
theorem wX9_openBoxes {G : xG} {d : Nat} {μ : xM} {Q : xP} (h : ∀ Z : xZ, WS G eX9_openBoxes (d + 1) Z Q 4 [vR (9, 0, 0), vI (0 : Int32), vI (0 : Int32)] [] μ) : MW G (d + 1) mX9_openBoxes [vR (9, 0, 0)] μ Q := MW.of (E := eX9_openBoxes) okX9_openBoxes (Nat.le_of_ble_eq_true rfl) fun Z => WS.go okX9_openBoxes 30 (h Z)
set_option maxRecDepth 100000 in
set_option maxHeartbeats 4000000 in
theorem wX9_openBoxes_4 {G : xG} {d : Nat} {Z : xZ} {v1 : Int32} {v2 : Int32} {μ : xM} {Q : xP} (h : vp_in (2 : Int32) 615 ∧ xif ((μ (1, 0, 20) (2 : Int32).toNatClampNeg) ≤ v2) (Q (some (vI v1)) μ) (MW G d mX9_ends [vR (9, 0, 0), vI v2] μ (xrI fun x2 μ1 => xif (x2 = (-6 : Int32)) (WS G eX9_openBoxes (d + 1) Z Q 4 [vR (9, 0, 0), vI (v1 + (1 : Int32)), vI (v2 + (1 : Int32))] [] μ1) (WS G eX9_openBoxes (d + 1) Z Q 4 [vR (9, 0, 0), vI (v1 + (0 : Int32)), vI (v2 + (1 : Int32))] [] μ1)))) : WS G eX9_openBoxes (d + 1) Z Q 4 [vR (9, 0, 0), vI v1, vI v2] [] μ := WS.go okX9_openBoxes 30 h
set_option maxRecDepth 100000 in
set_option maxHeartbeats 4000000 in
theorem wX9_isShut {G : xG} {d : Nat} {a0 : Int32} {μ : xM} {Q : xP} (h : ∀ Z : xZ, WS G eX9_isShut (d + 1) Z Q 4 [vR (9, 0, 0), vN, vI (0 : Int32), vI a0] [] μ) : MW G (d + 1) mX9_isShut [vR (9, 0, 0), vI a0] μ Q := MW.of (E := eX9_isShut) okX9_isShut (Nat.le_of_ble_eq_true rfl) fun Z => WS.go okX9_isShut 30 (h Z)
set_option maxRecDepth 100000 in
set_option maxHeartbeats 4000000 in
theorem wX9_isShut_4 {G : xG} {d : Nat} {Z : xZ} {v2 : Int32} {v3 : Int32} {μ : xM} {Q : xP} (h : xif (v3 = (-6 : Int32)) ((v2 = 0 ∨ v2 = 1) ∧ Q (some (vI v2)) μ) (xif (v2 = 0) (MW G d mX9_ends [vR (9, 0, 0), vI v3] μ (xrI fun x2 μ1 => xif (x2 = (-6 : Int32)) (MW G d mX9_parent [vR (9, 0, 0), vI v3] μ1 (xrI fun x4 μ3 => WS G eX9_isShut (d + 1) Z Q 4 [vR (9, 0, 0), vN, vI (0 : Int32), vI x4] [] μ3)) (MW G d mX9_parent [vR (9, 0, 0), vI v3] μ1 (xrI fun x6 μ5 => WS G eX9_isShut (d + 1) Z Q 4 [vR (9, 0, 0), vN, vI (1 : Int32), vI x6] [] μ5)))) ((v2 = 0 ∨ v2 = 1) ∧ Q (some (vI v2)) μ))) : WS G eX9_isShut (d + 1) Z Q 4 [vR (9, 0, 0), vN, vI v2, vI v3] [] μ := WS.go okX9_isShut 30 h
set_option maxRecDepth 100000 in
set_option maxHeartbeats 4000000 in
theorem wX9_isAvailable {G : xG} {d : Nat} {a0 : Int32} {μ : xM} {Q : xP} (h : MW G d mX9_boxOf [vR (9, 0, 0), vI a0] μ (xrI fun x2 μ1 => MW G d mX9_isShut [vR (9, 0, 0), vI x2] μ1 (xrI fun x4 μ3 => xif (x4 = 0) (((1 : Int32) = 0 ∨ (1 : Int32) = 1) ∧ Q (some (vI (1 : Int32))) μ3) (((0 : Int32) = 0 ∨ (0 : Int32) = 1) ∧ Q (some (vI (0 : Int32))) μ3)))) : MW G (d + 1) mX9_isAvailable [vR (9, 0, 0), vI a0] μ Q := MW.of (E := eX9_isAvailable) okX9_isAvailable (Nat.le_of_ble_eq_true rfl) fun Z => WS.go okX9_isAvailable 15 h
set_option maxRecDepth 100000 in
set_option maxHeartbeats 4000000 in
theorem wX9_isBoxAvailable {G : xG} {d : Nat} {a0 : Int32} {μ : xM} {Q : xP} (h : MW G d mX9_ends [vR (9, 0, 0), vI a0] μ (xrI fun x2 μ1 => xif (x2 = (-6 : Int32)) (((0 : Int32) = 0 ∨ (0 : Int32) = 1) ∧ Q (some (vI (0 : Int32))) μ1) (MW G d mX9_parent [vR (9, 0, 0), vI a0] μ1 (xrI fun x4 μ3 => MW G d mX9_isShut [vR (9, 0, 0), vI x4] μ3 (xrI fun x6 μ5 => xif (x6 = 0) (((1 : Int32) = 0 ∨ (1 : Int32) = 1) ∧ Q (some (vI (1 : Int32))) μ5) (((0 : Int32) = 0 ∨ (0 : Int32) = 1) ∧ Q (some (vI (0 : Int32))) μ5)))))) : MW G (d + 1) mX9_isBoxAvailable [vR (9, 0, 0), vI a0] μ Q := MW.of (E := eX9_isBoxAvailable) okX9_isBoxAvailable (Nat.le_of_ble_eq_true rfl) fun Z => WS.go okX9_isBoxAvailable 20 h
set_option maxRecDepth 100000 in
set_option maxHeartbeats 4000000 in
theorem wX9_liesIn {G : xG} {d : Nat} {a0 : Int32} {a1 : Int32} {μ : xM} {Q : xP} (h : ∀ Z : xZ, MW G d mX9_boxOf [vR (9, 0, 0), vI a0] μ (xrI fun x2 μ1 => WS G eX9_liesIn (d + 1) Z Q 6 [vR (9, 0, 0), vN, vI a1, vI x2] [] μ1)) : MW G (d + 1) mX9_liesIn [vR (9, 0, 0), vI a0, vI a1] μ Q := MW.of (E := eX9_liesIn) okX9_liesIn (Nat.le_of_ble_eq_true rfl) fun Z => WS.go okX9_liesIn 27 (h Z)
set_option maxRecDepth 100000 in
set_option maxHeartbeats 4000000 in
theorem wX9_liesIn_6 {G : xG} {d : Nat} {Z : xZ} {v2 : Int32} {v3 : Int32} {μ : xM} {Q : xP} (h : xif (v3 = (-6 : Int32)) (xif (v3 = v2) (((1 : Int32) = 0 ∨ (1 : Int32) = 1) ∧ Q (some (vI (1 : Int32))) μ) (((0 : Int32) = 0 ∨ (0 : Int32) = 1) ∧ Q (some (vI (0 : Int32))) μ)) (xif (v3 = v2) (xif (v3 = v2) (((1 : Int32) = 0 ∨ (1 : Int32) = 1) ∧ Q (some (vI (1 : Int32))) μ) (((0 : Int32) = 0 ∨ (0 : Int32) = 1) ∧ Q (some (vI (0 : Int32))) μ)) (MW G d mX9_parent [vR (9, 0, 0), vI v3] μ (xrI fun x2 μ1 => WS G eX9_liesIn (d + 1) Z Q 6 [vR (9, 0, 0), vN, vI v2, vI x2] [] μ1)))) : WS G eX9_liesIn (d + 1) Z Q 6 [vR (9, 0, 0), vN, vI v2, vI v3] [] μ := WS.go okX9_liesIn 27 h
set_option maxRecDepth 100000 in
set_option maxHeartbeats 4000000 in
theorem wX9_depthOf {G : xG} {d : Nat} {a0 : Int32} {μ : xM} {Q : xP} (h : ∀ Z : xZ, MW G d mX9_boxOf [vR (9, 0, 0), vI a0] μ (xrI fun x2 μ1 => WS G eX9_depthOf (d + 1) Z Q 8 [vR (9, 0, 0), vN, vI (0 : Int32), vI x2] [] μ1)) : MW G (d + 1) mX9_depthOf [vR (9, 0, 0), vI a0] μ Q := MW.of (E := eX9_depthOf) okX9_depthOf (Nat.le_of_ble_eq_true rfl) fun Z => WS.go okX9_depthOf 22 (h Z)
set_option maxRecDepth 100000 in
set_option maxHeartbeats 4000000 in
theorem wX9_depthOf_8 {G : xG} {d : Nat} {Z : xZ} {v2 : Int32} {v3 : Int32} {μ : xM} {Q : xP} (h : xif (v3 = (-6 : Int32)) (Q (some (vI v2)) μ) (MW G d mX9_parent [vR (9, 0, 0), vI v3] μ (xrI fun x2 μ1 => WS G eX9_depthOf (d + 1) Z Q 8 [vR (9, 0, 0), vN, vI (v2 + (1 : Int32)), vI x2] [] μ1))) : WS G eX9_depthOf (d + 1) Z Q 8 [vR (9, 0, 0), vN, vI v2, vI v3] [] μ := WS.go okX9_depthOf 22 h
set_option maxRecDepth 100000 in
set_option maxHeartbeats 4000000 in
theorem wX9_write {G : xG} {d : Nat} {a0 : Int32} {a1 : Int32} {a2 : Int32} {a3 : Int32} {a4 : Int32} {μ : xM} {Q : xP} (h : vp_in (1 : Int32) 615 ∧ vp_in (((183 : Int32) + ((6 : Int32) * (μ (1, 0, 20) (1 : Int32).toNatClampNeg)))) 615 ∧ vp_in ((((183 : Int32) + ((6 : Int32) * (μ (1, 0, 20) (1 : Int32).toNatClampNeg))) + (1 : Int32))) 615 ∧ vp_in ((((183 : Int32) + ((6 : Int32) * (μ (1, 0, 20) (1 : Int32).toNatClampNeg))) + (2 : Int32))) 615 ∧ vp_in ((((183 : Int32) + ((6 : Int32) * (μ (1, 0, 20) (1 : Int32).toNatClampNeg))) + (3 : Int32))) 615 ∧ vp_in ((((183 : Int32) + ((6 : Int32) * (μ (1, 0, 20) (1 : Int32).toNatClampNeg))) + (4 : Int32))) 615 ∧ MW G d mX9_latest [vR (9, 0, 0)] (xst (xst (xst (xst (xst μ (1, 0, 20) (((183 : Int32) + ((6 : Int32) * (μ (1, 0, 20) (1 : Int32).toNatClampNeg)))).toNatClampNeg a0) (1, 0, 20) ((((183 : Int32) + ((6 : Int32) * (μ (1, 0, 20) (1 : Int32).toNatClampNeg))) + (1 : Int32))).toNatClampNeg a1) (1, 0, 20) ((((183 : Int32) + ((6 : Int32) * (μ (1, 0, 20) (1 : Int32).toNatClampNeg))) + (2 : Int32))).toNatClampNeg a2) (1, 0, 20) ((((183 : Int32) + ((6 : Int32) * (μ (1, 0, 20) (1 : Int32).toNatClampNeg))) + (3 : Int32))).toNatClampNeg a3) (1, 0, 20) ((((183 : Int32) + ((6 : Int32) * (μ (1, 0, 20) (1 : Int32).toNatClampNeg))) + (4 : Int32))).toNatClampNeg a4) (xrI fun x2 μ1 => vp_in ((((183 : Int32) + ((6 : Int32) * (μ (1, 0, 20) (1 : Int32).toNatClampNeg))) + (5 : Int32))) 615 ∧ vp_in (1 : Int32) 615 ∧ vp_in (1 : Int32) 615 ∧ vp_in (1 : Int32) 615 ∧ Q (some (vI ((((xst (xst μ1 (1, 0, 20) ((((183 : Int32) + ((6 : Int32) * (μ (1, 0, 20) (1 : Int32).toNatClampNeg))) + (5 : Int32))).toNatClampNeg x2) (1, 0, 20) (1 : Int32).toNatClampNeg ((((xst μ1 (1, 0, 20) ((((183 : Int32) + ((6 : Int32) * (μ (1, 0, 20) (1 : Int32).toNatClampNeg))) + (5 : Int32))).toNatClampNeg x2) (1, 0, 20) (1 : Int32).toNatClampNeg) + (1 : Int32)))) (1, 0, 20) (1 : Int32).toNatClampNeg) - (1 : Int32))))) (xst (xst μ1 (1, 0, 20) ((((183 : Int32) + ((6 : Int32) * (μ (1, 0, 20) (1 : Int32).toNatClampNeg))) + (5 : Int32))).toNatClampNeg x2) (1, 0, 20) (1 : Int32).toNatClampNeg ((((xst μ1 (1, 0, 20) ((((183 : Int32) + ((6 : Int32) * (μ (1, 0, 20) (1 : Int32).toNatClampNeg))) + (5 : Int32))).toNatClampNeg x2) (1, 0, 20) (1 : Int32).toNatClampNeg) + (1 : Int32)))))) : MW G (d + 1) mX9_write [vR (9, 0, 0), vI a0, vI a1, vI a2, vI a3, vI a4] μ Q := MW.of (E := eX9_write) okX9_write (Nat.le_of_ble_eq_true rfl) fun Z => WS.go okX9_write 70 h
set_option maxRecDepth 100000 in
set_option maxHeartbeats 4000000 in
theorem wX9_isFull {G : xG} {d : Nat} {μ : xM} {Q : xP} (h : vp_in (1 : Int32) 615 ∧ xif ((μ (1, 0, 20) (1 : Int32).toNatClampNeg) = (48 : Int32)) (((1 : Int32) = 0 ∨ (1 : Int32) = 1) ∧ Q (some (vI (1 : Int32))) μ) (((0 : Int32) = 0 ∨ (0 : Int32) = 1) ∧ Q (some (vI (0 : Int32))) μ)) : MW G (d + 1) mX9_isFull [vR (9, 0, 0)] μ Q := MW.of (E := eX9_isFull) okX9_isFull (Nat.le_of_ble_eq_true rfl) fun Z => WS.go okX9_isFull 15 h
set_option maxRecDepth 100000 in
set_option maxHeartbeats 4000000 in
theorem wX9_writeOld {G : xG} {d : Nat} {a0 : Int32} {a1 : Int32} {a2 : Int32} {a3 : Int32} {a4 : Int32} {μ : xM} {Q : xP} (h : MW G d mX9_isFull [vR (9, 0, 0)] μ (xrI fun x2 μ1 => xif (x2 = 0) (MW G d mX9_record [vR (9, 0, 0)] μ1 (xrV fun μ3 => MW G d mX9_write [vR (9, 0, 0), vI a0, vI a1, vI a2, vI a3, vI a4] μ3 (xrI fun x5 μ4 => Q (some (vI x5)) μ4))) (Q (some (vI (-4 : Int32))) μ1))) : MW G (d + 1) mX9_writeOld [vR (9, 0, 0), vI a0, vI a1, vI a2, vI a3, vI a4] μ Q := MW.of (E := eX9_writeOld) okX9_writeOld (Nat.le_of_ble_eq_true rfl) fun Z => WS.go okX9_writeOld 20 h
set_option maxRecDepth 100000 in
set_option maxHeartbeats 4000000 in
theorem wX9_writeNew {G : xG} {d : Nat} {a0 : Int32} {a1 : Int32} {a2 : Int32} {a3 : Int32} {a4 : Int32} {a5 : Int32} {μ : xM} {Q : xP} (h : MW G d mX9_isFull [vR (9, 0, 0)] μ (xrI fun x2 μ1 => xif (x2 = 0) (MW G d mX9_hasRoom [vR (9, 0, 0), vI a0, vI a1, vI a2] μ1 (xrI fun x4 μ3 => xif (x4 = 0) (Q (some (vI (-4 : Int32))) μ3) (MW G d mX9_record [vR (9, 0, 0)] μ3 (xrV fun μ5 => MW G d mX9_make [vR (9, 0, 0), vI a0, vI a1, vI a2] μ5 (xrI fun x7 μ6 => MW G d mX9_write [vR (9, 0, 0), vI x7, vI a3, vI a4, vI a5, vI (-6 : Int32)] μ6 (xrI fun x9 μ8 => Q (some (vI x9)) μ8)))))) (Q (some (vI (-4 : Int32))) μ1))) : MW G (d + 1) mX9_writeNew [vR (9, 0, 0), vI a0, vI a1, vI a2, vI a3, vI a4, vI a5] μ Q := MW.of (E := eX9_writeNew) okX9_writeNew (Nat.le_of_ble_eq_true rfl) fun Z => WS.go okX9_writeNew 30 h
set_option maxRecDepth 100000 in
set_option maxHeartbeats 4000000 in
theorem wX9_premise {G : xG} {d : Nat} {a0 : Int32} {μ : xM} {Q : xP} (h : MW G d mX9_isFormula [vR (9, 0, 0), vI a0] μ (xrI fun x2 μ1 => xif (x2 = 0) (Q (some (vI (-1 : Int32))) μ1) (MW G d mX9_latest [vR (9, 0, 0)] μ1 (xrI fun x4 μ3 => xif (x4 = (-6 : Int32)) (MW G d mX9_writeOld [vR (9, 0, 0), vI a0, vI (0 : Int32), vI (-6 : Int32), vI (-6 : Int32), vI (-6 : Int32)] μ3 (xrI fun x6 μ5 => Q (some (vI x6)) μ5)) (Q (some (vI (-3 : Int32))) μ3))))) : MW G (d + 1) mX9_premise [vR (9, 0, 0), vI a0] μ Q := MW.of (E := eX9_premise) okX9_premise (Nat.le_of_ble_eq_true rfl) fun Z => WS.go okX9_premise 25 h
set_option maxRecDepth 100000 in
set_option maxHeartbeats 4000000 in
theorem wX9_open {G : xG} {d : Nat} {a0 : Int32} {μ : xM} {Q : xP} (h : MW G d mX9_isFormula [vR (9, 0, 0), vI a0] μ (xrI fun x2 μ1 => xif (x2 = 0) (Q (some (vI (-1 : Int32))) μ1) (MW G d mX9_isFull [vR (9, 0, 0)] μ1 (xrI fun x4 μ3 => xif (x4 = 0) (MW G d mX9_openBoxes [vR (9, 0, 0)] μ3 (xrI fun x6 μ5 => xif (x6 = (5 : Int32)) (Q (some (vI (-4 : Int32))) μ5) (MW G d mX9_record [vR (9, 0, 0)] μ5 (xrV fun μ7 => vp_in (2 : Int32) 615 ∧ MW G d mX9_latest [vR (9, 0, 0)] μ7 (xrI fun x9 μ8 => vp_in (1 : Int32) 615 ∧ vp_in (((471 : Int32) + ((3 : Int32) * (μ7 (1, 0, 20) (2 : Int32).toNatClampNeg)))) 615 ∧ vp_in ((((471 : Int32) + ((3 : Int32) * (μ7 (1, 0, 20) (2 : Int32).toNatClampNeg))) + (1 : Int32))) 615 ∧ vp_in ((((471 : Int32) + ((3 : Int32) * (μ7 (1, 0, 20) (2 : Int32).toNatClampNeg))) + (2 : Int32))) 615 ∧ vp_in (2 : Int32) 615 ∧ vp_in (2 : Int32) 615 ∧ MW G d mX9_write [vR (9, 0, 0), vI a0, vI (1 : Int32), vI (-6 : Int32), vI (-6 : Int32), vI (-6 : Int32)] (xst (xst (xst (xst μ8 (1, 0, 20) (((471 : Int32) + ((3 : Int32) * (μ7 (1, 0, 20) (2 : Int32).toNatClampNeg)))).toNatClampNeg ((μ8 (1, 0, 20) (1 : Int32).toNatClampNeg))) (1, 0, 20) ((((471 : Int32) + ((3 : Int32) * (μ7 (1, 0, 20) (2 : Int32).toNatClampNeg))) + (1 : Int32))).toNatClampNeg (-6 : Int32)) (1, 0, 20) ((((471 : Int32) + ((3 : Int32) * (μ7 (1, 0, 20) (2 : Int32).toNatClampNeg))) + (2 : Int32))).toNatClampNeg x9) (1, 0, 20) (2 : Int32).toNatClampNeg ((((xst (xst (xst μ8 (1, 0, 20) (((471 : Int32) + ((3 : Int32) * (μ7 (1, 0, 20) (2 : Int32).toNatClampNeg)))).toNatClampNeg ((μ8 (1, 0, 20) (1 : Int32).toNatClampNeg))) (1, 0, 20) ((((471 : Int32) + ((3 : Int32) * (μ7 (1, 0, 20) (2 : Int32).toNatClampNeg))) + (1 : Int32))).toNatClampNeg (-6 : Int32)) (1, 0, 20) ((((471 : Int32) + ((3 : Int32) * (μ7 (1, 0, 20) (2 : Int32).toNatClampNeg))) + (2 : Int32))).toNatClampNeg x9) (1, 0, 20) (2 : Int32).toNatClampNeg) + (1 : Int32)))) (xrI fun x11 μ10 => Q (some (vI x11)) μ10)))))) (Q (some (vI (-4 : Int32))) μ3))))) : MW G (d + 1) mX9_open [vR (9, 0, 0), vI a0] μ Q := MW.of (E := eX9_open) okX9_open (Nat.le_of_ble_eq_true rfl) fun Z => WS.go okX9_open 72 h
set_option maxRecDepth 100000 in
set_option maxHeartbeats 4000000 in
theorem wX9_close {G : xG} {d : Nat} {μ : xM} {Q : xP} (h : MW G d mX9_latest [vR (9, 0, 0)] μ (xrI fun x2 μ1 => xif (x2 = (-6 : Int32)) (Q (some (vI (-3 : Int32))) μ1) (vp_in (1 : Int32) 615 ∧ MW G d mX9_boxOf [vR (9, 0, 0), vI ((μ1 (1, 0, 20) (1 : Int32).toNatClampNeg) - (1 : Int32))] μ1 (xrI fun x4 μ3 => xif (x4 = x2) (MW G d mX9_record [vR (9, 0, 0)] μ3 (xrV fun μ5 => vp_in (1 : Int32) 615 ∧ vp_in ((((471 : Int32) + ((3 : Int32) * x2)) + (1 : Int32))) 615 ∧ Q (some (vI x2)) (xst μ5 (1, 0, 20) ((((471 : Int32) + ((3 : Int32) * x2)) + (1 : Int32))).toNatClampNeg (((μ5 (1, 0, 20) (1 : Int32).toNatClampNeg) - (1 : Int32)))))) (Q (some (vI (-3 : Int32))) μ3))))) : MW G (d + 1) mX9_close [vR (9, 0, 0)] μ Q := MW.of (E := eX9_close) okX9_close (Nat.le_of_ble_eq_true rfl) fun Z => WS.go okX9_close 43 h
set_option maxRecDepth 100000 in
set_option maxHeartbeats 4000000 in
theorem wX9_repeat {G : xG} {d : Nat} {a0 : Int32} {μ : xM} {Q : xP} (h : MW G d mX9_isLine [vR (9, 0, 0), vI a0] μ (xrI fun x2 μ1 => xif (x2 = 0) (Q (some (vI (-1 : Int32))) μ1) (MW G d mX9_isAvailable [vR (9, 0, 0), vI a0] μ1 (xrI fun x4 μ3 => xif (x4 = 0) (Q (some (vI (-3 : Int32))) μ3) (MW G d mX9_formulaOf [vR (9, 0, 0), vI a0] μ3 (xrI fun x6 μ5 => MW G d mX9_writeOld [vR (9, 0, 0), vI x6, vI (2 : Int32), vI a0, vI (-6 : Int32), vI (-6 : Int32)] μ5 (xrI fun x8 μ7 => Q (some (vI x8)) μ7))))))) : MW G (d + 1) mX9_repeat [vR (9, 0, 0), vI a0] μ Q := MW.of (E := eX9_repeat) okX9_repeat (Nat.le_of_ble_eq_true rfl) fun Z => WS.go okX9_repeat 27 h
set_option maxRecDepth 100000 in
set_option maxHeartbeats 4000000 in
theorem wX9_fromTwo {G : xG} {d : Nat} {a0 : Int32} {a1 : Int32} {a2 : Int32} {μ : xM} {Q : xP} (h : ∀ Z : xZ, MW G d mX9_isLine [vR (9, 0, 0), vI a1] μ (xrI fun x2 μ1 => xif (x2 = 0) (Q (some (vI (-1 : Int32))) μ1) (MW G d mX9_isLine [vR (9, 0, 0), vI a2] μ1 (xrI fun x4 μ3 => xif (x4 = 0) (Q (some (vI (-1 : Int32))) μ3) (xif (a0 = (3 : Int32)) (WS G eX9_fromTwo (d + 1) Z Q 38 [vR (9, 0, 0), vI a0, vI a1, vI a2, vN, vN] [] μ3) (xif (a0 = (9 : Int32)) (WS G eX9_fromTwo (d + 1) Z Q 38 [vR (9, 0, 0), vI a0, vI a1, vI a2, vN, vN] [] μ3) (xif (a0 = (11 : Int32)) (WS G eX9_fromTwo (d + 1) Z Q 38 [vR (9, 0, 0), vI a0, vI a1, vI a2, vN, vN] [] μ3) (Q (some (vI (-2 : Int32))) μ3)))))))) : MW G (d + 1) mX9_fromTwo [vR (9, 0, 0), vI a0, vI a1, vI a2] μ Q := MW.of (E := eX9_fromTwo) okX9_fromTwo (Nat.le_of_ble_eq_true rfl) fun Z => WS.go okX9_fromTwo 95 (h Z)
set_option maxRecDepth 100000 in
set_option maxHeartbeats 4000000 in
theorem wX9_fromTwo_38 {G : xG} {d : Nat} {Z : xZ} {v1 : Int32} {v2 : Int32} {v3 : Int32} {μ : xM} {Q : xP} (h : MW G d mX9_isAvailable [vR (9, 0, 0), vI v2] μ (xrI fun x2 μ1 => xif (x2 = 0) (Q (some (vI (-3 : Int32))) μ1) (MW G d mX9_isAvailable [vR (9, 0, 0), vI v3] μ1 (xrI fun x4 μ3 => xif (x4 = 0) (Q (some (vI (-3 : Int32))) μ3) (MW G d mX9_formulaOf [vR (9, 0, 0), vI v2] μ3 (xrI fun x6 μ5 => MW G d mX9_formulaOf [vR (9, 0, 0), vI v3] μ5 (xrI fun x8 μ7 => xif (v1 = (3 : Int32)) (MW G d mX9_writeNew [vR (9, 0, 0), vI (3 : Int32), vI x6, vI x8, vI (3 : Int32), vI v2, vI v3] μ7 (xrI fun x10 μ9 => Q (some (vI x10)) μ9)) (MW G d mX9_kind [vR (9, 0, 0), vI x6] μ7 (xrI fun x12 μ11 => xif (v1 = (9 : Int32)) (WS G eX9_fromTwo (d + 1) Z Q 106 [vR (9, 0, 0), vI v1, vI v2, vI v3, vI x6, vI x8] [vI (5 : Int32), vI x12] μ11) (WS G eX9_fromTwo (d + 1) Z Q 106 [vR (9, 0, 0), vI v1, vI v2, vI v3, vI x6, vI x8] [vI (2 : Int32), vI x12] μ11)))))))))) : WS G eX9_fromTwo (d + 1) Z Q 38 [vR (9, 0, 0), vI v1, vI v2, vI v3, vN, vN] [] μ := WS.go okX9_fromTwo 95 h
set_option maxRecDepth 100000 in
set_option maxHeartbeats 4000000 in
theorem wX9_fromTwo_106 {G : xG} {d : Nat} {Z : xZ} {v1 : Int32} {v2 : Int32} {v3 : Int32} {v4 : Int32} {v5 : Int32} {s0 : Int32} {s1 : Int32} {μ : xM} {Q : xP} (h : xif (s0 = s1) (MW G d mX9_left [vR (9, 0, 0), vI v4] μ (xrI fun x2 μ1 => xif (x2 = v5) (xif (v1 = (9 : Int32)) (MW G d mX9_right [vR (9, 0, 0), vI v4] μ1 (xrI fun x4 μ3 => MW G d mX9_writeOld [vR (9, 0, 0), vI x4, vI (9 : Int32), vI v2, vI v3, vI (-6 : Int32)] μ3 (xrI fun x6 μ5 => Q (some (vI x6)) μ5))) (MW G d mX9_writeNew [vR (9, 0, 0), vI (1 : Int32), vI (-6 : Int32), vI (-6 : Int32), vI (11 : Int32), vI v2, vI v3] μ1 (xrI fun x8 μ7 => Q (some (vI x8)) μ7))) (Q (some (vI (-3 : Int32))) μ1))) (Q (some (vI (-3 : Int32))) μ)) : WS G eX9_fromTwo (d + 1) Z Q 106 [vR (9, 0, 0), vI v1, vI v2, vI v3, vI v4, vI v5] [vI s1, vI s0] μ := WS.go okX9_fromTwo 95 h
set_option maxRecDepth 100000 in
set_option maxHeartbeats 4000000 in
theorem wX9_fromOne {G : xG} {d : Nat} {a0 : Int32} {a1 : Int32} {μ : xM} {Q : xP} (h : ∀ Z : xZ, MW G d mX9_isLine [vR (9, 0, 0), vI a1] μ (xrI fun x2 μ1 => xif (x2 = 0) (Q (some (vI (-1 : Int32))) μ1) (xif (a0 = (4 : Int32)) (WS G eX9_fromOne (d + 1) Z Q 29 [vR (9, 0, 0), vI a0, vI a1, vN, vN] [] μ1) (xif (a0 = (5 : Int32)) (WS G eX9_fromOne (d + 1) Z Q 29 [vR (9, 0, 0), vI a0, vI a1, vN, vN] [] μ1) (xif (a0 = (13 : Int32)) (WS G eX9_fromOne (d + 1) Z Q 29 [vR (9, 0, 0), vI a0, vI a1, vN, vN] [] μ1) (Q (some (vI (-2 : Int32))) μ1)))))) : MW G (d + 1) mX9_fromOne [vR (9, 0, 0), vI a0, vI a1] μ Q := MW.of (E := eX9_fromOne) okX9_fromOne (Nat.le_of_ble_eq_true rfl) fun Z => WS.go okX9_fromOne 88 (h Z)
set_option maxRecDepth 100000 in
set_option maxHeartbeats 4000000 in
theorem wX9_fromOne_29 {G : xG} {d : Nat} {Z : xZ} {v1 : Int32} {v2 : Int32} {μ : xM} {Q : xP} (h : MW G d mX9_formulaOf [vR (9, 0, 0), vI v2] μ (xrI fun x2 μ1 => xif (v1 = (13 : Int32)) (MW G d mX9_kind [vR (9, 0, 0), vI x2] μ1 (xrI fun x4 μ3 => xif (x4 = (2 : Int32)) (MW G d mX9_left [vR (9, 0, 0), vI x2] μ3 (xrI fun x6 μ5 => MW G d mX9_kind [vR (9, 0, 0), vI x6] μ5 (xrI fun x8 μ7 => xif (x8 = (2 : Int32)) (WS G eX9_fromOne (d + 1) Z Q 85 [vR (9, 0, 0), vI v1, vI v2, vI x2, vN] [vI (1 : Int32)] μ7) (WS G eX9_fromOne (d + 1) Z Q 67 [vR (9, 0, 0), vI v1, vI v2, vI x2, vN] [] μ7)))) (WS G eX9_fromOne (d + 1) Z Q 67 [vR (9, 0, 0), vI v1, vI v2, vI x2, vN] [] μ3))) (MW G d mX9_kind [vR (9, 0, 0), vI x2] μ1 (xrI fun x10 μ9 => xif (x10 = (3 : Int32)) (WS G eX9_fromOne (d + 1) Z Q 85 [vR (9, 0, 0), vI v1, vI v2, vI x2, vN] [vI (1 : Int32)] μ9) (WS G eX9_fromOne (d + 1) Z Q 85 [vR (9, 0, 0), vI v1, vI v2, vI x2, vN] [vI (0 : Int32)] μ9))))) : WS G eX9_fromOne (d + 1) Z Q 29 [vR (9, 0, 0), vI v1, vI v2, vN, vN] [] μ := WS.go okX9_fromOne 88 h
set_option maxRecDepth 100000 in
set_option maxHeartbeats 4000000 in
theorem wX9_fromOne_67 {G : xG} {d : Nat} {Z : xZ} {v1 : Int32} {v2 : Int32} {v3 : Int32} {μ : xM} {Q : xP} (h : WS G eX9_fromOne (d + 1) Z Q 85 [vR (9, 0, 0), vI v1, vI v2, vI v3, vN] [vI (0 : Int32)] μ) : WS G eX9_fromOne (d + 1) Z Q 67 [vR (9, 0, 0), vI v1, vI v2, vI v3, vN] [] μ := WS.go okX9_fromOne 88 h
set_option maxRecDepth 100000 in
set_option maxHeartbeats 4000000 in
theorem wX9_fromOne_85 {G : xG} {d : Nat} {Z : xZ} {v1 : Int32} {v2 : Int32} {v3 : Int32} {s0 : Int32} {μ : xM} {Q : xP} (h : xif (s0 = 0) (Q (some (vI (-3 : Int32))) μ) (MW G d mX9_isAvailable [vR (9, 0, 0), vI v2] μ (xrI fun x2 μ1 => xif (x2 = 0) (Q (some (vI (-3 : Int32))) μ1) (xif (v1 = (4 : Int32)) (MW G d mX9_left [vR (9, 0, 0), vI v3] μ1 (xrI fun x4 μ3 => WS G eX9_fromOne (d + 1) Z Q 139 [vN, vI v1, vI v2, vN, vN] [vI x4, vR (9, 0, 0)] μ3)) (xif (v1 = (5 : Int32)) (MW G d mX9_right [vR (9, 0, 0), vI v3] μ1 (xrI fun x6 μ5 => WS G eX9_fromOne (d + 1) Z Q 139 [vN, vI v1, vI v2, vN, vN] [vI x6, vR (9, 0, 0)] μ5)) (MW G d mX9_left [vR (9, 0, 0), vI v3] μ1 (xrI fun x8 μ7 => MW G d mX9_left [vR (9, 0, 0), vI x8] μ7 (xrI fun x10 μ9 => WS G eX9_fromOne (d + 1) Z Q 139 [vN, vI v1, vI v2, vN, vN] [vI x10, vR (9, 0, 0)] μ9)))))))) : WS G eX9_fromOne (d + 1) Z Q 85 [vR (9, 0, 0), vI v1, vI v2, vI v3, vN] [vI s0] μ := WS.go okX9_fromOne 88 h
set_option maxRecDepth 100000 in
set_option maxHeartbeats 4000000 in
theorem wX9_fromOne_139 {G : xG} {d : Nat} {Z : xZ} {v1 : Int32} {v2 : Int32} {s1 : Int32} {μ : xM} {Q : xP} (h : MW G d mX9_writeOld [vR (9, 0, 0), vI s1, vI v1, vI v2, vI (-6 : Int32), vI (-6 : Int32)] μ (xrI fun x2 μ1 => Q (some (vI x2)) μ1)) : WS G eX9_fromOne (d + 1) Z Q 139 [vN, vI v1, vI v2, vN, vN] [vI s1, vR (9, 0, 0)] μ := WS.go okX9_fromOne 88 h
set_option maxRecDepth 100000 in
set_option maxHeartbeats 4000000 in
theorem wX9_toFormula {G : xG} {d : Nat} {a0 : Int32} {a1 : Int32} {a2 : Int32} {μ : xM} {Q : xP} (h : ∀ Z : xZ, MW G d mX9_isLine [vR (9, 0, 0), vI a1] μ (xrI fun x2 μ1 => xif (x2 = 0) (Q (some (vI (-1 : Int32))) μ1) (MW G d mX9_isFormula [vR (9, 0, 0), vI a2] μ1 (xrI fun x4 μ3 => xif (x4 = 0) (Q (some (vI (-1 : Int32))) μ3) (xif (a0 = (6 : Int32)) (WS G eX9_toFormula (d + 1) Z Q 33 [vR (9, 0, 0), vI a0, vI a1, vI a2, vN, vN] [] μ3) (xif (a0 = (12 : Int32)) (WS G eX9_toFormula (d + 1) Z Q 33 [vR (9, 0, 0), vI a0, vI a1, vI a2, vN, vN] [] μ3) (Q (some (vI (-2 : Int32))) μ3))))))) : MW G (d + 1) mX9_toFormula [vR (9, 0, 0), vI a0, vI a1, vI a2] μ Q := MW.of (E := eX9_toFormula) okX9_toFormula (Nat.le_of_ble_eq_true rfl) fun Z => WS.go okX9_toFormula 74 (h Z)
set_option maxRecDepth 100000 in
set_option maxHeartbeats 4000000 in
theorem wX9_toFormula_33 {G : xG} {d : Nat} {Z : xZ} {v1 : Int32} {v2 : Int32} {v3 : Int32} {μ : xM} {Q : xP} (h : MW G d mX9_formulaOf [vR (9, 0, 0), vI v2] μ (xrI fun x2 μ1 => xif (v1 = (12 : Int32)) (MW G d mX9_kind [vR (9, 0, 0), vI x2] μ1 (xrI fun x4 μ3 => xif (x4 = (1 : Int32)) (WS G eX9_toFormula (d + 1) Z Q 98 [vR (9, 0, 0), vI v1, vI v2, vI v3, vN, vN] [vI (1 : Int32)] μ3) (WS G eX9_toFormula (d + 1) Z Q 98 [vR (9, 0, 0), vI v1, vI v2, vI v3, vN, vN] [vI (0 : Int32)] μ3))) (MW G d mX9_kind [vR (9, 0, 0), vI v3] μ1 (xrI fun x6 μ5 => xif (x6 = (4 : Int32)) (MW G d mX9_left [vR (9, 0, 0), vI v3] μ5 (xrI fun x8 μ7 => xif (x8 = x2) (WS G eX9_toFormula (d + 1) Z Q 93 [vR (9, 0, 0), vI v1, vI v2, vI v3, vN, vN] [] μ7) (MW G d mX9_right [vR (9, 0, 0), vI v3] μ7 (xrI fun x10 μ9 => xif (x10 = x2) (WS G eX9_toFormula (d + 1) Z Q 93 [vR (9, 0, 0), vI v1, vI v2, vI v3, vN, vN] [] μ9) (WS G eX9_toFormula (d + 1) Z Q 97 [vR (9, 0, 0), vI v1, vI v2, vI v3, vN, vN] [] μ9))))) (WS G eX9_toFormula (d + 1) Z Q 97 [vR (9, 0, 0), vI v1, vI v2, vI v3, vN, vN] [] μ5))))) : WS G eX9_toFormula (d + 1) Z Q 33 [vR (9, 0, 0), vI v1, vI v2, vI v3, vN, vN] [] μ := WS.go okX9_toFormula 74 h
set_option maxRecDepth 100000 in
set_option maxHeartbeats 4000000 in
theorem wX9_toFormula_93 {G : xG} {d : Nat} {Z : xZ} {v1 : Int32} {v2 : Int32} {v3 : Int32} {μ : xM} {Q : xP} (h : WS G eX9_toFormula (d + 1) Z Q 98 [vR (9, 0, 0), vI v1, vI v2, vI v3, vN, vN] [vI (1 : Int32)] μ) : WS G eX9_toFormula (d + 1) Z Q 93 [vR (9, 0, 0), vI v1, vI v2, vI v3, vN, vN] [] μ := WS.go okX9_toFormula 74 h
set_option maxRecDepth 100000 in
set_option maxHeartbeats 4000000 in
theorem wX9_toFormula_97 {G : xG} {d : Nat} {Z : xZ} {v1 : Int32} {v2 : Int32} {v3 : Int32} {μ : xM} {Q : xP} (h : WS G eX9_toFormula (d + 1) Z Q 98 [vR (9, 0, 0), vI v1, vI v2, vI v3, vN, vN] [vI (0 : Int32)] μ) : WS G eX9_toFormula (d + 1) Z Q 97 [vR (9, 0, 0), vI v1, vI v2, vI v3, vN, vN] [] μ := WS.go okX9_toFormula 74 h
set_option maxRecDepth 100000 in
set_option maxHeartbeats 4000000 in
theorem wX9_toFormula_98 {G : xG} {d : Nat} {Z : xZ} {v1 : Int32} {v2 : Int32} {v3 : Int32} {s0 : Int32} {μ : xM} {Q : xP} (h : xif (s0 = 0) (Q (some (vI (-3 : Int32))) μ) (MW G d mX9_isAvailable [vR (9, 0, 0), vI v2] μ (xrI fun x2 μ1 => xif (x2 = 0) (Q (some (vI (-3 : Int32))) μ1) (MW G d mX9_writeOld [vR (9, 0, 0), vI v3, vI v1, vI v2, vI (-6 : Int32), vI (-6 : Int32)] μ1 (xrI fun x4 μ3 => Q (some (vI x4)) μ3))))) : WS G eX9_toFormula (d + 1) Z Q 98 [vR (9, 0, 0), vI v1, vI v2, vI v3, vN, vN] [vI s0] μ := WS.go okX9_toFormula 74 h
set_option maxRecDepth 100000 in
set_option maxHeartbeats 4000000 in
theorem wX9_fromBox {G : xG} {d : Nat} {a0 : Int32} {a1 : Int32} {μ : xM} {Q : xP} (h : ∀ Z : xZ, MW G d mX9_isBox [vR (9, 0, 0), vI a1] μ (xrI fun x2 μ1 => xif (x2 = 0) (Q (some (vI (-1 : Int32))) μ1) (xif (a0 = (8 : Int32)) (WS G eX9_fromBox (d + 1) Z Q 25 [vR (9, 0, 0), vI a0, vI a1, vN, vN] [] μ1) (xif (a0 = (10 : Int32)) (WS G eX9_fromBox (d + 1) Z Q 25 [vR (9, 0, 0), vI a0, vI a1, vN, vN] [] μ1) (Q (some (vI (-2 : Int32))) μ1))))) : MW G (d + 1) mX9_fromBox [vR (9, 0, 0), vI a0, vI a1] μ Q := MW.of (E := eX9_fromBox) okX9_fromBox (Nat.le_of_ble_eq_true rfl) fun Z => WS.go okX9_fromBox 65 (h Z)
set_option maxRecDepth 100000 in
set_option maxHeartbeats 4000000 in
theorem wX9_fromBox_25 {G : xG} {d : Nat} {Z : xZ} {v1 : Int32} {v2 : Int32} {μ : xM} {Q : xP} (h : MW G d mX9_isBoxAvailable [vR (9, 0, 0), vI v2] μ (xrI fun x2 μ1 => xif (x2 = 0) (Q (some (vI (-3 : Int32))) μ1) (MW G d mX9_opens [vR (9, 0, 0), vI v2] μ1 (xrI fun x4 μ3 => MW G d mX9_formulaOf [vR (9, 0, 0), vI x4] μ3 (xrI fun x6 μ5 => MW G d mX9_ends [vR (9, 0, 0), vI v2] μ5 (xrI fun x8 μ7 => MW G d mX9_formulaOf [vR (9, 0, 0), vI x8] μ7 (xrI fun x10 μ9 => xif (v1 = (8 : Int32)) (MW G d mX9_writeNew [vR (9, 0, 0), vI (5 : Int32), vI x6, vI x10, vI (8 : Int32), vI v2, vI (-6 : Int32)] μ9 (xrI fun x12 μ11 => Q (some (vI x12)) μ11)) (MW G d mX9_kind [vR (9, 0, 0), vI x10] μ9 (xrI fun x14 μ13 => xif (x14 = (1 : Int32)) (MW G d mX9_writeNew [vR (9, 0, 0), vI (2 : Int32), vI x6, vI (-6 : Int32), vI (10 : Int32), vI v2, vI (-6 : Int32)] μ13 (xrI fun x16 μ15 => Q (some (vI x16)) μ15)) (Q (some (vI (-3 : Int32))) μ13)))))))))) : WS G eX9_fromBox (d + 1) Z Q 25 [vR (9, 0, 0), vI v1, vI v2, vN, vN] [] μ := WS.go okX9_fromBox 65 h
set_option maxRecDepth 100000 in
set_option maxHeartbeats 4000000 in
theorem wX9_cases {G : xG} {d : Nat} {a0 : Int32} {a1 : Int32} {a2 : Int32} {μ : xM} {Q : xP} (h : ∀ Z : xZ, MW G d mX9_isLine [vR (9, 0, 0), vI a0] μ (xrI fun x2 μ1 => xif (x2 = 0) (Q (some (vI (-1 : Int32))) μ1) (MW G d mX9_isBox [vR (9, 0, 0), vI a1] μ1 (xrI fun x4 μ3 => xif (x4 = 0) (Q (some (vI (-1 : Int32))) μ3) (MW G d mX9_isBox [vR (9, 0, 0), vI a2] μ3 (xrI fun x6 μ5 => xif (x6 = 0) (Q (some (vI (-1 : Int32))) μ5) (MW G d mX9_formulaOf [vR (9, 0, 0), vI a0] μ5 (xrI fun x8 μ7 => MW G d mX9_isAvailable [vR (9, 0, 0), vI a0] μ7 (xrI fun x10 μ9 => xif (x10 = 0) (Q (some (vI (-3 : Int32))) μ9) (MW G d mX9_isBoxAvailable [vR (9, 0, 0), vI a1] μ9 (xrI fun x12 μ11 => xif (x12 = 0) (Q (some (vI (-3 : Int32))) μ11) (MW G d mX9_isBoxAvailable [vR (9, 0, 0), vI a2] μ11 (xrI fun x14 μ13 => xif (x14 = 0) (Q (some (vI (-3 : Int32))) μ13) (MW G d mX9_kind [vR (9, 0, 0), vI x8] μ13 (xrI fun x16 μ15 => xif (x16 = (4 : Int32)) (MW G d mX9_opens [vR (9, 0, 0), vI a1] μ15 (xrI fun x18 μ17 => MW G d mX9_formulaOf [vR (9, 0, 0), vI x18] μ17 (xrI fun x20 μ19 => MW G d mX9_left [vR (9, 0, 0), vI x8] μ19 (xrI fun x22 μ21 => xif (x20 = x22) (MW G d mX9_opens [vR (9, 0, 0), vI a2] μ21 (xrI fun x24 μ23 => MW G d mX9_formulaOf [vR (9, 0, 0), vI x24] μ23 (xrI fun x26 μ25 => MW G d mX9_right [vR (9, 0, 0), vI x8] μ25 (xrI fun x28 μ27 => xif (x26 = x28) (MW G d mX9_ends [vR (9, 0, 0), vI a1] μ27 (xrI fun x30 μ29 => MW G d mX9_formulaOf [vR (9, 0, 0), vI x30] μ29 (xrI fun x32 μ31 => MW G d mX9_ends [vR (9, 0, 0), vI a2] μ31 (xrI fun x34 μ33 => MW G d mX9_formulaOf [vR (9, 0, 0), vI x34] μ33 (xrI fun x36 μ35 => xif (x32 = x36) (WS G eX9_cases (d + 1) Z Q 132 [vR (9, 0, 0), vI a0, vI a1, vI a2, vN, vN] [vI (1 : Int32)] μ35) (WS G eX9_cases (d + 1) Z Q 131 [vR (9, 0, 0), vI a0, vI a1, vI a2, vN, vN] [] μ35)))))) (WS G eX9_cases (d + 1) Z Q 131 [vR (9, 0, 0), vI a0, vI a1, vI a2, vN, vN] [] μ27))))) (WS G eX9_cases (d + 1) Z Q 131 [vR (9, 0, 0), vI a0, vI a1, vI a2, vN, vN] [] μ21))))) (Q (some (vI (-3 : Int32))) μ15)))))))))))))))) : MW G (d + 1) mX9_cases [vR (9, 0, 0), vI a0, vI a1, vI a2] μ Q := MW.of (E := eX9_cases) okX9_cases (Nat.le_of_ble_eq_true rfl) fun Z => WS.go okX9_cases 91 (h Z)
set_option maxRecDepth 100000 in
set_option maxHeartbeats 4000000 in
theorem wX9_cases_131 {G : xG} {d : Nat} {Z : xZ} {v1 : Int32} {v2 : Int32} {v3 : Int32} {μ : xM} {Q : xP} (h : WS G eX9_cases (d + 1) Z Q 132 [vR (9, 0, 0), vI v1, vI v2, vI v3, vN, vN] [vI (0 : Int32)] μ) : WS G eX9_cases (d + 1) Z Q 131 [vR (9, 0, 0), vI v1, vI v2, vI v3, vN, vN] [] μ := WS.go okX9_cases 91 h
set_option maxRecDepth 100000 in
set_option maxHeartbeats 4000000 in
theorem wX9_cases_132 {G : xG} {d : Nat} {Z : xZ} {v1 : Int32} {v2 : Int32} {v3 : Int32} {s0 : Int32} {μ : xM} {Q : xP} (h : xif (s0 = 0) (Q (some (vI (-3 : Int32))) μ) (MW G d mX9_ends [vR (9, 0, 0), vI v2] μ (xrI fun x2 μ1 => MW G d mX9_formulaOf [vR (9, 0, 0), vI x2] μ1 (xrI fun x4 μ3 => MW G d mX9_writeOld [vR (9, 0, 0), vI x4, vI (7 : Int32), vI v1, vI v2, vI v3] μ3 (xrI fun x6 μ5 => Q (some (vI x6)) μ5))))) : WS G eX9_cases (d + 1) Z Q 132 [vR (9, 0, 0), vI v1, vI v2, vI v3, vN, vN] [vI s0] μ := WS.go okX9_cases 91 h
set_option maxRecDepth 100000 in
set_option maxHeartbeats 4000000 in
theorem wX9_lines {G : xG} {d : Nat} {μ : xM} {Q : xP} (h : vp_in (1 : Int32) 615 ∧ Q (some (vI ((μ (1, 0, 20) (1 : Int32).toNatClampNeg)))) μ) : MW G (d + 1) mX9_lines [vR (9, 0, 0)] μ Q := MW.of (E := eX9_lines) okX9_lines (Nat.le_of_ble_eq_true rfl) fun Z => WS.go okX9_lines 10 h
set_option maxRecDepth 100000 in
set_option maxHeartbeats 4000000 in
theorem wX9_isToBox {G : xG} {d : Nat} {a0 : Int32} {a1 : Int32} {μ : xM} {Q : xP} (h : MW G d mX9_ruleOf [vR (9, 0, 0), vI a0] μ (xrI fun x2 μ1 => xif (x2 = (8 : Int32)) (((1 : Int32) = 0 ∨ (1 : Int32) = 1) ∧ Q (some (vI (1 : Int32))) μ1) (xif (x2 = (10 : Int32)) (((1 : Int32) = 0 ∨ (1 : Int32) = 1) ∧ Q (some (vI (1 : Int32))) μ1) (xif (x2 = (7 : Int32)) (xif (a1 ≤ 0) (((0 : Int32) = 0 ∨ (0 : Int32) = 1) ∧ Q (some (vI (0 : Int32))) μ1) (((1 : Int32) = 0 ∨ (1 : Int32) = 1) ∧ Q (some (vI (1 : Int32))) μ1)) (((0 : Int32) = 0 ∨ (0 : Int32) = 1) ∧ Q (some (vI (0 : Int32))) μ1))))) : MW G (d + 1) mX9_isToBox [vR (9, 0, 0), vI a0, vI a1] μ Q := MW.of (E := eX9_isToBox) okX9_isToBox (Nat.le_of_ble_eq_true rfl) fun Z => WS.go okX9_isToBox 24 h
set_option maxRecDepth 100000 in
set_option maxHeartbeats 4000000 in
theorem wX9_direct {G : xG} {d : Nat} {a0 : Int32} {μ : xM} {Q : xP} (h : ∀ Z : xZ, WS G eX9_direct (d + 1) Z Q 5 [vR (9, 0, 0), vI a0, vL (0 : Int64), vN, vI (0 : Int32), vN] [] μ) : MW G (d + 1) mX9_direct [vR (9, 0, 0), vI a0] μ Q := MW.of (E := eX9_direct) okX9_direct (Nat.le_of_ble_eq_true rfl) fun Z => WS.go okX9_direct 47 (h Z)
set_option maxRecDepth 100000 in
set_option maxHeartbeats 4000000 in
theorem wX9_direct_5 {G : xG} {d : Nat} {Z : xZ} {v1 : Int32} {v2 : Int64} {v4 : Int32} {μ : xM} {Q : xP} (h : xif ((3 : Int32) ≤ v4) (Q (some (vL v2)) μ) (MW G d mX9_refOf [vR (9, 0, 0), vI v1, vI v4] μ (xrI fun x2 μ1 => xif (x2 = (-6 : Int32)) (WS G eX9_direct (d + 1) Z Q 5 [vR (9, 0, 0), vI v1, vL v2, vN, vI (v4 + (1 : Int32)), vN] [] μ1) (MW G d mX9_isToBox [vR (9, 0, 0), vI v1, vI v4] μ1 (xrI fun x4 μ3 => xif (x4 = 0) (WS G eX9_direct (d + 1) Z Q 5 [vR (9, 0, 0), vI v1, vL (v2 ||| (xls (1 : Int64) x2)), vN, vI (v4 + (1 : Int32)), vN] [] μ3) (MW G d mX9_opens [vR (9, 0, 0), vI x2] μ3 (xrI fun x6 μ5 => MW G d mX9_ends [vR (9, 0, 0), vI x2] μ5 (xrI fun x8 μ7 => WS G eX9_direct (d + 1) Z Q 5 [vR (9, 0, 0), vI v1, vL (v2 ||| ((xls (1 : Int64) x6) ||| (xls (1 : Int64) x8))), vN, vI (v4 + (1 : Int32)), vN] [] μ7)))))))) : WS G eX9_direct (d + 1) Z Q 5 [vR (9, 0, 0), vI v1, vL v2, vN, vI v4, vN] [] μ := WS.go okX9_direct 47 h
set_option maxRecDepth 100000 in
set_option maxHeartbeats 4000000 in
theorem wX9_neededBy {G : xG} {d : Nat} {a0 : Int32} {μ : xM} {Q : xP} (h : ∀ Z : xZ, WS G eX9_neededBy (d + 1) Z Q 4 [vR (9, 0, 0), vI a0, vI (0 : Int32), vI (0 : Int32)] [] μ) : MW G (d + 1) mX9_neededBy [vR (9, 0, 0), vI a0] μ Q := MW.of (E := eX9_neededBy) okX9_neededBy (Nat.le_of_ble_eq_true rfl) fun Z => WS.go okX9_neededBy 35 (h Z)
set_option maxRecDepth 100000 in
set_option maxHeartbeats 4000000 in
theorem wX9_neededBy_4 {G : xG} {d : Nat} {Z : xZ} {v1 : Int32} {v2 : Int32} {v3 : Int32} {μ : xM} {Q : xP} (h : vp_in (1 : Int32) 615 ∧ xif ((μ (1, 0, 20) (1 : Int32).toNatClampNeg) ≤ v3) (Q (some (vI v2)) μ) (MW G d mX9_direct [vR (9, 0, 0), vI v3] μ (xrL fun y2 μ1 => xif ((lg_cmp (((xlr y2 v1) &&& (1 : Int64))) (1 : Int64)) = 0) (WS G eX9_neededBy (d + 1) Z Q 4 [vR (9, 0, 0), vI v1, vI (v2 + (1 : Int32)), vI (v3 + (1 : Int32))] [] μ1) (WS G eX9_neededBy (d + 1) Z Q 4 [vR (9, 0, 0), vI v1, vI (v2 + (0 : Int32)), vI (v3 + (1 : Int32))] [] μ1)))) : WS G eX9_neededBy (d + 1) Z Q 4 [vR (9, 0, 0), vI v1, vI v2, vI v3] [] μ := WS.go okX9_neededBy 35 h
set_option maxRecDepth 100000 in
set_option maxHeartbeats 4000000 in
theorem wX9_line {G : xG} {d : Nat} {a0 : Int32} {a1 : Int32} {μ : xM} {Q : xP} (h : MW G d mX9_isLine [vR (9, 0, 0), vI a0] μ (xrI fun x2 μ1 => xif (x2 = 0) (Q (some (vI (-1 : Int32))) μ1) ((a1 = 0 → MW G d mX9_formulaOf [vR (9, 0, 0), vI a0] μ1 (xrI fun x4 μ3 => Q (some (vI x4)) μ3)) ∧ (¬ a1 = 0 → (a1 = 1 → MW G d mX9_ruleOf [vR (9, 0, 0), vI a0] μ1 (xrI fun x6 μ5 => Q (some (vI x6)) μ5)) ∧ (¬ a1 = 1 → (a1 = 2 → MW G d mX9_boxOf [vR (9, 0, 0), vI a0] μ1 (xrI fun x8 μ7 => Q (some (vI x8)) μ7)) ∧ (¬ a1 = 2 → (a1 = 3 → MW G d mX9_depthOf [vR (9, 0, 0), vI a0] μ1 (xrI fun x10 μ9 => Q (some (vI x10)) μ9)) ∧ (¬ a1 = 3 → (a1 = 4 → MW G d mX9_isAvailable [vR (9, 0, 0), vI a0] μ1 (xrI fun x12 μ11 => xif (x12 = 0) (Q (some (vI (0 : Int32))) μ11) (Q (some (vI (1 : Int32))) μ11))) ∧ (¬ a1 = 4 → (a1 = 5 → MW G d mX9_neededBy [vR (9, 0, 0), vI a0] μ1 (xrI fun x14 μ13 => Q (some (vI x14)) μ13)) ∧ (¬ a1 = 5 → Q (some (vI (-2 : Int32))) μ1))))))))) : MW G (d + 1) mX9_line [vR (9, 0, 0), vI a0, vI a1] μ Q := MW.of (E := eX9_line) okX9_line (Nat.le_of_ble_eq_true rfl) fun Z => WS.go okX9_line 43 h
set_option maxRecDepth 100000 in
set_option maxHeartbeats 4000000 in
theorem wX9_reference {G : xG} {d : Nat} {a0 : Int32} {a1 : Int32} {μ : xM} {Q : xP} (h : MW G d mX9_isLine [vR (9, 0, 0), vI a0] μ (xrI fun x2 μ1 => xif (x2 = 0) (Q (some (vI (-1 : Int32))) μ1) (MW G d mX9_in [vI a1, vI (0 : Int32), vI (2 : Int32)] μ1 (xrI fun x4 μ3 => xif (x4 = 0) (Q (some (vI (-1 : Int32))) μ3) (MW G d mX9_refOf [vR (9, 0, 0), vI a0, vI a1] μ3 (xrI fun x6 μ5 => xif (x6 = (-6 : Int32)) (Q (some (vI (-1 : Int32))) μ5) (MW G d mX9_refOf [vR (9, 0, 0), vI a0, vI a1] μ5 (xrI fun x8 μ7 => Q (some (vI x8)) μ7)))))))) : MW G (d + 1) mX9_reference [vR (9, 0, 0), vI a0, vI a1] μ Q := MW.of (E := eX9_reference) okX9_reference (Nat.le_of_ble_eq_true rfl) fun Z => WS.go okX9_reference 27 h
set_option maxRecDepth 100000 in
set_option maxHeartbeats 4000000 in
theorem wX9_boxes {G : xG} {d : Nat} {μ : xM} {Q : xP} (h : vp_in (2 : Int32) 615 ∧ Q (some (vI ((μ (1, 0, 20) (2 : Int32).toNatClampNeg)))) μ) : MW G (d + 1) mX9_boxes [vR (9, 0, 0)] μ Q := MW.of (E := eX9_boxes) okX9_boxes (Nat.le_of_ble_eq_true rfl) fun Z => WS.go okX9_boxes 10 h
set_option maxRecDepth 100000 in
set_option maxHeartbeats 4000000 in
theorem wX9_box {G : xG} {d : Nat} {a0 : Int32} {a1 : Int32} {μ : xM} {Q : xP} (h : MW G d mX9_isBox [vR (9, 0, 0), vI a0] μ (xrI fun x2 μ1 => xif (x2 = 0) (Q (some (vI (-1 : Int32))) μ1) ((a1 = 0 → MW G d mX9_opens [vR (9, 0, 0), vI a0] μ1 (xrI fun x4 μ3 => Q (some (vI x4)) μ3)) ∧ (¬ a1 = 0 → (a1 = 1 → MW G d mX9_ends [vR (9, 0, 0), vI a0] μ1 (xrI fun x6 μ5 => Q (some (vI x6)) μ5)) ∧ (¬ a1 = 1 → (a1 = 2 → MW G d mX9_parent [vR (9, 0, 0), vI a0] μ1 (xrI fun x8 μ7 => Q (some (vI x8)) μ7)) ∧ (¬ a1 = 2 → (a1 = 3 → MW G d mX9_isBoxAvailable [vR (9, 0, 0), vI a0] μ1 (xrI fun x10 μ9 => xif (x10 = 0) (Q (some (vI (0 : Int32))) μ9) (Q (some (vI (1 : Int32))) μ9))) ∧ (¬ a1 = 3 → Q (some (vI (-2 : Int32))) μ1))))))) : MW G (d + 1) mX9_box [vR (9, 0, 0), vI a0, vI a1] μ Q := MW.of (E := eX9_box) okX9_box (Nat.le_of_ble_eq_true rfl) fun Z => WS.go okX9_box 35 h
set_option maxRecDepth 100000 in
set_option maxHeartbeats 4000000 in
theorem wX9_depth {G : xG} {d : Nat} {μ : xM} {Q : xP} (h : MW G d mX9_openBoxes [vR (9, 0, 0)] μ (xrI fun x2 μ1 => Q (some (vI x2)) μ1)) : MW G (d + 1) mX9_depth [vR (9, 0, 0)] μ Q := MW.of (E := eX9_depth) okX9_depth (Nat.le_of_ble_eq_true rfl) fun Z => WS.go okX9_depth 8 h
set_option maxRecDepth 100000 in
set_option maxHeartbeats 4000000 in
theorem wX9_assumed {G : xG} {d : Nat} {a0 : Int32} {μ : xM} {Q : xP} (h : ∀ Z : xZ, MW G d mX9_boxOf [vR (9, 0, 0), vI a0] μ (xrI fun x2 μ1 => WS G eX9_assumed (d + 1) Z Q 9 [vR (9, 0, 0), vN, vL (0 : Int64), vN, vI x2] [] μ1)) : MW G (d + 1) mX9_assumed [vR (9, 0, 0), vI a0] μ Q := MW.of (E := eX9_assumed) okX9_assumed (Nat.le_of_ble_eq_true rfl) fun Z => WS.go okX9_assumed 29 (h Z)
set_option maxRecDepth 100000 in
set_option maxHeartbeats 4000000 in
theorem wX9_assumed_9 {G : xG} {d : Nat} {Z : xZ} {v2 : Int64} {v4 : Int32} {μ : xM} {Q : xP} (h : xif (v4 = (-6 : Int32)) (Q (some (vL v2)) μ) (MW G d mX9_opens [vR (9, 0, 0), vI v4] μ (xrI fun x2 μ1 => MW G d mX9_parent [vR (9, 0, 0), vI v4] μ1 (xrI fun x4 μ3 => WS G eX9_assumed (d + 1) Z Q 9 [vR (9, 0, 0), vN, vL (v2 ||| (xls (1 : Int64) x2)), vN, vI x4] [] μ3)))) : WS G eX9_assumed (d + 1) Z Q 9 [vR (9, 0, 0), vN, vL v2, vN, vI v4] [] μ := WS.go okX9_assumed 29 h
set_option maxRecDepth 100000 in
set_option maxHeartbeats 4000000 in
theorem wX9_needed {G : xG} {d : Nat} {a0 : Int32} {μ : xM} {Q : xP} (h : ∀ Z : xZ, WS G eX9_needed (d + 1) Z Q 7 [vR (9, 0, 0), vN, vL (xls (1 : Int64) a0), vN, vI a0] [] μ) : MW G (d + 1) mX9_needed [vR (9, 0, 0), vI a0] μ Q := MW.of (E := eX9_needed) okX9_needed (Nat.le_of_ble_eq_true rfl) fun Z => WS.go okX9_needed 35 (h Z)
set_option maxRecDepth 100000 in
set_option maxHeartbeats 4000000 in
theorem wX9_needed_7 {G : xG} {d : Nat} {Z : xZ} {v2 : Int64} {v4 : Int32} {μ : xM} {Q : xP} (h : xif (v4 < 0) (Q (some (vL v2)) μ) (xif ((lg_cmp (((xlr v2 v4) &&& (1 : Int64))) (1 : Int64)) = 0) (MW G d mX9_direct [vR (9, 0, 0), vI v4] μ (xrL fun y2 μ1 => MW G d mX9_assumed [vR (9, 0, 0), vI v4] μ1 (xrL fun y4 μ3 => WS G eX9_needed (d + 1) Z Q 7 [vR (9, 0, 0), vN, vL (v2 ||| (y2 ||| y4)), vN, vI (v4 + (-1 : Int32))] [] μ3))) (WS G eX9_needed (d + 1) Z Q 7 [vR (9, 0, 0), vN, vL v2, vN, vI (v4 + (-1 : Int32))] [] μ))) : WS G eX9_needed (d + 1) Z Q 7 [vR (9, 0, 0), vN, vL v2, vN, vI v4] [] μ := WS.go okX9_needed 35 h
set_option maxRecDepth 100000 in
set_option maxHeartbeats 4000000 in
theorem wX9_needs {G : xG} {d : Nat} {a0 : Int32} {μ : xM} {Q : xP} (h : MW G d mX9_isLine [vR (9, 0, 0), vI a0] μ (xrI fun x2 μ1 => xif (x2 = 0) (Q (some (vL (-1 : Int64))) μ1) (MW G d mX9_needed [vR (9, 0, 0), vI a0] μ1 (xrL fun y4 μ3 => Q (some (vL y4)) μ3)))) : MW G (d + 1) mX9_needs [vR (9, 0, 0), vI a0] μ Q := MW.of (E := eX9_needs) okX9_needs (Nat.le_of_ble_eq_true rfl) fun Z => WS.go okX9_needs 15 h
set_option maxRecDepth 100000 in
set_option maxHeartbeats 4000000 in
theorem wX9_bypassOf {G : xG} {d : Nat} {a0 : Int32} {μ : xM} {Q : xP} (h : MW G d mX9_ruleOf [vR (9, 0, 0), vI a0] μ (xrI fun x2 μ1 => MW G d mX9_refOf [vR (9, 0, 0), vI a0, vI (0 : Int32)] μ1 (xrI fun x4 μ3 => xif (x2 = (2 : Int32)) (Q (some (vI x4)) μ3) (xif (x2 = (4 : Int32)) (MW G d mX9_ruleOf [vR (9, 0, 0), vI x4] μ3 (xrI fun x6 μ5 => xif (x6 = (3 : Int32)) (xif (x2 = (4 : Int32)) (MW G d mX9_refOf [vR (9, 0, 0), vI x4, vI (0 : Int32)] μ5 (xrI fun x8 μ7 => Q (some (vI x8)) μ7)) (MW G d mX9_refOf [vR (9, 0, 0), vI x4, vI (1 : Int32)] μ5 (xrI fun x10 μ9 => Q (some (vI x10)) μ9))) (Q (some (vI (-6 : Int32))) μ5))) (xif (x2 = (5 : Int32)) (MW G d mX9_ruleOf [vR (9, 0, 0), vI x4] μ3 (xrI fun x12 μ11 => xif (x12 = (3 : Int32)) (xif (x2 = (4 : Int32)) (MW G d mX9_refOf [vR (9, 0, 0), vI x4, vI (0 : Int32)] μ11 (xrI fun x14 μ13 => Q (some (vI x14)) μ13)) (MW G d mX9_refOf [vR (9, 0, 0), vI x4, vI (1 : Int32)] μ11 (xrI fun x16 μ15 => Q (some (vI x16)) μ15))) (Q (some (vI (-6 : Int32))) μ11))) (Q (some (vI (-6 : Int32))) μ3)))))) : MW G (d + 1) mX9_bypassOf [vR (9, 0, 0), vI a0] μ Q := MW.of (E := eX9_bypassOf) okX9_bypassOf (Nat.le_of_ble_eq_true rfl) fun Z => WS.go okX9_bypassOf 42 h
set_option maxRecDepth 100000 in
set_option maxHeartbeats 4000000 in
theorem wX9_bypass {G : xG} {d : Nat} {a0 : Int32} {μ : xM} {Q : xP} (h : MW G d mX9_isLine [vR (9, 0, 0), vI a0] μ (xrI fun x2 μ1 => xif (x2 = 0) (Q (some (vI (-1 : Int32))) μ1) (MW G d mX9_bypassOf [vR (9, 0, 0), vI a0] μ1 (xrI fun x4 μ3 => Q (some (vI x4)) μ3)))) : MW G (d + 1) mX9_bypass [vR (9, 0, 0), vI a0] μ Q := MW.of (E := eX9_bypass) okX9_bypass (Nat.le_of_ble_eq_true rfl) fun Z => WS.go okX9_bypass 15 h
set_option maxRecDepth 100000 in
set_option maxHeartbeats 4000000 in
theorem wX9_detours {G : xG} {d : Nat} {μ : xM} {Q : xP} (h : ∀ Z : xZ, WS G eX9_detours (d + 1) Z Q 4 [vR (9, 0, 0), vI (0 : Int32), vI (0 : Int32)] [] μ) : MW G (d + 1) mX9_detours [vR (9, 0, 0)] μ Q := MW.of (E := eX9_detours) okX9_detours (Nat.le_of_ble_eq_true rfl) fun Z => WS.go okX9_detours 30 (h Z)
set_option maxRecDepth 100000 in
set_option maxHeartbeats 4000000 in
theorem wX9_detours_4 {G : xG} {d : Nat} {Z : xZ} {v1 : Int32} {v2 : Int32} {μ : xM} {Q : xP} (h : vp_in (1 : Int32) 615 ∧ xif ((μ (1, 0, 20) (1 : Int32).toNatClampNeg) ≤ v2) (Q (some (vI v1)) μ) (MW G d mX9_bypassOf [vR (9, 0, 0), vI v2] μ (xrI fun x2 μ1 => xif (x2 = (-6 : Int32)) (WS G eX9_detours (d + 1) Z Q 4 [vR (9, 0, 0), vI (v1 + (0 : Int32)), vI (v2 + (1 : Int32))] [] μ1) (WS G eX9_detours (d + 1) Z Q 4 [vR (9, 0, 0), vI (v1 + (1 : Int32)), vI (v2 + (1 : Int32))] [] μ1)))) : WS G eX9_detours (d + 1) Z Q 4 [vR (9, 0, 0), vI v1, vI v2] [] μ := WS.go okX9_detours 30 h
set_option maxRecDepth 100000 in
set_option maxHeartbeats 4000000 in
theorem wX9_areTrue {G : xG} {d : Nat} {a0 : Int64} {μ : xM} {Q : xP} (h : ∀ Z : xZ, WS G eX9_areTrue (d + 1) Z Q 5 [vR (9, 0, 0), vL a0, vN, vI (1 : Int32), vI (0 : Int32)] [] μ) : MW G (d + 1) mX9_areTrue [vR (9, 0, 0), vL a0] μ Q := MW.of (E := eX9_areTrue) okX9_areTrue (Nat.le_of_ble_eq_true rfl) fun Z => WS.go okX9_areTrue 40 (h Z)
set_option maxRecDepth 100000 in
set_option maxHeartbeats 4000000 in
theorem wX9_areTrue_5 {G : xG} {d : Nat} {Z : xZ} {v1 : Int64} {v3 : Int32} {v4 : Int32} {μ : xM} {Q : xP} (h : vp_in (1 : Int32) 615 ∧ xif ((μ (1, 0, 20) (1 : Int32).toNatClampNeg) ≤ v4) ((v3 = 0 ∨ v3 = 1) ∧ Q (some (vI v3)) μ) (xif (v3 = 0) (WS G eX9_areTrue (d + 1) Z Q 5 [vR (9, 0, 0), vL v1, vN, vI (0 : Int32), vI (v4 + (1 : Int32))] [] μ) (xif ((lg_cmp (((xlr v1 v4) &&& (1 : Int64))) (0 : Int64)) = 0) (WS G eX9_areTrue (d + 1) Z Q 5 [vR (9, 0, 0), vL v1, vN, vI (1 : Int32), vI (v4 + (1 : Int32))] [] μ) (MW G d mX9_formulaOf [vR (9, 0, 0), vI v4] μ (xrI fun x2 μ1 => vp_in x2 60 ∧ xif ((μ1 (12, 0, 0) x2.toNatClampNeg) = 0) (WS G eX9_areTrue (d + 1) Z Q 5 [vR (9, 0, 0), vL v1, vN, vI (0 : Int32), vI (v4 + (1 : Int32))] [] μ1) (WS G eX9_areTrue (d + 1) Z Q 5 [vR (9, 0, 0), vL v1, vN, vI (1 : Int32), vI (v4 + (1 : Int32))] [] μ1)))))) : WS G eX9_areTrue (d + 1) Z Q 5 [vR (9, 0, 0), vL v1, vN, vI v3, vI v4] [] μ := WS.go okX9_areTrue 40 h
set_option maxRecDepth 100000 in
set_option maxHeartbeats 4000000 in
theorem wX9_premises {G : xG} {d : Nat} {μ : xM} {Q : xP} (h : ∀ Z : xZ, WS G eX9_premises (d + 1) Z Q 4 [vR (9, 0, 0), vL (0 : Int64), vN, vI (0 : Int32)] [] μ) : MW G (d + 1) mX9_premises [vR (9, 0, 0)] μ Q := MW.of (E := eX9_premises) okX9_premises (Nat.le_of_ble_eq_true rfl) fun Z => WS.go okX9_premises 31 (h Z)
set_option maxRecDepth 100000 in
set_option maxHeartbeats 4000000 in
theorem wX9_premises_4 {G : xG} {d : Nat} {Z : xZ} {v1 : Int64} {v3 : Int32} {μ : xM} {Q : xP} (h : vp_in (1 : Int32) 615 ∧ xif ((μ (1, 0, 20) (1 : Int32).toNatClampNeg) ≤ v3) (Q (some (vL v1)) μ) (MW G d mX9_ruleOf [vR (9, 0, 0), vI v3] μ (xrI fun x2 μ1 => xif (x2 = 0) (WS G eX9_premises (d + 1) Z Q 4 [vR (9, 0, 0), vL (v1 ||| (xls (1 : Int64) v3)), vN, vI (v3 + (1 : Int32))] [] μ1) (WS G eX9_premises (d + 1) Z Q 4 [vR (9, 0, 0), vL (v1 ||| (0 : Int64)), vN, vI (v3 + (1 : Int32))] [] μ1)))) : WS G eX9_premises (d + 1) Z Q 4 [vR (9, 0, 0), vL v1, vN, vI v3] [] μ := WS.go okX9_premises 31 h
set_option maxRecDepth 100000 in
set_option maxHeartbeats 4000000 in
theorem wX9_fails {G : xG} {d : Nat} {a0 : Int64} {a1 : Int32} {μ : xM} {Q : xP} (h : ∀ Z : xZ, WS G eX9_fails (d + 1) Z Q 3 [vR (9, 0, 0), vL a0, vN, vI a1, vI (0 : Int32)] [] μ) : MW G (d + 1) mX9_fails [vR (9, 0, 0), vL a0, vI a1] μ Q := MW.of (E := eX9_fails) okX9_fails (Nat.le_of_ble_eq_true rfl) fun Z => WS.go okX9_fails 28 (h Z)
set_option maxRecDepth 100000 in
set_option maxHeartbeats 4000000 in
theorem wX9_fails_3 {G : xG} {d : Nat} {Z : xZ} {v1 : Int64} {v3 : Int32} {v4 : Int32} {μ : xM} {Q : xP} (h : xif ((256 : Int32) ≤ v4) (Q (some (vI (-6 : Int32))) μ) (MW G d mX9_evaluate [vR (9, 0, 0), vI v4] μ (xrV fun μ1 => vp_in v3 60 ∧ xif ((μ1 (12, 0, 0) v3.toNatClampNeg) = 0) (MW G d mX9_areTrue [vR (9, 0, 0), vL v1] μ1 (xrI fun x3 μ2 => xif (x3 = 0) (WS G eX9_fails (d + 1) Z Q 3 [vR (9, 0, 0), vL v1, vN, vI v3, vI (v4 + (1 : Int32))] [] μ2) (Q (some (vI v4)) μ2))) (WS G eX9_fails (d + 1) Z Q 3 [vR (9, 0, 0), vL v1, vN, vI v3, vI (v4 + (1 : Int32))] [] μ1)))) : WS G eX9_fails (d + 1) Z Q 3 [vR (9, 0, 0), vL v1, vN, vI v3, vI v4] [] μ := WS.go okX9_fails 28 h
set_option maxRecDepth 100000 in
set_option maxHeartbeats 4000000 in
theorem wX9_failure {G : xG} {d : Nat} {a0 : Int32} {μ : xM} {Q : xP} (h : MW G d mX9_isLine [vR (9, 0, 0), vI a0] μ (xrI fun x2 μ1 => xif (x2 = 0) (Q (some (vI (-1 : Int32))) μ1) (MW G d mX9_premises [vR (9, 0, 0)] μ1 (xrL fun y4 μ3 => MW G d mX9_assumed [vR (9, 0, 0), vI a0] μ3 (xrL fun y6 μ5 => MW G d mX9_formulaOf [vR (9, 0, 0), vI a0] μ5 (xrI fun x8 μ7 => MW G d mX9_fails [vR (9, 0, 0), vL (y4 ||| y6), vI x8] μ7 (xrI fun x10 μ9 => Q (some (vI x10)) μ9))))))) : MW G (d + 1) mX9_failure [vR (9, 0, 0), vI a0] μ Q := MW.of (E := eX9_failure) okX9_failure (Nat.le_of_ble_eq_true rfl) fun Z => WS.go okX9_failure 23 h
set_option maxRecDepth 100000 in
set_option maxHeartbeats 4000000 in
theorem wX9_counterexample {G : xG} {d : Nat} {a0 : Int32} {μ : xM} {Q : xP} (h : ∀ Z : xZ, MW G d mX9_isFormula [vR (9, 0, 0), vI a0] μ (xrI fun x2 μ1 => xif (x2 = 0) (Q (some (vI (-1 : Int32))) μ1) (MW G d mX9_premises [vR (9, 0, 0)] μ1 (xrL fun y4 μ3 => WS G eX9_counterexample (d + 1) Z Q 18 [vR (9, 0, 0), vI a0, vL y4, vN, vI (0 : Int32)] [] μ3)))) : MW G (d + 1) mX9_counterexample [vR (9, 0, 0), vI a0] μ Q := MW.of (E := eX9_counterexample) okX9_counterexample (Nat.le_of_ble_eq_true rfl) fun Z => WS.go okX9_counterexample 44 (h Z)
set_option maxRecDepth 100000 in
set_option maxHeartbeats 4000000 in
theorem wX9_counterexample_18 {G : xG} {d : Nat} {Z : xZ} {v1 : Int32} {v2 : Int64} {v4 : Int32} {μ : xM} {Q : xP} (h : vp_in (2 : Int32) 615 ∧ xif ((μ (1, 0, 20) (2 : Int32).toNatClampNeg) ≤ v4) (MW G d mX9_fails [vR (9, 0, 0), vL v2, vI v1] μ (xrI fun x2 μ1 => Q (some (vI x2)) μ1)) (MW G d mX9_ends [vR (9, 0, 0), vI v4] μ (xrI fun x4 μ3 => xif (x4 = (-6 : Int32)) (MW G d mX9_opens [vR (9, 0, 0), vI v4] μ3 (xrI fun x6 μ5 => WS G eX9_counterexample (d + 1) Z Q 18 [vR (9, 0, 0), vI v1, vL (v2 ||| (xls (1 : Int64) x6)), vN, vI (v4 + (1 : Int32))] [] μ5)) (WS G eX9_counterexample (d + 1) Z Q 18 [vR (9, 0, 0), vI v1, vL (v2 ||| (0 : Int64)), vN, vI (v4 + (1 : Int32))] [] μ3)))) : WS G eX9_counterexample (d + 1) Z Q 18 [vR (9, 0, 0), vI v1, vL v2, vN, vI v4] [] μ := WS.go okX9_counterexample 44 h
set_option maxRecDepth 100000 in
set_option maxHeartbeats 4000000 in
theorem wX9_shorten {G : xG} {d : Nat} {μ : xM} {Q : xP} (h : ∀ Z : xZ, MW G d mX9_record [vR (9, 0, 0)] μ (xrV fun μ1 => WS G eX9_shorten (d + 1) Z Q 8 [vR (9, 0, 0), vI (0 : Int32), vI (0 : Int32), vN, vN, vN] [] μ1)) : MW G (d + 1) mX9_shorten [vR (9, 0, 0)] μ Q := MW.of (E := eX9_shorten) okX9_shorten (Nat.le_of_ble_eq_true rfl) fun Z => WS.go okX9_shorten 75 (h Z)
set_option maxRecDepth 100000 in
set_option maxHeartbeats 4000000 in
theorem wX9_shorten_8 {G : xG} {d : Nat} {Z : xZ} {v1 : Int32} {v2 : Int32} {μ : xM} {Q : xP} (h : vp_in (1 : Int32) 615 ∧ xif ((μ (1, 0, 20) (1 : Int32).toNatClampNeg) ≤ v2) (Q (some (vI v1)) μ) (WS G eX9_shorten (d + 1) Z Q 20 [vR (9, 0, 0), vI v1, vI v2, vI (0 : Int32), vN, vN] [] μ)) : WS G eX9_shorten (d + 1) Z Q 8 [vR (9, 0, 0), vI v1, vI v2, vN, vN, vN] [] μ := WS.go okX9_shorten 75 h
set_option maxRecDepth 100000 in
set_option maxHeartbeats 4000000 in
theorem wX9_shorten_20 {G : xG} {d : Nat} {Z : xZ} {v1 : Int32} {v2 : Int32} {v3 : Int32} {μ : xM} {Q : xP} (h : xif ((3 : Int32) ≤ v3) (WS G eX9_shorten (d + 1) Z Q 8 [vR (9, 0, 0), vI v1, vI (v2 + (1 : Int32)), vN, vN, vN] [] μ) (MW G d mX9_refOf [vR (9, 0, 0), vI v2, vI v3] μ (xrI fun x2 μ1 => xif (x2 = (-6 : Int32)) (WS G eX9_shorten (d + 1) Z Q 20 [vR (9, 0, 0), vI v1, vI v2, vI (v3 + (1 : Int32)), vN, vN] [] μ1) (MW G d mX9_isToBox [vR (9, 0, 0), vI v2, vI v3] μ1 (xrI fun x4 μ3 => xif (x4 = 0) (WS G eX9_shorten (d + 1) Z Q 53 [vR (9, 0, 0), vI v1, vI v2, vI v3, vI x2, vI x2] [] μ3) (WS G eX9_shorten (d + 1) Z Q 20 [vR (9, 0, 0), vI v1, vI v2, vI (v3 + (1 : Int32)), vN, vN] [] μ3)))))) : WS G eX9_shorten (d + 1) Z Q 20 [vR (9, 0, 0), vI v1, vI v2, vI v3, vN, vN] [] μ := WS.go okX9_shorten 75 h
set_option maxRecDepth 100000 in
set_option maxHeartbeats 4000000 in
theorem wX9_shorten_53 {G : xG} {d : Nat} {Z : xZ} {v1 : Int32} {v2 : Int32} {v3 : Int32} {v4 : Int32} {v5 : Int32} {μ : xM} {Q : xP} (h : MW G d mX9_bypassOf [vR (9, 0, 0), vI v5] μ (xrI fun x2 μ1 => xif (x2 = (-6 : Int32)) (xif (v5 = v4) (vp_in (((((183 : Int32) + ((6 : Int32) * v2)) + (2 : Int32)) + v3)) 615 ∧ WS G eX9_shorten (d + 1) Z Q 20 [vR (9, 0, 0), vI (v1 + (0 : Int32)), vI v2, vI (v3 + (1 : Int32)), vN, vN] [] (xst μ1 (1, 0, 20) (((((183 : Int32) + ((6 : Int32) * v2)) + (2 : Int32)) + v3)).toNatClampNeg v5)) (vp_in (((((183 : Int32) + ((6 : Int32) * v2)) + (2 : Int32)) + v3)) 615 ∧ WS G eX9_shorten (d + 1) Z Q 20 [vR (9, 0, 0), vI (v1 + (1 : Int32)), vI v2, vI (v3 + (1 : Int32)), vN, vN] [] (xst μ1 (1, 0, 20) (((((183 : Int32) + ((6 : Int32) * v2)) + (2 : Int32)) + v3)).toNatClampNeg v5))) (MW G d mX9_bypassOf [vR (9, 0, 0), vI v5] μ1 (xrI fun x4 μ3 => WS G eX9_shorten (d + 1) Z Q 53 [vR (9, 0, 0), vI v1, vI v2, vI v3, vI v4, vI x4] [] μ3)))) : WS G eX9_shorten (d + 1) Z Q 53 [vR (9, 0, 0), vI v1, vI v2, vI v3, vI v4, vI v5] [] μ := WS.go okX9_shorten 75 h
set_option maxRecDepth 100000 in
set_option maxHeartbeats 4000000 in
theorem wX9_renamed {G : xG} {d : Nat} {a0 : Int32} {a1 : Int32} {μ : xM} {Q : xP} (h : MW G d mX9_refOf [vR (9, 0, 0), vI a0, vI a1] μ (xrI fun x2 μ1 => xif (x2 = (-6 : Int32)) (Q (some (vI (-6 : Int32))) μ1) (MW G d mX9_isToBox [vR (9, 0, 0), vI a0, vI a1] μ1 (xrI fun x4 μ3 => xif (x4 = 0) (vp_in x2 48 ∧ Q (some (vI ((μ3 (1, 0, 24) x2.toNatClampNeg)))) μ3) (vp_in x2 48 ∧ Q (some (vI ((μ3 (1, 0, 25) x2.toNatClampNeg)))) μ3))))) : MW G (d + 1) mX9_renamed [vR (9, 0, 0), vI a0, vI a1] μ Q := MW.of (E := eX9_renamed) okX9_renamed (Nat.le_of_ble_eq_true rfl) fun Z => WS.go okX9_renamed 30 h
set_option maxRecDepth 100000 in
set_option maxHeartbeats 4000000 in
theorem wX9_lastIn {G : xG} {d : Nat} {a0 : Int32} {a1 : Int64} {μ : xM} {Q : xP} (h : ∀ Z : xZ, WS G eX9_lastIn (d + 1) Z Q 7 [vR (9, 0, 0), vI a0, vL a1, vN, vI (-6 : Int32), vI (0 : Int32)] [] μ) : MW G (d + 1) mX9_lastIn [vR (9, 0, 0), vI a0, vL a1] μ Q := MW.of (E := eX9_lastIn) okX9_lastIn (Nat.le_of_ble_eq_true rfl) fun Z => WS.go okX9_lastIn 36 (h Z)
set_option maxRecDepth 100000 in
set_option maxHeartbeats 4000000 in
theorem wX9_lastIn_7 {G : xG} {d : Nat} {Z : xZ} {v1 : Int32} {v2 : Int64} {v4 : Int32} {v5 : Int32} {μ : xM} {Q : xP} (h : vp_in (1 : Int32) 615 ∧ xif ((μ (1, 0, 20) (1 : Int32).toNatClampNeg) ≤ v5) (Q (some (vI v4)) μ) (xif ((lg_cmp (((xlr v2 v5) &&& (1 : Int64))) (1 : Int64)) = 0) (MW G d mX9_liesIn [vR (9, 0, 0), vI v5, vI v1] μ (xrI fun x2 μ1 => xif (x2 = 0) (WS G eX9_lastIn (d + 1) Z Q 7 [vR (9, 0, 0), vI v1, vL v2, vN, vI v4, vI (v5 + (1 : Int32))] [] μ1) (WS G eX9_lastIn (d + 1) Z Q 7 [vR (9, 0, 0), vI v1, vL v2, vN, vI v5, vI (v5 + (1 : Int32))] [] μ1))) (WS G eX9_lastIn (d + 1) Z Q 7 [vR (9, 0, 0), vI v1, vL v2, vN, vI v4, vI (v5 + (1 : Int32))] [] μ))) : WS G eX9_lastIn (d + 1) Z Q 7 [vR (9, 0, 0), vI v1, vL v2, vN, vI v4, vI v5] [] μ := WS.go okX9_lastIn 36 h
set_option maxRecDepth 100000 in
set_option maxHeartbeats 4000000 in
theorem wX9_trim {G : xG} {d : Nat} {a0 : Int32} {μ : xM} {Q : xP} (h : ∀ Z : xZ, MW G d mX9_isLine [vR (9, 0, 0), vI a0] μ (xrI fun x2 μ1 => xif (x2 = 0) (Q (some (vI (-1 : Int32))) μ1) (MW G d mX9_latest [vR (9, 0, 0)] μ1 (xrI fun x4 μ3 => xif (x4 = (-6 : Int32)) (MW G d mX9_boxOf [vR (9, 0, 0), vI a0] μ3 (xrI fun x6 μ5 => xif (x6 = (-6 : Int32)) (MW G d mX9_record [vR (9, 0, 0)] μ5 (xrV fun μ7 => MW G d mX9_needed [vR (9, 0, 0), vI a0] μ7 (xrL fun y9 μ8 => WS G eX9_trim (d + 1) Z Q 48 [vR (9, 0, 0), vN, vL y9, vN, vI (0 : Int32), vI (0 : Int32), vN, vN] [] μ8))) (Q (some (vI (-3 : Int32))) μ5))) (Q (some (vI (-3 : Int32))) μ3))))) : MW G (d + 1) mX9_trim [vR (9, 0, 0), vI a0] μ Q := MW.of (E := eX9_trim) okX9_trim (Nat.le_of_ble_eq_true rfl) fun Z => WS.go okX9_trim 146 (h Z)
set_option maxRecDepth 100000 in
set_option maxHeartbeats 4000000 in
theorem wX9_trim_48 {G : xG} {d : Nat} {Z : xZ} {v2 : Int64} {v4 : Int32} {v5 : Int32} {μ : xM} {Q : xP} (h : vp_in (1 : Int32) 615 ∧ xif ((μ (1, 0, 20) (1 : Int32).toNatClampNeg) ≤ v5) (WS G eX9_trim (d + 1) Z Q 101 [vR (9, 0, 0), vN, vL v2, vN, vI v4, vI (0 : Int32), vI (0 : Int32), vN] [] μ) (vp_in v5 48 ∧ xif ((lg_cmp (((xlr v2 v5) &&& (1 : Int64))) (1 : Int64)) = 0) (WS G eX9_trim (d + 1) Z Q 86 [vR (9, 0, 0), vN, vL v2, vN, vN, vI v5, vN, vN] [vI (1 : Int32), vI v4] (xst μ (1, 0, 24) v5.toNatClampNeg v4)) (WS G eX9_trim (d + 1) Z Q 86 [vR (9, 0, 0), vN, vL v2, vN, vN, vI v5, vN, vN] [vI (0 : Int32), vI v4] (xst μ (1, 0, 24) v5.toNatClampNeg v4)))) : WS G eX9_trim (d + 1) Z Q 48 [vR (9, 0, 0), vN, vL v2, vN, vI v4, vI v5, vN, vN] [] μ := WS.go okX9_trim 146 h
set_option maxRecDepth 100000 in
set_option maxHeartbeats 4000000 in
theorem wX9_trim_86 {G : xG} {d : Nat} {Z : xZ} {v2 : Int64} {v5 : Int32} {s0 : Int32} {s1 : Int32} {μ : xM} {Q : xP} (h : WS G eX9_trim (d + 1) Z Q 48 [vR (9, 0, 0), vN, vL v2, vN, vI (s0 + s1), vI (v5 + (1 : Int32)), vN, vN] [] μ) : WS G eX9_trim (d + 1) Z Q 86 [vR (9, 0, 0), vN, vL v2, vN, vN, vI v5, vN, vN] [vI s1, vI s0] μ := WS.go okX9_trim 146 h
set_option maxRecDepth 100000 in
set_option maxHeartbeats 4000000 in
theorem wX9_trim_101 {G : xG} {d : Nat} {Z : xZ} {v2 : Int64} {v4 : Int32} {v5 : Int32} {v6 : Int32} {μ : xM} {Q : xP} (h : vp_in (2 : Int32) 615 ∧ xif ((μ (1, 0, 20) (2 : Int32).toNatClampNeg) ≤ v6) (vp_in (1 : Int32) 615 ∧ MW G d mX9_moveLines [vR (9, 0, 0), vL v2] μ (xrV fun μ1 => MW G d mX9_moveBoxes [vR (9, 0, 0)] μ1 (xrV fun μ2 => vp_in (1 : Int32) 615 ∧ vp_in (2 : Int32) 615 ∧ Q (some (vI (((μ (1, 0, 20) (1 : Int32).toNatClampNeg) - v4)))) (xst (xst μ2 (1, 0, 20) (1 : Int32).toNatClampNeg v4) (1, 0, 20) (2 : Int32).toNatClampNeg v5)))) (MW G d mX9_opens [vR (9, 0, 0), vI v6] μ (xrI fun x4 μ3 => xif ((lg_cmp (((xlr v2 x4) &&& (1 : Int64))) (1 : Int64)) = 0) (WS G eX9_trim (d + 1) Z Q 132 [vR (9, 0, 0), vN, vL v2, vN, vI v4, vI v5, vI v6, vN] [vI (1 : Int32)] μ3) (WS G eX9_trim (d + 1) Z Q 132 [vR (9, 0, 0), vN, vL v2, vN, vI v4, vI v5, vI v6, vN] [vI (0 : Int32)] μ3)))) : WS G eX9_trim (d + 1) Z Q 101 [vR (9, 0, 0), vN, vL v2, vN, vI v4, vI v5, vI v6, vN] [] μ := WS.go okX9_trim 146 h
set_option maxRecDepth 100000 in
set_option maxHeartbeats 4000000 in
theorem wX9_trim_132 {G : xG} {d : Nat} {Z : xZ} {v2 : Int64} {v4 : Int32} {v5 : Int32} {v6 : Int32} {s0 : Int32} {μ : xM} {Q : xP} (h : xif (s0 = 0) (WS G eX9_trim (d + 1) Z Q 152 [vR (9, 0, 0), vN, vL v2, vN, vI v4, vI v5, vI v6, vI s0] [vI (-6 : Int32), vI v6, vR (1, 0, 25)] μ) (WS G eX9_trim (d + 1) Z Q 152 [vR (9, 0, 0), vN, vL v2, vN, vI v4, vI v5, vI v6, vI s0] [vI v5, vI v6, vR (1, 0, 25)] μ)) : WS G eX9_trim (d + 1) Z Q 132 [vR (9, 0, 0), vN, vL v2, vN, vI v4, vI v5, vI v6, vN] [vI s0] μ := WS.go okX9_trim 146 h
set_option maxRecDepth 100000 in
set_option maxHeartbeats 4000000 in
theorem wX9_trim_152 {G : xG} {d : Nat} {Z : xZ} {v2 : Int64} {v4 : Int32} {v5 : Int32} {v6 : Int32} {v7 : Int32} {s1 : Int32} {s2 : Int32} {μ : xM} {Q : xP} (h : vp_in s1 48 ∧ xif (v7 = 0) (MW G d mX9_ends [vR (9, 0, 0), vI v6] (xst μ (1, 0, 25) s1.toNatClampNeg s2) (xrI fun x2 μ1 => WS G eX9_trim (d + 1) Z Q 188 [vR (9, 0, 0), vN, vL v2, vN, vI v4, vI v5, vI v6, vI v7] [vI x2, vI (((471 : Int32) + ((3 : Int32) * v6)) + (1 : Int32)), vR (1, 0, 20)] μ1)) (MW G d mX9_lastIn [vR (9, 0, 0), vI v6, vL v2] (xst μ (1, 0, 25) s1.toNatClampNeg s2) (xrI fun x4 μ3 => WS G eX9_trim (d + 1) Z Q 188 [vR (9, 0, 0), vN, vL v2, vN, vI v4, vI v5, vI v6, vI v7] [vI x4, vI (((471 : Int32) + ((3 : Int32) * v6)) + (1 : Int32)), vR (1, 0, 20)] μ3))) : WS G eX9_trim (d + 1) Z Q 152 [vR (9, 0, 0), vN, vL v2, vN, vI v4, vI v5, vI v6, vI v7] [vI s2, vI s1, vR (1, 0, 25)] μ := WS.go okX9_trim 146 h
set_option maxRecDepth 100000 in
set_option maxHeartbeats 4000000 in
theorem wX9_trim_188 {G : xG} {d : Nat} {Z : xZ} {v2 : Int64} {v4 : Int32} {v5 : Int32} {v6 : Int32} {v7 : Int32} {s1 : Int32} {s2 : Int32} {μ : xM} {Q : xP} (h : vp_in s1 615 ∧ xif (v7 = 0) (WS G eX9_trim (d + 1) Z Q 201 [vR (9, 0, 0), vN, vL v2, vN, vI v4, vN, vI v6, vN] [vI (0 : Int32), vI v5] (xst μ (1, 0, 20) s1.toNatClampNeg s2)) (WS G eX9_trim (d + 1) Z Q 201 [vR (9, 0, 0), vN, vL v2, vN, vI v4, vN, vI v6, vN] [vI (1 : Int32), vI v5] (xst μ (1, 0, 20) s1.toNatClampNeg s2))) : WS G eX9_trim (d + 1) Z Q 188 [vR (9, 0, 0), vN, vL v2, vN, vI v4, vI v5, vI v6, vI v7] [vI s2, vI s1, vR (1, 0, 20)] μ := WS.go okX9_trim 146 h
set_option maxRecDepth 100000 in
set_option maxHeartbeats 4000000 in
theorem wX9_trim_201 {G : xG} {d : Nat} {Z : xZ} {v2 : Int64} {v4 : Int32} {v6 : Int32} {s0 : Int32} {s1 : Int32} {μ : xM} {Q : xP} (h : WS G eX9_trim (d + 1) Z Q 101 [vR (9, 0, 0), vN, vL v2, vN, vI v4, vI (s0 + s1), vI (v6 + (1 : Int32)), vN] [] μ) : WS G eX9_trim (d + 1) Z Q 201 [vR (9, 0, 0), vN, vL v2, vN, vI v4, vN, vI v6, vN] [vI s1, vI s0] μ := WS.go okX9_trim 146 h
set_option maxRecDepth 100000 in
set_option maxHeartbeats 4000000 in
theorem wX9_moveLines {G : xG} {d : Nat} {a0 : Int64} {μ : xM} {Q : xP} (h : ∀ Z : xZ, WS G eX9_moveLines (d + 1) Z Q 2 [vR (9, 0, 0), vL a0, vN, vI (0 : Int32), vN, vN, vN, vN, vN] [] μ) : MW G (d + 1) mX9_moveLines [vR (9, 0, 0), vL a0] μ Q := MW.of (E := eX9_moveLines) okX9_moveLines (Nat.le_of_ble_eq_true rfl) fun Z => WS.go okX9_moveLines 106 (h Z)
set_option maxRecDepth 100000 in
set_option maxHeartbeats 4000000 in
theorem wX9_moveLines_2 {G : xG} {d : Nat} {Z : xZ} {v1 : Int64} {v3 : Int32} {μ : xM} {Q : xP} (h : vp_in (1 : Int32) 615 ∧ xif ((μ (1, 0, 20) (1 : Int32).toNatClampNeg) ≤ v3) (Q none μ) (xif ((lg_cmp (((xlr v1 v3) &&& (1 : Int64))) (1 : Int64)) = 0) (vp_in v3 48 ∧ MW G d mX9_renamed [vR (9, 0, 0), vI v3, vI (0 : Int32)] μ (xrI fun x2 μ1 => MW G d mX9_renamed [vR (9, 0, 0), vI v3, vI (1 : Int32)] μ1 (xrI fun x4 μ3 => MW G d mX9_renamed [vR (9, 0, 0), vI v3, vI (2 : Int32)] μ3 (xrI fun x6 μ5 => MW G d mX9_boxOf [vR (9, 0, 0), vI v3] μ5 (xrI fun x8 μ7 => xif (x8 = (-6 : Int32)) (MW G d mX9_formulaOf [vR (9, 0, 0), vI v3] μ7 (xrI fun x10 μ9 => vp_in (((183 : Int32) + ((6 : Int32) * (μ (1, 0, 24) v3.toNatClampNeg)))) 615 ∧ MW G d mX9_ruleOf [vR (9, 0, 0), vI v3] (xst μ9 (1, 0, 20) (((183 : Int32) + ((6 : Int32) * (μ (1, 0, 24) v3.toNatClampNeg)))).toNatClampNeg x10) (xrI fun x12 μ11 => vp_in ((((183 : Int32) + ((6 : Int32) * (μ (1, 0, 24) v3.toNatClampNeg))) + (1 : Int32))) 615 ∧ vp_in ((((183 : Int32) + ((6 : Int32) * (μ (1, 0, 24) v3.toNatClampNeg))) + (2 : Int32))) 615 ∧ vp_in ((((183 : Int32) + ((6 : Int32) * (μ (1, 0, 24) v3.toNatClampNeg))) + (3 : Int32))) 615 ∧ vp_in ((((183 : Int32) + ((6 : Int32) * (μ (1, 0, 24) v3.toNatClampNeg))) + (4 : Int32))) 615 ∧ vp_in ((((183 : Int32) + ((6 : Int32) * (μ (1, 0, 24) v3.toNatClampNeg))) + (5 : Int32))) 615 ∧ WS G eX9_moveLines (d + 1) Z Q 2 [vR (9, 0, 0), vL v1, vN, vI (v3 + (1 : Int32)), vN, vN, vN, vN, vN] [] (xst (xst (xst (xst (xst μ11 (1, 0, 20) ((((183 : Int32) + ((6 : Int32) * (μ (1, 0, 24) v3.toNatClampNeg))) + (1 : Int32))).toNatClampNeg x12) (1, 0, 20) ((((183 : Int32) + ((6 : Int32) * (μ (1, 0, 24) v3.toNatClampNeg))) + (2 : Int32))).toNatClampNeg x2) (1, 0, 20) ((((183 : Int32) + ((6 : Int32) * (μ (1, 0, 24) v3.toNatClampNeg))) + (3 : Int32))).toNatClampNeg x4) (1, 0, 20) ((((183 : Int32) + ((6 : Int32) * (μ (1, 0, 24) v3.toNatClampNeg))) + (4 : Int32))).toNatClampNeg x6) (1, 0, 20) ((((183 : Int32) + ((6 : Int32) * (μ (1, 0, 24) v3.toNatClampNeg))) + (5 : Int32))).toNatClampNeg (-6 : Int32))))) (MW G d mX9_boxOf [vR (9, 0, 0), vI v3] μ7 (xrI fun x14 μ13 => vp_in x14 48 ∧ MW G d mX9_formulaOf [vR (9, 0, 0), vI v3] μ13 (xrI fun x16 μ15 => vp_in (((183 : Int32) + ((6 : Int32) * (μ (1, 0, 24) v3.toNatClampNeg)))) 615 ∧ MW G d mX9_ruleOf [vR (9, 0, 0), vI v3] (xst μ15 (1, 0, 20) (((183 : Int32) + ((6 : Int32) * (μ (1, 0, 24) v3.toNatClampNeg)))).toNatClampNeg x16) (xrI fun x18 μ17 => vp_in ((((183 : Int32) + ((6 : Int32) * (μ (1, 0, 24) v3.toNatClampNeg))) + (1 : Int32))) 615 ∧ vp_in ((((183 : Int32) + ((6 : Int32) * (μ (1, 0, 24) v3.toNatClampNeg))) + (2 : Int32))) 615 ∧ vp_in ((((183 : Int32) + ((6 : Int32) * (μ (1, 0, 24) v3.toNatClampNeg))) + (3 : Int32))) 615 ∧ vp_in ((((183 : Int32) + ((6 : Int32) * (μ (1, 0, 24) v3.toNatClampNeg))) + (4 : Int32))) 615 ∧ vp_in ((((183 : Int32) + ((6 : Int32) * (μ (1, 0, 24) v3.toNatClampNeg))) + (5 : Int32))) 615 ∧ WS G eX9_moveLines (d + 1) Z Q 2 [vR (9, 0, 0), vL v1, vN, vI (v3 + (1 : Int32)), vN, vN, vN, vN, vN] [] (xst (xst (xst (xst (xst μ17 (1, 0, 20) ((((183 : Int32) + ((6 : Int32) * (μ (1, 0, 24) v3.toNatClampNeg))) + (1 : Int32))).toNatClampNeg x18) (1, 0, 20) ((((183 : Int32) + ((6 : Int32) * (μ (1, 0, 24) v3.toNatClampNeg))) + (2 : Int32))).toNatClampNeg x2) (1, 0, 20) ((((183 : Int32) + ((6 : Int32) * (μ (1, 0, 24) v3.toNatClampNeg))) + (3 : Int32))).toNatClampNeg x4) (1, 0, 20) ((((183 : Int32) + ((6 : Int32) * (μ (1, 0, 24) v3.toNatClampNeg))) + (4 : Int32))).toNatClampNeg x6) (1, 0, 20) ((((183 : Int32) + ((6 : Int32) * (μ (1, 0, 24) v3.toNatClampNeg))) + (5 : Int32))).toNatClampNeg ((μ13 (1, 0, 25) x14.toNatClampNeg)))))))))))) (WS G eX9_moveLines (d + 1) Z Q 2 [vR (9, 0, 0), vL v1, vN, vI (v3 + (1 : Int32)), vN, vN, vN, vN, vN] [] μ))) : WS G eX9_moveLines (d + 1) Z Q 2 [vR (9, 0, 0), vL v1, vN, vI v3, vN, vN, vN, vN, vN] [] μ := WS.go okX9_moveLines 106 h
set_option maxRecDepth 100000 in
set_option maxHeartbeats 4000000 in
theorem wX9_moveBoxes {G : xG} {d : Nat} {μ : xM} {Q : xP} (h : ∀ Z : xZ, WS G eX9_moveBoxes (d + 1) Z Q 2 [vR (9, 0, 0), vI (0 : Int32), vN, vN, vN, vN] [] μ) : MW G (d + 1) mX9_moveBoxes [vR (9, 0, 0)] μ Q := MW.of (E := eX9_moveBoxes) okX9_moveBoxes (Nat.le_of_ble_eq_true rfl) fun Z => WS.go okX9_moveBoxes 78 (h Z)
set_option maxRecDepth 100000 in
set_option maxHeartbeats 4000000 in
theorem wX9_moveBoxes_2 {G : xG} {d : Nat} {Z : xZ} {v1 : Int32} {μ : xM} {Q : xP} (h : vp_in (2 : Int32) 615 ∧ xif ((μ (1, 0, 20) (2 : Int32).toNatClampNeg) ≤ v1) (Q none μ) (vp_in v1 48 ∧ xif ((μ (1, 0, 25) v1.toNatClampNeg) = (-6 : Int32)) (WS G eX9_moveBoxes (d + 1) Z Q 2 [vR (9, 0, 0), vI (v1 + (1 : Int32)), vN, vN, vN, vN] [] μ) (vp_in v1 48 ∧ MW G d mX9_opens [vR (9, 0, 0), vI v1] μ (xrI fun x2 μ1 => vp_in x2 48 ∧ MW G d mX9_ends [vR (9, 0, 0), vI v1] μ1 (xrI fun x4 μ3 => vp_in x4 48 ∧ MW G d mX9_parent [vR (9, 0, 0), vI v1] μ3 (xrI fun x6 μ5 => xif (x6 = (-6 : Int32)) (vp_in (((471 : Int32) + ((3 : Int32) * (μ (1, 0, 25) v1.toNatClampNeg)))) 615 ∧ vp_in ((((471 : Int32) + ((3 : Int32) * (μ (1, 0, 25) v1.toNatClampNeg))) + (1 : Int32))) 615 ∧ vp_in ((((471 : Int32) + ((3 : Int32) * (μ (1, 0, 25) v1.toNatClampNeg))) + (2 : Int32))) 615 ∧ WS G eX9_moveBoxes (d + 1) Z Q 2 [vR (9, 0, 0), vI (v1 + (1 : Int32)), vN, vN, vN, vN] [] (xst (xst (xst μ5 (1, 0, 20) (((471 : Int32) + ((3 : Int32) * (μ (1, 0, 25) v1.toNatClampNeg)))).toNatClampNeg ((μ1 (1, 0, 24) x2.toNatClampNeg))) (1, 0, 20) ((((471 : Int32) + ((3 : Int32) * (μ (1, 0, 25) v1.toNatClampNeg))) + (1 : Int32))).toNatClampNeg ((μ3 (1, 0, 24) x4.toNatClampNeg))) (1, 0, 20) ((((471 : Int32) + ((3 : Int32) * (μ (1, 0, 25) v1.toNatClampNeg))) + (2 : Int32))).toNatClampNeg (-6 : Int32))) (MW G d mX9_parent [vR (9, 0, 0), vI v1] μ5 (xrI fun x8 μ7 => vp_in x8 48 ∧ vp_in (((471 : Int32) + ((3 : Int32) * (μ (1, 0, 25) v1.toNatClampNeg)))) 615 ∧ vp_in ((((471 : Int32) + ((3 : Int32) * (μ (1, 0, 25) v1.toNatClampNeg))) + (1 : Int32))) 615 ∧ vp_in ((((471 : Int32) + ((3 : Int32) * (μ (1, 0, 25) v1.toNatClampNeg))) + (2 : Int32))) 615 ∧ WS G eX9_moveBoxes (d + 1) Z Q 2 [vR (9, 0, 0), vI (v1 + (1 : Int32)), vN, vN, vN, vN] [] (xst (xst (xst μ7 (1, 0, 20) (((471 : Int32) + ((3 : Int32) * (μ (1, 0, 25) v1.toNatClampNeg)))).toNatClampNeg ((μ1 (1, 0, 24) x2.toNatClampNeg))) (1, 0, 20) ((((471 : Int32) + ((3 : Int32) * (μ (1, 0, 25) v1.toNatClampNeg))) + (1 : Int32))).toNatClampNeg ((μ3 (1, 0, 24) x4.toNatClampNeg))) (1, 0, 20) ((((471 : Int32) + ((3 : Int32) * (μ (1, 0, 25) v1.toNatClampNeg))) + (2 : Int32))).toNatClampNeg ((μ7 (1, 0, 25) x8.toNatClampNeg))))))))))) : WS G eX9_moveBoxes (d + 1) Z Q 2 [vR (9, 0, 0), vI v1, vN, vN, vN, vN] [] μ := WS.go okX9_moveBoxes 78 h
set_option maxRecDepth 100000 in
set_option maxHeartbeats 4000000 in
theorem wX9_append {G : xG} {d : Nat} {a0 : Int32} {μ : xM} {Q : xP} (h : MW G d mX9_in [vI a0, vI (33 : Int32), vI (126 : Int32)] μ (xrI fun x2 μ1 => xif (x2 = 0) (Q (some (vI (-2 : Int32))) μ1) (xif ((μ1 (9, 0, 0) 6) = (70 : Int32)) (Q (some (vI (-4 : Int32))) μ1) (vp_in ((μ1 (9, 0, 0) 6)) 70 ∧ Q (some (vI (((xst (xst μ1 (11, 0, 0) ((μ1 (9, 0, 0) 6)).toNatClampNeg (vp_nar .char ((xi2c a0)))) (9, 0, 0) 6 ((((xst μ1 (11, 0, 0) ((μ1 (9, 0, 0) 6)).toNatClampNeg (vp_nar .char ((xi2c a0)))) (9, 0, 0) 6) + (1 : Int32)))) (9, 0, 0) 6)))) (xst (xst μ1 (11, 0, 0) ((μ1 (9, 0, 0) 6)).toNatClampNeg (vp_nar .char ((xi2c a0)))) (9, 0, 0) 6 ((((xst μ1 (11, 0, 0) ((μ1 (9, 0, 0) 6)).toNatClampNeg (vp_nar .char ((xi2c a0)))) (9, 0, 0) 6) + (1 : Int32)))))))) : MW G (d + 1) mX9_append [vR (9, 0, 0), vI a0] μ Q := MW.of (E := eX9_append) okX9_append (Nat.le_of_ble_eq_true rfl) fun Z => WS.go okX9_append 34 h
set_option maxRecDepth 100000 in
set_option maxHeartbeats 4000000 in
theorem wX9_clearText {G : xG} {d : Nat} {μ : xM} {Q : xP} (h : Q (some (vI ((μ (9, 0, 0) 6)))) (xst μ (9, 0, 0) 6 (0 : Int32))) : MW G (d + 1) mX9_clearText [vR (9, 0, 0)] μ Q := MW.of (E := eX9_clearText) okX9_clearText (Nat.le_of_ble_eq_true rfl) fun Z => WS.go okX9_clearText 13 h
set_option maxRecDepth 100000 in
set_option maxHeartbeats 4000000 in
theorem wX9_makes {G : xG} {d : Nat} {a0 : Int32} {a1 : Int32} {a2 : Int32} {a3 : Int32} {μ : xM} {Q : xP} (h : xif (a0 = 0) (Q (some (vI (0 : Int32))) μ) (xif ((μ (9, 0, 0) 17) = 0) (MW G d mX9_hasRoom [vR (9, 0, 0), vI a1, vI a2, vI a3] μ (xrI fun x2 μ1 => xif (x2 = 0) (((1 : Int32) = 0 ∨ (1 : Int32) = 1) ∧ xif (((xst μ1 (9, 0, 0) 17 (1 : Int32)) (9, 0, 0) 17) = 0) (MW G d mX9_make [vR (9, 0, 0), vI a1, vI a2, vI a3] (xst μ1 (9, 0, 0) 17 (1 : Int32)) (xrI fun x4 μ3 => Q (some (vI x4)) μ3)) (Q (some (vI (0 : Int32))) (xst μ1 (9, 0, 0) 17 (1 : Int32)))) (((0 : Int32) = 0 ∨ (0 : Int32) = 1) ∧ xif (((xst μ1 (9, 0, 0) 17 (0 : Int32)) (9, 0, 0) 17) = 0) (MW G d mX9_make [vR (9, 0, 0), vI a1, vI a2, vI a3] (xst μ1 (9, 0, 0) 17 (0 : Int32)) (xrI fun x6 μ5 => Q (some (vI x6)) μ5)) (Q (some (vI (0 : Int32))) (xst μ1 (9, 0, 0) 17 (0 : Int32)))))) (Q (some (vI (0 : Int32))) μ))) : MW G (d + 1) mX9_makes [vR (9, 0, 0), vI a0, vI a1, vI a2, vI a3] μ Q := MW.of (E := eX9_makes) okX9_makes (Nat.le_of_ble_eq_true rfl) fun Z => WS.go okX9_makes 34 h
set_option maxRecDepth 100000 in
set_option maxHeartbeats 4000000 in
theorem wX9_isWhole {G : xG} {d : Nat} {a0 : Int32} {a1 : Int32} {μ : xM} {Q : xP} (h : ∀ Z : xZ, WS G eX9_isWhole (d + 1) Z Q 7 [vR (9, 0, 0), vI a0, vN, vI (0 : Int32)] [] (xst μ (9, 0, 0) 16 a1)) : MW G (d + 1) mX9_isWhole [vR (9, 0, 0), vI a0, vI a1] μ Q := MW.of (E := eX9_isWhole) okX9_isWhole (Nat.le_of_ble_eq_true rfl) fun Z => WS.go okX9_isWhole 38 (h Z)
set_option maxRecDepth 100000 in
set_option maxHeartbeats 4000000 in
theorem wX9_isWhole_7 {G : xG} {d : Nat} {Z : xZ} {v1 : Int32} {v3 : Int32} {μ : xM} {Q : xP} (h : vp_in ((μ (9, 0, 0) 14)) 11 ∧ xif ((μ (1, 0, 26) ((μ (9, 0, 0) 14)).toNatClampNeg) ≤ v3) (vp_in ((μ (9, 0, 0) 14)) 11 ∧ ((0 : Int32) = 0 ∨ (0 : Int32) = 1) ∧ Q none (xst (xst μ (1, 0, 26) ((μ (9, 0, 0) 14)).toNatClampNeg (0 : Int32)) (9, 0, 0) 15 (0 : Int32))) (MW G d mX9_makes [vR (9, 0, 0), vI v1, vI (2 : Int32), vI (μ (9, 0, 0) 16), vI (-6 : Int32)] μ (xrI fun x2 μ1 => WS G eX9_isWhole (d + 1) Z Q 7 [vR (9, 0, 0), vI v1, vN, vI (v3 + (1 : Int32))] [] (xst μ1 (9, 0, 0) 16 x2)))) : WS G eX9_isWhole (d + 1) Z Q 7 [vR (9, 0, 0), vI v1, vN, vI v3] [] μ := WS.go okX9_isWhole 38 h
set_option maxRecDepth 100000 in
set_option maxHeartbeats 4000000 in
theorem wX9_signOf {G : xG} {d : Nat} {a0 : Int32} {μ : xM} {Q : xP} (h : xif (a0 = (38 : Int32)) (Q (some (vI (3 : Int32))) μ) (xif (a0 = (124 : Int32)) (Q (some (vI (4 : Int32))) μ) (xif (a0 = (62 : Int32)) (Q (some (vI (5 : Int32))) μ) (Q (some (vI (-6 : Int32))) μ)))) : MW G (d + 1) mX9_signOf [vI a0] μ Q := MW.of (E := eX9_signOf) okX9_signOf (Nat.le_of_ble_eq_true rfl) fun Z => WS.go okX9_signOf 22 h
set_option maxRecDepth 100000 in
set_option maxHeartbeats 4000000 in
theorem wX9_readOne {G : xG} {d : Nat} {a0 : Int32} {a1 : Int32} {μ : xM} {Q : xP} (h : xif ((μ (9, 0, 0) 15) = 0) (xif ((μ (9, 0, 0) 14) = 0) (((0 : Int32) = 0 ∨ (0 : Int32) = 1) ∧ Q (some (vI (0 : Int32))) μ) (vp_in ((μ (9, 0, 0) 14)) 11 ∧ xif ((μ (1, 0, 28) ((μ (9, 0, 0) 14)).toNatClampNeg) = (-6 : Int32)) (MW G d mX9_signOf [vI a1] μ (xrI fun x2 μ1 => vp_in ((μ (9, 0, 0) 14)) 11 ∧ vp_in (((xst μ1 (1, 0, 28) ((μ (9, 0, 0) 14)).toNatClampNeg x2) (9, 0, 0) 14)) 11 ∧ ((1 : Int32) = 0 ∨ (1 : Int32) = 1) ∧ vp_in (((xst (xst (xst μ1 (1, 0, 28) ((μ (9, 0, 0) 14)).toNatClampNeg x2) (1, 0, 27) (((xst μ1 (1, 0, 28) ((μ (9, 0, 0) 14)).toNatClampNeg x2) (9, 0, 0) 14)).toNatClampNeg (((xst μ1 (1, 0, 28) ((μ (9, 0, 0) 14)).toNatClampNeg x2) (9, 0, 0) 16))) (9, 0, 0) 15 (1 : Int32)) (9, 0, 0) 14)) 11 ∧ xif (((xst (xst (xst μ1 (1, 0, 28) ((μ (9, 0, 0) 14)).toNatClampNeg x2) (1, 0, 27) (((xst μ1 (1, 0, 28) ((μ (9, 0, 0) 14)).toNatClampNeg x2) (9, 0, 0) 14)).toNatClampNeg (((xst μ1 (1, 0, 28) ((μ (9, 0, 0) 14)).toNatClampNeg x2) (9, 0, 0) 16))) (9, 0, 0) 15 (1 : Int32)) (1, 0, 28) (((xst (xst (xst μ1 (1, 0, 28) ((μ (9, 0, 0) 14)).toNatClampNeg x2) (1, 0, 27) (((xst μ1 (1, 0, 28) ((μ (9, 0, 0) 14)).toNatClampNeg x2) (9, 0, 0) 14)).toNatClampNeg (((xst μ1 (1, 0, 28) ((μ (9, 0, 0) 14)).toNatClampNeg x2) (9, 0, 0) 16))) (9, 0, 0) 15 (1 : Int32)) (9, 0, 0) 14)).toNatClampNeg) = (-6 : Int32)) (((0 : Int32) = 0 ∨ (0 : Int32) = 1) ∧ Q (some (vI (0 : Int32))) (xst (xst (xst μ1 (1, 0, 28) ((μ (9, 0, 0) 14)).toNatClampNeg x2) (1, 0, 27) (((xst μ1 (1, 0, 28) ((μ (9, 0, 0) 14)).toNatClampNeg x2) (9, 0, 0) 14)).toNatClampNeg (((xst μ1 (1, 0, 28) ((μ (9, 0, 0) 14)).toNatClampNeg x2) (9, 0, 0) 16))) (9, 0, 0) 15 (1 : Int32))) (((1 : Int32) = 0 ∨ (1 : Int32) = 1) ∧ Q (some (vI (1 : Int32))) (xst (xst (xst μ1 (1, 0, 28) ((μ (9, 0, 0) 14)).toNatClampNeg x2) (1, 0, 27) (((xst μ1 (1, 0, 28) ((μ (9, 0, 0) 14)).toNatClampNeg x2) (9, 0, 0) 14)).toNatClampNeg (((xst μ1 (1, 0, 28) ((μ (9, 0, 0) 14)).toNatClampNeg x2) (9, 0, 0) 16))) (9, 0, 0) 15 (1 : Int32))))) (xif (a1 = (41 : Int32)) (vp_in ((μ (9, 0, 0) 14)) 11 ∧ vp_in ((μ (9, 0, 0) 14)) 11 ∧ MW G d mX9_makes [vR (9, 0, 0), vI a0, vI (μ (1, 0, 28) ((μ (9, 0, 0) 14)).toNatClampNeg), vI (μ (1, 0, 27) ((μ (9, 0, 0) 14)).toNatClampNeg), vI (μ (9, 0, 0) 16)] μ (xrI fun x4 μ3 => MW G d mX9_isWhole [vR (9, 0, 0), vI a0, vI x4] (xst μ3 (9, 0, 0) 14 (((μ3 (9, 0, 0) 14) - (1 : Int32)))) (xrV fun μ5 => ((1 : Int32) = 0 ∨ (1 : Int32) = 1) ∧ Q (some (vI (1 : Int32))) μ5))) (((0 : Int32) = 0 ∨ (0 : Int32) = 1) ∧ Q (some (vI (0 : Int32))) μ)))) (MW G d mX9_in [vI a1, vI (97 : Int32), vI (104 : Int32)] μ (xrI fun x7 μ6 => xif (x7 = 0) (xif (a1 = (35 : Int32)) (MW G d mX9_makes [vR (9, 0, 0), vI a0, vI (1 : Int32), vI (-6 : Int32), vI (-6 : Int32)] μ6 (xrI fun x9 μ8 => MW G d mX9_isWhole [vR (9, 0, 0), vI a0, vI x9] μ8 (xrV fun μ10 => ((1 : Int32) = 0 ∨ (1 : Int32) = 1) ∧ Q (some (vI (1 : Int32))) μ10))) (xif (a1 = (126 : Int32)) (vp_in ((μ6 (9, 0, 0) 14)) 11 ∧ vp_in ((μ6 (9, 0, 0) 14)) 11 ∧ ((1 : Int32) = 0 ∨ (1 : Int32) = 1) ∧ Q (some (vI (1 : Int32))) (xst μ6 (1, 0, 26) ((μ6 (9, 0, 0) 14)).toNatClampNeg (((μ6 (1, 0, 26) ((μ6 (9, 0, 0) 14)).toNatClampNeg) + (1 : Int32))))) (xif (a1 = (40 : Int32)) (xif ((10 : Int32) ≤ (μ6 (9, 0, 0) 14)) (((0 : Int32) = 0 ∨ (0 : Int32) = 1) ∧ Q (some (vI (0 : Int32))) μ6) (vp_in (((xst μ6 (9, 0, 0) 14 (((μ6 (9, 0, 0) 14) + (1 : Int32)))) (9, 0, 0) 14)) 11 ∧ vp_in (((xst (xst μ6 (9, 0, 0) 14 (((μ6 (9, 0, 0) 14) + (1 : Int32)))) (1, 0, 26) (((xst μ6 (9, 0, 0) 14 (((μ6 (9, 0, 0) 14) + (1 : Int32)))) (9, 0, 0) 14)).toNatClampNeg (0 : Int32)) (9, 0, 0) 14)) 11 ∧ ((1 : Int32) = 0 ∨ (1 : Int32) = 1) ∧ Q (some (vI (1 : Int32))) (xst (xst (xst μ6 (9, 0, 0) 14 (((μ6 (9, 0, 0) 14) + (1 : Int32)))) (1, 0, 26) (((xst μ6 (9, 0, 0) 14 (((μ6 (9, 0, 0) 14) + (1 : Int32)))) (9, 0, 0) 14)).toNatClampNeg (0 : Int32)) (1, 0, 28) (((xst (xst μ6 (9, 0, 0) 14 (((μ6 (9, 0, 0) 14) + (1 : Int32)))) (1, 0, 26) (((xst μ6 (9, 0, 0) 14 (((μ6 (9, 0, 0) 14) + (1 : Int32)))) (9, 0, 0) 14)).toNatClampNeg (0 : Int32)) (9, 0, 0) 14)).toNatClampNeg (-6 : Int32)))) (((0 : Int32) = 0 ∨ (0 : Int32) = 1) ∧ Q (some (vI (0 : Int32))) μ6)))) (MW G d mX9_makes [vR (9, 0, 0), vI a0, vI (0 : Int32), vI (a1 - (97 : Int32)), vI (-6 : Int32)] μ6 (xrI fun x12 μ11 => MW G d mX9_isWhole [vR (9, 0, 0), vI a0, vI x12] μ11 (xrV fun μ13 => ((1 : Int32) = 0 ∨ (1 : Int32) = 1) ∧ Q (some (vI (1 : Int32))) μ13)))))) : MW G (d + 1) mX9_readOne [vR (9, 0, 0), vI a0, vI a1] μ Q := MW.of (E := eX9_readOne) okX9_readOne (Nat.le_of_ble_eq_true rfl) fun Z => WS.go okX9_readOne 154 h
set_option maxRecDepth 100000 in
set_option maxHeartbeats 4000000 in
theorem wX9_readBuffer {G : xG} {d : Nat} {a0 : Int32} {μ : xM} {Q : xP} (h : ∀ Z : xZ, vp_in (0 : Int32) 11 ∧ ((1 : Int32) = 0 ∨ (1 : Int32) = 1) ∧ ((0 : Int32) = 0 ∨ (0 : Int32) = 1) ∧ WS G eX9_readBuffer (d + 1) Z Q 24 [vR (9, 0, 0), vI a0, vI (0 : Int32)] [] (xst (xst (xst (xst μ (9, 0, 0) 14 (0 : Int32)) (1, 0, 26) (0 : Int32).toNatClampNeg (0 : Int32)) (9, 0, 0) 15 (1 : Int32)) (9, 0, 0) 17 (0 : Int32))) : MW G (d + 1) mX9_readBuffer [vR (9, 0, 0), vI a0] μ Q := MW.of (E := eX9_readBuffer) okX9_readBuffer (Nat.le_of_ble_eq_true rfl) fun Z => WS.go okX9_readBuffer 48 (h Z)
set_option maxRecDepth 100000 in
set_option maxHeartbeats 4000000 in
theorem wX9_readBuffer_24 {G : xG} {d : Nat} {Z : xZ} {v1 : Int32} {v2 : Int32} {μ : xM} {Q : xP} (h : xif ((μ (9, 0, 0) 6) ≤ v2) (xif ((μ (9, 0, 0) 15) = 0) (xif ((μ (9, 0, 0) 14) ≤ 0) (Q (some (vI (-6 : Int32))) μ) (Q (some (vI ((μ (9, 0, 0) 6)))) μ)) (Q (some (vI ((μ (9, 0, 0) 6)))) μ)) (vp_in v2 70 ∧ MW G d mX9_readOne [vR (9, 0, 0), vI v1, vI (μ (11, 0, 0) v2.toNatClampNeg)] μ (xrI fun x2 μ1 => xif (x2 = 0) (Q (some (vI v2)) μ1) (WS G eX9_readBuffer (d + 1) Z Q 24 [vR (9, 0, 0), vI v1, vI (v2 + (1 : Int32))] [] μ1)))) : WS G eX9_readBuffer (d + 1) Z Q 24 [vR (9, 0, 0), vI v1, vI v2] [] μ := WS.go okX9_readBuffer 48 h
set_option maxRecDepth 100000 in
set_option maxHeartbeats 4000000 in
theorem wX9_errorPosition {G : xG} {d : Nat} {μ : xM} {Q : xP} (h : MW G d mX9_readBuffer [vR (9, 0, 0), vI (0 : Int32)] μ (xrI fun x2 μ1 => Q (some (vI x2)) μ1)) : MW G (d + 1) mX9_errorPosition [vR (9, 0, 0)] μ Q := MW.of (E := eX9_errorPosition) okX9_errorPosition (Nat.le_of_ble_eq_true rfl) fun Z => WS.go okX9_errorPosition 9 h
set_option maxRecDepth 100000 in
set_option maxHeartbeats 4000000 in
theorem wX9_read {G : xG} {d : Nat} {μ : xM} {Q : xP} (h : MW G d mX9_readBuffer [vR (9, 0, 0), vI (0 : Int32)] μ (xrI fun x2 μ1 => xif (x2 = (-6 : Int32)) (vp_in (0 : Int32) 615 ∧ MW G d mX9_readBuffer [vR (9, 0, 0), vI (1 : Int32)] μ1 (xrI fun x4 μ3 => vp_in (0 : Int32) 615 ∧ vp_in (0 : Int32) 615 ∧ xif (((xst μ3 (1, 0, 20) (0 : Int32).toNatClampNeg ((μ1 (1, 0, 20) (0 : Int32).toNatClampNeg))) (9, 0, 0) 17) = 0) (MW G d mX9_record [vR (9, 0, 0)] (xst μ3 (1, 0, 20) (0 : Int32).toNatClampNeg ((μ1 (1, 0, 20) (0 : Int32).toNatClampNeg))) (xrV fun μ5 => vp_in (0 : Int32) 615 ∧ Q (some (vI (((xst (xst μ5 (1, 0, 20) (0 : Int32).toNatClampNeg ((μ3 (1, 0, 20) (0 : Int32).toNatClampNeg))) (9, 0, 0) 6 (0 : Int32)) (9, 0, 0) 16)))) (xst (xst μ5 (1, 0, 20) (0 : Int32).toNatClampNeg ((μ3 (1, 0, 20) (0 : Int32).toNatClampNeg))) (9, 0, 0) 6 (0 : Int32)))) (Q (some (vI (-4 : Int32))) (xst μ3 (1, 0, 20) (0 : Int32).toNatClampNeg ((μ1 (1, 0, 20) (0 : Int32).toNatClampNeg)))))) (Q (some (vI (-5 : Int32))) μ1))) : MW G (d + 1) mX9_read [vR (9, 0, 0)] μ Q := MW.of (E := eX9_read) okX9_read (Nat.le_of_ble_eq_true rfl) fun Z => WS.go okX9_read 49 h
end
section
/-! THE PURE PART: numbers, rows, states -/
theorem xif_t {c a b : Prop} (h : c) (ha : a) : xif c a b := ⟨fun _ => ha, fun n => absurd h n⟩
theorem xif_f {c a b : Prop} (h : ¬ c) (hb : b) : xif c a b := ⟨fun n => absurd n h, fun _ => hb⟩
theorem xif_c {c a b : Prop} (ha : c → a) (hb : ¬ c → b) : xif c a b := ⟨ha, hb⟩
theorem z01 : (0 : Int32) = 0 ∨ (0 : Int32) = 1 := Or.inl rfl
theorem z11 : (1 : Int32) = 0 ∨ (1 : Int32) = 1 := Or.inr rfl
theorem ti_lt {x y : Int32} : x < y ↔ x.toInt < y.toInt := Int32.lt_iff_toInt_lt
theorem ti_le {x y : Int32} : x ≤ y ↔ x.toInt ≤ y.toInt := Int32.le_iff_toInt_le
theorem ti_eq {x y : Int32} : x = y ↔ x.toInt = y.toInt := Int32.toInt_inj.symm
theorem ti_bd (x : Int32) : -2147483648 ≤ x.toInt ∧ x.toInt ≤ 2147483647 := by
  have h1 := Int32.le_toInt x
  have h2 := Int32.toInt_lt x
  omega
theorem ti_add {x y : Int32} (h1 : -2147483648 ≤ x.toInt + y.toInt) (h2 : x.toInt + y.toInt ≤ 2147483647) : (x + y).toInt = x.toInt + y.toInt := by
  rw [Int32.toInt_add]
  exact Int.bmod_eq_of_le (by omega) (by omega)
theorem ti_sub {x y : Int32} (h1 : -2147483648 ≤ x.toInt - y.toInt) (h2 : x.toInt - y.toInt ≤ 2147483647) : (x - y).toInt = x.toInt - y.toInt := by
  rw [Int32.toInt_sub]
  exact Int.bmod_eq_of_le (by omega) (by omega)
theorem ti_mul {x y : Int32} (h1 : -2147483648 ≤ x.toInt * y.toInt) (h2 : x.toInt * y.toInt ≤ 2147483647) : (x * y).toInt = x.toInt * y.toInt := by
  rw [Int32.toInt_mul]
  exact Int.bmod_eq_of_le (by omega) (by omega)
theorem ti_cl (x : Int32) : x.toNatClampNeg = x.toInt.toNat := rfl
theorem ti_cl' {x : Int32} {k : Nat} (h : x.toInt = k) : x.toNatClampNeg = k := by
  rw [ti_cl, h]
  rfl
theorem ti_of {k : Nat} (h : k < 2147483648) : (Int32.ofNat k).toInt = k := nI_toInt h
theorem ti_in {x : Int32} {k n : Nat} (h : x.toInt = k) (hk : k < n) : vp_in x n := vp_in_iff.mpr (by omega)
theorem ti_lit0 : (0 : Int32).toInt = 0 := rfl
theorem ti_lit1 : (1 : Int32).toInt = 1 := rfl
theorem ti_litm6 : (-6 : Int32).toInt = -6 := rfl
theorem xlenc_bd (c : Nat) : xlenc c < 4000 := by
  unfold xlenc
  split <;> omega
theorem xst_rd (μ : xM) (p q : xI) (k i : Nat) (v : Int32) : xst μ q k v p i = if p = q ∧ i = k then v else μ p i := by
  unfold xst
  by_cases h : p = q
  · subst h
    by_cases hi : i = k
    · subst hi; simp [pk_us]
    · simp [hi, pk_un hi]
  · simp [h]
section
variable {G : xG} {d j c : Nat} {μ : xM} {Q : xP}
theorem get_in {i : Int32} {k : Nat} (hi : i.toInt = k) (hk : k < xlenc c) (h : Q (some (vI (μ (1, j, c) k))) μ) : MW G (d + 1) mX5_get [vR (0, j, c), vI i] μ Q := by
  have hb := xlenc_bd c
  refine wX5_get (xif_f ?_ (xif_f ?_ ⟨ti_in hi hk, ?_⟩))
  · rw [ti_lt, ti_lit0]; omega
  · rw [ti_le, ti_of (by omega)]; omega
  · rw [ti_cl' hi]; exact h
theorem get_out {i : Int32} (hi : i.toInt < 0 ∨ (xlenc c : Int) ≤ i.toInt) (h : Q (some (vI (-6))) μ) : MW G (d + 1) mX5_get [vR (0, j, c), vI i] μ Q := by
  have hb := xlenc_bd c
  refine wX5_get (xif_c (fun _ => h) fun h1 => xif_t ?_ h)
  rw [ti_lt, ti_lit0] at h1
  rw [ti_le, ti_of (by omega)]; omega
theorem set_in {i v : Int32} {k : Nat} (hi : i.toInt = k) (hk : k < xlenc c) (h : Q none (xst μ (1, j, c) k v)) : MW G (d + 1) mX5_set [vR (0, j, c), vI i, vI v] μ Q := by
  have hb := xlenc_bd c
  refine wX5_set (xif_f ?_ (xif_f ?_ ⟨ti_in hi hk, ?_⟩))
  · rw [ti_lt, ti_lit0]; omega
  · rw [ti_le, ti_of (by omega)]; omega
  · rw [ti_cl' hi]; exact h
theorem set_out {i v : Int32} (hi : i.toInt < 0 ∨ (xlenc c : Int) ≤ i.toInt) (h : Q none μ) : MW G (d + 1) mX5_set [vR (0, j, c), vI i, vI v] μ Q := by
  have hb := xlenc_bd c
  refine wX5_set (xif_c (fun _ => h) fun h1 => xif_t ?_ h)
  rw [ti_lt, ti_lit0] at h1
  rw [ti_le, ti_of (by omega)]; omega
/-- a row copied from another one of the same length -/
theorem copy_row {j0 : Nat} (h : Q none (xcp μ (1, j0, c) (1, j, c) 0 0 (xlenc c))) : MW G (d + 1) mX5_copyFrom [vR (0, j, c), vR (0, j0, c)] μ Q := by
  have hb := xlenc_bd c
  refine wX5_copyFrom ?_
  rw [if_neg (by rw [ti_lt]; omega)]
  have e : (Int32.ofNat (xlenc c)).toInt = xlenc c := ti_of (by omega)
  have e0 : (0 : Int32).toNatClampNeg = 0 := rfl
  rw [ti_cl' e, e0]
  refine ⟨by rw [ti_lt]; omega, by rw [ti_lt]; omega, by rw [ti_lt, e, ti_lit0]; omega, by omega, by omega, h⟩
end
theorem xcp_rd (μ : xM) (a b p : xI) (n i : Nat) : xcp μ a b 0 0 n p i = if p = b ∧ i < n then μ a i else μ p i := by
  unfold xcp
  by_cases h : p = b
  · subst h
    by_cases hi : i < n
    · rw [if_pos rfl, if_pos ⟨rfl, hi⟩, pk_cpy_in (Nat.zero_le i) (by omega)]
      simp
    · rw [if_pos rfl, if_neg (fun q => hi q.2), pk_cpy_out (Or.inr (by omega))]
  · rw [if_neg h, if_neg (fun q => h q.1)]
/-! the state that both sides stand for: how many formulas, lines, boxes, the innermost open box; formulas (kind, left, right), lines (formula, rule, three references, home), boxes (start, end, parent) -/
abbrev aS : Type := (Nat × Nat × Nat × Int) × (Nat → Nat → Int) × (Nat → Nat → Int) × (Nat → Nat → Int)
abbrev aS.nf (S : aS) : Nat := S.1.1
abbrev aS.nl (S : aS) : Nat := S.1.2.1
abbrev aS.nb (S : aS) : Nat := S.1.2.2.1
abbrev aS.inn (S : aS) : Int := S.1.2.2.2
abbrev aS.F (S : aS) : Nat → Nat → Int := S.2.1
abbrev aS.L (S : aS) : Nat → Nat → Int := S.2.2.1
abbrev aS.B (S : aS) : Nat → Nat → Int := S.2.2.2
/-- the column of the class's rows for a line's part -/
def lcol : Nat → Nat
  | 0 => 3 | 1 => 4 | 2 => 6 | 3 => 7 | 4 => 8 | _ => 5
def repF (μ : xM) (j : Nat) (S : aS) : Prop := (μ (2, j, 0) 0).toInt = S.nf ∧ ∀ c, c < 3 → ∀ f, f < S.nf → (μ (1, j, c) f).toInt = S.F c f
def repP (μ : xM) (j : Nat) (S : aS) : Prop := (μ (3, j, 0) 0).toInt = S.nl ∧ (μ (3, j, 0) 1).toInt = S.nb ∧ (μ (3, j, 0) 2).toInt = S.inn ∧ (∀ c, c < 6 → ∀ l, l < S.nl → (μ (1, j, lcol c) l).toInt = S.L c l) ∧ ∀ c, c < 3 → ∀ b, b < S.nb → (μ (1, j, 9 + c) b).toInt = S.B c b
/-- state j of the class stands for S -/
def repC (μ : xM) (j : Nat) (S : aS) : Prop := repF μ j S ∧ repP μ j S
/-- the model's row stands for S -/
def repR (z : Nat → Int32) (S : aS) : Prop := (z 0).toInt = S.nf ∧ (z 1).toInt = S.nl ∧ (z 2).toInt = S.nb ∧ (∀ c, c < 3 → ∀ f, f < S.nf → (z (3 + 3 * f + c)).toInt = S.F c f) ∧ (∀ c, c < 6 → ∀ l, l < S.nl → (z (183 + 6 * l + c)).toInt = S.L c l) ∧ ∀ c, c < 3 → ∀ b, b < S.nb → (z (471 + 3 * b + c)).toInt = S.B c b
/-- the cells of state j -/
def ownF (j : Nat) (q : xI) : Prop := q = (2, j, 0) ∨ (q.1 = 1 ∧ q.2.1 = j ∧ q.2.2 < 3)
def ownP (j : Nat) (q : xI) : Prop := q = (3, j, 0) ∨ (q.1 = 1 ∧ q.2.1 = j ∧ 3 ≤ q.2.2 ∧ q.2.2 < 12)
def ownS (j : Nat) (q : xI) : Prop := ownF j q ∨ ownP j q
theorem repF.keep {μ μ' : xM} {j : Nat} {S : aS} (h : repF μ j S) (e : ∀ q, ownF j q → μ' q = μ q) : repF μ' j S := by
  refine ⟨by rw [e _ (Or.inl rfl)]; exact h.1, fun c hc f hf => ?_⟩
  rw [e (1, j, c) (Or.inr ⟨rfl, rfl, hc⟩)]
  exact h.2 c hc f hf
theorem lcol_bd (c : Nat) : 3 ≤ lcol c ∧ lcol c < 9 := by
  unfold lcol
  split <;> omega
theorem repP.keep {μ μ' : xM} {j : Nat} {S : aS} (h : repP μ j S) (e : ∀ q, ownP j q → μ' q = μ q) : repP μ' j S := by
  obtain ⟨h1, h2, h3, h4, h5⟩ := h
  have e0 := e (3, j, 0) (Or.inl rfl)
  refine ⟨by rw [e0]; exact h1, by rw [e0]; exact h2, by rw [e0]; exact h3, fun c hc l hl => ?_, fun c hc b hb => ?_⟩
  · have := lcol_bd c
    rw [e (1, j, lcol c) (Or.inr ⟨rfl, rfl, (show 3 ≤ lcol c by omega), (show lcol c < 12 by omega)⟩)]
    exact h4 c hc l hl
  · rw [e (1, j, 9 + c) (Or.inr ⟨rfl, rfl, (show 3 ≤ 9 + c by omega), (show 9 + c < 12 by omega)⟩)]
    exact h5 c hc b hb
theorem repC.keep {μ μ' : xM} {j : Nat} {S : aS} (h : repC μ j S) (e : ∀ q, ownS j q → μ' q = μ q) : repC μ' j S := ⟨h.1.keep fun q hq => e q (Or.inl hq), h.2.keep fun q hq => e q (Or.inr hq)⟩
/-- how many there can be -/
def bdS (S : aS) : Prop := S.nf ≤ 60 ∧ S.nl ≤ 48 ∧ S.nb ≤ 48
section
variable {G : xG} {d j j0 : Nat} {μ : xM} {Q : xP}
theorem copyF (hj : j ≠ j0) (h : ∀ μ', (∀ q, ¬ ownF j q → μ' q = μ q) → (∀ S : aS, S.nf ≤ 60 → repF μ j0 S → repF μ' j S) → Q none μ') : MW G (d + 2) mX2_copyFrom [vR (2, j, 0), vR (2, j0, 0)] μ Q := by
  refine wX2_copyFrom (copy_row (copy_row (copy_row (h _ (fun q hq => ?_) (fun S hS hr => ?_)))))
  · funext i
    have n1 : ∀ c, c < 3 → ¬ q = (1, j, c) := fun c hc e => hq (Or.inr (by rw [e]; exact ⟨rfl, rfl, hc⟩))
    have n2 : ¬ q = (2, j, 0) := fun e => hq (Or.inl e)
    simp [xcp_rd, xst_rd, n1 0 (by omega), n1 1 (by omega), n1 2 (by omega), n2]
  · have hj' : ¬ j0 = j := fun e => hj e.symm
    obtain ⟨h1, h2⟩ := hr
    refine ⟨by simp [xcp_rd, xst_rd, h1], fun c hc f hf => ?_⟩
    have hx : f < 60 := by omega
    rcases (show c = 0 ∨ c = 1 ∨ c = 2 by omega) with rfl | rfl | rfl
    · simpa [xcp_rd, xst_rd, hj', xlenc, hx] using h2 0 (by omega) f hf
    · simpa [xcp_rd, xst_rd, hj', xlenc, hx] using h2 1 (by omega) f hf
    · simpa [xcp_rd, xst_rd, hj', xlenc, hx] using h2 2 (by omega) f hf
set_option maxHeartbeats 4000000 in
theorem copyP (hj : j ≠ j0) (h : ∀ μ', (∀ q, ¬ ownP j q → μ' q = μ q) → (∀ S : aS, S.nl ≤ 48 → S.nb ≤ 48 → repP μ j0 S → repP μ' j S) → Q none μ') : MW G (d + 2) mX4_copyFrom [vR (3, j, 0), vR (3, j0, 0)] μ Q := by
  refine wX4_copyFrom (copy_row (copy_row (copy_row (copy_row (copy_row (copy_row (copy_row (copy_row (copy_row (h _ (fun q hq => ?_) (fun S hS hS2 hr => ?_)))))))))))
  · funext i
    have n1 : ∀ c, 3 ≤ c → c < 12 → ¬ q = (1, j, c) := fun c hc hc2 e => hq (Or.inr (by rw [e]; exact ⟨rfl, rfl, hc, hc2⟩))
    have n2 : ¬ q = (3, j, 0) := fun e => hq (Or.inl e)
    simp [xcp_rd, xst_rd, n1 3 (by omega) (by omega), n1 4 (by omega) (by omega), n1 5 (by omega) (by omega), n1 6 (by omega) (by omega), n1 7 (by omega) (by omega), n1 8 (by omega) (by omega), n1 9 (by omega) (by omega), n1 10 (by omega) (by omega), n1 11 (by omega) (by omega), n2]
  · have hj' : ¬ j0 = j := fun e => hj e.symm
    obtain ⟨h1, h2, h3, h4, h5⟩ := hr
    refine ⟨by simp [xcp_rd, xst_rd, h1], by simp [xcp_rd, xst_rd, hj', h2], by simp [xcp_rd, xst_rd, hj', h3], fun c hc l hl => ?_, fun c hc b hb => ?_⟩
    · have hx : l < 48 := by omega
      have := h4 c hc l hl
      rcases (show c = 0 ∨ c = 1 ∨ c = 2 ∨ c = 3 ∨ c = 4 ∨ c = 5 by omega) with rfl | rfl | rfl | rfl | rfl | rfl <;> simpa [xcp_rd, xst_rd, hj', xlenc, lcol, hx] using this
    · have hx : b < 48 := by omega
      have := h5 c hc b hb
      rcases (show c = 0 ∨ c = 1 ∨ c = 2 by omega) with rfl | rfl | rfl <;> simpa [xcp_rd, xst_rd, hj', xlenc, hx] using this
theorem copyS (hj : j ≠ j0) (h : ∀ μ', (∀ q, ¬ ownS j q → μ' q = μ q) → (∀ S : aS, bdS S → repC μ j0 S → repC μ' j S) → Q none μ') : MW G (d + 3) mX7_copyFrom [vR (4, j, 0), vR (4, j0, 0)] μ Q := by
  refine wX7_copyFrom (copyF hj fun μ1 e1 r1 => copyP hj fun μ2 e2 r2 => h _ (fun q hq => ?_) (fun S hS hr => ?_))
  · rw [e2 q (fun z => hq (Or.inr z)), e1 q (fun z => hq (Or.inl z))]
  · have k1 := r1 S hS.1 hr.1
    refine ⟨k1.keep fun q hq => e2 q ?_, r2 S hS.2.1 hS.2.2 (hr.2.keep fun q hq => e1 q ?_)⟩
    · rcases hq with rfl | ⟨a, b, c⟩
      · rintro (z | z)
        · cases z
        · exact absurd z.1 (show ¬ (2 : Nat) = 1 by decide)
      · rintro (z | z)
        · rw [z] at a; exact absurd a (show ¬ (3 : Nat) = 1 by decide)
        · omega
    · rcases hq with rfl | ⟨a, b, c, c2⟩
      · rintro (z | z)
        · cases z
        · exact absurd z.1 (show ¬ (3 : Nat) = 1 by decide)
      · rintro (z | z)
        · rw [z] at a; exact absurd a (show ¬ (2 : Nat) = 1 by decide)
        · omega
end
end
section
/-! the class's history -/
def repH (μ : xM) (H : List aS) : Prop := ∃ n, n < 5 ∧ (μ (5, 0, 0) 1).toInt = (n : Nat) ∧ (μ (5, 0, 0) 0).toInt = H.length ∧ H.length ≤ 5 ∧ ∀ (k : Nat) (S : aS), H[k]? = some S → bdS S ∧ repC μ (2 + (n + 4 - k) % 5) S
def ownH (q : xI) : Prop := q = (5, 0, 0) ∨ ∃ j, 2 ≤ j ∧ j < 7 ∧ ownS j q
theorem own_apart {j k : Nat} {q : xI} (h1 : ownS j q) (h2 : ownS k q) : j = k := by
  obtain ⟨a, b, c⟩ := q
  rcases h1 with (h1 | h1) | (h1 | h1) <;> rcases h2 with (h2 | h2) | (h2 | h2) <;> simp at h1 h2 <;> omega
theorem own_ne {j : Nat} {q : xI} (h : ownS j q) (a b c : Nat) (ha : a = 0 ∨ 4 ≤ a) : ¬ q = (a, b, c) := by
  rintro rfl
  rcases h with (h1 | h1) | (h1 | h1) <;> simp at h1 <;> omega
theorem repH.keep {μ μ' : xM} {H : List aS} (h : repH μ H) (e : ∀ q, ownH q → μ' q = μ q) : repH μ' H := by
  obtain ⟨n, h1, h2, h3, h4, h5⟩ := h
  have e0 := e (5, 0, 0) (Or.inl rfl)
  refine ⟨n, h1, by rw [e0]; exact h2, by rw [e0]; exact h3, h4, fun k S hk => ⟨(h5 k S hk).1, (h5 k S hk).2.keep fun q hq => e q (Or.inr ⟨_, by omega, by omega, hq⟩)⟩⟩
section
variable {G : xG} {d : Nat} {μ : xM} {Q : xP}
theorem at_ok {i : Int32} {n : Nat} (hi : i.toInt = n) (hn : n < 5) (h : Q (some (vR (4, 2 + n, 0))) μ) : MW G (d + 1) mX3_at [vR (5, 0, 0), vI i] μ Q := by
  refine wX3_at (xif_f ?_ (xif_f ?_ ⟨ti_in hi hn, ?_⟩))
  · rw [ti_lt, ti_lit0]; omega
  · rw [ti_le, ti_of (by omega)]; omega
  · rw [ti_cl' hi]; exact h
theorem record_ok {S : aS} {H : List aS} (hb : bdS S) (hS : repC μ 0 S) (hH : repH μ H) (h : ∀ μ', (∀ q, ¬ ownH q → μ' q = μ q) → repH μ' ((S :: H).take 5) → Q none μ') : MW G (d + 4) mX3_record [vR (5, 0, 0), vR (4, 0, 0)] μ Q := by
  obtain ⟨n, h1, h2, h3, h4, h5⟩ := hH
  refine wX3_record (at_ok h2 h1 ?_)
  refine copyS (d := d) (j := 2 + n) (j0 := 0) (by omega) fun μ1 e1 r1 => ?_
  have e0 : μ1 (5, 0, 0) = μ (5, 0, 0) := e1 _ (fun z => own_ne z 5 0 0 (by omega) rfl)
  have key : ∀ (x y : Int32) (m : Nat), x.toInt = m → m < 5 → m = (n + 1) % 5 → y.toInt = ((S :: H).take 5).length → Q none (xst (xst μ1 (5, 0, 0) 1 x) (5, 0, 0) 0 y) := by
    intro x y m hx hm hmn hy
    refine h _ (fun q hq => ?_) ⟨m, hm, ?_, ?_, by simp; omega, fun k S' hk => ?_⟩
    · funext i
      have n1 : ¬ q = (5, 0, 0) := fun z => hq (Or.inl z)
      simp only [xst_rd, n1, false_and, if_false]
      rw [e1 q (fun z => hq (Or.inr ⟨_, by omega, by omega, z⟩))]
    · simp [xst_rd, hx]
    · simp only [xst_rd, and_self, if_true]
      exact hy
    · have keepx : ∀ {j : Nat} {S' : aS}, repC μ1 j S' → repC (xst (xst μ1 (5, 0, 0) 1 x) (5, 0, 0) 0 y) j S' := by
        intro j S' hr
        refine hr.keep fun q hq => ?_
        funext i
        simp [xst_rd, own_ne hq 5 0 0 (by omega)]
      have hk5 : k < 5 := by
        have := (List.getElem?_eq_some_iff.mp hk).1
        simp at this
        omega
      cases k with
      | zero =>
        have : S = S' := by simpa using hk
        subst this
        refine ⟨hb, ?_⟩
        rw [show 2 + (m + 4 - 0) % 5 = 2 + n by omega]
        exact keepx (r1 S hb hS)
      | succ k =>
        have hk' : H[k]? = some S' := by
          rw [List.getElem?_take, if_pos hk5] at hk
          simpa using hk
        obtain ⟨b1, b2⟩ := h5 k S' hk'
        refine ⟨b1, ?_⟩
        rw [show 2 + (m + 4 - (k + 1)) % 5 = 2 + (n + 4 - k) % 5 by omega]
        refine keepx (b2.keep fun q hq => e1 q fun z => ?_)
        have := own_apart hq z
        omega
  have hlen : ∀ (y : Int32), y = (μ (5, 0, 0) 0) → (if (5 : Int32) < (y + (1 : Int32)) then (5 : Int32) else (y + (1 : Int32))).toInt = ((S :: H).take 5).length := by
    intro y hy
    subst hy
    have ea : (μ (5, 0, 0) 0 + 1).toInt = H.length + 1 := by
      rw [ti_add (by rw [h3, ti_lit1]; omega) (by rw [h3, ti_lit1]; omega), h3, ti_lit1]
    have e5 : (5 : Int32).toInt = 5 := rfl
    have el : ((S :: H).take 5).length = min 5 (H.length + 1) := by rw [List.length_take, List.length_cons]
    split
    · rename_i hlt
      rw [ti_lt, ea, e5] at hlt
      rw [e5, el]
      omega
    · rename_i hlt
      rw [ti_lt, ea, e5] at hlt
      rw [ea, el]
      omega
  have en : (μ1 (5, 0, 0) 1 + 1).toInt = n + 1 := by
    rw [e0, ti_add (by rw [h2, ti_lit1]; omega) (by rw [h2, ti_lit1]; omega), h2, ti_lit1]
  have e5 : (5 : Int32).toInt = 5 := rfl
  refine xif_c (fun c1 => key _ _ 0 rfl (by omega) ?_ (hlen _ ?_)) (fun c1 => key _ _ (n + 1) (by rw [en]; rfl) ?_ ?_ (hlen _ ?_))
  · rw [ti_le, en, e5] at c1; omega
  · simp [xst_rd, e0]
  · rw [ti_le, en, e5] at c1; omega
  · rw [ti_le, en, e5] at c1; omega
  · simp [xst_rd, e0]
theorem takeBack_ok {S : aS} {H : List aS} (hH : repH μ (S :: H)) (h : ∀ μ', (∀ q, ¬ (q = (5, 0, 0) ∨ ownS 0 q) → μ' q = μ q) → repC μ' 0 S → repH μ' H → Q none μ') : MW G (d + 4) mX3_takeBack [vR (5, 0, 0), vR (4, 0, 0)] μ Q := by
  obtain ⟨n, h1, h2, h3, h4, h5⟩ := hH
  have e4 : (4 : Int32).toInt = (4 : Nat) := rfl
  obtain ⟨b0, r0⟩ := h5 0 S rfl
  have fin : ∀ (m : Nat) (x : Int32) (μ1 : xM), m = (n + 4) % 5 → x.toInt = m → (∀ q, ¬ ownS 0 q → μ1 q = μ q) → (∀ S : aS, bdS S → repC μ (2 + m) S → repC μ1 0 S) → Q none (xst (xst μ1 (5, 0, 0) 1 x) (5, 0, 0) 0 ((xst μ1 (5, 0, 0) 1 x (5, 0, 0) 0) - 1)) := by
    intro m x μ1 hm hx e1 r1
    have e0 : μ1 (5, 0, 0) = μ (5, 0, 0) := e1 _ (fun z => own_ne z 5 0 0 (by omega) rfl)
    have keepx : ∀ {y : Int32} {j : Nat} {S' : aS}, repC μ1 j S' → repC (xst (xst μ1 (5, 0, 0) 1 x) (5, 0, 0) 0 y) j S' := by
      intro y j S' hr
      refine hr.keep fun q hq => ?_
      funext i
      simp [xst_rd, own_ne hq 5 0 0 (by omega)]
    refine h _ (fun q hq => ?_) (keepx (r1 S b0 (by rw [hm]; exact r0))) ⟨m, by omega, ?_, ?_, ?_, fun k S' hk => ?_⟩
    · funext i
      have n1 : ¬ q = (5, 0, 0) := fun z => hq (Or.inl z)
      simp only [xst_rd, n1, false_and, if_false]
      rw [e1 q (fun z => hq (Or.inr z))]
    · simp [xst_rd, hx]
    · simp only [xst_rd, and_self, if_true, Nat.zero_ne_one, and_false, if_false]
      rw [e0, ti_sub (by rw [h3, ti_lit1, List.length_cons]; omega) (by rw [h3, ti_lit1]; rw [List.length_cons] at h4 ⊢; omega), h3, ti_lit1]
      simp
    · simp at h4; omega
    · have hk4 := (List.getElem?_eq_some_iff.mp hk).1
      simp at h4
      obtain ⟨b1, b2⟩ := h5 (k + 1) S' (by simpa using hk)
      refine ⟨b1, ?_⟩
      rw [show 2 + (m + 4 - k) % 5 = 2 + (n + 4 - (k + 1)) % 5 by omega]
      refine keepx (b2.keep fun q hq => e1 q fun z => ?_)
      have := own_apart hq z
      omega
  have hc : ∀ μ1 : xM, (∀ q, ¬ ownS 0 q → μ1 q = μ q) → ¬ μ1 (5, 0, 0) 0 ≤ 0 := by
    intro μ1 e1
    rw [ti_le, e1 _ (fun z => own_ne z 5 0 0 (by omega) rfl), h3, ti_lit0, List.length_cons]
    omega
  refine wX3_takeBack (xif_c (fun c1 => ?_) (fun c1 => ?_))
  · rw [ti_le, h2, ti_lit0] at c1
    refine at_ok e4 (by omega) (xif_f (hc μ fun _ _ => rfl) ?_)
    refine copyS (d := d) (j := 0) (j0 := 2 + 4) (by omega) fun μ1 e1 r1 => ?_
    exact fin 4 _ μ1 (by omega) e4 e1 r1
  · rw [ti_le, h2, ti_lit0] at c1
    have en : (μ (5, 0, 0) 1 - 1).toInt = (n - 1 : Nat) := by
      rw [ti_sub (by rw [h2, ti_lit1]; omega) (by rw [h2, ti_lit1]; omega), h2, ti_lit1]
      omega
    refine at_ok en (by omega) (xif_f (hc μ fun _ _ => rfl) ?_)
    refine copyS (d := d) (j := 0) (j0 := 2 + (n - 1)) (by omega) fun μ1 e1 r1 => ?_
    exact fin (n - 1) _ μ1 (by omega) en e1 r1
end
end
section
/-! loops; the model's history -/
theorem up_loop {σ : Type} (W I : Nat → σ → Prop) (N : Nat) (hs : ∀ k s, k < N → I k s → (∀ s', I (k + 1) s' → W (k + 1) s') → W k s) (he : ∀ s, I N s → W N s) : ∀ k s, k ≤ N → I k s → W k s := by
  have key : ∀ m k s, N - k = m → k ≤ N → I k s → W k s := by
    intro m
    induction m with
    | zero =>
      intro k s h1 h2 h3
      have : k = N := by omega
      subst this
      exact he s h3
    | succ m ih =>
      intro k s h1 h2 h3
      exact hs k s (by omega) h3 fun s' h4 => ih (k + 1) s' (by omega) (by omega) h4
  exact fun k s h1 h2 => key _ k s rfl h1 h2
theorem nI_t {k : Nat} (h : k < 2147483648) : (nI k).toInt = k := nI_toInt h
theorem repR.cg {z z' : Nat → Int32} {S : aS} (hb : bdS S) (h : repR z S) (e : ∀ i, i < 615 → z' i = z i) : repR z' S := by
  obtain ⟨b1, b2, b3⟩ := hb
  obtain ⟨h1, h2, h3, h4, h5, h6⟩ := h
  refine ⟨by rw [e 0 (by omega)]; exact h1, by rw [e 1 (by omega)]; exact h2, by rw [e 2 (by omega)]; exact h3, fun c hc f hf => ?_, fun c hc l hl => ?_, fun c hc b hb => ?_⟩
  · rw [e _ (by omega)]; exact h4 c hc f hf
  · rw [e _ (by omega)]; exact h5 c hc l hl
  · rw [e _ (by omega)]; exact h6 c hc b hb
def repHM (μ : xM) (H : List aS) : Prop := (μ (9, 0, 0) 2).toInt = H.length ∧ H.length ≤ 5 ∧ ∀ (k : Nat) (S : aS), H[k]? = some S → bdS S ∧ repR (fun i => μ (1, 0, 21) ((H.length - 1 - k) * 615 + i)) S
section
variable {G : xG} {d : Nat} {μ : xM} {Q : xP}
theorem mcopy {Z : xZ} {p : Nat} (hp : p < 5) (hm : (μ (9, 0, 0) 2).toInt = p) (h : ∀ μ' : xM, (∀ q, q ≠ (1, 0, 21) → q ≠ (9, 0, 0) → μ' q = μ q) → (∀ i, i ≠ 2 → μ' (9, 0, 0) i = μ (9, 0, 0) i) → (μ' (9, 0, 0) 2).toInt = (p : Int) + 1 → (∀ i, i < p * 615 → μ' (1, 0, 21) i = μ (1, 0, 21) i) → (∀ i, i < 615 → μ' (1, 0, 21) (p * 615 + i) = μ (1, 0, 20) i) → Q none μ') : WS G eX9_record (d + 1) Z Q 51 [vR (9, 0, 0), vI 0] [] μ := by
  have e615 : (615 : Int32).toInt = 615 := rfl
  refine up_loop (fun k μ1 => WS G eX9_record (d + 1) Z Q 51 [vR (9, 0, 0), vI (nI k)] [] μ1) (fun k μ1 => (∀ q, q ≠ (1, 0, 21) → μ1 q = μ q) ∧ (∀ i, i < p * 615 → μ1 (1, 0, 21) i = μ (1, 0, 21) i) ∧ ∀ i, i < k → μ1 (1, 0, 21) (p * 615 + i) = μ (1, 0, 20) i) 615 ?_ ?_ 0 μ (by omega) ⟨fun _ _ => rfl, fun _ _ => rfl, fun i hi => by omega⟩
  · intro k μ1 hk ⟨i1, i2, i3⟩ ih
    have ek : (nI k).toInt = k := nI_t (by omega)
    have e9 : μ1 (9, 0, 0) = μ (9, 0, 0) := i1 _ (by decide)
    have ez : μ1 (1, 0, 20) = μ (1, 0, 20) := i1 _ (by decide)
    have em : (μ1 (9, 0, 0) 2 * 615).toInt = (p * 615 : Nat) := by
      rw [e9, ti_mul (by rw [hm, e615]; omega) (by rw [hm, e615]; omega), hm, e615]
      omega
    have ex : (μ1 (9, 0, 0) 2 * 615 + nI k).toInt = (p * 615 + k : Nat) := by
      rw [ti_add (by rw [em, ek]; omega) (by rw [em, ek]; omega), em, ek]
      omega
    refine wX9_record_51 (xif_f (by rw [ti_le, e615, ek]; omega) ⟨ti_in ek hk, ti_in ex (by omega), ?_⟩)
    rw [nI_1, ti_cl' ex, ti_cl' ek]
    refine ih _ ⟨fun q hq => ?_, fun i hi => ?_, fun i hi => ?_⟩
    · funext i
      rw [xst_rd, if_neg (fun z => hq z.1), i1 q hq]
    · rw [xst_rd, if_neg (fun z => by omega), i2 i hi]
    · rw [xst_rd]
      by_cases hik : i = k
      · subst hik
        rw [if_pos ⟨rfl, rfl⟩, ez]
      · rw [if_neg (fun z => by omega), i3 i (by omega)]
  · intro μ1 ⟨i1, i2, i3⟩
    have e9 : μ1 (9, 0, 0) = μ (9, 0, 0) := i1 _ (by decide)
    refine wX9_record_51 (xif_t (by rw [ti_le, e615, nI_t (by omega)]; omega) ?_)
    refine h _ (fun q h1 h2 => ?_) (fun i hi => ?_) ?_ (fun i hi => ?_) (fun i hi => ?_)
    · funext i
      rw [xst_rd, if_neg (fun z => h2 z.1), i1 q h1]
    · rw [xst_rd, if_neg (fun z => hi z.2), e9]
    · rw [xst_rd, if_pos ⟨rfl, rfl⟩, e9, ti_add (by rw [hm, ti_lit1]; omega) (by rw [hm, ti_lit1]; omega), hm, ti_lit1]
    · rw [xst_rd, if_neg (by simp), i2 i hi]
    · rw [xst_rd, if_neg (by simp), i3 i hi]
theorem mrecord_ok {S : aS} {H : List aS} (hb : bdS S) (hS : repR (μ (1, 0, 20)) S) (hH : repHM μ H) (h : ∀ μ' : xM, (∀ q, q ≠ (1, 0, 21) → q ≠ (9, 0, 0) → μ' q = μ q) → (∀ i, i ≠ 2 → μ' (9, 0, 0) i = μ (9, 0, 0) i) → repHM μ' ((S :: H).take 5) → Q none μ') : MW G (d + 1) mX9_record [vR (9, 0, 0)] μ Q := by
  obtain ⟨h1, h2, h3⟩ := hH
  have e5 : (5 : Int32).toInt = 5 := rfl
  have e2460 : (2460 : Int32).toInt = 2460 := rfl
  have e615 : (615 : Int32).toInt = 615 := rfl
  refine wX9_record fun Z => xif_c (fun c1 => ?_) (fun c1 => ?_)
  · rw [ti_eq, h1, e5] at c1
    have hl : H.length = 5 := by omega
    refine up_loop (fun k μ1 => WS G eX9_record (d + 1) Z Q 10 [vR (9, 0, 0), vI (nI k)] [] μ1) (fun k μ1 => (∀ q, q ≠ (1, 0, 21) → μ1 q = μ q) ∧ (∀ i, i < k → μ1 (1, 0, 21) i = μ (1, 0, 21) (i + 615)) ∧ ∀ i, k ≤ i → μ1 (1, 0, 21) i = μ (1, 0, 21) i) 2460 ?_ ?_ 0 μ (by omega) ⟨fun _ _ => rfl, fun i hi => by omega, fun _ _ => rfl⟩
    · intro k μ1 hk ⟨i1, i2, i3⟩ ih
      have ek : (nI k).toInt = k := nI_t (by omega)
      have ex : (nI k + 615).toInt = (k + 615 : Nat) := by
        rw [ti_add (by rw [ek, e615]; omega) (by rw [ek, e615]; omega), ek, e615]
        omega
      refine wX9_record_10 (xif_f (by rw [ti_le, e2460, ek]; omega) ⟨ti_in ex (by omega), ti_in ek (by omega), ?_⟩)
      rw [nI_1, ti_cl' ex, ti_cl' ek]
      refine ih _ ⟨fun q hq => ?_, fun i hi => ?_, fun i hi => ?_⟩
      · funext i
        rw [xst_rd, if_neg (fun z => hq z.1), i1 q hq]
      · rw [xst_rd]
        by_cases hik : i = k
        · subst hik
          rw [if_pos ⟨rfl, rfl⟩, i3 _ (by omega)]
        · rw [if_neg (fun z => hik z.2), i2 i (by omega)]
      · rw [xst_rd, if_neg (fun z => by omega), i3 i (by omega)]
    · intro μ1 ⟨i1, i2, i3⟩
      refine wX9_record_10 (xif_t (by rw [ti_le, e2460, nI_t (by omega)]; omega) ?_)
      have e9 : μ1 (9, 0, 0) = μ (9, 0, 0) := i1 _ (by decide)
      have em : ((xst μ1 (9, 0, 0) 2 (μ1 (9, 0, 0) 2 - 1)) (9, 0, 0) 2).toInt = (4 : Nat) := by
        rw [xst_rd, if_pos ⟨rfl, rfl⟩, e9, ti_sub (by rw [h1, ti_lit1]; omega) (by rw [h1, ti_lit1]; omega), h1, ti_lit1, hl]
        rfl
      refine mcopy (p := 4) (by omega) em fun μ' j1 j2 j3 j4 j5 => h μ' (fun q n1 n2 => ?_) (fun i hi => ?_) ⟨?_, by simp; omega, fun k S' hk => ?_⟩
      · rw [j1 q n1 n2]
        funext i
        rw [xst_rd, if_neg (fun z => n2 z.1), i1 q n1]
      · rw [j2 i hi, xst_rd, if_neg (fun z => hi z.2), e9]
      · rw [j3, List.length_take, List.length_cons, hl]
        rfl
      · have hlen : ((S :: H).take 5).length = 5 := by rw [List.length_take, List.length_cons, hl]; rfl
        rw [hlen]
        have hk5 := (List.getElem?_eq_some_iff.mp hk).1
        rw [hlen] at hk5
        cases k with
        | zero =>
          have : S = S' := by simpa using hk
          subst this
          refine ⟨hb, hS.cg hb fun i hi => ?_⟩
          show μ' (1, 0, 21) ((5 - 1 - 0) * 615 + i) = _
          rw [show (5 - 1 - 0) * 615 + i = 4 * 615 + i by omega, j5 i hi, xst_rd, if_neg (by simp), i1 _ (by decide)]
        | succ k =>
          have hk' : H[k]? = some S' := by
            rw [List.getElem?_take, if_pos hk5] at hk
            simpa using hk
          obtain ⟨b1, b2⟩ := h3 k S' hk'
          refine ⟨b1, b2.cg b1 fun i hi => ?_⟩
          show μ' (1, 0, 21) ((5 - 1 - (k + 1)) * 615 + i) = μ (1, 0, 21) ((H.length - 1 - k) * 615 + i)
          have hx : (5 - 1 - (k + 1)) * 615 + i < 2460 := by
            have : k ≤ 3 := by omega
            rcases (show k = 0 ∨ k = 1 ∨ k = 2 ∨ k = 3 by omega) with rfl | rfl | rfl | rfl <;> omega
          have hi2 : (5 - 1 - (k + 1)) * 615 + i + 615 = (5 - 1 - k) * 615 + i := by
            rcases (show k = 0 ∨ k = 1 ∨ k = 2 ∨ k = 3 by omega) with rfl | rfl | rfl | rfl <;> omega
          rw [j4 _ (by omega), xst_rd, if_neg (by simp), i2 _ hx, hl, hi2]
  · rw [ti_eq, h1, e5] at c1
    have hl : H.length < 5 := by omega
    refine mcopy (p := H.length) hl h1 fun μ' j1 j2 j3 j4 j5 => h μ' j1 j2 ⟨?_, by simp; omega, fun k S' hk => ?_⟩
    · rw [j3, List.length_take, List.length_cons]
      omega
    · have hlen : ((S :: H).take 5).length = H.length + 1 := by rw [List.length_take, List.length_cons]; omega
      rw [hlen]
      have hk5 := (List.getElem?_eq_some_iff.mp hk).1
      rw [hlen] at hk5
      cases k with
      | zero =>
        have : S = S' := by simpa using hk
        subst this
        refine ⟨hb, hS.cg hb fun i hi => ?_⟩
        show μ' (1, 0, 21) ((H.length + 1 - 1 - 0) * 615 + i) = _
        rw [show (H.length + 1 - 1 - 0) = H.length by omega, j5 i hi]
      | succ k =>
        have hk' : H[k]? = some S' := by
          rw [List.getElem?_take, if_pos (by omega)] at hk
          simpa using hk
        obtain ⟨b1, b2⟩ := h3 k S' hk'
        refine ⟨b1, b2.cg b1 fun i hi => ?_⟩
        show μ' (1, 0, 21) ((H.length + 1 - 1 - (k + 1)) * 615 + i) = μ (1, 0, 21) ((H.length - 1 - k) * 615 + i)
        rw [show H.length + 1 - 1 - (k + 1) = H.length - 1 - k by omega]
        have hkl := (List.getElem?_eq_some_iff.mp hk').1
        have hx : (H.length - 1 - k) * 615 + i < H.length * 615 := by
          have : (H.length - 1 - k) + 1 ≤ H.length := by omega
          have := Nat.mul_le_mul_right 615 this
          omega
        exact j4 _ hx
/-- a row of 615 copied, by the three loops that do so -/
theorem mundo_ok {S : aS} {H : List aS} (hH : repHM μ (S :: H)) (h : ∀ (x : Int32) (μ' : xM), (∀ q, q ≠ (1, 0, 20) → q ≠ (9, 0, 0) → μ' q = μ q) → (∀ i, i ≠ 2 → μ' (9, 0, 0) i = μ (9, 0, 0) i) → repR (μ' (1, 0, 20)) S → repHM μ' H → x.toInt = H.length → Q (some (vI x)) μ') : MW G (d + 1) mX9_undo [vR (9, 0, 0)] μ Q := by
  obtain ⟨h1, h2, h3⟩ := hH
  rw [List.length_cons] at h1 h2
  have e615 : (615 : Int32).toInt = 615 := rfl
  refine wX9_undo fun Z => xif_f (by rw [ti_eq, h1, ti_lit0]; omega) ?_
  have em : (μ (9, 0, 0) 2 - 1).toInt = H.length := by
    rw [ti_sub (by rw [h1, ti_lit1]; omega) (by rw [h1, ti_lit1]; omega), h1, ti_lit1]
    omega
  refine up_loop (fun k μ1 => WS G eX9_undo (d + 1) Z Q 22 [vR (9, 0, 0), vI (nI k)] [] μ1) (fun k μ1 => (∀ q, q ≠ (1, 0, 20) → q ≠ (9, 0, 0) → μ1 q = μ q) ∧ (∀ i, i ≠ 2 → μ1 (9, 0, 0) i = μ (9, 0, 0) i) ∧ (μ1 (9, 0, 0) 2).toInt = H.length ∧ ∀ i, i < k → μ1 (1, 0, 20) i = μ (1, 0, 21) (H.length * 615 + i)) 615 ?_ ?_ 0 _ (by omega) ⟨fun q n1 n2 => ?_, fun i hi => ?_, ?_, fun i hi => by omega⟩
  · intro k μ1 hk ⟨i1, i2, i3, i4⟩ ih
    have ek : (nI k).toInt = k := nI_t (by omega)
    have em : (μ1 (9, 0, 0) 2 * 615).toInt = (H.length * 615 : Nat) := by
      rw [ti_mul (by rw [i3, e615]; omega) (by rw [i3, e615]; omega), i3, e615]
      omega
    have ex : (μ1 (9, 0, 0) 2 * 615 + nI k).toInt = (H.length * 615 + k : Nat) := by
      rw [ti_add (by rw [em, ek]; omega) (by rw [em, ek]; omega), em, ek]
      omega
    refine wX9_undo_22 (xif_f (by rw [ti_le, e615, ek]; omega) ⟨ti_in ex (by omega), ti_in ek hk, ?_⟩)
    rw [nI_1, ti_cl' ex, ti_cl' ek]
    refine ih _ ⟨fun q n1 n2 => ?_, fun i hi => ?_, ?_, fun i hi => ?_⟩
    · funext i
      rw [xst_rd, if_neg (fun z => n1 z.1), i1 q n1 n2]
    · rw [xst_rd, if_neg (by simp), i2 i hi]
    · rw [xst_rd, if_neg (by simp), i3]
    · rw [xst_rd]
      by_cases hik : i = k
      · subst hik
        rw [if_pos ⟨rfl, rfl⟩, i1 _ (by decide) (by decide)]
      · rw [if_neg (fun z => hik z.2), i4 i (by omega)]
  · intro μ1 ⟨i1, i2, i3, i4⟩
    refine wX9_undo_22 (xif_t (by rw [ti_le, e615, nI_t (by omega)]; omega) ?_)
    obtain ⟨b0, r0⟩ := h3 0 S rfl
    refine h _ μ1 i1 i2 (r0.cg b0 fun i hi => ?_) ⟨i3, by omega, fun k S' hk => ?_⟩ i3
    · rw [i4 i hi]
      show _ = μ (1, 0, 21) (((S :: H).length - 1 - 0) * 615 + i)
      rw [List.length_cons, show H.length + 1 - 1 - 0 = H.length by omega]
    · obtain ⟨b1, b2⟩ := h3 (k + 1) S' (by simpa using hk)
      refine ⟨b1, b2.cg b1 fun i hi => ?_⟩
      show μ1 (1, 0, 21) _ = μ (1, 0, 21) (((S :: H).length - 1 - (k + 1)) * 615 + i)
      rw [i1 _ (by decide) (by decide), List.length_cons, show H.length + 1 - 1 - (k + 1) = H.length - 1 - k by omega]
  · funext i
    rw [xst_rd, if_neg (fun z => n2 z.1)]
  · rw [xst_rd, if_neg (fun z => hi z.2)]
  · rw [xst_rd, if_pos ⟨rfl, rfl⟩, em]
theorem msave_ok {S : aS} (hb : bdS S) (hS : repR (μ (1, 0, 20)) S) (h : ∀ (x : Int32) (μ' : xM), (∀ q, q ≠ (1, 0, 22) → q ≠ (9, 0, 0) → μ' q = μ q) → (∀ i, i ≠ 4 → μ' (9, 0, 0) i = μ (9, 0, 0) i) → μ' (9, 0, 0) 4 = 1 → repR (μ' (1, 0, 22)) S → x.toInt = S.nl → Q (some (vI x)) μ') : MW G (d + 1) mX9_save [vR (9, 0, 0)] μ Q := by
  have e615 : (615 : Int32).toInt = 615 := rfl
  refine wX9_save fun Z => ⟨z11, ?_⟩
  refine up_loop (fun k μ1 => WS G eX9_save (d + 1) Z Q 7 [vR (9, 0, 0), vI (nI k)] [] μ1) (fun k μ1 => (∀ q, q ≠ (1, 0, 22) → q ≠ (9, 0, 0) → μ1 q = μ q) ∧ (∀ i, i ≠ 4 → μ1 (9, 0, 0) i = μ (9, 0, 0) i) ∧ μ1 (9, 0, 0) 4 = 1 ∧ ∀ i, i < k → μ1 (1, 0, 22) i = μ (1, 0, 20) i) 615 ?_ ?_ 0 _ (by omega) ⟨fun q n1 n2 => ?_, fun i hi => ?_, ?_, fun i hi => by omega⟩
  · intro k μ1 hk ⟨i1, i2, i3, i4⟩ ih
    have ek : (nI k).toInt = k := nI_t (by omega)
    refine wX9_save_7 (xif_f (by rw [ti_le, e615, ek]; omega) ⟨ti_in ek hk, ti_in ek hk, ?_⟩)
    rw [nI_1, ti_cl' ek]
    refine ih _ ⟨fun q n1 n2 => ?_, fun i hi => ?_, ?_, fun i hi => ?_⟩
    · funext i
      rw [xst_rd, if_neg (fun z => n1 z.1), i1 q n1 n2]
    · rw [xst_rd, if_neg (by simp), i2 i hi]
    · rw [xst_rd, if_neg (by simp), i3]
    · rw [xst_rd]
      by_cases hik : i = k
      · subst hik
        rw [if_pos ⟨rfl, rfl⟩, i1 _ (by decide) (by decide)]
      · rw [if_neg (fun z => hik z.2), i4 i (by omega)]
  · intro μ1 ⟨i1, i2, i3, i4⟩
    refine wX9_save_7 (xif_t (by rw [ti_le, e615, nI_t (by omega)]; omega) ⟨ti_in (k := 1) rfl (by omega), ?_⟩)
    refine h _ μ1 i1 i2 i3 (hS.cg hb fun i hi => i4 i hi) ?_
    rw [i1 _ (by decide) (by decide), show (1 : Int32).toNatClampNeg = 1 from rfl]
    exact hS.2.1
  · funext i
    rw [xst_rd, if_neg (fun z => n2 z.1)]
  · rw [xst_rd, if_neg (fun z => hi z.2)]
  · rw [xst_rd, if_pos ⟨rfl, rfl⟩]
theorem mrestore_ok {S K : aS} {H : List aS} (hb : bdS S) (hS : repR (μ (1, 0, 20)) S) (hH : repHM μ H) (hbK : bdS K) (hK : repR (μ (1, 0, 22)) K) (h4 : μ (9, 0, 0) 4 = 1) (h : ∀ (x : Int32) (μ' : xM), (∀ q, q ≠ (1, 0, 20) → q ≠ (1, 0, 21) → q ≠ (9, 0, 0) → μ' q = μ q) → (∀ i, i ≠ 2 → μ' (9, 0, 0) i = μ (9, 0, 0) i) → repR (μ' (1, 0, 20)) K → repHM μ' ((S :: H).take 5) → x.toInt = K.nl → Q (some (vI x)) μ') : MW G (d + 2) mX9_restore [vR (9, 0, 0)] μ Q := by
  have e615 : (615 : Int32).toInt = 615 := rfl
  refine wX9_restore fun Z => xif_f (by rw [h4]; decide) ?_
  refine mrecord_ok hb hS hH fun μ0 f1 f2 f3 => ?_
  refine up_loop (fun k μ1 => WS G eX9_restore (d + 2) Z Q 16 [vR (9, 0, 0), vI (nI k)] [] μ1) (fun k μ1 => (∀ q, q ≠ (1, 0, 20) → μ1 q = μ0 q) ∧ ∀ i, i < k → μ1 (1, 0, 20) i = μ (1, 0, 22) i) 615 ?_ ?_ 0 _ (by omega) ⟨fun q n1 => rfl, fun i hi => by omega⟩
  · intro k μ1 hk ⟨i1, i4⟩ ih
    have ek : (nI k).toInt = k := nI_t (by omega)
    refine wX9_restore_16 (xif_f (by rw [ti_le, e615, ek]; omega) ⟨ti_in ek hk, ti_in ek hk, ?_⟩)
    rw [nI_1, ti_cl' ek]
    refine ih _ ⟨fun q n1 => ?_, fun i hi => ?_⟩
    · funext i
      rw [xst_rd, if_neg (fun z => n1 z.1), i1 q n1]
    · rw [xst_rd]
      by_cases hik : i = k
      · subst hik
        rw [if_pos ⟨rfl, rfl⟩, i1 _ (by decide), f1 _ (by decide) (by decide)]
      · rw [if_neg (fun z => hik z.2), i4 i (by omega)]
  · intro μ1 ⟨i1, i4⟩
    refine wX9_restore_16 (xif_t (by rw [ti_le, e615, nI_t (by omega)]; omega) ⟨ti_in (k := 1) rfl (by omega), ?_⟩)
    have rz := hK.cg (z' := μ1 (1, 0, 20)) hbK fun i hi => i4 i hi
    refine h _ μ1 (fun q n1 n2 n3 => ?_) (fun i hi => ?_) rz ?_ rz.2.1
    · rw [i1 q n1, f1 q n2 n3]
    · rw [i1 _ (by decide), f2 i hi]
    · unfold repHM
      rw [i1 (9, 0, 0) (by decide), i1 (1, 0, 21) (by decide)]
      exact f3
end
end
section
/-! what both sides stand for; frames; how formulas are found and made -/
/-- the cells of the class -/
def isC (q : xI) : Prop := q.1 ≠ 9 ∧ q.1 ≠ 11 ∧ q.1 ≠ 12 ∧ ¬ (q.1 = 1 ∧ 20 ≤ q.2.2)
def frC (μ μ' : xM) : Prop := ∀ q, ¬ isC q → μ' q = μ q
def frM (μ μ' : xM) : Prop := ∀ q, isC q → μ' q = μ q
theorem frC.rf {μ : xM} : frC μ μ := fun _ _ => rfl
theorem frM.rf {μ : xM} : frM μ μ := fun _ _ => rfl
theorem frC.tr {a b c : xM} (h1 : frC a b) (h2 : frC b c) : frC a c := fun q hq => (h2 q hq).trans (h1 q hq)
theorem frM.tr {a b c : xM} (h1 : frM a b) (h2 : frM b c) : frM a c := fun q hq => (h2 q hq).trans (h1 q hq)
theorem ownS_isC {j : Nat} {q : xI} (h : ownS j q) : isC q := by
  rcases h with (rfl | h) | (rfl | h) <;> refine ⟨?_, ?_, ?_, ?_⟩ <;> simp <;> omega
theorem ownH_isC {q : xI} (h : ownH q) : isC q := by
  rcases h with rfl | ⟨j, _, _, h⟩
  · refine ⟨?_, ?_, ?_, ?_⟩ <;> simp
  · exact ownS_isC h
/-- the buffer's characters, on both sides -/
abbrev aT : Type := Nat × (Nat → Int)
def okT (T : aT) : Prop := T.1 ≤ 70 ∧ ∀ i, i < T.1 → 33 ≤ T.2 i ∧ T.2 i ≤ 126
/-- the class's objects stand for: now, history, saved state, buffer -/
def cS (μ : xM) (S : aS) (H : List aS) (K : Option aS) (T : aT) : Prop :=
  repC μ 0 S ∧ repH μ H ∧ (match K with | none => μ (8, 0, 0) 8 = 0 | some k => μ (8, 0, 0) 8 = 1 ∧ repC μ 1 k) ∧ (μ (6, 0, 0) 0).toInt = T.1 ∧ ∀ i, i < T.1 → (μ (1, 0, 14) i).toInt = T.2 i
/-- the model's object stands for the same -/
def mS (μ : xM) (S : aS) (H : List aS) (K : Option aS) (T : aT) : Prop :=
  repR (μ (1, 0, 20)) S ∧ repHM μ H ∧ (match K with | none => μ (9, 0, 0) 4 = 0 | some k => μ (9, 0, 0) 4 = 1 ∧ repR (μ (1, 0, 22)) k) ∧ (μ (9, 0, 0) 6).toInt = T.1 ∧ ∀ i, i < T.1 → (μ (11, 0, 0) i).toInt = T.2 i
theorem cS.keep {μ μ' : xM} {S : aS} {H : List aS} {K : Option aS} {T : aT} (h : cS μ S H K T) (e : ∀ q, isC q → μ' q = μ q) : cS μ' S H K T := by
  obtain ⟨h1, h2, h3, h4, h5⟩ := h
  have e6 := e (6, 0, 0) (by refine ⟨?_, ?_, ?_, ?_⟩ <;> simp)
  have e8 := e (8, 0, 0) (by refine ⟨?_, ?_, ?_, ?_⟩ <;> simp)
  have e14 := e (1, 0, 14) (by refine ⟨?_, ?_, ?_, ?_⟩ <;> simp)
  refine ⟨h1.keep fun q hq => e q (ownS_isC hq), h2.keep fun q hq => e q (ownH_isC hq), ?_, by rw [e6]; exact h4, by rw [e14]; exact h5⟩
  cases K with
  | none => show μ' _ _ = _; rw [e8]; exact h3
  | some k => exact ⟨by rw [e8]; exact h3.1, h3.2.keep fun q hq => e q (ownS_isC hq)⟩
theorem mS.keep {μ μ' : xM} {S : aS} {H : List aS} {K : Option aS} {T : aT} (h : mS μ S H K T) (e : ∀ q, ¬ isC q → μ' q = μ q) : mS μ' S H K T := by
  obtain ⟨h1, h2, h3, h4, h5⟩ := h
  have n9 : ¬ isC (9, 0, 0) := fun z => z.1 rfl
  have n11 : ¬ isC (11, 0, 0) := fun z => z.2.1 rfl
  have n20 : ¬ isC (1, 0, 20) := fun z => z.2.2.2 ⟨rfl, by simp⟩
  have n21 : ¬ isC (1, 0, 21) := fun z => z.2.2.2 ⟨rfl, by simp⟩
  have n22 : ¬ isC (1, 0, 22) := fun z => z.2.2.2 ⟨rfl, by simp⟩
  unfold mS repHM at *
  rw [e _ n9, e _ n11, e _ n20, e _ n21, e _ n22]
  exact ⟨h1, h2, h3, h4, h5⟩
/-- a formula's place in order -/
def okF (S : aS) (f : Nat) : Prop :=
  (S.F 0 f = 0 ∧ 0 ≤ S.F 1 f ∧ S.F 1 f ≤ 7 ∧ S.F 2 f = -6) ∨ (S.F 0 f = 1 ∧ S.F 1 f = -6 ∧ S.F 2 f = -6) ∨ (S.F 0 f = 2 ∧ 0 ≤ S.F 1 f ∧ S.F 1 f < f ∧ S.F 2 f = -6) ∨ (3 ≤ S.F 0 f ∧ S.F 0 f ≤ 5 ∧ 0 ≤ S.F 1 f ∧ S.F 1 f < f ∧ 0 ≤ S.F 2 f ∧ S.F 2 f < f)
/-- a box to which line l refers: closed, ahead of the line -/
def okBR (S : aS) (l : Nat) (x : Int) : Prop := 0 ≤ x ∧ x < S.nb ∧ 0 ≤ S.B 1 x.toNat ∧ S.B 1 x.toNat < l
def okLR (l : Nat) (x : Int) : Prop := 0 ≤ x ∧ x < l
def okRef (S : aS) (l : Nat) : Prop :=
  ((S.L 1 l = 0 ∨ S.L 1 l = 1) ∧ S.L 2 l = -6 ∧ S.L 3 l = -6 ∧ S.L 4 l = -6) ∨
  ((S.L 1 l = 3 ∨ S.L 1 l = 9 ∨ S.L 1 l = 11) ∧ okLR l (S.L 2 l) ∧ okLR l (S.L 3 l) ∧ S.L 4 l = -6) ∨
  ((S.L 1 l = 2 ∨ S.L 1 l = 4 ∨ S.L 1 l = 5 ∨ S.L 1 l = 6 ∨ S.L 1 l = 12 ∨ S.L 1 l = 13) ∧ okLR l (S.L 2 l) ∧ S.L 3 l = -6 ∧ S.L 4 l = -6) ∨
  (S.L 1 l = 7 ∧ okLR l (S.L 2 l) ∧ okBR S l (S.L 3 l) ∧ okBR S l (S.L 4 l)) ∨
  ((S.L 1 l = 8 ∨ S.L 1 l = 10) ∧ okBR S l (S.L 2 l) ∧ S.L 3 l = -6 ∧ S.L 4 l = -6)
/-- the latest open box below n -/
def latO (S : aS) : Nat → Int
  | 0 => -6
  | n + 1 => if S.B 1 n = -6 then (n : Int) else latO S n
def okL (S : aS) (l : Nat) : Prop := 0 ≤ S.L 0 l ∧ S.L 0 l < S.nf ∧ okRef S l ∧ (S.L 5 l = -6 ∨ (0 ≤ S.L 5 l ∧ S.L 5 l < S.nb ∧ S.B 0 (S.L 5 l).toNat ≤ l ∧ (S.B 1 (S.L 5 l).toNat = -6 ∨ (l : Int) ≤ S.B 1 (S.L 5 l).toNat)))
def okB (S : aS) (dp : Nat → Nat) (b : Nat) : Prop :=
  0 ≤ S.B 0 b ∧ S.B 0 b < S.nl ∧ S.L 5 (S.B 0 b).toNat = b ∧ (S.B 1 b = -6 ∨ (S.B 0 b ≤ S.B 1 b ∧ S.B 1 b < S.nl ∧ S.L 5 (S.B 1 b).toNat = b)) ∧
  (S.B 1 b = -6 → S.B 2 b = latO S b) ∧ 1 ≤ dp b ∧ dp b ≤ 5 ∧
  ((S.B 2 b = -6 ∧ dp b = 1) ∨ (0 ≤ S.B 2 b ∧ S.B 2 b < b ∧ dp b = dp (S.B 2 b).toNat + 1 ∧ (S.B 1 (S.B 2 b).toNat = -6 ∨ (0 ≤ S.B 1 b ∧ S.B 1 b ≤ S.B 1 (S.B 2 b).toNat))))
def Inv (S : aS) : Prop :=
  S.nf ≤ 60 ∧ S.nl ≤ 48 ∧ S.nb ≤ S.nl ∧ S.inn = latO S S.nb ∧ (∀ f, f < S.nf → okF S f) ∧ (∀ l, l < S.nl → okL S l) ∧ (∃ dp : Nat → Nat, ∀ b, b < S.nb → okB S dp b) ∧ ∀ b b', b < b' → b' < S.nb → S.B 0 b < S.B 0 b'
theorem Inv.bd {S : aS} (h : Inv S) : bdS S := ⟨h.1, h.2.1, by have := h.2.1; have := h.2.2.1; omega⟩
def SIM (μ : xM) : Prop := ∃ (S : aS) (H : List aS) (K : Option aS) (T : aT), Inv S ∧ (∀ h ∈ H, Inv h) ∧ (∀ k, K = some k → Inv k) ∧ okT T ∧ cS μ S H K T ∧ mS μ S H K T
-- formulas
def fmt (S : aS) (k l r : Int) (f : Nat) : Prop := S.F 0 f = k ∧ S.F 1 f = l ∧ S.F 2 f = r
def fnd (S : aS) (k l r : Int) : Nat → Nat → Int
  | 0, _ => -6
  | n + 1, i => if S.F 0 i = k ∧ S.F 1 i = l ∧ S.F 2 i = r then (i : Int) else fnd S k l r n (i + 1)
def findS (S : aS) (k l r : Int) : Int := fnd S k l r S.nf 0
theorem fnd_ok (S : aS) (k l r : Int) : ∀ n i, fnd S k l r n i = -6 ∨ ∃ f : Nat, fnd S k l r n i = f ∧ i ≤ f ∧ f < i + n ∧ fmt S k l r f
  | 0, i => Or.inl rfl
  | n + 1, i => by
    unfold fnd
    split
    · rename_i h
      exact Or.inr ⟨i, rfl, by omega, by omega, h⟩
    · rcases fnd_ok S k l r n (i + 1) with h | ⟨f, h1, h2, h3, h4⟩
      · exact Or.inl h
      · exact Or.inr ⟨f, h1, by omega, by omega, h4⟩
theorem findS_ok (S : aS) (k l r : Int) : findS S k l r = -6 ∨ ∃ f : Nat, findS S k l r = f ∧ f < S.nf ∧ fmt S k l r f := by
  rcases fnd_ok S k l r S.nf 0 with h | ⟨f, h1, h2, h3, h4⟩
  · exact Or.inl h
  · exact Or.inr ⟨f, h1, by omega, h4⟩
def roomS (S : aS) (k l r : Int) : Prop := S.nf < 60 ∨ findS S k l r ≠ -6
def addF (S : aS) (k l r : Int) : aS := ((S.nf + 1, S.nl, S.nb, S.inn), fun c f => if f = S.nf then (if c = 0 then k else if c = 1 then l else r) else S.F c f, S.L, S.B)
theorem addF_nf (S : aS) (k l r : Int) : (addF S k l r).nf = S.nf + 1 := rfl
theorem addF_F (S : aS) (k l r : Int) (c f : Nat) : (addF S k l r).F c f = if f = S.nf then (if c = 0 then k else if c = 1 then l else r) else S.F c f := rfl
def mkS (S : aS) (k l r : Int) : Int × aS := if findS S k l r = -6 then ((S.nf : Int), addF S k l r) else (findS S k l r, S)
section
variable {G : xG} {d j : Nat} {μ : xM} {Q : xP} {S : aS}
theorem has_ok {f : Int32} (hr : repF μ j S) (ht : ∀ k : Nat, f.toInt = k → k < S.nf → Q (some (vI 1)) μ) (hf : ¬ (0 ≤ f.toInt ∧ f.toInt < S.nf) → Q (some (vI 0)) μ) : MW G (d + 1) mX2_has [vR (2, j, 0), vI f] μ Q := by
  refine wX2_has (xif_c (fun c1 => ⟨z01, hf ?_⟩) fun c1 => xif_c (fun c2 => ⟨z01, hf ?_⟩) fun c2 => ⟨z11, ht f.toInt.toNat ?_ ?_⟩)
  all_goals simp only [ti_lt, ti_le, hr.1, ti_lit0] at *
  all_goals omega
set_option maxHeartbeats 1000000 in
theorem find_ok {k l r : Int32} (hr : repF μ j S) (hb : S.nf ≤ 60) (h : ∀ x : Int32, x.toInt = findS S k.toInt l.toInt r.toInt → Q (some (vI x)) μ) : MW G (d + 2) mX2_find [vR (2, j, 0), vI k, vI l, vI r] μ Q := by
  refine wX2_find fun Z => ?_
  refine up_loop (σ := Unit) (fun i _ => WS G eX2_find (d + 2) Z Q 3 [vR (2, j, 0), vI k, vI l, vI r, vI (nI i)] [] μ) (fun i _ => fnd S k.toInt l.toInt r.toInt (S.nf - i) i = findS S k.toInt l.toInt r.toInt) S.nf ?_ ?_ 0 () (by omega) rfl
  · intro i _ hi h1 ih
    have ei : (nI i).toInt = i := nI_t (by omega)
    rw [show S.nf - i = (S.nf - (i + 1)) + 1 by omega] at h1
    unfold fnd at h1
    have nxt : ¬ (S.F 0 i = k.toInt ∧ S.F 1 i = l.toInt ∧ S.F 2 i = r.toInt) → WS G eX2_find (d + 2) Z Q 3 [vR (2, j, 0), vI k, vI l, vI r, vI (nI i + 1)] [] μ := by
      intro hn
      rw [if_neg hn] at h1
      rw [nI_1]
      exact ih () h1
    refine wX2_find_3 (xif_f (by rw [ti_le, hr.1, ei]; omega) ?_)
    refine get_in ei (by simp [xlenc]; omega) (xif_c (fun c1 => ?_) (fun c1 => nxt fun z => c1 ?_))
    · refine get_in ei (by simp [xlenc]; omega) (xif_c (fun c2 => ?_) (fun c2 => nxt fun z => c2 ?_))
      · refine get_in ei (by simp [xlenc]; omega) (xif_c (fun c3 => ?_) (fun c3 => nxt fun z => c3 ?_))
        · rw [ti_eq, hr.2 _ (by omega) i hi] at c1 c2 c3
          rw [if_pos ⟨c1, c2, c3⟩] at h1
          exact h _ (by rw [ei, ← h1])
        · rw [ti_eq, hr.2 _ (by omega) i hi]; exact z.2.2
      · rw [ti_eq, hr.2 _ (by omega) i hi]; exact z.2.1
    · rw [ti_eq, hr.2 _ (by omega) i hi]; exact z.1
  · intro _ h1
    rw [Nat.sub_self] at h1
    have ei : (nI S.nf).toInt = S.nf := nI_t (by omega)
    exact wX2_find_3 (xif_t (by rw [ti_le, hr.1, ei]; omega) (h _ (by rw [← h1]; rfl)))
theorem room_ok {k l r : Int32} (hr : repF μ j S) (hb : S.nf ≤ 60) (ht : roomS S k.toInt l.toInt r.toInt → Q (some (vI 1)) μ) (hf : ¬ roomS S k.toInt l.toInt r.toInt → Q (some (vI 0)) μ) : MW G (d + 3) mX2_hasRoomFor [vR (2, j, 0), vI k, vI l, vI r] μ Q := by
  have e60 : (60 : Int32).toInt = 60 := rfl
  refine wX2_hasRoomFor (xif_c (fun c1 => ⟨z11, ht (Or.inl ?_)⟩) fun c1 => find_ok hr hb fun x hx => ?_)
  · rw [ti_lt, hr.1, e60] at c1; omega
  · rw [ti_lt, hr.1, e60] at c1
    refine xif_c (fun c2 => ⟨z01, hf ?_⟩) (fun c2 => ⟨z11, ht (Or.inr ?_)⟩)
    · rw [ti_eq, hx, ti_litm6] at c2
      rintro (z | z)
      · omega
      · exact z c2
    · rw [ti_eq, hx, ti_litm6] at c2; exact c2
theorem make_ok {k l r : Int32} (hr : repF μ j S) (hb : S.nf ≤ 60) (hroom : roomS S k.toInt l.toInt r.toInt) (h : ∀ (x : Int32) (μ' : xM), x.toInt = (mkS S k.toInt l.toInt r.toInt).1 → (∀ q, ¬ ownF j q → μ' q = μ q) → repF μ' j (mkS S k.toInt l.toInt r.toInt).2 → Q (some (vI x)) μ') : MW G (d + 3) mX2_make [vR (2, j, 0), vI k, vI l, vI r] μ Q := by
  have e60 : (60 : Int32).toInt = 60 := rfl
  unfold mkS at h
  refine wX2_make (find_ok hr hb fun x hx => xif_c (fun c1 => ?_) (fun c1 => ?_))
  · rw [ti_eq, hx, ti_litm6] at c1
    have hlt : S.nf < 60 := by
      rcases hroom with z | z
      · exact z
      · exact absurd c1 z
    rw [if_pos c1] at h
    refine xif_t (by rw [ti_lt, hr.1, e60]; omega) ?_
    refine set_in hr.1 (by simp [xlenc]; omega) (set_in hr.1 (by simp [xlenc]; omega) (set_in hr.1 (by simp [xlenc]; omega) (h _ _ hr.1 (fun q hq => ?_) ⟨?_, fun c hc f hf => ?_⟩)))
    · funext i
      have n1 : ∀ c, c < 3 → ¬ q = (1, j, c) := fun c hc e => hq (Or.inr (by rw [e]; exact ⟨rfl, rfl, hc⟩))
      have n2 : ¬ q = (2, j, 0) := fun e => hq (Or.inl e)
      simp [xst_rd, n1 0 (by omega), n1 1 (by omega), n1 2 (by omega), n2]
    · have e1 : (μ (2, j, 0) 0 + 1).toInt = (S.nf : Int) + 1 := by
        rw [ti_add (by rw [hr.1, ti_lit1]; omega) (by rw [hr.1, ti_lit1]; omega), hr.1, ti_lit1]
      show _ = ((addF S k.toInt l.toInt r.toInt).nf : Int)
      rw [addF_nf]
      simp [xst_rd, e1]
    · have hf' : f < S.nf + 1 := hf
      show _ = (addF S k.toInt l.toInt r.toInt).F c f
      rw [addF_F]
      by_cases hfn : f = S.nf
      · subst hfn
        rcases (show c = 0 ∨ c = 1 ∨ c = 2 by omega) with rfl | rfl | rfl <;> simp [xst_rd]
      · have hx := hr.2 c hc f (by omega)
        rcases (show c = 0 ∨ c = 1 ∨ c = 2 by omega) with rfl | rfl | rfl <;> simpa [xst_rd, hfn] using hx
  · rw [ti_eq, hx, ti_litm6] at c1
    rw [if_neg c1] at h
    exact h x μ hx (fun _ _ => rfl) hr
theorem make_lim {k l r : Int32} (hr : repF μ j S) (hb : S.nf ≤ 60) (hroom : ¬ roomS S k.toInt l.toInt r.toInt) (h : Q (some (vI (-4))) μ) : MW G (d + 3) mX2_make [vR (2, j, 0), vI k, vI l, vI r] μ Q := by
  have e60 : (60 : Int32).toInt = 60 := rfl
  have h1 : ¬ S.nf < 60 := fun z => hroom (Or.inl z)
  have h2 : findS S k.toInt l.toInt r.toInt = -6 := Classical.not_not.mp fun z => hroom (Or.inr z)
  refine wX2_make (find_ok hr hb fun x hx => xif_t (by rw [ti_eq, hx, ti_litm6]; exact h2) (xif_f (by rw [ti_lt, hr.1, e60]; omega) h))
end
end
section
/-! calls as conditions on both sides; the formulas' calls -/
abbrev aO : Type := Int × aS × List aS × Option aS × aT
def okO (o : aO) : Prop := Inv o.2.1 ∧ (∀ h ∈ o.2.2.1, Inv h) ∧ (∀ k, o.2.2.2.1 = some k → Inv k) ∧ okT o.2.2.2.2
/-- the class's call answers o -/
def cOp (G : xG) (D : xD) (args : List xV) (S : aS) (H : List aS) (K : Option aS) (T : aT) (o : aO) : Prop :=
  ∀ (μ : xM) (Q : xP), cS μ S H K T → (∀ (x : Int32) (μ' : xM), x.toInt = o.1 → frC μ μ' → cS μ' o.2.1 o.2.2.1 o.2.2.2.1 o.2.2.2.2 → Q (some (vI x)) μ') → MW G 8 D (vR (8, 0, 0) :: args) μ Q
/-- the model's call answers o -/
def mOp (G : xG) (D : xD) (args : List xV) (S : aS) (H : List aS) (K : Option aS) (T : aT) (o : aO) : Prop :=
  ∀ (μ : xM) (Q : xP), mS μ S H K T → (∀ (x : Int32) (μ' : xM), x.toInt = o.1 → frM μ μ' → mS μ' o.2.1 o.2.2.1 o.2.2.2.1 o.2.2.2.2 → Q (some (vI x)) μ') → MW G 8 D (vR (9, 0, 0) :: args) μ Q
/-- both answer alike, and stand for one thing again -/
def simI (G : xG) (D1 D2 : xD) (args : List xV) : Prop := ∀ μ, SIM μ → MW G 8 D1 (vR (8, 0, 0) :: args) μ fun r μ1 => ∃ x : Int32, r = some (vI x) ∧ MW G 8 D2 (vR (9, 0, 0) :: args) μ1 fun r' μ2 => r' = some (vI x) ∧ SIM μ2
theorem sim_of {G : xG} {D1 D2 : xD} {args : List xV} (h : ∀ S H K T, okO ((0 : Int), S, H, K, T) → ∃ o : aO, cOp G D1 args S H K T o ∧ mOp G D2 args S H K T o ∧ okO o) : simI G D1 D2 args := by
  intro μ ⟨S, H, K, T, i1, i2, i3, i4, hc, hm⟩
  obtain ⟨o, ho1, ho2, ok⟩ := h S H K T ⟨i1, i2, i3, i4⟩
  refine ho1 μ _ hc fun x μ1 hx hf hc1 => ⟨x, rfl, ?_⟩
  refine ho2 μ1 _ (hm.keep hf) fun y μ2 hy hf2 hm2 => ⟨?_, ?_⟩
  · have : y = x := Int32.toInt_inj.mp (hy.trans hx.symm)
    rw [this]
  · exact ⟨_, _, _, _, ok.1, ok.2.1, ok.2.2.1, ok.2.2.2, hc1.keep hf2, hm2⟩
theorem ownH_not0 {q : xI} (h : ownS 0 q) : ¬ ownH q := by
  rintro (rfl | ⟨j, h1, h2, h3⟩)
  · exact own_ne h 5 0 0 (by omega) rfl
  · have := own_apart h h3; omega
theorem ownH_not1 {q : xI} (h : ownS 1 q) : ¬ ownH q := by
  rintro (rfl | ⟨j, h1, h2, h3⟩)
  · exact own_ne h 5 0 0 (by omega) rfl
  · have := own_apart h h3; omega
/-- the present state and the history move, the rest stays -/
theorem cS.upd {μ μ' : xM} {S S' : aS} {H H' : List aS} {K : Option aS} {T : aT} (h : cS μ S H K T) (hS : repC μ' 0 S') (hH : repH μ' H') (e : ∀ q, ¬ ownS 0 q → ¬ ownH q → μ' q = μ q) : frC μ μ' ∧ cS μ' S' H' K T := by
  obtain ⟨h1, h2, h3, h4, h5⟩ := h
  have nx : ∀ a b c : Nat, (4 ≤ a ∨ a = 0) → a ≠ 5 → (∀ j, ¬ ownS j (a, b, c)) ∧ ¬ ownH (a, b, c) := by
    intro a b c ha h5'
    have n1 : ∀ j, ¬ ownS j (a, b, c) := fun j z => own_ne z a b c (by omega) rfl
    refine ⟨n1, ?_⟩
    rintro (z | ⟨j, -, -, z⟩)
    · cases z; omega
    · exact n1 j z
  have e6 := e (6, 0, 0) ((nx 6 0 0 (by omega) (by omega)).1 0) (nx 6 0 0 (by omega) (by omega)).2
  have e8 := e (8, 0, 0) ((nx 8 0 0 (by omega) (by omega)).1 0) (nx 8 0 0 (by omega) (by omega)).2
  have n14 : ∀ j, ¬ ownS j (1, 0, 14) := by
    intro j z
    rcases z with (z | z) | (z | z) <;> simp at z
  have e14 := e (1, 0, 14) (n14 0) (by
    rintro (z | ⟨j, -, -, z⟩)
    · cases z
    · exact n14 j z)
  refine ⟨fun q hq => e q (fun z => hq (ownS_isC z)) (fun z => hq (ownH_isC z)), hS, hH, ?_, by rw [e6]; exact h4, by rw [e14]; exact h5⟩
  cases K with
  | none => show μ' _ _ = _; rw [e8]; exact h3
  | some k => exact ⟨by rw [e8]; exact h3.1, h3.2.keep fun q hq => e q (fun z => by have := own_apart hq z; omega) (ownH_not1 hq)⟩
theorem mS.upd {μ μ' : xM} {S S' : aS} {H H' : List aS} {K : Option aS} {T : aT} (h : mS μ S H K T) (hS : repR (μ' (1, 0, 20)) S') (hH : repHM μ' H') (e22 : μ' (1, 0, 22) = μ (1, 0, 22)) (e11 : μ' (11, 0, 0) = μ (11, 0, 0)) (e4 : μ' (9, 0, 0) 4 = μ (9, 0, 0) 4) (e6 : μ' (9, 0, 0) 6 = μ (9, 0, 0) 6) : mS μ' S' H' K T := by
  obtain ⟨h1, h2, h3, h4, h5⟩ := h
  refine ⟨hS, hH, ?_, by rw [e6]; exact h4, by rw [e11]; exact h5⟩
  rw [e22, e4]
  exact h3
def mk1 (S : aS) (H : List aS) (k l r : Int) : Int × aS × List aS := if S.nf < 60 ∨ findS S k l r ≠ -6 then ((mkS S k l r).1, (mkS S k l r).2, (S :: H).take 5) else (-4, S, H)
theorem mk1_t {S : aS} {H : List aS} {k l r : Int} (h : roomS S k l r) : mk1 S H k l r = ((mkS S k l r).1, (mkS S k l r).2, (S :: H).take 5) := if_pos h
theorem mk1_f {S : aS} {H : List aS} {k l r : Int} (h : ¬ roomS S k l r) : mk1 S H k l r = (-4, S, H) := if_neg h
theorem mkS_P {μ : xM} {S : aS} {k l r : Int} (h : repP μ 0 S) : repP μ 0 (mkS S k l r).2 := by
  unfold mkS
  split
  · exact h
  · exact h
section
variable {G : xG} {d : Nat} {μ : xM} {Q : xP} {S : aS} {H : List aS} {K : Option aS} {T : aT}
theorem c_mk1 {k l r : Int32} (hc : cS μ S H K T) (hI : Inv S) (h : ∀ (x : Int32) (μ' : xM), x.toInt = (mk1 S H k.toInt l.toInt r.toInt).1 → frC μ μ' → cS μ' (mk1 S H k.toInt l.toInt r.toInt).2.1 (mk1 S H k.toInt l.toInt r.toInt).2.2 K T → Q (some (vI x)) μ') : MW G (d + 5) mX8_makeFormula [vR (8, 0, 0), vI k, vI l, vI r] μ Q := by
  have hF := hc.1.1
  refine wX8_makeFormula (room_ok hF hI.1 (fun hr => xif_f (by decide) ?_) (fun hr => xif_t rfl ?_))
  · rw [mk1_t hr] at h
    refine record_ok hI.bd hc.1 hc.2.1 fun μ1 e1 r1 => ?_
    have hF1 : repF μ1 0 S := hF.keep fun q hq => e1 q (ownH_not0 (Or.inl hq))
    refine make_ok hF1 hI.1 hr fun x μ2 hx e2 r2 => ?_
    have hP2 : repP μ2 0 S := hc.1.2.keep fun q hq => by
      rw [e2 q (fun z => ?_), e1 q (ownH_not0 (Or.inr hq))]
      rcases hq with rfl | hq
      · rcases z with z | z <;> simp at z
      · rcases z with rfl | z
        · simp at hq
        · omega
    obtain ⟨f1, f2⟩ := hc.upd (μ' := μ2) (S' := (mkS S k.toInt l.toInt r.toInt).2) (H' := (S :: H).take 5) ⟨r2, mkS_P hP2⟩ (r1.keep fun q hq => e2 q fun z => ownH_not0 (Or.inl z) hq) (fun q h1 h2 => by rw [e2 q (fun z => h1 (Or.inl z)), e1 q h2])
    exact h x μ2 hx f1 f2
  · rw [mk1_f hr] at h
    exact h _ μ rfl frC.rf hc
-- the model
theorem lin {A B x : Int32} {a b k : Nat} (hA : A.toInt = a) (hB : B.toInt = b) (hx : x.toInt = k) (hs : a + b * k < 100000) : (A + B * x).toInt = (a + b * k : Nat) := by
  have h1 : (B * x).toInt = (b * k : Nat) := by
    have hbk : ((b : Int) * (k : Int)) = ((b * k : Nat) : Int) := by push_cast; rfl
    rw [ti_mul (by rw [hB, hx, hbk]; omega) (by rw [hB, hx, hbk]; omega), hB, hx, hbk]
  rw [ti_add (by rw [hA, h1]; omega) (by rw [hA, h1]; omega), hA, h1]
  omega
theorem lin1 {A c : Int32} {a k : Nat} (hA : A.toInt = a) (hc : c.toInt = k) (hs : a + k < 100000) : (A + c).toInt = (a + k : Nat) := by
  rw [ti_add (by rw [hA, hc]; omega) (by rw [hA, hc]; omega), hA, hc]
  omega
theorem l3 : (3 : Int32).toInt = (3 : Nat) := rfl
theorem l1 : (1 : Int32).toInt = (1 : Nat) := rfl
theorem l2 : (2 : Int32).toInt = (2 : Nat) := rfl
theorem l0 : (0 : Int32).toInt = (0 : Nat) := rfl
theorem m_isF {f : Int32} (hr : repR (μ (1, 0, 20)) S) (ht : ∀ k : Nat, f.toInt = k → k < S.nf → Q (some (vI 1)) μ) (hf : ¬ (0 ≤ f.toInt ∧ f.toInt < S.nf) → Q (some (vI 0)) μ) : MW G (d + 1) mX9_isFormula [vR (9, 0, 0), vI f] μ Q := by
  refine wX9_isFormula (xif_c (fun c1 => ⟨z01, hf ?_⟩) fun c1 => ⟨ti_in l0 (by omega), xif_c (fun c2 => ⟨z01, hf ?_⟩) fun c2 => ⟨z11, ht f.toInt.toNat ?_ ?_⟩⟩)
  all_goals simp only [ti_lt, ti_le, ti_lit0, ti_cl' l0, hr.1] at *
  all_goals omega
theorem m_kind {f : Int32} {k : Nat} (hr : repR (μ (1, 0, 20)) S) (hb : S.nf ≤ 60) (hf : f.toInt = k) (hk : k < S.nf) (h : ∀ x : Int32, x.toInt = S.F 0 k → Q (some (vI x)) μ) : MW G (d + 1) mX9_kind [vR (9, 0, 0), vI f] μ Q := by
  have e := lin l3 l3 hf (by omega)
  refine wX9_kind ⟨ti_in e (by omega), ?_⟩
  rw [ti_cl' e]
  exact h _ (hr.2.2.2.1 0 (by omega) k hk)
theorem m_left {f : Int32} {k : Nat} (hr : repR (μ (1, 0, 20)) S) (hb : S.nf ≤ 60) (hf : f.toInt = k) (hk : k < S.nf) (h : ∀ x : Int32, x.toInt = S.F 1 k → Q (some (vI x)) μ) : MW G (d + 1) mX9_left [vR (9, 0, 0), vI f] μ Q := by
  have e := lin1 (lin l3 l3 hf (by omega)) l1 (by omega)
  refine wX9_left ⟨ti_in e (by omega), ?_⟩
  rw [ti_cl' e]
  exact h _ (hr.2.2.2.1 1 (by omega) k hk)
theorem m_right {f : Int32} {k : Nat} (hr : repR (μ (1, 0, 20)) S) (hb : S.nf ≤ 60) (hf : f.toInt = k) (hk : k < S.nf) (h : ∀ x : Int32, x.toInt = S.F 2 k → Q (some (vI x)) μ) : MW G (d + 1) mX9_right [vR (9, 0, 0), vI f] μ Q := by
  have e := lin1 (lin l3 l3 hf (by omega)) l2 (by omega)
  refine wX9_right ⟨ti_in e (by omega), ?_⟩
  rw [ti_cl' e]
  exact h _ (hr.2.2.2.1 2 (by omega) k hk)
set_option maxHeartbeats 1000000 in
theorem m_find {k l r : Int32} (hr : repR (μ (1, 0, 20)) S) (hb : S.nf ≤ 60) (h : ∀ x : Int32, x.toInt = findS S k.toInt l.toInt r.toInt → Q (some (vI x)) μ) : MW G (d + 2) mX9_find [vR (9, 0, 0), vI k, vI l, vI r] μ Q := by
  refine wX9_find fun Z => ?_
  refine up_loop (σ := Unit) (fun i _ => WS G eX9_find (d + 2) Z Q 3 [vR (9, 0, 0), vI k, vI l, vI r, vI (nI i)] [] μ) (fun i _ => fnd S k.toInt l.toInt r.toInt (S.nf - i) i = findS S k.toInt l.toInt r.toInt) S.nf ?_ ?_ 0 () (by omega) rfl
  · intro i _ hi h1 ih
    have ei : (nI i).toInt = i := nI_t (by omega)
    rw [show S.nf - i = (S.nf - (i + 1)) + 1 by omega] at h1
    unfold fnd at h1
    have nxt : ¬ (S.F 0 i = k.toInt ∧ S.F 1 i = l.toInt ∧ S.F 2 i = r.toInt) → WS G eX9_find (d + 2) Z Q 3 [vR (9, 0, 0), vI k, vI l, vI r, vI (nI i + 1)] [] μ := by
      intro hn
      rw [if_neg hn] at h1
      rw [nI_1]
      exact ih () h1
    refine wX9_find_3 ⟨ti_in l0 (by omega), xif_f (by rw [ti_le, ti_cl' l0, hr.1, ei]; omega) ?_⟩
    refine m_kind hr hb ei hi fun x hx => xif_c (fun c1 => ?_) (fun c1 => nxt fun z => c1 ?_)
    · refine m_left hr hb ei hi fun y hy => xif_c (fun c2 => ?_) (fun c2 => nxt fun z => c2 ?_)
      · refine m_right hr hb ei hi fun w hw => xif_c (fun c3 => ?_) (fun c3 => nxt fun z => c3 ?_)
        · rw [ti_eq] at c1 c2 c3
          rw [if_pos ⟨hx ▸ c1, hy ▸ c2, hw ▸ c3⟩] at h1
          exact h _ (by rw [ei, ← h1])
        · rw [ti_eq, hw]; exact z.2.2
      · rw [ti_eq, hy]; exact z.2.1
    · rw [ti_eq, hx]; exact z.1
  · intro _ h1
    rw [Nat.sub_self] at h1
    have ei : (nI S.nf).toInt = S.nf := nI_t (by omega)
    exact wX9_find_3 ⟨ti_in l0 (by omega), xif_t (by rw [ti_le, ti_cl' l0, hr.1, ei]; omega) (h _ (by rw [← h1]; rfl))⟩
theorem m_room {k l r : Int32} (hr : repR (μ (1, 0, 20)) S) (hb : S.nf ≤ 60) (ht : roomS S k.toInt l.toInt r.toInt → Q (some (vI 1)) μ) (hf : ¬ roomS S k.toInt l.toInt r.toInt → Q (some (vI 0)) μ) : MW G (d + 3) mX9_hasRoom [vR (9, 0, 0), vI k, vI l, vI r] μ Q := by
  have e60 : (60 : Int32).toInt = 60 := rfl
  refine wX9_hasRoom ⟨ti_in l0 (by omega), xif_c (fun c1 => ⟨z11, ht (Or.inl ?_)⟩) fun c1 => m_find hr hb fun x hx => ?_⟩
  · rw [ti_lt, ti_cl' l0, hr.1, e60] at c1; omega
  · rw [ti_lt, ti_cl' l0, hr.1, e60] at c1
    refine xif_c (fun c2 => ⟨z01, hf ?_⟩) (fun c2 => ⟨z11, ht (Or.inr ?_)⟩)
    · rw [ti_eq, hx, ti_litm6] at c2
      rintro (z | z)
      · omega
      · exact z c2
    · rw [ti_eq, hx, ti_litm6] at c2; exact c2
theorem repR_add {z z' : Nat → Int32} {k l r : Int32} (hr : repR z S) (hb : bdS S) (hl : S.nf < 60) (h0 : (z' 0).toInt = (S.nf : Int) + 1) (hk : z' (3 + 3 * S.nf) = k) (hl1 : z' (3 + 3 * S.nf + 1) = l) (hr1 : z' (3 + 3 * S.nf + 2) = r) (e : ∀ i, i ≠ 0 → i ≠ 3 + 3 * S.nf → i ≠ 3 + 3 * S.nf + 1 → i ≠ 3 + 3 * S.nf + 2 → z' i = z i) : repR z' (addF S k.toInt l.toInt r.toInt) := by
  obtain ⟨b1, b2, b3⟩ := hb
  obtain ⟨r1, r2, r3, r4, r5, r6⟩ := hr
  refine ⟨h0, by rw [e 1 (by omega) (by omega) (by omega) (by omega)]; exact r2, by rw [e 2 (by omega) (by omega) (by omega) (by omega)]; exact r3, fun c hc f hf => ?_, fun c hc x hx => ?_, fun c hc b hb => ?_⟩
  · rw [addF_F]
    rw [addF_nf] at hf
    by_cases hfn : f = S.nf
    · rw [if_pos hfn, hfn]
      rcases (show c = 0 ∨ c = 1 ∨ c = 2 by omega) with rfl | rfl | rfl
      · rw [Nat.add_zero, hk]; rfl
      · rw [hl1]; rfl
      · rw [hr1]; rfl
    · rw [if_neg hfn, e _ (by omega) (by omega) (by omega) (by omega)]
      exact r4 c hc f (by omega)
  · rw [e _ (by omega) (by omega) (by omega) (by omega)]
    exact r5 c hc x hx
  · have hb : b < S.nb := hb
    rw [e _ (by omega) (by omega) (by omega) (by omega)]
    exact r6 c hc b hb
theorem m_make {k l r : Int32} (hr : repR (μ (1, 0, 20)) S) (hb : bdS S) (hroom : roomS S k.toInt l.toInt r.toInt) (h : ∀ (x : Int32) (μ' : xM), x.toInt = (mkS S k.toInt l.toInt r.toInt).1 → (∀ q, q ≠ (1, 0, 20) → μ' q = μ q) → repR (μ' (1, 0, 20)) (mkS S k.toInt l.toInt r.toInt).2 → Q (some (vI x)) μ') : MW G (d + 3) mX9_make [vR (9, 0, 0), vI k, vI l, vI r] μ Q := by
  unfold mkS at h
  refine wX9_make (m_find hr hb.1 fun x hx => xif_c (fun c1 => ?_) (fun c1 => ?_))
  · rw [ti_eq, hx, ti_litm6] at c1
    have hlt : S.nf < 60 := by
      rcases hroom with z | z
      · exact z
      · exact absurd c1 z
    rw [if_pos c1] at h
    have e0 : (0 : Int32).toNatClampNeg = 0 := rfl
    rw [e0]
    have z0 := hr.1
    have i0 := lin l3 l3 z0 (by omega)
    have i1 := lin1 i0 l1 (by omega)
    have i2 := lin1 i0 l2 (by omega)
    rw [ti_cl' i0, ti_cl' i1, ti_cl' i2]
    have ea : (μ (1, 0, 20) 0 + 1).toInt = (S.nf : Int) + 1 := by
      rw [ti_add (by rw [z0, ti_lit1]; omega) (by rw [z0, ti_lit1]; omega), z0, ti_lit1]
    have v0 : ∀ (a b c : Nat) (u v w : Int32), a ≠ 0 → b ≠ 0 → c ≠ 0 → xst (xst (xst μ (1, 0, 20) a u) (1, 0, 20) b v) (1, 0, 20) c w (1, 0, 20) 0 = μ (1, 0, 20) 0 := by
      intro a b c u v w h1 h2 h3
      rw [xst_rd, if_neg (fun q => h3 q.2.symm), xst_rd, if_neg (fun q => h2 q.2.symm), xst_rd, if_neg (fun q => h1 q.2.symm)]
    rw [v0 _ _ _ _ _ _ (by omega) (by omega) (by omega)]
    refine ⟨ti_in l0 (by omega), ti_in i0 (by omega), ti_in i1 (by omega), ti_in i2 (by omega), ti_in l0 (by omega), ti_in l0 (by omega), ti_in l0 (by omega), h _ _ ?_ (fun q hq => ?_) (repR_add hr hb hlt ?_ ?_ ?_ ?_ (fun i n0 n1 n2 n3 => ?_))⟩
    · rw [xst_rd, if_pos ⟨rfl, rfl⟩, ti_sub (by rw [ea, ti_lit1]; omega) (by rw [ea, ti_lit1]; omega), ea, ti_lit1]
      show _ = (S.nf : Int)
      omega
    · funext i
      simp [xst_rd, hq]
    · rw [xst_rd, if_pos ⟨rfl, rfl⟩, ea]
    · rw [xst_rd, if_neg (fun q => by have := q.2; omega), xst_rd, if_neg (fun q => by have := q.2; omega), xst_rd, if_neg (fun q => by have := q.2; omega), xst_rd, if_pos ⟨rfl, rfl⟩]
    · rw [xst_rd, if_neg (fun q => by have := q.2; omega), xst_rd, if_neg (fun q => by have := q.2; omega), xst_rd, if_pos ⟨rfl, rfl⟩]
    · rw [xst_rd, if_neg (fun q => by have := q.2; omega), xst_rd, if_pos ⟨rfl, rfl⟩]
    · rw [xst_rd, if_neg (fun q => n0 q.2), xst_rd, if_neg (fun q => n3 q.2), xst_rd, if_neg (fun q => n2 q.2), xst_rd, if_neg (fun q => n1 q.2)]
  · rw [ti_eq, hx, ti_litm6] at c1
    rw [if_neg c1] at h
    exact h x μ hx (fun _ _ => rfl) hr
theorem m_mk1 {k l r : Int32} (hc : mS μ S H K T) (hI : Inv S) (h : ∀ (x : Int32) (μ' : xM), x.toInt = (mk1 S H k.toInt l.toInt r.toInt).1 → frM μ μ' → mS μ' (mk1 S H k.toInt l.toInt r.toInt).2.1 (mk1 S H k.toInt l.toInt r.toInt).2.2 K T → Q (some (vI x)) μ') : MW G (d + 4) mX9_makeOne [vR (9, 0, 0), vI k, vI l, vI r] μ Q := by
  have hF := hc.1
  refine wX9_makeOne (m_room hF hI.1 (fun hr => xif_f (by decide) ?_) (fun hr => xif_t rfl ?_))
  · rw [mk1_t hr] at h
    refine mrecord_ok hI.bd hF hc.2.1 fun μ1 e1 f1 r1 => ?_
    have hF1 : repR (μ1 (1, 0, 20)) S := by rw [e1 _ (by decide) (by decide)]; exact hF
    refine m_make hF1 hI.bd hr fun x μ2 hx e2 r2 => h x μ2 hx (fun q hq => ?_) (hc.upd r2 ?_ ?_ ?_ ?_ ?_)
    · rw [e2 q (fun z => by rw [z] at hq; exact hq.2.2.2 ⟨rfl, by simp⟩), e1 q (fun z => by rw [z] at hq; exact hq.2.2.2 ⟨rfl, by simp⟩) (fun z => by rw [z] at hq; exact hq.1 rfl)]
    · unfold repHM
      rw [e2 (9, 0, 0) (by decide), e2 (1, 0, 21) (by decide)]
      exact r1
    · rw [e2 _ (by decide), e1 _ (by decide) (by decide)]
    · rw [e2 _ (by decide), e1 _ (by decide) (by decide)]
    · rw [e2 _ (by decide), f1 _ (by decide)]
    · rw [e2 _ (by decide), f1 _ (by decide)]
  · rw [mk1_f hr] at h
    exact h _ μ rfl frM.rf hc
end
end
section
/-! atom, falsum, not, pair, formulas, part: both sides -/
theorem latO_cg {S S' : aS} (h : S.B = S'.B) : ∀ n, latO S n = latO S' n
  | 0 => rfl
  | n + 1 => by
    unfold latO
    rw [h, latO_cg h n]
theorem Inv_add {S : aS} {k l r : Int} (h : Inv S) (hl : S.nf < 60) (hok : okF (addF S k l r) S.nf) : Inv (addF S k l r) := by
  obtain ⟨h1, h2, h3, h4, h5, h6, ⟨dp, h7⟩, h8⟩ := h
  refine ⟨by rw [addF_nf]; omega, h2, h3, ?_, fun f hf => ?_, fun x hx => ?_, ⟨dp, fun b hb => ?_⟩, h8⟩
  · exact h4.trans (latO_cg (S := S) (S' := addF S k l r) rfl S.nb)
  · rw [addF_nf] at hf
    by_cases hfn : f = S.nf
    · rw [hfn]; exact hok
    · have := h5 f (by omega)
      unfold okF at this ⊢
      simp only [addF_F, if_neg hfn]
      exact this
  · obtain ⟨a1, a2, a3, a4⟩ := h6 x hx
    exact ⟨a1, by rw [addF_nf]; show S.L 0 x < _; omega, a3, a4⟩
  · obtain ⟨a1, a2, a3, a4, a5, a6⟩ := h7 b hb
    exact ⟨a1, a2, a3, a4, fun z => (a5 z).trans (latO_cg (S := S) (S' := addF S k l r) rfl b), a6⟩
theorem okO_mk1 {S : aS} {H : List aS} {K : Option aS} {T : aT} {k l r : Int} (h : okO ((0 : Int), S, H, K, T)) (hok : S.nf < 60 → okF (addF S k l r) S.nf) : okO ((mk1 S H k l r).1, (mk1 S H k l r).2.1, (mk1 S H k l r).2.2, K, T) := by
  obtain ⟨h1, h2, h3, h4⟩ := h
  have h1 : Inv S := h1
  by_cases hr : roomS S k l r
  · rw [mk1_t hr]
    refine ⟨?_, fun x hx => ?_, h3, h4⟩
    · show Inv (mkS S k l r).2
      unfold mkS
      by_cases hc : findS S k l r = -6
      · rw [if_pos hc]
        have hlt : S.nf < 60 := by
          rcases hr with z | z
          · exact z
          · exact absurd hc z
        exact Inv_add h1 hlt (hok hlt)
      · rw [if_neg hc]; exact h1
    · rcases List.mem_cons.mp (List.mem_of_mem_take hx) with rfl | hx
      · exact h1
      · exact h2 x hx
  · rw [mk1_f hr]
    exact ⟨h1, h2, h3, h4⟩
theorem okO_take {S : aS} {H : List aS} (h1 : Inv S) (h2 : ∀ h ∈ H, Inv h) : ∀ h ∈ (S :: H).take 5, Inv h := by
  intro x hx
  rcases List.mem_cons.mp (List.mem_of_mem_take hx) with rfl | hx
  · exact h1
  · exact h2 x hx
section
variable {G : xG} {d : Nat} {μ : xM} {Q : xP} {S : aS} {H : List aS} {K : Option aS} {T : aT}
theorem in_ok {v lo hi : Int32} (ht : lo.toInt ≤ v.toInt → v.toInt ≤ hi.toInt → Q (some (vI 1)) μ) (hf : ¬ (lo.toInt ≤ v.toInt ∧ v.toInt ≤ hi.toInt) → Q (some (vI 0)) μ) : MW G (d + 1) mX9_in [vI v, vI lo, vI hi] μ Q := by
  refine wX9_in (xif_c (fun c1 => ⟨z01, hf ?_⟩) fun c1 => xif_c (fun c2 => ⟨z01, hf ?_⟩) fun c2 => ⟨z11, ht ?_ ?_⟩)
  all_goals simp only [ti_lt] at *
  all_goals omega
theorem op_atom (a : Int32) (ok : okO ((0 : Int), S, H, K, T)) : ∃ o : aO, cOp G mX8_atom [vI a] S H K T o ∧ mOp G mX9_atom [vI a] S H K T o ∧ okO o := by
  have hI : Inv S := ok.1
  have e8 : (8 : Int32).toInt = 8 := rfl
  have e7 : (7 : Int32).toInt = 7 := rfl
  by_cases ha : 0 ≤ a.toInt ∧ a.toInt < 8
  · refine ⟨((mk1 S H (0 : Int32).toInt a.toInt (-6 : Int32).toInt).1, (mk1 S H (0 : Int32).toInt a.toInt (-6 : Int32).toInt).2.1, (mk1 S H (0 : Int32).toInt a.toInt (-6 : Int32).toInt).2.2, K, T), ?_, ?_, okO_mk1 ok fun hl => Or.inl ?_⟩
    · intro μ Q hc h
      exact wX8_atom (xif_f (by rw [ti_lt, ti_lit0]; omega) (xif_t (by rw [ti_lt, e8]; omega) (c_mk1 hc hI fun x μ' hx hf hc' => h x μ' hx hf hc')))
    · intro μ Q hc h
      refine wX9_atom (in_ok (fun _ _ => xif_f (by decide) (m_mk1 hc hI fun x μ' hx hf hc' => h x μ' hx hf hc')) fun z => absurd ?_ z)
      rw [ti_lit0, e7]; omega
    · simp only [addF_F, if_true, ti_lit0, ti_litm6]
      simp
      omega
  · refine ⟨(-1, S, H, K, T), ?_, ?_, ok⟩
    · intro μ Q hc h
      refine wX8_atom (xif_c (fun _ => h _ _ rfl frC.rf hc) fun c1 => xif_f ?_ (h _ _ rfl frC.rf hc))
      rw [ti_lt, ti_lit0] at c1
      rw [ti_lt, e8]; omega
    · intro μ Q hc h
      refine wX9_atom (in_ok (fun z1 z2 => ?_) fun z => xif_t rfl (h _ _ rfl frM.rf hc))
      rw [ti_lit0] at z1; rw [e7] at z2; omega
theorem op_falsum (ok : okO ((0 : Int), S, H, K, T)) : ∃ o : aO, cOp G mX8_falsum [] S H K T o ∧ mOp G mX9_falsum [] S H K T o ∧ okO o := by
  have hI : Inv S := ok.1
  refine ⟨((mk1 S H (1 : Int32).toInt (-6 : Int32).toInt (-6 : Int32).toInt).1, (mk1 S H (1 : Int32).toInt (-6 : Int32).toInt (-6 : Int32).toInt).2.1, (mk1 S H (1 : Int32).toInt (-6 : Int32).toInt (-6 : Int32).toInt).2.2, K, T), ?_, ?_, okO_mk1 ok fun hl => Or.inr (Or.inl ?_)⟩
  · intro μ Q hc h
    exact wX8_falsum (c_mk1 hc hI fun x μ' hx hf hc' => h x μ' hx hf hc')
  · intro μ Q hc h
    exact wX9_falsum (m_mk1 hc hI fun x μ' hx hf hc' => h x μ' hx hf hc')
  · simp [addF_F, ti_lit1, ti_litm6]
theorem op_not (a : Int32) (ok : okO ((0 : Int), S, H, K, T)) : ∃ o : aO, cOp G mX8_not [vI a] S H K T o ∧ mOp G mX9_not [vI a] S H K T o ∧ okO o := by
  have hI : Inv S := ok.1
  by_cases ha : 0 ≤ a.toInt ∧ a.toInt < S.nf
  · refine ⟨((mk1 S H (2 : Int32).toInt a.toInt (-6 : Int32).toInt).1, (mk1 S H (2 : Int32).toInt a.toInt (-6 : Int32).toInt).2.1, (mk1 S H (2 : Int32).toInt a.toInt (-6 : Int32).toInt).2.2, K, T), ?_, ?_, okO_mk1 ok fun hl => Or.inr (Or.inr (Or.inl ?_))⟩
    · intro μ Q hc h
      exact wX8_not (has_ok hc.1.1 (fun k _ _ => xif_f (by decide) (c_mk1 hc hI fun x μ' hx hf hc' => h x μ' hx hf hc')) fun z => absurd ha z)
    · intro μ Q hc h
      exact wX9_not (m_isF hc.1 (fun k _ _ => xif_f (by decide) (m_mk1 hc hI fun x μ' hx hf hc' => h x μ' hx hf hc')) fun z => absurd ha z)
    · simp only [addF_F, if_true, ti_litm6]
      refine ⟨rfl, ?_⟩
      simp
      omega
  · refine ⟨(-1, S, H, K, T), ?_, ?_, ok⟩
    · intro μ Q hc h
      exact wX8_not (has_ok hc.1.1 (fun k h1 h2 => absurd (by omega) ha) fun z => xif_t rfl (h _ _ rfl frC.rf hc))
    · intro μ Q hc h
      exact wX9_not (m_isF hc.1 (fun k h1 h2 => absurd (by omega) ha) fun z => xif_t rfl (h _ _ rfl frM.rf hc))
theorem op_pair (k a b : Int32) (ok : okO ((0 : Int), S, H, K, T)) : ∃ o : aO, cOp G mX8_pair [vI k, vI a, vI b] S H K T o ∧ mOp G mX9_pair [vI k, vI a, vI b] S H K T o ∧ okO o := by
  have hI : Inv S := ok.1
  have e3 : (3 : Int32).toInt = 3 := rfl
  have e5 : (5 : Int32).toInt = 5 := rfl
  by_cases ha : 0 ≤ a.toInt ∧ a.toInt < S.nf
  · by_cases hb : 0 ≤ b.toInt ∧ b.toInt < S.nf
    · by_cases hk : 3 ≤ k.toInt ∧ k.toInt ≤ 5
      · refine ⟨((mk1 S H k.toInt a.toInt b.toInt).1, (mk1 S H k.toInt a.toInt b.toInt).2.1, (mk1 S H k.toInt a.toInt b.toInt).2.2, K, T), ?_, ?_, okO_mk1 ok fun hl => Or.inr (Or.inr (Or.inr ?_))⟩
        · intro μ Q hc h
          exact wX8_pair (has_ok hc.1.1 (fun _ _ _ => xif_f (by decide) (has_ok hc.1.1 (fun _ _ _ => xif_f (by decide) (xif_f (by rw [ti_lt, e3]; omega) (xif_t (by rw [ti_le, e5]; omega) (c_mk1 hc hI fun x μ' hx hf hc' => h x μ' hx hf hc')))) fun z => absurd hb z)) fun z => absurd ha z)
        · intro μ Q hc h
          exact wX9_pair (m_isF hc.1 (fun _ _ _ => xif_f (by decide) (m_isF hc.1 (fun _ _ _ => xif_f (by decide) (in_ok (fun _ _ => xif_f (by decide) (m_mk1 hc hI fun x μ' hx hf hc' => h x μ' hx hf hc')) fun z => absurd (by rw [e3, e5]; omega) z)) fun z => absurd hb z)) fun z => absurd ha z)
        · simp only [addF_F, if_true]
          simp
          omega
      · refine ⟨(-2, S, H, K, T), ?_, ?_, ok⟩
        · intro μ Q hc h
          refine wX8_pair (has_ok hc.1.1 (fun _ _ _ => xif_f (by decide) (has_ok hc.1.1 (fun _ _ _ => xif_f (by decide) (xif_c (fun _ => h _ _ rfl frC.rf hc) fun c1 => xif_f ?_ (h _ _ rfl frC.rf hc))) fun z => absurd hb z)) fun z => absurd ha z)
          rw [ti_lt, e3] at c1
          rw [ti_le, e5]; omega
        · intro μ Q hc h
          exact wX9_pair (m_isF hc.1 (fun _ _ _ => xif_f (by decide) (m_isF hc.1 (fun _ _ _ => xif_f (by decide) (in_ok (fun z1 z2 => by rw [e3] at z1; rw [e5] at z2; omega) fun z => xif_t rfl (h _ _ rfl frM.rf hc))) fun z => absurd hb z)) fun z => absurd ha z)
    · refine ⟨(-1, S, H, K, T), ?_, ?_, ok⟩
      · intro μ Q hc h
        exact wX8_pair (has_ok hc.1.1 (fun _ _ _ => xif_f (by decide) (has_ok hc.1.1 (fun k h1 h2 => absurd (by omega) hb) fun z => xif_t rfl (h _ _ rfl frC.rf hc))) fun z => absurd ha z)
      · intro μ Q hc h
        exact wX9_pair (m_isF hc.1 (fun _ _ _ => xif_f (by decide) (m_isF hc.1 (fun k h1 h2 => absurd (by omega) hb) fun z => xif_t rfl (h _ _ rfl frM.rf hc))) fun z => absurd ha z)
  · refine ⟨(-1, S, H, K, T), ?_, ?_, ok⟩
    · intro μ Q hc h
      exact wX8_pair (has_ok hc.1.1 (fun k h1 h2 => absurd (by omega) ha) fun z => xif_t rfl (h _ _ rfl frC.rf hc))
    · intro μ Q hc h
      exact wX9_pair (m_isF hc.1 (fun k h1 h2 => absurd (by omega) ha) fun z => xif_t rfl (h _ _ rfl frM.rf hc))
theorem op_formulas (ok : okO ((0 : Int), S, H, K, T)) : ∃ o : aO, cOp G mX8_formulas [] S H K T o ∧ mOp G mX9_formulas [] S H K T o ∧ okO o := by
  refine ⟨(S.nf, S, H, K, T), ?_, ?_, ok⟩
  · intro μ Q hc h
    exact wX8_formulas (h _ _ hc.1.1.1 frC.rf hc)
  · intro μ Q hc h
    exact wX9_formulas ⟨ti_in l0 (by omega), h _ _ hc.1.1 frM.rf hc⟩
theorem op_part (f p : Int32) (ok : okO ((0 : Int), S, H, K, T)) : ∃ o : aO, cOp G mX8_part [vI f, vI p] S H K T o ∧ mOp G mX9_part [vI f, vI p] S H K T o ∧ okO o := by
  have hI : Inv S := ok.1
  have e0 : (0 : Int32).toInt = 0 := rfl
  have e2 : (2 : Int32).toInt = 2 := rfl
  by_cases ha : 0 ≤ f.toInt ∧ f.toInt < S.nf
  · by_cases hp : 0 ≤ p.toInt ∧ p.toInt ≤ 2
    · obtain ⟨c, hc3, hpc⟩ : ∃ c : Nat, c < 3 ∧ p.toInt = c := ⟨p.toInt.toNat, by omega, by omega⟩
      have hfk : f.toInt = (f.toInt.toNat : Nat) := by omega
      have hb := hI.1
      refine ⟨(S.F c f.toInt.toNat, S, H, K, T), ?_, ?_, ok⟩
      · intro μ Q hc h
        refine wX8_part (has_ok hc.1.1 (fun k hk1 hk2 => xif_f (by decide) ?_) fun z => absurd ha z)
        have key : ∀ c', c' < 3 → c' = c → MW G 7 mX5_get [vR (0, 0, c'), vI f] μ (xrI fun x4 μ3 => Q (some (vI x4)) μ3) := by
          intro c' h1 h2
          subst h2
          refine get_in hk1 ?_ (h _ _ ?_ frC.rf hc)
          · rcases (show c' = 0 ∨ c' = 1 ∨ c' = 2 by omega) with rfl | rfl | rfl <;> simp [xlenc] <;> omega
          · rw [hc.1.1.2 c' hc3 k hk2, hk1]; rfl
        refine ⟨fun z => key 0 (by omega) ?_, fun n0 => ⟨fun z => key 1 (by omega) ?_, fun n1 => ⟨fun z => key 2 (by omega) ?_, fun n2 => ?_⟩⟩⟩
        · rw [z] at hpc; have : (0 : Int32).toInt = 0 := rfl; omega
        · rw [z] at hpc; have : (1 : Int32).toInt = 1 := rfl; omega
        · rw [z] at hpc; have : (2 : Int32).toInt = 2 := rfl; omega
        · rw [ti_eq] at n0 n1 n2
          have : (1 : Int32).toInt = 1 := rfl
          omega
      · intro μ Q hc h
        refine wX9_part (m_isF hc.1 (fun k hk1 hk2 => xif_f (by decide) (in_ok (fun _ _ => xif_f (by decide) ?_) fun z => absurd (by rw [e0, e2]; omega) z)) fun z => absurd ha z)
        have e := lin1 (lin l3 l3 hk1 (by omega)) hpc (by omega)
        refine ⟨ti_in e (by omega), ?_⟩
        rw [ti_cl' e]
        exact h _ _ (by rw [hc.1.2.2.2.1 c hc3 k hk2, hk1]; rfl) frM.rf hc
    · refine ⟨(-2, S, H, K, T), ?_, ?_, ok⟩
      · intro μ Q hc h
        refine wX8_part (has_ok hc.1.1 (fun k hk1 hk2 => xif_f (by decide) ?_) fun z => absurd ha z)
        refine ⟨fun z => ?_, fun n0 => ⟨fun z => ?_, fun n1 => ⟨fun z => ?_, fun n2 => h _ _ rfl frC.rf hc⟩⟩⟩
        · exact absurd (by rw [z]; decide) hp
        · exact absurd (by rw [z]; decide) hp
        · exact absurd (by rw [z]; decide) hp
      · intro μ Q hc h
        exact wX9_part (m_isF hc.1 (fun k hk1 hk2 => xif_f (by decide) (in_ok (fun z1 z2 => absurd ⟨z1, z2⟩ hp) fun z => xif_t rfl (h _ _ rfl frM.rf hc))) fun z => absurd ha z)
  · refine ⟨(-1, S, H, K, T), ?_, ?_, ok⟩
    · intro μ Q hc h
      exact wX8_part (has_ok hc.1.1 (fun k h1 h2 => absurd (by omega) ha) fun z => xif_t rfl (h _ _ rfl frC.rf hc))
    · intro μ Q hc h
      exact wX9_part (m_isF hc.1 (fun k h1 h2 => absurd (by omega) ha) fun z => xif_t rfl (h _ _ rfl frM.rf hc))
end
end
section
/-! lines and boxes: reading, availability, writing a line -/
def noo (S : aS) (x : Int) : Prop := x = -6 ∨ S.B 1 x.toNat = -6
def avL (S : aS) (l : Nat) : Prop := noo S (S.L 5 l)
def avB (S : aS) (b : Nat) : Prop := ¬ S.B 1 b = -6 ∧ noo S (S.B 2 b)
def okX (S : aS) (x : Int) : Prop := x = -6 ∨ (0 ≤ x ∧ x < S.nb)
def addL (S : aS) (f r a b c : Int) : aS := ((S.nf, S.nl + 1, S.nb, S.inn), S.F, fun k l => if l = S.nl then (if k = 0 then f else if k = 1 then r else if k = 2 then a else if k = 3 then b else if k = 4 then c else S.inn) else S.L k l, S.B)
theorem addL_L (S : aS) (f r a b c : Int) (k l : Nat) : (addL S f r a b c).L k l = if l = S.nl then (if k = 0 then f else if k = 1 then r else if k = 2 then a else if k = 3 then b else if k = 4 then c else S.inn) else S.L k l := rfl
theorem addL_nl (S : aS) (f r a b c : Int) : (addL S f r a b c).nl = S.nl + 1 := rfl
theorem Inv.home {S : aS} (h : Inv S) {l : Nat} (hl : l < S.nl) : okX S (S.L 5 l) := by
  rcases (h.2.2.2.2.2.1 l hl).2.2.2 with z | z
  · exact Or.inl z
  · exact Or.inr ⟨z.1, z.2.1⟩
theorem Inv.par {S : aS} (h : Inv S) {b : Nat} (hb : b < S.nb) : S.B 2 b = -6 ∨ (0 ≤ S.B 2 b ∧ S.B 2 b < b) := by
  obtain ⟨dp, h7⟩ := h.2.2.2.2.2.2.1
  rcases (h7 b hb).2.2.2.2.2.2.2 with z | z
  · exact Or.inl z.1
  · exact Or.inr ⟨z.1, z.2.1⟩
theorem Inv.parX {S : aS} (h : Inv S) {b : Nat} (hb : b < S.nb) : okX S (S.B 2 b) := by
  rcases h.par hb with z | z
  · exact Or.inl z
  · exact Or.inr ⟨z.1, by omega⟩
theorem latO_ok (S : aS) : ∀ n, latO S n = -6 ∨ ∃ b : Nat, latO S n = b ∧ b < n ∧ S.B 1 b = -6
  | 0 => Or.inl rfl
  | n + 1 => by
    unfold latO
    split
    · rename_i h; exact Or.inr ⟨n, rfl, by omega, h⟩
    · rcases latO_ok S n with h | ⟨b, h1, h2, h3⟩
      · exact Or.inl h
      · exact Or.inr ⟨b, h1, by omega, h3⟩
/-- an open box's parent is none, or open -/
theorem Inv.openPar {S : aS} (h : Inv S) {b : Nat} (hb : b < S.nb) (ho : S.B 1 b = -6) : noo S (S.B 2 b) := by
  obtain ⟨dp, h7⟩ := h.2.2.2.2.2.2.1
  rw [noo, (h7 b hb).2.2.2.2.1 ho]
  rcases latO_ok S b with z | ⟨b', h1, h2, h3⟩
  · exact Or.inl z
  · rw [h1]; exact Or.inr h3
section
variable {G : xG} {d j : Nat} {μ : xM} {Q : xP} {S : aS}
theorem hasL_ok {l : Int32} (hr : repP μ j S) (ht : ∀ k : Nat, l.toInt = k → k < S.nl → Q (some (vI 1)) μ) (hf : ¬ (0 ≤ l.toInt ∧ l.toInt < S.nl) → Q (some (vI 0)) μ) : MW G (d + 1) mX4_hasLine [vR (3, j, 0), vI l] μ Q := by
  refine wX4_hasLine (xif_c (fun c1 => ⟨z01, hf ?_⟩) fun c1 => xif_c (fun c2 => ⟨z01, hf ?_⟩) fun c2 => ⟨z11, ht l.toInt.toNat ?_ ?_⟩)
  all_goals simp only [ti_lt, ti_le, hr.1, ti_lit0] at *
  all_goals omega
theorem hasB_ok {b : Int32} (hr : repP μ j S) (ht : ∀ k : Nat, b.toInt = k → k < S.nb → Q (some (vI 1)) μ) (hf : ¬ (0 ≤ b.toInt ∧ b.toInt < S.nb) → Q (some (vI 0)) μ) : MW G (d + 1) mX4_hasBox [vR (3, j, 0), vI b] μ Q := by
  refine wX4_hasBox (xif_c (fun c1 => ⟨z01, hf ?_⟩) fun c1 => xif_c (fun c2 => ⟨z01, hf ?_⟩) fun c2 => ⟨z11, ht b.toInt.toNat ?_ ?_⟩)
  all_goals simp only [ti_lt, ti_le, hr.2.1, ti_lit0] at *
  all_goals omega
theorem full_ok (hr : repP μ j S) (ht : ¬ S.nl < 48 → Q (some (vI 1)) μ) (hf : S.nl < 48 → Q (some (vI 0)) μ) : MW G (d + 1) mX4_isFull [vR (3, j, 0)] μ Q := by
  have e48 : (48 : Int32).toInt = 48 := rfl
  refine wX4_isFull (xif_c (fun c1 => ⟨z01, hf ?_⟩) fun c1 => ⟨z11, ht ?_⟩)
  all_goals simp only [ti_lt, hr.1, e48] at *
  all_goals omega
theorem c_lf {l : Int32} {k : Nat} (hr : repP μ j S) (hb : S.nl ≤ 48) (hl : l.toInt = k) (hk : k < S.nl) (h : ∀ x : Int32, x.toInt = S.L 0 k → Q (some (vI x)) μ) : MW G (d + 1) mX5_get [vR (0, j, 3), vI l] μ Q := get_in hl (by simp [xlenc]; omega) (h _ (hr.2.2.2.1 0 (by omega) k hk))
theorem c_ru {l : Int32} {k : Nat} (hr : repP μ j S) (hb : S.nl ≤ 48) (hl : l.toInt = k) (hk : k < S.nl) (h : ∀ x : Int32, x.toInt = S.L 1 k → Q (some (vI x)) μ) : MW G (d + 1) mX5_get [vR (0, j, 4), vI l] μ Q := get_in hl (by simp [xlenc]; omega) (h _ (hr.2.2.2.1 1 (by omega) k hk))
theorem c_ho {l : Int32} {k : Nat} (hr : repP μ j S) (hb : S.nl ≤ 48) (hl : l.toInt = k) (hk : k < S.nl) (h : ∀ x : Int32, x.toInt = S.L 5 k → Q (some (vI x)) μ) : MW G (d + 1) mX5_get [vR (0, j, 5), vI l] μ Q := get_in hl (by simp [xlenc]; omega) (h _ (hr.2.2.2.1 5 (by omega) k hk))
theorem c_r0 {l : Int32} {k : Nat} (hr : repP μ j S) (hb : S.nl ≤ 48) (hl : l.toInt = k) (hk : k < S.nl) (h : ∀ x : Int32, x.toInt = S.L 2 k → Q (some (vI x)) μ) : MW G (d + 1) mX5_get [vR (0, j, 6), vI l] μ Q := get_in hl (by simp [xlenc]; omega) (h _ (hr.2.2.2.1 2 (by omega) k hk))
theorem c_r1 {l : Int32} {k : Nat} (hr : repP μ j S) (hb : S.nl ≤ 48) (hl : l.toInt = k) (hk : k < S.nl) (h : ∀ x : Int32, x.toInt = S.L 3 k → Q (some (vI x)) μ) : MW G (d + 1) mX5_get [vR (0, j, 7), vI l] μ Q := get_in hl (by simp [xlenc]; omega) (h _ (hr.2.2.2.1 3 (by omega) k hk))
theorem c_r2 {l : Int32} {k : Nat} (hr : repP μ j S) (hb : S.nl ≤ 48) (hl : l.toInt = k) (hk : k < S.nl) (h : ∀ x : Int32, x.toInt = S.L 4 k → Q (some (vI x)) μ) : MW G (d + 1) mX5_get [vR (0, j, 8), vI l] μ Q := get_in hl (by simp [xlenc]; omega) (h _ (hr.2.2.2.1 4 (by omega) k hk))
theorem c_st {l : Int32} {k : Nat} (hr : repP μ j S) (hb : S.nb ≤ 48) (hl : l.toInt = k) (hk : k < S.nb) (h : ∀ x : Int32, x.toInt = S.B 0 k → Q (some (vI x)) μ) : MW G (d + 1) mX5_get [vR (0, j, 9), vI l] μ Q := get_in hl (by simp [xlenc]; omega) (h _ (hr.2.2.2.2 0 (by omega) k hk))
theorem c_en {l : Int32} {k : Nat} (hr : repP μ j S) (hb : S.nb ≤ 48) (hl : l.toInt = k) (hk : k < S.nb) (h : ∀ x : Int32, x.toInt = S.B 1 k → Q (some (vI x)) μ) : MW G (d + 1) mX5_get [vR (0, j, 10), vI l] μ Q := get_in hl (by simp [xlenc]; omega) (h _ (hr.2.2.2.2 1 (by omega) k hk))
theorem c_pa {l : Int32} {k : Nat} (hr : repP μ j S) (hb : S.nb ≤ 48) (hl : l.toInt = k) (hk : k < S.nb) (h : ∀ x : Int32, x.toInt = S.B 2 k → Q (some (vI x)) μ) : MW G (d + 1) mX5_get [vR (0, j, 11), vI l] μ Q := get_in hl (by simp [xlenc]; omega) (h _ (hr.2.2.2.2 2 (by omega) k hk))
theorem noo_ok {x : Int32} (hr : repP μ j S) (hb : S.nb ≤ 48) (hx : okX S x.toInt) (ht : noo S x.toInt → Q (some (vI 1)) μ) (hf : ¬ noo S x.toInt → Q (some (vI 0)) μ) : MW G (d + 2) mX4_isNoneOrOpen [vR (3, j, 0), vI x] μ Q := by
  refine wX4_isNoneOrOpen (hasB_ok hr (fun k h1 h2 => xif_f (by decide) (c_en hr hb h1 h2 fun y hy => ?_)) fun z => xif_t rfl ⟨z11, ht ?_⟩)
  · refine xif_c (fun c1 => ⟨z11, ht (Or.inr ?_)⟩) (fun c1 => ⟨z01, hf ?_⟩)
    · rw [ti_eq, hy, ti_litm6] at c1
      rw [h1]; exact c1
    · rw [ti_eq, hy, ti_litm6] at c1
      rintro (z | z)
      · omega
      · rw [h1] at z; exact c1 z
  · rcases hx with q | q
    · exact Or.inl q
    · exact absurd q z
theorem avL_ok {l : Int32} {k : Nat} (hr : repP μ j S) (hI : Inv S) (hl : l.toInt = k) (hk : k < S.nl) (ht : avL S k → Q (some (vI 1)) μ) (hf : ¬ avL S k → Q (some (vI 0)) μ) : MW G (d + 3) mX4_isLineAvailable [vR (3, j, 0), vI l] μ Q := by
  have hbd := hI.bd
  refine wX4_isLineAvailable (c_ho hr hbd.2.1 hl hk fun x hx => noo_ok hr hbd.2.2 (by rw [hx]; exact hI.home hk) (fun z => ⟨z11, ht ?_⟩) (fun z => ⟨z01, hf ?_⟩))
  · rw [hx] at z; exact z
  · rw [hx] at z; exact z
theorem avB_ok {b : Int32} {k : Nat} (hr : repP μ j S) (hI : Inv S) (hl : b.toInt = k) (hk : k < S.nb) (ht : avB S k → Q (some (vI 1)) μ) (hf : ¬ avB S k → Q (some (vI 0)) μ) : MW G (d + 3) mX4_isBoxAvailable [vR (3, j, 0), vI b] μ Q := by
  have hbd := hI.bd
  refine wX4_isBoxAvailable (c_en hr hbd.2.2 hl hk fun x hx => xif_c (fun c1 => ⟨z01, hf fun z => z.1 ?_⟩) fun c1 => c_pa hr hbd.2.2 hl hk fun y hy => noo_ok hr hbd.2.2 (by rw [hy]; exact hI.parX hk) (fun z => xif_f (by decide) ⟨z11, ht ⟨?_, ?_⟩⟩) (fun z => xif_t rfl ⟨z01, hf fun q => z ?_⟩))
  · rw [ti_eq, hx, ti_litm6] at c1; exact c1
  · rw [ti_eq, hx, ti_litm6] at c1; exact c1
  · rw [hy] at z; exact z
  · rw [hy]; exact q.2
theorem addLine_ok {r f a b c : Int32} (hr : repP μ j S) (hb : bdS S) (hl : S.nl < 48) (h : ∀ (x : Int32) (μ' : xM), x.toInt = S.nl → (∀ q, ¬ ownP j q → μ' q = μ q) → repP μ' j (addL S f.toInt r.toInt a.toInt b.toInt c.toInt) → Q (some (vI x)) μ') : MW G (d + 2) mX4_addLine [vR (3, j, 0), vI r, vI f, vI a, vI b, vI c] μ Q := by
  obtain ⟨h1, h2, h3, h4, h5⟩ := hr
  refine wX4_addLine (set_in h1 (by simp [xlenc]; omega) (set_in h1 (by simp [xlenc]; omega) (set_in h1 (by simp [xlenc]; omega) (set_in h1 (by simp [xlenc]; omega) (set_in h1 (by simp [xlenc]; omega) (set_in h1 (by simp [xlenc]; omega) (h _ _ h1 (fun q hq => ?_) ⟨?_, ?_, ?_, fun k hk l hl' => ?_, fun k hk x hx => ?_⟩)))))))
  · funext i
    have n1 : ∀ c, 3 ≤ c → c < 12 → ¬ q = (1, j, c) := fun c hc hc2 e => hq (Or.inr (by rw [e]; exact ⟨rfl, rfl, hc, hc2⟩))
    have n2 : ¬ q = (3, j, 0) := fun e => hq (Or.inl e)
    simp [xst_rd, n1 3 (by omega) (by omega), n1 4 (by omega) (by omega), n1 5 (by omega) (by omega), n1 6 (by omega) (by omega), n1 7 (by omega) (by omega), n1 8 (by omega) (by omega), n2]
  · have e1 : (μ (3, j, 0) 0 + 1).toInt = (S.nl : Int) + 1 := by
      rw [ti_add (by rw [h1, ti_lit1]; omega) (by rw [h1, ti_lit1]; omega), h1, ti_lit1]
    rw [addL_nl]
    simp [xst_rd, e1]
  · simp [xst_rd]; exact h2
  · simp [xst_rd]; exact h3
  · rw [addL_L]
    rw [addL_nl] at hl'
    by_cases hln : l = S.nl
    · subst hln
      rcases (show k = 0 ∨ k = 1 ∨ k = 2 ∨ k = 3 ∨ k = 4 ∨ k = 5 by omega) with rfl | rfl | rfl | rfl | rfl | rfl <;> simp [xst_rd, lcol]
      exact h3
    · have hx := h4 k hk l (by omega)
      rcases (show k = 0 ∨ k = 1 ∨ k = 2 ∨ k = 3 ∨ k = 4 ∨ k = 5 by omega) with rfl | rfl | rfl | rfl | rfl | rfl <;> simpa [xst_rd, lcol, hln] using hx
  · have := h5 k hk x hx
    show _ = S.B k x
    rcases (show k = 0 ∨ k = 1 ∨ k = 2 by omega) with rfl | rfl | rfl <;> simpa [xst_rd] using this
-- the model
theorem m_isL {l : Int32} (hr : repR (μ (1, 0, 20)) S) (ht : ∀ k : Nat, l.toInt = k → k < S.nl → Q (some (vI 1)) μ) (hf : ¬ (0 ≤ l.toInt ∧ l.toInt < S.nl) → Q (some (vI 0)) μ) : MW G (d + 1) mX9_isLine [vR (9, 0, 0), vI l] μ Q := by
  refine wX9_isLine (xif_c (fun c1 => ⟨z01, hf ?_⟩) fun c1 => ⟨ti_in l1 (by omega), xif_c (fun c2 => ⟨z01, hf ?_⟩) fun c2 => ⟨z11, ht l.toInt.toNat ?_ ?_⟩⟩)
  all_goals simp only [ti_lt, ti_le, ti_lit0, ti_cl' l1, hr.2.1] at *
  all_goals omega
theorem m_isB {b : Int32} (hr : repR (μ (1, 0, 20)) S) (ht : ∀ k : Nat, b.toInt = k → k < S.nb → Q (some (vI 1)) μ) (hf : ¬ (0 ≤ b.toInt ∧ b.toInt < S.nb) → Q (some (vI 0)) μ) : MW G (d + 1) mX9_isBox [vR (9, 0, 0), vI b] μ Q := by
  refine wX9_isBox (xif_c (fun c1 => ⟨z01, hf ?_⟩) fun c1 => ⟨ti_in l2 (by omega), xif_c (fun c2 => ⟨z01, hf ?_⟩) fun c2 => ⟨z11, ht b.toInt.toNat ?_ ?_⟩⟩)
  all_goals simp only [ti_lt, ti_le, ti_lit0, ti_cl' l2, hr.2.2.1] at *
  all_goals omega
theorem m_full (hr : repR (μ (1, 0, 20)) S) (hb : S.nl ≤ 48) (ht : ¬ S.nl < 48 → Q (some (vI 1)) μ) (hf : S.nl < 48 → Q (some (vI 0)) μ) : MW G (d + 1) mX9_isFull [vR (9, 0, 0)] μ Q := by
  have e48 : (48 : Int32).toInt = 48 := rfl
  refine wX9_isFull ⟨ti_in l1 (by omega), xif_c (fun c1 => ⟨z11, ht ?_⟩) fun c1 => ⟨z01, hf ?_⟩⟩
  all_goals simp only [ti_eq, ti_cl' l1, hr.2.1, e48] at *
  all_goals omega
theorem l183 : (183 : Int32).toInt = (183 : Nat) := rfl
theorem l6 : (6 : Int32).toInt = (6 : Nat) := rfl
theorem l471 : (471 : Int32).toInt = (471 : Nat) := rfl
theorem l4 : (4 : Int32).toInt = (4 : Nat) := rfl
theorem l5 : (5 : Int32).toInt = (5 : Nat) := rfl
theorem m_lf {l : Int32} {k : Nat} (hr : repR (μ (1, 0, 20)) S) (hb : S.nl ≤ 48) (hl : l.toInt = k) (hk : k < S.nl) (h : ∀ x : Int32, x.toInt = S.L 0 k → Q (some (vI x)) μ) : MW G (d + 1) mX9_formulaOf [vR (9, 0, 0), vI l] μ Q := by
  have e := lin l183 l6 hl (by omega)
  refine wX9_formulaOf ⟨ti_in e (by omega), ?_⟩
  rw [ti_cl' e]
  exact h _ (hr.2.2.2.2.1 0 (by omega) k hk)
theorem m_ru {l : Int32} {k : Nat} (hr : repR (μ (1, 0, 20)) S) (hb : S.nl ≤ 48) (hl : l.toInt = k) (hk : k < S.nl) (h : ∀ x : Int32, x.toInt = S.L 1 k → Q (some (vI x)) μ) : MW G (d + 1) mX9_ruleOf [vR (9, 0, 0), vI l] μ Q := by
  have e := lin1 (lin l183 l6 hl (by omega)) l1 (by omega)
  refine wX9_ruleOf ⟨ti_in e (by omega), ?_⟩
  rw [ti_cl' e]
  exact h _ (hr.2.2.2.2.1 1 (by omega) k hk)
theorem m_ho {l : Int32} {k : Nat} (hr : repR (μ (1, 0, 20)) S) (hb : S.nl ≤ 48) (hl : l.toInt = k) (hk : k < S.nl) (h : ∀ x : Int32, x.toInt = S.L 5 k → Q (some (vI x)) μ) : MW G (d + 1) mX9_boxOf [vR (9, 0, 0), vI l] μ Q := by
  have e := lin1 (lin l183 l6 hl (by omega)) l5 (by omega)
  refine wX9_boxOf ⟨ti_in e (by omega), ?_⟩
  rw [ti_cl' e]
  exact h _ (hr.2.2.2.2.1 5 (by omega) k hk)
theorem m_ref {l i : Int32} {k c : Nat} (hr : repR (μ (1, 0, 20)) S) (hb : S.nl ≤ 48) (hl : l.toInt = k) (hk : k < S.nl) (hi : i.toInt = c) (hc : c < 3) (h : ∀ x : Int32, x.toInt = S.L (2 + c) k → Q (some (vI x)) μ) : MW G (d + 1) mX9_refOf [vR (9, 0, 0), vI l, vI i] μ Q := by
  have e := lin1 (lin1 (lin l183 l6 hl (by omega)) l2 (by omega)) hi (by omega)
  refine wX9_refOf ⟨ti_in e (by omega), ?_⟩
  rw [ti_cl' e, show 183 + 6 * k + 2 + c = 183 + 6 * k + (2 + c) by omega]
  exact h _ (hr.2.2.2.2.1 (2 + c) (by omega) k hk)
theorem m_st {l : Int32} {k : Nat} (hr : repR (μ (1, 0, 20)) S) (hb : S.nb ≤ 48) (hl : l.toInt = k) (hk : k < S.nb) (h : ∀ x : Int32, x.toInt = S.B 0 k → Q (some (vI x)) μ) : MW G (d + 1) mX9_opens [vR (9, 0, 0), vI l] μ Q := by
  have e := lin l471 l3 hl (by omega)
  refine wX9_opens ⟨ti_in e (by omega), ?_⟩
  rw [ti_cl' e]
  exact h _ (hr.2.2.2.2.2 0 (by omega) k hk)
theorem m_en {l : Int32} {k : Nat} (hr : repR (μ (1, 0, 20)) S) (hb : S.nb ≤ 48) (hl : l.toInt = k) (hk : k < S.nb) (h : ∀ x : Int32, x.toInt = S.B 1 k → Q (some (vI x)) μ) : MW G (d + 1) mX9_ends [vR (9, 0, 0), vI l] μ Q := by
  have e := lin1 (lin l471 l3 hl (by omega)) l1 (by omega)
  refine wX9_ends ⟨ti_in e (by omega), ?_⟩
  rw [ti_cl' e]
  exact h _ (hr.2.2.2.2.2 1 (by omega) k hk)
theorem m_pa {l : Int32} {k : Nat} (hr : repR (μ (1, 0, 20)) S) (hb : S.nb ≤ 48) (hl : l.toInt = k) (hk : k < S.nb) (h : ∀ x : Int32, x.toInt = S.B 2 k → Q (some (vI x)) μ) : MW G (d + 1) mX9_parent [vR (9, 0, 0), vI l] μ Q := by
  have e := lin1 (lin l471 l3 hl (by omega)) l2 (by omega)
  refine wX9_parent ⟨ti_in e (by omega), ?_⟩
  rw [ti_cl' e]
  exact h _ (hr.2.2.2.2.2 2 (by omega) k hk)
theorem m_latest (hr : repR (μ (1, 0, 20)) S) (hb : S.nb ≤ 48) (h : ∀ x : Int32, x.toInt = latO S S.nb → Q (some (vI x)) μ) : MW G (d + 2) mX9_latest [vR (9, 0, 0)] μ Q := by
  refine wX9_latest fun Z => ?_
  refine up_loop (σ := Int32) (fun i x => WS G eX9_latest (d + 2) Z Q 5 [vR (9, 0, 0), vI x, vI (nI i)] [] μ) (fun i x => x.toInt = latO S i) S.nb ?_ ?_ 0 _ (by omega) rfl
  · intro i x hi hx ih
    have ei : (nI i).toInt = i := nI_t (by omega)
    refine wX9_latest_5 ⟨ti_in l2 (by omega), xif_f (by rw [ti_le, ti_cl' l2, hr.2.2.1, ei]; omega) (m_en hr hb ei hi fun y hy => xif_c (fun c1 => ?_) (fun c1 => ?_))⟩
    · rw [ti_eq, hy, ti_litm6] at c1
      rw [nI_1]
      refine ih _ ?_
      unfold latO
      rw [if_pos c1, ei]
    · rw [ti_eq, hy, ti_litm6] at c1
      rw [nI_1]
      refine ih _ ?_
      unfold latO
      rw [if_neg c1, hx]
  · intro x hx
    have ei : (nI S.nb).toInt = S.nb := nI_t (by omega)
    exact wX9_latest_5 ⟨ti_in l2 (by omega), xif_t (by rw [ti_le, ti_cl' l2, hr.2.2.1, ei]; omega) (h _ hx)⟩
theorem m_isShut {x : Int32} (hr : repR (μ (1, 0, 20)) S) (hI : Inv S) (hx : okX S x.toInt) (ht : ¬ noo S x.toInt → Q (some (vI 1)) μ) (hf : noo S x.toInt → Q (some (vI 0)) μ) : MW G (d + 2) mX9_isShut [vR (9, 0, 0), vI x] μ Q := by
  have hbd := hI.bd
  refine wX9_isShut fun Z => ?_
  have lp : ∀ (n : Nat) (y : Int32), y.toInt < n → okX S y.toInt → noo S y.toInt → Q (some (vI 0)) μ → WS G eX9_isShut (d + 2) Z Q 4 [vR (9, 0, 0), vN, vI 0, vI y] [] μ := by
    intro n
    induction n with
    | zero =>
      intro y hy h1 h2 hq
      refine wX9_isShut_4 (xif_t ?_ ⟨z01, hq⟩)
      rw [ti_eq, ti_litm6]
      rcases h1 with z | z
      · exact z
      · omega
    | succ n ih =>
      intro y hy h1 h2 hq
      rcases h1 with z | ⟨z1, z2⟩
      · exact wX9_isShut_4 (xif_t (by rw [ti_eq, ti_litm6]; exact z) ⟨z01, hq⟩)
      · have hk : y.toInt = (y.toInt.toNat : Nat) := by omega
        have hkb : y.toInt.toNat < S.nb := by omega
        have ho : S.B 1 y.toInt.toNat = -6 := by
          rcases h2 with q | q
          · omega
          · exact q
        refine wX9_isShut_4 (xif_f (by rw [ti_eq, ti_litm6]; omega) (xif_t rfl (m_en hr hbd.2.2 hk hkb fun e he => xif_t (by rw [ti_eq, he, ti_litm6]; exact ho) (m_pa hr hbd.2.2 hk hkb fun p hp => ?_))))
        have := hI.par hkb
        exact ih p (by rw [hp]; omega) (by rw [hp]; exact hI.parX hkb) (by rw [hp]; exact hI.openPar hkb ho) hq
  by_cases hn : noo S x.toInt
  · exact lp (x.toInt.toNat + 1) x (by omega) hx hn (hf hn)
  · rcases hx with z | ⟨z1, z2⟩
    · exact absurd (Or.inl z) hn
    · have hk : x.toInt = (x.toInt.toNat : Nat) := by omega
      have hkb : x.toInt.toNat < S.nb := by omega
      refine wX9_isShut_4 (xif_f (by rw [ti_eq, ti_litm6]; omega) (xif_t rfl (m_en hr hbd.2.2 hk hkb fun e he => xif_f (by rw [ti_eq, he, ti_litm6]; exact fun q => hn (Or.inr q)) (m_pa hr hbd.2.2 hk hkb fun p hp => ?_))))
      exact wX9_isShut_4 (xif_c (fun _ => ⟨z11, ht hn⟩) fun _ => xif_f (by decide) ⟨z11, ht hn⟩)
theorem m_avL {l : Int32} {k : Nat} (hr : repR (μ (1, 0, 20)) S) (hI : Inv S) (hl : l.toInt = k) (hk : k < S.nl) (ht : avL S k → Q (some (vI 1)) μ) (hf : ¬ avL S k → Q (some (vI 0)) μ) : MW G (d + 3) mX9_isAvailable [vR (9, 0, 0), vI l] μ Q := by
  have hbd := hI.bd
  refine wX9_isAvailable (m_ho hr hbd.2.1 hl hk fun x hx => m_isShut hr hI (by rw [hx]; exact hI.home hk) (fun z => xif_f (by decide) ⟨z01, hf ?_⟩) (fun z => xif_t rfl ⟨z11, ht ?_⟩))
  · rw [hx] at z; exact z
  · rw [hx] at z; exact z
theorem m_avB {b : Int32} {k : Nat} (hr : repR (μ (1, 0, 20)) S) (hI : Inv S) (hl : b.toInt = k) (hk : k < S.nb) (ht : avB S k → Q (some (vI 1)) μ) (hf : ¬ avB S k → Q (some (vI 0)) μ) : MW G (d + 3) mX9_isBoxAvailable [vR (9, 0, 0), vI b] μ Q := by
  have hbd := hI.bd
  refine wX9_isBoxAvailable (m_en hr hbd.2.2 hl hk fun x hx => xif_c (fun c1 => ⟨z01, hf fun z => z.1 ?_⟩) fun c1 => m_pa hr hbd.2.2 hl hk fun y hy => m_isShut hr hI (by rw [hy]; exact hI.parX hk) (fun z => xif_f (by decide) ⟨z01, hf fun q => z ?_⟩) (fun z => xif_t rfl ⟨z11, ht ⟨?_, ?_⟩⟩))
  · rw [ti_eq, hx, ti_litm6] at c1; exact c1
  · rw [hy]; exact q.2
  · rw [ti_eq, hx, ti_litm6] at c1; exact c1
  · rw [hy] at z; exact z
theorem repR_addL {z z' : Nat → Int32} {f r a b c y : Int32} (hr : repR z S) (hb : bdS S) (hl : S.nl < 48) (hi : y.toInt = S.inn) (h1 : (z' 1).toInt = (S.nl : Int) + 1) (e0 : z' (183 + 6 * S.nl) = f) (e1 : z' (183 + 6 * S.nl + 1) = r) (e2 : z' (183 + 6 * S.nl + 2) = a) (e3 : z' (183 + 6 * S.nl + 3) = b) (e4 : z' (183 + 6 * S.nl + 4) = c) (e5 : z' (183 + 6 * S.nl + 5) = y) (e : ∀ i, i ≠ 1 → (i < 183 + 6 * S.nl ∨ 183 + 6 * S.nl + 5 < i) → z' i = z i) : repR z' (addL S f.toInt r.toInt a.toInt b.toInt c.toInt) := by
  obtain ⟨b1, b2, b3⟩ := hb
  obtain ⟨r1, r2, r3, r4, r5, r6⟩ := hr
  refine ⟨by rw [e 0 (by omega) (by omega)]; exact r1, h1, by rw [e 2 (by omega) (by omega)]; exact r3, fun k hk x hx => ?_, fun k hk x hx => ?_, fun k hk x hx => ?_⟩
  · have hx : x < S.nf := hx
    rw [e _ (by omega) (by omega)]
    exact r4 k hk x hx
  · rw [addL_L]
    rw [addL_nl] at hx
    by_cases hxn : x = S.nl
    · rw [if_pos hxn, hxn]
      rcases (show k = 0 ∨ k = 1 ∨ k = 2 ∨ k = 3 ∨ k = 4 ∨ k = 5 by omega) with rfl | rfl | rfl | rfl | rfl | rfl
      · rw [Nat.add_zero, e0]; rfl
      · rw [e1]; rfl
      · rw [e2]; rfl
      · rw [e3]; rfl
      · rw [e4]; rfl
      · rw [e5]; exact hi
    · rw [if_neg hxn, e _ (by omega) (by omega)]
      exact r5 k hk x (by omega)
  · have hx : x < S.nb := hx
    rw [e _ (by omega) (by omega)]
    exact r6 k hk x hx
set_option maxHeartbeats 2000000 in
theorem m_write {r f a b c : Int32} (hr : repR (μ (1, 0, 20)) S) (hI : Inv S) (hl : S.nl < 48) (h : ∀ (x : Int32) (μ' : xM), x.toInt = S.nl → (∀ q, q ≠ (1, 0, 20) → μ' q = μ q) → repR (μ' (1, 0, 20)) (addL S f.toInt r.toInt a.toInt b.toInt c.toInt) → Q (some (vI x)) μ') : MW G (d + 3) mX9_write [vR (9, 0, 0), vI f, vI r, vI a, vI b, vI c] μ Q := by
  have hb := hI.bd
  have n1 : (1 : Int32).toNatClampNeg = 1 := rfl
  have z1 := hr.2.1
  have i0 := lin l183 l6 z1 (by omega)
  have i1 := lin1 i0 l1 (by omega)
  have i2 := lin1 i0 l2 (by omega)
  have i3 := lin1 i0 l3 (by omega)
  have i4 := lin1 i0 l4 (by omega)
  have i5 := lin1 i0 l5 (by omega)
  refine wX9_write ?_
  rw [n1, ti_cl' i0, ti_cl' i1, ti_cl' i2, ti_cl' i3, ti_cl' i4, ti_cl' i5]
  refine ⟨ti_in l1 (by omega), ti_in i0 (by omega), ti_in i1 (by omega), ti_in i2 (by omega), ti_in i3 (by omega), ti_in i4 (by omega), ?_⟩
  refine m_latest (d := d) (S := S) ?_ hb.2.2 fun y hy => ?_
  · obtain ⟨r1, r2, r3, r4, r5, r6⟩ := hr
    obtain ⟨b1, b2, b3⟩ := hb
    have e : ∀ i, (i < 183 + 6 * S.nl ∨ 183 + 6 * S.nl + 5 < i) → (xst (xst (xst (xst (xst μ (1, 0, 20) (183 + 6 * S.nl) f) (1, 0, 20) (183 + 6 * S.nl + 1) r) (1, 0, 20) (183 + 6 * S.nl + 2) a) (1, 0, 20) (183 + 6 * S.nl + 3) b) (1, 0, 20) (183 + 6 * S.nl + 4) c) (1, 0, 20) i = μ (1, 0, 20) i := by
      intro i hi
      rw [xst_rd, if_neg (fun q => by have := q.2; omega), xst_rd, if_neg (fun q => by have := q.2; omega), xst_rd, if_neg (fun q => by have := q.2; omega), xst_rd, if_neg (fun q => by have := q.2; omega), xst_rd, if_neg (fun q => by have := q.2; omega)]
    refine ⟨by rw [e 0 (by omega)]; exact r1, by rw [e 1 (by omega)]; exact r2, by rw [e 2 (by omega)]; exact r3, fun k hk x hx => ?_, fun k hk x hx => ?_, fun k hk x hx => ?_⟩
    · rw [e _ (by omega)]; exact r4 k hk x hx
    · rw [e _ (by omega)]; exact r5 k hk x hx
    · rw [e _ (by omega)]; exact r6 k hk x hx
  · have ea : (μ (1, 0, 20) 1 + 1).toInt = (S.nl : Int) + 1 := by
      rw [ti_add (by rw [z1, ti_lit1]; omega) (by rw [z1, ti_lit1]; omega), z1, ti_lit1]
    have v1 : ∀ (i0 i1 i2 i3 i4 i5 : Nat) (u0 u1 u2 u3 u4 u5 : Int32), i0 ≠ 1 → i1 ≠ 1 → i2 ≠ 1 → i3 ≠ 1 → i4 ≠ 1 → i5 ≠ 1 → (xst (xst (xst (xst (xst (xst μ (1, 0, 20) i0 u0) (1, 0, 20) i1 u1) (1, 0, 20) i2 u2) (1, 0, 20) i3 u3) (1, 0, 20) i4 u4) (1, 0, 20) i5 u5) (1, 0, 20) 1 = μ (1, 0, 20) 1 := by
      intro i0 i1 i2 i3 i4 i5 u0 u1 u2 u3 u4 u5 h0 h1 h2 h3 h4 h5
      rw [xst_rd, if_neg (fun q => h5 q.2.symm), xst_rd, if_neg (fun q => h4 q.2.symm), xst_rd, if_neg (fun q => h3 q.2.symm), xst_rd, if_neg (fun q => h2 q.2.symm), xst_rd, if_neg (fun q => h1 q.2.symm), xst_rd, if_neg (fun q => h0 q.2.symm)]
    show vp_in _ 615 ∧ _
    rw [v1 _ _ _ _ _ _ _ _ _ _ _ _ (by omega) (by omega) (by omega) (by omega) (by omega) (by omega)]
    refine ⟨ti_in i5 (by omega), ti_in l1 (by omega), ti_in l1 (by omega), ti_in l1 (by omega), h _ _ ?_ (fun q hq => ?_) (repR_addL (y := y) hr hb hl (hy.trans hI.2.2.2.1.symm) ?_ ?_ ?_ ?_ ?_ ?_ ?_ (fun i n0 n1 => ?_))⟩
    · rw [xst_rd, if_pos ⟨rfl, rfl⟩, ti_sub (by rw [ea, ti_lit1]; omega) (by rw [ea, ti_lit1]; omega), ea, ti_lit1]
      omega
    · funext i
      simp [xst_rd, hq]
    · rw [xst_rd, if_pos ⟨rfl, rfl⟩, ea]
    · simp only [xst_rd, true_and]
      rw [if_neg (by omega), if_neg (by omega), if_neg (by omega), if_neg (by omega), if_neg (by omega), if_neg (by omega), if_pos trivial]
    · simp only [xst_rd, true_and]
      rw [if_neg (by omega), if_neg (by omega), if_neg (by omega), if_neg (by omega), if_neg (by omega), if_pos trivial]
    · simp only [xst_rd, true_and]
      rw [if_neg (by omega), if_neg (by omega), if_neg (by omega), if_neg (by omega), if_pos trivial]
    · simp only [xst_rd, true_and]
      rw [if_neg (by omega), if_neg (by omega), if_neg (by omega), if_pos trivial]
    · simp only [xst_rd, true_and]
      rw [if_neg (by omega), if_neg (by omega), if_pos trivial]
    · simp only [xst_rd, true_and]
      rw [if_neg (by omega), if_pos trivial]
    · simp only [xst_rd, true_and]
      rw [if_neg n0, if_neg (by omega), if_neg (by omega), if_neg (by omega), if_neg (by omega), if_neg (by omega), if_neg (by omega)]
end
end
section
/-! writing a line: both sides; the order of a state is kept -/
noncomputable def cif {α : Type} (p : Prop) (a b : α) : α := @ite α p (Classical.propDecidable p) a b
theorem cif_t {α : Type} {p : Prop} {a b : α} (h : p) : cif p a b = a := @if_pos p (Classical.propDecidable p) h α a b
theorem cif_f {α : Type} {p : Prop} {a b : α} (h : ¬ p) : cif p a b = b := @if_neg p (Classical.propDecidable p) h α a b
theorem cif_i {α : Type} {P : α → Prop} {p : Prop} {a b : α} (ha : p → P a) (hb : ¬ p → P b) : P (cif p a b) := by
  by_cases h : p
  · rw [cif_t h]; exact ha h
  · rw [cif_f h]; exact hb h
abbrev aW : Type := Int × aS × List aS
noncomputable def wr (S : aS) (H : List aS) (r f a b c : Int) : aW := cif (S.nl < 48) ((S.nl : Int), addL S f r a b c, (S :: H).take 5) (-4, S, H)
noncomputable def wm (S : aS) (H : List aS) (k l r : Int) (ru a b : Int) : aW := cif (S.nl < 48) (cif (roomS S k l r) ((S.nl : Int), addL (mkS S k l r).2 (mkS S k l r).1 ru a b (-6), (S :: H).take 5) (-4, S, H)) (-4, S, H)
/-- of a result: all is in order -/
def okW (w : aW) : Prop := Inv w.2.1 ∧ ∀ h ∈ w.2.2, Inv h
def okRV (S : aS) (l : Nat) (r a b c : Int) : Prop :=
  ((r = 0 ∨ r = 1) ∧ a = -6 ∧ b = -6 ∧ c = -6) ∨
  ((r = 3 ∨ r = 9 ∨ r = 11) ∧ okLR l a ∧ okLR l b ∧ c = -6) ∨
  ((r = 2 ∨ r = 4 ∨ r = 5 ∨ r = 6 ∨ r = 12 ∨ r = 13) ∧ okLR l a ∧ b = -6 ∧ c = -6) ∨
  (r = 7 ∧ okLR l a ∧ okBR S l b ∧ okBR S l c) ∨
  ((r = 8 ∨ r = 10) ∧ okBR S l a ∧ b = -6 ∧ c = -6)
theorem Inv.innX {S : aS} (h : Inv S) : S.inn = -6 ∨ ∃ b : Nat, S.inn = b ∧ b < S.nb ∧ S.B 1 b = -6 := by
  rw [h.2.2.2.1]
  exact latO_ok S S.nb
theorem Inv_addL {S : aS} {f r a b c : Int} (h : Inv S) (hl : S.nl < 48) (hf : 0 ≤ f ∧ f < S.nf) (hr : okRV S S.nl r a b c) : Inv (addL S f r a b c) := by
  have hX := h.innX
  obtain ⟨h1, h2, h3, h4, h5, h6, ⟨dp, h7⟩, h8⟩ := h
  have old : ∀ k x, x < S.nl → (addL S f r a b c).L k x = S.L k x := fun k x hx => by rw [addL_L, if_neg (by omega)]
  have lat : ∀ n, latO (addL S f r a b c) n = latO S n := latO_cg (S := addL S f r a b c) (S' := S) rfl
  refine ⟨h1, by rw [addL_nl]; omega, by rw [addL_nl]; show S.nb ≤ _; omega, h4.trans (lat _).symm, h5, fun x hx => ?_, ⟨dp, fun y hy => ?_⟩, h8⟩
  · rw [addL_nl] at hx
    by_cases hxn : x = S.nl
    · subst hxn
      have e : ∀ k, (addL S f r a b c).L k S.nl = if k = 0 then f else if k = 1 then r else if k = 2 then a else if k = 3 then b else if k = 4 then c else S.inn := fun k => by rw [addL_L, if_pos rfl]
      refine ⟨by rw [e]; exact hf.1, by rw [e]; exact hf.2, ?_, ?_⟩
      · unfold okRef
        rw [e, e, e, e]
        exact hr
      · rw [e]
        rcases hX with z | ⟨b', z1, z2, z3⟩
        · exact Or.inl z
        · refine Or.inr ?_
          have := (h7 b' z2).2.1
          simp only [z1]
          refine ⟨by simp, (show (b' : Int) < S.nb by omega), ?_, Or.inl z3⟩
          show S.B 0 b' ≤ S.nl
          omega
    · obtain ⟨a1, a2, a3, a4⟩ := h6 x (by omega)
      refine ⟨by rw [old _ _ (by omega)]; exact a1, by rw [old _ _ (by omega)]; exact a2, ?_, by rw [old _ _ (by omega)]; exact a4⟩
      unfold okRef at a3 ⊢
      rw [old _ _ (by omega), old _ _ (by omega), old _ _ (by omega), old _ _ (by omega)]
      exact a3
  · have hy : y < S.nb := hy
    obtain ⟨a1, a2, a3, a4, a5, a6, a7, a8⟩ := h7 y hy
    refine ⟨a1, by rw [addL_nl]; show S.B 0 y < _; omega, ?_, ?_, fun z => (a5 z).trans (lat _).symm, a6, a7, a8⟩
    · rw [show (addL S f r a b c).B = S.B from rfl, old _ _ (by omega)]; exact a3
    · rcases a4 with z | ⟨z1, z2, z3⟩
      · exact Or.inl z
      · refine Or.inr ⟨z1, by rw [addL_nl]; show S.B 1 y < _; omega, ?_⟩
        rw [show (addL S f r a b c).B = S.B from rfl, old _ _ (by omega)]; exact z3
theorem okRV_cg {S S' : aS} {l : Nat} {r a b c : Int} (h : okRV S l r a b c) (e1 : S'.B = S.B) (e2 : S'.nb = S.nb) : okRV S' l r a b c := by
  unfold okRV okBR at *
  rw [e1, e2]
  exact h
theorem okW_wr {S : aS} {H : List aS} {r f a b c : Int} (h : okW ((0 : Int), S, H)) (hf : 0 ≤ f ∧ f < S.nf) (hr : okRV S S.nl r a b c) : okW (wr S H r f a b c) := by
  unfold wr
  refine cif_i (P := okW) (fun hl => ⟨Inv_addL h.1 hl hf hr, okO_take h.1 h.2⟩) (fun _ => h)
theorem okW_wm {S : aS} {H : List aS} {k l r ru a b : Int} (h : okW ((0 : Int), S, H)) (hF : S.nf < 60 → okF (addF S k l r) S.nf) (hr : okRV S S.nl ru a b (-6)) : okW (wm S H k l r ru a b) := by
  have hI : Inv S := h.1
  unfold wm
  refine cif_i (P := okW) (fun hl => cif_i (P := okW) (fun hm => ⟨?_, okO_take h.1 h.2⟩) (fun _ => h)) (fun _ => h)
  show Inv (addL (mkS S k l r).2 (mkS S k l r).1 ru a b (-6))
  unfold mkS
  by_cases hc : findS S k l r = -6
  · rw [if_pos hc]
    have hlt : S.nf < 60 := by
      rcases hm with z | z
      · exact z
      · exact absurd hc z
    exact Inv_addL (Inv_add hI hlt (hF hlt)) hl ⟨by show (0 : Int) ≤ S.nf; omega, by rw [addF_nf]; show (S.nf : Int) < _; omega⟩ (okRV_cg hr rfl rfl)
  · rw [if_neg hc]
    refine Inv_addL hI hl ?_ hr
    rcases findS_ok S k l r with z | ⟨f, z1, z2, z3⟩
    · exact absurd z hc
    · show 0 ≤ findS S k l r ∧ _
      rw [z1]
      exact ⟨by omega, (show (f : Int) < S.nf by omega)⟩
section
variable {G : xG} {d : Nat} {μ : xM} {Q : xP} {S : aS} {H : List aS} {K : Option aS} {T : aT}
theorem ownF_notP {j : Nat} {q : xI} (h : ownP j q) : ¬ ownF j q := by
  rintro z
  rcases h with rfl | h
  · rcases z with z | z <;> simp at z
  · rcases z with rfl | z
    · simp at h
    · omega
theorem c_wr {r f a b c : Int32} (hc : cS μ S H K T) (hI : Inv S) (h : ∀ (x : Int32) (μ' : xM), x.toInt = (wr S H r.toInt f.toInt a.toInt b.toInt c.toInt).1 → frC μ μ' → cS μ' (wr S H r.toInt f.toInt a.toInt b.toInt c.toInt).2.1 (wr S H r.toInt f.toInt a.toInt b.toInt c.toInt).2.2 K T → Q (some (vI x)) μ') : MW G (d + 5) mX8_write [vR (8, 0, 0), vI r, vI f, vI a, vI b, vI c] μ Q := by
  have hP := hc.1.2
  unfold wr at h
  refine wX8_write (full_ok hP (fun hl => ?_) (fun hl => ?_))
  · rw [cif_f hl] at h
    exact xif_f (by decide) (h _ μ rfl frC.rf hc)
  · rw [cif_t hl] at h
    refine xif_t rfl (record_ok hI.bd hc.1 hc.2.1 fun μ1 e1 r1 => ?_)
    have hP1 : repP μ1 0 S := hP.keep fun q hq => e1 q (ownH_not0 (Or.inr hq))
    refine addLine_ok hP1 hI.bd hl fun x μ2 hx e2 r2 => ?_
    obtain ⟨f1, f2⟩ := hc.upd (μ' := μ2) (S' := addL S f.toInt r.toInt a.toInt b.toInt c.toInt) (H' := (S :: H).take 5) ⟨(hc.1.1.keep (μ' := μ2) fun q hq => by rw [e2 q (fun z => ownF_notP z hq), e1 q (ownH_not0 (Or.inl hq))]), r2⟩ (r1.keep fun q hq => e2 q fun z => ownH_not0 (Or.inr z) hq) (fun q h1 h2 => by rw [e2 q (fun z => h1 (Or.inr z)), e1 q h2])
    exact h x μ2 hx f1 f2
theorem c_wm {k l r ru a b : Int32} (hc : cS μ S H K T) (hI : Inv S) (h : ∀ (x : Int32) (μ' : xM), x.toInt = (wm S H k.toInt l.toInt r.toInt ru.toInt a.toInt b.toInt).1 → frC μ μ' → cS μ' (wm S H k.toInt l.toInt r.toInt ru.toInt a.toInt b.toInt).2.1 (wm S H k.toInt l.toInt r.toInt ru.toInt a.toInt b.toInt).2.2 K T → Q (some (vI x)) μ') : MW G (d + 5) mX8_writeMade [vR (8, 0, 0), vI ru, vI k, vI l, vI r, vI a, vI b] μ Q := by
  have hP := hc.1.2
  have hF := hc.1.1
  unfold wm at h
  refine wX8_writeMade (full_ok hP (fun hl => ?_) (fun hl => ?_))
  · rw [cif_f hl] at h
    exact xif_f (by decide) (h _ μ rfl frC.rf hc)
  · rw [cif_t hl] at h
    refine xif_t rfl (room_ok hF hI.1 (fun hm => xif_f (by decide) ?_) (fun hm => xif_t rfl ?_))
    · rw [cif_t hm] at h
      refine record_ok hI.bd hc.1 hc.2.1 fun μ1 e1 r1 => ?_
      have hF1 : repF μ1 0 S := hF.keep fun q hq => e1 q (ownH_not0 (Or.inl hq))
      refine make_ok hF1 hI.1 hm fun y μ2 hy e2 r2 => ?_
      have hP2 : repP μ2 0 (mkS S k.toInt l.toInt r.toInt).2 := mkS_P (hP.keep fun q hq => by rw [e2 q (ownF_notP hq), e1 q (ownH_not0 (Or.inr hq))])
      have hnl : (mkS S k.toInt l.toInt r.toInt).2.nl = S.nl := by unfold mkS; split <;> rfl
      have hb2 : bdS (mkS S k.toInt l.toInt r.toInt).2 := by
        obtain ⟨b1, b2, b3⟩ := hI.bd
        unfold mkS
        by_cases hcc : findS S k.toInt l.toInt r.toInt = -6
        · rw [if_pos hcc]
          have hlt : S.nf < 60 := by
            rcases hm with z | z
            · exact z
            · exact absurd hcc z
          exact ⟨by rw [addF_nf]; omega, b2, b3⟩
        · rw [if_neg hcc]; exact ⟨b1, b2, b3⟩
      refine addLine_ok hP2 hb2 (by omega) fun x μ3 hx e3 r3 => ?_
      rw [hy, ti_litm6] at r3
      obtain ⟨f1, f2⟩ := hc.upd (μ' := μ3) (S' := addL (mkS S k.toInt l.toInt r.toInt).2 (mkS S k.toInt l.toInt r.toInt).1 ru.toInt a.toInt b.toInt (-6)) (H' := (S :: H).take 5) ⟨(r2.keep (μ' := μ3) fun q hq => by rw [e3 q (fun z => ownF_notP z hq)]), r3⟩ (r1.keep fun q hq => by rw [e3 q fun z => ownH_not0 (Or.inr z) hq, e2 q fun z => ownH_not0 (Or.inl z) hq]) (fun q h1 h2 => by rw [e3 q (fun z => h1 (Or.inr z)), e2 q (fun z => h1 (Or.inl z)), e1 q h2])
      exact h x μ3 (by rw [hx, hnl]) f1 f2
    · rw [cif_f hm] at h
      exact h _ μ rfl frC.rf hc
theorem zC {q : xI} (h : isC q) : q ≠ (1, 0, 20) ∧ q ≠ (1, 0, 21) ∧ q ≠ (9, 0, 0) := by
  refine ⟨?_, ?_, ?_⟩ <;> rintro rfl
  · exact h.2.2.2 ⟨rfl, by simp⟩
  · exact h.2.2.2 ⟨rfl, by simp⟩
  · exact h.1 rfl
theorem m_wr {r f a b c : Int32} (hc : mS μ S H K T) (hI : Inv S) (h : ∀ (x : Int32) (μ' : xM), x.toInt = (wr S H r.toInt f.toInt a.toInt b.toInt c.toInt).1 → frM μ μ' → mS μ' (wr S H r.toInt f.toInt a.toInt b.toInt c.toInt).2.1 (wr S H r.toInt f.toInt a.toInt b.toInt c.toInt).2.2 K T → Q (some (vI x)) μ') : MW G (d + 4) mX9_writeOld [vR (9, 0, 0), vI f, vI r, vI a, vI b, vI c] μ Q := by
  have hR := hc.1
  unfold wr at h
  refine wX9_writeOld (m_full hR hI.2.1 (fun hl => ?_) (fun hl => ?_))
  · rw [cif_f hl] at h
    exact xif_f (by decide) (h _ μ rfl frM.rf hc)
  · rw [cif_t hl] at h
    refine xif_t rfl (mrecord_ok hI.bd hR hc.2.1 fun μ1 e1 f1 r1 => ?_)
    have hR1 : repR (μ1 (1, 0, 20)) S := by rw [e1 _ (by decide) (by decide)]; exact hR
    refine m_write hR1 hI hl fun x μ2 hx e2 r2 => h x μ2 hx (fun q hq => ?_) (hc.upd r2 ?_ ?_ ?_ ?_ ?_)
    · rw [e2 q (zC hq).1, e1 q (zC hq).2.1 (zC hq).2.2]
    · unfold repHM
      rw [e2 (9, 0, 0) (by decide), e2 (1, 0, 21) (by decide)]
      exact r1
    · rw [e2 _ (by decide), e1 _ (by decide) (by decide)]
    · rw [e2 _ (by decide), e1 _ (by decide) (by decide)]
    · rw [e2 _ (by decide), f1 _ (by decide)]
    · rw [e2 _ (by decide), f1 _ (by decide)]
theorem m_wm {k l r ru a b : Int32} (hc : mS μ S H K T) (hI : Inv S) (hF : S.nf < 60 → okF (addF S k.toInt l.toInt r.toInt) S.nf) (h : ∀ (x : Int32) (μ' : xM), x.toInt = (wm S H k.toInt l.toInt r.toInt ru.toInt a.toInt b.toInt).1 → frM μ μ' → mS μ' (wm S H k.toInt l.toInt r.toInt ru.toInt a.toInt b.toInt).2.1 (wm S H k.toInt l.toInt r.toInt ru.toInt a.toInt b.toInt).2.2 K T → Q (some (vI x)) μ') : MW G (d + 4) mX9_writeNew [vR (9, 0, 0), vI k, vI l, vI r, vI ru, vI a, vI b] μ Q := by
  have hR := hc.1
  unfold wm at h
  refine wX9_writeNew (m_full hR hI.2.1 (fun hl => ?_) (fun hl => ?_))
  · rw [cif_f hl] at h
    exact xif_f (by decide) (h _ μ rfl frM.rf hc)
  · rw [cif_t hl] at h
    refine xif_t rfl (m_room hR hI.1 (fun hm => xif_f (by decide) ?_) (fun hm => xif_t rfl ?_))
    · rw [cif_t hm] at h
      refine mrecord_ok hI.bd hR hc.2.1 fun μ1 e1 f1 r1 => ?_
      have hR1 : repR (μ1 (1, 0, 20)) S := by rw [e1 _ (by decide) (by decide)]; exact hR
      refine m_make hR1 hI.bd hm fun y μ2 hy e2 r2 => ?_
      have hnl : (mkS S k.toInt l.toInt r.toInt).2.nl = S.nl := by unfold mkS; split <;> rfl
      have hI2 : Inv (mkS S k.toInt l.toInt r.toInt).2 := by
        unfold mkS
        by_cases hcc : findS S k.toInt l.toInt r.toInt = -6
        · rw [if_pos hcc]
          have hlt : S.nf < 60 := by
            rcases hm with z | z
            · exact z
            · exact absurd hcc z
          exact Inv_add hI hlt (hF hlt)
        · rw [if_neg hcc]; exact hI
      refine m_write r2 hI2 (by omega) fun x μ3 hx e3 r3 => ?_
      rw [hy, ti_litm6] at r3
      refine h x μ3 (by rw [hx, hnl]) (fun q hq => ?_) (hc.upd r3 ?_ ?_ ?_ ?_ ?_)
      · rw [e3 q (zC hq).1, e2 q (zC hq).1, e1 q (zC hq).2.1 (zC hq).2.2]
      · unfold repHM
        rw [e3 (9, 0, 0) (by decide), e3 (1, 0, 21) (by decide), e2 (9, 0, 0) (by decide), e2 (1, 0, 21) (by decide)]
        exact r1
      · rw [e3 _ (by decide), e2 _ (by decide), e1 _ (by decide) (by decide)]
      · rw [e3 _ (by decide), e2 _ (by decide), e1 _ (by decide) (by decide)]
      · rw [e3 _ (by decide), e2 _ (by decide), f1 _ (by decide)]
      · rw [e3 _ (by decide), e2 _ (by decide), f1 _ (by decide)]
    · rw [cif_f hm] at h
      exact h _ μ rfl frM.rf hc
end
end
section
/-! premise, repeat, fromTwo, fromOne, toFormula, fromBox, cases: both sides -/
def cG (μ : xM) (K : Option aS) (T : aT) (Q : xP) (w : aW) : Prop := ∀ (x : Int32) (μ' : xM), x.toInt = w.1 → frC μ μ' → cS μ' w.2.1 w.2.2 K T → Q (some (vI x)) μ'
def mG (μ : xM) (K : Option aS) (T : aT) (Q : xP) (w : aW) : Prop := ∀ (x : Int32) (μ' : xM), x.toInt = w.1 → frM μ μ' → mS μ' w.2.1 w.2.2 K T → Q (some (vI x)) μ'
abbrev vF (S : aS) (x : Int) : Prop := 0 ≤ x ∧ x < S.nf
abbrev vL' (S : aS) (x : Int) : Prop := 0 ≤ x ∧ x < S.nl
abbrev vB (S : aS) (x : Int) : Prop := 0 ≤ x ∧ x < S.nb
noncomputable def sp_premise (S : aS) (H : List aS) (f : Int) : aW := cif (vF S f) (cif (S.inn = -6) (wr S H 0 f (-6) (-6) (-6)) (-3, S, H)) (-1, S, H)
noncomputable def sp_repeat (S : aS) (H : List aS) (l : Int) : aW := cif (vL' S l) (cif (avL S l.toNat) (wr S H 2 (S.L 0 l.toNat) l (-6) (-6)) (-3, S, H)) (-1, S, H)
noncomputable def sp_two' (S : aS) (H : List aS) (r a b A B : Int) : aW := cif (S.F 0 A.toNat = (if r = 9 then 5 else 2)) (cif (S.F 1 A.toNat = B) (cif (r = 9) (wr S H 9 (S.F 2 A.toNat) a b (-6)) (wm S H 1 (-6) (-6) 11 a b)) (-3, S, H)) (-3, S, H)
noncomputable def sp_two (S : aS) (H : List aS) (r a b : Int) : aW := cif (avL S a.toNat) (cif (avL S b.toNat) (cif (r = 3) (wm S H 3 (S.L 0 a.toNat) (S.L 0 b.toNat) 3 a b) (sp_two' S H r a b (S.L 0 a.toNat) (S.L 0 b.toNat))) (-3, S, H)) (-3, S, H)
noncomputable def sp_fromTwo (S : aS) (H : List aS) (r a b : Int) : aW := cif (vL' S a) (cif (vL' S b) (cif (r = 3 ∨ r = 9 ∨ r = 11) (sp_two S H r a b) (-2, S, H)) (-1, S, H)) (-1, S, H)
def fits1 (S : aS) (r : Int) (A : Nat) : Prop := (r = 13 ∧ S.F 0 A = 2 ∧ S.F 0 (S.F 1 A).toNat = 2) ∨ (¬ r = 13 ∧ S.F 0 A = 3)
def tkv (S : aS) (r : Int) (A : Nat) : Int := if r = 13 then S.F 1 (S.F 1 A).toNat else if r = 4 then S.F 1 A else S.F 2 A
noncomputable def sp_one (S : aS) (H : List aS) (r l : Int) : aW := cif (avL S l.toNat ∧ fits1 S r (S.L 0 l.toNat).toNat) (wr S H r (tkv S r (S.L 0 l.toNat).toNat) l (-6) (-6)) (-3, S, H)
noncomputable def sp_fromOne (S : aS) (H : List aS) (r l : Int) : aW := cif (vL' S l) (cif (r = 4 ∨ r = 5 ∨ r = 13) (sp_one S H r l) (-2, S, H)) (-1, S, H)
def fitsT (S : aS) (r A f : Int) : Prop := (r = 6 ∧ S.F 0 f.toNat = 4 ∧ (S.F 1 f.toNat = A ∨ S.F 2 f.toNat = A)) ∨ (¬ r = 6 ∧ S.F 0 A.toNat = 1)
noncomputable def sp_toF (S : aS) (H : List aS) (r l f : Int) : aW := cif (avL S l.toNat ∧ fitsT S r (S.L 0 l.toNat) f) (wr S H r f l (-6) (-6)) (-3, S, H)
noncomputable def sp_toFormula (S : aS) (H : List aS) (r l f : Int) : aW := cif (vL' S l) (cif (vF S f) (cif (r = 6 ∨ r = 12) (sp_toF S H r l f) (-2, S, H)) (-1, S, H)) (-1, S, H)
abbrev asm (S : aS) (b : Nat) : Int := S.L 0 (S.B 0 b).toNat
abbrev con (S : aS) (b : Nat) : Int := S.L 0 (S.B 1 b).toNat
noncomputable def sp_box (S : aS) (H : List aS) (r b : Int) : aW := cif (avB S b.toNat) (cif (r = 8) (wm S H 5 (asm S b.toNat) (con S b.toNat) 8 b (-6)) (cif (S.F 0 (con S b.toNat).toNat = 1) (wm S H 2 (asm S b.toNat) (-6) 10 b (-6)) (-3, S, H))) (-3, S, H)
noncomputable def sp_fromBox (S : aS) (H : List aS) (r b : Int) : aW := cif (vB S b) (cif (r = 8 ∨ r = 10) (sp_box S H r b) (-2, S, H)) (-1, S, H)
def fitsC (S : aS) (A : Nat) (a b : Nat) : Prop := S.F 0 A = 4 ∧ S.F 1 A = asm S a ∧ S.F 2 A = asm S b ∧ con S a = con S b
noncomputable def sp_cases (S : aS) (H : List aS) (l a b : Int) : aW := cif (vL' S l) (cif (vB S a) (cif (vB S b) (cif (avL S l.toNat ∧ avB S a.toNat ∧ avB S b.toNat ∧ fitsC S (S.L 0 l.toNat).toNat a.toNat b.toNat) (wr S H 7 (con S a.toNat) l a b) (-3, S, H)) (-1, S, H)) (-1, S, H)) (-1, S, H)
theorem Inv.lf {S : aS} (h : Inv S) {l : Nat} (hl : l < S.nl) : ∃ A : Nat, S.L 0 l = A ∧ A < S.nf := ⟨(S.L 0 l).toNat, by have := (h.2.2.2.2.2.1 l hl).1; omega, by have := (h.2.2.2.2.2.1 l hl).1; have := (h.2.2.2.2.2.1 l hl).2.1; omega⟩
theorem Inv.fl {S : aS} (h : Inv S) {f : Nat} (hf : f < S.nf) (hk : 2 ≤ S.F 0 f) : ∃ A : Nat, S.F 1 f = A ∧ A < f := by
  rcases h.2.2.2.2.1 f hf with z | z | z | z
  · omega
  · omega
  · exact ⟨(S.F 1 f).toNat, by omega, by omega⟩
  · exact ⟨(S.F 1 f).toNat, by omega, by omega⟩
theorem Inv.fr {S : aS} (h : Inv S) {f : Nat} (hf : f < S.nf) (hk : 3 ≤ S.F 0 f) : ∃ A : Nat, S.F 2 f = A ∧ A < f := by
  rcases h.2.2.2.2.1 f hf with z | z | z | z
  · omega
  · omega
  · omega
  · exact ⟨(S.F 2 f).toNat, by omega, by omega⟩
theorem Inv.bs {S : aS} (h : Inv S) {b : Nat} (hb : b < S.nb) : ∃ l : Nat, S.B 0 b = l ∧ l < S.nl := by
  obtain ⟨dp, h7⟩ := h.2.2.2.2.2.2.1
  have := h7 b hb
  exact ⟨(S.B 0 b).toNat, by have := this.1; omega, by have h1 := this.1; have h2 := this.2.1; omega⟩
theorem Inv.be {S : aS} (h : Inv S) {b : Nat} (hb : b < S.nb) (hc : ¬ S.B 1 b = -6) : ∃ l : Nat, S.B 1 b = l ∧ l < S.nl := by
  obtain ⟨dp, h7⟩ := h.2.2.2.2.2.2.1
  obtain ⟨a1, a2, a3, a4, -⟩ := h7 b hb
  rcases a4 with z | z
  · exact absurd z hc
  · exact ⟨(S.B 1 b).toNat, by omega, by omega⟩
section
variable {G : xG} {d : Nat} {μ : xM} {Q : xP} {S : aS} {H : List aS} {K : Option aS} {T : aT}
theorem c_F {c : Nat} {x : Int32} {k : Nat} (hr : repF μ 0 S) (hb : S.nf ≤ 60) (hc : c < 3) (hx : x.toInt = k) (hk : k < S.nf) (h : ∀ y : Int32, y.toInt = S.F c k → Q (some (vI y)) μ) : MW G (d + 1) mX5_get [vR (0, 0, c), vI x] μ Q := by
  refine get_in hx ?_ (h _ (hr.2 c hc k hk))
  rcases (show c = 0 ∨ c = 1 ∨ c = 2 by omega) with rfl | rfl | rfl <;> simp [xlenc] <;> omega
theorem kind_ok {x n : Int32} {k : Nat} (hr : repF μ 0 S) (hb : S.nf ≤ 60) (hx : x.toInt = k) (hk : k < S.nf) (ht : S.F 0 k = n.toInt → Q (some (vI 1)) μ) (hf : ¬ S.F 0 k = n.toInt → Q (some (vI 0)) μ) : MW G (d + 2) mX2_isOfKind [vR (2, 0, 0), vI x, vI n] μ Q := by
  refine wX2_isOfKind (c_F hr hb (by omega) hx hk fun y hy => xif_c (fun c1 => ⟨z11, ht ?_⟩) (fun c1 => ⟨z01, hf ?_⟩))
  · rw [ti_eq, hy] at c1; exact c1
  · rw [ti_eq, hy] at c1; exact c1
theorem c_premise (a : Int32) (hc : cS μ S H K T) (hI : Inv S) (h : cG μ K T Q (sp_premise S H a.toInt)) : MW G 8 mX8_premise [vR (8, 0, 0), vI a] μ Q := by
  unfold sp_premise at h
  refine wX8_premise (has_ok hc.1.1 (fun k h1 h2 => xif_f (by decide) ?_) fun z => xif_t rfl ?_)
  · rw [cif_t ⟨by omega, by omega⟩] at h
    refine xif_c (fun c1 => ?_) (fun c1 => ?_)
    · rw [ti_eq, hc.1.2.2.2.1, ti_litm6] at c1
      rw [cif_t c1] at h
      exact c_wr hc hI h
    · rw [ti_eq, hc.1.2.2.2.1, ti_litm6] at c1
      rw [cif_f c1] at h
      exact h _ μ rfl frC.rf hc
  · rw [cif_f z] at h
    exact h _ μ rfl frC.rf hc
theorem m_premise (a : Int32) (hc : mS μ S H K T) (hI : Inv S) (h : mG μ K T Q (sp_premise S H a.toInt)) : MW G 8 mX9_premise [vR (9, 0, 0), vI a] μ Q := by
  unfold sp_premise at h
  refine wX9_premise (m_isF hc.1 (fun k h1 h2 => xif_f (by decide) ?_) fun z => xif_t rfl ?_)
  · rw [cif_t ⟨by omega, by omega⟩] at h
    refine m_latest hc.1 hI.bd.2.2 fun x hx => xif_c (fun c1 => ?_) (fun c1 => ?_)
    · rw [ti_eq, hx, ← hI.2.2.2.1, ti_litm6] at c1
      rw [cif_t c1] at h
      exact m_wr hc hI h
    · rw [ti_eq, hx, ← hI.2.2.2.1, ti_litm6] at c1
      rw [cif_f c1] at h
      exact h _ μ rfl frM.rf hc
  · rw [cif_f z] at h
    exact h _ μ rfl frM.rf hc
theorem c_repeat (a : Int32) (hc : cS μ S H K T) (hI : Inv S) (h : cG μ K T Q (sp_repeat S H a.toInt)) : MW G 8 mX8_repeat [vR (8, 0, 0), vI a] μ Q := by
  have hP := hc.1.2
  unfold sp_repeat at h
  refine wX8_repeat (hasL_ok hP (fun k h1 h2 => xif_f (by decide) ?_) fun z => xif_t rfl ?_)
  · rw [cif_t ⟨by omega, by omega⟩] at h
    have hk : a.toInt.toNat = k := by omega
    rw [hk] at h
    refine avL_ok hP hI h1 h2 (fun c1 => xif_f (by decide) ?_) (fun c1 => xif_t rfl ?_)
    · rw [cif_t c1] at h
      refine c_lf hP hI.2.1 h1 h2 fun x hx => ?_
      rw [← hx] at h
      exact c_wr hc hI h
    · rw [cif_f c1] at h
      exact h _ μ rfl frC.rf hc
  · rw [cif_f z] at h
    exact h _ μ rfl frC.rf hc
theorem m_repeat (a : Int32) (hc : mS μ S H K T) (hI : Inv S) (h : mG μ K T Q (sp_repeat S H a.toInt)) : MW G 8 mX9_repeat [vR (9, 0, 0), vI a] μ Q := by
  have hR := hc.1
  unfold sp_repeat at h
  refine wX9_repeat (m_isL hR (fun k h1 h2 => xif_f (by decide) ?_) fun z => xif_t rfl ?_)
  · rw [cif_t ⟨by omega, by omega⟩] at h
    have hk : a.toInt.toNat = k := by omega
    rw [hk] at h
    refine m_avL hR hI h1 h2 (fun c1 => xif_f (by decide) ?_) (fun c1 => xif_t rfl ?_)
    · rw [cif_t c1] at h
      refine m_lf hR hI.2.1 h1 h2 fun x hx => ?_
      rw [← hx] at h
      exact m_wr hc hI h
    · rw [cif_f c1] at h
      exact h _ μ rfl frM.rf hc
  · rw [cif_f z] at h
    exact h _ μ rfl frM.rf hc
theorem c_fromTwo (r a b : Int32) (hc : cS μ S H K T) (hI : Inv S) (h : cG μ K T Q (sp_fromTwo S H r.toInt a.toInt b.toInt)) : MW G 8 mX8_fromTwo [vR (8, 0, 0), vI r, vI a, vI b] μ Q := by
  have hP := hc.1.2
  have hF := hc.1.1
  have e3 : (3 : Int32).toInt = 3 := rfl
  have e9 : (9 : Int32).toInt = 9 := rfl
  have e11 : (11 : Int32).toInt = 11 := rfl
  have J2 : ∀ (Z : xZ) (n x y : Int32) (A : Nat), x.toInt = A → A < S.nf → n.toInt = (if r.toInt = 9 then 5 else 2) → cG μ K T Q (sp_two' S H r.toInt a.toInt b.toInt x.toInt y.toInt) → WS G eX8_fromTwo 8 Z Q 142 [vR (8, 0, 0), vI r, vI a, vI b, vI x, vI y, vN] [vI n] μ := by
    intro Z n x y A hA hA2 hn h
    unfold sp_two' at h
    have hx : x.toInt.toNat = A := by omega
    rw [hx] at h
    refine wX8_fromTwo_142 (kind_ok hF hI.1 hA hA2 (fun c1 => xif_f (by decide) ?_) (fun c1 => xif_t rfl ?_))
    · rw [hn] at c1
      rw [cif_t c1] at h
      have hge : 2 ≤ S.F 0 A := by rw [c1]; split <;> omega
      refine c_F hF hI.1 (by omega) hA hA2 fun w hw => xif_c (fun c2 => ?_) (fun c2 => ?_)
      · rw [ti_eq, hw] at c2
        rw [cif_t c2] at h
        refine xif_c (fun c3 => ?_) (fun c3 => ?_)
        · rw [ti_eq, e9] at c3
          rw [cif_t c3] at h
          refine c_F hF hI.1 (by omega) hA hA2 fun v hv => ?_
          rw [← hv] at h
          exact c_wr hc hI h
        · rw [ti_eq, e9] at c3
          rw [cif_f c3] at h
          exact c_wm hc hI h
      · rw [ti_eq, hw] at c2
        rw [cif_f c2] at h
        exact h _ μ rfl frC.rf hc
    · rw [hn] at c1
      rw [cif_f c1] at h
      exact h _ μ rfl frC.rf hc
  have J : ∀ (Z : xZ) (i j : Nat), a.toInt = i → i < S.nl → b.toInt = j → j < S.nl → cG μ K T Q (sp_two S H r.toInt a.toInt b.toInt) → WS G eX8_fromTwo 8 Z Q 50 [vR (8, 0, 0), vI r, vI a, vI b, vN, vN, vN] [] μ := by
    intro Z i j ha ha2 hb hb2 h
    unfold sp_two at h
    have hi : a.toInt.toNat = i := by omega
    have hj : b.toInt.toNat = j := by omega
    rw [hi, hj] at h
    refine wX8_fromTwo_50 (avL_ok hP hI ha ha2 (fun c1 => xif_f (by decide) (avL_ok hP hI hb hb2 (fun c2 => xif_f (by decide) ?_) (fun c2 => xif_t rfl ?_))) (fun c1 => xif_t rfl ?_))
    · rw [cif_t c1, cif_t c2] at h
      obtain ⟨A, hA, hA2⟩ := hI.lf ha2
      refine c_lf hP hI.2.1 ha ha2 fun x hx => c_lf hP hI.2.1 hb hb2 fun y hy => xif_c (fun c3 => ?_) (fun c3 => ?_)
      · rw [ti_eq, e3] at c3
        rw [cif_t c3, ← hx, ← hy] at h
        exact c_wm hc hI h
      · rw [ti_eq, e3] at c3
        rw [cif_f c3, ← hx, ← hy] at h
        refine xif_c (fun c4 => J2 Z _ x y A (by rw [hx, hA]) hA2 ?_ h) (fun c4 => J2 Z _ x y A (by rw [hx, hA]) hA2 ?_ h)
        · rw [ti_eq, e9] at c4; rw [if_pos c4]; rfl
        · rw [ti_eq, e9] at c4; rw [if_neg c4]; rfl
    · rw [cif_t c1, cif_f c2] at h
      exact h _ μ rfl frC.rf hc
    · rw [cif_f c1] at h
      exact h _ μ rfl frC.rf hc
  unfold sp_fromTwo at h
  refine wX8_fromTwo fun Z => hasL_ok hP (fun k h1 h2 => xif_f (by decide) (hasL_ok hP (fun k' h3 h4 => xif_f (by decide) ?_) fun z => xif_t rfl ?_)) fun z => xif_t rfl ?_
  · rw [cif_t ⟨by omega, by omega⟩, cif_t ⟨by omega, by omega⟩] at h
    refine xif_c (fun c1 => J Z k k' h1 h2 h3 h4 ?_) (fun c1 => xif_c (fun c2 => J Z k k' h1 h2 h3 h4 ?_) (fun c2 => xif_c (fun c3 => J Z k k' h1 h2 h3 h4 ?_) (fun c3 => ?_)))
    · rw [ti_eq, e3] at c1; rw [cif_t (Or.inl c1)] at h; exact h
    · rw [ti_eq, e9] at c2; rw [cif_t (Or.inr (Or.inl c2))] at h; exact h
    · rw [ti_eq, e11] at c3; rw [cif_t (Or.inr (Or.inr c3))] at h; exact h
    · rw [ti_eq, e3] at c1; rw [ti_eq, e9] at c2; rw [ti_eq, e11] at c3
      rw [cif_f (by omega)] at h
      exact h _ μ rfl frC.rf hc
  · rw [cif_t ⟨by omega, by omega⟩, cif_f z] at h
    exact h _ μ rfl frC.rf hc
  · rw [cif_f z] at h
    exact h _ μ rfl frC.rf hc
theorem okF_n {S : aS} {k a b : Int} (h : (k = 0 ∧ 0 ≤ a ∧ a ≤ 7 ∧ b = -6) ∨ (k = 1 ∧ a = -6 ∧ b = -6) ∨ (k = 2 ∧ 0 ≤ a ∧ a < S.nf ∧ b = -6) ∨ (3 ≤ k ∧ k ≤ 5 ∧ 0 ≤ a ∧ a < S.nf ∧ 0 ≤ b ∧ b < S.nf)) : okF (addF S k a b) S.nf := by
  unfold okF
  simp only [addF_F, if_true]
  simpa using h
theorem m_fromTwo (r a b : Int32) (hc : mS μ S H K T) (hI : Inv S) (h : mG μ K T Q (sp_fromTwo S H r.toInt a.toInt b.toInt)) : MW G 8 mX9_fromTwo [vR (9, 0, 0), vI r, vI a, vI b] μ Q := by
  have hR := hc.1
  have e3 : (3 : Int32).toInt = 3 := rfl
  have e9 : (9 : Int32).toInt = 9 := rfl
  have e11 : (11 : Int32).toInt = 11 := rfl
  have J2 : ∀ (Z : xZ) (n x y w : Int32) (A : Nat), x.toInt = A → A < S.nf → n.toInt = (if r.toInt = 9 then 5 else 2) → w.toInt = S.F 0 A → mG μ K T Q (sp_two' S H r.toInt a.toInt b.toInt x.toInt y.toInt) → WS G eX9_fromTwo 8 Z Q 106 [vR (9, 0, 0), vI r, vI a, vI b, vI x, vI y] [vI n, vI w] μ := by
    intro Z n x y w A hA hA2 hn hw h
    unfold sp_two' at h
    have hx : x.toInt.toNat = A := by omega
    rw [hx] at h
    refine wX9_fromTwo_106 (xif_c (fun c1 => ?_) (fun c1 => ?_))
    · rw [ti_eq, hw, hn] at c1
      rw [cif_t c1] at h
      refine m_left hR hI.1 hA hA2 fun v hv => xif_c (fun c2 => ?_) (fun c2 => ?_)
      · rw [ti_eq, hv] at c2
        rw [cif_t c2] at h
        refine xif_c (fun c3 => ?_) (fun c3 => ?_)
        · rw [ti_eq, e9] at c3
          rw [cif_t c3] at h
          refine m_right hR hI.1 hA hA2 fun u hu => ?_
          rw [← hu] at h
          exact m_wr hc hI h
        · rw [ti_eq, e9] at c3
          rw [cif_f c3] at h
          exact m_wm hc hI (fun _ => okF_n (Or.inr (Or.inl ⟨rfl, rfl, rfl⟩))) h
      · rw [ti_eq, hv] at c2
        rw [cif_f c2] at h
        exact h _ μ rfl frM.rf hc
    · rw [ti_eq, hw, hn] at c1
      rw [cif_f c1] at h
      exact h _ μ rfl frM.rf hc
  have J : ∀ (Z : xZ) (i j : Nat), a.toInt = i → i < S.nl → b.toInt = j → j < S.nl → mG μ K T Q (sp_two S H r.toInt a.toInt b.toInt) → WS G eX9_fromTwo 8 Z Q 38 [vR (9, 0, 0), vI r, vI a, vI b, vN, vN] [] μ := by
    intro Z i j ha ha2 hb hb2 h
    unfold sp_two at h
    have hi : a.toInt.toNat = i := by omega
    have hj : b.toInt.toNat = j := by omega
    rw [hi, hj] at h
    refine wX9_fromTwo_38 (m_avL hR hI ha ha2 (fun c1 => xif_f (by decide) (m_avL hR hI hb hb2 (fun c2 => xif_f (by decide) ?_) (fun c2 => xif_t rfl ?_))) (fun c1 => xif_t rfl ?_))
    · rw [cif_t c1, cif_t c2] at h
      obtain ⟨A, hA, hA2⟩ := hI.lf ha2
      obtain ⟨B, hB, hB2⟩ := hI.lf hb2
      refine m_lf hR hI.2.1 ha ha2 fun x hx => m_lf hR hI.2.1 hb hb2 fun y hy => xif_c (fun c3 => ?_) (fun c3 => ?_)
      · rw [ti_eq, e3] at c3
        rw [cif_t c3, ← hx, ← hy] at h
        exact m_wm hc hI (fun _ => okF_n (Or.inr (Or.inr (Or.inr ⟨by decide, by decide, by omega, by omega, by omega, by omega⟩)))) h
      · rw [ti_eq, e3] at c3
        rw [cif_f c3, ← hx, ← hy] at h
        refine m_kind hR hI.1 (show x.toInt = A by rw [hx, hA]) hA2 fun w hw => xif_c (fun c4 => J2 Z _ x y w A (by rw [hx, hA]) hA2 ?_ hw h) (fun c4 => J2 Z _ x y w A (by rw [hx, hA]) hA2 ?_ hw h)
        · rw [ti_eq, e9] at c4; rw [if_pos c4]; rfl
        · rw [ti_eq, e9] at c4; rw [if_neg c4]; rfl
    · rw [cif_t c1, cif_f c2] at h
      exact h _ μ rfl frM.rf hc
    · rw [cif_f c1] at h
      exact h _ μ rfl frM.rf hc
  unfold sp_fromTwo at h
  refine wX9_fromTwo fun Z => m_isL hR (fun k h1 h2 => xif_f (by decide) (m_isL hR (fun k' h3 h4 => xif_f (by decide) ?_) fun z => xif_t rfl ?_)) fun z => xif_t rfl ?_
  · rw [cif_t ⟨by omega, by omega⟩, cif_t ⟨by omega, by omega⟩] at h
    refine xif_c (fun c1 => J Z k k' h1 h2 h3 h4 ?_) (fun c1 => xif_c (fun c2 => J Z k k' h1 h2 h3 h4 ?_) (fun c2 => xif_c (fun c3 => J Z k k' h1 h2 h3 h4 ?_) (fun c3 => ?_)))
    · rw [ti_eq, e3] at c1; rw [cif_t (Or.inl c1)] at h; exact h
    · rw [ti_eq, e9] at c2; rw [cif_t (Or.inr (Or.inl c2))] at h; exact h
    · rw [ti_eq, e11] at c3; rw [cif_t (Or.inr (Or.inr c3))] at h; exact h
    · rw [ti_eq, e3] at c1; rw [ti_eq, e9] at c2; rw [ti_eq, e11] at c3
      rw [cif_f (by omega)] at h
      exact h _ μ rfl frM.rf hc
  · rw [cif_t ⟨by omega, by omega⟩, cif_f z] at h
    exact h _ μ rfl frM.rf hc
  · rw [cif_f z] at h
    exact h _ μ rfl frM.rf hc
theorem opG {D1 D2 : xD} {args : List xV} (w : aW) (hw : okW ((0 : Int), S, H) → okW w) (ok : okO ((0 : Int), S, H, K, T)) (c : ∀ (μ : xM) (Q : xP), cS μ S H K T → Inv S → cG μ K T Q w → MW G 8 D1 (vR (8, 0, 0) :: args) μ Q) (m : ∀ (μ : xM) (Q : xP), mS μ S H K T → Inv S → mG μ K T Q w → MW G 8 D2 (vR (9, 0, 0) :: args) μ Q) : ∃ o : aO, cOp G D1 args S H K T o ∧ mOp G D2 args S H K T o ∧ okO o := by
  have h1 := hw ⟨ok.1, ok.2.1⟩
  exact ⟨(w.1, w.2.1, w.2.2, K, T), fun μ Q hc h => c μ Q hc ok.1 h, fun μ Q hc h => m μ Q hc ok.1 h, h1.1, h1.2, ok.2.2.1, ok.2.2.2⟩
theorem op_premise (a : Int32) (ok : okO ((0 : Int), S, H, K, T)) : ∃ o : aO, cOp G mX8_premise [vI a] S H K T o ∧ mOp G mX9_premise [vI a] S H K T o ∧ okO o :=
  opG (sp_premise S H a.toInt) (fun hw => cif_i (P := okW) (fun h1 => cif_i (P := okW) (fun h2 => okW_wr hw h1 (Or.inl ⟨Or.inl rfl, rfl, rfl, rfl⟩)) fun _ => hw) fun _ => hw) ok (fun μ Q hc hI h => c_premise a hc hI h) (fun μ Q hc hI h => m_premise a hc hI h)
theorem op_repeat (a : Int32) (ok : okO ((0 : Int), S, H, K, T)) : ∃ o : aO, cOp G mX8_repeat [vI a] S H K T o ∧ mOp G mX9_repeat [vI a] S H K T o ∧ okO o :=
  opG (sp_repeat S H a.toInt) (fun hw => cif_i (P := okW) (fun h1 => cif_i (P := okW) (fun h2 => okW_wr hw (by
    obtain ⟨A, hA, hA2⟩ := Inv.lf (show Inv S from hw.1) (l := a.toInt.toNat) (by have := h1.1; have := h1.2; omega)
    rw [hA]; omega) (Or.inr (Or.inr (Or.inl ⟨Or.inl rfl, h1, rfl, rfl⟩)))) fun _ => hw) fun _ => hw) ok (fun μ Q hc hI h => c_repeat a hc hI h) (fun μ Q hc hI h => m_repeat a hc hI h)
theorem op_fromTwo (r a b : Int32) (ok : okO ((0 : Int), S, H, K, T)) : ∃ o : aO, cOp G mX8_fromTwo [vI r, vI a, vI b] S H K T o ∧ mOp G mX9_fromTwo [vI r, vI a, vI b] S H K T o ∧ okO o := by
  have hI : Inv S := ok.1
  refine opG (sp_fromTwo S H r.toInt a.toInt b.toInt) (fun hw => cif_i (P := okW) (fun h1 => cif_i (P := okW) (fun h2 => cif_i (P := okW) (fun h3 => cif_i (P := okW) (fun h4 => cif_i (P := okW) (fun h5 => cif_i (P := okW) (fun h6 => ?_) fun h6 => cif_i (P := okW) (fun h7 => cif_i (P := okW) (fun h8 => cif_i (P := okW) (fun h9 => ?_) fun h9 => ?_) fun _ => hw) fun _ => hw) fun _ => hw) fun _ => hw) fun _ => hw) fun _ => hw) fun _ => hw) ok (fun μ Q hc hI h => c_fromTwo r a b hc hI h) (fun μ Q hc hI h => m_fromTwo r a b hc hI h)
  all_goals
    obtain ⟨A, hA, hA2⟩ := hI.lf (l := a.toInt.toNat) (by have := h1.1; have := h1.2; omega)
    obtain ⟨B, hB, hB2⟩ := hI.lf (l := b.toInt.toNat) (by have := h2.1; have := h2.2; omega)
  · exact okW_wm hw (fun _ => okF_n (Or.inr (Or.inr (Or.inr ⟨by decide, by decide, by omega, by omega, by omega, by omega⟩)))) (Or.inr (Or.inl ⟨Or.inl rfl, h1, h2, rfl⟩))
  · rw [hA] at h7 ⊢
    rw [if_pos h9] at h7
    have h7 : S.F 0 A = 5 := h7
    obtain ⟨C, hC, hC2⟩ := hI.fr hA2 (by omega)
    exact okW_wr hw (by show 0 ≤ S.F 2 A ∧ S.F 2 A < _; omega) (Or.inr (Or.inl ⟨Or.inr (Or.inl rfl), h1, h2, rfl⟩))
  · exact okW_wm hw (fun _ => okF_n (Or.inr (Or.inl ⟨rfl, rfl, rfl⟩))) (Or.inr (Or.inl ⟨Or.inr (Or.inr rfl), h1, h2, rfl⟩))
end
end
section
/-! fromOne, toFormula, fromBox, cases: both sides -/
section
variable {G : xG} {d : Nat} {μ : xM} {Q : xP} {S : aS} {H : List aS} {K : Option aS} {T : aT}
theorem taken_ok {r x : Int32} {A : Nat} (hr : repF μ 0 S) (hI : Inv S) (hx : x.toInt = A) (hA : A < S.nf) (ht : fits1 S r.toInt A → ∀ y : Int32, y.toInt = tkv S r.toInt A → ¬ y = -6 → Q (some (vI y)) μ) (hf : ¬ fits1 S r.toInt A → Q (some (vI (-6))) μ) : MW G (d + 3) mX2_takenOut [vR (2, 0, 0), vI r, vI x] μ Q := by
  have e13 : (13 : Int32).toInt = 13 := rfl
  have e2 : (2 : Int32).toInt = 2 := rfl
  have e3 : (3 : Int32).toInt = 3 := rfl
  have e4 : (4 : Int32).toInt = 4 := rfl
  have hb := hI.1
  refine wX2_takenOut (xif_c (fun c1 => ?_) (fun c1 => ?_))
  · rw [ti_eq, e13] at c1
    refine kind_ok hr hb hx hA (fun c2 => xif_f (by decide) ?_) (fun c2 => xif_t rfl ?_)
    · rw [e2] at c2
      obtain ⟨B, hB, hB2⟩ := hI.fl hA (by omega)
      refine c_F hr hb (by omega) hx hA fun y hy => ?_
      rw [hB] at hy
      refine kind_ok hr hb hy (by omega) (fun c3 => xif_f (by decide) ?_) (fun c3 => xif_t rfl (hf ?_))
      · rw [e2] at c3
        obtain ⟨C, hC, hC2⟩ := hI.fl (f := B) (by omega) (by omega)
        refine c_F hr hb (by omega) hy (by omega) fun w hw => ht (Or.inl ⟨c1, c2, by rw [hB]; exact c3⟩) w ?_ ?_
        · rw [tkv, if_pos c1, hB, hw]; rfl
        · rw [ti_eq, hw, hC, ti_litm6]; omega
      · rw [e2] at c3
        rintro (z | z)
        · rw [hB] at z; exact c3 z.2.2
        · exact z.1 c1
    · rw [e2] at c2
      refine wX2_isOfKind (get_out (Or.inl (by decide)) (xif_f (by decide) ⟨z01, xif_t rfl (hf ?_)⟩))
      rintro (z | z)
      · exact c2 z.2.1
      · exact z.1 c1
  · rw [ti_eq, e13] at c1
    refine kind_ok hr hb hx hA (fun c2 => xif_f (by decide) ?_) (fun c2 => xif_t rfl (hf ?_))
    · rw [e3] at c2
      have hfit : fits1 S r.toInt A := Or.inr ⟨c1, c2⟩
      obtain ⟨B, hB, hB2⟩ := hI.fl hA (by omega)
      obtain ⟨C, hC, hC2⟩ := hI.fr hA (by omega)
      refine xif_c (fun c3 => ?_) (fun c3 => ?_)
      · rw [ti_eq, e4] at c3
        refine c_F hr hb (by omega) hx hA fun w hw => ht hfit w ?_ ?_
        · rw [tkv, if_neg c1, if_pos c3, hw]
        · rw [ti_eq, hw, hB, ti_litm6]; omega
      · rw [ti_eq, e4] at c3
        refine c_F hr hb (by omega) hx hA fun w hw => ht hfit w ?_ ?_
        · rw [tkv, if_neg c1, if_neg c3, hw]
        · rw [ti_eq, hw, hC, ti_litm6]; omega
    · rw [e3] at c2
      rintro (z | z)
      · exact c1 z.1
      · exact c2 z.2
theorem c_fromOne (r a : Int32) (hc : cS μ S H K T) (hI : Inv S) (h : cG μ K T Q (sp_fromOne S H r.toInt a.toInt)) : MW G 8 mX8_fromOne [vR (8, 0, 0), vI r, vI a] μ Q := by
  have hP := hc.1.2
  have hF := hc.1.1
  have e4 : (4 : Int32).toInt = 4 := rfl
  have e5 : (5 : Int32).toInt = 5 := rfl
  have e13 : (13 : Int32).toInt = 13 := rfl
  have J : ∀ (Z : xZ) (i : Nat), a.toInt = i → i < S.nl → cG μ K T Q (sp_one S H r.toInt a.toInt) → WS G eX8_fromOne 8 Z Q 35 [vR (8, 0, 0), vI r, vI a, vN] [] μ := by
    intro Z i ha ha2 h
    unfold sp_one at h
    have hi : a.toInt.toNat = i := by omega
    rw [hi] at h
    obtain ⟨A, hA, hA2⟩ := hI.lf ha2
    have hA' : (S.L 0 i).toNat = A := by omega
    rw [hA'] at h
    refine wX8_fromOne_35 (avL_ok hP hI ha ha2 (fun c1 => xif_f (by decide) ?_) (fun c1 => xif_t rfl ?_))
    · refine c_lf hP hI.2.1 ha ha2 fun x hx => taken_ok hF hI (by rw [hx, hA]) hA2 (fun c2 y hy hn => xif_f hn ?_) (fun c2 => xif_t rfl ?_)
      · rw [cif_t ⟨c1, c2⟩, ← hy] at h
        exact c_wr hc hI h
      · rw [cif_f (fun z => c2 z.2)] at h
        exact h _ μ rfl frC.rf hc
    · rw [cif_f (fun z => c1 z.1)] at h
      exact h _ μ rfl frC.rf hc
  unfold sp_fromOne at h
  refine wX8_fromOne fun Z => hasL_ok hP (fun k h1 h2 => xif_f (by decide) ?_) fun z => xif_t rfl ?_
  · rw [cif_t ⟨by omega, by omega⟩] at h
    refine xif_c (fun c1 => J Z k h1 h2 ?_) (fun c1 => xif_c (fun c2 => J Z k h1 h2 ?_) (fun c2 => xif_c (fun c3 => J Z k h1 h2 ?_) (fun c3 => ?_)))
    · rw [ti_eq, e4] at c1; rw [cif_t (Or.inl c1)] at h; exact h
    · rw [ti_eq, e5] at c2; rw [cif_t (Or.inr (Or.inl c2))] at h; exact h
    · rw [ti_eq, e13] at c3; rw [cif_t (Or.inr (Or.inr c3))] at h; exact h
    · rw [ti_eq, e4] at c1; rw [ti_eq, e5] at c2; rw [ti_eq, e13] at c3
      rw [cif_f (by omega)] at h
      exact h _ μ rfl frC.rf hc
  · rw [cif_f z] at h
    exact h _ μ rfl frC.rf hc
theorem m_fromOne (r a : Int32) (hc : mS μ S H K T) (hI : Inv S) (h : mG μ K T Q (sp_fromOne S H r.toInt a.toInt)) : MW G 8 mX9_fromOne [vR (9, 0, 0), vI r, vI a] μ Q := by
  have hR := hc.1
  have e2 : (2 : Int32).toInt = 2 := rfl
  have e3 : (3 : Int32).toInt = 3 := rfl
  have e4 : (4 : Int32).toInt = 4 := rfl
  have e5 : (5 : Int32).toInt = 5 := rfl
  have e13 : (13 : Int32).toInt = 13 := rfl
  have J : ∀ (Z : xZ) (i : Nat), a.toInt = i → i < S.nl → (r.toInt = 4 ∨ r.toInt = 5 ∨ r.toInt = 13) → mG μ K T Q (sp_one S H r.toInt a.toInt) → WS G eX9_fromOne 8 Z Q 29 [vR (9, 0, 0), vI r, vI a, vN, vN] [] μ := by
    intro Z i ha ha2 hrr h
    unfold sp_one at h
    have hi : a.toInt.toNat = i := by omega
    rw [hi] at h
    obtain ⟨A, hA, hA2⟩ := hI.lf ha2
    have hA' : (S.L 0 i).toNat = A := by omega
    rw [hA'] at h
    have J0 : ∀ x : Int32, ¬ fits1 S r.toInt A → WS G eX9_fromOne 8 Z Q 85 [vR (9, 0, 0), vI r, vI a, vI x, vN] [vI 0] μ := by
      intro x hn
      rw [cif_f (fun z => hn z.2)] at h
      exact wX9_fromOne_85 (xif_t rfl (h _ μ rfl frM.rf hc))
    have J1 : ∀ x : Int32, x.toInt = A → fits1 S r.toInt A → WS G eX9_fromOne 8 Z Q 85 [vR (9, 0, 0), vI r, vI a, vI x, vN] [vI 1] μ := by
      intro x hx hfit
      refine wX9_fromOne_85 (xif_f (by decide) (m_avL hR hI ha ha2 (fun c1 => xif_f (by decide) ?_) (fun c1 => xif_t rfl ?_)))
      · rw [cif_t ⟨c1, hfit⟩] at h
        refine xif_c (fun c2 => ?_) (fun c2 => xif_c (fun c3 => ?_) (fun c3 => ?_))
        · rw [ti_eq, e4] at c2
          refine m_left hR hI.1 hx hA2 fun y hy => wX9_fromOne_139 ?_
          rw [tkv, if_neg (by omega), if_pos c2, ← hy] at h
          exact m_wr hc hI h
        · rw [ti_eq, e4] at c2
          rw [ti_eq, e5] at c3
          refine m_right hR hI.1 hx hA2 fun y hy => wX9_fromOne_139 ?_
          rw [tkv, if_neg (by omega), if_neg c2, ← hy] at h
          exact m_wr hc hI h
        · rw [ti_eq, e4] at c2
          rw [ti_eq, e5] at c3
          have c4 : r.toInt = 13 := by omega
          have hk : S.F 0 A = 2 := by
            rcases hfit with z | z
            · exact z.2.1
            · exact absurd c4 z.1
          obtain ⟨B, hB, hB2⟩ := hI.fl hA2 (by omega)
          refine m_left hR hI.1 hx hA2 fun y hy => m_left hR hI.1 (show y.toInt = B by rw [hy, hB]) (by omega) fun w hw => wX9_fromOne_139 ?_
          rw [tkv, if_pos c4, hB] at h
          have h : mG μ K T Q (wr S H r.toInt (S.F 1 B) a.toInt (-6) (-6)) := h
          rw [← hw] at h
          exact m_wr hc hI h
      · rw [cif_f (fun z => c1 z.1)] at h
        exact h _ μ rfl frM.rf hc
    refine wX9_fromOne_29 (m_lf hR hI.2.1 ha ha2 fun x hx => ?_)
    have hxA : x.toInt = A := by rw [hx, hA]
    refine xif_c (fun c1 => ?_) (fun c1 => ?_)
    · rw [ti_eq, e13] at c1
      refine m_kind hR hI.1 hxA hA2 fun y hy => xif_c (fun c2 => ?_) (fun c2 => wX9_fromOne_67 (J0 x ?_))
      · rw [ti_eq, hy, e2] at c2
        obtain ⟨B, hB, hB2⟩ := hI.fl hA2 (by omega)
        refine m_left hR hI.1 hxA hA2 fun w hw => m_kind hR hI.1 (show w.toInt = B by rw [hw, hB]) (by omega) fun v hv => xif_c (fun c3 => J1 x hxA (Or.inl ⟨c1, c2, ?_⟩)) (fun c3 => wX9_fromOne_67 (J0 x ?_))
        · rw [ti_eq, hv, e2] at c3
          rw [hB]; exact c3
        · rw [ti_eq, hv, e2] at c3
          rintro (z | z)
          · rw [hB] at z; exact c3 z.2.2
          · exact z.1 c1
      · rw [ti_eq, hy, e2] at c2
        rintro (z | z)
        · exact c2 z.2.1
        · exact z.1 c1
    · rw [ti_eq, e13] at c1
      refine m_kind hR hI.1 hxA hA2 fun y hy => xif_c (fun c2 => J1 x hxA (Or.inr ⟨c1, ?_⟩)) (fun c2 => J0 x ?_)
      · rw [ti_eq, hy, e3] at c2; exact c2
      · rw [ti_eq, hy, e3] at c2
        rintro (z | z)
        · exact c1 z.1
        · exact c2 z.2
  unfold sp_fromOne at h
  refine wX9_fromOne fun Z => m_isL hR (fun k h1 h2 => xif_f (by decide) ?_) fun z => xif_t rfl ?_
  · rw [cif_t ⟨by omega, by omega⟩] at h
    refine xif_c (fun c1 => J Z k h1 h2 ?_ ?_) (fun c1 => xif_c (fun c2 => J Z k h1 h2 ?_ ?_) (fun c2 => xif_c (fun c3 => J Z k h1 h2 ?_ ?_) (fun c3 => ?_)))
    · rw [ti_eq, e4] at c1; exact Or.inl c1
    · rw [ti_eq, e4] at c1; rw [cif_t (Or.inl c1)] at h; exact h
    · rw [ti_eq, e5] at c2; exact Or.inr (Or.inl c2)
    · rw [ti_eq, e5] at c2; rw [cif_t (Or.inr (Or.inl c2))] at h; exact h
    · rw [ti_eq, e13] at c3; exact Or.inr (Or.inr c3)
    · rw [ti_eq, e13] at c3; rw [cif_t (Or.inr (Or.inr c3))] at h; exact h
    · rw [ti_eq, e4] at c1; rw [ti_eq, e5] at c2; rw [ti_eq, e13] at c3
      rw [cif_f (by omega)] at h
      exact h _ μ rfl frM.rf hc
  · rw [cif_f z] at h
    exact h _ μ rfl frM.rf hc
theorem op_fromOne (r a : Int32) (ok : okO ((0 : Int), S, H, K, T)) : ∃ o : aO, cOp G mX8_fromOne [vI r, vI a] S H K T o ∧ mOp G mX9_fromOne [vI r, vI a] S H K T o ∧ okO o := by
  have hI : Inv S := ok.1
  refine opG (sp_fromOne S H r.toInt a.toInt) (fun hw => cif_i (P := okW) (fun h1 => cif_i (P := okW) (fun h2 => cif_i (P := okW) (fun h3 => ?_) fun _ => hw) fun _ => hw) fun _ => hw) ok (fun μ Q hc hI h => c_fromOne r a hc hI h) (fun μ Q hc hI h => m_fromOne r a hc hI h)
  obtain ⟨A, hA, hA2⟩ := hI.lf (l := a.toInt.toNat) (by have := h1.1; have := h1.2; omega)
  have hA' : (S.L 0 a.toInt.toNat).toNat = A := by omega
  rw [hA'] at h3 ⊢
  refine okW_wr hw ?_ (Or.inr (Or.inr (Or.inl ⟨by omega, h1, rfl, rfl⟩)))
  unfold tkv
  rcases h3.2 with z | z
  · rw [if_pos z.1]
    obtain ⟨B, hB, hB2⟩ := hI.fl hA2 (by omega)
    have z3 := z.2.2
    rw [hB] at z3 ⊢
    obtain ⟨C, hC, hC2⟩ := hI.fl (f := B) (by omega) (by have : S.F 0 B = 2 := z3; omega)
    show 0 ≤ S.F 1 B ∧ S.F 1 B < _
    omega
  · rw [if_neg z.1]
    obtain ⟨B, hB, hB2⟩ := hI.fl hA2 (by omega)
    obtain ⟨C, hC, hC2⟩ := hI.fr hA2 (by omega)
    split <;> omega
theorem disj_ok {x y : Int32} {A f : Nat} (hr : repF μ 0 S) (hI : Inv S) (hx : x.toInt = A) (hy : y.toInt = f) (hf : f < S.nf) (ht : S.F 0 f = 4 ∧ (S.F 1 f = A ∨ S.F 2 f = A) → Q (some (vI 1)) μ) (hn : ¬ (S.F 0 f = 4 ∧ (S.F 1 f = A ∨ S.F 2 f = A)) → Q (some (vI 0)) μ) : MW G (d + 3) mX2_isPartOfDisjunction [vR (2, 0, 0), vI x, vI y] μ Q := by
  have e4 : (4 : Int32).toInt = 4 := rfl
  refine wX2_isPartOfDisjunction (kind_ok hr hI.1 hy hf (fun c1 => xif_f (by decide) ?_) (fun c1 => xif_t rfl ⟨z01, hn fun z => c1 ?_⟩))
  · rw [e4] at c1
    refine c_F hr hI.1 (by omega) hy hf fun w hw => xif_c (fun c2 => ⟨z11, ht ⟨c1, Or.inl ?_⟩⟩) (fun c2 => c_F hr hI.1 (by omega) hy hf fun v hv => xif_c (fun c3 => ⟨z11, ht ⟨c1, Or.inr ?_⟩⟩) (fun c3 => ⟨z01, hn ?_⟩))
    · rw [ti_eq, hw, hx] at c2; exact c2
    · rw [ti_eq, hv, hx] at c3; exact c3
    · rw [ti_eq, hw, hx] at c2; rw [ti_eq, hv, hx] at c3
      rintro ⟨-, z | z⟩
      · exact c2 z
      · exact c3 z
  · rw [e4]; exact z.1
theorem c_toFormula (r a f : Int32) (hc : cS μ S H K T) (hI : Inv S) (h : cG μ K T Q (sp_toFormula S H r.toInt a.toInt f.toInt)) : MW G 8 mX8_toFormula [vR (8, 0, 0), vI r, vI a, vI f] μ Q := by
  have hP := hc.1.2
  have hF := hc.1.1
  have e1 : (1 : Int32).toInt = 1 := rfl
  have e6 : (6 : Int32).toInt = 6 := rfl
  have e12 : (12 : Int32).toInt = 12 := rfl
  have J : ∀ (Z : xZ) (i j : Nat), a.toInt = i → i < S.nl → f.toInt = j → j < S.nf → cG μ K T Q (sp_toF S H r.toInt a.toInt f.toInt) → WS G eX8_toFormula 8 Z Q 45 [vR (8, 0, 0), vI r, vI a, vI f, vN, vN] [] μ := by
    intro Z i j ha ha2 hf hf2 h
    unfold sp_toF at h
    have hi : a.toInt.toNat = i := by omega
    rw [hi] at h
    obtain ⟨A, hA, hA2⟩ := hI.lf ha2
    have hj : f.toInt.toNat = j := by omega
    have J0 : ¬ (avL S i ∧ fitsT S r.toInt (S.L 0 i) f.toInt) → Q (some (vI (-3))) μ := by
      intro hn
      rw [cif_f hn] at h
      exact h _ μ rfl frC.rf hc
    refine wX8_toFormula_45 (avL_ok hP hI ha ha2 (fun c1 => xif_f (by decide) ?_) (fun c1 => xif_t rfl (J0 fun z => c1 z.1)))
    have J1 : fitsT S r.toInt (S.L 0 i) f.toInt → WS G eX8_toFormula 8 Z Q 113 [vR (8, 0, 0), vI r, vI a, vI f, vN, vN] [vI 1] μ := by
      intro hfit
      rw [cif_t ⟨c1, hfit⟩] at h
      exact wX8_toFormula_113 (xif_f (by decide) (c_wr hc hI h))
    have J2 : ¬ fitsT S r.toInt (S.L 0 i) f.toInt → WS G eX8_toFormula 8 Z Q 113 [vR (8, 0, 0), vI r, vI a, vI f, vN, vN] [vI 0] μ := fun hfit => wX8_toFormula_113 (xif_t rfl (J0 fun z => hfit z.2))
    refine c_lf hP hI.2.1 ha ha2 fun x hx => xif_c (fun c2 => ?_) (fun c2 => ?_)
    · rw [ti_eq, e6] at c2
      refine disj_ok hF hI (show x.toInt = A by rw [hx, hA]) hf hf2 (fun c3 => J1 (Or.inl ⟨c2, ?_⟩)) (fun c3 => J2 ?_)
      · rw [hj, hA]; exact c3
      · rintro (z | z)
        · rw [hj, hA] at z; exact c3 z.2
        · exact z.1 c2
    · rw [ti_eq, e6] at c2
      refine kind_ok hF hI.1 (show x.toInt = A by rw [hx, hA]) hA2 (fun c3 => J1 (Or.inr ⟨c2, ?_⟩)) (fun c3 => J2 ?_)
      · rw [hA]; exact c3
      · rintro (z | z)
        · exact c2 z.1
        · rw [hA] at z; exact c3 z.2
  unfold sp_toFormula at h
  refine wX8_toFormula fun Z => hasL_ok hP (fun k h1 h2 => xif_f (by decide) (has_ok hF (fun k' h3 h4 => xif_f (by decide) ?_) fun z => xif_t rfl ?_)) fun z => xif_t rfl ?_
  · rw [cif_t ⟨by omega, by omega⟩, cif_t ⟨by omega, by omega⟩] at h
    refine xif_c (fun c1 => J Z k k' h1 h2 h3 h4 ?_) (fun c1 => xif_c (fun c2 => J Z k k' h1 h2 h3 h4 ?_) (fun c2 => ?_))
    · rw [ti_eq, e6] at c1; rw [cif_t (Or.inl c1)] at h; exact h
    · rw [ti_eq, e12] at c2; rw [cif_t (Or.inr c2)] at h; exact h
    · rw [ti_eq, e6] at c1; rw [ti_eq, e12] at c2
      rw [cif_f (by omega)] at h
      exact h _ μ rfl frC.rf hc
  · rw [cif_t ⟨by omega, by omega⟩, cif_f z] at h
    exact h _ μ rfl frC.rf hc
  · rw [cif_f z] at h
    exact h _ μ rfl frC.rf hc
theorem m_toFormula (r a f : Int32) (hc : mS μ S H K T) (hI : Inv S) (h : mG μ K T Q (sp_toFormula S H r.toInt a.toInt f.toInt)) : MW G 8 mX9_toFormula [vR (9, 0, 0), vI r, vI a, vI f] μ Q := by
  have hR := hc.1
  have e1 : (1 : Int32).toInt = 1 := rfl
  have e4 : (4 : Int32).toInt = 4 := rfl
  have e6 : (6 : Int32).toInt = 6 := rfl
  have e12 : (12 : Int32).toInt = 12 := rfl
  have J : ∀ (Z : xZ) (i j : Nat), a.toInt = i → i < S.nl → f.toInt = j → j < S.nf → (r.toInt = 6 ∨ r.toInt = 12) → mG μ K T Q (sp_toF S H r.toInt a.toInt f.toInt) → WS G eX9_toFormula 8 Z Q 33 [vR (9, 0, 0), vI r, vI a, vI f, vN, vN] [] μ := by
    intro Z i j ha ha2 hf hf2 hrr h
    unfold sp_toF at h
    have hi : a.toInt.toNat = i := by omega
    rw [hi] at h
    obtain ⟨A, hA, hA2⟩ := hI.lf ha2
    have hj : f.toInt.toNat = j := by omega
    have J1 : fitsT S r.toInt (S.L 0 i) f.toInt → WS G eX9_toFormula 8 Z Q 98 [vR (9, 0, 0), vI r, vI a, vI f, vN, vN] [vI 1] μ := by
      intro hfit
      refine wX9_toFormula_98 (xif_f (by decide) (m_avL hR hI ha ha2 (fun c1 => xif_f (by decide) ?_) (fun c1 => xif_t rfl ?_)))
      · rw [cif_t ⟨c1, hfit⟩] at h
        exact m_wr hc hI h
      · rw [cif_f fun z => c1 z.1] at h
        exact h _ μ rfl frM.rf hc
    have J2 : ¬ fitsT S r.toInt (S.L 0 i) f.toInt → WS G eX9_toFormula 8 Z Q 98 [vR (9, 0, 0), vI r, vI a, vI f, vN, vN] [vI 0] μ := by
      intro hfit
      rw [cif_f fun z => hfit z.2] at h
      exact wX9_toFormula_98 (xif_t rfl (h _ μ rfl frM.rf hc))
    refine wX9_toFormula_33 (m_lf hR hI.2.1 ha ha2 fun x hx => xif_c (fun c2 => ?_) (fun c2 => ?_))
    · rw [ti_eq, e12] at c2
      refine m_kind hR hI.1 (show x.toInt = A by rw [hx, hA]) hA2 fun y hy => xif_c (fun c3 => J1 (Or.inr ⟨by omega, ?_⟩)) (fun c3 => J2 ?_)
      · rw [ti_eq, hy, e1] at c3
        rw [hA]; exact c3
      · rw [ti_eq, hy, e1] at c3
        rintro (z | z)
        · omega
        · rw [hA] at z; exact c3 z.2
    · rw [ti_eq, e12] at c2
      have c6 : r.toInt = 6 := by omega
      refine m_kind hR hI.1 hf hf2 fun y hy => xif_c (fun c3 => ?_) (fun c3 => wX9_toFormula_97 (J2 ?_))
      · rw [ti_eq, hy, e4] at c3
        refine m_left hR hI.1 hf hf2 fun w hw => xif_c (fun c4 => wX9_toFormula_93 (J1 (Or.inl ⟨c6, ?_⟩))) (fun c4 => m_right hR hI.1 hf hf2 fun v hv => xif_c (fun c5 => wX9_toFormula_93 (J1 (Or.inl ⟨c6, ?_⟩))) (fun c5 => wX9_toFormula_97 (J2 ?_)))
        · rw [ti_eq, hw, hx] at c4
          rw [hj]; exact ⟨c3, Or.inl c4⟩
        · rw [ti_eq, hv, hx] at c5
          rw [hj]; exact ⟨c3, Or.inr c5⟩
        · rw [ti_eq, hw, hx] at c4
          rw [ti_eq, hv, hx] at c5
          rintro (⟨-, -, z | z⟩ | z)
          · rw [hj] at z; exact c4 z
          · rw [hj] at z; exact c5 z
          · exact z.1 c6
      · rw [ti_eq, hy, e4] at c3
        rintro (z | z)
        · rw [hj] at z; exact c3 z.2.1
        · exact z.1 c6
  unfold sp_toFormula at h
  refine wX9_toFormula fun Z => m_isL hR (fun k h1 h2 => xif_f (by decide) (m_isF hR (fun k' h3 h4 => xif_f (by decide) ?_) fun z => xif_t rfl ?_)) fun z => xif_t rfl ?_
  · rw [cif_t ⟨by omega, by omega⟩, cif_t ⟨by omega, by omega⟩] at h
    refine xif_c (fun c1 => J Z k k' h1 h2 h3 h4 ?_ ?_) (fun c1 => xif_c (fun c2 => J Z k k' h1 h2 h3 h4 ?_ ?_) (fun c2 => ?_))
    · rw [ti_eq, e6] at c1; exact Or.inl c1
    · rw [ti_eq, e6] at c1; rw [cif_t (Or.inl c1)] at h; exact h
    · rw [ti_eq, e12] at c2; exact Or.inr c2
    · rw [ti_eq, e12] at c2; rw [cif_t (Or.inr c2)] at h; exact h
    · rw [ti_eq, e6] at c1; rw [ti_eq, e12] at c2
      rw [cif_f (by omega)] at h
      exact h _ μ rfl frM.rf hc
  · rw [cif_t ⟨by omega, by omega⟩, cif_f z] at h
    exact h _ μ rfl frM.rf hc
  · rw [cif_f z] at h
    exact h _ μ rfl frM.rf hc
theorem op_toFormula (r a f : Int32) (ok : okO ((0 : Int), S, H, K, T)) : ∃ o : aO, cOp G mX8_toFormula [vI r, vI a, vI f] S H K T o ∧ mOp G mX9_toFormula [vI r, vI a, vI f] S H K T o ∧ okO o := by
  refine opG (sp_toFormula S H r.toInt a.toInt f.toInt) (fun hw => cif_i (P := okW) (fun h1 => cif_i (P := okW) (fun h2 => cif_i (P := okW) (fun h3 => cif_i (P := okW) (fun h4 => ?_) fun _ => hw) fun _ => hw) fun _ => hw) fun _ => hw) ok (fun μ Q hc hI h => c_toFormula r a f hc hI h) (fun μ Q hc hI h => m_toFormula r a f hc hI h)
  exact okW_wr hw h2 (Or.inr (Or.inr (Or.inl ⟨by omega, h1, rfl, rfl⟩)))
end
end
section
/-! fromBox, cases: both sides -/
section
variable {G : xG} {d : Nat} {μ : xM} {Q : xP} {S : aS} {H : List aS} {K : Option aS} {T : aT}
theorem asm_ok {b : Int32} {k : Nat} (hr : repP μ 0 S) (hI : Inv S) (hb : b.toInt = k) (hk : k < S.nb) (h : ∀ x : Int32, x.toInt = asm S k → Q (some (vI x)) μ) : MW G (d + 2) mX4_assumptionOf [vR (3, 0, 0), vI b] μ Q := by
  obtain ⟨l, hl, hl2⟩ := hI.bs hk
  refine wX4_assumptionOf (c_st hr hI.bd.2.2 hb hk fun x hx => c_lf hr hI.2.1 (show x.toInt = l by rw [hx, hl]) hl2 fun y hy => h y ?_)
  rw [hy, asm, hl]; rfl
theorem con_ok {b : Int32} {k : Nat} (hr : repP μ 0 S) (hI : Inv S) (hb : b.toInt = k) (hk : k < S.nb) (hc : ¬ S.B 1 k = -6) (h : ∀ x : Int32, x.toInt = con S k → Q (some (vI x)) μ) : MW G (d + 2) mX4_conclusionOf [vR (3, 0, 0), vI b] μ Q := by
  obtain ⟨l, hl, hl2⟩ := hI.be hk hc
  refine wX4_conclusionOf (c_en hr hI.bd.2.2 hb hk fun x hx => c_lf hr hI.2.1 (show x.toInt = l by rw [hx, hl]) hl2 fun y hy => h y ?_)
  rw [hy, con, hl]; rfl
theorem m_asm {D : xP} {b : Int32} {k : Nat} (hr : repR (μ (1, 0, 20)) S) (hI : Inv S) (hb : b.toInt = k) (hk : k < S.nb) (h : ∀ y : Int32, y.toInt = asm S k → Q (some (vI y)) μ) : MW G (d + 1) mX9_opens [vR (9, 0, 0), vI b] μ (xrI fun x4 μ3 => MW G (d + 1) mX9_formulaOf [vR (9, 0, 0), vI x4] μ3 Q) := by
  obtain ⟨l, hl, hl2⟩ := hI.bs hk
  refine m_st hr hI.bd.2.2 hb hk fun x hx => m_lf hr hI.2.1 (show x.toInt = l by rw [hx, hl]) hl2 fun y hy => h y ?_
  rw [hy, asm, hl]; rfl
theorem m_con {D : xP} {b : Int32} {k : Nat} (hr : repR (μ (1, 0, 20)) S) (hI : Inv S) (hb : b.toInt = k) (hk : k < S.nb) (hc : ¬ S.B 1 k = -6) (h : ∀ y : Int32, y.toInt = con S k → Q (some (vI y)) μ) : MW G (d + 1) mX9_ends [vR (9, 0, 0), vI b] μ (xrI fun x4 μ3 => MW G (d + 1) mX9_formulaOf [vR (9, 0, 0), vI x4] μ3 Q) := by
  obtain ⟨l, hl, hl2⟩ := hI.be hk hc
  refine m_en hr hI.bd.2.2 hb hk fun x hx => m_lf hr hI.2.1 (show x.toInt = l by rw [hx, hl]) hl2 fun y hy => h y ?_
  rw [hy, con, hl]; rfl
theorem Inv.asmF {S : aS} (hI : Inv S) {k : Nat} (hk : k < S.nb) : ∃ A : Nat, asm S k = A ∧ A < S.nf := by
  obtain ⟨l, hl, hl2⟩ := hI.bs hk
  obtain ⟨A, hA, hA2⟩ := hI.lf hl2
  exact ⟨A, by rw [asm, hl]; exact hA, hA2⟩
theorem Inv.conF {S : aS} (hI : Inv S) {k : Nat} (hk : k < S.nb) (hc : ¬ S.B 1 k = -6) : ∃ A : Nat, con S k = A ∧ A < S.nf := by
  obtain ⟨l, hl, hl2⟩ := hI.be hk hc
  obtain ⟨A, hA, hA2⟩ := hI.lf hl2
  exact ⟨A, by rw [con, hl]; exact hA, hA2⟩
theorem c_fromBox (r b : Int32) (hc : cS μ S H K T) (hI : Inv S) (h : cG μ K T Q (sp_fromBox S H r.toInt b.toInt)) : MW G 8 mX8_fromBox [vR (8, 0, 0), vI r, vI b] μ Q := by
  have hP := hc.1.2
  have hF := hc.1.1
  have e8 : (8 : Int32).toInt = 8 := rfl
  have e10 : (10 : Int32).toInt = 10 := rfl
  have J : ∀ (Z : xZ) (i : Nat), b.toInt = i → i < S.nb → cG μ K T Q (sp_box S H r.toInt b.toInt) → WS G eX8_fromBox 8 Z Q 31 [vR (8, 0, 0), vI r, vI b, vN, vN] [] μ := by
    intro Z i hb hb2 h
    unfold sp_box at h
    have hi : b.toInt.toNat = i := by omega
    rw [hi] at h
    refine wX8_fromBox_31 (avB_ok hP hI hb hb2 (fun c1 => xif_f (by decide) ?_) (fun c1 => xif_t rfl ?_))
    · rw [cif_t c1] at h
      obtain ⟨A, hA, hA2⟩ := hI.asmF hb2
      obtain ⟨C, hC, hC2⟩ := hI.conF hb2 c1.1
      refine asm_ok hP hI hb hb2 fun x hx => con_ok hP hI hb hb2 c1.1 fun y hy => xif_c (fun c2 => ?_) (fun c2 => ?_)
      · rw [ti_eq, e8] at c2
        rw [cif_t c2, ← hx, ← hy] at h
        exact c_wm hc hI h
      · rw [ti_eq, e8] at c2
        rw [cif_f c2] at h
        have hCn : (con S i).toNat = C := by omega
        rw [hCn] at h
        refine kind_ok hF hI.1 (show y.toInt = C by rw [hy, hC]) hC2 (fun c3 => xif_f (by decide) ?_) (fun c3 => xif_t rfl ?_)
        · rw [ti_lit1] at c3
          rw [cif_t c3, ← hx] at h
          exact c_wm hc hI h
        · rw [ti_lit1] at c3
          rw [cif_f c3] at h
          exact h _ μ rfl frC.rf hc
    · rw [cif_f c1] at h
      exact h _ μ rfl frC.rf hc
  unfold sp_fromBox at h
  refine wX8_fromBox fun Z => hasB_ok hP (fun k h1 h2 => xif_f (by decide) ?_) fun z => xif_t rfl ?_
  · rw [cif_t ⟨by omega, by omega⟩] at h
    refine xif_c (fun c1 => J Z k h1 h2 ?_) (fun c1 => xif_c (fun c2 => J Z k h1 h2 ?_) (fun c2 => ?_))
    · rw [ti_eq, e8] at c1; rw [cif_t (Or.inl c1)] at h; exact h
    · rw [ti_eq, e10] at c2; rw [cif_t (Or.inr c2)] at h; exact h
    · rw [ti_eq, e8] at c1; rw [ti_eq, e10] at c2
      rw [cif_f (by omega)] at h
      exact h _ μ rfl frC.rf hc
  · rw [cif_f z] at h
    exact h _ μ rfl frC.rf hc
theorem m_fromBox (r b : Int32) (hc : mS μ S H K T) (hI : Inv S) (h : mG μ K T Q (sp_fromBox S H r.toInt b.toInt)) : MW G 8 mX9_fromBox [vR (9, 0, 0), vI r, vI b] μ Q := by
  have hR := hc.1
  have e1 : (1 : Int32).toInt = 1 := rfl
  have e8 : (8 : Int32).toInt = 8 := rfl
  have e10 : (10 : Int32).toInt = 10 := rfl
  have J : ∀ (Z : xZ) (i : Nat), b.toInt = i → i < S.nb → mG μ K T Q (sp_box S H r.toInt b.toInt) → WS G eX9_fromBox 8 Z Q 25 [vR (9, 0, 0), vI r, vI b, vN, vN] [] μ := by
    intro Z i hb hb2 h
    unfold sp_box at h
    have hi : b.toInt.toNat = i := by omega
    rw [hi] at h
    refine wX9_fromBox_25 (m_avB hR hI hb hb2 (fun c1 => xif_f (by decide) ?_) (fun c1 => xif_t rfl ?_))
    · rw [cif_t c1] at h
      obtain ⟨A, hA, hA2⟩ := hI.asmF hb2
      obtain ⟨C, hC, hC2⟩ := hI.conF hb2 c1.1
      obtain ⟨l1', hl1, hl2⟩ := hI.bs hb2
      obtain ⟨l2', hl3, hl4⟩ := hI.be hb2 c1.1
      refine m_st hR hI.bd.2.2 hb hb2 fun u hu => m_lf hR hI.2.1 (show u.toInt = l1' by rw [hu, hl1]) hl2 fun x hx => m_en hR hI.bd.2.2 hb hb2 fun v hv => m_lf hR hI.2.1 (show v.toInt = l2' by rw [hv, hl3]) hl4 fun y hy => ?_
      have hx : x.toInt = asm S i := by rw [hx, asm, hl1]; rfl
      have hy : y.toInt = con S i := by rw [hy, con, hl3]; rfl
      refine xif_c (fun c2 => ?_) (fun c2 => ?_)
      · rw [ti_eq, e8] at c2
        rw [cif_t c2, ← hx, ← hy] at h
        exact m_wm hc hI (fun _ => okF_n (Or.inr (Or.inr (Or.inr ⟨by decide, by decide, by omega, by omega, by omega, by omega⟩)))) h
      · rw [ti_eq, e8] at c2
        rw [cif_f c2] at h
        have hCn : (con S i).toNat = C := by omega
        rw [hCn] at h
        refine m_kind hR hI.1 (show y.toInt = C by rw [hy, hC]) hC2 fun w hw => xif_c (fun c3 => ?_) (fun c3 => ?_)
        · rw [ti_eq, hw, e1] at c3
          rw [cif_t c3, ← hx] at h
          exact m_wm hc hI (fun _ => okF_n (Or.inr (Or.inr (Or.inl ⟨rfl, by omega, by omega, rfl⟩)))) h
        · rw [ti_eq, hw, e1] at c3
          rw [cif_f c3] at h
          exact h _ μ rfl frM.rf hc
    · rw [cif_f c1] at h
      exact h _ μ rfl frM.rf hc
  unfold sp_fromBox at h
  refine wX9_fromBox fun Z => m_isB hR (fun k h1 h2 => xif_f (by decide) ?_) fun z => xif_t rfl ?_
  · rw [cif_t ⟨by omega, by omega⟩] at h
    refine xif_c (fun c1 => J Z k h1 h2 ?_) (fun c1 => xif_c (fun c2 => J Z k h1 h2 ?_) (fun c2 => ?_))
    · rw [ti_eq, e8] at c1; rw [cif_t (Or.inl c1)] at h; exact h
    · rw [ti_eq, e10] at c2; rw [cif_t (Or.inr c2)] at h; exact h
    · rw [ti_eq, e8] at c1; rw [ti_eq, e10] at c2
      rw [cif_f (by omega)] at h
      exact h _ μ rfl frM.rf hc
  · rw [cif_f z] at h
    exact h _ μ rfl frM.rf hc
theorem Inv.okBR {S : aS} (h : Inv S) {x : Int} (hx : vB S x) (hc : avB S x.toNat) : okBR S S.nl x := by
  have hk : x.toNat < S.nb := by have := hx.1; have := hx.2; omega
  obtain ⟨l, hl, hl2⟩ := h.be hk hc.1
  exact ⟨hx.1, hx.2, by omega, by omega⟩
theorem op_fromBox (r b : Int32) (ok : okO ((0 : Int), S, H, K, T)) : ∃ o : aO, cOp G mX8_fromBox [vI r, vI b] S H K T o ∧ mOp G mX9_fromBox [vI r, vI b] S H K T o ∧ okO o := by
  have hI : Inv S := ok.1
  refine opG (sp_fromBox S H r.toInt b.toInt) (fun hw => cif_i (P := okW) (fun h1 => cif_i (P := okW) (fun h2 => cif_i (P := okW) (fun h3 => cif_i (P := okW) (fun h4 => ?_) fun h4 => cif_i (P := okW) (fun h5 => ?_) fun _ => hw) fun _ => hw) fun _ => hw) fun _ => hw) ok (fun μ Q hc hI h => c_fromBox r b hc hI h) (fun μ Q hc hI h => m_fromBox r b hc hI h)
  all_goals
    have hk : b.toInt.toNat < S.nb := by have := h1.1; have := h1.2; omega
    obtain ⟨A, hA, hA2⟩ := hI.asmF hk
    obtain ⟨C, hC, hC2⟩ := hI.conF hk h3.1
  · exact okW_wm hw (fun _ => okF_n (Or.inr (Or.inr (Or.inr ⟨by decide, by decide, by omega, by omega, by omega, by omega⟩)))) (Or.inr (Or.inr (Or.inr (Or.inr ⟨Or.inl rfl, hI.okBR h1 h3, rfl, rfl⟩))))
  · exact okW_wm hw (fun _ => okF_n (Or.inr (Or.inr (Or.inl ⟨rfl, by omega, by omega, rfl⟩)))) (Or.inr (Or.inr (Or.inr (Or.inr ⟨Or.inr rfl, hI.okBR h1 h3, rfl, rfl⟩))))
theorem c_cases (l a b : Int32) (hc : cS μ S H K T) (hI : Inv S) (h : cG μ K T Q (sp_cases S H l.toInt a.toInt b.toInt)) : MW G 8 mX8_cases [vR (8, 0, 0), vI l, vI a, vI b] μ Q := by
  have hP := hc.1.2
  have hF := hc.1.1
  have e4 : (4 : Int32).toInt = 4 := rfl
  unfold sp_cases at h
  refine wX8_cases fun Z => hasL_ok hP (fun i h1 h2 => xif_f (by decide) (hasB_ok hP (fun p h3 h4 => xif_f (by decide) (hasB_ok hP (fun q h5 h6 => xif_f (by decide) ?_) fun z => xif_t rfl ?_)) fun z => xif_t rfl ?_)) fun z => xif_t rfl ?_
  · rw [cif_t ⟨by omega, by omega⟩, cif_t ⟨by omega, by omega⟩, cif_t ⟨by omega, by omega⟩] at h
    have hi : l.toInt.toNat = i := by omega
    have hp : a.toInt.toNat = p := by omega
    have hq : b.toInt.toNat = q := by omega
    rw [hi, hp, hq] at h
    obtain ⟨A, hA, hA2⟩ := hI.lf h2
    have hA' : (S.L 0 i).toNat = A := by omega
    rw [hA'] at h
    have J0 : ¬ (avL S i ∧ avB S p ∧ avB S q ∧ fitsC S A p q) → Q (some (vI (-3))) μ := by
      intro hn
      rw [cif_f hn] at h
      exact h _ μ rfl frC.rf hc
    refine avL_ok hP hI h1 h2 (fun c1 => xif_f (by decide) (avB_ok hP hI h3 h4 (fun c2 => xif_f (by decide) (avB_ok hP hI h5 h6 (fun c3 => xif_f (by decide) ?_) fun z => xif_t rfl (J0 fun y => z y.2.2.1))) fun z => xif_t rfl (J0 fun y => z y.2.1))) fun z => xif_t rfl (J0 fun y => z y.1)
    refine c_lf hP hI.2.1 h1 h2 fun x hx => con_ok hP hI h3 h4 c2.1 fun y hy => ?_
    have J1 : ¬ fitsC S A p q → WS G eX8_cases 8 Z Q 212 [vR (8, 0, 0), vI l, vI a, vI b, vN, vI y, vN] [] μ := fun hn => wX8_cases_212 (wX8_cases_213 (xif_t rfl (J0 fun z => hn z.2.2.2)))
    refine kind_ok hF hI.1 (show x.toInt = A by rw [hx, hA]) hA2 (fun c4 => xif_f (by decide) ?_) (fun c4 => xif_t rfl (J1 fun z => c4 z.1))
    rw [e4] at c4
    refine c_F hF hI.1 (by omega) (show x.toInt = A by rw [hx, hA]) hA2 fun w hw => asm_ok hP hI h3 h4 fun v hv => xif_c (fun c5 => ?_) (fun c5 => J1 fun z => c5 ?_)
    · rw [ti_eq, hw, hv] at c5
      refine c_F hF hI.1 (by omega) (show x.toInt = A by rw [hx, hA]) hA2 fun w2 hw2 => asm_ok hP hI h5 h6 fun v2 hv2 => xif_c (fun c6 => ?_) (fun c6 => J1 fun z => c6 ?_)
      · rw [ti_eq, hw2, hv2] at c6
        refine con_ok hP hI h5 h6 c3.1 fun u hu => xif_c (fun c7 => ?_) (fun c7 => J1 fun z => c7 ?_)
        · rw [ti_eq, hy, hu] at c7
          rw [cif_t ⟨c1, c2, c3, c4, c5, c6, c7⟩, ← hy] at h
          exact wX8_cases_213 (xif_f (by decide) (c_wr hc hI h))
        · rw [ti_eq, hy, hu]; exact z.2.2.2
      · rw [ti_eq, hw2, hv2]; exact z.2.2.1
    · rw [ti_eq, hw, hv]; exact z.2.1
  · rw [cif_t ⟨by omega, by omega⟩, cif_t ⟨by omega, by omega⟩, cif_f z] at h
    exact h _ μ rfl frC.rf hc
  · rw [cif_t ⟨by omega, by omega⟩, cif_f z] at h
    exact h _ μ rfl frC.rf hc
  · rw [cif_f z] at h
    exact h _ μ rfl frC.rf hc
theorem m_cases (l a b : Int32) (hc : mS μ S H K T) (hI : Inv S) (h : mG μ K T Q (sp_cases S H l.toInt a.toInt b.toInt)) : MW G 8 mX9_cases [vR (9, 0, 0), vI l, vI a, vI b] μ Q := by
  have hR := hc.1
  have hbd := hI.bd.2.2
  have e4 : (4 : Int32).toInt = 4 := rfl
  unfold sp_cases at h
  refine wX9_cases fun Z => m_isL hR (fun i h1 h2 => xif_f (by decide) (m_isB hR (fun p h3 h4 => xif_f (by decide) (m_isB hR (fun q h5 h6 => xif_f (by decide) ?_) fun z => xif_t rfl ?_)) fun z => xif_t rfl ?_)) fun z => xif_t rfl ?_
  · rw [cif_t ⟨by omega, by omega⟩, cif_t ⟨by omega, by omega⟩, cif_t ⟨by omega, by omega⟩] at h
    have hi : l.toInt.toNat = i := by omega
    have hp : a.toInt.toNat = p := by omega
    have hq : b.toInt.toNat = q := by omega
    rw [hi, hp, hq] at h
    obtain ⟨A, hA, hA2⟩ := hI.lf h2
    have hA' : (S.L 0 i).toNat = A := by omega
    rw [hA'] at h
    have J0 : ¬ (avL S i ∧ avB S p ∧ avB S q ∧ fitsC S A p q) → Q (some (vI (-3))) μ := by
      intro hn
      rw [cif_f hn] at h
      exact h _ μ rfl frM.rf hc
    have J1 : ¬ fitsC S A p q → WS G eX9_cases 8 Z Q 131 [vR (9, 0, 0), vI l, vI a, vI b, vN, vN] [] μ := fun hn => wX9_cases_131 (wX9_cases_132 (xif_t rfl (J0 fun z => hn z.2.2.2)))
    refine m_lf hR hI.2.1 h1 h2 fun x hx => m_avL hR hI h1 h2 (fun c1 => xif_f (by decide) (m_avB hR hI h3 h4 (fun c2 => xif_f (by decide) (m_avB hR hI h5 h6 (fun c3 => xif_f (by decide) ?_) fun z => xif_t rfl (J0 fun y => z y.2.2.1))) fun z => xif_t rfl (J0 fun y => z y.2.1))) fun z => xif_t rfl (J0 fun y => z y.1)
    have hxA : x.toInt = A := by rw [hx, hA]
    obtain ⟨p1, hp1, hp2⟩ := hI.bs h4
    obtain ⟨p3, hp3, hp4⟩ := hI.be h4 c2.1
    obtain ⟨q1, hq1, hq2⟩ := hI.bs h6
    obtain ⟨q3, hq3, hq4⟩ := hI.be h6 c3.1
    refine m_kind hR hI.1 hxA hA2 fun w hw => xif_c (fun c4 => ?_) (fun c4 => J0 fun z => c4 ?_)
    · rw [ti_eq, hw, e4] at c4
      refine m_st hR hbd h3 h4 fun u1 hu1 => m_lf hR hI.2.1 (show u1.toInt = p1 by rw [hu1, hp1]) hp2 fun v1 hv1 => m_left hR hI.1 hxA hA2 fun w1 hw1 => ?_
      have hv1 : v1.toInt = asm S p := by rw [hv1, asm, hp1]; rfl
      refine xif_c (fun c5 => ?_) (fun c5 => J1 fun z => c5 ?_)
      · rw [ti_eq, hw1, hv1] at c5
        refine m_st hR hbd h5 h6 fun u2 hu2 => m_lf hR hI.2.1 (show u2.toInt = q1 by rw [hu2, hq1]) hq2 fun v2 hv2 => m_right hR hI.1 hxA hA2 fun w2 hw2 => ?_
        have hv2 : v2.toInt = asm S q := by rw [hv2, asm, hq1]; rfl
        refine xif_c (fun c6 => ?_) (fun c6 => J1 fun z => c6 ?_)
        · rw [ti_eq, hw2, hv2] at c6
          refine m_en hR hbd h3 h4 fun u3 hu3 => m_lf hR hI.2.1 (show u3.toInt = p3 by rw [hu3, hp3]) hp4 fun v3 hv3 => m_en hR hbd h5 h6 fun u4 hu4 => m_lf hR hI.2.1 (show u4.toInt = q3 by rw [hu4, hq3]) hq4 fun v4 hv4 => ?_
          have hv3 : v3.toInt = con S p := by rw [hv3, con, hp3]; rfl
          have hv4 : v4.toInt = con S q := by rw [hv4, con, hq3]; rfl
          refine xif_c (fun c7 => ?_) (fun c7 => J1 fun z => c7 ?_)
          · rw [ti_eq, hv3, hv4] at c7
            refine wX9_cases_132 (xif_f (by decide) (m_en hR hbd h3 h4 fun u5 hu5 => m_lf hR hI.2.1 (show u5.toInt = p3 by rw [hu5, hp3]) hp4 fun v5 hv5 => ?_))
            have hv5 : v5.toInt = con S p := by rw [hv5, con, hp3]; rfl
            rw [cif_t ⟨c1, c2, c3, c4, c5.symm, c6.symm, c7⟩, ← hv5] at h
            exact m_wr hc hI h
          · rw [ti_eq, hv3, hv4]; exact z.2.2.2
        · rw [ti_eq, hw2, hv2]; exact z.2.2.1.symm
      · rw [ti_eq, hw1, hv1]; exact z.2.1.symm
    · rw [ti_eq, hw]; exact z.2.2.2.1
  · rw [cif_t ⟨by omega, by omega⟩, cif_t ⟨by omega, by omega⟩, cif_f z] at h
    exact h _ μ rfl frM.rf hc
  · rw [cif_t ⟨by omega, by omega⟩, cif_f z] at h
    exact h _ μ rfl frM.rf hc
  · rw [cif_f z] at h
    exact h _ μ rfl frM.rf hc
theorem op_cases (l a b : Int32) (ok : okO ((0 : Int), S, H, K, T)) : ∃ o : aO, cOp G mX8_cases [vI l, vI a, vI b] S H K T o ∧ mOp G mX9_cases [vI l, vI a, vI b] S H K T o ∧ okO o := by
  have hI : Inv S := ok.1
  refine opG (sp_cases S H l.toInt a.toInt b.toInt) (fun hw => cif_i (P := okW) (fun h1 => cif_i (P := okW) (fun h2 => cif_i (P := okW) (fun h3 => cif_i (P := okW) (fun h4 => ?_) fun _ => hw) fun _ => hw) fun _ => hw) fun _ => hw) ok (fun μ Q hc hI h => c_cases l a b hc hI h) (fun μ Q hc hI h => m_cases l a b hc hI h)
  obtain ⟨A, hA, hA2⟩ := hI.conF (k := a.toInt.toNat) (by have := h2.1; have := h2.2; omega) h4.2.1.1
  exact okW_wr hw (by omega) (Or.inr (Or.inr (Or.inr (Or.inl ⟨rfl, h1, hI.okBR h2 h4.2.1, hI.okBR h3 h4.2.2.1⟩))))
end
end
